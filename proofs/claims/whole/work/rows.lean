section
-- ===== PART A: goes FIRST, ahead of the names: the tables' words, and 'selects' of the private methods out of them =====
/-- a private method of a class that the tables say can be made, by its rows of tables_1 -/
def lw_okq (q : MethodName × Nat) : Prop := (q.1.cls ≠ "java/lang/invoke/MethodHandle" ∧ q.1.cls ≠ "java/lang/invoke/VarHandle") ∧ Cond.instantiable q.1.cls q.2 ∈ tables_1 ∧ Cond.privateMethod q.1 ∈ tables_1 ∧ Cond.instanceMethod q.1 ∈ tables_1
theorem lw_p0 : lw_okq (⟨"BreadString", "textOf", "(I)LBreadString$Text;"⟩, 15) := ⟨⟨by decide +kernel, by decide +kernel⟩, List.mem_of_getElem? (i := 13) (by decide +kernel), List.mem_of_getElem? (i := 300) (by decide +kernel), List.mem_of_getElem? (i := 301) (by decide +kernel)⟩
theorem lw_p1 : lw_okq (⟨"BreadString", "reread", "(I)I"⟩, 15) := ⟨⟨by decide +kernel, by decide +kernel⟩, List.mem_of_getElem? (i := 13) (by decide +kernel), List.mem_of_getElem? (i := 308) (by decide +kernel), List.mem_of_getElem? (i := 309) (by decide +kernel)⟩
theorem lw_p2 : lw_okq (⟨"BreadString$Tower", "takeFloors", "(LBreadString$Text;)I"⟩, 13) := ⟨⟨by decide +kernel, by decide +kernel⟩, List.mem_of_getElem? (i := 38) (by decide +kernel), List.mem_of_getElem? (i := 316) (by decide +kernel), List.mem_of_getElem? (i := 317) (by decide +kernel)⟩
theorem lw_p3 : lw_okq (⟨"BreadString$Tower", "takeBaskets", "(LBreadString$Text;)I"⟩, 13) := ⟨⟨by decide +kernel, by decide +kernel⟩, List.mem_of_getElem? (i := 38) (by decide +kernel), List.mem_of_getElem? (i := 333) (by decide +kernel), List.mem_of_getElem? (i := 334) (by decide +kernel)⟩
theorem lw_p4 : lw_okq (⟨"BreadString$Tower", "basketTakes", "(II)Z"⟩, 13) := ⟨⟨by decide +kernel, by decide +kernel⟩, List.mem_of_getElem? (i := 38) (by decide +kernel), List.mem_of_getElem? (i := 337) (by decide +kernel), List.mem_of_getElem? (i := 338) (by decide +kernel)⟩
theorem lw_p5 : lw_okq (⟨"BreadString$Tower", "keepBasketByte", "(II)V"⟩, 13) := ⟨⟨by decide +kernel, by decide +kernel⟩, List.mem_of_getElem? (i := 38) (by decide +kernel), List.mem_of_getElem? (i := 341) (by decide +kernel), List.mem_of_getElem? (i := 342) (by decide +kernel)⟩
theorem lw_p6 : lw_okq (⟨"BreadString", "isFloor", "(I)Z"⟩, 15) := ⟨⟨by decide +kernel, by decide +kernel⟩, List.mem_of_getElem? (i := 13) (by decide +kernel), List.mem_of_getElem? (i := 361) (by decide +kernel), List.mem_of_getElem? (i := 362) (by decide +kernel)⟩
theorem lw_p7 : lw_okq (⟨"BreadString", "isBasket", "(I)Z"⟩, 15) := ⟨⟨by decide +kernel, by decide +kernel⟩, List.mem_of_getElem? (i := 13) (by decide +kernel), List.mem_of_getElem? (i := 369) (by decide +kernel), List.mem_of_getElem? (i := 370) (by decide +kernel)⟩
theorem lw_p8 : lw_okq (⟨"BreadString", "found", "(I)I"⟩, 15) := ⟨⟨by decide +kernel, by decide +kernel⟩, List.mem_of_getElem? (i := 13) (by decide +kernel), List.mem_of_getElem? (i := 414) (by decide +kernel), List.mem_of_getElem? (i := 415) (by decide +kernel)⟩
theorem lw_p9 : lw_okq (⟨"BreadString$Trip", "begin", "()V"⟩, 18) := ⟨⟨by decide +kernel, by decide +kernel⟩, List.mem_of_getElem? (i := 108) (by decide +kernel), List.mem_of_getElem? (i := 438) (by decide +kernel), List.mem_of_getElem? (i := 439) (by decide +kernel)⟩
theorem lw_p10 : lw_okq (⟨"BreadString$Trip", "arrive", "(I)V"⟩, 18) := ⟨⟨by decide +kernel, by decide +kernel⟩, List.mem_of_getElem? (i := 108) (by decide +kernel), List.mem_of_getElem? (i := 445) (by decide +kernel), List.mem_of_getElem? (i := 446) (by decide +kernel)⟩
theorem lw_p11 : lw_okq (⟨"BreadString$Trip", "serve", "(I)V"⟩, 18) := ⟨⟨by decide +kernel, by decide +kernel⟩, List.mem_of_getElem? (i := 108) (by decide +kernel), List.mem_of_getElem? (i := 449) (by decide +kernel), List.mem_of_getElem? (i := 450) (by decide +kernel)⟩
theorem lw_p12 : lw_okq (⟨"BreadString$Trip", "wantsBite", "(II)Z"⟩, 18) := ⟨⟨by decide +kernel, by decide +kernel⟩, List.mem_of_getElem? (i := 108) (by decide +kernel), List.mem_of_getElem? (i := 453) (by decide +kernel), List.mem_of_getElem? (i := 454) (by decide +kernel)⟩
theorem lw_p13 : lw_okq (⟨"BreadString$Trip", "bite", "(III)V"⟩, 18) := ⟨⟨by decide +kernel, by decide +kernel⟩, List.mem_of_getElem? (i := 108) (by decide +kernel), List.mem_of_getElem? (i := 457) (by decide +kernel), List.mem_of_getElem? (i := 458) (by decide +kernel)⟩
theorem lw_p14 : lw_okq (⟨"BreadString$Trip", "climb", "(I)V"⟩, 18) := ⟨⟨by decide +kernel, by decide +kernel⟩, List.mem_of_getElem? (i := 108) (by decide +kernel), List.mem_of_getElem? (i := 461) (by decide +kernel), List.mem_of_getElem? (i := 462) (by decide +kernel)⟩
theorem lw_p15 : lw_okq (⟨"BreadString$Trip", "leave", "(II)V"⟩, 18) := ⟨⟨by decide +kernel, by decide +kernel⟩, List.mem_of_getElem? (i := 108) (by decide +kernel), List.mem_of_getElem? (i := 465) (by decide +kernel), List.mem_of_getElem? (i := 466) (by decide +kernel)⟩
def lw_privs_1 : List (MethodName × Nat) := [(⟨"BreadString", "textOf", "(I)LBreadString$Text;"⟩, 15), (⟨"BreadString", "reread", "(I)I"⟩, 15), (⟨"BreadString$Tower", "takeFloors", "(LBreadString$Text;)I"⟩, 13), (⟨"BreadString$Tower", "takeBaskets", "(LBreadString$Text;)I"⟩, 13), (⟨"BreadString$Tower", "basketTakes", "(II)Z"⟩, 13), (⟨"BreadString$Tower", "keepBasketByte", "(II)V"⟩, 13), (⟨"BreadString", "isFloor", "(I)Z"⟩, 15), (⟨"BreadString", "isBasket", "(I)Z"⟩, 15), (⟨"BreadString", "found", "(I)I"⟩, 15), (⟨"BreadString$Trip", "begin", "()V"⟩, 18), (⟨"BreadString$Trip", "arrive", "(I)V"⟩, 18), (⟨"BreadString$Trip", "serve", "(I)V"⟩, 18), (⟨"BreadString$Trip", "wantsBite", "(II)Z"⟩, 18), (⟨"BreadString$Trip", "bite", "(III)V"⟩, 18), (⟨"BreadString$Trip", "climb", "(I)V"⟩, 18), (⟨"BreadString$Trip", "leave", "(II)V"⟩, 18)]
theorem lw_r1 : ∀ q ∈ lw_privs_1, lw_okq q := List.forall_mem_cons.mpr ⟨lw_p0, List.forall_mem_cons.mpr ⟨lw_p1, List.forall_mem_cons.mpr ⟨lw_p2, List.forall_mem_cons.mpr ⟨lw_p3, List.forall_mem_cons.mpr ⟨lw_p4, List.forall_mem_cons.mpr ⟨lw_p5, List.forall_mem_cons.mpr ⟨lw_p6, List.forall_mem_cons.mpr ⟨lw_p7, List.forall_mem_cons.mpr ⟨lw_p8, List.forall_mem_cons.mpr ⟨lw_p9, List.forall_mem_cons.mpr ⟨lw_p10, List.forall_mem_cons.mpr ⟨lw_p11, List.forall_mem_cons.mpr ⟨lw_p12, List.forall_mem_cons.mpr ⟨lw_p13, List.forall_mem_cons.mpr ⟨lw_p14, List.forall_mem_cons.mpr ⟨lw_p15, fun _ h => absurd h List.not_mem_nil⟩⟩⟩⟩⟩⟩⟩⟩⟩⟩⟩⟩⟩⟩⟩⟩
theorem lw_p16 : lw_okq (⟨"BreadString", "goAsTold", "()V"⟩, 15) := ⟨⟨by decide +kernel, by decide +kernel⟩, List.mem_of_getElem? (i := 13) (by decide +kernel), List.mem_of_getElem? (i := 477) (by decide +kernel), List.mem_of_getElem? (i := 478) (by decide +kernel)⟩
theorem lw_p17 : lw_okq (⟨"BreadString", "findHour", "(I)V"⟩, 15) := ⟨⟨by decide +kernel, by decide +kernel⟩, List.mem_of_getElem? (i := 13) (by decide +kernel), List.mem_of_getElem? (i := 526) (by decide +kernel), List.mem_of_getElem? (i := 527) (by decide +kernel)⟩
theorem lw_p18 : lw_okq (⟨"BreadString", "findFed", "(I)V"⟩, 15) := ⟨⟨by decide +kernel, by decide +kernel⟩, List.mem_of_getElem? (i := 13) (by decide +kernel), List.mem_of_getElem? (i := 545) (by decide +kernel), List.mem_of_getElem? (i := 546) (by decide +kernel)⟩
theorem lw_p19 : lw_okq (⟨"BreadString", "staysWhole", "(III)Z"⟩, 15) := ⟨⟨by decide +kernel, by decide +kernel⟩, List.mem_of_getElem? (i := 13) (by decide +kernel), List.mem_of_getElem? (i := 549) (by decide +kernel), List.mem_of_getElem? (i := 550) (by decide +kernel)⟩
theorem lw_p20 : lw_okq (⟨"BreadString", "keepFed", "(III)V"⟩, 15) := ⟨⟨by decide +kernel, by decide +kernel⟩, List.mem_of_getElem? (i := 13) (by decide +kernel), List.mem_of_getElem? (i := 563) (by decide +kernel), List.mem_of_getElem? (i := 564) (by decide +kernel)⟩
theorem lw_p21 : lw_okq (⟨"BreadString", "fedAt", "(I)I"⟩, 15) := ⟨⟨by decide +kernel, by decide +kernel⟩, List.mem_of_getElem? (i := 13) (by decide +kernel), List.mem_of_getElem? (i := 567) (by decide +kernel), List.mem_of_getElem? (i := 568) (by decide +kernel)⟩
theorem lw_p22 : lw_okq (⟨"BreadString", "findStill", "()V"⟩, 15) := ⟨⟨by decide +kernel, by decide +kernel⟩, List.mem_of_getElem? (i := 13) (by decide +kernel), List.mem_of_getElem? (i := 575) (by decide +kernel), List.mem_of_getElem? (i := 576) (by decide +kernel)⟩
theorem lw_p23 : lw_okq (⟨"BreadString", "fittingBites", "(I)I"⟩, 15) := ⟨⟨by decide +kernel, by decide +kernel⟩, List.mem_of_getElem? (i := 13) (by decide +kernel), List.mem_of_getElem? (i := 608) (by decide +kernel), List.mem_of_getElem? (i := 609) (by decide +kernel)⟩
theorem lw_p24 : lw_okq (⟨"BreadString", "fittingWords", "(I)I"⟩, 15) := ⟨⟨by decide +kernel, by decide +kernel⟩, List.mem_of_getElem? (i := 13) (by decide +kernel), List.mem_of_getElem? (i := 613) (by decide +kernel), List.mem_of_getElem? (i := 614) (by decide +kernel)⟩
theorem lw_p25 : lw_okq (⟨"BreadString", "greatestHeap", "(II)I"⟩, 15) := ⟨⟨by decide +kernel, by decide +kernel⟩, List.mem_of_getElem? (i := 13) (by decide +kernel), List.mem_of_getElem? (i := 621) (by decide +kernel), List.mem_of_getElem? (i := 622) (by decide +kernel)⟩
theorem lw_p26 : lw_okq (⟨"BreadString", "findChance", "(III)V"⟩, 15) := ⟨⟨by decide +kernel, by decide +kernel⟩, List.mem_of_getElem? (i := 13) (by decide +kernel), List.mem_of_getElem? (i := 633) (by decide +kernel), List.mem_of_getElem? (i := 634) (by decide +kernel)⟩
theorem lw_p27 : lw_okq (⟨"BreadString", "mixedFloor", "(JI)J"⟩, 15) := ⟨⟨by decide +kernel, by decide +kernel⟩, List.mem_of_getElem? (i := 13) (by decide +kernel), List.mem_of_getElem? (i := 711) (by decide +kernel), List.mem_of_getElem? (i := 712) (by decide +kernel)⟩
theorem lw_p28 : lw_okq (⟨"BreadString", "mixedWay", "(JI)J"⟩, 15) := ⟨⟨by decide +kernel, by decide +kernel⟩, List.mem_of_getElem? (i := 13) (by decide +kernel), List.mem_of_getElem? (i := 719) (by decide +kernel), List.mem_of_getElem? (i := 720) (by decide +kernel)⟩
theorem lw_p29 : lw_okq (⟨"BreadString", "mixedHour", "(JII)J"⟩, 15) := ⟨⟨by decide +kernel, by decide +kernel⟩, List.mem_of_getElem? (i := 13) (by decide +kernel), List.mem_of_getElem? (i := 724) (by decide +kernel), List.mem_of_getElem? (i := 725) (by decide +kernel)⟩
theorem lw_p30 : lw_okq (⟨"BreadString", "mixedPlans", "(JI)J"⟩, 15) := ⟨⟨by decide +kernel, by decide +kernel⟩, List.mem_of_getElem? (i := 13) (by decide +kernel), List.mem_of_getElem? (i := 731) (by decide +kernel), List.mem_of_getElem? (i := 732) (by decide +kernel)⟩
theorem lw_p31 : lw_okq (⟨"BreadStringModel", "faultOf", "(I)I"⟩, 48) := ⟨⟨by decide +kernel, by decide +kernel⟩, List.mem_of_getElem? (i := 741) (by decide +kernel), List.mem_of_getElem? (i := 915) (by decide +kernel), List.mem_of_getElem? (i := 916) (by decide +kernel)⟩
def lw_privs_2 : List (MethodName × Nat) := [(⟨"BreadString", "goAsTold", "()V"⟩, 15), (⟨"BreadString", "findHour", "(I)V"⟩, 15), (⟨"BreadString", "findFed", "(I)V"⟩, 15), (⟨"BreadString", "staysWhole", "(III)Z"⟩, 15), (⟨"BreadString", "keepFed", "(III)V"⟩, 15), (⟨"BreadString", "fedAt", "(I)I"⟩, 15), (⟨"BreadString", "findStill", "()V"⟩, 15), (⟨"BreadString", "fittingBites", "(I)I"⟩, 15), (⟨"BreadString", "fittingWords", "(I)I"⟩, 15), (⟨"BreadString", "greatestHeap", "(II)I"⟩, 15), (⟨"BreadString", "findChance", "(III)V"⟩, 15), (⟨"BreadString", "mixedFloor", "(JI)J"⟩, 15), (⟨"BreadString", "mixedWay", "(JI)J"⟩, 15), (⟨"BreadString", "mixedHour", "(JII)J"⟩, 15), (⟨"BreadString", "mixedPlans", "(JI)J"⟩, 15), (⟨"BreadStringModel", "faultOf", "(I)I"⟩, 48)]
theorem lw_r2 : ∀ q ∈ lw_privs_2, lw_okq q := List.forall_mem_cons.mpr ⟨lw_p16, List.forall_mem_cons.mpr ⟨lw_p17, List.forall_mem_cons.mpr ⟨lw_p18, List.forall_mem_cons.mpr ⟨lw_p19, List.forall_mem_cons.mpr ⟨lw_p20, List.forall_mem_cons.mpr ⟨lw_p21, List.forall_mem_cons.mpr ⟨lw_p22, List.forall_mem_cons.mpr ⟨lw_p23, List.forall_mem_cons.mpr ⟨lw_p24, List.forall_mem_cons.mpr ⟨lw_p25, List.forall_mem_cons.mpr ⟨lw_p26, List.forall_mem_cons.mpr ⟨lw_p27, List.forall_mem_cons.mpr ⟨lw_p28, List.forall_mem_cons.mpr ⟨lw_p29, List.forall_mem_cons.mpr ⟨lw_p30, List.forall_mem_cons.mpr ⟨lw_p31, fun _ h => absurd h List.not_mem_nil⟩⟩⟩⟩⟩⟩⟩⟩⟩⟩⟩⟩⟩⟩⟩⟩
theorem lw_p32 : lw_okq (⟨"BreadStringModel", "readsParts", "(I)I"⟩, 48) := ⟨⟨by decide +kernel, by decide +kernel⟩, List.mem_of_getElem? (i := 741) (by decide +kernel), List.mem_of_getElem? (i := 919) (by decide +kernel), List.mem_of_getElem? (i := 920) (by decide +kernel)⟩
theorem lw_p33 : lw_okq (⟨"BreadStringModel", "readsFloor", "(II)I"⟩, 48) := ⟨⟨by decide +kernel, by decide +kernel⟩, List.mem_of_getElem? (i := 741) (by decide +kernel), List.mem_of_getElem? (i := 923) (by decide +kernel), List.mem_of_getElem? (i := 924) (by decide +kernel)⟩
theorem lw_p34 : lw_okq (⟨"BreadStringModel", "byteAt", "(II)I"⟩, 48) := ⟨⟨by decide +kernel, by decide +kernel⟩, List.mem_of_getElem? (i := 741) (by decide +kernel), List.mem_of_getElem? (i := 927) (by decide +kernel), List.mem_of_getElem? (i := 928) (by decide +kernel)⟩
theorem lw_p35 : lw_okq (⟨"BreadStringModel", "isFigure", "(III)Z"⟩, 48) := ⟨⟨by decide +kernel, by decide +kernel⟩, List.mem_of_getElem? (i := 741) (by decide +kernel), List.mem_of_getElem? (i := 931) (by decide +kernel), List.mem_of_getElem? (i := 932) (by decide +kernel)⟩
theorem lw_p36 : lw_okq (⟨"BreadStringModel", "isLetter", "(II)Z"⟩, 48) := ⟨⟨by decide +kernel, by decide +kernel⟩, List.mem_of_getElem? (i := 741) (by decide +kernel), List.mem_of_getElem? (i := 935) (by decide +kernel), List.mem_of_getElem? (i := 936) (by decide +kernel)⟩
theorem lw_p37 : lw_okq (⟨"BreadStringModel", "readsBasket", "(II)I"⟩, 48) := ⟨⟨by decide +kernel, by decide +kernel⟩, List.mem_of_getElem? (i := 741) (by decide +kernel), List.mem_of_getElem? (i := 939) (by decide +kernel), List.mem_of_getElem? (i := 940) (by decide +kernel)⟩
theorem lw_p38 : lw_okq (⟨"BreadStringModel", "isFloor", "(I)Z"⟩, 48) := ⟨⟨by decide +kernel, by decide +kernel⟩, List.mem_of_getElem? (i := 741) (by decide +kernel), List.mem_of_getElem? (i := 947) (by decide +kernel), List.mem_of_getElem? (i := 948) (by decide +kernel)⟩
theorem lw_p39 : lw_okq (⟨"BreadStringModel", "reads", "()V"⟩, 48) := ⟨⟨by decide +kernel, by decide +kernel⟩, List.mem_of_getElem? (i := 741) (by decide +kernel), List.mem_of_getElem? (i := 951) (by decide +kernel), List.mem_of_getElem? (i := 952) (by decide +kernel)⟩
theorem lw_p40 : lw_okq (⟨"BreadStringModel", "floorOf", "(II)I"⟩, 48) := ⟨⟨by decide +kernel, by decide +kernel⟩, List.mem_of_getElem? (i := 741) (by decide +kernel), List.mem_of_getElem? (i := 955) (by decide +kernel), List.mem_of_getElem? (i := 956) (by decide +kernel)⟩
theorem lw_p41 : lw_okq (⟨"BreadStringModel", "isBasket", "(I)Z"⟩, 48) := ⟨⟨by decide +kernel, by decide +kernel⟩, List.mem_of_getElem? (i := 741) (by decide +kernel), List.mem_of_getElem? (i := 963) (by decide +kernel), List.mem_of_getElem? (i := 964) (by decide +kernel)⟩
theorem lw_p42 : lw_okq (⟨"BreadStringModel", "basketOf", "(II)I"⟩, 48) := ⟨⟨by decide +kernel, by decide +kernel⟩, List.mem_of_getElem? (i := 741) (by decide +kernel), List.mem_of_getElem? (i := 967) (by decide +kernel), List.mem_of_getElem? (i := 968) (by decide +kernel)⟩
theorem lw_p43 : lw_okq (⟨"BreadStringModel", "meets", "(I)I"⟩, 48) := ⟨⟨by decide +kernel, by decide +kernel⟩, List.mem_of_getElem? (i := 741) (by decide +kernel), List.mem_of_getElem? (i := 997) (by decide +kernel), List.mem_of_getElem? (i := 998) (by decide +kernel)⟩
theorem lw_p44 : lw_okq (⟨"BreadStringModel", "atOf", "(III)I"⟩, 48) := ⟨⟨by decide +kernel, by decide +kernel⟩, List.mem_of_getElem? (i := 741) (by decide +kernel), List.mem_of_getElem? (i := 1006) (by decide +kernel), List.mem_of_getElem? (i := 1007) (by decide +kernel)⟩
theorem lw_p45 : lw_okq (⟨"BreadStringModel", "runsTold", "()V"⟩, 48) := ⟨⟨by decide +kernel, by decide +kernel⟩, List.mem_of_getElem? (i := 741) (by decide +kernel), List.mem_of_getElem? (i := 1010) (by decide +kernel), List.mem_of_getElem? (i := 1011) (by decide +kernel)⟩
theorem lw_p46 : lw_okq (⟨"BreadStringModel", "asTold", "()V"⟩, 48) := ⟨⟨by decide +kernel, by decide +kernel⟩, List.mem_of_getElem? (i := 741) (by decide +kernel), List.mem_of_getElem? (i := 1014) (by decide +kernel), List.mem_of_getElem? (i := 1015) (by decide +kernel)⟩
theorem lw_p47 : lw_okq (⟨"BreadStringModel", "windsBut", "(I)J"⟩, 48) := ⟨⟨by decide +kernel, by decide +kernel⟩, List.mem_of_getElem? (i := 741) (by decide +kernel), List.mem_of_getElem? (i := 1018) (by decide +kernel), List.mem_of_getElem? (i := 1019) (by decide +kernel)⟩
def lw_privs_3 : List (MethodName × Nat) := [(⟨"BreadStringModel", "readsParts", "(I)I"⟩, 48), (⟨"BreadStringModel", "readsFloor", "(II)I"⟩, 48), (⟨"BreadStringModel", "byteAt", "(II)I"⟩, 48), (⟨"BreadStringModel", "isFigure", "(III)Z"⟩, 48), (⟨"BreadStringModel", "isLetter", "(II)Z"⟩, 48), (⟨"BreadStringModel", "readsBasket", "(II)I"⟩, 48), (⟨"BreadStringModel", "isFloor", "(I)Z"⟩, 48), (⟨"BreadStringModel", "reads", "()V"⟩, 48), (⟨"BreadStringModel", "floorOf", "(II)I"⟩, 48), (⟨"BreadStringModel", "isBasket", "(I)Z"⟩, 48), (⟨"BreadStringModel", "basketOf", "(II)I"⟩, 48), (⟨"BreadStringModel", "meets", "(I)I"⟩, 48), (⟨"BreadStringModel", "atOf", "(III)I"⟩, 48), (⟨"BreadStringModel", "runsTold", "()V"⟩, 48), (⟨"BreadStringModel", "asTold", "()V"⟩, 48), (⟨"BreadStringModel", "windsBut", "(I)J"⟩, 48)]
theorem lw_r3 : ∀ q ∈ lw_privs_3, lw_okq q := List.forall_mem_cons.mpr ⟨lw_p32, List.forall_mem_cons.mpr ⟨lw_p33, List.forall_mem_cons.mpr ⟨lw_p34, List.forall_mem_cons.mpr ⟨lw_p35, List.forall_mem_cons.mpr ⟨lw_p36, List.forall_mem_cons.mpr ⟨lw_p37, List.forall_mem_cons.mpr ⟨lw_p38, List.forall_mem_cons.mpr ⟨lw_p39, List.forall_mem_cons.mpr ⟨lw_p40, List.forall_mem_cons.mpr ⟨lw_p41, List.forall_mem_cons.mpr ⟨lw_p42, List.forall_mem_cons.mpr ⟨lw_p43, List.forall_mem_cons.mpr ⟨lw_p44, List.forall_mem_cons.mpr ⟨lw_p45, List.forall_mem_cons.mpr ⟨lw_p46, List.forall_mem_cons.mpr ⟨lw_p47, fun _ h => absurd h List.not_mem_nil⟩⟩⟩⟩⟩⟩⟩⟩⟩⟩⟩⟩⟩⟩⟩⟩
theorem lw_p48 : lw_okq (⟨"BreadStringModel", "runs", "()V"⟩, 48) := ⟨⟨by decide +kernel, by decide +kernel⟩, List.mem_of_getElem? (i := 741) (by decide +kernel), List.mem_of_getElem? (i := 1028) (by decide +kernel), List.mem_of_getElem? (i := 1029) (by decide +kernel)⟩
theorem lw_p49 : lw_okq (⟨"BreadStringModel", "goesBy", "(I)V"⟩, 48) := ⟨⟨by decide +kernel, by decide +kernel⟩, List.mem_of_getElem? (i := 741) (by decide +kernel), List.mem_of_getElem? (i := 1032) (by decide +kernel), List.mem_of_getElem? (i := 1033) (by decide +kernel)⟩
theorem lw_p50 : lw_okq (⟨"BreadStringModel", "isTangled", "(I)Z"⟩, 48) := ⟨⟨by decide +kernel, by decide +kernel⟩, List.mem_of_getElem? (i := 741) (by decide +kernel), List.mem_of_getElem? (i := 1036) (by decide +kernel), List.mem_of_getElem? (i := 1037) (by decide +kernel)⟩
theorem lw_p51 : lw_okq (⟨"BreadStringModel", "takes", "(III)V"⟩, 48) := ⟨⟨by decide +kernel, by decide +kernel⟩, List.mem_of_getElem? (i := 741) (by decide +kernel), List.mem_of_getElem? (i := 1040) (by decide +kernel), List.mem_of_getElem? (i := 1041) (by decide +kernel)⟩
theorem lw_p52 : lw_okq (⟨"BreadStringModel", "goesUp", "(II)V"⟩, 48) := ⟨⟨by decide +kernel, by decide +kernel⟩, List.mem_of_getElem? (i := 741) (by decide +kernel), List.mem_of_getElem? (i := 1044) (by decide +kernel), List.mem_of_getElem? (i := 1045) (by decide +kernel)⟩
theorem lw_p53 : lw_okq (⟨"BreadStringModel", "wears", "(I)V"⟩, 48) := ⟨⟨by decide +kernel, by decide +kernel⟩, List.mem_of_getElem? (i := 741) (by decide +kernel), List.mem_of_getElem? (i := 1048) (by decide +kernel), List.mem_of_getElem? (i := 1049) (by decide +kernel)⟩
theorem lw_p54 : lw_okq (⟨"BreadStringModel", "noteOf", "(II)I"⟩, 48) := ⟨⟨by decide +kernel, by decide +kernel⟩, List.mem_of_getElem? (i := 741) (by decide +kernel), List.mem_of_getElem? (i := 1056) (by decide +kernel), List.mem_of_getElem? (i := 1057) (by decide +kernel)⟩
theorem lw_p55 : lw_okq (⟨"BreadStringModel", "comesOf", "(I)I"⟩, 48) := ⟨⟨by decide +kernel, by decide +kernel⟩, List.mem_of_getElem? (i := 741) (by decide +kernel), List.mem_of_getElem? (i := 1064) (by decide +kernel), List.mem_of_getElem? (i := 1065) (by decide +kernel)⟩
theorem lw_p56 : lw_okq (⟨"BreadStringModel", "bitesOf", "(II)I"⟩, 48) := ⟨⟨by decide +kernel, by decide +kernel⟩, List.mem_of_getElem? (i := 741) (by decide +kernel), List.mem_of_getElem? (i := 1072) (by decide +kernel), List.mem_of_getElem? (i := 1073) (by decide +kernel)⟩
theorem lw_p57 : lw_okq (⟨"BreadStringModel", "famineNow", "()I"⟩, 48) := ⟨⟨by decide +kernel, by decide +kernel⟩, List.mem_of_getElem? (i := 741) (by decide +kernel), List.mem_of_getElem? (i := 1080) (by decide +kernel), List.mem_of_getElem? (i := 1081) (by decide +kernel)⟩
theorem lw_p58 : lw_okq (⟨"BreadStringModel", "upMuch", "()I"⟩, 48) := ⟨⟨by decide +kernel, by decide +kernel⟩, List.mem_of_getElem? (i := 741) (by decide +kernel), List.mem_of_getElem? (i := 1084) (by decide +kernel), List.mem_of_getElem? (i := 1085) (by decide +kernel)⟩
theorem lw_p59 : lw_okq (⟨"BreadStringModel", "firstOf", "(I)I"⟩, 48) := ⟨⟨by decide +kernel, by decide +kernel⟩, List.mem_of_getElem? (i := 741) (by decide +kernel), List.mem_of_getElem? (i := 1092) (by decide +kernel), List.mem_of_getElem? (i := 1093) (by decide +kernel)⟩
theorem lw_p60 : lw_okq (⟨"BreadStringModel", "greedyNow", "()I"⟩, 48) := ⟨⟨by decide +kernel, by decide +kernel⟩, List.mem_of_getElem? (i := 741) (by decide +kernel), List.mem_of_getElem? (i := 1100) (by decide +kernel), List.mem_of_getElem? (i := 1101) (by decide +kernel)⟩
theorem lw_p61 : lw_okq (⟨"BreadStringModel", "sendOf", "(II)I"⟩, 48) := ⟨⟨by decide +kernel, by decide +kernel⟩, List.mem_of_getElem? (i := 741) (by decide +kernel), List.mem_of_getElem? (i := 1108) (by decide +kernel), List.mem_of_getElem? (i := 1109) (by decide +kernel)⟩
theorem lw_p62 : lw_okq (⟨"BreadStringModel", "loafOf", "(II)I"⟩, 48) := ⟨⟨by decide +kernel, by decide +kernel⟩, List.mem_of_getElem? (i := 741) (by decide +kernel), List.mem_of_getElem? (i := 1116) (by decide +kernel), List.mem_of_getElem? (i := 1117) (by decide +kernel)⟩
theorem lw_p63 : lw_okq (⟨"BreadStringModel", "feedBy", "(I)I"⟩, 48) := ⟨⟨by decide +kernel, by decide +kernel⟩, List.mem_of_getElem? (i := 741) (by decide +kernel), List.mem_of_getElem? (i := 1124) (by decide +kernel), List.mem_of_getElem? (i := 1125) (by decide +kernel)⟩
def lw_privs_4 : List (MethodName × Nat) := [(⟨"BreadStringModel", "runs", "()V"⟩, 48), (⟨"BreadStringModel", "goesBy", "(I)V"⟩, 48), (⟨"BreadStringModel", "isTangled", "(I)Z"⟩, 48), (⟨"BreadStringModel", "takes", "(III)V"⟩, 48), (⟨"BreadStringModel", "goesUp", "(II)V"⟩, 48), (⟨"BreadStringModel", "wears", "(I)V"⟩, 48), (⟨"BreadStringModel", "noteOf", "(II)I"⟩, 48), (⟨"BreadStringModel", "comesOf", "(I)I"⟩, 48), (⟨"BreadStringModel", "bitesOf", "(II)I"⟩, 48), (⟨"BreadStringModel", "famineNow", "()I"⟩, 48), (⟨"BreadStringModel", "upMuch", "()I"⟩, 48), (⟨"BreadStringModel", "firstOf", "(I)I"⟩, 48), (⟨"BreadStringModel", "greedyNow", "()I"⟩, 48), (⟨"BreadStringModel", "sendOf", "(II)I"⟩, 48), (⟨"BreadStringModel", "loafOf", "(II)I"⟩, 48), (⟨"BreadStringModel", "feedBy", "(I)I"⟩, 48)]
theorem lw_r4 : ∀ q ∈ lw_privs_4, lw_okq q := List.forall_mem_cons.mpr ⟨lw_p48, List.forall_mem_cons.mpr ⟨lw_p49, List.forall_mem_cons.mpr ⟨lw_p50, List.forall_mem_cons.mpr ⟨lw_p51, List.forall_mem_cons.mpr ⟨lw_p52, List.forall_mem_cons.mpr ⟨lw_p53, List.forall_mem_cons.mpr ⟨lw_p54, List.forall_mem_cons.mpr ⟨lw_p55, List.forall_mem_cons.mpr ⟨lw_p56, List.forall_mem_cons.mpr ⟨lw_p57, List.forall_mem_cons.mpr ⟨lw_p58, List.forall_mem_cons.mpr ⟨lw_p59, List.forall_mem_cons.mpr ⟨lw_p60, List.forall_mem_cons.mpr ⟨lw_p61, List.forall_mem_cons.mpr ⟨lw_p62, List.forall_mem_cons.mpr ⟨lw_p63, fun _ h => absurd h List.not_mem_nil⟩⟩⟩⟩⟩⟩⟩⟩⟩⟩⟩⟩⟩⟩⟩⟩
theorem lw_p64 : lw_okq (⟨"BreadStringModel", "isKept", "(II)Z"⟩, 48) := ⟨⟨by decide +kernel, by decide +kernel⟩, List.mem_of_getElem? (i := 741) (by decide +kernel), List.mem_of_getElem? (i := 1128) (by decide +kernel), List.mem_of_getElem? (i := 1129) (by decide +kernel)⟩
theorem lw_p65 : lw_okq (⟨"BreadStringModel", "ofRow", "(II)I"⟩, 48) := ⟨⟨by decide +kernel, by decide +kernel⟩, List.mem_of_getElem? (i := 741) (by decide +kernel), List.mem_of_getElem? (i := 1132) (by decide +kernel), List.mem_of_getElem? (i := 1133) (by decide +kernel)⟩
theorem lw_p66 : lw_okq (⟨"BreadStringModel", "stillOf", "(I)I"⟩, 48) := ⟨⟨by decide +kernel, by decide +kernel⟩, List.mem_of_getElem? (i := 741) (by decide +kernel), List.mem_of_getElem? (i := 1140) (by decide +kernel), List.mem_of_getElem? (i := 1141) (by decide +kernel)⟩
theorem lw_p67 : lw_okq (⟨"BreadStringModel", "neverNow", "()I"⟩, 48) := ⟨⟨by decide +kernel, by decide +kernel⟩, List.mem_of_getElem? (i := 741) (by decide +kernel), List.mem_of_getElem? (i := 1156) (by decide +kernel), List.mem_of_getElem? (i := 1157) (by decide +kernel)⟩
theorem lw_p68 : lw_okq (⟨"BreadStringModel", "isSeen", "()Z"⟩, 48) := ⟨⟨by decide +kernel, by decide +kernel⟩, List.mem_of_getElem? (i := 741) (by decide +kernel), List.mem_of_getElem? (i := 1160) (by decide +kernel), List.mem_of_getElem? (i := 1161) (by decide +kernel)⟩
theorem lw_p69 : lw_okq (⟨"BreadStringModel", "wasOf", "(II)I"⟩, 48) := ⟨⟨by decide +kernel, by decide +kernel⟩, List.mem_of_getElem? (i := 741) (by decide +kernel), List.mem_of_getElem? (i := 1168) (by decide +kernel), List.mem_of_getElem? (i := 1169) (by decide +kernel)⟩
theorem lw_p70 : lw_okq (⟨"BreadStringModel", "askOf", "(I)I"⟩, 48) := ⟨⟨by decide +kernel, by decide +kernel⟩, List.mem_of_getElem? (i := 741) (by decide +kernel), List.mem_of_getElem? (i := 1176) (by decide +kernel), List.mem_of_getElem? (i := 1177) (by decide +kernel)⟩
theorem lw_p71 : lw_okq (⟨"BreadStringModel", "gustOf", "(IIII)J"⟩, 48) := ⟨⟨by decide +kernel, by decide +kernel⟩, List.mem_of_getElem? (i := 741) (by decide +kernel), List.mem_of_getElem? (i := 1184) (by decide +kernel), List.mem_of_getElem? (i := 1185) (by decide +kernel)⟩
theorem lw_p72 : lw_okq (⟨"BreadStringModel", "weekOf", "(III)I"⟩, 48) := ⟨⟨by decide +kernel, by decide +kernel⟩, List.mem_of_getElem? (i := 741) (by decide +kernel), List.mem_of_getElem? (i := 1199) (by decide +kernel), List.mem_of_getElem? (i := 1200) (by decide +kernel)⟩
theorem lw_p73 : lw_okq (⟨"BreadStringModel", "bitesAll", "()I"⟩, 48) := ⟨⟨by decide +kernel, by decide +kernel⟩, List.mem_of_getElem? (i := 741) (by decide +kernel), List.mem_of_getElem? (i := 1204) (by decide +kernel), List.mem_of_getElem? (i := 1205) (by decide +kernel)⟩
theorem lw_p74 : lw_okq (⟨"BreadStringModel", "lacks", "(III)I"⟩, 48) := ⟨⟨by decide +kernel, by decide +kernel⟩, List.mem_of_getElem? (i := 741) (by decide +kernel), List.mem_of_getElem? (i := 1220) (by decide +kernel), List.mem_of_getElem? (i := 1221) (by decide +kernel)⟩
theorem lw_p75 : lw_okq (⟨"BreadStringModel", "keep", "(III)V"⟩, 48) := ⟨⟨by decide +kernel, by decide +kernel⟩, List.mem_of_getElem? (i := 741) (by decide +kernel), List.mem_of_getElem? (i := 1224) (by decide +kernel), List.mem_of_getElem? (i := 1225) (by decide +kernel)⟩
theorem lw_p76 : lw_okq (⟨"BreadStringModel", "sumOf", "(I)I"⟩, 48) := ⟨⟨by decide +kernel, by decide +kernel⟩, List.mem_of_getElem? (i := 741) (by decide +kernel), List.mem_of_getElem? (i := 1245) (by decide +kernel), List.mem_of_getElem? (i := 1246) (by decide +kernel)⟩
theorem lw_p77 : lw_okq (⟨"BreadStringModel", "floorDigest", "(JI)J"⟩, 48) := ⟨⟨by decide +kernel, by decide +kernel⟩, List.mem_of_getElem? (i := 741) (by decide +kernel), List.mem_of_getElem? (i := 1256) (by decide +kernel), List.mem_of_getElem? (i := 1257) (by decide +kernel)⟩
theorem lw_p78 : lw_okq (⟨"BreadStringModel", "basketDigest", "(JI)J"⟩, 48) := ⟨⟨by decide +kernel, by decide +kernel⟩, List.mem_of_getElem? (i := 741) (by decide +kernel), List.mem_of_getElem? (i := 1260) (by decide +kernel), List.mem_of_getElem? (i := 1261) (by decide +kernel)⟩
theorem lw_p79 : lw_okq (⟨"BreadStringModel", "hourDigest", "(JII)J"⟩, 48) := ⟨⟨by decide +kernel, by decide +kernel⟩, List.mem_of_getElem? (i := 741) (by decide +kernel), List.mem_of_getElem? (i := 1264) (by decide +kernel), List.mem_of_getElem? (i := 1265) (by decide +kernel)⟩
def lw_privs_5 : List (MethodName × Nat) := [(⟨"BreadStringModel", "isKept", "(II)Z"⟩, 48), (⟨"BreadStringModel", "ofRow", "(II)I"⟩, 48), (⟨"BreadStringModel", "stillOf", "(I)I"⟩, 48), (⟨"BreadStringModel", "neverNow", "()I"⟩, 48), (⟨"BreadStringModel", "isSeen", "()Z"⟩, 48), (⟨"BreadStringModel", "wasOf", "(II)I"⟩, 48), (⟨"BreadStringModel", "askOf", "(I)I"⟩, 48), (⟨"BreadStringModel", "gustOf", "(IIII)J"⟩, 48), (⟨"BreadStringModel", "weekOf", "(III)I"⟩, 48), (⟨"BreadStringModel", "bitesAll", "()I"⟩, 48), (⟨"BreadStringModel", "lacks", "(III)I"⟩, 48), (⟨"BreadStringModel", "keep", "(III)V"⟩, 48), (⟨"BreadStringModel", "sumOf", "(I)I"⟩, 48), (⟨"BreadStringModel", "floorDigest", "(JI)J"⟩, 48), (⟨"BreadStringModel", "basketDigest", "(JI)J"⟩, 48), (⟨"BreadStringModel", "hourDigest", "(JII)J"⟩, 48)]
theorem lw_r5 : ∀ q ∈ lw_privs_5, lw_okq q := List.forall_mem_cons.mpr ⟨lw_p64, List.forall_mem_cons.mpr ⟨lw_p65, List.forall_mem_cons.mpr ⟨lw_p66, List.forall_mem_cons.mpr ⟨lw_p67, List.forall_mem_cons.mpr ⟨lw_p68, List.forall_mem_cons.mpr ⟨lw_p69, List.forall_mem_cons.mpr ⟨lw_p70, List.forall_mem_cons.mpr ⟨lw_p71, List.forall_mem_cons.mpr ⟨lw_p72, List.forall_mem_cons.mpr ⟨lw_p73, List.forall_mem_cons.mpr ⟨lw_p74, List.forall_mem_cons.mpr ⟨lw_p75, List.forall_mem_cons.mpr ⟨lw_p76, List.forall_mem_cons.mpr ⟨lw_p77, List.forall_mem_cons.mpr ⟨lw_p78, List.forall_mem_cons.mpr ⟨lw_p79, fun _ h => absurd h List.not_mem_nil⟩⟩⟩⟩⟩⟩⟩⟩⟩⟩⟩⟩⟩⟩⟩⟩
def lw_privs : List (MethodName × Nat) := lw_privs_1 ++ (lw_privs_2 ++ (lw_privs_3 ++ (lw_privs_4 ++ (lw_privs_5))))
def lw_tbl : List Cond := k2_sels lw_privs ++ tables_1
theorem lw_privs_ok : ∀ q ∈ lw_privs, lw_okq q := by
  show ∀ q ∈ lw_privs_1 ++ (lw_privs_2 ++ (lw_privs_3 ++ (lw_privs_4 ++ (lw_privs_5)))), lw_okq q
  exact List.forall_mem_append.mpr ⟨lw_r1, List.forall_mem_append.mpr ⟨lw_r2, List.forall_mem_append.mpr ⟨lw_r3, List.forall_mem_append.mpr ⟨lw_r4, lw_r5⟩⟩⟩⟩

def RX0 : String := "BreadString$Best"
def TX0 : u_T := fun k => match k with
  | 0 => ("BreadString$Best", "which", "I", false)
  | _ => ("BreadString$Best", "much", "I", false)
def tyX0 : Nat → FieldType := fun k => match k with
  | 0 => .int
  | _ => .int
theorem nmX0 : ∀ a, a < 2 → ∀ b, b < 2 → a ≠ b → (TX0 a).2.1 ≠ (TX0 b).2.1 := by decide +kernel
theorem tyX0_ok : ∀ k, k < 2 → parseFieldDescriptor (TX0 k).2.2.1 = some (tyX0 k) := by decide +kernel
def RX1 : String := "BreadString$Marks"
def TX1 : u_T := fun k => match k with
  | 0 => ("BreadString$Marks", "hours", "[I", true)
  | _ => ("BreadString$Marks", "size", "I", false)
def tyX1 : Nat → FieldType := fun k => match k with
  | 0 => .array .int
  | _ => .int
theorem nmX1 : ∀ a, a < 2 → ∀ b, b < 2 → a ≠ b → (TX1 a).2.1 ≠ (TX1 b).2.1 := by decide +kernel
theorem tyX1_ok : ∀ k, k < 2 → parseFieldDescriptor (TX1 k).2.2.1 = some (tyX1 k) := by decide +kernel
def RX2 : String := "BreadString$Sheets"
def TX2 : u_T := fun k => match k with
  | 0 => ("BreadString$Sheets", "form", "[I", true)
  | 1 => ("BreadString$Sheets", "size", "[I", true)
  | _ => ("BreadString$Sheets", "items", "[I", true)
def tyX2 : Nat → FieldType := fun k => match k with
  | 0 => .array .int
  | 1 => .array .int
  | _ => .array .int
theorem nmX2 : ∀ a, a < 3 → ∀ b, b < 3 → a ≠ b → (TX2 a).2.1 ≠ (TX2 b).2.1 := by decide +kernel
theorem tyX2_ok : ∀ k, k < 3 → parseFieldDescriptor (TX2 k).2.2.1 = some (tyX2 k) := by decide +kernel
def RX3 : String := "BreadString$Sightings"
def TX3 : u_T := fun k => match k with
  | 0 => ("BreadString$Sightings", "basket", "[I", true)
  | 1 => ("BreadString$Sightings", "place", "[I", true)
  | 2 => ("BreadString$Sightings", "letter", "[I", true)
  | _ => ("BreadString$Sightings", "size", "I", false)
def tyX3 : Nat → FieldType := fun k => match k with
  | 0 => .array .int
  | 1 => .array .int
  | 2 => .array .int
  | _ => .int
theorem nmX3 : ∀ a, a < 4 → ∀ b, b < 4 → a ≠ b → (TX3 a).2.1 ≠ (TX3 b).2.1 := by decide +kernel
theorem tyX3_ok : ∀ k, k < 4 → parseFieldDescriptor (TX3 k).2.2.1 = some (tyX3 k) := by decide +kernel
def RX4 : String := "BreadString$Text"
def TX4 : u_T := fun k => match k with
  | 0 => ("BreadString$Text", "bytes", "[I", true)
  | _ => ("BreadString$Text", "size", "I", false)
def tyX4 : Nat → FieldType := fun k => match k with
  | 0 => .array .int
  | _ => .int
theorem nmX4 : ∀ a, a < 2 → ∀ b, b < 2 → a ≠ b → (TX4 a).2.1 ≠ (TX4 b).2.1 := by decide +kernel
theorem tyX4_ok : ∀ k, k < 2 → parseFieldDescriptor (TX4 k).2.2.1 = some (tyX4 k) := by decide +kernel
def RX5 : String := "BreadString$Tower"
def TX5 : u_T := fun k => match k with
  | 0 => ("BreadString$Tower", "floors", "I", false)
  | 1 => ("BreadString$Tower", "floorFault", "I", false)
  | 2 => ("BreadString$Tower", "sort", "[I", true)
  | 3 => ("BreadString$Tower", "bite", "[I", true)
  | 4 => ("BreadString$Tower", "word", "[I", true)
  | 5 => ("BreadString$Tower", "baskets", "I", false)
  | 6 => ("BreadString$Tower", "basketFault", "I", false)
  | 7 => ("BreadString$Tower", "hour", "[I", true)
  | 8 => ("BreadString$Tower", "load", "[I", true)
  | 9 => ("BreadString$Tower", "letters", "[I", true)
  | 10 => ("BreadString$Tower", "told", "[I", true)
  | 11 => ("BreadString$Tower", "hunger", "I", false)
  | _ => ("BreadString$Tower", "wear", "I", false)
def tyX5 : Nat → FieldType := fun k => match k with
  | 0 => .int
  | 1 => .int
  | 2 => .array .int
  | 3 => .array .int
  | 4 => .array .int
  | 5 => .int
  | 6 => .int
  | 7 => .array .int
  | 8 => .array .int
  | 9 => .array .int
  | 10 => .array .int
  | 11 => .int
  | _ => .int
theorem nmX5 : ∀ a, a < 13 → ∀ b, b < 13 → a ≠ b → (TX5 a).2.1 ≠ (TX5 b).2.1 := by decide +kernel
theorem tyX5_ok : ∀ k, k < 13 → parseFieldDescriptor (TX5 k).2.2.1 = some (tyX5 k) := by decide +kernel
def RX6 : String := "BreadString$Trip"
def TX6 : u_T := fun k => match k with
  | 0 => ("BreadString$Trip", "tower", "LBreadString$Tower;", true)
  | 1 => ("BreadString$Trip", "windy", "Z", false)
  | 2 => ("BreadString$Trip", "holy", "Z", false)
  | 3 => ("BreadString$Trip", "floor", "[I", true)
  | 4 => ("BreadString$Trip", "load", "[I", true)
  | 5 => ("BreadString$Trip", "tangled", "[I", true)
  | 6 => ("BreadString$Trip", "up", "[I", true)
  | 7 => ("BreadString$Trip", "held", "[I", true)
  | 8 => ("BreadString$Trip", "notes", "[I", true)
  | 9 => ("BreadString$Trip", "start", "[I", true)
  | 10 => ("BreadString$Trip", "end", "[I", true)
  | 11 => ("BreadString$Trip", "last", "[I", true)
  | 12 => ("BreadString$Trip", "often", "[I", true)
  | 13 => ("BreadString$Trip", "eaten", "[I", true)
  | 14 => ("BreadString$Trip", "notUp", "I", false)
  | 15 => ("BreadString$Trip", "bites", "I", false)
  | 16 => ("BreadString$Trip", "firstHour", "I", false)
  | _ => ("BreadString$Trip", "firstFloor", "I", false)
def tyX6 : Nat → FieldType := fun k => match k with
  | 0 => .object "BreadString$Tower"
  | 1 => .boolean
  | 2 => .boolean
  | 3 => .array .int
  | 4 => .array .int
  | 5 => .array .int
  | 6 => .array .int
  | 7 => .array .int
  | 8 => .array .int
  | 9 => .array .int
  | 10 => .array .int
  | 11 => .array .int
  | 12 => .array .int
  | 13 => .array .int
  | 14 => .int
  | 15 => .int
  | 16 => .int
  | _ => .int
theorem nmX6 : ∀ a, a < 18 → ∀ b, b < 18 → a ≠ b → (TX6 a).2.1 ≠ (TX6 b).2.1 := by decide +kernel
theorem tyX6_ok : ∀ k, k < 18 → parseFieldDescriptor (TX6 k).2.2.1 = some (tyX6 k) := by decide +kernel
def RX7 : String := "BreadString"
def TX7 : u_T := fun k => match k with
  | 0 => ("BreadString", "floorText", "LBreadString$Text;", true)
  | 1 => ("BreadString", "basketText", "LBreadString$Text;", true)
  | 2 => ("BreadString", "tower", "LBreadString$Tower;", true)
  | 3 => ("BreadString", "trip", "LBreadString$Trip;", true)
  | 4 => ("BreadString", "winds", "LBreadString$Marks;", true)
  | 5 => ("BreadString", "sundays", "LBreadString$Marks;", true)
  | 6 => ("BreadString", "sightings", "LBreadString$Sightings;", true)
  | 7 => ("BreadString", "sheets", "LBreadString$Sheets;", true)
  | 8 => ("BreadString", "best", "LBreadString$Best;", true)
  | 9 => ("BreadString", "fed", "[I", true)
  | 10 => ("BreadString", "fedCount", "I", false)
  | 11 => ("BreadString", "leftLoads", "[I", true)
  | 12 => ("BreadString", "above", "J", false)
  | 13 => ("BreadString", "below", "J", false)
  | _ => ("BreadString", "finding", "I", false)
def tyX7 : Nat → FieldType := fun k => match k with
  | 0 => .object "BreadString$Text"
  | 1 => .object "BreadString$Text"
  | 2 => .object "BreadString$Tower"
  | 3 => .object "BreadString$Trip"
  | 4 => .object "BreadString$Marks"
  | 5 => .object "BreadString$Marks"
  | 6 => .object "BreadString$Sightings"
  | 7 => .object "BreadString$Sheets"
  | 8 => .object "BreadString$Best"
  | 9 => .array .int
  | 10 => .int
  | 11 => .array .int
  | 12 => .long
  | 13 => .long
  | _ => .int
theorem nmX7 : ∀ a, a < 15 → ∀ b, b < 15 → a ≠ b → (TX7 a).2.1 ≠ (TX7 b).2.1 := by decide +kernel
theorem tyX7_ok : ∀ k, k < 15 → parseFieldDescriptor (TX7 k).2.2.1 = some (tyX7 k) := by decide +kernel
def RX8 : String := "BreadStringModel"
def TX8 : u_T := fun k => match k with
  | 0 => ("BreadStringModel", "typed", "[I", true)
  | 1 => ("BreadStringModel", "texts", "[I", true)
  | 2 => ("BreadStringModel", "floors", "I", false)
  | 3 => ("BreadStringModel", "sorts", "[I", true)
  | 4 => ("BreadStringModel", "bitesTold", "[I", true)
  | 5 => ("BreadStringModel", "words", "[I", true)
  | 6 => ("BreadStringModel", "baskets", "I", false)
  | 7 => ("BreadStringModel", "hours", "[I", true)
  | 8 => ("BreadStringModel", "loads", "[I", true)
  | 9 => ("BreadStringModel", "sizesTold", "[I", true)
  | 10 => ("BreadStringModel", "letters", "[I", true)
  | 11 => ("BreadStringModel", "hungerTold", "I", false)
  | 12 => ("BreadStringModel", "wearTold", "I", false)
  | 13 => ("BreadStringModel", "winds", "I", false)
  | 14 => ("BreadStringModel", "windHour", "[I", true)
  | 15 => ("BreadStringModel", "sundays", "I", false)
  | 16 => ("BreadStringModel", "sundayHour", "[I", true)
  | 17 => ("BreadStringModel", "windBits", "J", false)
  | 18 => ("BreadStringModel", "sundayBits", "J", false)
  | 19 => ("BreadStringModel", "fed", "I", false)
  | 20 => ("BreadStringModel", "place", "[I", true)
  | 21 => ("BreadStringModel", "load", "[I", true)
  | 22 => ("BreadStringModel", "noteSize", "[I", true)
  | 23 => ("BreadStringModel", "notes", "[I", true)
  | 24 => ("BreadStringModel", "isHeld", "[Z", true)
  | 25 => ("BreadStringModel", "leftMany", "[I", true)
  | 26 => ("BreadStringModel", "upAt", "[I", true)
  | 27 => ("BreadStringModel", "lastBite", "[I", true)
  | 28 => ("BreadStringModel", "bitMany", "[I", true)
  | 29 => ("BreadStringModel", "bitMuch", "[I", true)
  | 30 => ("BreadStringModel", "firstHour", "I", false)
  | 31 => ("BreadStringModel", "firstFloor", "I", false)
  | 32 => ("BreadStringModel", "placeAt", "[I", true)
  | 33 => ("BreadStringModel", "loadAt", "[I", true)
  | 34 => ("BreadStringModel", "sizeAt", "[I", true)
  | 35 => ("BreadStringModel", "tangledAt", "[Z", true)
  | 36 => ("BreadStringModel", "planRow", "[I", true)
  | 37 => ("BreadStringModel", "seens", "I", false)
  | 38 => ("BreadStringModel", "seenBasket", "[I", true)
  | 39 => ("BreadStringModel", "seenPlace", "[I", true)
  | 40 => ("BreadStringModel", "seenLetter", "[I", true)
  | 41 => ("BreadStringModel", "loadBy", "[I", true)
  | 42 => ("BreadStringModel", "isThere", "[Z", true)
  | 43 => ("BreadStringModel", "forms", "[I", true)
  | 44 => ("BreadStringModel", "sizes", "[I", true)
  | 45 => ("BreadStringModel", "items", "[I", true)
  | 46 => ("BreadStringModel", "moved", "[I", true)
  | _ => ("BreadStringModel", "finding", "I", false)
def tyX8 : Nat → FieldType := fun k => match k with
  | 0 => .array .int
  | 1 => .array .int
  | 2 => .int
  | 3 => .array .int
  | 4 => .array .int
  | 5 => .array .int
  | 6 => .int
  | 7 => .array .int
  | 8 => .array .int
  | 9 => .array .int
  | 10 => .array .int
  | 11 => .int
  | 12 => .int
  | 13 => .int
  | 14 => .array .int
  | 15 => .int
  | 16 => .array .int
  | 17 => .long
  | 18 => .long
  | 19 => .int
  | 20 => .array .int
  | 21 => .array .int
  | 22 => .array .int
  | 23 => .array .int
  | 24 => .array .boolean
  | 25 => .array .int
  | 26 => .array .int
  | 27 => .array .int
  | 28 => .array .int
  | 29 => .array .int
  | 30 => .int
  | 31 => .int
  | 32 => .array .int
  | 33 => .array .int
  | 34 => .array .int
  | 35 => .array .boolean
  | 36 => .array .int
  | 37 => .int
  | 38 => .array .int
  | 39 => .array .int
  | 40 => .array .int
  | 41 => .array .int
  | 42 => .array .boolean
  | 43 => .array .int
  | 44 => .array .int
  | 45 => .array .int
  | 46 => .array .int
  | _ => .int
theorem nmX8 : ∀ a, a < 48 → ∀ b, b < 48 → a ≠ b → (TX8 a).2.1 ≠ (TX8 b).2.1 := by decide +kernel
theorem tyX8_ok : ∀ k, k < 48 → parseFieldDescriptor (TX8 k).2.2.1 = some (tyX8 k) := by decide +kernel
/-- the words of the tables that stay true -/
def vTbl : List Cond := lw_tbl.filter goodWord
theorem vTm {w : Cond} (h : w ∈ lw_tbl) (hg : goodWord w = true) : w ∈ vTbl := List.mem_filter.mpr ⟨h, hg⟩
abbrev classes : List vw_C := [(RX0, TX0, 2), (RX1, TX1, 2), (RX2, TX2, 3), (RX3, TX3, 4), (RX4, TX4, 2), (RX5, TX5, 13), (RX6, TX6, 18), (RX7, TX7, 15), (RX8, TX8, 48)]
/-- the type of field k of class ci -/
def vTy (ci : Nat) : Nat → FieldType := match ci with
  | 0 => tyX0
  | 1 => tyX1
  | 2 => tyX2
  | 3 => tyX3
  | 4 => tyX4
  | 5 => tyX5
  | 6 => tyX6
  | 7 => tyX7
  | _ => tyX8
def vN (ci : Nat) : Nat := match ci with
  | 0 => 2
  | 1 => 2
  | 2 => 3
  | 3 => 4
  | 4 => 2
  | 5 => 13
  | 6 => 18
  | 7 => 15
  | _ => 48
set_option maxRecDepth 100000 in
theorem vIn0 : ∀ w ∈ u_ws RX0 TX0 2, w ∈ vTbl := by decide +kernel
set_option maxRecDepth 100000 in
theorem vIn1 : ∀ w ∈ u_ws RX1 TX1 2, w ∈ vTbl := by decide +kernel
set_option maxRecDepth 100000 in
theorem vIn2 : ∀ w ∈ u_ws RX2 TX2 3, w ∈ vTbl := by decide +kernel
set_option maxRecDepth 100000 in
theorem vIn3 : ∀ w ∈ u_ws RX3 TX3 4, w ∈ vTbl := by decide +kernel
set_option maxRecDepth 100000 in
theorem vIn4 : ∀ w ∈ u_ws RX4 TX4 2, w ∈ vTbl := by decide +kernel
set_option maxRecDepth 100000 in
theorem vIn5 : ∀ w ∈ u_ws RX5 TX5 13, w ∈ vTbl := by decide +kernel
set_option maxRecDepth 100000 in
theorem vIn6 : ∀ w ∈ u_ws RX6 TX6 18, w ∈ vTbl := by decide +kernel
set_option maxRecDepth 100000 in
theorem vIn7 : ∀ w ∈ u_ws RX7 TX7 15, w ∈ vTbl := by decide +kernel
set_option maxRecDepth 100000 in
theorem vIn8 : ∀ w ∈ u_ws RX8 TX8 48, w ∈ vTbl := by decide +kernel
theorem vIn {ci N : Nat} {C : String} {T : u_T} (hc : classes[ci]? = some (C, T, N)) : ∀ w ∈ u_ws C T N, w ∈ vTbl :=
  match ci, hc with
  | 0, hc => by
    cases hc
    exact vIn0
  | 1, hc => by
    cases hc
    exact vIn1
  | 2, hc => by
    cases hc
    exact vIn2
  | 3, hc => by
    cases hc
    exact vIn3
  | 4, hc => by
    cases hc
    exact vIn4
  | 5, hc => by
    cases hc
    exact vIn5
  | 6, hc => by
    cases hc
    exact vIn6
  | 7, hc => by
    cases hc
    exact vIn7
  | 8, hc => by
    cases hc
    exact vIn8
  | (_ + 9), hc => by cases hc

theorem vTy_ok {ci N : Nat} {C : String} {T : u_T} (hc : classes[ci]? = some (C, T, N)) : ∀ k, k < N → parseFieldDescriptor (T k).2.2.1 = some (vTy ci k) :=
  match ci, hc with
  | 0, hc => by
    cases hc
    exact tyX0_ok
  | 1, hc => by
    cases hc
    exact tyX1_ok
  | 2, hc => by
    cases hc
    exact tyX2_ok
  | 3, hc => by
    cases hc
    exact tyX3_ok
  | 4, hc => by
    cases hc
    exact tyX4_ok
  | 5, hc => by
    cases hc
    exact tyX5_ok
  | 6, hc => by
    cases hc
    exact tyX6_ok
  | 7, hc => by
    cases hc
    exact tyX7_ok
  | 8, hc => by
    cases hc
    exact tyX8_ok
  | (_ + 9), hc => by cases hc

theorem vNm {ci N : Nat} {C : String} {T : u_T} (hc : classes[ci]? = some (C, T, N)) : ∀ a, a < N → ∀ b, b < N → a ≠ b → (T a).2.1 ≠ (T b).2.1 :=
  match ci, hc with
  | 0, hc => by
    cases hc
    exact nmX0
  | 1, hc => by
    cases hc
    exact nmX1
  | 2, hc => by
    cases hc
    exact nmX2
  | 3, hc => by
    cases hc
    exact nmX3
  | 4, hc => by
    cases hc
    exact nmX4
  | 5, hc => by
    cases hc
    exact nmX5
  | 6, hc => by
    cases hc
    exact nmX6
  | 7, hc => by
    cases hc
    exact nmX7
  | 8, hc => by
    cases hc
    exact nmX8
  | (_ + 9), hc => by cases hc

theorem vN_eq {ci N : Nat} {C : String} {T : u_T} (hc : classes[ci]? = some (C, T, N)) : N = vN ci :=
  match ci, hc with
  | 0, hc => by
    cases hc
    exact rfl
  | 1, hc => by
    cases hc
    exact rfl
  | 2, hc => by
    cases hc
    exact rfl
  | 3, hc => by
    cases hc
    exact rfl
  | 4, hc => by
    cases hc
    exact rfl
  | 5, hc => by
    cases hc
    exact rfl
  | 6, hc => by
    cases hc
    exact rfl
  | 7, hc => by
    cases hc
    exact rfl
  | 8, hc => by
    cases hc
    exact rfl
  | (_ + 9), hc => by cases hc

theorem vGood (big : List Cond) (h : ∀ w ∈ vTbl, w ∈ big) : GoodIn big vTbl := fun w hw => ⟨h w hw, good_of_word (List.mem_filter.mp hw).2⟩
end
section
/-! a judgement of my own over the kit's W: worlds of a fixed plan, their numbers as functions -/
/-- ints by cell and place, longs by cell and place -/
abbrev vMem : Type := (Nat → Nat → Int32) × (Nat → Nat → Int64)
/-- a plan: how many cells; of each its kind (0 ints, 1 booleans, ci + 2 an object of class ci) and length; its references (0 null, n + 1 cell n) -/
abbrev vCfg : Type := Nat × (Nat → Nat × Nat) × (Nat → Nat → Nat)
/-- a method: its name, code, locals, answer -/
abbrev vMI : Type := MethodName × ByteArray × Nat × Option FieldType
def vRef (ad : Nat → Nat) (r : Nat) : Value := match r with
  | 0 => .null
  | n + 1 => .ref (ad n)
def vFld (ad : Nat → Nat) (G : vCfg) (σ : vMem) (n j : Nat) (ty : FieldType) : Value := match ty with
  | .long => .long (σ.2 n j)
  | .int => .int (σ.1 n j)
  | .boolean => .int (σ.1 n j)
  | _ => vRef ad (G.2.2 n j)
def vCell (cI cZ : ClassId) (ad : Nat → Nat) (G : vCfg) (σ : vMem) (n : Nat) : va_E := match G.2.1 n with
  | (0, len) => .inl (cI, len, .inl (σ.1 n))
  | (1, len) => .inl (cZ, len, .inl (σ.1 n))
  | (k + 2, _) => .inr (k, (List.range (vN k)).map (fun j => vFld ad G σ n j (vTy k j)))
def vW (cI cZ : ClassId) (ad : Nat → Nat) (G : vCfg) (σ : vMem) : va_W := (List.range G.1).map (fun n => (ad n, vCell cI cZ ad G σ n))
abbrev vTys (cI cZ : ClassId) : List (ClassId × FieldType) := [(cI, .int), (cZ, .boolean)]
def vRm (d : Nat) : Room := { frames := d, cells := 0, slots := 0, locals := 40 * d }
def vLk (la : Array Slot) (n : Nat) (ls : List (Option Value)) : Prop := la.size = n ∧ lv_wf la ∧ ∀ (i : Nat) (v : Value), ls[i]? = some (some v) → la[i]? = some (.val v)
def vOK (mi : vMI) (p : Program) (s : State) (m : MethodId) (meth : Method) (c : Code) (args : Array Value) (D : va_G) (cI cZ : ClassId) : Prop :=
  p.tables.exec = Jvm.exec ∧ c.code = mi.2.1 ∧ c.maxLocals = mi.2.2.1 ∧ meth.sig.returnType = mi.2.2.2 ∧ meth.locks = false ∧ s.vm.findClass mi.1.cls = some m.cls ∧ (∀ w ∈ vTbl, w.before args s = true) ∧ va_K D classes (vTys cI cZ) s
def vQ (D : va_G) (cI cZ : ClassId) (ad : Nat → Nat) (G : vCfg) (A : Nat → Prop) (Q : Option Value → vMem → Prop) : Array Value → State → Outcome → State → Prop := fun _ st oc t =>
  ∃ (r : Option Value) (σ : vMem), oc = .returned r ∧ Q r σ ∧ va_P D classes (vW cI cZ ad G σ) t.heap ∧ va_F A st t
/-- from pc on, with these locals, this stack, this memory, the method ends, and Q holds of its answer and of the memory -/
def V (G : vCfg) (mi : vMI) (ad : Nat → Nat) (Q : Option Value → vMem → Prop) (d pc : Nat) (ls : List (Option Value)) (st : List Value) (σ : vMem) : Prop :=
  ∀ (p : Program) (l : Launch) (e : Env) (s : State) (m : MethodId) (args : Array Value) (below : List Frame) (meth : Method) (c : Code) (H : Heap) (locs : List Loc) (A : Nat → Prop) (D : va_G) (cI cZ : ClassId) (la : Array Slot),
    vOK mi p s m meth c args D cI cZ → vLk la mi.2.2.1 ls → va_P D classes (vW cI cZ ad G σ) H → va_D A (vW cI cZ ad G σ) → va_S A s.heap H locs → (∀ q, s.heap.size ≤ q → A q) →
      W p l e (vRm d) s m args below meth c H locs 0 0 (MQ below (vQ D cI cZ ad G A Q) args s 0 0 A) (F0 m pc la st)
/-! the world's rows -/
theorem vW_get (cI cZ : ClassId) (ad : Nat → Nat) (G : vCfg) (σ : vMem) {n : Nat} (hn : n < G.1) : (vW cI cZ ad G σ)[n]? = some (ad n, vCell cI cZ ad G σ n) := by
  simp [vW, List.getElem?_map, List.getElem?_range hn]
theorem vMap_set {α : Type} {N n : Nat} {f g : Nat → α} {y : α} (hn : n < N) (h1 : g n = y) (h2 : ∀ a, a ≠ n → g a = f a) : ((List.range N).map f).set n y = (List.range N).map g := by
  apply List.ext_getElem?
  intro k
  rw [List.getElem?_set]
  by_cases hk : n = k
  · subst hk
    simp [hn, h1]
  · rw [if_neg hk, List.getElem?_map, List.getElem?_map]
    by_cases hkN : k < N
    · rw [List.getElem?_range hkN]
      simp [h2 k (fun q => hk q.symm)]
    · rw [List.getElem?_eq_none (by simpa using hkN)]
      rfl
theorem vW_len (cI cZ : ClassId) (ad : Nat → Nat) (G : vCfg) (σ : vMem) : (vW cI cZ ad G σ).length = G.1 := by simp [vW]
/-- an int changes -/
def vup (σ : vMem) (n k : Nat) (x : Int32) : vMem := (fun a => if a = n then upd (σ.1 n) k x else σ.1 a, σ.2)
/-- a long changes -/
def vupL (σ : vMem) (n k : Nat) (x : Int64) : vMem := (σ.1, fun a => if a = n then (fun j => if j = k then x else σ.2 n j) else σ.2 a)
/-- a row is copied -/
def vcp (σ : vMem) (a0 a1 sp dp n : Nat) : vMem := (fun a => if a = a1 then va_cpy (σ.1 a0) (σ.1 a1) sp dp n else σ.1 a, σ.2)
theorem vCell_ne (cI cZ : ClassId) (ad : Nat → Nat) (G : vCfg) {σ τ : vMem} {n : Nat} (h1 : σ.1 n = τ.1 n) (h2 : σ.2 n = τ.2 n) : vCell cI cZ ad G σ n = vCell cI cZ ad G τ n := by
  unfold vCell
  split
  · rw [h1]
  · rw [h1]
  · congr 2
    refine List.map_congr_left fun j _ => ?_
    unfold vFld
    split
    · rw [h2]
    · rw [h1]
    · rw [h1]
    · rfl
theorem vup_ne (σ : vMem) {n k : Nat} (x : Int32) {a : Nat} (h : a ≠ n) : (vup σ n k x).1 a = σ.1 a := by simp [vup, h]
theorem vup_eq (σ : vMem) (n k : Nat) (x : Int32) : (vup σ n k x).1 n = upd (σ.1 n) k x := by simp [vup]
theorem vupL_ne (σ : vMem) {n k : Nat} (x : Int64) {a : Nat} (h : a ≠ n) : (vupL σ n k x).2 a = σ.2 a := by simp [vupL, h]
/-- a row of ints, or of booleans, has another one -/
theorem vW_arr (cI cZ : ClassId) (ad : Nat → Nat) (G : vCfg) {σ τ : vMem} {n : Nat} (hn : n < G.1) (hne : ∀ a, a ≠ n → τ.1 a = σ.1 a) (hL : τ.2 = σ.2) :
    (vW cI cZ ad G σ).set n (ad n, vCell cI cZ ad G τ n) = vW cI cZ ad G τ := by
  refine vMap_set hn rfl fun a ha => ?_
  rw [vCell_ne cI cZ ad G (hne a ha) (by rw [hL])]
theorem vW_obj (cI cZ : ClassId) (ad : Nat → Nat) (G : vCfg) {σ τ : vMem} {n ci k z : Nat} {v : Value} (hn : n < G.1) (hg : G.2.1 n = (ci + 2, z)) (hk : k < vN ci) (hv : vFld ad G τ n k (vTy ci k) = v)
    (hne : ∀ a, a ≠ n → τ.1 a = σ.1 a) (hneL : ∀ a, a ≠ n → τ.2 a = σ.2 a) (hq : ∀ j, j ≠ k → τ.1 n j = σ.1 n j) (hqL : ∀ j, j ≠ k → τ.2 n j = σ.2 n j) :
    (vW cI cZ ad G σ).set n (ad n, .inr (ci, ((List.range (vN ci)).map (fun j => vFld ad G σ n j (vTy ci j))).set k v)) = vW cI cZ ad G τ := by
  refine vMap_set hn ?_ fun a ha => ?_
  · have e : ((List.range (vN ci)).map (fun j => vFld ad G σ n j (vTy ci j))).set k v = (List.range (vN ci)).map (fun j => vFld ad G τ n j (vTy ci j)) := by
      refine vMap_set (g := fun j => vFld ad G τ n j (vTy ci j)) hk hv fun j hj => ?_
      show vFld ad G τ n j (vTy ci j) = vFld ad G σ n j (vTy ci j)
      unfold vFld
      split
      · rw [hqL j hj]
      · rw [hq j hj]
      · rw [hq j hj]
      · rfl
    rw [e]
    unfold vCell
    rw [hg]
  · rw [vCell_ne cI cZ ad G (hne a ha) (hneL a ha)]
theorem vW_addr (cI cZ : ClassId) (ad : Nat → Nat) (G : vCfg) (σ τ : vMem) {k : Nat} {q : Nat × va_E} (h : (vW cI cZ ad G σ)[k]? = some q) : ∃ e, (vW cI cZ ad G τ)[k]? = some (q.1, e) := by
  by_cases hk : k < G.1
  · rw [vW_get _ _ _ _ _ hk] at h
    cases h
    exact ⟨_, vW_get _ _ _ _ _ hk⟩
  · rw [List.getElem?_eq_none (by rw [vW_len]; omega)] at h
    cases h
theorem vW_D {cI cZ : ClassId} {ad : Nat → Nat} {G : vCfg} {σ : vMem} (τ : vMem) {A : Nat → Prop} (h : va_D A (vW cI cZ ad G σ)) : va_D A (vW cI cZ ad G τ) := by
  refine ⟨fun i j p q hp hq e => ?_, fun k q hq => ?_⟩
  · obtain ⟨e1, h1⟩ := vW_addr cI cZ ad G τ σ hp
    obtain ⟨e2, h2⟩ := vW_addr cI cZ ad G τ σ hq
    exact h.1 i j _ _ h1 h2 e
  · obtain ⟨e1, h1⟩ := vW_addr cI cZ ad G τ σ hq
    exact h.2 k (q.1, e1) h1
theorem vA_eq {cI cZ : ClassId} {ad : Nat → Nat} {G : vCfg} {σ : vMem} (τ : vMem) {sz q : Nat} (h : va_A (vW cI cZ ad G σ) sz q) : va_A (vW cI cZ ad G τ) sz q := by
  rcases h with ⟨k, e, h⟩ | h
  · obtain ⟨e1, h1⟩ := vW_addr cI cZ ad G σ τ h
    exact Or.inl ⟨k, e1, h1⟩
  · exact Or.inr h
end
section
section VR
variable {G : vCfg} {mi : vMI} {ad : Nat → Nat} {Q : Option Value → vMem → Prop} {d pc : Nat} {ls : List (Option Value)} {st : List Value} {σ : vMem}
theorem V.iconst {n : Int} {v : Int32} (hv : Int32.ofInt n = v) (hd : decode mi.2.1 pc = .ok (.iconst n, 1)) (k : V G mi ad Q d (pc + 1) ls (.int v :: st) σ) : V G mi ad Q d pc ls (st) σ := by
  intro p l e s m args below meth c H locs A D cI cZ la O L P Dd S hA
  exact lv_iconst O.1 O.2.1 hd hv (k p l e s m args below meth c H locs A D cI cZ la O L P Dd S hA)
theorem V.bipush {n : Int} {v : Int32} (hv : (Int8.ofInt n).toInt32 = v) (hd : decode mi.2.1 pc = .ok (.bipush n, 2)) (k : V G mi ad Q d (pc + 2) ls (.int v :: st) σ) : V G mi ad Q d pc ls (st) σ := by
  intro p l e s m args below meth c H locs A D cI cZ la O L P Dd S hA
  exact lv_bipush O.1 O.2.1 hd hv (k p l e s m args below meth c H locs A D cI cZ la O L P Dd S hA)
theorem V.sipush {n : Int} {v : Int32} (hv : (Int16.ofInt n).toInt32 = v) (hd : decode mi.2.1 pc = .ok (.sipush n, 3)) (k : V G mi ad Q d (pc + 3) ls (.int v :: st) σ) : V G mi ad Q d pc ls (st) σ := by
  intro p l e s m args below meth c H locs A D cI cZ la O L P Dd S hA
  exact lv_sipush O.1 O.2.1 hd hv (k p l e s m args below meth c H locs A D cI cZ la O L P Dd S hA)
theorem V.lconst {n : Fin 2} {v : Int64} (hv : Int64.ofNat (n : Nat) = v) (hd : decode mi.2.1 pc = .ok (.lconst n, 1)) (k : V G mi ad Q d (pc + 1) ls (.long v :: st) σ) : V G mi ad Q d pc ls (st) σ := by
  intro p l e s m args below meth c H locs A D cI cZ la O L P Dd S hA
  exact lv_lconst O.1 O.2.1 hd hv (k p l e s m args below meth c H locs A D cI cZ la O L P Dd S hA)
theorem V.ldcw {idx : Nat} {v : Int32} (hd : decode mi.2.1 pc = .ok (.ldc_w idx, 3)) (hw : Cond.constant mi.1.cls idx v ∈ vTbl) (k : V G mi ad Q d (pc + 3) ls (.int v :: st) σ) : V G mi ad Q d pc ls st σ := by
  intro p l e s m args below meth c H locs A D cI cZ la O L P Dd S hA
  exact lv_ldcw O.1 O.2.1 O.2.2.2.2.2.1 (O.2.2.2.2.2.2.1 _ hw) hd (k p l e s m args below meth c H locs A D cI cZ la O L P Dd S hA)
theorem V.ldc {idx : Nat} {v : Int32} (hd : decode mi.2.1 pc = .ok (.ldc idx, 2)) (hw : Cond.constant mi.1.cls idx v ∈ vTbl) (k : V G mi ad Q d (pc + 2) ls (.int v :: st) σ) : V G mi ad Q d pc ls st σ := by
  intro p l e s m args below meth c H locs A D cI cZ la O L P Dd S hA
  exact lv_ldc O.1 O.2.1 O.2.2.2.2.2.1 (O.2.2.2.2.2.2.1 _ hw) hd (k p l e s m args below meth c H locs A D cI cZ la O L P Dd S hA)
theorem V.ldc2 {idx : Nat} {v : Int64} (hd : decode mi.2.1 pc = .ok (.ldc2_w idx, 3)) (hw : Cond.constantLong mi.1.cls idx v ∈ vTbl) (k : V G mi ad Q d (pc + 3) ls (.long v :: st) σ) : V G mi ad Q d pc ls st σ := by
  intro p l e s m args below meth c H locs A D cI cZ la O L P Dd S hA
  exact lv_ldc2 O.1 O.2.1 O.2.2.2.2.2.1 (O.2.2.2.2.2.2.1 _ hw) hd (k p l e s m args below meth c H locs A D cI cZ la O L P Dd S hA)
theorem V.iload_n {j : Fin 4} {x : Int32} (hd : decode mi.2.1 pc = .ok (.iload_n j, 1)) (hl : ls[(j : Nat)]? = some (some (.int x))) (k : V G mi ad Q d (pc + 1) ls (.int x :: st) σ) : V G mi ad Q d pc ls st σ := by
  intro p l e s m args below meth c H locs A D cI cZ la O L P Dd S hA
  exact lv_iload_n O.1 O.2.1 hd rfl (L.2.2 _ _ hl) (k p l e s m args below meth c H locs A D cI cZ la O L P Dd S hA)
theorem V.iload {i : Nat} {x : Int32} (hd : decode mi.2.1 pc = .ok (.iload i, 2)) (hl : ls[i]? = some (some (.int x))) (k : V G mi ad Q d (pc + 2) ls (.int x :: st) σ) : V G mi ad Q d pc ls st σ := by
  intro p l e s m args below meth c H locs A D cI cZ la O L P Dd S hA
  exact lv_iload O.1 O.2.1 hd (L.2.2 _ _ hl) (k p l e s m args below meth c H locs A D cI cZ la O L P Dd S hA)
theorem V.lload_n {j : Fin 4} {x : Int64} (hd : decode mi.2.1 pc = .ok (.lload_n j, 1)) (hl : ls[(j : Nat)]? = some (some (.long x))) (k : V G mi ad Q d (pc + 1) ls (.long x :: st) σ) : V G mi ad Q d pc ls st σ := by
  intro p l e s m args below meth c H locs A D cI cZ la O L P Dd S hA
  exact lv_lload_n O.1 O.2.1 hd rfl (L.2.2 _ _ hl) (k p l e s m args below meth c H locs A D cI cZ la O L P Dd S hA)
theorem V.lload {i : Nat} {x : Int64} (hd : decode mi.2.1 pc = .ok (.lload i, 2)) (hl : ls[i]? = some (some (.long x))) (k : V G mi ad Q d (pc + 2) ls (.long x :: st) σ) : V G mi ad Q d pc ls st σ := by
  intro p l e s m args below meth c H locs A D cI cZ la O L P Dd S hA
  exact lv_lload O.1 O.2.1 hd (L.2.2 _ _ hl) (k p l e s m args below meth c H locs A D cI cZ la O L P Dd S hA)
theorem V.aload_n {j : Fin 4} {x : Nat} (hd : decode mi.2.1 pc = .ok (.aload_n j, 1)) (hl : ls[(j : Nat)]? = some (some (.ref x))) (k : V G mi ad Q d (pc + 1) ls (.ref x :: st) σ) : V G mi ad Q d pc ls st σ := by
  intro p l e s m args below meth c H locs A D cI cZ la O L P Dd S hA
  exact lv_aload_n O.1 O.2.1 hd rfl (L.2.2 _ _ hl) (k p l e s m args below meth c H locs A D cI cZ la O L P Dd S hA)
theorem V.aload {i : Nat} {x : Nat} (hd : decode mi.2.1 pc = .ok (.aload i, 2)) (hl : ls[i]? = some (some (.ref x))) (k : V G mi ad Q d (pc + 2) ls (.ref x :: st) σ) : V G mi ad Q d pc ls st σ := by
  intro p l e s m args below meth c H locs A D cI cZ la O L P Dd S hA
  exact lv_aload O.1 O.2.1 hd (L.2.2 _ _ hl) (k p l e s m args below meth c H locs A D cI cZ la O L P Dd S hA)
/-- the values that are known, with their places -/
def vPrs : Nat → List (Option Value) → List (Nat × Value)
  | _, [] => []
  | i, none :: r => vPrs (i + 1) r
  | i, some v :: r => (i, v) :: vPrs (i + 1) r
theorem vPrs_mem : ∀ (l : List (Option Value)) (i : Nat) (q : Nat × Value), q ∈ vPrs i l ↔ i ≤ q.1 ∧ l[q.1 - i]? = some (some q.2)
  | [], i, q => by simp [vPrs]
  | none :: r, i, q => by
    rw [vPrs, vPrs_mem r (i + 1) q]
    constructor
    · rintro ⟨h1, h2⟩
      refine ⟨by omega, ?_⟩
      rw [show q.1 - i = (q.1 - (i + 1)) + 1 by omega]
      simpa using h2
    · rintro ⟨h1, h2⟩
      rcases Nat.eq_or_lt_of_le h1 with e | e
      · rw [show q.1 - i = 0 by omega] at h2
        simp at h2
      · refine ⟨e, ?_⟩
        rw [show q.1 - i = (q.1 - (i + 1)) + 1 by omega] at h2
        simpa using h2
  | some v :: r, i, q => by
    rw [vPrs, List.mem_cons, vPrs_mem r (i + 1) q]
    constructor
    · rintro (h | ⟨h1, h2⟩)
      · subst h
        simp
      · refine ⟨by omega, ?_⟩
        rw [show q.1 - i = (q.1 - (i + 1)) + 1 by omega]
        simpa using h2
    · rintro ⟨h1, h2⟩
      rcases Nat.eq_or_lt_of_le h1 with e | e
      · rw [show q.1 - i = 0 by omega] at h2
        left
        have : v = q.2 := by simpa using h2
        rw [this, e]
      · right
        refine ⟨e, ?_⟩
        rw [show q.1 - i = (q.1 - (i + 1)) + 1 by omega] at h2
        simpa using h2
theorem vLk_has {la : Array Slot} {n : Nat} {ls : List (Option Value)} (h : vLk la n ls) : lv_has la n (vPrs 0 ls) := ⟨h.1, h.2.1, fun q hq => h.2.2 q.1 q.2 (by simpa using ((vPrs_mem ls 0 q).mp hq).2)⟩
/-- the value ahead of place i is no long -/
def vNo2 (ls : List (Option Value)) (i : Nat) : Bool := match i with
  | 0 => true
  | j + 1 => match ls[j]? with
    | some (some v) => !(v.category == 2)
    | _ => true
theorem vLk_set1 {la : Array Slot} {n : Nat} {ls : List (Option Value)} {i : Nat} {v : Value} (h0 : vNo2 ls i = true) (h : lv_has la n ((i, v) :: (vPrs 0 ls).filter (fun q => !(q.1 == i) && !(q.1 + 1 == i && q.2.category == 2)))) : vLk la n (ls.set i (some v)) := by
  refine ⟨h.1, h.2.1, fun j w hj => ?_⟩
  by_cases e : i = j
  · subst e
    rw [List.getElem?_set] at hj
    simp only [if_true] at hj
    split at hj
    · have : v = w := by simpa using hj
      subst this
      exact h.2.2 (i, v) List.mem_cons_self
    · cases hj
  · rw [List.getElem?_set, if_neg e] at hj
    refine h.2.2 (j, w) (List.mem_cons_of_mem _ (List.mem_filter.mpr ⟨(vPrs_mem ls 0 (j, w)).mpr ⟨Nat.zero_le _, by simpa using hj⟩, ?_⟩))
    have e2 : ¬ j = i := fun q => e q.symm
    simp only [Bool.and_eq_true, Bool.not_eq_true', beq_eq_false_iff_ne, ne_eq, Bool.and_eq_false_iff, e2, not_false_eq_true, true_and]
    by_cases e3 : j + 1 = i
    · right
      subst e3
      simp only [vNo2, hj] at h0
      simpa using h0
    · left; exact e3
theorem vLk_set2 {la : Array Slot} {n : Nat} {ls : List (Option Value)} {i : Nat} {v : Value} (h0 : vNo2 ls i = true) (h : lv_has la n ((i, v) :: (vPrs 0 ls).filter (fun q => !(q.1 == i) && (!(q.1 == i + 1) && !(q.1 + 1 == i && q.2.category == 2))))) : vLk la n ((ls.set i (some v)).set (i + 1) none) := by
  refine ⟨h.1, h.2.1, fun j w hj => ?_⟩
  rw [List.getElem?_set] at hj
  by_cases e1 : i + 1 = j
  · subst e1
    simp only [if_true] at hj
    split at hj <;> cases hj
  rw [if_neg e1] at hj
  by_cases e : i = j
  · subst e
    rw [List.getElem?_set] at hj
    simp only [if_true] at hj
    split at hj
    · have : v = w := by simpa using hj
      subst this
      exact h.2.2 (i, v) List.mem_cons_self
    · cases hj
  · rw [List.getElem?_set, if_neg e] at hj
    refine h.2.2 (j, w) (List.mem_cons_of_mem _ (List.mem_filter.mpr ⟨(vPrs_mem ls 0 (j, w)).mpr ⟨Nat.zero_le _, by simpa using hj⟩, ?_⟩))
    have e2 : ¬ j = i := fun q => e q.symm
    have e4 : ¬ j = i + 1 := fun q => e1 q.symm
    simp only [Bool.and_eq_true, Bool.not_eq_true', beq_eq_false_iff_ne, ne_eq, Bool.and_eq_false_iff, e2, e4, not_false_eq_true, true_and]
    by_cases e3 : j + 1 = i
    · right
      subst e3
      simp only [vNo2, hj] at h0
      simpa using h0
    · left; exact e3
theorem V.istore_n {j : Fin 4} {x : Int32} (hd : decode mi.2.1 pc = .ok (.istore_n j, 1)) (hn : (j : Nat) < mi.2.2.1) (h0 : vNo2 ls j = true) (k : V G mi ad Q d (pc + 1) (ls.set j (some (.int x))) st σ) : V G mi ad Q d pc ls (.int x :: st) σ := by
  intro p l e s m args below meth c H locs A D cI cZ la O L P Dd S hA
  exact lv_istore_n O.1 O.2.1 hd rfl (vLk_has L) hn rfl (fun la h => k p l e s m args below meth c H locs A D cI cZ la O (vLk_set1 h0 h) P Dd S hA)
theorem V.istore {i : Nat} {x : Int32} (hd : decode mi.2.1 pc = .ok (.istore i, 2)) (hn : i < mi.2.2.1) (h0 : vNo2 ls i = true) (k : V G mi ad Q d (pc + 2) (ls.set i (some (.int x))) st σ) : V G mi ad Q d pc ls (.int x :: st) σ := by
  intro p l e s m args below meth c H locs A D cI cZ la O L P Dd S hA
  exact lv_istore O.1 O.2.1 hd (vLk_has L) hn rfl (fun la h => k p l e s m args below meth c H locs A D cI cZ la O (vLk_set1 h0 h) P Dd S hA)
theorem V.astore_n {j : Fin 4} {x : Nat} (hd : decode mi.2.1 pc = .ok (.astore_n j, 1)) (hn : (j : Nat) < mi.2.2.1) (h0 : vNo2 ls j = true) (k : V G mi ad Q d (pc + 1) (ls.set j (some (.ref x))) st σ) : V G mi ad Q d pc ls (.ref x :: st) σ := by
  intro p l e s m args below meth c H locs A D cI cZ la O L P Dd S hA
  exact lv_astore_n O.1 O.2.1 hd rfl (vLk_has L) hn rfl (fun la h => k p l e s m args below meth c H locs A D cI cZ la O (vLk_set1 h0 h) P Dd S hA)
theorem V.astore {i : Nat} {x : Nat} (hd : decode mi.2.1 pc = .ok (.astore i, 2)) (hn : i < mi.2.2.1) (h0 : vNo2 ls i = true) (k : V G mi ad Q d (pc + 2) (ls.set i (some (.ref x))) st σ) : V G mi ad Q d pc ls (.ref x :: st) σ := by
  intro p l e s m args below meth c H locs A D cI cZ la O L P Dd S hA
  exact lv_astore O.1 O.2.1 hd (vLk_has L) hn rfl (fun la h => k p l e s m args below meth c H locs A D cI cZ la O (vLk_set1 h0 h) P Dd S hA)
theorem V.lstore_n {j : Fin 4} {x : Int64} (hd : decode mi.2.1 pc = .ok (.lstore_n j, 1)) (hn : (j : Nat) + 1 < mi.2.2.1) (h0 : vNo2 ls j = true) (k : V G mi ad Q d (pc + 1) ((ls.set j (some (.long x))).set (j + 1) none) st σ) : V G mi ad Q d pc ls (.long x :: st) σ := by
  intro p l e s m args below meth c H locs A D cI cZ la O L P Dd S hA
  exact lv_lstore_n O.1 O.2.1 hd rfl (vLk_has L) hn rfl (fun la h => k p l e s m args below meth c H locs A D cI cZ la O (vLk_set2 h0 h) P Dd S hA)
theorem V.lstore {i : Nat} {x : Int64} (hd : decode mi.2.1 pc = .ok (.lstore i, 2)) (hn : i + 1 < mi.2.2.1) (h0 : vNo2 ls i = true) (k : V G mi ad Q d (pc + 2) ((ls.set i (some (.long x))).set (i + 1) none) st σ) : V G mi ad Q d pc ls (.long x :: st) σ := by
  intro p l e s m args below meth c H locs A D cI cZ la O L P Dd S hA
  exact lv_lstore O.1 O.2.1 hd (vLk_has L) hn rfl (fun la h => k p l e s m args below meth c H locs A D cI cZ la O (vLk_set2 h0 h) P Dd S hA)
theorem V.iinc {i : Nat} {n : Int} {x v : Int32} (hd : decode mi.2.1 pc = .ok (.iinc i n, 3)) (hl : ls[i]? = some (some (.int x))) (hv : x + Int32.ofInt n = v) (hn : i < mi.2.2.1) (h0 : vNo2 ls i = true) (k : V G mi ad Q d (pc + 3) (ls.set i (some (.int v))) st σ) : V G mi ad Q d pc ls st σ := by
  intro p l e s m args below meth c H locs A D cI cZ la O L P Dd S hA
  have hm : (i, Value.int x) ∈ vPrs 0 ls := (vPrs_mem ls 0 (i, .int x)).mpr ⟨Nat.zero_le _, by simpa using hl⟩
  obtain ⟨q, hq⟩ := List.getElem?_of_mem hm
  exact lv_iinc O.1 O.2.1 hd (vLk_has L) hq hv hn rfl (fun la h => k p l e s m args below meth c H locs A D cI cZ la O (vLk_set1 h0 h) P Dd S hA)
theorem V.iadd {x y : Int32} (hd : decode mi.2.1 pc = .ok (.iadd, 1)) (k : V G mi ad Q d (pc + 1) ls (.int (x + y) :: st) σ) : V G mi ad Q d pc ls (.int y :: .int x :: st) σ := by
  intro p l e s m args below meth c H locs A D cI cZ la O L P Dd S hA
  exact lv_iadd O.1 O.2.1 hd (k p l e s m args below meth c H locs A D cI cZ la O L P Dd S hA)
theorem V.isub {x y : Int32} (hd : decode mi.2.1 pc = .ok (.isub, 1)) (k : V G mi ad Q d (pc + 1) ls (.int (x - y) :: st) σ) : V G mi ad Q d pc ls (.int y :: .int x :: st) σ := by
  intro p l e s m args below meth c H locs A D cI cZ la O L P Dd S hA
  exact lv_isub O.1 O.2.1 hd (k p l e s m args below meth c H locs A D cI cZ la O L P Dd S hA)
theorem V.imul {x y : Int32} (hd : decode mi.2.1 pc = .ok (.imul, 1)) (k : V G mi ad Q d (pc + 1) ls (.int (x * y) :: st) σ) : V G mi ad Q d pc ls (.int y :: .int x :: st) σ := by
  intro p l e s m args below meth c H locs A D cI cZ la O L P Dd S hA
  exact lv_imul O.1 O.2.1 hd (k p l e s m args below meth c H locs A D cI cZ la O L P Dd S hA)
theorem V.iand {x y : Int32} (hd : decode mi.2.1 pc = .ok (.iand, 1)) (k : V G mi ad Q d (pc + 1) ls (.int (x &&& y) :: st) σ) : V G mi ad Q d pc ls (.int y :: .int x :: st) σ := by
  intro p l e s m args below meth c H locs A D cI cZ la O L P Dd S hA
  exact lv_iand O.1 O.2.1 hd (k p l e s m args below meth c H locs A D cI cZ la O L P Dd S hA)
theorem V.ior {x y : Int32} (hd : decode mi.2.1 pc = .ok (.ior, 1)) (k : V G mi ad Q d (pc + 1) ls (.int (x ||| y) :: st) σ) : V G mi ad Q d pc ls (.int y :: .int x :: st) σ := by
  intro p l e s m args below meth c H locs A D cI cZ la O L P Dd S hA
  exact lv_ior O.1 O.2.1 hd (k p l e s m args below meth c H locs A D cI cZ la O L P Dd S hA)
theorem V.ixor {x y : Int32} (hd : decode mi.2.1 pc = .ok (.ixor, 1)) (k : V G mi ad Q d (pc + 1) ls (.int (x ^^^ y) :: st) σ) : V G mi ad Q d pc ls (.int y :: .int x :: st) σ := by
  intro p l e s m args below meth c H locs A D cI cZ la O L P Dd S hA
  exact lv_ixor O.1 O.2.1 hd (k p l e s m args below meth c H locs A D cI cZ la O L P Dd S hA)
theorem V.ishl {x y : Int32} (hd : decode mi.2.1 pc = .ok (.ishl, 1)) (k : V G mi ad Q d (pc + 1) ls (.int (x <<< (y &&& 31)) :: st) σ) : V G mi ad Q d pc ls (.int y :: .int x :: st) σ := by
  intro p l e s m args below meth c H locs A D cI cZ la O L P Dd S hA
  exact lv_ishl O.1 O.2.1 hd (k p l e s m args below meth c H locs A D cI cZ la O L P Dd S hA)
theorem V.ishr {x y : Int32} (hd : decode mi.2.1 pc = .ok (.ishr, 1)) (k : V G mi ad Q d (pc + 1) ls (.int (x >>> (y &&& 31)) :: st) σ) : V G mi ad Q d pc ls (.int y :: .int x :: st) σ := by
  intro p l e s m args below meth c H locs A D cI cZ la O L P Dd S hA
  exact lv_ishr O.1 O.2.1 hd (k p l e s m args below meth c H locs A D cI cZ la O L P Dd S hA)
theorem V.ladd {x y : Int64} (hd : decode mi.2.1 pc = .ok (.ladd, 1)) (k : V G mi ad Q d (pc + 1) ls (.long (x + y) :: st) σ) : V G mi ad Q d pc ls (.long y :: .long x :: st) σ := by
  intro p l e s m args below meth c H locs A D cI cZ la O L P Dd S hA
  exact lv_ladd O.1 O.2.1 hd (k p l e s m args below meth c H locs A D cI cZ la O L P Dd S hA)
theorem V.lsub {x y : Int64} (hd : decode mi.2.1 pc = .ok (.lsub, 1)) (k : V G mi ad Q d (pc + 1) ls (.long (x - y) :: st) σ) : V G mi ad Q d pc ls (.long y :: .long x :: st) σ := by
  intro p l e s m args below meth c H locs A D cI cZ la O L P Dd S hA
  exact lv_lsub O.1 O.2.1 hd (k p l e s m args below meth c H locs A D cI cZ la O L P Dd S hA)
theorem V.lmul {x y : Int64} (hd : decode mi.2.1 pc = .ok (.lmul, 1)) (k : V G mi ad Q d (pc + 1) ls (.long (x * y) :: st) σ) : V G mi ad Q d pc ls (.long y :: .long x :: st) σ := by
  intro p l e s m args below meth c H locs A D cI cZ la O L P Dd S hA
  exact lv_lmul O.1 O.2.1 hd (k p l e s m args below meth c H locs A D cI cZ la O L P Dd S hA)
theorem V.land {x y : Int64} (hd : decode mi.2.1 pc = .ok (.land, 1)) (k : V G mi ad Q d (pc + 1) ls (.long (x &&& y) :: st) σ) : V G mi ad Q d pc ls (.long y :: .long x :: st) σ := by
  intro p l e s m args below meth c H locs A D cI cZ la O L P Dd S hA
  exact lv_land O.1 O.2.1 hd (k p l e s m args below meth c H locs A D cI cZ la O L P Dd S hA)
theorem V.lor {x y : Int64} (hd : decode mi.2.1 pc = .ok (.lor, 1)) (k : V G mi ad Q d (pc + 1) ls (.long (x ||| y) :: st) σ) : V G mi ad Q d pc ls (.long y :: .long x :: st) σ := by
  intro p l e s m args below meth c H locs A D cI cZ la O L P Dd S hA
  exact lv_lor O.1 O.2.1 hd (k p l e s m args below meth c H locs A D cI cZ la O L P Dd S hA)
theorem V.idiv {x y : Int32} (hne : ¬ y = 0) (hd : decode mi.2.1 pc = .ok (.idiv, 1)) (k : V G mi ad Q d (pc + 1) ls (.int (x / y) :: st) σ) : V G mi ad Q d pc ls (.int y :: .int x :: st) σ := by
  intro p l e s m args below meth c H locs A D cI cZ la O L P Dd S hA
  exact lv_idiv O.1 O.2.1 hd hne (k p l e s m args below meth c H locs A D cI cZ la O L P Dd S hA)
theorem V.irem {x y : Int32} (hne : ¬ y = 0) (hd : decode mi.2.1 pc = .ok (.irem, 1)) (k : V G mi ad Q d (pc + 1) ls (.int (x - x / y * y) :: st) σ) : V G mi ad Q d pc ls (.int y :: .int x :: st) σ := by
  intro p l e s m args below meth c H locs A D cI cZ la O L P Dd S hA
  exact lv_irem O.1 O.2.1 hd hne (k p l e s m args below meth c H locs A D cI cZ la O L P Dd S hA)
theorem V.ldiv {x y : Int64} (hne : ¬ y = 0) (hd : decode mi.2.1 pc = .ok (.ldiv, 1)) (k : V G mi ad Q d (pc + 1) ls (.long (x / y) :: st) σ) : V G mi ad Q d pc ls (.long y :: .long x :: st) σ := by
  intro p l e s m args below meth c H locs A D cI cZ la O L P Dd S hA
  exact lv_ldiv O.1 O.2.1 hd hne (k p l e s m args below meth c H locs A D cI cZ la O L P Dd S hA)
theorem V.lrem {x y : Int64} (hne : ¬ y = 0) (hd : decode mi.2.1 pc = .ok (.lrem, 1)) (k : V G mi ad Q d (pc + 1) ls (.long (x - x / y * y) :: st) σ) : V G mi ad Q d pc ls (.long y :: .long x :: st) σ := by
  intro p l e s m args below meth c H locs A D cI cZ la O L P Dd S hA
  exact lv_lrem O.1 O.2.1 hd hne (k p l e s m args below meth c H locs A D cI cZ la O L P Dd S hA)
theorem V.ineg {x : Int32} (hd : decode mi.2.1 pc = .ok (.ineg, 1)) (k : V G mi ad Q d (pc + 1) ls (.int (-x) :: st) σ) : V G mi ad Q d pc ls (.int x :: st) σ := by
  intro p l e s m args below meth c H locs A D cI cZ la O L P Dd S hA
  exact lv_ineg O.1 O.2.1 hd (k p l e s m args below meth c H locs A D cI cZ la O L P Dd S hA)
theorem V.i2l {x : Int32} (hd : decode mi.2.1 pc = .ok (.i2l, 1)) (k : V G mi ad Q d (pc + 1) ls (.long x.toInt64 :: st) σ) : V G mi ad Q d pc ls (.int x :: st) σ := by
  intro p l e s m args below meth c H locs A D cI cZ la O L P Dd S hA
  exact lv_i2l O.1 O.2.1 hd rfl (k p l e s m args below meth c H locs A D cI cZ la O L P Dd S hA)
theorem V.i2b {x : Int32} (hd : decode mi.2.1 pc = .ok (.i2b, 1)) (k : V G mi ad Q d (pc + 1) ls (.int x.toInt8.toInt32 :: st) σ) : V G mi ad Q d pc ls (.int x :: st) σ := by
  intro p l e s m args below meth c H locs A D cI cZ la O L P Dd S hA
  exact lv_i2b O.1 O.2.1 hd rfl (k p l e s m args below meth c H locs A D cI cZ la O L P Dd S hA)
theorem V.i2s {x : Int32} (hd : decode mi.2.1 pc = .ok (.i2s, 1)) (k : V G mi ad Q d (pc + 1) ls (.int x.toInt16.toInt32 :: st) σ) : V G mi ad Q d pc ls (.int x :: st) σ := by
  intro p l e s m args below meth c H locs A D cI cZ la O L P Dd S hA
  exact lv_i2s O.1 O.2.1 hd rfl (k p l e s m args below meth c H locs A D cI cZ la O L P Dd S hA)
theorem V.iushr {x y : Int32} (hd : decode mi.2.1 pc = .ok (.iushr, 1)) (k : V G mi ad Q d (pc + 1) ls (.int (x.toUInt32 >>> (y.toUInt32 &&& Int32.toUInt32 31)).toInt32 :: st) σ) : V G mi ad Q d pc ls (.int y :: .int x :: st) σ := by
  intro p l e s m args below meth c H locs A D cI cZ la O L P Dd S hA
  exact lv_iushr O.1 O.2.1 hd rfl (k p l e s m args below meth c H locs A D cI cZ la O L P Dd S hA)
theorem V.lshl {x : Int64} {y : Int32} (hd : decode mi.2.1 pc = .ok (.lshl, 1)) (k : V G mi ad Q d (pc + 1) ls (.long (x <<< (y.toInt64 &&& 63)) :: st) σ) : V G mi ad Q d pc ls (.int y :: .long x :: st) σ := by
  intro p l e s m args below meth c H locs A D cI cZ la O L P Dd S hA
  exact lv_lshl O.1 O.2.1 hd rfl (k p l e s m args below meth c H locs A D cI cZ la O L P Dd S hA)
theorem V.lshr {x : Int64} {y : Int32} (hd : decode mi.2.1 pc = .ok (.lshr, 1)) (k : V G mi ad Q d (pc + 1) ls (.long (x >>> (y.toInt64 &&& 63)) :: st) σ) : V G mi ad Q d pc ls (.int y :: .long x :: st) σ := by
  intro p l e s m args below meth c H locs A D cI cZ la O L P Dd S hA
  exact lv_lshr O.1 O.2.1 hd rfl (k p l e s m args below meth c H locs A D cI cZ la O L P Dd S hA)
theorem V.lcmp {x y : Int64} (hd : decode mi.2.1 pc = .ok (.lcmp, 1)) (k : V G mi ad Q d (pc + 1) ls (.int (lg_cmp x y) :: st) σ) : V G mi ad Q d pc ls (.long y :: .long x :: st) σ := by
  intro p l e s m args below meth c H locs A D cI cZ la O L P Dd S hA
  exact W.lcmp O.1 O.2.1 hd (k p l e s m args below meth c H locs A D cI cZ la O L P Dd S hA)
theorem V.dup {x : Value} (h1 : x.category = 1) (hd : decode mi.2.1 pc = .ok (.dup, 1)) (k : V G mi ad Q d (pc + 1) ls (x :: x :: st) σ) : V G mi ad Q d pc ls (x :: st) σ := by
  intro p l e s m args below meth c H locs A D cI cZ la O L P Dd S hA
  exact lv_dup O.1 O.2.1 hd h1 (k p l e s m args below meth c H locs A D cI cZ la O L P Dd S hA)
theorem V.pop {x : Value} (h1 : x.category = 1) (hd : decode mi.2.1 pc = .ok (.pop, 1)) (k : V G mi ad Q d (pc + 1) ls (st) σ) : V G mi ad Q d pc ls (x :: st) σ := by
  intro p l e s m args below meth c H locs A D cI cZ la O L P Dd S hA
  exact lv_pop O.1 O.2.1 hd h1 (k p l e s m args below meth c H locs A D cI cZ la O L P Dd S hA)
theorem V.dup2 {x y : Value} (h1 : x.category = 1) (h2 : y.category = 1) (hd : decode mi.2.1 pc = .ok (.dup2, 1)) (k : V G mi ad Q d (pc + 1) ls (x :: y :: x :: y :: st) σ) : V G mi ad Q d pc ls (x :: y :: st) σ := by
  intro p l e s m args below meth c H locs A D cI cZ la O L P Dd S hA
  exact lv_dup2_11 O.1 O.2.1 hd h1 h2 (k p l e s m args below meth c H locs A D cI cZ la O L P Dd S hA)
theorem V.if_eq {x : Int32} {off : Int} {tgt : Nat} (hd : decode mi.2.1 pc = .ok (.ifCond .eq off, 3)) (ht : (pc : Int) + off = (tgt : Int)) (kt : x = 0 → V G mi ad Q d tgt ls st σ) (kf : ¬ x = 0 → V G mi ad Q d (pc + 3) ls st σ) : V G mi ad Q d pc ls (.int x :: st) σ := by
  intro p l e s m args below meth c H locs A D cI cZ la O L P Dd S hA
  exact lv_if_eq O.1 O.2.1 hd ht (fun h => kt h p l e s m args below meth c H locs A D cI cZ la O L P Dd S hA) (fun h => kf h p l e s m args below meth c H locs A D cI cZ la O L P Dd S hA)
theorem V.icmp_eq {x y : Int32} {off : Int} {tgt : Nat} (hd : decode mi.2.1 pc = .ok (.if_icmp .eq off, 3)) (ht : (pc : Int) + off = (tgt : Int)) (kt : x = y → V G mi ad Q d tgt ls st σ) (kf : ¬ x = y → V G mi ad Q d (pc + 3) ls st σ) : V G mi ad Q d pc ls (.int y :: .int x :: st) σ := by
  intro p l e s m args below meth c H locs A D cI cZ la O L P Dd S hA
  exact lv_icmp_eq O.1 O.2.1 hd ht (fun h => kt h p l e s m args below meth c H locs A D cI cZ la O L P Dd S hA) (fun h => kf h p l e s m args below meth c H locs A D cI cZ la O L P Dd S hA)
theorem V.if_ne {x : Int32} {off : Int} {tgt : Nat} (hd : decode mi.2.1 pc = .ok (.ifCond .ne off, 3)) (ht : (pc : Int) + off = (tgt : Int)) (kt : ¬ x = 0 → V G mi ad Q d tgt ls st σ) (kf : x = 0 → V G mi ad Q d (pc + 3) ls st σ) : V G mi ad Q d pc ls (.int x :: st) σ := by
  intro p l e s m args below meth c H locs A D cI cZ la O L P Dd S hA
  exact lv_if_ne O.1 O.2.1 hd ht (fun h => kt h p l e s m args below meth c H locs A D cI cZ la O L P Dd S hA) (fun h => kf h p l e s m args below meth c H locs A D cI cZ la O L P Dd S hA)
theorem V.icmp_ne {x y : Int32} {off : Int} {tgt : Nat} (hd : decode mi.2.1 pc = .ok (.if_icmp .ne off, 3)) (ht : (pc : Int) + off = (tgt : Int)) (kt : ¬ x = y → V G mi ad Q d tgt ls st σ) (kf : x = y → V G mi ad Q d (pc + 3) ls st σ) : V G mi ad Q d pc ls (.int y :: .int x :: st) σ := by
  intro p l e s m args below meth c H locs A D cI cZ la O L P Dd S hA
  exact lv_icmp_ne O.1 O.2.1 hd ht (fun h => kt h p l e s m args below meth c H locs A D cI cZ la O L P Dd S hA) (fun h => kf h p l e s m args below meth c H locs A D cI cZ la O L P Dd S hA)
theorem V.if_lt {x : Int32} {off : Int} {tgt : Nat} (hd : decode mi.2.1 pc = .ok (.ifCond .lt off, 3)) (ht : (pc : Int) + off = (tgt : Int)) (kt : x < 0 → V G mi ad Q d tgt ls st σ) (kf : ¬ x < 0 → V G mi ad Q d (pc + 3) ls st σ) : V G mi ad Q d pc ls (.int x :: st) σ := by
  intro p l e s m args below meth c H locs A D cI cZ la O L P Dd S hA
  exact lv_if_lt O.1 O.2.1 hd ht (fun h => kt h p l e s m args below meth c H locs A D cI cZ la O L P Dd S hA) (fun h => kf h p l e s m args below meth c H locs A D cI cZ la O L P Dd S hA)
theorem V.icmp_lt {x y : Int32} {off : Int} {tgt : Nat} (hd : decode mi.2.1 pc = .ok (.if_icmp .lt off, 3)) (ht : (pc : Int) + off = (tgt : Int)) (kt : x < y → V G mi ad Q d tgt ls st σ) (kf : ¬ x < y → V G mi ad Q d (pc + 3) ls st σ) : V G mi ad Q d pc ls (.int y :: .int x :: st) σ := by
  intro p l e s m args below meth c H locs A D cI cZ la O L P Dd S hA
  exact lv_icmp_lt O.1 O.2.1 hd ht (fun h => kt h p l e s m args below meth c H locs A D cI cZ la O L P Dd S hA) (fun h => kf h p l e s m args below meth c H locs A D cI cZ la O L P Dd S hA)
theorem V.if_ge {x : Int32} {off : Int} {tgt : Nat} (hd : decode mi.2.1 pc = .ok (.ifCond .ge off, 3)) (ht : (pc : Int) + off = (tgt : Int)) (kt : 0 ≤ x → V G mi ad Q d tgt ls st σ) (kf : ¬ 0 ≤ x → V G mi ad Q d (pc + 3) ls st σ) : V G mi ad Q d pc ls (.int x :: st) σ := by
  intro p l e s m args below meth c H locs A D cI cZ la O L P Dd S hA
  exact lv_if_ge O.1 O.2.1 hd ht (fun h => kt h p l e s m args below meth c H locs A D cI cZ la O L P Dd S hA) (fun h => kf h p l e s m args below meth c H locs A D cI cZ la O L P Dd S hA)
theorem V.icmp_ge {x y : Int32} {off : Int} {tgt : Nat} (hd : decode mi.2.1 pc = .ok (.if_icmp .ge off, 3)) (ht : (pc : Int) + off = (tgt : Int)) (kt : y ≤ x → V G mi ad Q d tgt ls st σ) (kf : ¬ y ≤ x → V G mi ad Q d (pc + 3) ls st σ) : V G mi ad Q d pc ls (.int y :: .int x :: st) σ := by
  intro p l e s m args below meth c H locs A D cI cZ la O L P Dd S hA
  exact lv_icmp_ge O.1 O.2.1 hd ht (fun h => kt h p l e s m args below meth c H locs A D cI cZ la O L P Dd S hA) (fun h => kf h p l e s m args below meth c H locs A D cI cZ la O L P Dd S hA)
theorem V.if_gt {x : Int32} {off : Int} {tgt : Nat} (hd : decode mi.2.1 pc = .ok (.ifCond .gt off, 3)) (ht : (pc : Int) + off = (tgt : Int)) (kt : 0 < x → V G mi ad Q d tgt ls st σ) (kf : ¬ 0 < x → V G mi ad Q d (pc + 3) ls st σ) : V G mi ad Q d pc ls (.int x :: st) σ := by
  intro p l e s m args below meth c H locs A D cI cZ la O L P Dd S hA
  exact lv_if_gt O.1 O.2.1 hd ht (fun h => kt h p l e s m args below meth c H locs A D cI cZ la O L P Dd S hA) (fun h => kf h p l e s m args below meth c H locs A D cI cZ la O L P Dd S hA)
theorem V.icmp_gt {x y : Int32} {off : Int} {tgt : Nat} (hd : decode mi.2.1 pc = .ok (.if_icmp .gt off, 3)) (ht : (pc : Int) + off = (tgt : Int)) (kt : y < x → V G mi ad Q d tgt ls st σ) (kf : ¬ y < x → V G mi ad Q d (pc + 3) ls st σ) : V G mi ad Q d pc ls (.int y :: .int x :: st) σ := by
  intro p l e s m args below meth c H locs A D cI cZ la O L P Dd S hA
  exact lv_icmp_gt O.1 O.2.1 hd ht (fun h => kt h p l e s m args below meth c H locs A D cI cZ la O L P Dd S hA) (fun h => kf h p l e s m args below meth c H locs A D cI cZ la O L P Dd S hA)
theorem V.if_le {x : Int32} {off : Int} {tgt : Nat} (hd : decode mi.2.1 pc = .ok (.ifCond .le off, 3)) (ht : (pc : Int) + off = (tgt : Int)) (kt : x ≤ 0 → V G mi ad Q d tgt ls st σ) (kf : ¬ x ≤ 0 → V G mi ad Q d (pc + 3) ls st σ) : V G mi ad Q d pc ls (.int x :: st) σ := by
  intro p l e s m args below meth c H locs A D cI cZ la O L P Dd S hA
  exact lv_if_le O.1 O.2.1 hd ht (fun h => kt h p l e s m args below meth c H locs A D cI cZ la O L P Dd S hA) (fun h => kf h p l e s m args below meth c H locs A D cI cZ la O L P Dd S hA)
theorem V.icmp_le {x y : Int32} {off : Int} {tgt : Nat} (hd : decode mi.2.1 pc = .ok (.if_icmp .le off, 3)) (ht : (pc : Int) + off = (tgt : Int)) (kt : x ≤ y → V G mi ad Q d tgt ls st σ) (kf : ¬ x ≤ y → V G mi ad Q d (pc + 3) ls st σ) : V G mi ad Q d pc ls (.int y :: .int x :: st) σ := by
  intro p l e s m args below meth c H locs A D cI cZ la O L P Dd S hA
  exact lv_icmp_le O.1 O.2.1 hd ht (fun h => kt h p l e s m args below meth c H locs A D cI cZ la O L P Dd S hA) (fun h => kf h p l e s m args below meth c H locs A D cI cZ la O L P Dd S hA)
theorem V.goto {off : Int} {tgt : Nat} (hd : decode mi.2.1 pc = .ok (.goto off, 3)) (ht : (pc : Int) + off = (tgt : Int)) (k : V G mi ad Q d tgt ls st σ) : V G mi ad Q d pc ls st σ := by
  intro p l e s m args below meth c H locs A D cI cZ la O L P Dd S hA
  exact lv_goto O.1 O.2.1 hd ht (k p l e s m args below meth c H locs A D cI cZ la O L P Dd S hA)
theorem V.lookup {dflt : Int} {ps : Array (Int × Int)} {len : Nat} {x : Int32} {off : Int} {tgt : Nat} (hd : decode mi.2.1 pc = .ok (.lookupswitch dflt ps, len)) (hp : (ps.toList.zip (ps.toList.drop 1)).all (fun (a, next) => a.1 < next.1) = true) (ho : Op.lookupswitch.offset ps.toList dflt x.toInt = off) (ht : (pc : Int) + off = (tgt : Int)) (k : V G mi ad Q d tgt ls st σ) : V G mi ad Q d pc ls (.int x :: st) σ := by
  intro p l e s m args below meth c H locs A D cI cZ la O L P Dd S hA
  exact lv_lookup O.1 O.2.1 hd hp ho ht (k p l e s m args below meth c H locs A D cI cZ la O L P Dd S hA)
theorem V.tableOut {dflt lo hi : Int} {offs : Array Int} {len : Nat} {x : Int32} {tgt : Nat} (hd : decode mi.2.1 pc = .ok (.tableswitch dflt lo hi offs, len)) (h : x.toInt < lo ∨ hi < x.toInt) (ht : (pc : Int) + dflt = (tgt : Int)) (k : V G mi ad Q d tgt ls st σ) : V G mi ad Q d pc ls (.int x :: st) σ := by
  intro p l e s m args below meth c H locs A D cI cZ la O L P Dd S hA
  exact lv_tableOut O.1 O.2.1 hd h ht (k p l e s m args below meth c H locs A D cI cZ la O L P Dd S hA)
theorem V.tableIn {dflt lo hi : Int} {offs : Array Int} {len : Nat} {x : Int32} {off : Int} {tgt : Nat} (hd : decode mi.2.1 pc = .ok (.tableswitch dflt lo hi offs, len)) (h1 : ¬ x.toInt < lo) (h2 : ¬ hi < x.toInt) (ho : offs[(x.toInt - lo).toNat]? = some off) (ht : (pc : Int) + off = (tgt : Int)) (k : V G mi ad Q d tgt ls st σ) : V G mi ad Q d pc ls (.int x :: st) σ := by
  intro p l e s m args below meth c H locs A D cI cZ la O L P Dd S hA
  exact lv_tableIn O.1 O.2.1 hd h1 h2 ho ht (k p l e s m args below meth c H locs A D cI cZ la O L P Dd S hA)
theorem V.iret {x : Int32} (hd : decode mi.2.1 pc = .ok (.ireturn, 1)) (hr : mi.2.2.2 = some .int) (hq : Q (some (.int x)) σ) : V G mi ad Q d pc ls [.int x] σ := by
  intro p l e s m args below meth c H locs A D cI cZ la O L P Dd S hA
  exact W.iret O.1 O.2.1 (O.2.2.2.1.trans hr) (fun t ht _ => ⟨_, σ, rfl, hq, by rw [ht]; exact P, S.F ht⟩) S.2.2 hd (hlocks := O.2.2.2.2.1)
theorem V.lret {x : Int64} (hd : decode mi.2.1 pc = .ok (.lreturn, 1)) (hr : mi.2.2.2 = some .long) (hq : Q (some (.long x)) σ) : V G mi ad Q d pc ls [.long x] σ := by
  intro p l e s m args below meth c H locs A D cI cZ la O L P Dd S hA
  exact W.lret O.1 O.2.1 (O.2.2.2.1.trans hr) (fun t ht _ => ⟨_, σ, rfl, hq, by rw [ht]; exact P, S.F ht⟩) S.2.2 hd (hlocks := O.2.2.2.2.1)
theorem V.vret (hd : decode mi.2.1 pc = .ok (.return_, 1)) (hr : mi.2.2.2 = none) (hq : Q (none) σ) : V G mi ad Q d pc ls [] σ := by
  intro p l e s m args below meth c H locs A D cI cZ la O L P Dd S hA
  exact W.vret O.1 O.2.1 (O.2.2.2.1.trans hr) (fun t ht _ => ⟨_, σ, rfl, hq, by rw [ht]; exact P, S.F ht⟩) S.2.2 hd (hlocks := O.2.2.2.2.1)
theorem vNarZ {x : Int32} (h : x = 0 ∨ x = 1) : narrow .boolean (.int x) = .int x := by rcases h with rfl | rfl <;> rfl
theorem V.zret {x : Int32} (hd : decode mi.2.1 pc = .ok (.ireturn, 1)) (hr : mi.2.2.2 = some .boolean) (hz : x = 0 ∨ x = 1) (hq : Q (some (.int x)) σ) : V G mi ad Q d pc ls [.int x] σ := by
  intro p l e s m args below meth c H locs A D cI cZ la O L P Dd S hA
  exact W.zret O.1 O.2.1 (O.2.2.2.1.trans hr) (vNarZ hz) (fun t ht _ => ⟨_, σ, rfl, hq, by rw [ht]; exact P, S.F ht⟩) S.2.2 hd (hlocks := O.2.2.2.2.1)
theorem V.aret {a : Nat} {n : String} (hd : decode mi.2.1 pc = .ok (.areturn, 1)) (hr : mi.2.2.2 = some (.object n)) (hq : Q (some (.ref a)) σ) : V G mi ad Q d pc ls [.ref a] σ := by
  intro p l e s m args below meth c H locs A D cI cZ la O L P Dd S hA
  exact W.aret O.1 O.2.1 (O.2.2.2.1.trans hr) (Or.inl ⟨n, rfl⟩) (Or.inr ⟨a, rfl⟩) (fun t ht _ => ⟨_, σ, rfl, hq, by rw [ht]; exact P, S.F ht⟩) S.2.2 hd (hlocks := O.2.2.2.2.1)
/-- a field's link, by the tables -/
def vFL (own : String) (idx ci k : Nat) : Prop := ∀ (C : String) (T : u_T) (N : Nat), classes[ci]? = some (C, T, N) → k < N ∧ (Cond.fieldLink own idx (T k).1 (T k).2.1 (T k).2.2.1 ∈ vTbl ∨ ∃ host, Cond.fieldLinkNest own idx (T k).1 (T k).2.1 (T k).2.2.1 host ∈ vTbl)
theorem vCl {ci k : Nat} (hk : ci < 9) : ∃ (C : String) (T : u_T), classes[ci]? = some (C, T, vN ci) := by
  match ci, hk with
  | 0, _ => exact ⟨_, _, rfl⟩
  | 1, _ => exact ⟨_, _, rfl⟩
  | 2, _ => exact ⟨_, _, rfl⟩
  | 3, _ => exact ⟨_, _, rfl⟩
  | 4, _ => exact ⟨_, _, rfl⟩
  | 5, _ => exact ⟨_, _, rfl⟩
  | 6, _ => exact ⟨_, _, rfl⟩
  | 7, _ => exact ⟨_, _, rfl⟩
  | 8, _ => exact ⟨_, _, rfl⟩
theorem vCell_obj {cI cZ : ClassId} {G : vCfg} {n ci z : Nat} (hg : G.2.1 n = (ci + 2, z)) : vCell cI cZ ad G σ n = .inr (ci, (List.range (vN ci)).map (fun j => vFld ad G σ n j (vTy ci j))) := by
  unfold vCell
  rw [hg]
theorem V.get {n ci k idx z : Nat} {v : Value} (hd : decode mi.2.1 pc = .ok (.getfield idx, 3)) (hf : vFL mi.1.cls idx ci k) (hn : n < G.1) (hg : G.2.1 n = (ci + 2, z)) (hc9 : ci < 9) (hv : vFld ad G σ n k (vTy ci k) = v) (kk : V G mi ad Q d (pc + 3) ls (v :: st) σ) : V G mi ad Q d pc ls (.ref (ad n) :: st) σ := by
  intro p l e s m args below meth c H locs A D cI cZ la O L P Dd S hA
  obtain ⟨C, T, hc⟩ := vCl (ci := ci) (k := k) hc9
  obtain ⟨hk, hl⟩ := hf C T _ hc
  have hw : (vW cI cZ ad G σ)[n]? = some (ad n, .inr (ci, (List.range (vN ci)).map (fun j => vFld ad G σ n j (vTy ci j)))) := by rw [vW_get _ _ _ _ _ hn, vCell_obj hg]
  have hfs : ((List.range (vN ci)).map (fun j => vFld ad G σ n j (vTy ci j)))[k]? = some v := by simp [hk, hv]
  rcases hl with hl | ⟨host, hl⟩
  · exact va_get O.1 O.2.1 O.2.2.2.2.2.2.1 (vIn hc) O.2.2.2.2.2.1 O.2.2.2.2.2.2.2 P n hw hc k hk (O.2.2.2.2.2.2.1 _ hl) (fun _ h => h) hfs hd (kk p l e s m args below meth c H locs A D cI cZ la O L P Dd S hA)
  · exact va_getN O.1 O.2.1 O.2.2.2.2.2.2.1 (vIn hc) O.2.2.2.2.2.1 O.2.2.2.2.2.2.2 P n hw hc k hk (O.2.2.2.2.2.2.1 _ hl) (fun _ h => h) hfs hd (kk p l e s m args below meth c H locs A D cI cZ la O L P Dd S hA)
/-- a field's link where it isn't final -/
def vFP (own : String) (idx ci k : Nat) : Prop := ∀ (C : String) (T : u_T) (N : Nat), classes[ci]? = some (C, T, N) → k < N ∧ (T k).2.2.2 = false ∧ Cond.fieldLink own idx (T k).1 (T k).2.1 (T k).2.2.1 ∈ vTbl
theorem V.put {n ci k idx z : Nat} {v : Value} {τ : vMem} (hd : decode mi.2.1 pc = .ok (.putfield idx, 3)) (hf : vFP mi.1.cls idx ci k) (hn : n < G.1) (hg : G.2.1 n = (ci + 2, z)) (hc9 : ci < 9) (hnar : narrow (vTy ci k) v = v) (hfit : fits (vTy ci k) v = true) (hv : vFld ad G τ n k (vTy ci k) = v)
    (hne : ∀ a, a ≠ n → τ.1 a = σ.1 a) (hneL : ∀ a, a ≠ n → τ.2 a = σ.2 a) (hq : ∀ j, j ≠ k → τ.1 n j = σ.1 n j) (hqL : ∀ j, j ≠ k → τ.2 n j = σ.2 n j) (kk : V G mi ad Q d (pc + 3) ls st τ) : V G mi ad Q d pc ls (v :: .ref (ad n) :: st) σ := by
  intro p l e s m args below meth c H locs A D cI cZ la O L P Dd S hA
  obtain ⟨C, T, hc⟩ := vCl (ci := ci) (k := k) hc9
  obtain ⟨hk, hfin, hl⟩ := hf C T _ hc
  have hw : (vW cI cZ ad G σ)[n]? = some (ad n, .inr (ci, (List.range (vN ci)).map (fun j => vFld ad G σ n j (vTy ci j)))) := by rw [vW_get _ _ _ _ _ hn, vCell_obj hg]
  refine va_put O.1 O.2.1 O.2.2.2.2.2.2.1 (vIn hc) (vTy ci) (vTy_ok hc) (vNm hc) O.2.2.2.2.2.1 O.2.2.2.2.2.2.2 P Dd S n hw hc k hk (O.2.2.2.2.2.2.1 _ hl) (fun _ h => h) hfin (vTy_ok hc k hk) hnar hfit (by simpa using hk) hd (fun H1 locs1 hP hD hS => ?_)
  rw [vW_obj cI cZ ad G hn hg hk hv hne hneL hq hqL] at hP hD
  exact kk p l e s m args below meth c H1 locs1 A D cI cZ la O L hP hD hS hA
theorem upd_ne {f : Nat → Int32} {k j : Nat} {x : Int32} (h : j ≠ k) : upd f k x j = f j := by simp [upd, h]
theorem upd_eq {f : Nat → Int32} {k : Nat} {x : Int32} : upd f k x k = x := by simp [upd]
theorem V.putI {n ci k idx z : Nat} {x : Int32} (hd : decode mi.2.1 pc = .ok (.putfield idx, 3)) (hf : vFP mi.1.cls idx ci k) (hn : n < G.1) (hg : G.2.1 n = (ci + 2, z)) (hc9 : ci < 9) (ht : vTy ci k = .int) (kk : V G mi ad Q d (pc + 3) ls st (vup σ n k x)) : V G mi ad Q d pc ls (.int x :: .ref (ad n) :: st) σ :=
  V.put hd hf hn hg hc9 (by rw [ht]; rfl) (by rw [ht]; rfl) (by rw [ht]; show Value.int _ = _; rw [vup_eq, upd_eq]) (fun a h => vup_ne σ x h) (fun _ _ => rfl) (fun j h => by rw [vup_eq, upd_ne h]) (fun _ _ => rfl) kk
theorem V.putZ {n ci k idx z : Nat} {x : Int32} (hd : decode mi.2.1 pc = .ok (.putfield idx, 3)) (hf : vFP mi.1.cls idx ci k) (hn : n < G.1) (hg : G.2.1 n = (ci + 2, z)) (hc9 : ci < 9) (ht : vTy ci k = .boolean) (hx : x = 0 ∨ x = 1) (kk : V G mi ad Q d (pc + 3) ls st (vup σ n k x)) : V G mi ad Q d pc ls (.int x :: .ref (ad n) :: st) σ :=
  V.put hd hf hn hg hc9 (by rw [ht]; exact vNarZ hx) (by rw [ht]; rcases hx with rfl | rfl <;> rfl) (by rw [ht]; show Value.int _ = _; rw [vup_eq, upd_eq]) (fun a h => vup_ne σ x h) (fun _ _ => rfl) (fun j h => by rw [vup_eq, upd_ne h]) (fun _ _ => rfl) kk
theorem V.putL {n ci k idx z : Nat} {x : Int64} (hd : decode mi.2.1 pc = .ok (.putfield idx, 3)) (hf : vFP mi.1.cls idx ci k) (hn : n < G.1) (hg : G.2.1 n = (ci + 2, z)) (hc9 : ci < 9) (ht : vTy ci k = .long) (kk : V G mi ad Q d (pc + 3) ls st (vupL σ n k x)) : V G mi ad Q d pc ls (.long x :: .ref (ad n) :: st) σ :=
  V.put (τ := vupL σ n k x) hd hf hn hg hc9 (by rw [ht]; rfl) (by rw [ht]; rfl) (by rw [ht]; show Value.long _ = _; simp [vupL]) (fun _ _ => rfl) (fun a h => vupL_ne σ x h) (fun _ _ => rfl) (fun j h => by simp [vupL, h]) kk
theorem vCell_int {cI cZ : ClassId} {G : vCfg} {n len : Nat} (hg : G.2.1 n = (0, len)) : vCell cI cZ ad G σ n = .inl (cI, len, .inl (σ.1 n)) := by
  unfold vCell
  rw [hg]
theorem vCell_boo {cI cZ : ClassId} {G : vCfg} {n len : Nat} (hg : G.2.1 n = (1, len)) : vCell cI cZ ad G σ n = .inl (cZ, len, .inl (σ.1 n)) := by
  unfold vCell
  rw [hg]
theorem V.iald {n len : Nat} {i : Int32} (hd : decode mi.2.1 pc = .ok (.iaload, 1)) (hn : n < G.1) (hg : G.2.1 n = (0, len)) (hi : vp_in i len) (kk : V G mi ad Q d (pc + 1) ls (.int (σ.1 n i.toNatClampNeg) :: st) σ) : V G mi ad Q d pc ls (.int i :: .ref (ad n) :: st) σ := by
  intro p l e s m args below meth c H locs A D cI cZ la O L P Dd S hA
  exact va_iald O.1 O.2.1 O.2.2.2.2.2.2.2 P n 0 (by rw [vW_get _ _ _ _ _ hn, vCell_int hg]) rfl hi hd (kk p l e s m args below meth c H locs A D cI cZ la O L P Dd S hA)
theorem V.zald {n len : Nat} {i : Int32} (hd : decode mi.2.1 pc = .ok (.baload, 1)) (hn : n < G.1) (hg : G.2.1 n = (1, len)) (hi : vp_in i len) (kk : V G mi ad Q d (pc + 1) ls (.int (σ.1 n i.toNatClampNeg) :: st) σ) : V G mi ad Q d pc ls (.int i :: .ref (ad n) :: st) σ := by
  intro p l e s m args below meth c H locs A D cI cZ la O L P Dd S hA
  exact va_zald O.1 O.2.1 O.2.2.2.2.2.2.2 P n 1 (by rw [vW_get _ _ _ _ _ hn, vCell_boo hg]) rfl hi hd (kk p l e s m args below meth c H locs A D cI cZ la O L P Dd S hA)
theorem V.iast {n len : Nat} {i x : Int32} (hd : decode mi.2.1 pc = .ok (.iastore, 1)) (hn : n < G.1) (hg : G.2.1 n = (0, len)) (hi : vp_in i len) (kk : V G mi ad Q d (pc + 1) ls st (vup σ n i.toNatClampNeg x)) : V G mi ad Q d pc ls (.int x :: .int i :: .ref (ad n) :: st) σ := by
  intro p l e s m args below meth c H locs A D cI cZ la O L P Dd S hA
  refine va_iast O.1 O.2.1 O.2.2.2.2.2.2.2 P Dd S n 0 (by rw [vW_get _ _ _ _ _ hn, vCell_int hg]) rfl hi hd (fun H1 locs1 hP hD hS => ?_)
  rw [← vup_eq, ← vCell_int (cZ := cZ) (ad := ad) hg, vW_arr cI cZ ad G hn (fun a h => vup_ne σ x h) rfl] at hP hD
  exact kk p l e s m args below meth c H1 locs1 A D cI cZ la O L hP hD hS hA
theorem vp_narZ {x : Int32} (h : x = 0 ∨ x = 1) : vp_nar .boolean x = x := by rcases h with rfl | rfl <;> rfl
theorem V.zast {n len : Nat} {i x : Int32} (hd : decode mi.2.1 pc = .ok (.bastore, 1)) (hn : n < G.1) (hg : G.2.1 n = (1, len)) (hi : vp_in i len) (hx : x = 0 ∨ x = 1) (kk : V G mi ad Q d (pc + 1) ls st (vup σ n i.toNatClampNeg x)) : V G mi ad Q d pc ls (.int x :: .int i :: .ref (ad n) :: st) σ := by
  intro p l e s m args below meth c H locs A D cI cZ la O L P Dd S hA
  refine va_zast O.1 O.2.1 O.2.2.2.2.2.2.2 P Dd S n 1 (by rw [vW_get _ _ _ _ _ hn, vCell_boo hg]) rfl hi hd (fun H1 locs1 hP hD hS => ?_)
  rw [vp_narZ hx, ← vup_eq, ← vCell_boo (cI := cI) (ad := ad) hg, vW_arr cI cZ ad G hn (fun a h => vup_ne σ x h) rfl] at hP hD
  exact kk p l e s m args below meth c H1 locs1 A D cI cZ la O L hP hD hS hA
theorem V.alen {n len : Nat} {v : Int32} (hd : decode mi.2.1 pc = .ok (.arraylength, 1)) (hn : n < G.1) (hg : G.2.1 n = (0, len)) (hv : Int32.ofNat len = v) (kk : V G mi ad Q d (pc + 1) ls (.int v :: st) σ) : V G mi ad Q d pc ls (.ref (ad n) :: st) σ := by
  intro p l e s m args below meth c H locs A D cI cZ la O L P Dd S hA
  exact va_alen O.1 O.2.1 O.2.2.2.2.2.2.2 P n 0 (by rw [vW_get _ _ _ _ _ hn, vCell_int hg]) rfl hv hd (kk p l e s m args below meth c H locs A D cI cZ la O L P Dd S hA)
theorem V.copy {n0 n1 l0 l1 idx : Nat} {sp dp n : Int32} (hd : decode mi.2.1 pc = .ok (.invokestatic idx, 3)) (hlk : Cond.methodLink mi.1.cls idx arraycopyName ∈ vTbl) (hnat : Cond.native arraycopyName ∈ vTbl) (hsta : Cond.static arraycopyName ∈ vTbl) (hini : Cond.initialized "java/lang/System" ∈ vTbl)
    (hn0 : n0 < G.1) (hg0 : G.2.1 n0 = (0, l0)) (hn1 : n1 < G.1) (hg1 : G.2.1 n1 = (0, l1)) (h1 : ¬ sp < 0) (h2 : ¬ dp < 0) (h3 : ¬ n < 0) (h4 : sp.toNatClampNeg + n.toNatClampNeg ≤ l0) (h5 : dp.toNatClampNeg + n.toNatClampNeg ≤ l1) (hfr : 1 ≤ d) (hlo : (st.map fun v => v.category).sum + (nativeFrameWords "java/lang/System" "arraycopy" 5 + 11) ≤ 40 * d)
    (kk : V G mi ad Q d (pc + 3) ls st (vcp σ n0 n1 sp.toNatClampNeg dp.toNatClampNeg n.toNatClampNeg)) : V G mi ad Q d pc ls (.int n :: .int dp :: .ref (ad n1) :: .int sp :: .ref (ad n0) :: st) σ := by
  intro p l e s m args below meth c H locs A D cI cZ la O L P Dd S hA
  refine va_copyi (ty := .int) O.1 O.2.1 (O.2.2.1.trans L.1.symm) O.2.2.2.2.2.1 (O.2.2.2.2.2.2.1 _ hlk) (O.2.2.2.2.2.2.1 _ hnat) (O.2.2.2.2.2.2.1 _ hsta) (O.2.2.2.2.2.2.1 _ hini) O.2.2.2.2.2.2.2 P Dd S n0 n1 0 0 (by rw [vW_get _ _ _ _ _ hn0, vCell_int hg0]) (by rw [vW_get _ _ _ _ _ hn1, vCell_int hg1]) rfl rfl rfl h1 h2 h3 h4 h5 (fun _ _ => rfl) hfr hlo hd (fun H1 locs1 hP hD hS => ?_)
  have ec : va_cpy (σ.1 n0) (σ.1 n1) sp.toNatClampNeg dp.toNatClampNeg n.toNatClampNeg = (vcp σ n0 n1 sp.toNatClampNeg dp.toNatClampNeg n.toNatClampNeg).1 n1 := by simp [vcp]
  rw [ec, ← vCell_int (cZ := cZ) (ad := ad) hg1, vW_arr (σ := σ) (τ := vcp σ n0 n1 sp.toNatClampNeg dp.toNatClampNeg n.toNatClampNeg) cI cZ ad G hn1 (fun a h => by simp [vcp, h]) rfl] at hP hD
  exact kk p l e s m args below meth c H1 locs1 A D cI cZ la O L hP hD hS hA
theorem V.mono {Q2 : Option Value → vMem → Prop} (h : V G mi ad Q d pc ls st σ) (hq : ∀ r τ, Q r τ → Q2 r τ) : V G mi ad Q2 d pc ls st σ := by
  intro p l e s m args below meth c H locs A D cI cZ la O L P Dd S hA
  intro T hT X
  obtain ⟨t, a, o, b1, b2, ⟨r, τ, c1, c2, c3, c4⟩, b4⟩ := h p l e s m args below meth c H locs A D cI cZ la O L P Dd S hA T hT X
  exact ⟨t, a, o, b1, b2, ⟨r, τ, c1, hq r τ c2, c3, c4⟩, b4⟩
end VR
end
section
/-- the locals with which a method begins -/
def vLs : List Value → List (Option Value)
  | [] => []
  | v :: vs => if v.category = 2 then some v :: none :: vLs vs else some v :: vLs vs
def vEn (vs : List Value) (n : Nat) : List (Option Value) := vLs vs ++ List.replicate (n - (vLs vs).length) none
theorem vLs_args : ∀ (vs : List Value) (i : Nat) (j : Nat) (v : Value), (vLs vs)[j]? = some (some v) → (i + j, v) ∈ lv_args i vs
  | [], i, j, v, h => by simp [vLs] at h
  | w :: vs, i, j, v, h => by
    unfold vLs at h
    unfold lv_args
    by_cases hw : w.category = 2
    · rw [if_pos hw] at h ⊢
      match j, h with
      | 0, h =>
        have : w = v := by simpa using h
        subst this
        exact List.mem_cons_self
      | 1, h => simp at h
      | j + 2, h =>
        have := vLs_args vs (i + 2) j v (by simpa using h)
        rw [show i + (j + 2) = i + 2 + j by omega]
        exact List.mem_cons_of_mem _ this
    · rw [if_neg hw] at h ⊢
      match j, h with
      | 0, h =>
        have : w = v := by simpa using h
        subst this
        exact List.mem_cons_self
      | j + 1, h =>
        have := vLs_args vs (i + 1) j v (by simpa using h)
        rw [show i + (j + 1) = i + 1 + j by omega]
        exact List.mem_cons_of_mem _ this
theorem vEn_args {vs : List Value} {n j : Nat} {v : Value} (h : (vEn vs n)[j]? = some (some v)) : (j, v) ∈ lv_args 0 vs := by
  unfold vEn at h
  rcases Nat.lt_or_ge j (vLs vs).length with q | q
  · rw [List.getElem?_append_left q] at h
    simpa using vLs_args vs 0 j v h
  · rw [List.getElem?_append_right q, List.getElem?_replicate] at h
    split at h <;> cases h
def vPre (D : va_G) (cI cZ : ClassId) (ad : Nat → Nat) (G : vCfg) (σ : vMem) (sz : Nat) (U : State) : Prop := U.heap.size = sz ∧ va_P D classes (vW cI cZ ad G σ) U.heap ∧ va_K D classes (vTys cI cZ) U ∧ va_D (fun _ => True) (vW cI cZ ad G σ)
abbrev vWs (mi : vMI) : List Cond := .code mi.1 mi.2.1 mi.2.2.1 mi.2.2.2 :: vTbl
/-- V at a method's beginning is its contract -/
theorem V.met {G : vCfg} {mi : vMI} {ad : Nat → Nat} {Q : Option Value → vMem → Prop} {d : Nat} {σ : vMem} {vs : List Value} (hp : plainName mi.1.cls = true) (hlen : (lg_sl vs).length ≤ mi.2.2.1) (h : V G mi ad Q d 0 (vEn vs mi.2.2.1) [] σ) (l : Launch) (D : va_G) (cI cZ : ClassId) (sz : Nat) :
    Met l mi.1 (vWs mi) (vRm d) (va_Pc vs (vPre D cI cZ ad G σ sz)) (vQ D cI cZ ad G (va_A (vW cI cZ ad G σ) sz) Q) 0 0 (va_A (vW cI cZ ad G σ) sz) := by
  refine Met.ofW (cc := mi.2.1) (maxL := mi.2.2.1) (ret := mi.2.2.2) hp rfl ?_
  intro p e s m args below meth c s₁ B hml hv
  obtain ⟨rfl, hsz, hP, hK, hD0⟩ := hv
  have hts := atoms_spec (ws := vWs mi) B.pre
  have hown : s.vm.findClass mi.1.cls = some m.cls := findClass_of_methodNamed B.named
  subst hsz
  have hl := lv_entry vs (n := mi.2.2.1) hlen
  rw [lg_entry_eq]
  exact h p l e s m vs.toArray below meth c s.heap [] (va_A (vW cI cZ ad G σ) s.heap.size) D cI cZ _ ⟨B.exec, B.bytes, hml, B.returns, B.notSynchronized, hown, fun w hw => hts w (List.mem_cons_of_mem _ hw), hK⟩ ⟨hl.1, hl.2.1, fun i v hi => hl.2.2 (i, v) (vEn_args hi)⟩ hP hD0.self va_S.rf (fun q h => Or.inr h)
theorem vPre_blind {D : va_G} {cI cZ : ClassId} {ad : Nat → Nat} {G : vCfg} {σ : vMem} {sz : Nat} {vs : List Value} : FrameBlind (va_Pc vs (vPre D cI cZ ad G σ sz)) := fun a U g mk q => by
  obtain ⟨q0, q1, qP, qK, qD⟩ := q
  exact ⟨q0, q1, qP, va_K.moved (u := U) (U := U.calling g mk a) (Vm.Alike.refl U.vm) qK, qD⟩
/-- what comes back from a call -/
def vPv (r : Option Value) (st : List Value) : List Value := match r with
  | none => st
  | some v => v :: st
/-- the tables' words of a method: code, link, class -/
def vMf (mi : vMI) (n : Nat) : Prop := plainName mi.1.cls = true ∧ Cond.code mi.1 mi.2.1 mi.2.2.1 mi.2.2.2 ∈ vTbl ∧ Cond.initialized mi.1.cls ∈ vTbl ∧ (mi.1.cls ≠ "java/lang/invoke/MethodHandle" ∧ mi.1.cls ≠ "java/lang/invoke/VarHandle" ∧ (parseMethodDescriptor mi.1.desc).map (fun d => d.parameters.length) = some n) ∧ mi.2.2.1 ≤ 21
def vMfV (mi : vMI) (n : Nat) : Prop := vMf mi n ∧ Cond.instanceMethod mi.1 ∈ vTbl ∧ Cond.selects mi.1.cls mi.1 mi.1 ∈ vTbl
def vMfS (mi : vMI) (n : Nat) : Prop := vMf mi n ∧ Cond.static mi.1 ∈ vTbl
section VC
variable {G : vCfg} {mi mc : vMI} {ad : Nat → Nat} {Q : Option Value → vMem → Prop} {d d' pc : Nat} {ls : List (Option Value)} {st : List Value} {σ : vMem}
theorem vGoodWs (hc : Cond.code mc.1 mc.2.1 mc.2.2.1 mc.2.2.2 ∈ vTbl) : GoodIn vTbl (vWs mc) := fun w hw => (List.mem_cons.mp hw).elim (fun e => e ▸ ⟨hc, Or.inl rfl⟩) (fun h => vGood vTbl (fun _ h => h) w h)
theorem vRm_le (h : d' < d) (h21 : mc.2.2.1 ≤ 21) : (vRm d').frames + 1 ≤ (vRm d).frames ∧ 8 + (mc.2.2.1 + 11) + (vRm d').locals ≤ (vRm d).locals := by
  refine ⟨h, ?_⟩
  show 8 + (mc.2.2.1 + 11) + 40 * d' ≤ 40 * d
  omega
/-- behind a call: the world as the callee left it -/
theorem vAfter {p : Program} {l : Launch} {e : Env} {s : State} {m : MethodId} {args : Array Value} {below : List Frame} {meth : Method} {c : Code} {H : Heap} {locs : List Loc} {A : Nat → Prop} {D : va_G} {cI cZ : ClassId} {la : Array Slot} {st0 : List Value} {a : Array Value}
    (O : vOK mi p s m meth c args D cI cZ) (L : vLk la mi.2.2.1 ls) (P : va_P D classes (vW cI cZ ad G σ) H) (Dd : va_D A (vW cI cZ ad G σ)) (S : va_S A s.heap H locs) (hA : ∀ q, s.heap.size ≤ q → A q)
    (hr : va_Run p l e (vRm d) s m args below meth c H locs 0 0 0 0 (F0 m pc la st0) st (vQ D cI cZ ad G (va_A (vW cI cZ ad G σ) H.size) (fun r τ => V G mi ad Q d (pc + 3) ls (vPv r st) τ) a) (va_A (vW cI cZ ad G σ) H.size)) :
    W p l e (vRm d) s m args below meth c H locs 0 0 (MQ below (vQ D cI cZ ad G A Q) args s 0 0 A) (F0 m pc la st0) := by
  intro T hT X
  obtain ⟨v, st₀, t, T', L1, h0, X', hL, e1, e2, ⟨r, τ, hv, hp, hb, hz, hk⟩, stp⟩ := hr T hT X
  cases hv
  rw [h0] at hz hk
  have hF : ∀ q, va_A (vW cI cZ ad G σ) H.size q → A q := fun q h => by
    rcases h with ⟨k, x, h⟩ | h
    · exact Dd.2 k _ h
    · exact hA q (Nat.le_trans S.1 h)
  have S1 : va_S A s.heap T'.heap (locs ++ L1) := ⟨Nat.le_trans S.1 (by rw [e1]; exact hz), fun q h1 h2 => by
      rw [e1, hk q (Nat.lt_of_lt_of_le h1 S.1) (fun z => h2 (hF q z))]
      exact S.2.1 q h1 h2, fun q hq => by
      rcases List.mem_append.mp hq with h | h
      · exact S.2.2 q h
      · exact hF _ (hL q h)⟩
  obtain ⟨t2, a1, b1⟩ := hp p l e s m args below meth c T'.heap (locs ++ L1) A D cI cZ la O L (by rw [e1]; exact hb) (vW_D τ Dd) S1 hA T' rfl X'
  refine ⟨t2, stp t2 ?_, b1⟩
  cases v <;> exact a1

theorem V.callV0 {b ci z idx : Nat} (hd : decode mi.2.1 pc = .ok (.invokevirtual idx, 3)) (hl : Cond.methodLink mi.1.cls idx mc.1 ∈ vTbl) (hf : vMfV mc 0) (hb : b < G.1) (hg : G.2.1 b = (ci + 2, z)) (hcl : classes[ci]? = some (mc.1.cls, (classes.getD ci ("", TX0, 0)).2.1, vN ci)) (hdd : d' < d) (hlen : (lg_sl (.ref (ad b) :: [])).length ≤ mc.2.2.1) (hst : (st.map fun v => v.category).sum ≤ 8)
    (k : V G mc ad (fun r τ => V G mi ad Q d (pc + 3) ls (vPv r st) τ) d' 0 (vEn (.ref (ad b) :: []) mc.2.2.1) [] σ) : V G mi ad Q d pc ls (.ref (ad b) :: st) σ := by
  intro p l e s m args below meth c H locs A D cI cZ la O L P Dd S hA
  obtain ⟨⟨hpl, hco, hin, hds, h21⟩, hins, hsel⟩ := hf
  have hts := O.2.2.2.2.2.2.1
  have cw : CallW (vRm d) s args mi.1.cls mc.1.cls idx mc.1 mc.2.1 mc.2.2.1 mc.2.2.2 (vWs mc) (vRm d') 0 0 0 := ⟨callB_of 0 hts (vGoodWs hco) rfl rfl rfl (hts _ hin) (hts _ hl) hds (vRm_le hdd h21), hts _ hins, hts _ hsel⟩
  have hcell : ∃ cellB : Cell, H[ad b]? = some cellB ∧ cellB.vm.isStatics = false ∧ s.vm.findClass mc.1.cls = some cellB.cls := by
    obtain ⟨r, h1, cell, q1, q2, q3, q4⟩ := P b _ (by rw [vW_get _ _ _ _ _ hb, vCell_obj hg])
    have hr := Option.some.inj (h1.symm.trans hcl)
    subst hr
    exact ⟨cell, q1, by rw [q3]; rfl, by rw [q2]; exact (O.2.2.2.2.2.2.2.1 ci _ hcl).2.1⟩
  exact vAfter O L P Dd S hA (va_runV (As := []) (rest := st) ⟨O.1, O.2.1, O.2.2.1, O.2.2.2.2.2.1, hts⟩ (V.met hpl hlen k l D cI cZ H.size) cw ⟨vPre_blind, hcell, fun U hU hW => ⟨rfl, by rw [hU], by rw [hU]; exact P, va_K.moved hW.alike O.2.2.2.2.2.2.2, Dd.weaken (fun _ _ _ _ => trivial)⟩⟩ rfl rfl L.1 rfl (lv_room hst) hd ⟨Nat.le_refl 0, Nat.le_refl 0⟩)
theorem V.callV1 {b ci z idx : Nat} {x1 : Value} (hd : decode mi.2.1 pc = .ok (.invokevirtual idx, 3)) (hl : Cond.methodLink mi.1.cls idx mc.1 ∈ vTbl) (hf : vMfV mc 1) (hb : b < G.1) (hg : G.2.1 b = (ci + 2, z)) (hcl : classes[ci]? = some (mc.1.cls, (classes.getD ci ("", TX0, 0)).2.1, vN ci)) (hdd : d' < d) (hlen : (lg_sl (.ref (ad b) :: [x1])).length ≤ mc.2.2.1) (hst : (st.map fun v => v.category).sum ≤ 8)
    (k : V G mc ad (fun r τ => V G mi ad Q d (pc + 3) ls (vPv r st) τ) d' 0 (vEn (.ref (ad b) :: [x1]) mc.2.2.1) [] σ) : V G mi ad Q d pc ls (x1 :: .ref (ad b) :: st) σ := by
  intro p l e s m args below meth c H locs A D cI cZ la O L P Dd S hA
  obtain ⟨⟨hpl, hco, hin, hds, h21⟩, hins, hsel⟩ := hf
  have hts := O.2.2.2.2.2.2.1
  have cw : CallW (vRm d) s args mi.1.cls mc.1.cls idx mc.1 mc.2.1 mc.2.2.1 mc.2.2.2 (vWs mc) (vRm d') 0 0 1 := ⟨callB_of 1 hts (vGoodWs hco) rfl rfl rfl (hts _ hin) (hts _ hl) hds (vRm_le hdd h21), hts _ hins, hts _ hsel⟩
  have hcell : ∃ cellB : Cell, H[ad b]? = some cellB ∧ cellB.vm.isStatics = false ∧ s.vm.findClass mc.1.cls = some cellB.cls := by
    obtain ⟨r, h1, cell, q1, q2, q3, q4⟩ := P b _ (by rw [vW_get _ _ _ _ _ hb, vCell_obj hg])
    have hr := Option.some.inj (h1.symm.trans hcl)
    subst hr
    exact ⟨cell, q1, by rw [q3]; rfl, by rw [q2]; exact (O.2.2.2.2.2.2.2.1 ci _ hcl).2.1⟩
  exact vAfter O L P Dd S hA (va_runV (As := [x1]) (rest := st) ⟨O.1, O.2.1, O.2.2.1, O.2.2.2.2.2.1, hts⟩ (V.met hpl hlen k l D cI cZ H.size) cw ⟨vPre_blind, hcell, fun U hU hW => ⟨rfl, by rw [hU], by rw [hU]; exact P, va_K.moved hW.alike O.2.2.2.2.2.2.2, Dd.weaken (fun _ _ _ _ => trivial)⟩⟩ rfl rfl L.1 rfl (lv_room hst) hd ⟨Nat.le_refl 0, Nat.le_refl 0⟩)
theorem V.callV2 {b ci z idx : Nat} {x1 x2 : Value} (hd : decode mi.2.1 pc = .ok (.invokevirtual idx, 3)) (hl : Cond.methodLink mi.1.cls idx mc.1 ∈ vTbl) (hf : vMfV mc 2) (hb : b < G.1) (hg : G.2.1 b = (ci + 2, z)) (hcl : classes[ci]? = some (mc.1.cls, (classes.getD ci ("", TX0, 0)).2.1, vN ci)) (hdd : d' < d) (hlen : (lg_sl (.ref (ad b) :: [x1, x2])).length ≤ mc.2.2.1) (hst : (st.map fun v => v.category).sum ≤ 8)
    (k : V G mc ad (fun r τ => V G mi ad Q d (pc + 3) ls (vPv r st) τ) d' 0 (vEn (.ref (ad b) :: [x1, x2]) mc.2.2.1) [] σ) : V G mi ad Q d pc ls (x2 :: x1 :: .ref (ad b) :: st) σ := by
  intro p l e s m args below meth c H locs A D cI cZ la O L P Dd S hA
  obtain ⟨⟨hpl, hco, hin, hds, h21⟩, hins, hsel⟩ := hf
  have hts := O.2.2.2.2.2.2.1
  have cw : CallW (vRm d) s args mi.1.cls mc.1.cls idx mc.1 mc.2.1 mc.2.2.1 mc.2.2.2 (vWs mc) (vRm d') 0 0 2 := ⟨callB_of 2 hts (vGoodWs hco) rfl rfl rfl (hts _ hin) (hts _ hl) hds (vRm_le hdd h21), hts _ hins, hts _ hsel⟩
  have hcell : ∃ cellB : Cell, H[ad b]? = some cellB ∧ cellB.vm.isStatics = false ∧ s.vm.findClass mc.1.cls = some cellB.cls := by
    obtain ⟨r, h1, cell, q1, q2, q3, q4⟩ := P b _ (by rw [vW_get _ _ _ _ _ hb, vCell_obj hg])
    have hr := Option.some.inj (h1.symm.trans hcl)
    subst hr
    exact ⟨cell, q1, by rw [q3]; rfl, by rw [q2]; exact (O.2.2.2.2.2.2.2.1 ci _ hcl).2.1⟩
  exact vAfter O L P Dd S hA (va_runV (As := [x1, x2]) (rest := st) ⟨O.1, O.2.1, O.2.2.1, O.2.2.2.2.2.1, hts⟩ (V.met hpl hlen k l D cI cZ H.size) cw ⟨vPre_blind, hcell, fun U hU hW => ⟨rfl, by rw [hU], by rw [hU]; exact P, va_K.moved hW.alike O.2.2.2.2.2.2.2, Dd.weaken (fun _ _ _ _ => trivial)⟩⟩ rfl rfl L.1 rfl (lv_room hst) hd ⟨Nat.le_refl 0, Nat.le_refl 0⟩)
theorem V.callV3 {b ci z idx : Nat} {x1 x2 x3 : Value} (hd : decode mi.2.1 pc = .ok (.invokevirtual idx, 3)) (hl : Cond.methodLink mi.1.cls idx mc.1 ∈ vTbl) (hf : vMfV mc 3) (hb : b < G.1) (hg : G.2.1 b = (ci + 2, z)) (hcl : classes[ci]? = some (mc.1.cls, (classes.getD ci ("", TX0, 0)).2.1, vN ci)) (hdd : d' < d) (hlen : (lg_sl (.ref (ad b) :: [x1, x2, x3])).length ≤ mc.2.2.1) (hst : (st.map fun v => v.category).sum ≤ 8)
    (k : V G mc ad (fun r τ => V G mi ad Q d (pc + 3) ls (vPv r st) τ) d' 0 (vEn (.ref (ad b) :: [x1, x2, x3]) mc.2.2.1) [] σ) : V G mi ad Q d pc ls (x3 :: x2 :: x1 :: .ref (ad b) :: st) σ := by
  intro p l e s m args below meth c H locs A D cI cZ la O L P Dd S hA
  obtain ⟨⟨hpl, hco, hin, hds, h21⟩, hins, hsel⟩ := hf
  have hts := O.2.2.2.2.2.2.1
  have cw : CallW (vRm d) s args mi.1.cls mc.1.cls idx mc.1 mc.2.1 mc.2.2.1 mc.2.2.2 (vWs mc) (vRm d') 0 0 3 := ⟨callB_of 3 hts (vGoodWs hco) rfl rfl rfl (hts _ hin) (hts _ hl) hds (vRm_le hdd h21), hts _ hins, hts _ hsel⟩
  have hcell : ∃ cellB : Cell, H[ad b]? = some cellB ∧ cellB.vm.isStatics = false ∧ s.vm.findClass mc.1.cls = some cellB.cls := by
    obtain ⟨r, h1, cell, q1, q2, q3, q4⟩ := P b _ (by rw [vW_get _ _ _ _ _ hb, vCell_obj hg])
    have hr := Option.some.inj (h1.symm.trans hcl)
    subst hr
    exact ⟨cell, q1, by rw [q3]; rfl, by rw [q2]; exact (O.2.2.2.2.2.2.2.1 ci _ hcl).2.1⟩
  exact vAfter O L P Dd S hA (va_runV (As := [x1, x2, x3]) (rest := st) ⟨O.1, O.2.1, O.2.2.1, O.2.2.2.2.2.1, hts⟩ (V.met hpl hlen k l D cI cZ H.size) cw ⟨vPre_blind, hcell, fun U hU hW => ⟨rfl, by rw [hU], by rw [hU]; exact P, va_K.moved hW.alike O.2.2.2.2.2.2.2, Dd.weaken (fun _ _ _ _ => trivial)⟩⟩ rfl rfl L.1 rfl (lv_room hst) hd ⟨Nat.le_refl 0, Nat.le_refl 0⟩)
theorem V.callV4 {b ci z idx : Nat} {x1 x2 x3 x4 : Value} (hd : decode mi.2.1 pc = .ok (.invokevirtual idx, 3)) (hl : Cond.methodLink mi.1.cls idx mc.1 ∈ vTbl) (hf : vMfV mc 4) (hb : b < G.1) (hg : G.2.1 b = (ci + 2, z)) (hcl : classes[ci]? = some (mc.1.cls, (classes.getD ci ("", TX0, 0)).2.1, vN ci)) (hdd : d' < d) (hlen : (lg_sl (.ref (ad b) :: [x1, x2, x3, x4])).length ≤ mc.2.2.1) (hst : (st.map fun v => v.category).sum ≤ 8)
    (k : V G mc ad (fun r τ => V G mi ad Q d (pc + 3) ls (vPv r st) τ) d' 0 (vEn (.ref (ad b) :: [x1, x2, x3, x4]) mc.2.2.1) [] σ) : V G mi ad Q d pc ls (x4 :: x3 :: x2 :: x1 :: .ref (ad b) :: st) σ := by
  intro p l e s m args below meth c H locs A D cI cZ la O L P Dd S hA
  obtain ⟨⟨hpl, hco, hin, hds, h21⟩, hins, hsel⟩ := hf
  have hts := O.2.2.2.2.2.2.1
  have cw : CallW (vRm d) s args mi.1.cls mc.1.cls idx mc.1 mc.2.1 mc.2.2.1 mc.2.2.2 (vWs mc) (vRm d') 0 0 4 := ⟨callB_of 4 hts (vGoodWs hco) rfl rfl rfl (hts _ hin) (hts _ hl) hds (vRm_le hdd h21), hts _ hins, hts _ hsel⟩
  have hcell : ∃ cellB : Cell, H[ad b]? = some cellB ∧ cellB.vm.isStatics = false ∧ s.vm.findClass mc.1.cls = some cellB.cls := by
    obtain ⟨r, h1, cell, q1, q2, q3, q4⟩ := P b _ (by rw [vW_get _ _ _ _ _ hb, vCell_obj hg])
    have hr := Option.some.inj (h1.symm.trans hcl)
    subst hr
    exact ⟨cell, q1, by rw [q3]; rfl, by rw [q2]; exact (O.2.2.2.2.2.2.2.1 ci _ hcl).2.1⟩
  exact vAfter O L P Dd S hA (va_runV (As := [x1, x2, x3, x4]) (rest := st) ⟨O.1, O.2.1, O.2.2.1, O.2.2.2.2.2.1, hts⟩ (V.met hpl hlen k l D cI cZ H.size) cw ⟨vPre_blind, hcell, fun U hU hW => ⟨rfl, by rw [hU], by rw [hU]; exact P, va_K.moved hW.alike O.2.2.2.2.2.2.2, Dd.weaken (fun _ _ _ _ => trivial)⟩⟩ rfl rfl L.1 rfl (lv_room hst) hd ⟨Nat.le_refl 0, Nat.le_refl 0⟩)
theorem V.callV5 {b ci z idx : Nat} {x1 x2 x3 x4 x5 : Value} (hd : decode mi.2.1 pc = .ok (.invokevirtual idx, 3)) (hl : Cond.methodLink mi.1.cls idx mc.1 ∈ vTbl) (hf : vMfV mc 5) (hb : b < G.1) (hg : G.2.1 b = (ci + 2, z)) (hcl : classes[ci]? = some (mc.1.cls, (classes.getD ci ("", TX0, 0)).2.1, vN ci)) (hdd : d' < d) (hlen : (lg_sl (.ref (ad b) :: [x1, x2, x3, x4, x5])).length ≤ mc.2.2.1) (hst : (st.map fun v => v.category).sum ≤ 8)
    (k : V G mc ad (fun r τ => V G mi ad Q d (pc + 3) ls (vPv r st) τ) d' 0 (vEn (.ref (ad b) :: [x1, x2, x3, x4, x5]) mc.2.2.1) [] σ) : V G mi ad Q d pc ls (x5 :: x4 :: x3 :: x2 :: x1 :: .ref (ad b) :: st) σ := by
  intro p l e s m args below meth c H locs A D cI cZ la O L P Dd S hA
  obtain ⟨⟨hpl, hco, hin, hds, h21⟩, hins, hsel⟩ := hf
  have hts := O.2.2.2.2.2.2.1
  have cw : CallW (vRm d) s args mi.1.cls mc.1.cls idx mc.1 mc.2.1 mc.2.2.1 mc.2.2.2 (vWs mc) (vRm d') 0 0 5 := ⟨callB_of 5 hts (vGoodWs hco) rfl rfl rfl (hts _ hin) (hts _ hl) hds (vRm_le hdd h21), hts _ hins, hts _ hsel⟩
  have hcell : ∃ cellB : Cell, H[ad b]? = some cellB ∧ cellB.vm.isStatics = false ∧ s.vm.findClass mc.1.cls = some cellB.cls := by
    obtain ⟨r, h1, cell, q1, q2, q3, q4⟩ := P b _ (by rw [vW_get _ _ _ _ _ hb, vCell_obj hg])
    have hr := Option.some.inj (h1.symm.trans hcl)
    subst hr
    exact ⟨cell, q1, by rw [q3]; rfl, by rw [q2]; exact (O.2.2.2.2.2.2.2.1 ci _ hcl).2.1⟩
  exact vAfter O L P Dd S hA (va_runV (As := [x1, x2, x3, x4, x5]) (rest := st) ⟨O.1, O.2.1, O.2.2.1, O.2.2.2.2.2.1, hts⟩ (V.met hpl hlen k l D cI cZ H.size) cw ⟨vPre_blind, hcell, fun U hU hW => ⟨rfl, by rw [hU], by rw [hU]; exact P, va_K.moved hW.alike O.2.2.2.2.2.2.2, Dd.weaken (fun _ _ _ _ => trivial)⟩⟩ rfl rfl L.1 rfl (lv_room hst) hd ⟨Nat.le_refl 0, Nat.le_refl 0⟩)
theorem V.callS0 {idx : Nat} (hd : decode mi.2.1 pc = .ok (.invokestatic idx, 3)) (hl : Cond.methodLink mi.1.cls idx mc.1 ∈ vTbl) (hf : vMfS mc 0) (hdd : d' < d) (hlen : (lg_sl []).length ≤ mc.2.2.1) (hst : (st.map fun v => v.category).sum ≤ 8)
    (k : V G mc ad (fun r τ => V G mi ad Q d (pc + 3) ls (vPv r st) τ) d' 0 (vEn [] mc.2.2.1) [] σ) : V G mi ad Q d pc ls (st) σ := by
  intro p l e s m args below meth c H locs A D cI cZ la O L P Dd S hA
  obtain ⟨⟨hpl, hco, hin, hds, h21⟩, hsta⟩ := hf
  have hts := O.2.2.2.2.2.2.1
  have cw : CallB (vRm d) s args mi.1.cls idx mc.1 mc.2.1 mc.2.2.1 mc.2.2.2 (vWs mc) (vRm d') 0 0 0 ∧ (Cond.static mc.1).before args s = true := ⟨callB_of 0 hts (vGoodWs hco) rfl rfl rfl (hts _ hin) (hts _ hl) hds (vRm_le hdd h21), hts _ hsta⟩
  exact vAfter O L P Dd S hA (va_runS (As := []) (rest := st) ⟨O.1, O.2.1, O.2.2.1, O.2.2.2.2.2.1, hts⟩ (V.met hpl hlen k l D cI cZ H.size) cw ⟨vPre_blind, fun U hU hW => ⟨rfl, by rw [hU], by rw [hU]; exact P, va_K.moved hW.alike O.2.2.2.2.2.2.2, Dd.weaken (fun _ _ _ _ => trivial)⟩⟩ rfl rfl L.1 rfl (lv_room hst) hd ⟨Nat.le_refl 0, Nat.le_refl 0⟩)
theorem V.callS1 {idx : Nat} {x1 : Value} (hd : decode mi.2.1 pc = .ok (.invokestatic idx, 3)) (hl : Cond.methodLink mi.1.cls idx mc.1 ∈ vTbl) (hf : vMfS mc 1) (hdd : d' < d) (hlen : (lg_sl [x1]).length ≤ mc.2.2.1) (hst : (st.map fun v => v.category).sum ≤ 8)
    (k : V G mc ad (fun r τ => V G mi ad Q d (pc + 3) ls (vPv r st) τ) d' 0 (vEn [x1] mc.2.2.1) [] σ) : V G mi ad Q d pc ls (x1 :: st) σ := by
  intro p l e s m args below meth c H locs A D cI cZ la O L P Dd S hA
  obtain ⟨⟨hpl, hco, hin, hds, h21⟩, hsta⟩ := hf
  have hts := O.2.2.2.2.2.2.1
  have cw : CallB (vRm d) s args mi.1.cls idx mc.1 mc.2.1 mc.2.2.1 mc.2.2.2 (vWs mc) (vRm d') 0 0 1 ∧ (Cond.static mc.1).before args s = true := ⟨callB_of 1 hts (vGoodWs hco) rfl rfl rfl (hts _ hin) (hts _ hl) hds (vRm_le hdd h21), hts _ hsta⟩
  exact vAfter O L P Dd S hA (va_runS (As := [x1]) (rest := st) ⟨O.1, O.2.1, O.2.2.1, O.2.2.2.2.2.1, hts⟩ (V.met hpl hlen k l D cI cZ H.size) cw ⟨vPre_blind, fun U hU hW => ⟨rfl, by rw [hU], by rw [hU]; exact P, va_K.moved hW.alike O.2.2.2.2.2.2.2, Dd.weaken (fun _ _ _ _ => trivial)⟩⟩ rfl rfl L.1 rfl (lv_room hst) hd ⟨Nat.le_refl 0, Nat.le_refl 0⟩)
theorem V.callS2 {idx : Nat} {x1 x2 : Value} (hd : decode mi.2.1 pc = .ok (.invokestatic idx, 3)) (hl : Cond.methodLink mi.1.cls idx mc.1 ∈ vTbl) (hf : vMfS mc 2) (hdd : d' < d) (hlen : (lg_sl [x1, x2]).length ≤ mc.2.2.1) (hst : (st.map fun v => v.category).sum ≤ 8)
    (k : V G mc ad (fun r τ => V G mi ad Q d (pc + 3) ls (vPv r st) τ) d' 0 (vEn [x1, x2] mc.2.2.1) [] σ) : V G mi ad Q d pc ls (x2 :: x1 :: st) σ := by
  intro p l e s m args below meth c H locs A D cI cZ la O L P Dd S hA
  obtain ⟨⟨hpl, hco, hin, hds, h21⟩, hsta⟩ := hf
  have hts := O.2.2.2.2.2.2.1
  have cw : CallB (vRm d) s args mi.1.cls idx mc.1 mc.2.1 mc.2.2.1 mc.2.2.2 (vWs mc) (vRm d') 0 0 2 ∧ (Cond.static mc.1).before args s = true := ⟨callB_of 2 hts (vGoodWs hco) rfl rfl rfl (hts _ hin) (hts _ hl) hds (vRm_le hdd h21), hts _ hsta⟩
  exact vAfter O L P Dd S hA (va_runS (As := [x1, x2]) (rest := st) ⟨O.1, O.2.1, O.2.2.1, O.2.2.2.2.2.1, hts⟩ (V.met hpl hlen k l D cI cZ H.size) cw ⟨vPre_blind, fun U hU hW => ⟨rfl, by rw [hU], by rw [hU]; exact P, va_K.moved hW.alike O.2.2.2.2.2.2.2, Dd.weaken (fun _ _ _ _ => trivial)⟩⟩ rfl rfl L.1 rfl (lv_room hst) hd ⟨Nat.le_refl 0, Nat.le_refl 0⟩)
theorem V.callS3 {idx : Nat} {x1 x2 x3 : Value} (hd : decode mi.2.1 pc = .ok (.invokestatic idx, 3)) (hl : Cond.methodLink mi.1.cls idx mc.1 ∈ vTbl) (hf : vMfS mc 3) (hdd : d' < d) (hlen : (lg_sl [x1, x2, x3]).length ≤ mc.2.2.1) (hst : (st.map fun v => v.category).sum ≤ 8)
    (k : V G mc ad (fun r τ => V G mi ad Q d (pc + 3) ls (vPv r st) τ) d' 0 (vEn [x1, x2, x3] mc.2.2.1) [] σ) : V G mi ad Q d pc ls (x3 :: x2 :: x1 :: st) σ := by
  intro p l e s m args below meth c H locs A D cI cZ la O L P Dd S hA
  obtain ⟨⟨hpl, hco, hin, hds, h21⟩, hsta⟩ := hf
  have hts := O.2.2.2.2.2.2.1
  have cw : CallB (vRm d) s args mi.1.cls idx mc.1 mc.2.1 mc.2.2.1 mc.2.2.2 (vWs mc) (vRm d') 0 0 3 ∧ (Cond.static mc.1).before args s = true := ⟨callB_of 3 hts (vGoodWs hco) rfl rfl rfl (hts _ hin) (hts _ hl) hds (vRm_le hdd h21), hts _ hsta⟩
  exact vAfter O L P Dd S hA (va_runS (As := [x1, x2, x3]) (rest := st) ⟨O.1, O.2.1, O.2.2.1, O.2.2.2.2.2.1, hts⟩ (V.met hpl hlen k l D cI cZ H.size) cw ⟨vPre_blind, fun U hU hW => ⟨rfl, by rw [hU], by rw [hU]; exact P, va_K.moved hW.alike O.2.2.2.2.2.2.2, Dd.weaken (fun _ _ _ _ => trivial)⟩⟩ rfl rfl L.1 rfl (lv_room hst) hd ⟨Nat.le_refl 0, Nat.le_refl 0⟩)
theorem V.callS4 {idx : Nat} {x1 x2 x3 x4 : Value} (hd : decode mi.2.1 pc = .ok (.invokestatic idx, 3)) (hl : Cond.methodLink mi.1.cls idx mc.1 ∈ vTbl) (hf : vMfS mc 4) (hdd : d' < d) (hlen : (lg_sl [x1, x2, x3, x4]).length ≤ mc.2.2.1) (hst : (st.map fun v => v.category).sum ≤ 8)
    (k : V G mc ad (fun r τ => V G mi ad Q d (pc + 3) ls (vPv r st) τ) d' 0 (vEn [x1, x2, x3, x4] mc.2.2.1) [] σ) : V G mi ad Q d pc ls (x4 :: x3 :: x2 :: x1 :: st) σ := by
  intro p l e s m args below meth c H locs A D cI cZ la O L P Dd S hA
  obtain ⟨⟨hpl, hco, hin, hds, h21⟩, hsta⟩ := hf
  have hts := O.2.2.2.2.2.2.1
  have cw : CallB (vRm d) s args mi.1.cls idx mc.1 mc.2.1 mc.2.2.1 mc.2.2.2 (vWs mc) (vRm d') 0 0 4 ∧ (Cond.static mc.1).before args s = true := ⟨callB_of 4 hts (vGoodWs hco) rfl rfl rfl (hts _ hin) (hts _ hl) hds (vRm_le hdd h21), hts _ hsta⟩
  exact vAfter O L P Dd S hA (va_runS (As := [x1, x2, x3, x4]) (rest := st) ⟨O.1, O.2.1, O.2.2.1, O.2.2.2.2.2.1, hts⟩ (V.met hpl hlen k l D cI cZ H.size) cw ⟨vPre_blind, fun U hU hW => ⟨rfl, by rw [hU], by rw [hU]; exact P, va_K.moved hW.alike O.2.2.2.2.2.2.2, Dd.weaken (fun _ _ _ _ => trivial)⟩⟩ rfl rfl L.1 rfl (lv_room hst) hd ⟨Nat.le_refl 0, Nat.le_refl 0⟩)
theorem V.callS5 {idx : Nat} {x1 x2 x3 x4 x5 : Value} (hd : decode mi.2.1 pc = .ok (.invokestatic idx, 3)) (hl : Cond.methodLink mi.1.cls idx mc.1 ∈ vTbl) (hf : vMfS mc 5) (hdd : d' < d) (hlen : (lg_sl [x1, x2, x3, x4, x5]).length ≤ mc.2.2.1) (hst : (st.map fun v => v.category).sum ≤ 8)
    (k : V G mc ad (fun r τ => V G mi ad Q d (pc + 3) ls (vPv r st) τ) d' 0 (vEn [x1, x2, x3, x4, x5] mc.2.2.1) [] σ) : V G mi ad Q d pc ls (x5 :: x4 :: x3 :: x2 :: x1 :: st) σ := by
  intro p l e s m args below meth c H locs A D cI cZ la O L P Dd S hA
  obtain ⟨⟨hpl, hco, hin, hds, h21⟩, hsta⟩ := hf
  have hts := O.2.2.2.2.2.2.1
  have cw : CallB (vRm d) s args mi.1.cls idx mc.1 mc.2.1 mc.2.2.1 mc.2.2.2 (vWs mc) (vRm d') 0 0 5 ∧ (Cond.static mc.1).before args s = true := ⟨callB_of 5 hts (vGoodWs hco) rfl rfl rfl (hts _ hin) (hts _ hl) hds (vRm_le hdd h21), hts _ hsta⟩
  exact vAfter O L P Dd S hA (va_runS (As := [x1, x2, x3, x4, x5]) (rest := st) ⟨O.1, O.2.1, O.2.2.1, O.2.2.2.2.2.1, hts⟩ (V.met hpl hlen k l D cI cZ H.size) cw ⟨vPre_blind, fun U hU hW => ⟨rfl, by rw [hU], by rw [hU]; exact P, va_K.moved hW.alike O.2.2.2.2.2.2.2, Dd.weaken (fun _ _ _ _ => trivial)⟩⟩ rfl rfl L.1 rfl (lv_room hst) hd ⟨Nat.le_refl 0, Nat.le_refl 0⟩)
end VC
end
