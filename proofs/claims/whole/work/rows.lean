section
-- ===== PART A: goes FIRST, ahead of the names: the tables' words, and 'selects' of the private methods out of them =====
/-- a private method of a class that the tables say can be made, by its rows of tables_1 -/
def lw_okq (q : MethodName × Nat) : Prop := (q.1.cls ≠ "java/lang/invoke/MethodHandle" ∧ q.1.cls ≠ "java/lang/invoke/VarHandle") ∧ Cond.instantiable q.1.cls q.2 ∈ tables_1 ∧ Cond.privateMethod q.1 ∈ tables_1 ∧ Cond.instanceMethod q.1 ∈ tables_1
theorem lw_p0 : lw_okq (⟨"BreadString", "textOf", "(I)LBreadString$Text;"⟩, 15) := ⟨⟨by decide +kernel, by decide +kernel⟩, List.mem_of_getElem? (i := 13) (by decide +kernel), List.mem_of_getElem? (i := 300) (by decide +kernel), List.mem_of_getElem? (i := 301) (by decide +kernel)⟩
theorem lw_p1 : lw_okq (⟨"BreadString", "reread", "(I)I"⟩, 15) := ⟨⟨by decide +kernel, by decide +kernel⟩, List.mem_of_getElem? (i := 13) (by decide +kernel), List.mem_of_getElem? (i := 308) (by decide +kernel), List.mem_of_getElem? (i := 309) (by decide +kernel)⟩
theorem lw_p2 : lw_okq (⟨"BreadString$Tower", "takeFloors", "(LBreadString$Text;)I"⟩, 13) := ⟨⟨by decide +kernel, by decide +kernel⟩, List.mem_of_getElem? (i := 38) (by decide +kernel), List.mem_of_getElem? (i := 316) (by decide +kernel), List.mem_of_getElem? (i := 317) (by decide +kernel)⟩
theorem lw_p3 : lw_okq (⟨"BreadString$Tower", "takeBaskets", "(LBreadString$Text;)I"⟩, 13) := ⟨⟨by decide +kernel, by decide +kernel⟩, List.mem_of_getElem? (i := 38) (by decide +kernel), List.mem_of_getElem? (i := 333) (by decide +kernel), List.mem_of_getElem? (i := 334) (by decide +kernel)⟩
theorem lw_p4 : lw_okq (⟨"BreadString$Tower", "basketTakes", "(II)Z"⟩, 13) := ⟨⟨by decide +kernel, by decide +kernel⟩, List.mem_of_getElem? (i := 38) (by decide +kernel), List.mem_of_getElem? (i := 337) (by decide +kernel), List.mem_of_getElem? (i := 338) (by decide +kernel)⟩
theorem lw_p5 : lw_okq (⟨"BreadString$Tower", "keepBasketByte", "(II)V"⟩, 13) := ⟨⟨by decide +kernel, by decide +kernel⟩, List.mem_of_getElem? (i := 38) (by decide +kernel), List.mem_of_getElem? (i := 341) (by decide +kernel), List.mem_of_getElem? (i := 342) (by decide +kernel)⟩
theorem lw_p6 : lw_okq (⟨"BreadString", "isFloor", "(I)Z"⟩, 15) := ⟨⟨by decide +kernel, by decide +kernel⟩, List.mem_of_getElem? (i := 13) (by decide +kernel), List.mem_of_getElem? (i := 361) (by decide +kernel), List.mem_of_getElem? (i := 362) (by decide +kernel)⟩
theorem lw_p7 : lw_okq (⟨"BreadString", "isBasket", "(I)Z"⟩, 15) := ⟨⟨by decide +kernel, by decide +kernel⟩, List.mem_of_getElem? (i := 13) (by decide +kernel), List.mem_of_getElem? (i := 369) (by decide +kernel), List.mem_of_getElem? (i := 370) (by decide +kernel)⟩
theorem lw_p8 : lw_okq (⟨"BreadString", "found", "(I)I"⟩, 15) := ⟨⟨by decide +kernel, by decide +kernel⟩, List.mem_of_getElem? (i := 13) (by decide +kernel), List.mem_of_getElem? (i := 414) (by decide +kernel), List.mem_of_getElem? (i := 415) (by decide +kernel)⟩
theorem lw_p9 : lw_okq (⟨"BreadString$Trip", "begin", "()V"⟩, 18) := ⟨⟨by decide +kernel, by decide +kernel⟩, List.mem_of_getElem? (i := 108) (by decide +kernel), List.mem_of_getElem? (i := 438) (by decide +kernel), List.mem_of_getElem? (i := 439) (by decide +kernel)⟩
theorem lw_p10 : lw_okq (⟨"BreadString$Trip", "arrive", "(I)V"⟩, 18) := ⟨⟨by decide +kernel, by decide +kernel⟩, List.mem_of_getElem? (i := 108) (by decide +kernel), List.mem_of_getElem? (i := 445) (by decide +kernel), List.mem_of_getElem? (i := 446) (by decide +kernel)⟩
theorem lw_p11 : lw_okq (⟨"BreadString$Trip", "serve", "(I)V"⟩, 18) := ⟨⟨by decide +kernel, by decide +kernel⟩, List.mem_of_getElem? (i := 108) (by decide +kernel), List.mem_of_getElem? (i := 449) (by decide +kernel), List.mem_of_getElem? (i := 450) (by decide +kernel)⟩
theorem lw_p12 : lw_okq (⟨"BreadString$Trip", "wantsBite", "(II)Z"⟩, 18) := ⟨⟨by decide +kernel, by decide +kernel⟩, List.mem_of_getElem? (i := 108) (by decide +kernel), List.mem_of_getElem? (i := 453) (by decide +kernel), List.mem_of_getElem? (i := 454) (by decide +kernel)⟩
theorem lw_p13 : lw_okq (⟨"BreadString$Trip", "bite", "(III)V"⟩, 18) := ⟨⟨by decide +kernel, by decide +kernel⟩, List.mem_of_getElem? (i := 108) (by decide +kernel), List.mem_of_getElem? (i := 457) (by decide +kernel), List.mem_of_getElem? (i := 458) (by decide +kernel)⟩
theorem lw_p14 : lw_okq (⟨"BreadString$Trip", "climb", "(I)V"⟩, 18) := ⟨⟨by decide +kernel, by decide +kernel⟩, List.mem_of_getElem? (i := 108) (by decide +kernel), List.mem_of_getElem? (i := 461) (by decide +kernel), List.mem_of_getElem? (i := 462) (by decide +kernel)⟩
theorem lw_p15 : lw_okq (⟨"BreadString$Trip", "leave", "(II)V"⟩, 18) := ⟨⟨by decide +kernel, by decide +kernel⟩, List.mem_of_getElem? (i := 108) (by decide +kernel), List.mem_of_getElem? (i := 465) (by decide +kernel), List.mem_of_getElem? (i := 466) (by decide +kernel)⟩
def lw_privs_1 : List (MethodName × Nat) := [(⟨"BreadString", "textOf", "(I)LBreadString$Text;"⟩, 15), (⟨"BreadString", "reread", "(I)I"⟩, 15), (⟨"BreadString$Tower", "takeFloors", "(LBreadString$Text;)I"⟩, 13), (⟨"BreadString$Tower", "takeBaskets", "(LBreadString$Text;)I"⟩, 13), (⟨"BreadString$Tower", "basketTakes", "(II)Z"⟩, 13), (⟨"BreadString$Tower", "keepBasketByte", "(II)V"⟩, 13), (⟨"BreadString", "isFloor", "(I)Z"⟩, 15), (⟨"BreadString", "isBasket", "(I)Z"⟩, 15), (⟨"BreadString", "found", "(I)I"⟩, 15), (⟨"BreadString$Trip", "begin", "()V"⟩, 18), (⟨"BreadString$Trip", "arrive", "(I)V"⟩, 18), (⟨"BreadString$Trip", "serve", "(I)V"⟩, 18), (⟨"BreadString$Trip", "wantsBite", "(II)Z"⟩, 18), (⟨"BreadString$Trip", "bite", "(III)V"⟩, 18), (⟨"BreadString$Trip", "climb", "(I)V"⟩, 18), (⟨"BreadString$Trip", "leave", "(II)V"⟩, 18)]
theorem lw_r1 : ∀ q ∈ lw_privs_1, lw_okq q := List.forall_mem_cons.mpr ⟨lw_p0, List.forall_mem_cons.mpr ⟨lw_p1, List.forall_mem_cons.mpr ⟨lw_p2, List.forall_mem_cons.mpr ⟨lw_p3, List.forall_mem_cons.mpr ⟨lw_p4, List.forall_mem_cons.mpr ⟨lw_p5, List.forall_mem_cons.mpr ⟨lw_p6, List.forall_mem_cons.mpr ⟨lw_p7, List.forall_mem_cons.mpr ⟨lw_p8, List.forall_mem_cons.mpr ⟨lw_p9, List.forall_mem_cons.mpr ⟨lw_p10, List.forall_mem_cons.mpr ⟨lw_p11, List.forall_mem_cons.mpr ⟨lw_p12, List.forall_mem_cons.mpr ⟨lw_p13, List.forall_mem_cons.mpr ⟨lw_p14, List.forall_mem_cons.mpr ⟨lw_p15, fun _ h => absurd h List.not_mem_nil⟩⟩⟩⟩⟩⟩⟩⟩⟩⟩⟩⟩⟩⟩⟩⟩
theorem lw_p16 : lw_okq (⟨"BreadString", "goAsTold", "()V"⟩, 15) := ⟨⟨by decide +kernel, by decide +kernel⟩, List.mem_of_getElem? (i := 13) (by decide +kernel), List.mem_of_getElem? (i := 477) (by decide +kernel), List.mem_of_getElem? (i := 478) (by decide +kernel)⟩
theorem lw_p17 : lw_okq (⟨"BreadString", "findHour", "(I)V"⟩, 15) := ⟨⟨by decide +kernel, by decide +kernel⟩, List.mem_of_getElem? (i := 13) (by decide +kernel), List.mem_of_getElem? (i := 526) (by decide +kernel), List.mem_of_getElem? (i := 527) (by decide +kernel)⟩
theorem lw_p18 : lw_okq (⟨"BreadString", "findFed", "(I)V"⟩, 15) := ⟨⟨by decide +kernel, by decide +kernel⟩, List.mem_of_getElem? (i := 13) (by decide +kernel), List.mem_of_getElem? (i := 545) (by decide +kernel), List.mem_of_getElem? (i := 546) (by decide +kernel)⟩
theorem lw_p19 : lw_okq (⟨"BreadString", "staysWhole", "(III)Z"⟩, 15) := ⟨⟨by decide +kernel, by decide +kernel⟩, List.mem_of_getElem? (i := 13) (by decide +kernel), List.mem_of_getElem? (i := 549) (by decide +kernel), List.mem_of_getElem? (i := 550) (by decide +kernel)⟩
theorem lw_p20 : lw_okq (⟨"BreadString", "keepFed", "(III)V"⟩, 15) := ⟨⟨by decide +kernel, by decide +kernel⟩, List.mem_of_getElem? (i := 13) (by decide +kernel), List.mem_of_getElem? (i := 563) (by decide +kernel), List.mem_of_getElem? (i := 564) (by decide +kernel)⟩
theorem lw_p21 : lw_okq (⟨"BreadString", "fedAt", "(I)I"⟩, 15) := ⟨⟨by decide +kernel, by decide +kernel⟩, List.mem_of_getElem? (i := 13) (by decide +kernel), List.mem_of_getElem? (i := 567) (by decide +kernel), List.mem_of_getElem? (i := 568) (by decide +kernel)⟩
theorem lw_p22 : lw_okq (⟨"BreadString", "findStill", "()V"⟩, 15) := ⟨⟨by decide +kernel, by decide +kernel⟩, List.mem_of_getElem? (i := 13) (by decide +kernel), List.mem_of_getElem? (i := 575) (by decide +kernel), List.mem_of_getElem? (i := 576) (by decide +kernel)⟩
theorem lw_p23 : lw_okq (⟨"BreadString", "fittingBites", "(I)I"⟩, 15) := ⟨⟨by decide +kernel, by decide +kernel⟩, List.mem_of_getElem? (i := 13) (by decide +kernel), List.mem_of_getElem? (i := 608) (by decide +kernel), List.mem_of_getElem? (i := 609) (by decide +kernel)⟩
theorem lw_p24 : lw_okq (⟨"BreadString", "fittingWords", "(I)I"⟩, 15) := ⟨⟨by decide +kernel, by decide +kernel⟩, List.mem_of_getElem? (i := 13) (by decide +kernel), List.mem_of_getElem? (i := 613) (by decide +kernel), List.mem_of_getElem? (i := 614) (by decide +kernel)⟩
theorem lw_p25 : lw_okq (⟨"BreadString", "greatestHeap", "(II)I"⟩, 15) := ⟨⟨by decide +kernel, by decide +kernel⟩, List.mem_of_getElem? (i := 13) (by decide +kernel), List.mem_of_getElem? (i := 621) (by decide +kernel), List.mem_of_getElem? (i := 622) (by decide +kernel)⟩
theorem lw_p26 : lw_okq (⟨"BreadString", "findChance", "(III)V"⟩, 15) := ⟨⟨by decide +kernel, by decide +kernel⟩, List.mem_of_getElem? (i := 13) (by decide +kernel), List.mem_of_getElem? (i := 633) (by decide +kernel), List.mem_of_getElem? (i := 634) (by decide +kernel)⟩
theorem lw_p27 : lw_okq (⟨"BreadString", "mixedFloor", "(JI)J"⟩, 15) := ⟨⟨by decide +kernel, by decide +kernel⟩, List.mem_of_getElem? (i := 13) (by decide +kernel), List.mem_of_getElem? (i := 711) (by decide +kernel), List.mem_of_getElem? (i := 712) (by decide +kernel)⟩
theorem lw_p28 : lw_okq (⟨"BreadString", "mixedWay", "(JI)J"⟩, 15) := ⟨⟨by decide +kernel, by decide +kernel⟩, List.mem_of_getElem? (i := 13) (by decide +kernel), List.mem_of_getElem? (i := 719) (by decide +kernel), List.mem_of_getElem? (i := 720) (by decide +kernel)⟩
theorem lw_p29 : lw_okq (⟨"BreadString", "mixedHour", "(JII)J"⟩, 15) := ⟨⟨by decide +kernel, by decide +kernel⟩, List.mem_of_getElem? (i := 13) (by decide +kernel), List.mem_of_getElem? (i := 724) (by decide +kernel), List.mem_of_getElem? (i := 725) (by decide +kernel)⟩
theorem lw_p30 : lw_okq (⟨"BreadString", "mixedPlans", "(JI)J"⟩, 15) := ⟨⟨by decide +kernel, by decide +kernel⟩, List.mem_of_getElem? (i := 13) (by decide +kernel), List.mem_of_getElem? (i := 731) (by decide +kernel), List.mem_of_getElem? (i := 732) (by decide +kernel)⟩
theorem lw_p31 : lw_okq (⟨"BreadStringModel", "faultOf", "(I)I"⟩, 48) := ⟨⟨by decide +kernel, by decide +kernel⟩, List.mem_of_getElem? (i := 741) (by decide +kernel), List.mem_of_getElem? (i := 915) (by decide +kernel), List.mem_of_getElem? (i := 916) (by decide +kernel)⟩
def lw_privs_2 : List (MethodName × Nat) := [(⟨"BreadString", "goAsTold", "()V"⟩, 15), (⟨"BreadString", "findHour", "(I)V"⟩, 15), (⟨"BreadString", "findFed", "(I)V"⟩, 15), (⟨"BreadString", "staysWhole", "(III)Z"⟩, 15), (⟨"BreadString", "keepFed", "(III)V"⟩, 15), (⟨"BreadString", "fedAt", "(I)I"⟩, 15), (⟨"BreadString", "findStill", "()V"⟩, 15), (⟨"BreadString", "fittingBites", "(I)I"⟩, 15), (⟨"BreadString", "fittingWords", "(I)I"⟩, 15), (⟨"BreadString", "greatestHeap", "(II)I"⟩, 15), (⟨"BreadString", "findChance", "(III)V"⟩, 15), (⟨"BreadString", "mixedFloor", "(JI)J"⟩, 15), (⟨"BreadString", "mixedWay", "(JI)J"⟩, 15), (⟨"BreadString", "mixedHour", "(JII)J"⟩, 15), (⟨"BreadString", "mixedPlans", "(JI)J"⟩, 15), (⟨"BreadStringModel", "faultOf", "(I)I"⟩, 48)]
theorem lw_r2 : ∀ q ∈ lw_privs_2, lw_okq q := List.forall_mem_cons.mpr ⟨lw_p16, List.forall_mem_cons.mpr ⟨lw_p17, List.forall_mem_cons.mpr ⟨lw_p18, List.forall_mem_cons.mpr ⟨lw_p19, List.forall_mem_cons.mpr ⟨lw_p20, List.forall_mem_cons.mpr ⟨lw_p21, List.forall_mem_cons.mpr ⟨lw_p22, List.forall_mem_cons.mpr ⟨lw_p23, List.forall_mem_cons.mpr ⟨lw_p24, List.forall_mem_cons.mpr ⟨lw_p25, List.forall_mem_cons.mpr ⟨lw_p26, List.forall_mem_cons.mpr ⟨lw_p27, List.forall_mem_cons.mpr ⟨lw_p28, List.forall_mem_cons.mpr ⟨lw_p29, List.forall_mem_cons.mpr ⟨lw_p30, List.forall_mem_cons.mpr ⟨lw_p31, fun _ h => absurd h List.not_mem_nil⟩⟩⟩⟩⟩⟩⟩⟩⟩⟩⟩⟩⟩⟩⟩⟩
theorem lw_p32 : lw_okq (⟨"BreadStringModel", "readsParts", "(I)I"⟩, 48) := ⟨⟨by decide +kernel, by decide +kernel⟩, List.mem_of_getElem? (i := 741) (by decide +kernel), List.mem_of_getElem? (i := 919) (by decide +kernel), List.mem_of_getElem? (i := 920) (by decide +kernel)⟩
theorem lw_p33 : lw_okq (⟨"BreadStringModel", "readsFloor", "(II)I"⟩, 48) := ⟨⟨by decide +kernel, by decide +kernel⟩, List.mem_of_getElem? (i := 741) (by decide +kernel), List.mem_of_getElem? (i := 923) (by decide +kernel), List.mem_of_getElem? (i := 924) (by decide +kernel)⟩
theorem lw_p34 : lw_okq (⟨"BreadStringModel", "byteAt", "(II)I"⟩, 48) := ⟨⟨by decide +kernel, by decide +kernel⟩, List.mem_of_getElem? (i := 741) (by decide +kernel), List.mem_of_getElem? (i := 927) (by decide +kernel), List.mem_of_getElem? (i := 928) (by decide +kernel)⟩
theorem lw_p35 : lw_okq (⟨"BreadStringModel", "isFigure", "(III)Z"⟩, 48) := ⟨⟨by decide +kernel, by decide +kernel⟩, List.mem_of_getElem? (i := 741) (by decide +kernel), List.mem_of_getElem? (i := 931) (by decide +kernel), List.mem_of_getElem? (i := 932) (by decide +kernel)⟩
theorem lw_p36 : lw_okq (⟨"BreadStringModel", "isLetter", "(II)Z"⟩, 48) := ⟨⟨by decide +kernel, by decide +kernel⟩, List.mem_of_getElem? (i := 741) (by decide +kernel), List.mem_of_getElem? (i := 935) (by decide +kernel), List.mem_of_getElem? (i := 936) (by decide +kernel)⟩
theorem lw_p37 : lw_okq (⟨"BreadStringModel", "readsBasket", "(II)I"⟩, 48) := ⟨⟨by decide +kernel, by decide +kernel⟩, List.mem_of_getElem? (i := 741) (by decide +kernel), List.mem_of_getElem? (i := 939) (by decide +kernel), List.mem_of_getElem? (i := 940) (by decide +kernel)⟩
theorem lw_p38 : lw_okq (⟨"BreadStringModel", "isFloor", "(I)Z"⟩, 48) := ⟨⟨by decide +kernel, by decide +kernel⟩, List.mem_of_getElem? (i := 741) (by decide +kernel), List.mem_of_getElem? (i := 947) (by decide +kernel), List.mem_of_getElem? (i := 948) (by decide +kernel)⟩
theorem lw_p39 : lw_okq (⟨"BreadStringModel", "reads", "()V"⟩, 48) := ⟨⟨by decide +kernel, by decide +kernel⟩, List.mem_of_getElem? (i := 741) (by decide +kernel), List.mem_of_getElem? (i := 951) (by decide +kernel), List.mem_of_getElem? (i := 952) (by decide +kernel)⟩
theorem lw_p40 : lw_okq (⟨"BreadStringModel", "floorOf", "(II)I"⟩, 48) := ⟨⟨by decide +kernel, by decide +kernel⟩, List.mem_of_getElem? (i := 741) (by decide +kernel), List.mem_of_getElem? (i := 955) (by decide +kernel), List.mem_of_getElem? (i := 956) (by decide +kernel)⟩
theorem lw_p41 : lw_okq (⟨"BreadStringModel", "isBasket", "(I)Z"⟩, 48) := ⟨⟨by decide +kernel, by decide +kernel⟩, List.mem_of_getElem? (i := 741) (by decide +kernel), List.mem_of_getElem? (i := 963) (by decide +kernel), List.mem_of_getElem? (i := 964) (by decide +kernel)⟩
theorem lw_p42 : lw_okq (⟨"BreadStringModel", "basketOf", "(II)I"⟩, 48) := ⟨⟨by decide +kernel, by decide +kernel⟩, List.mem_of_getElem? (i := 741) (by decide +kernel), List.mem_of_getElem? (i := 967) (by decide +kernel), List.mem_of_getElem? (i := 968) (by decide +kernel)⟩
theorem lw_p43 : lw_okq (⟨"BreadStringModel", "meets", "(I)I"⟩, 48) := ⟨⟨by decide +kernel, by decide +kernel⟩, List.mem_of_getElem? (i := 741) (by decide +kernel), List.mem_of_getElem? (i := 997) (by decide +kernel), List.mem_of_getElem? (i := 998) (by decide +kernel)⟩
theorem lw_p44 : lw_okq (⟨"BreadStringModel", "atOf", "(III)I"⟩, 48) := ⟨⟨by decide +kernel, by decide +kernel⟩, List.mem_of_getElem? (i := 741) (by decide +kernel), List.mem_of_getElem? (i := 1006) (by decide +kernel), List.mem_of_getElem? (i := 1007) (by decide +kernel)⟩
theorem lw_p45 : lw_okq (⟨"BreadStringModel", "runsTold", "()V"⟩, 48) := ⟨⟨by decide +kernel, by decide +kernel⟩, List.mem_of_getElem? (i := 741) (by decide +kernel), List.mem_of_getElem? (i := 1010) (by decide +kernel), List.mem_of_getElem? (i := 1011) (by decide +kernel)⟩
theorem lw_p46 : lw_okq (⟨"BreadStringModel", "asTold", "()V"⟩, 48) := ⟨⟨by decide +kernel, by decide +kernel⟩, List.mem_of_getElem? (i := 741) (by decide +kernel), List.mem_of_getElem? (i := 1014) (by decide +kernel), List.mem_of_getElem? (i := 1015) (by decide +kernel)⟩
theorem lw_p47 : lw_okq (⟨"BreadStringModel", "windsBut", "(I)J"⟩, 48) := ⟨⟨by decide +kernel, by decide +kernel⟩, List.mem_of_getElem? (i := 741) (by decide +kernel), List.mem_of_getElem? (i := 1018) (by decide +kernel), List.mem_of_getElem? (i := 1019) (by decide +kernel)⟩
def lw_privs_3 : List (MethodName × Nat) := [(⟨"BreadStringModel", "readsParts", "(I)I"⟩, 48), (⟨"BreadStringModel", "readsFloor", "(II)I"⟩, 48), (⟨"BreadStringModel", "byteAt", "(II)I"⟩, 48), (⟨"BreadStringModel", "isFigure", "(III)Z"⟩, 48), (⟨"BreadStringModel", "isLetter", "(II)Z"⟩, 48), (⟨"BreadStringModel", "readsBasket", "(II)I"⟩, 48), (⟨"BreadStringModel", "isFloor", "(I)Z"⟩, 48), (⟨"BreadStringModel", "reads", "()V"⟩, 48), (⟨"BreadStringModel", "floorOf", "(II)I"⟩, 48), (⟨"BreadStringModel", "isBasket", "(I)Z"⟩, 48), (⟨"BreadStringModel", "basketOf", "(II)I"⟩, 48), (⟨"BreadStringModel", "meets", "(I)I"⟩, 48), (⟨"BreadStringModel", "atOf", "(III)I"⟩, 48), (⟨"BreadStringModel", "runsTold", "()V"⟩, 48), (⟨"BreadStringModel", "asTold", "()V"⟩, 48), (⟨"BreadStringModel", "windsBut", "(I)J"⟩, 48)]
theorem lw_r3 : ∀ q ∈ lw_privs_3, lw_okq q := List.forall_mem_cons.mpr ⟨lw_p32, List.forall_mem_cons.mpr ⟨lw_p33, List.forall_mem_cons.mpr ⟨lw_p34, List.forall_mem_cons.mpr ⟨lw_p35, List.forall_mem_cons.mpr ⟨lw_p36, List.forall_mem_cons.mpr ⟨lw_p37, List.forall_mem_cons.mpr ⟨lw_p38, List.forall_mem_cons.mpr ⟨lw_p39, List.forall_mem_cons.mpr ⟨lw_p40, List.forall_mem_cons.mpr ⟨lw_p41, List.forall_mem_cons.mpr ⟨lw_p42, List.forall_mem_cons.mpr ⟨lw_p43, List.forall_mem_cons.mpr ⟨lw_p44, List.forall_mem_cons.mpr ⟨lw_p45, List.forall_mem_cons.mpr ⟨lw_p46, List.forall_mem_cons.mpr ⟨lw_p47, fun _ h => absurd h List.not_mem_nil⟩⟩⟩⟩⟩⟩⟩⟩⟩⟩⟩⟩⟩⟩⟩⟩
theorem lw_p48 : lw_okq (⟨"BreadStringModel", "runs", "()V"⟩, 48) := ⟨⟨by decide +kernel, by decide +kernel⟩, List.mem_of_getElem? (i := 741) (by decide +kernel), List.mem_of_getElem? (i := 1028) (by decide +kernel), List.mem_of_getElem? (i := 1029) (by decide +kernel)⟩
theorem lw_p49 : lw_okq (⟨"BreadStringModel", "goesBy", "(I)V"⟩, 48) := ⟨⟨by decide +kernel, by decide +kernel⟩, List.mem_of_getElem? (i := 741) (by decide +kernel), List.mem_of_getElem? (i := 1032) (by decide +kernel), List.mem_of_getElem? (i := 1033) (by decide +kernel)⟩
theorem lw_p50 : lw_okq (⟨"BreadStringModel", "isTangled", "(I)Z"⟩, 48) := ⟨⟨by decide +kernel, by decide +kernel⟩, List.mem_of_getElem? (i := 741) (by decide +kernel), List.mem_of_getElem? (i := 1036) (by decide +kernel), List.mem_of_getElem? (i := 1037) (by decide +kernel)⟩
theorem lw_p51 : lw_okq (⟨"BreadStringModel", "takes", "(III)V"⟩, 48) := ⟨⟨by decide +kernel, by decide +kernel⟩, List.mem_of_getElem? (i := 741) (by decide +kernel), List.mem_of_getElem? (i := 1040) (by decide +kernel), List.mem_of_getElem? (i := 1041) (by decide +kernel)⟩
theorem lw_p52 : lw_okq (⟨"BreadStringModel", "goesUp", "(II)V"⟩, 48) := ⟨⟨by decide +kernel, by decide +kernel⟩, List.mem_of_getElem? (i := 741) (by decide +kernel), List.mem_of_getElem? (i := 1044) (by decide +kernel), List.mem_of_getElem? (i := 1045) (by decide +kernel)⟩
theorem lw_p53 : lw_okq (⟨"BreadStringModel", "wears", "(I)V"⟩, 48) := ⟨⟨by decide +kernel, by decide +kernel⟩, List.mem_of_getElem? (i := 741) (by decide +kernel), List.mem_of_getElem? (i := 1048) (by decide +kernel), List.mem_of_getElem? (i := 1049) (by decide +kernel)⟩
theorem lw_p54 : lw_okq (⟨"BreadStringModel", "noteOf", "(II)I"⟩, 48) := ⟨⟨by decide +kernel, by decide +kernel⟩, List.mem_of_getElem? (i := 741) (by decide +kernel), List.mem_of_getElem? (i := 1056) (by decide +kernel), List.mem_of_getElem? (i := 1057) (by decide +kernel)⟩
theorem lw_p55 : lw_okq (⟨"BreadStringModel", "comesOf", "(I)I"⟩, 48) := ⟨⟨by decide +kernel, by decide +kernel⟩, List.mem_of_getElem? (i := 741) (by decide +kernel), List.mem_of_getElem? (i := 1064) (by decide +kernel), List.mem_of_getElem? (i := 1065) (by decide +kernel)⟩
theorem lw_p56 : lw_okq (⟨"BreadStringModel", "bitesOf", "(II)I"⟩, 48) := ⟨⟨by decide +kernel, by decide +kernel⟩, List.mem_of_getElem? (i := 741) (by decide +kernel), List.mem_of_getElem? (i := 1072) (by decide +kernel), List.mem_of_getElem? (i := 1073) (by decide +kernel)⟩
theorem lw_p57 : lw_okq (⟨"BreadStringModel", "famineNow", "()I"⟩, 48) := ⟨⟨by decide +kernel, by decide +kernel⟩, List.mem_of_getElem? (i := 741) (by decide +kernel), List.mem_of_getElem? (i := 1080) (by decide +kernel), List.mem_of_getElem? (i := 1081) (by decide +kernel)⟩
theorem lw_p58 : lw_okq (⟨"BreadStringModel", "upMuch", "()I"⟩, 48) := ⟨⟨by decide +kernel, by decide +kernel⟩, List.mem_of_getElem? (i := 741) (by decide +kernel), List.mem_of_getElem? (i := 1084) (by decide +kernel), List.mem_of_getElem? (i := 1085) (by decide +kernel)⟩
theorem lw_p59 : lw_okq (⟨"BreadStringModel", "firstOf", "(I)I"⟩, 48) := ⟨⟨by decide +kernel, by decide +kernel⟩, List.mem_of_getElem? (i := 741) (by decide +kernel), List.mem_of_getElem? (i := 1092) (by decide +kernel), List.mem_of_getElem? (i := 1093) (by decide +kernel)⟩
theorem lw_p60 : lw_okq (⟨"BreadStringModel", "greedyNow", "()I"⟩, 48) := ⟨⟨by decide +kernel, by decide +kernel⟩, List.mem_of_getElem? (i := 741) (by decide +kernel), List.mem_of_getElem? (i := 1100) (by decide +kernel), List.mem_of_getElem? (i := 1101) (by decide +kernel)⟩
theorem lw_p61 : lw_okq (⟨"BreadStringModel", "sendOf", "(II)I"⟩, 48) := ⟨⟨by decide +kernel, by decide +kernel⟩, List.mem_of_getElem? (i := 741) (by decide +kernel), List.mem_of_getElem? (i := 1108) (by decide +kernel), List.mem_of_getElem? (i := 1109) (by decide +kernel)⟩
theorem lw_p62 : lw_okq (⟨"BreadStringModel", "loafOf", "(II)I"⟩, 48) := ⟨⟨by decide +kernel, by decide +kernel⟩, List.mem_of_getElem? (i := 741) (by decide +kernel), List.mem_of_getElem? (i := 1116) (by decide +kernel), List.mem_of_getElem? (i := 1117) (by decide +kernel)⟩
theorem lw_p63 : lw_okq (⟨"BreadStringModel", "feedBy", "(I)I"⟩, 48) := ⟨⟨by decide +kernel, by decide +kernel⟩, List.mem_of_getElem? (i := 741) (by decide +kernel), List.mem_of_getElem? (i := 1124) (by decide +kernel), List.mem_of_getElem? (i := 1125) (by decide +kernel)⟩
def lw_privs_4 : List (MethodName × Nat) := [(⟨"BreadStringModel", "runs", "()V"⟩, 48), (⟨"BreadStringModel", "goesBy", "(I)V"⟩, 48), (⟨"BreadStringModel", "isTangled", "(I)Z"⟩, 48), (⟨"BreadStringModel", "takes", "(III)V"⟩, 48), (⟨"BreadStringModel", "goesUp", "(II)V"⟩, 48), (⟨"BreadStringModel", "wears", "(I)V"⟩, 48), (⟨"BreadStringModel", "noteOf", "(II)I"⟩, 48), (⟨"BreadStringModel", "comesOf", "(I)I"⟩, 48), (⟨"BreadStringModel", "bitesOf", "(II)I"⟩, 48), (⟨"BreadStringModel", "famineNow", "()I"⟩, 48), (⟨"BreadStringModel", "upMuch", "()I"⟩, 48), (⟨"BreadStringModel", "firstOf", "(I)I"⟩, 48), (⟨"BreadStringModel", "greedyNow", "()I"⟩, 48), (⟨"BreadStringModel", "sendOf", "(II)I"⟩, 48), (⟨"BreadStringModel", "loafOf", "(II)I"⟩, 48), (⟨"BreadStringModel", "feedBy", "(I)I"⟩, 48)]
theorem lw_r4 : ∀ q ∈ lw_privs_4, lw_okq q := List.forall_mem_cons.mpr ⟨lw_p48, List.forall_mem_cons.mpr ⟨lw_p49, List.forall_mem_cons.mpr ⟨lw_p50, List.forall_mem_cons.mpr ⟨lw_p51, List.forall_mem_cons.mpr ⟨lw_p52, List.forall_mem_cons.mpr ⟨lw_p53, List.forall_mem_cons.mpr ⟨lw_p54, List.forall_mem_cons.mpr ⟨lw_p55, List.forall_mem_cons.mpr ⟨lw_p56, List.forall_mem_cons.mpr ⟨lw_p57, List.forall_mem_cons.mpr ⟨lw_p58, List.forall_mem_cons.mpr ⟨lw_p59, List.forall_mem_cons.mpr ⟨lw_p60, List.forall_mem_cons.mpr ⟨lw_p61, List.forall_mem_cons.mpr ⟨lw_p62, List.forall_mem_cons.mpr ⟨lw_p63, fun _ h => absurd h List.not_mem_nil⟩⟩⟩⟩⟩⟩⟩⟩⟩⟩⟩⟩⟩⟩⟩⟩
theorem lw_p64 : lw_okq (⟨"BreadStringModel", "isKept", "(II)Z"⟩, 48) := ⟨⟨by decide +kernel, by decide +kernel⟩, List.mem_of_getElem? (i := 741) (by decide +kernel), List.mem_of_getElem? (i := 1128) (by decide +kernel), List.mem_of_getElem? (i := 1129) (by decide +kernel)⟩
theorem lw_p65 : lw_okq (⟨"BreadStringModel", "ofRow", "(II)I"⟩, 48) := ⟨⟨by decide +kernel, by decide +kernel⟩, List.mem_of_getElem? (i := 741) (by decide +kernel), List.mem_of_getElem? (i := 1132) (by decide +kernel), List.mem_of_getElem? (i := 1133) (by decide +kernel)⟩
theorem lw_p66 : lw_okq (⟨"BreadStringModel", "stillOf", "(I)I"⟩, 48) := ⟨⟨by decide +kernel, by decide +kernel⟩, List.mem_of_getElem? (i := 741) (by decide +kernel), List.mem_of_getElem? (i := 1140) (by decide +kernel), List.mem_of_getElem? (i := 1141) (by decide +kernel)⟩
theorem lw_p67 : lw_okq (⟨"BreadStringModel", "neverNow", "()I"⟩, 48) := ⟨⟨by decide +kernel, by decide +kernel⟩, List.mem_of_getElem? (i := 741) (by decide +kernel), List.mem_of_getElem? (i := 1156) (by decide +kernel), List.mem_of_getElem? (i := 1157) (by decide +kernel)⟩
theorem lw_p68 : lw_okq (⟨"BreadStringModel", "isSeen", "()Z"⟩, 48) := ⟨⟨by decide +kernel, by decide +kernel⟩, List.mem_of_getElem? (i := 741) (by decide +kernel), List.mem_of_getElem? (i := 1160) (by decide +kernel), List.mem_of_getElem? (i := 1161) (by decide +kernel)⟩
theorem lw_p69 : lw_okq (⟨"BreadStringModel", "wasOf", "(II)I"⟩, 48) := ⟨⟨by decide +kernel, by decide +kernel⟩, List.mem_of_getElem? (i := 741) (by decide +kernel), List.mem_of_getElem? (i := 1168) (by decide +kernel), List.mem_of_getElem? (i := 1169) (by decide +kernel)⟩
theorem lw_p70 : lw_okq (⟨"BreadStringModel", "askOf", "(I)I"⟩, 48) := ⟨⟨by decide +kernel, by decide +kernel⟩, List.mem_of_getElem? (i := 741) (by decide +kernel), List.mem_of_getElem? (i := 1176) (by decide +kernel), List.mem_of_getElem? (i := 1177) (by decide +kernel)⟩
theorem lw_p71 : lw_okq (⟨"BreadStringModel", "gustOf", "(IIII)J"⟩, 48) := ⟨⟨by decide +kernel, by decide +kernel⟩, List.mem_of_getElem? (i := 741) (by decide +kernel), List.mem_of_getElem? (i := 1184) (by decide +kernel), List.mem_of_getElem? (i := 1185) (by decide +kernel)⟩
theorem lw_p72 : lw_okq (⟨"BreadStringModel", "weekOf", "(III)I"⟩, 48) := ⟨⟨by decide +kernel, by decide +kernel⟩, List.mem_of_getElem? (i := 741) (by decide +kernel), List.mem_of_getElem? (i := 1199) (by decide +kernel), List.mem_of_getElem? (i := 1200) (by decide +kernel)⟩
theorem lw_p73 : lw_okq (⟨"BreadStringModel", "bitesAll", "()I"⟩, 48) := ⟨⟨by decide +kernel, by decide +kernel⟩, List.mem_of_getElem? (i := 741) (by decide +kernel), List.mem_of_getElem? (i := 1204) (by decide +kernel), List.mem_of_getElem? (i := 1205) (by decide +kernel)⟩
theorem lw_p74 : lw_okq (⟨"BreadStringModel", "lacks", "(III)I"⟩, 48) := ⟨⟨by decide +kernel, by decide +kernel⟩, List.mem_of_getElem? (i := 741) (by decide +kernel), List.mem_of_getElem? (i := 1220) (by decide +kernel), List.mem_of_getElem? (i := 1221) (by decide +kernel)⟩
theorem lw_p75 : lw_okq (⟨"BreadStringModel", "keep", "(III)V"⟩, 48) := ⟨⟨by decide +kernel, by decide +kernel⟩, List.mem_of_getElem? (i := 741) (by decide +kernel), List.mem_of_getElem? (i := 1224) (by decide +kernel), List.mem_of_getElem? (i := 1225) (by decide +kernel)⟩
theorem lw_p76 : lw_okq (⟨"BreadStringModel", "sumOf", "(I)I"⟩, 48) := ⟨⟨by decide +kernel, by decide +kernel⟩, List.mem_of_getElem? (i := 741) (by decide +kernel), List.mem_of_getElem? (i := 1245) (by decide +kernel), List.mem_of_getElem? (i := 1246) (by decide +kernel)⟩
theorem lw_p77 : lw_okq (⟨"BreadStringModel", "floorDigest", "(JI)J"⟩, 48) := ⟨⟨by decide +kernel, by decide +kernel⟩, List.mem_of_getElem? (i := 741) (by decide +kernel), List.mem_of_getElem? (i := 1256) (by decide +kernel), List.mem_of_getElem? (i := 1257) (by decide +kernel)⟩
theorem lw_p78 : lw_okq (⟨"BreadStringModel", "basketDigest", "(JI)J"⟩, 48) := ⟨⟨by decide +kernel, by decide +kernel⟩, List.mem_of_getElem? (i := 741) (by decide +kernel), List.mem_of_getElem? (i := 1260) (by decide +kernel), List.mem_of_getElem? (i := 1261) (by decide +kernel)⟩
theorem lw_p79 : lw_okq (⟨"BreadStringModel", "hourDigest", "(JII)J"⟩, 48) := ⟨⟨by decide +kernel, by decide +kernel⟩, List.mem_of_getElem? (i := 741) (by decide +kernel), List.mem_of_getElem? (i := 1264) (by decide +kernel), List.mem_of_getElem? (i := 1265) (by decide +kernel)⟩
def lw_privs_5 : List (MethodName × Nat) := [(⟨"BreadStringModel", "isKept", "(II)Z"⟩, 48), (⟨"BreadStringModel", "ofRow", "(II)I"⟩, 48), (⟨"BreadStringModel", "stillOf", "(I)I"⟩, 48), (⟨"BreadStringModel", "neverNow", "()I"⟩, 48), (⟨"BreadStringModel", "isSeen", "()Z"⟩, 48), (⟨"BreadStringModel", "wasOf", "(II)I"⟩, 48), (⟨"BreadStringModel", "askOf", "(I)I"⟩, 48), (⟨"BreadStringModel", "gustOf", "(IIII)J"⟩, 48), (⟨"BreadStringModel", "weekOf", "(III)I"⟩, 48), (⟨"BreadStringModel", "bitesAll", "()I"⟩, 48), (⟨"BreadStringModel", "lacks", "(III)I"⟩, 48), (⟨"BreadStringModel", "keep", "(III)V"⟩, 48), (⟨"BreadStringModel", "sumOf", "(I)I"⟩, 48), (⟨"BreadStringModel", "floorDigest", "(JI)J"⟩, 48), (⟨"BreadStringModel", "basketDigest", "(JI)J"⟩, 48), (⟨"BreadStringModel", "hourDigest", "(JII)J"⟩, 48)]
theorem lw_r5 : ∀ q ∈ lw_privs_5, lw_okq q := List.forall_mem_cons.mpr ⟨lw_p64, List.forall_mem_cons.mpr ⟨lw_p65, List.forall_mem_cons.mpr ⟨lw_p66, List.forall_mem_cons.mpr ⟨lw_p67, List.forall_mem_cons.mpr ⟨lw_p68, List.forall_mem_cons.mpr ⟨lw_p69, List.forall_mem_cons.mpr ⟨lw_p70, List.forall_mem_cons.mpr ⟨lw_p71, List.forall_mem_cons.mpr ⟨lw_p72, List.forall_mem_cons.mpr ⟨lw_p73, List.forall_mem_cons.mpr ⟨lw_p74, List.forall_mem_cons.mpr ⟨lw_p75, List.forall_mem_cons.mpr ⟨lw_p76, List.forall_mem_cons.mpr ⟨lw_p77, List.forall_mem_cons.mpr ⟨lw_p78, List.forall_mem_cons.mpr ⟨lw_p79, fun _ h => absurd h List.not_mem_nil⟩⟩⟩⟩⟩⟩⟩⟩⟩⟩⟩⟩⟩⟩⟩⟩
def lw_privs : List (MethodName × Nat) := lw_privs_1 ++ (lw_privs_2 ++ (lw_privs_3 ++ (lw_privs_4 ++ (lw_privs_5))))
def lw_tbl : List Cond := k2_sels lw_privs ++ tables_1
theorem lw_privs_ok : ∀ q ∈ lw_privs, lw_okq q := by
  show ∀ q ∈ lw_privs_1 ++ (lw_privs_2 ++ (lw_privs_3 ++ (lw_privs_4 ++ (lw_privs_5)))), lw_okq q
  exact List.forall_mem_append.mpr ⟨lw_r1, List.forall_mem_append.mpr ⟨lw_r2, List.forall_mem_append.mpr ⟨lw_r3, List.forall_mem_append.mpr ⟨lw_r4, lw_r5⟩⟩⟩⟩

def RX0 : String := "BreadString$Best"
def TX0 : u_T := fun k => match k with
  | 0 => ("BreadString$Best", "which", "I", false)
  | _ => ("BreadString$Best", "much", "I", false)
def tyX0 : Nat → FieldType := fun k => match k with
  | 0 => .int
  | _ => .int
theorem nmX0 : ∀ a, a < 2 → ∀ b, b < 2 → a ≠ b → (TX0 a).2.1 ≠ (TX0 b).2.1 := by decide +kernel
theorem tyX0_ok : ∀ k, k < 2 → parseFieldDescriptor (TX0 k).2.2.1 = some (tyX0 k) := by decide +kernel
def RX1 : String := "BreadString$Marks"
def TX1 : u_T := fun k => match k with
  | 0 => ("BreadString$Marks", "hours", "[I", true)
  | _ => ("BreadString$Marks", "size", "I", false)
def tyX1 : Nat → FieldType := fun k => match k with
  | 0 => .array .int
  | _ => .int
theorem nmX1 : ∀ a, a < 2 → ∀ b, b < 2 → a ≠ b → (TX1 a).2.1 ≠ (TX1 b).2.1 := by decide +kernel
theorem tyX1_ok : ∀ k, k < 2 → parseFieldDescriptor (TX1 k).2.2.1 = some (tyX1 k) := by decide +kernel
def RX2 : String := "BreadString$Sheets"
def TX2 : u_T := fun k => match k with
  | 0 => ("BreadString$Sheets", "form", "[I", true)
  | 1 => ("BreadString$Sheets", "size", "[I", true)
  | _ => ("BreadString$Sheets", "items", "[I", true)
def tyX2 : Nat → FieldType := fun k => match k with
  | 0 => .array .int
  | 1 => .array .int
  | _ => .array .int
theorem nmX2 : ∀ a, a < 3 → ∀ b, b < 3 → a ≠ b → (TX2 a).2.1 ≠ (TX2 b).2.1 := by decide +kernel
theorem tyX2_ok : ∀ k, k < 3 → parseFieldDescriptor (TX2 k).2.2.1 = some (tyX2 k) := by decide +kernel
def RX3 : String := "BreadString$Sightings"
def TX3 : u_T := fun k => match k with
  | 0 => ("BreadString$Sightings", "basket", "[I", true)
  | 1 => ("BreadString$Sightings", "place", "[I", true)
  | 2 => ("BreadString$Sightings", "letter", "[I", true)
  | _ => ("BreadString$Sightings", "size", "I", false)
def tyX3 : Nat → FieldType := fun k => match k with
  | 0 => .array .int
  | 1 => .array .int
  | 2 => .array .int
  | _ => .int
theorem nmX3 : ∀ a, a < 4 → ∀ b, b < 4 → a ≠ b → (TX3 a).2.1 ≠ (TX3 b).2.1 := by decide +kernel
theorem tyX3_ok : ∀ k, k < 4 → parseFieldDescriptor (TX3 k).2.2.1 = some (tyX3 k) := by decide +kernel
def RX4 : String := "BreadString$Text"
def TX4 : u_T := fun k => match k with
  | 0 => ("BreadString$Text", "bytes", "[I", true)
  | _ => ("BreadString$Text", "size", "I", false)
def tyX4 : Nat → FieldType := fun k => match k with
  | 0 => .array .int
  | _ => .int
theorem nmX4 : ∀ a, a < 2 → ∀ b, b < 2 → a ≠ b → (TX4 a).2.1 ≠ (TX4 b).2.1 := by decide +kernel
theorem tyX4_ok : ∀ k, k < 2 → parseFieldDescriptor (TX4 k).2.2.1 = some (tyX4 k) := by decide +kernel
def RX5 : String := "BreadString$Tower"
def TX5 : u_T := fun k => match k with
  | 0 => ("BreadString$Tower", "floors", "I", false)
  | 1 => ("BreadString$Tower", "floorFault", "I", false)
  | 2 => ("BreadString$Tower", "sort", "[I", true)
  | 3 => ("BreadString$Tower", "bite", "[I", true)
  | 4 => ("BreadString$Tower", "word", "[I", true)
  | 5 => ("BreadString$Tower", "baskets", "I", false)
  | 6 => ("BreadString$Tower", "basketFault", "I", false)
  | 7 => ("BreadString$Tower", "hour", "[I", true)
  | 8 => ("BreadString$Tower", "load", "[I", true)
  | 9 => ("BreadString$Tower", "letters", "[I", true)
  | 10 => ("BreadString$Tower", "told", "[I", true)
  | 11 => ("BreadString$Tower", "hunger", "I", false)
  | _ => ("BreadString$Tower", "wear", "I", false)
def tyX5 : Nat → FieldType := fun k => match k with
  | 0 => .int
  | 1 => .int
  | 2 => .array .int
  | 3 => .array .int
  | 4 => .array .int
  | 5 => .int
  | 6 => .int
  | 7 => .array .int
  | 8 => .array .int
  | 9 => .array .int
  | 10 => .array .int
  | 11 => .int
  | _ => .int
theorem nmX5 : ∀ a, a < 13 → ∀ b, b < 13 → a ≠ b → (TX5 a).2.1 ≠ (TX5 b).2.1 := by decide +kernel
theorem tyX5_ok : ∀ k, k < 13 → parseFieldDescriptor (TX5 k).2.2.1 = some (tyX5 k) := by decide +kernel
def RX6 : String := "BreadString$Trip"
def TX6 : u_T := fun k => match k with
  | 0 => ("BreadString$Trip", "tower", "LBreadString$Tower;", true)
  | 1 => ("BreadString$Trip", "windy", "Z", false)
  | 2 => ("BreadString$Trip", "holy", "Z", false)
  | 3 => ("BreadString$Trip", "floor", "[I", true)
  | 4 => ("BreadString$Trip", "load", "[I", true)
  | 5 => ("BreadString$Trip", "tangled", "[I", true)
  | 6 => ("BreadString$Trip", "up", "[I", true)
  | 7 => ("BreadString$Trip", "held", "[I", true)
  | 8 => ("BreadString$Trip", "notes", "[I", true)
  | 9 => ("BreadString$Trip", "start", "[I", true)
  | 10 => ("BreadString$Trip", "end", "[I", true)
  | 11 => ("BreadString$Trip", "last", "[I", true)
  | 12 => ("BreadString$Trip", "often", "[I", true)
  | 13 => ("BreadString$Trip", "eaten", "[I", true)
  | 14 => ("BreadString$Trip", "notUp", "I", false)
  | 15 => ("BreadString$Trip", "bites", "I", false)
  | 16 => ("BreadString$Trip", "firstHour", "I", false)
  | _ => ("BreadString$Trip", "firstFloor", "I", false)
def tyX6 : Nat → FieldType := fun k => match k with
  | 0 => .object "BreadString$Tower"
  | 1 => .boolean
  | 2 => .boolean
  | 3 => .array .int
  | 4 => .array .int
  | 5 => .array .int
  | 6 => .array .int
  | 7 => .array .int
  | 8 => .array .int
  | 9 => .array .int
  | 10 => .array .int
  | 11 => .array .int
  | 12 => .array .int
  | 13 => .array .int
  | 14 => .int
  | 15 => .int
  | 16 => .int
  | _ => .int
theorem nmX6 : ∀ a, a < 18 → ∀ b, b < 18 → a ≠ b → (TX6 a).2.1 ≠ (TX6 b).2.1 := by decide +kernel
theorem tyX6_ok : ∀ k, k < 18 → parseFieldDescriptor (TX6 k).2.2.1 = some (tyX6 k) := by decide +kernel
def RX7 : String := "BreadString"
def TX7 : u_T := fun k => match k with
  | 0 => ("BreadString", "floorText", "LBreadString$Text;", true)
  | 1 => ("BreadString", "basketText", "LBreadString$Text;", true)
  | 2 => ("BreadString", "tower", "LBreadString$Tower;", true)
  | 3 => ("BreadString", "trip", "LBreadString$Trip;", true)
  | 4 => ("BreadString", "winds", "LBreadString$Marks;", true)
  | 5 => ("BreadString", "sundays", "LBreadString$Marks;", true)
  | 6 => ("BreadString", "sightings", "LBreadString$Sightings;", true)
  | 7 => ("BreadString", "sheets", "LBreadString$Sheets;", true)
  | 8 => ("BreadString", "best", "LBreadString$Best;", true)
  | 9 => ("BreadString", "fed", "[I", true)
  | 10 => ("BreadString", "fedCount", "I", false)
  | 11 => ("BreadString", "leftLoads", "[I", true)
  | 12 => ("BreadString", "above", "J", false)
  | 13 => ("BreadString", "below", "J", false)
  | _ => ("BreadString", "finding", "I", false)
def tyX7 : Nat → FieldType := fun k => match k with
  | 0 => .object "BreadString$Text"
  | 1 => .object "BreadString$Text"
  | 2 => .object "BreadString$Tower"
  | 3 => .object "BreadString$Trip"
  | 4 => .object "BreadString$Marks"
  | 5 => .object "BreadString$Marks"
  | 6 => .object "BreadString$Sightings"
  | 7 => .object "BreadString$Sheets"
  | 8 => .object "BreadString$Best"
  | 9 => .array .int
  | 10 => .int
  | 11 => .array .int
  | 12 => .long
  | 13 => .long
  | _ => .int
theorem nmX7 : ∀ a, a < 15 → ∀ b, b < 15 → a ≠ b → (TX7 a).2.1 ≠ (TX7 b).2.1 := by decide +kernel
theorem tyX7_ok : ∀ k, k < 15 → parseFieldDescriptor (TX7 k).2.2.1 = some (tyX7 k) := by decide +kernel
def RX8 : String := "BreadStringModel"
def TX8 : u_T := fun k => match k with
  | 0 => ("BreadStringModel", "typed", "[I", true)
  | 1 => ("BreadStringModel", "texts", "[I", true)
  | 2 => ("BreadStringModel", "floors", "I", false)
  | 3 => ("BreadStringModel", "sorts", "[I", true)
  | 4 => ("BreadStringModel", "bitesTold", "[I", true)
  | 5 => ("BreadStringModel", "words", "[I", true)
  | 6 => ("BreadStringModel", "baskets", "I", false)
  | 7 => ("BreadStringModel", "hours", "[I", true)
  | 8 => ("BreadStringModel", "loads", "[I", true)
  | 9 => ("BreadStringModel", "sizesTold", "[I", true)
  | 10 => ("BreadStringModel", "letters", "[I", true)
  | 11 => ("BreadStringModel", "hungerTold", "I", false)
  | 12 => ("BreadStringModel", "wearTold", "I", false)
  | 13 => ("BreadStringModel", "winds", "I", false)
  | 14 => ("BreadStringModel", "windHour", "[I", true)
  | 15 => ("BreadStringModel", "sundays", "I", false)
  | 16 => ("BreadStringModel", "sundayHour", "[I", true)
  | 17 => ("BreadStringModel", "windBits", "J", false)
  | 18 => ("BreadStringModel", "sundayBits", "J", false)
  | 19 => ("BreadStringModel", "fed", "I", false)
  | 20 => ("BreadStringModel", "place", "[I", true)
  | 21 => ("BreadStringModel", "load", "[I", true)
  | 22 => ("BreadStringModel", "noteSize", "[I", true)
  | 23 => ("BreadStringModel", "notes", "[I", true)
  | 24 => ("BreadStringModel", "isHeld", "[Z", true)
  | 25 => ("BreadStringModel", "leftMany", "[I", true)
  | 26 => ("BreadStringModel", "upAt", "[I", true)
  | 27 => ("BreadStringModel", "lastBite", "[I", true)
  | 28 => ("BreadStringModel", "bitMany", "[I", true)
  | 29 => ("BreadStringModel", "bitMuch", "[I", true)
  | 30 => ("BreadStringModel", "firstHour", "I", false)
  | 31 => ("BreadStringModel", "firstFloor", "I", false)
  | 32 => ("BreadStringModel", "placeAt", "[I", true)
  | 33 => ("BreadStringModel", "loadAt", "[I", true)
  | 34 => ("BreadStringModel", "sizeAt", "[I", true)
  | 35 => ("BreadStringModel", "tangledAt", "[Z", true)
  | 36 => ("BreadStringModel", "planRow", "[I", true)
  | 37 => ("BreadStringModel", "seens", "I", false)
  | 38 => ("BreadStringModel", "seenBasket", "[I", true)
  | 39 => ("BreadStringModel", "seenPlace", "[I", true)
  | 40 => ("BreadStringModel", "seenLetter", "[I", true)
  | 41 => ("BreadStringModel", "loadBy", "[I", true)
  | 42 => ("BreadStringModel", "isThere", "[Z", true)
  | 43 => ("BreadStringModel", "forms", "[I", true)
  | 44 => ("BreadStringModel", "sizes", "[I", true)
  | 45 => ("BreadStringModel", "items", "[I", true)
  | 46 => ("BreadStringModel", "moved", "[I", true)
  | _ => ("BreadStringModel", "finding", "I", false)
def tyX8 : Nat → FieldType := fun k => match k with
  | 0 => .array .int
  | 1 => .array .int
  | 2 => .int
  | 3 => .array .int
  | 4 => .array .int
  | 5 => .array .int
  | 6 => .int
  | 7 => .array .int
  | 8 => .array .int
  | 9 => .array .int
  | 10 => .array .int
  | 11 => .int
  | 12 => .int
  | 13 => .int
  | 14 => .array .int
  | 15 => .int
  | 16 => .array .int
  | 17 => .long
  | 18 => .long
  | 19 => .int
  | 20 => .array .int
  | 21 => .array .int
  | 22 => .array .int
  | 23 => .array .int
  | 24 => .array .boolean
  | 25 => .array .int
  | 26 => .array .int
  | 27 => .array .int
  | 28 => .array .int
  | 29 => .array .int
  | 30 => .int
  | 31 => .int
  | 32 => .array .int
  | 33 => .array .int
  | 34 => .array .int
  | 35 => .array .boolean
  | 36 => .array .int
  | 37 => .int
  | 38 => .array .int
  | 39 => .array .int
  | 40 => .array .int
  | 41 => .array .int
  | 42 => .array .boolean
  | 43 => .array .int
  | 44 => .array .int
  | 45 => .array .int
  | 46 => .array .int
  | _ => .int
theorem nmX8 : ∀ a, a < 48 → ∀ b, b < 48 → a ≠ b → (TX8 a).2.1 ≠ (TX8 b).2.1 := by decide +kernel
theorem tyX8_ok : ∀ k, k < 48 → parseFieldDescriptor (TX8 k).2.2.1 = some (tyX8 k) := by decide +kernel
/-- the words of the tables that stay true -/
def vTbl : List Cond := lw_tbl.filter goodWord
theorem vTm {w : Cond} (h : w ∈ lw_tbl) (hg : goodWord w = true) : w ∈ vTbl := List.mem_filter.mpr ⟨h, hg⟩
abbrev classes : List vw_C := [(RX0, TX0, 2), (RX1, TX1, 2), (RX2, TX2, 3), (RX3, TX3, 4), (RX4, TX4, 2), (RX5, TX5, 13), (RX6, TX6, 18), (RX7, TX7, 15), (RX8, TX8, 48)]
/-- the type of field k of class ci -/
def vTy (ci : Nat) : Nat → FieldType := match ci with
  | 0 => tyX0
  | 1 => tyX1
  | 2 => tyX2
  | 3 => tyX3
  | 4 => tyX4
  | 5 => tyX5
  | 6 => tyX6
  | 7 => tyX7
  | _ => tyX8
def vN (ci : Nat) : Nat := match ci with
  | 0 => 2
  | 1 => 2
  | 2 => 3
  | 3 => 4
  | 4 => 2
  | 5 => 13
  | 6 => 18
  | 7 => 15
  | _ => 48
set_option maxRecDepth 100000 in
theorem vIn0 : ∀ w ∈ u_ws RX0 TX0 2, w ∈ vTbl := by decide +kernel
set_option maxRecDepth 100000 in
theorem vIn1 : ∀ w ∈ u_ws RX1 TX1 2, w ∈ vTbl := by decide +kernel
set_option maxRecDepth 100000 in
theorem vIn2 : ∀ w ∈ u_ws RX2 TX2 3, w ∈ vTbl := by decide +kernel
set_option maxRecDepth 100000 in
theorem vIn3 : ∀ w ∈ u_ws RX3 TX3 4, w ∈ vTbl := by decide +kernel
set_option maxRecDepth 100000 in
theorem vIn4 : ∀ w ∈ u_ws RX4 TX4 2, w ∈ vTbl := by decide +kernel
set_option maxRecDepth 100000 in
theorem vIn5 : ∀ w ∈ u_ws RX5 TX5 13, w ∈ vTbl := by decide +kernel
set_option maxRecDepth 100000 in
theorem vIn6 : ∀ w ∈ u_ws RX6 TX6 18, w ∈ vTbl := by decide +kernel
set_option maxRecDepth 100000 in
theorem vIn7 : ∀ w ∈ u_ws RX7 TX7 15, w ∈ vTbl := by decide +kernel
set_option maxRecDepth 100000 in
theorem vIn8 : ∀ w ∈ u_ws RX8 TX8 48, w ∈ vTbl := by decide +kernel
theorem vIn {ci N : Nat} {C : String} {T : u_T} (hc : classes[ci]? = some (C, T, N)) : ∀ w ∈ u_ws C T N, w ∈ vTbl :=
  match ci, hc with
  | 0, hc => by
    cases hc
    exact vIn0
  | 1, hc => by
    cases hc
    exact vIn1
  | 2, hc => by
    cases hc
    exact vIn2
  | 3, hc => by
    cases hc
    exact vIn3
  | 4, hc => by
    cases hc
    exact vIn4
  | 5, hc => by
    cases hc
    exact vIn5
  | 6, hc => by
    cases hc
    exact vIn6
  | 7, hc => by
    cases hc
    exact vIn7
  | 8, hc => by
    cases hc
    exact vIn8
  | (_ + 9), hc => by cases hc

theorem vTy_ok {ci N : Nat} {C : String} {T : u_T} (hc : classes[ci]? = some (C, T, N)) : ∀ k, k < N → parseFieldDescriptor (T k).2.2.1 = some (vTy ci k) :=
  match ci, hc with
  | 0, hc => by
    cases hc
    exact tyX0_ok
  | 1, hc => by
    cases hc
    exact tyX1_ok
  | 2, hc => by
    cases hc
    exact tyX2_ok
  | 3, hc => by
    cases hc
    exact tyX3_ok
  | 4, hc => by
    cases hc
    exact tyX4_ok
  | 5, hc => by
    cases hc
    exact tyX5_ok
  | 6, hc => by
    cases hc
    exact tyX6_ok
  | 7, hc => by
    cases hc
    exact tyX7_ok
  | 8, hc => by
    cases hc
    exact tyX8_ok
  | (_ + 9), hc => by cases hc

theorem vNm {ci N : Nat} {C : String} {T : u_T} (hc : classes[ci]? = some (C, T, N)) : ∀ a, a < N → ∀ b, b < N → a ≠ b → (T a).2.1 ≠ (T b).2.1 :=
  match ci, hc with
  | 0, hc => by
    cases hc
    exact nmX0
  | 1, hc => by
    cases hc
    exact nmX1
  | 2, hc => by
    cases hc
    exact nmX2
  | 3, hc => by
    cases hc
    exact nmX3
  | 4, hc => by
    cases hc
    exact nmX4
  | 5, hc => by
    cases hc
    exact nmX5
  | 6, hc => by
    cases hc
    exact nmX6
  | 7, hc => by
    cases hc
    exact nmX7
  | 8, hc => by
    cases hc
    exact nmX8
  | (_ + 9), hc => by cases hc

theorem vN_eq {ci N : Nat} {C : String} {T : u_T} (hc : classes[ci]? = some (C, T, N)) : N = vN ci :=
  match ci, hc with
  | 0, hc => by
    cases hc
    exact rfl
  | 1, hc => by
    cases hc
    exact rfl
  | 2, hc => by
    cases hc
    exact rfl
  | 3, hc => by
    cases hc
    exact rfl
  | 4, hc => by
    cases hc
    exact rfl
  | 5, hc => by
    cases hc
    exact rfl
  | 6, hc => by
    cases hc
    exact rfl
  | 7, hc => by
    cases hc
    exact rfl
  | 8, hc => by
    cases hc
    exact rfl
  | (_ + 9), hc => by cases hc

theorem vGood (big : List Cond) (h : ∀ w ∈ vTbl, w ∈ big) : GoodIn big vTbl := fun w hw => ⟨h w hw, good_of_word (List.mem_filter.mp hw).2⟩
end
section
/-- a method: its name, code, locals, answer -/
abbrev vMI : Type := MethodName × ByteArray × Nat × Option FieldType
/-- links among nest mates -/
def vNst (U : State) : Prop := va_Nw (.fieldLinkNest "BreadString$Sightings" 25 "BreadString$Trip" "tower" "LBreadString$Tower;" "BreadString") U
theorem vNst.warm {s U : State} (hW : s.WarmedH U.vm) (h : vNst s) : vNst U := va_Nw.warmF hW h
theorem vNst.same {u U : State} (hvm : u.vm = U.vm) (h : vNst u) : vNst U := va_Nw.same rfl hvm h
/-- a field's link, by the tables -/
def vFL (own : String) (idx ci k : Nat) : Prop := ∀ (C : String) (T : u_T) (N : Nat), classes[ci]? = some (C, T, N) → k < N ∧ (Cond.fieldLink own idx (T k).1 (T k).2.1 (T k).2.2.1 ∈ vTbl ∨ ∃ host, ∀ s, vNst s → va_Nw (.fieldLinkNest own idx (T k).1 (T k).2.1 (T k).2.2.1 host) s)
/-- a field's link where it isn't final -/
def vFP (own : String) (idx ci k : Nat) : Prop := ∀ (C : String) (T : u_T) (N : Nat), classes[ci]? = some (C, T, N) → k < N ∧ (T k).2.2.2 = false ∧ Cond.fieldLink own idx (T k).1 (T k).2.1 (T k).2.2.1 ∈ vTbl
/-- the tables' words of a method: code, link, class -/
def vMf (mi : vMI) (n : Nat) : Prop := plainName mi.1.cls = true ∧ Cond.code mi.1 mi.2.1 mi.2.2.1 mi.2.2.2 ∈ vTbl ∧ Cond.initialized mi.1.cls ∈ vTbl ∧ (mi.1.cls ≠ "java/lang/invoke/MethodHandle" ∧ mi.1.cls ≠ "java/lang/invoke/VarHandle" ∧ (parseMethodDescriptor mi.1.desc).map (fun d => d.parameters.length) = some n) ∧ mi.2.2.1 ≤ 21
def vMfV (mi : vMI) (n : Nat) : Prop := vMf mi n ∧ Cond.instanceMethod mi.1 ∈ vTbl ∧ Cond.selects mi.1.cls mi.1 mi.1 ∈ vTbl
def vMfS (mi : vMI) (n : Nat) : Prop := vMf mi n ∧ Cond.static mi.1 ∈ vTbl
end
section
abbrev cX0_init : ByteArray := prog_2_method_1_code
def yX0_init : MethodName := ⟨RX0, "<init>", "()V"⟩
abbrev mX0_init : vMI := (yX0_init, cX0_init, 1, none)
abbrev cX0_clear : ByteArray := prog_2_method_2_code
def yX0_clear : MethodName := ⟨RX0, "clear", "()V"⟩
abbrev mX0_clear : vMI := (yX0_clear, cX0_clear, 1, none)
abbrev cX0_offer : ByteArray := prog_2_method_3_code
def yX0_offer : MethodName := ⟨RX0, "offer", "(II)V"⟩
abbrev mX0_offer : vMI := (yX0_offer, cX0_offer, 3, none)
abbrev cX1_init : ByteArray := prog_3_method_1_code
def yX1_init : MethodName := ⟨RX1, "<init>", "()V"⟩
abbrev mX1_init : vMI := (yX1_init, cX1_init, 1, none)
abbrev cX1_add : ByteArray := prog_3_method_2_code
def yX1_add : MethodName := ⟨RX1, "add", "(I)Z"⟩
abbrev mX1_add : vMI := (yX1_add, cX1_add, 2, (some .boolean))
abbrev cX1_all : ByteArray := prog_3_method_3_code
def yX1_all : MethodName := ⟨RX1, "all", "()J"⟩
abbrev mX1_all : vMI := (yX1_all, cX1_all, 1, (some .long))
abbrev cX1_allBut : ByteArray := prog_3_method_4_code
def yX1_allBut : MethodName := ⟨RX1, "allBut", "(I)J"⟩
abbrev mX1_allBut : vMI := (yX1_allBut, cX1_allBut, 2, (some .long))
abbrev cX1_chosen : ByteArray := prog_3_method_5_code
def yX1_chosen : MethodName := ⟨RX1, "chosen", "(I)J"⟩
abbrev mX1_chosen : vMI := (yX1_chosen, cX1_chosen, 5, (some .long))
abbrev cX2_init : ByteArray := prog_4_method_1_code
def yX2_init : MethodName := ⟨RX2, "<init>", "()V"⟩
abbrev mX2_init : vMI := (yX2_init, cX2_init, 2, none)
abbrev cX2_isLost : ByteArray := prog_4_method_2_code
def yX2_isLost : MethodName := ⟨RX2, "isLost", "(I)Z"⟩
abbrev mX2_isLost : vMI := (yX2_isLost, cX2_isLost, 2, (some .boolean))
abbrev cX2_make : ByteArray := prog_4_method_3_code
def yX2_make : MethodName := ⟨RX2, "make", "(III)V"⟩
abbrev mX2_make : vMI := (yX2_make, cX2_make, 5, none)
abbrev cX2_wrongWith : ByteArray := prog_4_method_4_code
def yX2_wrongWith : MethodName := ⟨RX2, "wrongWith", "(III)I"⟩
abbrev mX2_wrongWith : vMI := (yX2_wrongWith, cX2_wrongWith, 4, (some .int))
abbrev cX2_hasItems : ByteArray := prog_4_method_5_code
def yX2_hasItems : MethodName := ⟨RX2, "hasItems", "(III)Z"⟩
abbrev mX2_hasItems : vMI := (yX2_hasItems, cX2_hasItems, 4, (some .boolean))
abbrev cX2_item : ByteArray := prog_4_method_6_code
def yX2_item : MethodName := ⟨RX2, "item", "(II)I"⟩
abbrev mX2_item : vMI := (yX2_item, cX2_item, 3, (some .int))
abbrev cX2_store : ByteArray := prog_4_method_7_code
def yX2_store : MethodName := ⟨RX2, "store", "(III)V"⟩
abbrev mX2_store : vMI := (yX2_store, cX2_store, 5, none)
abbrev cX3_init : ByteArray := prog_5_method_1_code
def yX3_init : MethodName := ⟨RX3, "<init>", "()V"⟩
abbrev mX3_init : vMI := (yX3_init, cX3_init, 1, none)
abbrev cX3_add : ByteArray := prog_5_method_2_code
def yX3_add : MethodName := ⟨RX3, "add", "(III)Z"⟩
abbrev mX3_add : vMI := (yX3_add, cX3_add, 4, (some .boolean))
abbrev cX3_agree : ByteArray := prog_5_method_3_code
def yX3_agree : MethodName := ⟨RX3, "agree", "(LBreadString$Trip;)Z"⟩
abbrev mX3_agree : vMI := (yX3_agree, cX3_agree, 3, (some .boolean))
abbrev cX4_init : ByteArray := prog_6_method_1_code
def yX4_init : MethodName := ⟨RX4, "<init>", "(I)V"⟩
abbrev mX4_init : vMI := (yX4_init, cX4_init, 2, none)
abbrev cX4_append : ByteArray := prog_6_method_2_code
def yX4_append : MethodName := ⟨RX4, "append", "(I)Z"⟩
abbrev mX4_append : vMI := (yX4_append, cX4_append, 2, (some .boolean))
abbrev cX5_init : ByteArray := prog_7_method_1_code
def yX5_init : MethodName := ⟨RX5, "<init>", "()V"⟩
abbrev mX5_init : vMI := (yX5_init, cX5_init, 1, none)
abbrev cX5_readFloors : ByteArray := prog_7_method_2_code
def yX5_readFloors : MethodName := ⟨RX5, "readFloors", "(LBreadString$Text;)V"⟩
abbrev mX5_readFloors : vMI := (yX5_readFloors, cX5_readFloors, 2, none)
abbrev cX5_takeFloors : ByteArray := prog_7_method_3_code
def yX5_takeFloors : MethodName := ⟨RX5, "takeFloors", "(LBreadString$Text;)I"⟩
abbrev mX5_takeFloors : vMI := (yX5_takeFloors, cX5_takeFloors, 6, (some .int))
abbrev cX5_readBaskets : ByteArray := prog_7_method_4_code
def yX5_readBaskets : MethodName := ⟨RX5, "readBaskets", "(LBreadString$Text;)V"⟩
abbrev mX5_readBaskets : vMI := (yX5_readBaskets, cX5_readBaskets, 2, none)
abbrev cX5_takeBaskets : ByteArray := prog_7_method_5_code
def yX5_takeBaskets : MethodName := ⟨RX5, "takeBaskets", "(LBreadString$Text;)I"⟩
abbrev mX5_takeBaskets : vMI := (yX5_takeBaskets, cX5_takeBaskets, 5, (some .int))
abbrev cX5_basketTakes : ByteArray := prog_7_method_6_code
def yX5_basketTakes : MethodName := ⟨RX5, "basketTakes", "(II)Z"⟩
abbrev mX5_basketTakes : vMI := (yX5_basketTakes, cX5_basketTakes, 3, (some .boolean))
abbrev cX5_keepBasketByte : ByteArray := prog_7_method_7_code
def yX5_keepBasketByte : MethodName := ⟨RX5, "keepBasketByte", "(II)V"⟩
abbrev mX5_keepBasketByte : vMI := (yX5_keepBasketByte, cX5_keepBasketByte, 4, none)
abbrev cX5_toldLetter : ByteArray := prog_7_method_8_code
def yX5_toldLetter : MethodName := ⟨RX5, "toldLetter", "(II)I"⟩
abbrev mX5_toldLetter : vMI := (yX5_toldLetter, cX5_toldLetter, 3, (some .int))
abbrev cX5_loadInAll : ByteArray := prog_7_method_9_code
def yX5_loadInAll : MethodName := ⟨RX5, "loadInAll", "()I"⟩
abbrev mX5_loadInAll : vMI := (yX5_loadInAll, cX5_loadInAll, 3, (some .int))
abbrev cX5_changeBite : ByteArray := prog_7_method_10_code
def yX5_changeBite : MethodName := ⟨RX5, "changeBite", "(II)I"⟩
abbrev mX5_changeBite : vMI := (yX5_changeBite, cX5_changeBite, 4, (some .int))
abbrev cX5_sortOf : ByteArray := prog_7_method_11_code
def yX5_sortOf : MethodName := ⟨RX5, "sortOf", "(I)I"⟩
abbrev mX5_sortOf : vMI := (yX5_sortOf, cX5_sortOf, 1, (some .int))
abbrev cX5_isFigure : ByteArray := prog_7_method_12_code
def yX5_isFigure : MethodName := ⟨RX5, "isFigure", "(I)Z"⟩
abbrev mX5_isFigure : vMI := (yX5_isFigure, cX5_isFigure, 1, (some .boolean))
abbrev cX5_isLetter : ByteArray := prog_7_method_13_code
def yX5_isLetter : MethodName := ⟨RX5, "isLetter", "(I)Z"⟩
abbrev mX5_isLetter : vMI := (yX5_isLetter, cX5_isLetter, 1, (some .boolean))
abbrev cX6_init : ByteArray := prog_8_method_1_code
def yX6_init : MethodName := ⟨RX6, "<init>", "(LBreadString$Tower;)V"⟩
abbrev mX6_init : vMI := (yX6_init, cX6_init, 2, none)
abbrev cX6_go : ByteArray := prog_8_method_2_code
def yX6_go : MethodName := ⟨RX6, "go", "(JJI)V"⟩
abbrev mX6_go : vMI := (yX6_go, cX6_go, 7, none)
abbrev cX6_begin : ByteArray := prog_8_method_3_code
def yX6_begin : MethodName := ⟨RX6, "begin", "()V"⟩
abbrev mX6_begin : vMI := (yX6_begin, cX6_begin, 2, none)
abbrev cX6_arrive : ByteArray := prog_8_method_4_code
def yX6_arrive : MethodName := ⟨RX6, "arrive", "(I)V"⟩
abbrev mX6_arrive : vMI := (yX6_arrive, cX6_arrive, 3, none)
abbrev cX6_serve : ByteArray := prog_8_method_5_code
def yX6_serve : MethodName := ⟨RX6, "serve", "(I)V"⟩
abbrev mX6_serve : vMI := (yX6_serve, cX6_serve, 5, none)
abbrev cX6_wantsBite : ByteArray := prog_8_method_6_code
def yX6_wantsBite : MethodName := ⟨RX6, "wantsBite", "(II)Z"⟩
abbrev mX6_wantsBite : vMI := (yX6_wantsBite, cX6_wantsBite, 4, (some .boolean))
abbrev cX6_bite : ByteArray := prog_8_method_7_code
def yX6_bite : MethodName := ⟨RX6, "bite", "(III)V"⟩
abbrev mX6_bite : vMI := (yX6_bite, cX6_bite, 5, none)
abbrev cX6_climb : ByteArray := prog_8_method_8_code
def yX6_climb : MethodName := ⟨RX6, "climb", "(I)V"⟩
abbrev mX6_climb : vMI := (yX6_climb, cX6_climb, 4, none)
abbrev cX6_leave : ByteArray := prog_8_method_9_code
def yX6_leave : MethodName := ⟨RX6, "leave", "(II)V"⟩
abbrev mX6_leave : vMI := (yX6_leave, cX6_leave, 3, none)
abbrev cX6_letters : ByteArray := prog_8_method_10_code
def yX6_letters : MethodName := ⟨RX6, "letters", "(I)I"⟩
abbrev mX6_letters : vMI := (yX6_letters, cX6_letters, 2, (some .int))
abbrev cX6_letter : ByteArray := prog_8_method_11_code
def yX6_letter : MethodName := ⟨RX6, "letter", "(II)I"⟩
abbrev mX6_letter : vMI := (yX6_letter, cX6_letter, 3, (some .int))
abbrev cX6_noteAsTold : ByteArray := prog_8_method_12_code
def yX6_noteAsTold : MethodName := ⟨RX6, "noteAsTold", "(I)Z"⟩
abbrev mX6_noteAsTold : vMI := (yX6_noteAsTold, cX6_noteAsTold, 3, (some .boolean))
abbrev cX6_bringsUp : ByteArray := prog_8_method_13_code
def yX6_bringsUp : MethodName := ⟨RX6, "bringsUp", "(II)Z"⟩
abbrev mX6_bringsUp : vMI := (yX6_bringsUp, cX6_bringsUp, 3, (some .boolean))
abbrev cX6_loadUp : ByteArray := prog_8_method_14_code
def yX6_loadUp : MethodName := ⟨RX6, "loadUp", "()I"⟩
abbrev mX6_loadUp : vMI := (yX6_loadUp, cX6_loadUp, 3, (some .int))
abbrev cX7_init : ByteArray := prog_1_method_1_code
def yX7_init : MethodName := ⟨RX7, "<init>", "()V"⟩
abbrev mX7_init : vMI := (yX7_init, cX7_init, 1, none)
abbrev cX7_type : ByteArray := prog_1_method_2_code
def yX7_type : MethodName := ⟨RX7, "type", "(II)I"⟩
abbrev mX7_type : vMI := (yX7_type, cX7_type, 3, (some .int))
abbrev cX7_wipe : ByteArray := prog_1_method_3_code
def yX7_wipe : MethodName := ⟨RX7, "wipe", "(I)I"⟩
abbrev mX7_wipe : vMI := (yX7_wipe, cX7_wipe, 3, (some .int))
abbrev cX7_undo : ByteArray := prog_1_method_4_code
def yX7_undo : MethodName := ⟨RX7, "undo", "(I)I"⟩
abbrev mX7_undo : vMI := (yX7_undo, cX7_undo, 2, (some .int))
abbrev cX7_fault : ByteArray := prog_1_method_5_code
def yX7_fault : MethodName := ⟨RX7, "fault", "(I)I"⟩
abbrev mX7_fault : vMI := (yX7_fault, cX7_fault, 2, (some .int))
abbrev cX7_floor : ByteArray := prog_1_method_6_code
def yX7_floor : MethodName := ⟨RX7, "floor", "(II)I"⟩
abbrev mX7_floor : vMI := (yX7_floor, cX7_floor, 3, (some .int))
abbrev cX7_basket : ByteArray := prog_1_method_7_code
def yX7_basket : MethodName := ⟨RX7, "basket", "(II)I"⟩
abbrev mX7_basket : vMI := (yX7_basket, cX7_basket, 3, (some .int))
abbrev cX7_set : ByteArray := prog_1_method_8_code
def yX7_set : MethodName := ⟨RX7, "set", "(II)I"⟩
abbrev mX7_set : vMI := (yX7_set, cX7_set, 4, (some .int))
abbrev cX7_wind : ByteArray := prog_1_method_9_code
def yX7_wind : MethodName := ⟨RX7, "wind", "(I)I"⟩
abbrev mX7_wind : vMI := (yX7_wind, cX7_wind, 2, (some .int))
abbrev cX7_sunday : ByteArray := prog_1_method_10_code
def yX7_sunday : MethodName := ⟨RX7, "sunday", "(I)I"⟩
abbrev mX7_sunday : vMI := (yX7_sunday, cX7_sunday, 2, (some .int))
abbrev cX7_back : ByteArray := prog_1_method_11_code
def yX7_back : MethodName := ⟨RX7, "back", "(I)I"⟩
abbrev mX7_back : vMI := (yX7_back, cX7_back, 3, (some .int))
abbrev cX7_read : ByteArray := prog_1_method_12_code
def yX7_read : MethodName := ⟨RX7, "read", "(I)I"⟩
abbrev mX7_read : vMI := (yX7_read, cX7_read, 3, (some .int))
abbrev cX7_at : ByteArray := prog_1_method_13_code
def yX7_at : MethodName := ⟨RX7, "at", "(III)I"⟩
abbrev mX7_at : vMI := (yX7_at, cX7_at, 4, (some .int))
abbrev cX7_note : ByteArray := prog_1_method_14_code
def yX7_note : MethodName := ⟨RX7, "note", "(II)I"⟩
abbrev mX7_note : vMI := (yX7_note, cX7_note, 3, (some .int))
abbrev cX7_comes : ByteArray := prog_1_method_15_code
def yX7_comes : MethodName := ⟨RX7, "comes", "(I)I"⟩
abbrev mX7_comes : vMI := (yX7_comes, cX7_comes, 2, (some .int))
abbrev cX7_bites : ByteArray := prog_1_method_16_code
def yX7_bites : MethodName := ⟨RX7, "bites", "(II)I"⟩
abbrev mX7_bites : vMI := (yX7_bites, cX7_bites, 3, (some .int))
abbrev cX7_famine : ByteArray := prog_1_method_17_code
def yX7_famine : MethodName := ⟨RX7, "famine", "()I"⟩
abbrev mX7_famine : vMI := (yX7_famine, cX7_famine, 1, (some .int))
abbrev cX7_first : ByteArray := prog_1_method_18_code
def yX7_first : MethodName := ⟨RX7, "first", "(I)I"⟩
abbrev mX7_first : vMI := (yX7_first, cX7_first, 2, (some .int))
abbrev cX7_greedy : ByteArray := prog_1_method_19_code
def yX7_greedy : MethodName := ⟨RX7, "greedy", "()I"⟩
abbrev mX7_greedy : vMI := (yX7_greedy, cX7_greedy, 2, (some .int))
abbrev cX7_send : ByteArray := prog_1_method_20_code
def yX7_send : MethodName := ⟨RX7, "send", "(II)I"⟩
abbrev mX7_send : vMI := (yX7_send, cX7_send, 3, (some .int))
abbrev cX7_loaf : ByteArray := prog_1_method_21_code
def yX7_loaf : MethodName := ⟨RX7, "loaf", "(II)I"⟩
abbrev mX7_loaf : vMI := (yX7_loaf, cX7_loaf, 6, (some .int))
abbrev cX7_feed : ByteArray := prog_1_method_22_code
def yX7_feed : MethodName := ⟨RX7, "feed", "(II)I"⟩
abbrev mX7_feed : vMI := (yX7_feed, cX7_feed, 3, (some .int))
abbrev cX7_still : ByteArray := prog_1_method_23_code
def yX7_still : MethodName := ⟨RX7, "still", "(I)I"⟩
abbrev mX7_still : vMI := (yX7_still, cX7_still, 2, (some .int))
abbrev cX7_seen : ByteArray := prog_1_method_24_code
def yX7_seen : MethodName := ⟨RX7, "seen", "(III)I"⟩
abbrev mX7_seen : vMI := (yX7_seen, cX7_seen, 4, (some .int))
abbrev cX7_forget : ByteArray := prog_1_method_25_code
def yX7_forget : MethodName := ⟨RX7, "forget", "()I"⟩
abbrev mX7_forget : vMI := (yX7_forget, cX7_forget, 2, (some .int))
abbrev cX7_never : ByteArray := prog_1_method_26_code
def yX7_never : MethodName := ⟨RX7, "never", "()I"⟩
abbrev mX7_never : vMI := (yX7_never, cX7_never, 3, (some .int))
abbrev cX7_was : ByteArray := prog_1_method_27_code
def yX7_was : MethodName := ⟨RX7, "was", "(II)I"⟩
abbrev mX7_was : vMI := (yX7_was, cX7_was, 3, (some .int))
abbrev cX7_ask : ByteArray := prog_1_method_28_code
def yX7_ask : MethodName := ⟨RX7, "ask", "(I)I"⟩
abbrev mX7_ask : vMI := (yX7_ask, cX7_ask, 4, (some .int))
abbrev cX7_gust : ByteArray := prog_1_method_29_code
def yX7_gust : MethodName := ⟨RX7, "gust", "(IIII)J"⟩
abbrev mX7_gust : vMI := (yX7_gust, cX7_gust, 5, (some .long))
abbrev cX7_week : ByteArray := prog_1_method_30_code
def yX7_week : MethodName := ⟨RX7, "week", "(III)I"⟩
abbrev mX7_week : vMI := (yX7_week, cX7_week, 4, (some .int))
abbrev cX7_sheet : ByteArray := prog_1_method_31_code
def yX7_sheet : MethodName := ⟨RX7, "sheet", "(III)I"⟩
abbrev mX7_sheet : vMI := (yX7_sheet, cX7_sheet, 4, (some .int))
abbrev cX7_lose : ByteArray := prog_1_method_32_code
def yX7_lose : MethodName := ⟨RX7, "lose", "(I)I"⟩
abbrev mX7_lose : vMI := (yX7_lose, cX7_lose, 3, (some .int))
abbrev cX7_put : ByteArray := prog_1_method_33_code
def yX7_put : MethodName := ⟨RX7, "put", "(IIII)I"⟩
abbrev mX7_put : vMI := (yX7_put, cX7_put, 6, (some .int))
abbrev cX7_get : ByteArray := prog_1_method_34_code
def yX7_get : MethodName := ⟨RX7, "get", "(III)I"⟩
abbrev mX7_get : vMI := (yX7_get, cX7_get, 5, (some .int))
abbrev cX7_copy : ByteArray := prog_1_method_35_code
def yX7_copy : MethodName := ⟨RX7, "copy", "(IIIII)I"⟩
abbrev mX7_copy : vMI := (yX7_copy, cX7_copy, 6, (some .int))
abbrev cX7_write : ByteArray := prog_1_method_36_code
def yX7_write : MethodName := ⟨RX7, "write", "(II)I"⟩
abbrev mX7_write : vMI := (yX7_write, cX7_write, 5, (some .int))
abbrev cX7_count : ByteArray := prog_1_method_37_code
def yX7_count : MethodName := ⟨RX7, "count", "(I)I"⟩
abbrev mX7_count : vMI := (yX7_count, cX7_count, 2, (some .int))
abbrev cX7_digest : ByteArray := prog_1_method_38_code
def yX7_digest : MethodName := ⟨RX7, "digest", "()J"⟩
abbrev mX7_digest : vMI := (yX7_digest, cX7_digest, 4, (some .long))
abbrev cX7_isText : ByteArray := prog_1_method_39_code
def yX7_isText : MethodName := ⟨RX7, "isText", "(I)Z"⟩
abbrev mX7_isText : vMI := (yX7_isText, cX7_isText, 1, (some .boolean))
abbrev cX7_isHour : ByteArray := prog_1_method_40_code
def yX7_isHour : MethodName := ⟨RX7, "isHour", "(I)Z"⟩
abbrev mX7_isHour : vMI := (yX7_isHour, cX7_isHour, 1, (some .boolean))
abbrev cX7_isLoad : ByteArray := prog_1_method_41_code
def yX7_isLoad : MethodName := ⟨RX7, "isLoad", "(I)Z"⟩
abbrev mX7_isLoad : vMI := (yX7_isLoad, cX7_isLoad, 1, (some .boolean))
abbrev cX7_isSheet : ByteArray := prog_1_method_42_code
def yX7_isSheet : MethodName := ⟨RX7, "isSheet", "(I)Z"⟩
abbrev mX7_isSheet : vMI := (yX7_isSheet, cX7_isSheet, 1, (some .boolean))
abbrev cX7_isForm : ByteArray := prog_1_method_43_code
def yX7_isForm : MethodName := ⟨RX7, "isForm", "(I)Z"⟩
abbrev mX7_isForm : vMI := (yX7_isForm, cX7_isForm, 1, (some .boolean))
abbrev cX7_isFloor : ByteArray := prog_1_method_44_code
def yX7_isFloor : MethodName := ⟨RX7, "isFloor", "(I)Z"⟩
abbrev mX7_isFloor : vMI := (yX7_isFloor, cX7_isFloor, 2, (some .boolean))
abbrev cX7_isBasket : ByteArray := prog_1_method_45_code
def yX7_isBasket : MethodName := ⟨RX7, "isBasket", "(I)Z"⟩
abbrev mX7_isBasket : vMI := (yX7_isBasket, cX7_isBasket, 2, (some .boolean))
abbrev cX7_textOf : ByteArray := prog_1_method_46_code
def yX7_textOf : MethodName := ⟨RX7, "textOf", "(I)LBreadString$Text;"⟩
abbrev mX7_textOf : vMI := (yX7_textOf, cX7_textOf, 2, (some (.object "BreadString$Text")))
abbrev cX7_reread : ByteArray := prog_1_method_47_code
def yX7_reread : MethodName := ⟨RX7, "reread", "(I)I"⟩
abbrev mX7_reread : vMI := (yX7_reread, cX7_reread, 2, (some .int))
abbrev cX7_oneMore : ByteArray := prog_1_method_48_code
def yX7_oneMore : MethodName := ⟨RX7, "oneMore", "(LBreadString$Marks;I)I"⟩
abbrev mX7_oneMore : vMI := (yX7_oneMore, cX7_oneMore, 2, (some .int))
abbrev cX7_found : ByteArray := prog_1_method_49_code
def yX7_found : MethodName := ⟨RX7, "found", "(I)I"⟩
abbrev mX7_found : vMI := (yX7_found, cX7_found, 2, (some .int))
abbrev cX7_goAsTold : ByteArray := prog_1_method_50_code
def yX7_goAsTold : MethodName := ⟨RX7, "goAsTold", "()V"⟩
abbrev mX7_goAsTold : vMI := (yX7_goAsTold, cX7_goAsTold, 1, none)
abbrev cX7_findHour : ByteArray := prog_1_method_51_code
def yX7_findHour : MethodName := ⟨RX7, "findHour", "(I)V"⟩
abbrev mX7_findHour : vMI := (yX7_findHour, cX7_findHour, 4, none)
abbrev cX7_findStill : ByteArray := prog_1_method_52_code
def yX7_findStill : MethodName := ⟨RX7, "findStill", "()V"⟩
abbrev mX7_findStill : vMI := (yX7_findStill, cX7_findStill, 2, none)
abbrev cX7_findFed : ByteArray := prog_1_method_53_code
def yX7_findFed : MethodName := ⟨RX7, "findFed", "(I)V"⟩
abbrev mX7_findFed : vMI := (yX7_findFed, cX7_findFed, 4, none)
abbrev cX7_keepFed : ByteArray := prog_1_method_54_code
def yX7_keepFed : MethodName := ⟨RX7, "keepFed", "(III)V"⟩
abbrev mX7_keepFed : vMI := (yX7_keepFed, cX7_keepFed, 4, none)
abbrev cX7_fedAt : ByteArray := prog_1_method_55_code
def yX7_fedAt : MethodName := ⟨RX7, "fedAt", "(I)I"⟩
abbrev mX7_fedAt : vMI := (yX7_fedAt, cX7_fedAt, 2, (some .int))
abbrev cX7_staysWhole : ByteArray := prog_1_method_56_code
def yX7_staysWhole : MethodName := ⟨RX7, "staysWhole", "(III)Z"⟩
abbrev mX7_staysWhole : vMI := (yX7_staysWhole, cX7_staysWhole, 6, (some .boolean))
abbrev cX7_fittingBites : ByteArray := prog_1_method_57_code
def yX7_fittingBites : MethodName := ⟨RX7, "fittingBites", "(I)I"⟩
abbrev mX7_fittingBites : vMI := (yX7_fittingBites, cX7_fittingBites, 5, (some .int))
abbrev cX7_fittingWords : ByteArray := prog_1_method_58_code
def yX7_fittingWords : MethodName := ⟨RX7, "fittingWords", "(I)I"⟩
abbrev mX7_fittingWords : vMI := (yX7_fittingWords, cX7_fittingWords, 5, (some .int))
abbrev cX7_greatestHeap : ByteArray := prog_1_method_59_code
def yX7_greatestHeap : MethodName := ⟨RX7, "greatestHeap", "(II)I"⟩
abbrev mX7_greatestHeap : vMI := (yX7_greatestHeap, cX7_greatestHeap, 8, (some .int))
abbrev cX7_findChance : ByteArray := prog_1_method_60_code
def yX7_findChance : MethodName := ⟨RX7, "findChance", "(III)V"⟩
abbrev mX7_findChance : vMI := (yX7_findChance, cX7_findChance, 8, none)
abbrev cX7_lots : ByteArray := prog_1_method_61_code
def yX7_lots : MethodName := ⟨RX7, "lots", "(II)J"⟩
abbrev mX7_lots : vMI := (yX7_lots, cX7_lots, 6, (some .long))
abbrev cX7_mixed : ByteArray := prog_1_method_62_code
def yX7_mixed : MethodName := ⟨RX7, "mixed", "(JJ)J"⟩
abbrev mX7_mixed : vMI := (yX7_mixed, cX7_mixed, 4, (some .long))
abbrev cX7_mixedFloor : ByteArray := prog_1_method_63_code
def yX7_mixedFloor : MethodName := ⟨RX7, "mixedFloor", "(JI)J"⟩
abbrev mX7_mixedFloor : vMI := (yX7_mixedFloor, cX7_mixedFloor, 5, (some .long))
abbrev cX7_mixedWay : ByteArray := prog_1_method_64_code
def yX7_mixedWay : MethodName := ⟨RX7, "mixedWay", "(JI)J"⟩
abbrev mX7_mixedWay : vMI := (yX7_mixedWay, cX7_mixedWay, 5, (some .long))
abbrev cX7_mixedHour : ByteArray := prog_1_method_65_code
def yX7_mixedHour : MethodName := ⟨RX7, "mixedHour", "(JII)J"⟩
abbrev mX7_mixedHour : vMI := (yX7_mixedHour, cX7_mixedHour, 6, (some .long))
abbrev cX7_mixedPlans : ByteArray := prog_1_method_66_code
def yX7_mixedPlans : MethodName := ⟨RX7, "mixedPlans", "(JI)J"⟩
abbrev mX7_mixedPlans : vMI := (yX7_mixedPlans, cX7_mixedPlans, 4, (some .long))
abbrev cX8_init : ByteArray := prog_10_method_1_code
def yX8_init : MethodName := ⟨RX8, "<init>", "()V"⟩
abbrev mX8_init : vMI := (yX8_init, cX8_init, 1, none)
abbrev cX8_in : ByteArray := prog_10_method_3_code
def yX8_in : MethodName := ⟨RX8, "in", "(III)Z"⟩
abbrev mX8_in : vMI := (yX8_in, cX8_in, 3, (some .boolean))
abbrev cX8_isIn : ByteArray := prog_10_method_4_code
def yX8_isIn : MethodName := ⟨RX8, "isIn", "(JI)Z"⟩
abbrev mX8_isIn : vMI := (yX8_isIn, cX8_isIn, 3, (some .boolean))
abbrev cX8_no : ByteArray := prog_10_method_5_code
def yX8_no : MethodName := ⟨RX8, "no", "(I)J"⟩
abbrev mX8_no : vMI := (yX8_no, cX8_no, 1, (some .long))
abbrev cX8_lowest : ByteArray := prog_10_method_6_code
def yX8_lowest : MethodName := ⟨RX8, "lowest", "(JJI)J"⟩
abbrev mX8_lowest : vMI := (yX8_lowest, cX8_lowest, 11, (some .long))
abbrev cX8_isText : ByteArray := prog_10_method_7_code
def yX8_isText : MethodName := ⟨RX8, "isText", "(I)Z"⟩
abbrev mX8_isText : vMI := (yX8_isText, cX8_isText, 1, (some .boolean))
abbrev cX8_isHour : ByteArray := prog_10_method_8_code
def yX8_isHour : MethodName := ⟨RX8, "isHour", "(I)Z"⟩
abbrev mX8_isHour : vMI := (yX8_isHour, cX8_isHour, 1, (some .boolean))
abbrev cX8_type : ByteArray := prog_10_method_9_code
def yX8_type : MethodName := ⟨RX8, "type", "(II)I"⟩
abbrev mX8_type : vMI := (yX8_type, cX8_type, 3, (some .int))
abbrev cX8_wipe : ByteArray := prog_10_method_10_code
def yX8_wipe : MethodName := ⟨RX8, "wipe", "(I)I"⟩
abbrev mX8_wipe : vMI := (yX8_wipe, cX8_wipe, 3, (some .int))
abbrev cX8_undo : ByteArray := prog_10_method_11_code
def yX8_undo : MethodName := ⟨RX8, "undo", "(I)I"⟩
abbrev mX8_undo : vMI := (yX8_undo, cX8_undo, 2, (some .int))
abbrev cX8_byteAt : ByteArray := prog_10_method_12_code
def yX8_byteAt : MethodName := ⟨RX8, "byteAt", "(II)I"⟩
abbrev mX8_byteAt : vMI := (yX8_byteAt, cX8_byteAt, 3, (some .int))
abbrev cX8_isLetter : ByteArray := prog_10_method_13_code
def yX8_isLetter : MethodName := ⟨RX8, "isLetter", "(II)Z"⟩
abbrev mX8_isLetter : vMI := (yX8_isLetter, cX8_isLetter, 3, (some .boolean))
abbrev cX8_isFigure : ByteArray := prog_10_method_14_code
def yX8_isFigure : MethodName := ⟨RX8, "isFigure", "(III)Z"⟩
abbrev mX8_isFigure : vMI := (yX8_isFigure, cX8_isFigure, 4, (some .boolean))
abbrev cX8_readsFloor : ByteArray := prog_10_method_15_code
def yX8_readsFloor : MethodName := ⟨RX8, "readsFloor", "(II)I"⟩
abbrev mX8_readsFloor : vMI := (yX8_readsFloor, cX8_readsFloor, 5, (some .int))
abbrev cX8_readsBasket : ByteArray := prog_10_method_16_code
def yX8_readsBasket : MethodName := ⟨RX8, "readsBasket", "(II)I"⟩
abbrev mX8_readsBasket : vMI := (yX8_readsBasket, cX8_readsBasket, 5, (some .int))
abbrev cX8_readsParts : ByteArray := prog_10_method_17_code
def yX8_readsParts : MethodName := ⟨RX8, "readsParts", "(I)I"⟩
abbrev mX8_readsParts : vMI := (yX8_readsParts, cX8_readsParts, 5, (some .int))
abbrev cX8_faultOf : ByteArray := prog_10_method_18_code
def yX8_faultOf : MethodName := ⟨RX8, "faultOf", "(I)I"⟩
abbrev mX8_faultOf : vMI := (yX8_faultOf, cX8_faultOf, 4, (some .int))
abbrev cX8_reads : ByteArray := prog_10_method_19_code
def yX8_reads : MethodName := ⟨RX8, "reads", "()V"⟩
abbrev mX8_reads : vMI := (yX8_reads, cX8_reads, 2, none)
abbrev cX8_fault : ByteArray := prog_10_method_20_code
def yX8_fault : MethodName := ⟨RX8, "fault", "(I)I"⟩
abbrev mX8_fault : vMI := (yX8_fault, cX8_fault, 2, (some .int))
abbrev cX8_isFloor : ByteArray := prog_10_method_21_code
def yX8_isFloor : MethodName := ⟨RX8, "isFloor", "(I)Z"⟩
abbrev mX8_isFloor : vMI := (yX8_isFloor, cX8_isFloor, 2, (some .boolean))
abbrev cX8_isBasket : ByteArray := prog_10_method_22_code
def yX8_isBasket : MethodName := ⟨RX8, "isBasket", "(I)Z"⟩
abbrev mX8_isBasket : vMI := (yX8_isBasket, cX8_isBasket, 2, (some .boolean))
abbrev cX8_floorOf : ByteArray := prog_10_method_23_code
def yX8_floorOf : MethodName := ⟨RX8, "floorOf", "(II)I"⟩
abbrev mX8_floorOf : vMI := (yX8_floorOf, cX8_floorOf, 3, (some .int))
abbrev cX8_floor : ByteArray := prog_10_method_24_code
def yX8_floor : MethodName := ⟨RX8, "floor", "(II)I"⟩
abbrev mX8_floor : vMI := (yX8_floor, cX8_floor, 3, (some .int))
abbrev cX8_basketOf : ByteArray := prog_10_method_25_code
def yX8_basketOf : MethodName := ⟨RX8, "basketOf", "(II)I"⟩
abbrev mX8_basketOf : vMI := (yX8_basketOf, cX8_basketOf, 3, (some .int))
abbrev cX8_basket : ByteArray := prog_10_method_26_code
def yX8_basket : MethodName := ⟨RX8, "basket", "(II)I"⟩
abbrev mX8_basket : vMI := (yX8_basket, cX8_basket, 3, (some .int))
abbrev cX8_set : ByteArray := prog_10_method_27_code
def yX8_set : MethodName := ⟨RX8, "set", "(II)I"⟩
abbrev mX8_set : vMI := (yX8_set, cX8_set, 4, (some .int))
abbrev cX8_wind : ByteArray := prog_10_method_28_code
def yX8_wind : MethodName := ⟨RX8, "wind", "(I)I"⟩
abbrev mX8_wind : vMI := (yX8_wind, cX8_wind, 2, (some .int))
abbrev cX8_sunday : ByteArray := prog_10_method_29_code
def yX8_sunday : MethodName := ⟨RX8, "sunday", "(I)I"⟩
abbrev mX8_sunday : vMI := (yX8_sunday, cX8_sunday, 2, (some .int))
abbrev cX8_back : ByteArray := prog_10_method_30_code
def yX8_back : MethodName := ⟨RX8, "back", "(I)I"⟩
abbrev mX8_back : vMI := (yX8_back, cX8_back, 3, (some .int))
abbrev cX8_read : ByteArray := prog_10_method_31_code
def yX8_read : MethodName := ⟨RX8, "read", "(I)I"⟩
abbrev mX8_read : vMI := (yX8_read, cX8_read, 3, (some .int))
abbrev cX8_bitsOf : ByteArray := prog_10_method_32_code
def yX8_bitsOf : MethodName := ⟨RX8, "bitsOf", "(JI)J"⟩
abbrev mX8_bitsOf : vMI := (yX8_bitsOf, cX8_bitsOf, 3, (some .long))
abbrev cX8_windsBut : ByteArray := prog_10_method_33_code
def yX8_windsBut : MethodName := ⟨RX8, "windsBut", "(I)J"⟩
abbrev mX8_windsBut : vMI := (yX8_windsBut, cX8_windsBut, 5, (some .long))
abbrev cX8_asTold : ByteArray := prog_10_method_34_code
def yX8_asTold : MethodName := ⟨RX8, "asTold", "()V"⟩
abbrev mX8_asTold : vMI := (yX8_asTold, cX8_asTold, 2, none)
abbrev cX8_isTangled : ByteArray := prog_10_method_35_code
def yX8_isTangled : MethodName := ⟨RX8, "isTangled", "(I)Z"⟩
abbrev mX8_isTangled : vMI := (yX8_isTangled, cX8_isTangled, 4, (some .boolean))
abbrev cX8_takes : ByteArray := prog_10_method_36_code
def yX8_takes : MethodName := ⟨RX8, "takes", "(III)V"⟩
abbrev mX8_takes : vMI := (yX8_takes, cX8_takes, 6, none)
abbrev cX8_wears : ByteArray := prog_10_method_37_code
def yX8_wears : MethodName := ⟨RX8, "wears", "(I)V"⟩
abbrev mX8_wears : vMI := (yX8_wears, cX8_wears, 3, none)
abbrev cX8_goesUp : ByteArray := prog_10_method_38_code
def yX8_goesUp : MethodName := ⟨RX8, "goesUp", "(II)V"⟩
abbrev mX8_goesUp : vMI := (yX8_goesUp, cX8_goesUp, 4, none)
abbrev cX8_goesBy : ByteArray := prog_10_method_39_code
def yX8_goesBy : MethodName := ⟨RX8, "goesBy", "(I)V"⟩
abbrev mX8_goesBy : vMI := (yX8_goesBy, cX8_goesBy, 5, none)
abbrev cX8_runs : ByteArray := prog_10_method_40_code
def yX8_runs : MethodName := ⟨RX8, "runs", "()V"⟩
abbrev mX8_runs : vMI := (yX8_runs, cX8_runs, 3, none)
abbrev cX8_runsTold : ByteArray := prog_10_method_41_code
def yX8_runsTold : MethodName := ⟨RX8, "runsTold", "()V"⟩
abbrev mX8_runsTold : vMI := (yX8_runsTold, cX8_runsTold, 1, none)
abbrev cX8_atOf : ByteArray := prog_10_method_42_code
def yX8_atOf : MethodName := ⟨RX8, "atOf", "(III)I"⟩
abbrev mX8_atOf : vMI := (yX8_atOf, cX8_atOf, 5, (some .int))
abbrev cX8_at : ByteArray := prog_10_method_43_code
def yX8_at : MethodName := ⟨RX8, "at", "(III)I"⟩
abbrev mX8_at : vMI := (yX8_at, cX8_at, 4, (some .int))
abbrev cX8_noteOf : ByteArray := prog_10_method_44_code
def yX8_noteOf : MethodName := ⟨RX8, "noteOf", "(II)I"⟩
abbrev mX8_noteOf : vMI := (yX8_noteOf, cX8_noteOf, 3, (some .int))
abbrev cX8_note : ByteArray := prog_10_method_45_code
def yX8_note : MethodName := ⟨RX8, "note", "(II)I"⟩
abbrev mX8_note : vMI := (yX8_note, cX8_note, 3, (some .int))
abbrev cX8_comesOf : ByteArray := prog_10_method_46_code
def yX8_comesOf : MethodName := ⟨RX8, "comesOf", "(I)I"⟩
abbrev mX8_comesOf : vMI := (yX8_comesOf, cX8_comesOf, 2, (some .int))
abbrev cX8_comes : ByteArray := prog_10_method_47_code
def yX8_comes : MethodName := ⟨RX8, "comes", "(I)I"⟩
abbrev mX8_comes : vMI := (yX8_comes, cX8_comes, 2, (some .int))
abbrev cX8_bitesOf : ByteArray := prog_10_method_48_code
def yX8_bitesOf : MethodName := ⟨RX8, "bitesOf", "(II)I"⟩
abbrev mX8_bitesOf : vMI := (yX8_bitesOf, cX8_bitesOf, 3, (some .int))
abbrev cX8_bites : ByteArray := prog_10_method_49_code
def yX8_bites : MethodName := ⟨RX8, "bites", "(II)I"⟩
abbrev mX8_bites : vMI := (yX8_bites, cX8_bites, 3, (some .int))
abbrev cX8_upMuch : ByteArray := prog_10_method_50_code
def yX8_upMuch : MethodName := ⟨RX8, "upMuch", "()I"⟩
abbrev mX8_upMuch : vMI := (yX8_upMuch, cX8_upMuch, 3, (some .int))
abbrev cX8_famineNow : ByteArray := prog_10_method_51_code
def yX8_famineNow : MethodName := ⟨RX8, "famineNow", "()I"⟩
abbrev mX8_famineNow : vMI := (yX8_famineNow, cX8_famineNow, 3, (some .int))
abbrev cX8_famine : ByteArray := prog_10_method_52_code
def yX8_famine : MethodName := ⟨RX8, "famine", "()I"⟩
abbrev mX8_famine : vMI := (yX8_famine, cX8_famine, 1, (some .int))
abbrev cX8_firstOf : ByteArray := prog_10_method_53_code
def yX8_firstOf : MethodName := ⟨RX8, "firstOf", "(I)I"⟩
abbrev mX8_firstOf : vMI := (yX8_firstOf, cX8_firstOf, 2, (some .int))
abbrev cX8_first : ByteArray := prog_10_method_54_code
def yX8_first : MethodName := ⟨RX8, "first", "(I)I"⟩
abbrev mX8_first : vMI := (yX8_first, cX8_first, 2, (some .int))
abbrev cX8_greedyNow : ByteArray := prog_10_method_55_code
def yX8_greedyNow : MethodName := ⟨RX8, "greedyNow", "()I"⟩
abbrev mX8_greedyNow : vMI := (yX8_greedyNow, cX8_greedyNow, 3, (some .int))
abbrev cX8_greedy : ByteArray := prog_10_method_56_code
def yX8_greedy : MethodName := ⟨RX8, "greedy", "()I"⟩
abbrev mX8_greedy : vMI := (yX8_greedy, cX8_greedy, 1, (some .int))
abbrev cX8_sendOf : ByteArray := prog_10_method_57_code
def yX8_sendOf : MethodName := ⟨RX8, "sendOf", "(II)I"⟩
abbrev mX8_sendOf : vMI := (yX8_sendOf, cX8_sendOf, 8, (some .int))
abbrev cX8_send : ByteArray := prog_10_method_58_code
def yX8_send : MethodName := ⟨RX8, "send", "(II)I"⟩
abbrev mX8_send : vMI := (yX8_send, cX8_send, 3, (some .int))
abbrev cX8_loafOf : ByteArray := prog_10_method_59_code
def yX8_loafOf : MethodName := ⟨RX8, "loafOf", "(II)I"⟩
abbrev mX8_loafOf : vMI := (yX8_loafOf, cX8_loafOf, 6, (some .int))
abbrev cX8_loaf : ByteArray := prog_10_method_60_code
def yX8_loaf : MethodName := ⟨RX8, "loaf", "(II)I"⟩
abbrev mX8_loaf : vMI := (yX8_loaf, cX8_loaf, 3, (some .int))
abbrev cX8_isKept : ByteArray := prog_10_method_61_code
def yX8_isKept : MethodName := ⟨RX8, "isKept", "(II)Z"⟩
abbrev mX8_isKept : vMI := (yX8_isKept, cX8_isKept, 5, (some .boolean))
abbrev cX8_feedBy : ByteArray := prog_10_method_62_code
def yX8_feedBy : MethodName := ⟨RX8, "feedBy", "(I)I"⟩
abbrev mX8_feedBy : vMI := (yX8_feedBy, cX8_feedBy, 4, (some .int))
abbrev cX8_ofRow : ByteArray := prog_10_method_63_code
def yX8_ofRow : MethodName := ⟨RX8, "ofRow", "(II)I"⟩
abbrev mX8_ofRow : vMI := (yX8_ofRow, cX8_ofRow, 3, (some .int))
abbrev cX8_feed : ByteArray := prog_10_method_64_code
def yX8_feed : MethodName := ⟨RX8, "feed", "(II)I"⟩
abbrev mX8_feed : vMI := (yX8_feed, cX8_feed, 3, (some .int))
abbrev cX8_stillOf : ByteArray := prog_10_method_65_code
def yX8_stillOf : MethodName := ⟨RX8, "stillOf", "(I)I"⟩
abbrev mX8_stillOf : vMI := (yX8_stillOf, cX8_stillOf, 6, (some .int))
abbrev cX8_still : ByteArray := prog_10_method_66_code
def yX8_still : MethodName := ⟨RX8, "still", "(I)I"⟩
abbrev mX8_still : vMI := (yX8_still, cX8_still, 2, (some .int))
abbrev cX8_seen : ByteArray := prog_10_method_67_code
def yX8_seen : MethodName := ⟨RX8, "seen", "(III)I"⟩
abbrev mX8_seen : vMI := (yX8_seen, cX8_seen, 4, (some .int))
abbrev cX8_forget : ByteArray := prog_10_method_68_code
def yX8_forget : MethodName := ⟨RX8, "forget", "()I"⟩
abbrev mX8_forget : vMI := (yX8_forget, cX8_forget, 2, (some .int))
abbrev cX8_isSeen : ByteArray := prog_10_method_69_code
def yX8_isSeen : MethodName := ⟨RX8, "isSeen", "()Z"⟩
abbrev mX8_isSeen : vMI := (yX8_isSeen, cX8_isSeen, 5, (some .boolean))
abbrev cX8_neverNow : ByteArray := prog_10_method_70_code
def yX8_neverNow : MethodName := ⟨RX8, "neverNow", "()I"⟩
abbrev mX8_neverNow : vMI := (yX8_neverNow, cX8_neverNow, 3, (some .int))
abbrev cX8_never : ByteArray := prog_10_method_71_code
def yX8_never : MethodName := ⟨RX8, "never", "()I"⟩
abbrev mX8_never : vMI := (yX8_never, cX8_never, 1, (some .int))
abbrev cX8_wasOf : ByteArray := prog_10_method_72_code
def yX8_wasOf : MethodName := ⟨RX8, "wasOf", "(II)I"⟩
abbrev mX8_wasOf : vMI := (yX8_wasOf, cX8_wasOf, 8, (some .int))
abbrev cX8_was : ByteArray := prog_10_method_73_code
def yX8_was : MethodName := ⟨RX8, "was", "(II)I"⟩
abbrev mX8_was : vMI := (yX8_was, cX8_was, 3, (some .int))
abbrev cX8_askOf : ByteArray := prog_10_method_74_code
def yX8_askOf : MethodName := ⟨RX8, "askOf", "(I)I"⟩
abbrev mX8_askOf : vMI := (yX8_askOf, cX8_askOf, 10, (some .int))
abbrev cX8_ask : ByteArray := prog_10_method_75_code
def yX8_ask : MethodName := ⟨RX8, "ask", "(I)I"⟩
abbrev mX8_ask : vMI := (yX8_ask, cX8_ask, 2, (some .int))
abbrev cX8_gustOf : ByteArray := prog_10_method_76_code
def yX8_gustOf : MethodName := ⟨RX8, "gustOf", "(IIII)J"⟩
abbrev mX8_gustOf : vMI := (yX8_gustOf, cX8_gustOf, 11, (some .long))
abbrev cX8_gust : ByteArray := prog_10_method_77_code
def yX8_gust : MethodName := ⟨RX8, "gust", "(IIII)J"⟩
abbrev mX8_gust : vMI := (yX8_gust, cX8_gust, 5, (some .long))
abbrev cX8_bitesAll : ByteArray := prog_10_method_78_code
def yX8_bitesAll : MethodName := ⟨RX8, "bitesAll", "()I"⟩
abbrev mX8_bitesAll : vMI := (yX8_bitesAll, cX8_bitesAll, 3, (some .int))
abbrev cX8_weekOf : ByteArray := prog_10_method_79_code
def yX8_weekOf : MethodName := ⟨RX8, "weekOf", "(III)I"⟩
abbrev mX8_weekOf : vMI := (yX8_weekOf, cX8_weekOf, 6, (some .int))
abbrev cX8_week : ByteArray := prog_10_method_80_code
def yX8_week : MethodName := ⟨RX8, "week", "(III)I"⟩
abbrev mX8_week : vMI := (yX8_week, cX8_week, 4, (some .int))
abbrev cX8_meets : ByteArray := prog_10_method_81_code
def yX8_meets : MethodName := ⟨RX8, "meets", "(I)I"⟩
abbrev mX8_meets : vMI := (yX8_meets, cX8_meets, 2, (some .int))
abbrev cX8_isSheet : ByteArray := prog_10_method_82_code
def yX8_isSheet : MethodName := ⟨RX8, "isSheet", "(I)Z"⟩
abbrev mX8_isSheet : vMI := (yX8_isSheet, cX8_isSheet, 1, (some .boolean))
abbrev cX8_sheet : ByteArray := prog_10_method_83_code
def yX8_sheet : MethodName := ⟨RX8, "sheet", "(III)I"⟩
abbrev mX8_sheet : vMI := (yX8_sheet, cX8_sheet, 5, (some .int))
abbrev cX8_lose : ByteArray := prog_10_method_84_code
def yX8_lose : MethodName := ⟨RX8, "lose", "(I)I"⟩
abbrev mX8_lose : vMI := (yX8_lose, cX8_lose, 2, (some .int))
abbrev cX8_lacks : ByteArray := prog_10_method_85_code
def yX8_lacks : MethodName := ⟨RX8, "lacks", "(III)I"⟩
abbrev mX8_lacks : vMI := (yX8_lacks, cX8_lacks, 4, (some .int))
abbrev cX8_keep : ByteArray := prog_10_method_86_code
def yX8_keep : MethodName := ⟨RX8, "keep", "(III)V"⟩
abbrev mX8_keep : vMI := (yX8_keep, cX8_keep, 4, none)
abbrev cX8_put : ByteArray := prog_10_method_87_code
def yX8_put : MethodName := ⟨RX8, "put", "(IIII)I"⟩
abbrev mX8_put : vMI := (yX8_put, cX8_put, 6, (some .int))
abbrev cX8_get : ByteArray := prog_10_method_88_code
def yX8_get : MethodName := ⟨RX8, "get", "(III)I"⟩
abbrev mX8_get : vMI := (yX8_get, cX8_get, 5, (some .int))
abbrev cX8_copy : ByteArray := prog_10_method_89_code
def yX8_copy : MethodName := ⟨RX8, "copy", "(IIIII)I"⟩
abbrev mX8_copy : vMI := (yX8_copy, cX8_copy, 7, (some .int))
abbrev cX8_write : ByteArray := prog_10_method_90_code
def yX8_write : MethodName := ⟨RX8, "write", "(II)I"⟩
abbrev mX8_write : vMI := (yX8_write, cX8_write, 4, (some .int))
abbrev cX8_sumOf : ByteArray := prog_10_method_91_code
def yX8_sumOf : MethodName := ⟨RX8, "sumOf", "(I)I"⟩
abbrev mX8_sumOf : vMI := (yX8_sumOf, cX8_sumOf, 2, (some .int))
abbrev cX8_count : ByteArray := prog_10_method_92_code
def yX8_count : MethodName := ⟨RX8, "count", "(I)I"⟩
abbrev mX8_count : vMI := (yX8_count, cX8_count, 2, (some .int))
abbrev cX8_floorDigest : ByteArray := prog_10_method_93_code
def yX8_floorDigest : MethodName := ⟨RX8, "floorDigest", "(JI)J"⟩
abbrev mX8_floorDigest : vMI := (yX8_floorDigest, cX8_floorDigest, 7, (some .long))
abbrev cX8_hourDigest : ByteArray := prog_10_method_94_code
def yX8_hourDigest : MethodName := ⟨RX8, "hourDigest", "(JII)J"⟩
abbrev mX8_hourDigest : vMI := (yX8_hourDigest, cX8_hourDigest, 8, (some .long))
abbrev cX8_basketDigest : ByteArray := prog_10_method_95_code
def yX8_basketDigest : MethodName := ⟨RX8, "basketDigest", "(JI)J"⟩
abbrev mX8_basketDigest : vMI := (yX8_basketDigest, cX8_basketDigest, 7, (some .long))
abbrev cX8_digest : ByteArray := prog_10_method_96_code
def yX8_digest : MethodName := ⟨RX8, "digest", "()J"⟩
abbrev mX8_digest : vMI := (yX8_digest, cX8_digest, 4, (some .long))
abbrev cJ9_max_7cf53 : ByteArray := prog_11_method_65_code
def yJ9_max_7cf53 : MethodName := ⟨"java/lang/Math", "max", "(II)I"⟩
abbrev mJ9_max_7cf53 : vMI := (yJ9_max_7cf53, cJ9_max_7cf53, 2, (some .int))
abbrev cJ9_min_7cf53 : ByteArray := prog_11_method_69_code
def yJ9_min_7cf53 : MethodName := ⟨"java/lang/Math", "min", "(II)I"⟩
abbrev mJ9_min_7cf53 : vMI := (yJ9_min_7cf53, cJ9_min_7cf53, 2, (some .int))
set_option maxRecDepth 100000 in
theorem hfX0_clear : vMfV mX0_clear 0 := ⟨⟨by decide +kernel, vTm (List.mem_of_getElem? (i := 596) (by decide +kernel)) (by decide +kernel), vTm (List.mem_of_getElem? (i := 88) (by decide +kernel)) (by decide +kernel), ⟨by decide +kernel, by decide +kernel, by decide +kernel⟩, by decide⟩, vTm (List.mem_of_getElem? (i := 594) (by decide +kernel)) (by decide +kernel), vTm (List.mem_of_getElem? (i := 595) (by decide +kernel)) (by decide +kernel)⟩
set_option maxRecDepth 100000 in
theorem hfX0_offer : vMfV mX0_offer 2 := ⟨⟨by decide +kernel, vTm (List.mem_of_getElem? (i := 600) (by decide +kernel)) (by decide +kernel), vTm (List.mem_of_getElem? (i := 88) (by decide +kernel)) (by decide +kernel), ⟨by decide +kernel, by decide +kernel, by decide +kernel⟩, by decide⟩, vTm (List.mem_of_getElem? (i := 598) (by decide +kernel)) (by decide +kernel), vTm (List.mem_of_getElem? (i := 599) (by decide +kernel)) (by decide +kernel)⟩
set_option maxRecDepth 100000 in
theorem hfX1_add : vMfV mX1_add 1 := ⟨⟨by decide +kernel, vTm (List.mem_of_getElem? (i := 473) (by decide +kernel)) (by decide +kernel), vTm (List.mem_of_getElem? (i := 85) (by decide +kernel)) (by decide +kernel), ⟨by decide +kernel, by decide +kernel, by decide +kernel⟩, by decide⟩, vTm (List.mem_of_getElem? (i := 471) (by decide +kernel)) (by decide +kernel), vTm (List.mem_of_getElem? (i := 472) (by decide +kernel)) (by decide +kernel)⟩
set_option maxRecDepth 100000 in
theorem hfX1_all : vMfV mX1_all 0 := ⟨⟨by decide +kernel, vTm (List.mem_of_getElem? (i := 508) (by decide +kernel)) (by decide +kernel), vTm (List.mem_of_getElem? (i := 85) (by decide +kernel)) (by decide +kernel), ⟨by decide +kernel, by decide +kernel, by decide +kernel⟩, by decide⟩, vTm (List.mem_of_getElem? (i := 506) (by decide +kernel)) (by decide +kernel), vTm (List.mem_of_getElem? (i := 507) (by decide +kernel)) (by decide +kernel)⟩
set_option maxRecDepth 100000 in
theorem hfX1_allBut : vMfV mX1_allBut 1 := ⟨⟨by decide +kernel, vTm (List.mem_of_getElem? (i := 661) (by decide +kernel)) (by decide +kernel), vTm (List.mem_of_getElem? (i := 85) (by decide +kernel)) (by decide +kernel), ⟨by decide +kernel, by decide +kernel, by decide +kernel⟩, by decide⟩, vTm (List.mem_of_getElem? (i := 659) (by decide +kernel)) (by decide +kernel), vTm (List.mem_of_getElem? (i := 660) (by decide +kernel)) (by decide +kernel)⟩
set_option maxRecDepth 100000 in
theorem hfX1_chosen : vMfV mX1_chosen 1 := ⟨⟨by decide +kernel, vTm (List.mem_of_getElem? (i := 512) (by decide +kernel)) (by decide +kernel), vTm (List.mem_of_getElem? (i := 85) (by decide +kernel)) (by decide +kernel), ⟨by decide +kernel, by decide +kernel, by decide +kernel⟩, by decide⟩, vTm (List.mem_of_getElem? (i := 510) (by decide +kernel)) (by decide +kernel), vTm (List.mem_of_getElem? (i := 511) (by decide +kernel)) (by decide +kernel)⟩
set_option maxRecDepth 100000 in
theorem hfX2_isLost : vMfV mX2_isLost 1 := ⟨⟨by decide +kernel, vTm (List.mem_of_getElem? (i := 492) (by decide +kernel)) (by decide +kernel), vTm (List.mem_of_getElem? (i := 87) (by decide +kernel)) (by decide +kernel), ⟨by decide +kernel, by decide +kernel, by decide +kernel⟩, by decide⟩, vTm (List.mem_of_getElem? (i := 490) (by decide +kernel)) (by decide +kernel), vTm (List.mem_of_getElem? (i := 491) (by decide +kernel)) (by decide +kernel)⟩
set_option maxRecDepth 100000 in
theorem hfX2_make : vMfV mX2_make 3 := ⟨⟨by decide +kernel, vTm (List.mem_of_getElem? (i := 736) (by decide +kernel)) (by decide +kernel), vTm (List.mem_of_getElem? (i := 87) (by decide +kernel)) (by decide +kernel), ⟨by decide +kernel, by decide +kernel, by decide +kernel⟩, by decide⟩, vTm (List.mem_of_getElem? (i := 734) (by decide +kernel)) (by decide +kernel), vTm (List.mem_of_getElem? (i := 735) (by decide +kernel)) (by decide +kernel)⟩
set_option maxRecDepth 100000 in
theorem hfX2_wrongWith : vMfV mX2_wrongWith 3 := ⟨⟨by decide +kernel, vTm (List.mem_of_getElem? (i := 748) (by decide +kernel)) (by decide +kernel), vTm (List.mem_of_getElem? (i := 87) (by decide +kernel)) (by decide +kernel), ⟨by decide +kernel, by decide +kernel, by decide +kernel⟩, by decide⟩, vTm (List.mem_of_getElem? (i := 746) (by decide +kernel)) (by decide +kernel), vTm (List.mem_of_getElem? (i := 747) (by decide +kernel)) (by decide +kernel)⟩
set_option maxRecDepth 100000 in
theorem hfX2_hasItems : vMfV mX2_hasItems 3 := ⟨⟨by decide +kernel, vTm (List.mem_of_getElem? (i := 753) (by decide +kernel)) (by decide +kernel), vTm (List.mem_of_getElem? (i := 87) (by decide +kernel)) (by decide +kernel), ⟨by decide +kernel, by decide +kernel, by decide +kernel⟩, by decide⟩, vTm (List.mem_of_getElem? (i := 751) (by decide +kernel)) (by decide +kernel), vTm (List.mem_of_getElem? (i := 752) (by decide +kernel)) (by decide +kernel)⟩
set_option maxRecDepth 100000 in
theorem hfX2_item : vMfV mX2_item 2 := ⟨⟨by decide +kernel, vTm (List.mem_of_getElem? (i := 500) (by decide +kernel)) (by decide +kernel), vTm (List.mem_of_getElem? (i := 87) (by decide +kernel)) (by decide +kernel), ⟨by decide +kernel, by decide +kernel, by decide +kernel⟩, by decide⟩, vTm (List.mem_of_getElem? (i := 498) (by decide +kernel)) (by decide +kernel), vTm (List.mem_of_getElem? (i := 499) (by decide +kernel)) (by decide +kernel)⟩
set_option maxRecDepth 100000 in
theorem hfX2_store : vMfV mX2_store 3 := ⟨⟨by decide +kernel, vTm (List.mem_of_getElem? (i := 757) (by decide +kernel)) (by decide +kernel), vTm (List.mem_of_getElem? (i := 87) (by decide +kernel)) (by decide +kernel), ⟨by decide +kernel, by decide +kernel, by decide +kernel⟩, by decide⟩, vTm (List.mem_of_getElem? (i := 755) (by decide +kernel)) (by decide +kernel), vTm (List.mem_of_getElem? (i := 756) (by decide +kernel)) (by decide +kernel)⟩
set_option maxRecDepth 100000 in
theorem hfX3_add : vMfV mX3_add 3 := ⟨⟨by decide +kernel, vTm (List.mem_of_getElem? (i := 669) (by decide +kernel)) (by decide +kernel), vTm (List.mem_of_getElem? (i := 86) (by decide +kernel)) (by decide +kernel), ⟨by decide +kernel, by decide +kernel, by decide +kernel⟩, by decide⟩, vTm (List.mem_of_getElem? (i := 667) (by decide +kernel)) (by decide +kernel), vTm (List.mem_of_getElem? (i := 668) (by decide +kernel)) (by decide +kernel)⟩
set_option maxRecDepth 100000 in
theorem hfX3_agree : vMfV mX3_agree 1 := ⟨⟨by decide +kernel, vTm (List.mem_of_getElem? (i := 681) (by decide +kernel)) (by decide +kernel), vTm (List.mem_of_getElem? (i := 86) (by decide +kernel)) (by decide +kernel), ⟨by decide +kernel, by decide +kernel, by decide +kernel⟩, by decide⟩, vTm (List.mem_of_getElem? (i := 679) (by decide +kernel)) (by decide +kernel), vTm (List.mem_of_getElem? (i := 680) (by decide +kernel)) (by decide +kernel)⟩
set_option maxRecDepth 100000 in
theorem hfX4_append : vMfV mX4_append 1 := ⟨⟨by decide +kernel, vTm (List.mem_of_getElem? (i := 386) (by decide +kernel)) (by decide +kernel), vTm (List.mem_of_getElem? (i := 82) (by decide +kernel)) (by decide +kernel), ⟨by decide +kernel, by decide +kernel, by decide +kernel⟩, by decide⟩, vTm (List.mem_of_getElem? (i := 384) (by decide +kernel)) (by decide +kernel), vTm (List.mem_of_getElem? (i := 385) (by decide +kernel)) (by decide +kernel)⟩
set_option maxRecDepth 100000 in
theorem hfX5_readFloors : vMfV mX5_readFloors 1 := ⟨⟨by decide +kernel, vTm (List.mem_of_getElem? (i := 394) (by decide +kernel)) (by decide +kernel), vTm (List.mem_of_getElem? (i := 83) (by decide +kernel)) (by decide +kernel), ⟨by decide +kernel, by decide +kernel, by decide +kernel⟩, by decide⟩, vTm (List.mem_of_getElem? (i := 392) (by decide +kernel)) (by decide +kernel), vTm (List.mem_of_getElem? (i := 393) (by decide +kernel)) (by decide +kernel)⟩
set_option maxRecDepth 100000 in
theorem hfX5_takeFloors : vMfV mX5_takeFloors 1 := ⟨⟨by decide +kernel, vTm (List.mem_of_getElem? (i := 398) (by decide +kernel)) (by decide +kernel), vTm (List.mem_of_getElem? (i := 83) (by decide +kernel)) (by decide +kernel), ⟨by decide +kernel, by decide +kernel, by decide +kernel⟩, by decide⟩, vTm (List.mem_of_getElem? (i := 397) (by decide +kernel)) (by decide +kernel), vTm (List.mem_of_getElem? (i := 2) (by decide +kernel)) (by decide +kernel)⟩
set_option maxRecDepth 100000 in
theorem hfX5_readBaskets : vMfV mX5_readBaskets 1 := ⟨⟨by decide +kernel, vTm (List.mem_of_getElem? (i := 411) (by decide +kernel)) (by decide +kernel), vTm (List.mem_of_getElem? (i := 83) (by decide +kernel)) (by decide +kernel), ⟨by decide +kernel, by decide +kernel, by decide +kernel⟩, by decide⟩, vTm (List.mem_of_getElem? (i := 409) (by decide +kernel)) (by decide +kernel), vTm (List.mem_of_getElem? (i := 410) (by decide +kernel)) (by decide +kernel)⟩
set_option maxRecDepth 100000 in
theorem hfX5_takeBaskets : vMfV mX5_takeBaskets 1 := ⟨⟨by decide +kernel, vTm (List.mem_of_getElem? (i := 415) (by decide +kernel)) (by decide +kernel), vTm (List.mem_of_getElem? (i := 83) (by decide +kernel)) (by decide +kernel), ⟨by decide +kernel, by decide +kernel, by decide +kernel⟩, by decide⟩, vTm (List.mem_of_getElem? (i := 414) (by decide +kernel)) (by decide +kernel), vTm (List.mem_of_getElem? (i := 3) (by decide +kernel)) (by decide +kernel)⟩
set_option maxRecDepth 100000 in
theorem hfX5_basketTakes : vMfV mX5_basketTakes 2 := ⟨⟨by decide +kernel, vTm (List.mem_of_getElem? (i := 419) (by decide +kernel)) (by decide +kernel), vTm (List.mem_of_getElem? (i := 83) (by decide +kernel)) (by decide +kernel), ⟨by decide +kernel, by decide +kernel, by decide +kernel⟩, by decide⟩, vTm (List.mem_of_getElem? (i := 418) (by decide +kernel)) (by decide +kernel), vTm (List.mem_of_getElem? (i := 4) (by decide +kernel)) (by decide +kernel)⟩
set_option maxRecDepth 100000 in
theorem hfX5_keepBasketByte : vMfV mX5_keepBasketByte 2 := ⟨⟨by decide +kernel, vTm (List.mem_of_getElem? (i := 423) (by decide +kernel)) (by decide +kernel), vTm (List.mem_of_getElem? (i := 83) (by decide +kernel)) (by decide +kernel), ⟨by decide +kernel, by decide +kernel, by decide +kernel⟩, by decide⟩, vTm (List.mem_of_getElem? (i := 422) (by decide +kernel)) (by decide +kernel), vTm (List.mem_of_getElem? (i := 5) (by decide +kernel)) (by decide +kernel)⟩
set_option maxRecDepth 100000 in
theorem hfX5_toldLetter : vMfV mX5_toldLetter 2 := ⟨⟨by decide +kernel, vTm (List.mem_of_getElem? (i := 455) (by decide +kernel)) (by decide +kernel), vTm (List.mem_of_getElem? (i := 83) (by decide +kernel)) (by decide +kernel), ⟨by decide +kernel, by decide +kernel, by decide +kernel⟩, by decide⟩, vTm (List.mem_of_getElem? (i := 453) (by decide +kernel)) (by decide +kernel), vTm (List.mem_of_getElem? (i := 454) (by decide +kernel)) (by decide +kernel)⟩
set_option maxRecDepth 100000 in
theorem hfX5_loadInAll : vMfV mX5_loadInAll 0 := ⟨⟨by decide +kernel, vTm (List.mem_of_getElem? (i := 580) (by decide +kernel)) (by decide +kernel), vTm (List.mem_of_getElem? (i := 83) (by decide +kernel)) (by decide +kernel), ⟨by decide +kernel, by decide +kernel, by decide +kernel⟩, by decide⟩, vTm (List.mem_of_getElem? (i := 578) (by decide +kernel)) (by decide +kernel), vTm (List.mem_of_getElem? (i := 579) (by decide +kernel)) (by decide +kernel)⟩
set_option maxRecDepth 100000 in
theorem hfX5_changeBite : vMfV mX5_changeBite 2 := ⟨⟨by decide +kernel, vTm (List.mem_of_getElem? (i := 635) (by decide +kernel)) (by decide +kernel), vTm (List.mem_of_getElem? (i := 83) (by decide +kernel)) (by decide +kernel), ⟨by decide +kernel, by decide +kernel, by decide +kernel⟩, by decide⟩, vTm (List.mem_of_getElem? (i := 633) (by decide +kernel)) (by decide +kernel), vTm (List.mem_of_getElem? (i := 634) (by decide +kernel)) (by decide +kernel)⟩
set_option maxRecDepth 100000 in
theorem hfX5_sortOf : vMfS mX5_sortOf 1 := ⟨⟨by decide +kernel, vTm (List.mem_of_getElem? (i := 401) (by decide +kernel)) (by decide +kernel), vTm (List.mem_of_getElem? (i := 83) (by decide +kernel)) (by decide +kernel), ⟨by decide +kernel, by decide +kernel, by decide +kernel⟩, by decide⟩, vTm (List.mem_of_getElem? (i := 400) (by decide +kernel)) (by decide +kernel)⟩
set_option maxRecDepth 100000 in
theorem hfX5_isFigure : vMfS mX5_isFigure 1 := ⟨⟨by decide +kernel, vTm (List.mem_of_getElem? (i := 404) (by decide +kernel)) (by decide +kernel), vTm (List.mem_of_getElem? (i := 83) (by decide +kernel)) (by decide +kernel), ⟨by decide +kernel, by decide +kernel, by decide +kernel⟩, by decide⟩, vTm (List.mem_of_getElem? (i := 403) (by decide +kernel)) (by decide +kernel)⟩
set_option maxRecDepth 100000 in
theorem hfX5_isLetter : vMfS mX5_isLetter 1 := ⟨⟨by decide +kernel, vTm (List.mem_of_getElem? (i := 407) (by decide +kernel)) (by decide +kernel), vTm (List.mem_of_getElem? (i := 83) (by decide +kernel)) (by decide +kernel), ⟨by decide +kernel, by decide +kernel, by decide +kernel⟩, by decide⟩, vTm (List.mem_of_getElem? (i := 406) (by decide +kernel)) (by decide +kernel)⟩
set_option maxRecDepth 100000 in
theorem hfX6_go : vMfV mX6_go 3 := ⟨⟨by decide +kernel, vTm (List.mem_of_getElem? (i := 516) (by decide +kernel)) (by decide +kernel), vTm (List.mem_of_getElem? (i := 84) (by decide +kernel)) (by decide +kernel), ⟨by decide +kernel, by decide +kernel, by decide +kernel⟩, by decide⟩, vTm (List.mem_of_getElem? (i := 514) (by decide +kernel)) (by decide +kernel), vTm (List.mem_of_getElem? (i := 515) (by decide +kernel)) (by decide +kernel)⟩
set_option maxRecDepth 100000 in
theorem hfX6_begin : vMfV mX6_begin 0 := ⟨⟨by decide +kernel, vTm (List.mem_of_getElem? (i := 520) (by decide +kernel)) (by decide +kernel), vTm (List.mem_of_getElem? (i := 84) (by decide +kernel)) (by decide +kernel), ⟨by decide +kernel, by decide +kernel, by decide +kernel⟩, by decide⟩, vTm (List.mem_of_getElem? (i := 519) (by decide +kernel)) (by decide +kernel), vTm (List.mem_of_getElem? (i := 9) (by decide +kernel)) (by decide +kernel)⟩
set_option maxRecDepth 100000 in
theorem hfX6_arrive : vMfV mX6_arrive 1 := ⟨⟨by decide +kernel, vTm (List.mem_of_getElem? (i := 527) (by decide +kernel)) (by decide +kernel), vTm (List.mem_of_getElem? (i := 84) (by decide +kernel)) (by decide +kernel), ⟨by decide +kernel, by decide +kernel, by decide +kernel⟩, by decide⟩, vTm (List.mem_of_getElem? (i := 526) (by decide +kernel)) (by decide +kernel), vTm (List.mem_of_getElem? (i := 10) (by decide +kernel)) (by decide +kernel)⟩
set_option maxRecDepth 100000 in
theorem hfX6_serve : vMfV mX6_serve 1 := ⟨⟨by decide +kernel, vTm (List.mem_of_getElem? (i := 531) (by decide +kernel)) (by decide +kernel), vTm (List.mem_of_getElem? (i := 84) (by decide +kernel)) (by decide +kernel), ⟨by decide +kernel, by decide +kernel, by decide +kernel⟩, by decide⟩, vTm (List.mem_of_getElem? (i := 530) (by decide +kernel)) (by decide +kernel), vTm (List.mem_of_getElem? (i := 11) (by decide +kernel)) (by decide +kernel)⟩
set_option maxRecDepth 100000 in
theorem hfX6_wantsBite : vMfV mX6_wantsBite 2 := ⟨⟨by decide +kernel, vTm (List.mem_of_getElem? (i := 535) (by decide +kernel)) (by decide +kernel), vTm (List.mem_of_getElem? (i := 84) (by decide +kernel)) (by decide +kernel), ⟨by decide +kernel, by decide +kernel, by decide +kernel⟩, by decide⟩, vTm (List.mem_of_getElem? (i := 534) (by decide +kernel)) (by decide +kernel), vTm (List.mem_of_getElem? (i := 12) (by decide +kernel)) (by decide +kernel)⟩
set_option maxRecDepth 100000 in
theorem hfX6_bite : vMfV mX6_bite 3 := ⟨⟨by decide +kernel, vTm (List.mem_of_getElem? (i := 539) (by decide +kernel)) (by decide +kernel), vTm (List.mem_of_getElem? (i := 84) (by decide +kernel)) (by decide +kernel), ⟨by decide +kernel, by decide +kernel, by decide +kernel⟩, by decide⟩, vTm (List.mem_of_getElem? (i := 538) (by decide +kernel)) (by decide +kernel), vTm (List.mem_of_getElem? (i := 13) (by decide +kernel)) (by decide +kernel)⟩
set_option maxRecDepth 100000 in
theorem hfX6_climb : vMfV mX6_climb 1 := ⟨⟨by decide +kernel, vTm (List.mem_of_getElem? (i := 543) (by decide +kernel)) (by decide +kernel), vTm (List.mem_of_getElem? (i := 84) (by decide +kernel)) (by decide +kernel), ⟨by decide +kernel, by decide +kernel, by decide +kernel⟩, by decide⟩, vTm (List.mem_of_getElem? (i := 542) (by decide +kernel)) (by decide +kernel), vTm (List.mem_of_getElem? (i := 14) (by decide +kernel)) (by decide +kernel)⟩
set_option maxRecDepth 100000 in
theorem hfX6_leave : vMfV mX6_leave 2 := ⟨⟨by decide +kernel, vTm (List.mem_of_getElem? (i := 547) (by decide +kernel)) (by decide +kernel), vTm (List.mem_of_getElem? (i := 84) (by decide +kernel)) (by decide +kernel), ⟨by decide +kernel, by decide +kernel, by decide +kernel⟩, by decide⟩, vTm (List.mem_of_getElem? (i := 546) (by decide +kernel)) (by decide +kernel), vTm (List.mem_of_getElem? (i := 15) (by decide +kernel)) (by decide +kernel)⟩
set_option maxRecDepth 100000 in
theorem hfX6_letters : vMfV mX6_letters 1 := ⟨⟨by decide +kernel, vTm (List.mem_of_getElem? (i := 551) (by decide +kernel)) (by decide +kernel), vTm (List.mem_of_getElem? (i := 84) (by decide +kernel)) (by decide +kernel), ⟨by decide +kernel, by decide +kernel, by decide +kernel⟩, by decide⟩, vTm (List.mem_of_getElem? (i := 549) (by decide +kernel)) (by decide +kernel), vTm (List.mem_of_getElem? (i := 550) (by decide +kernel)) (by decide +kernel)⟩
set_option maxRecDepth 100000 in
theorem hfX6_letter : vMfV mX6_letter 2 := ⟨⟨by decide +kernel, vTm (List.mem_of_getElem? (i := 563) (by decide +kernel)) (by decide +kernel), vTm (List.mem_of_getElem? (i := 84) (by decide +kernel)) (by decide +kernel), ⟨by decide +kernel, by decide +kernel, by decide +kernel⟩, by decide⟩, vTm (List.mem_of_getElem? (i := 561) (by decide +kernel)) (by decide +kernel), vTm (List.mem_of_getElem? (i := 562) (by decide +kernel)) (by decide +kernel)⟩
set_option maxRecDepth 100000 in
theorem hfX6_noteAsTold : vMfV mX6_noteAsTold 1 := ⟨⟨by decide +kernel, vTm (List.mem_of_getElem? (i := 639) (by decide +kernel)) (by decide +kernel), vTm (List.mem_of_getElem? (i := 84) (by decide +kernel)) (by decide +kernel), ⟨by decide +kernel, by decide +kernel, by decide +kernel⟩, by decide⟩, vTm (List.mem_of_getElem? (i := 637) (by decide +kernel)) (by decide +kernel), vTm (List.mem_of_getElem? (i := 638) (by decide +kernel)) (by decide +kernel)⟩
set_option maxRecDepth 100000 in
theorem hfX6_bringsUp : vMfV mX6_bringsUp 2 := ⟨⟨by decide +kernel, vTm (List.mem_of_getElem? (i := 619) (by decide +kernel)) (by decide +kernel), vTm (List.mem_of_getElem? (i := 84) (by decide +kernel)) (by decide +kernel), ⟨by decide +kernel, by decide +kernel, by decide +kernel⟩, by decide⟩, vTm (List.mem_of_getElem? (i := 617) (by decide +kernel)) (by decide +kernel), vTm (List.mem_of_getElem? (i := 618) (by decide +kernel)) (by decide +kernel)⟩
set_option maxRecDepth 100000 in
theorem hfX6_loadUp : vMfV mX6_loadUp 0 := ⟨⟨by decide +kernel, vTm (List.mem_of_getElem? (i := 584) (by decide +kernel)) (by decide +kernel), vTm (List.mem_of_getElem? (i := 84) (by decide +kernel)) (by decide +kernel), ⟨by decide +kernel, by decide +kernel, by decide +kernel⟩, by decide⟩, vTm (List.mem_of_getElem? (i := 582) (by decide +kernel)) (by decide +kernel), vTm (List.mem_of_getElem? (i := 583) (by decide +kernel)) (by decide +kernel)⟩
set_option maxRecDepth 100000 in
theorem hfX7_type : vMfV mX7_type 2 := ⟨⟨by decide +kernel, vTm (List.mem_of_getElem? (i := 375) (by decide +kernel)) (by decide +kernel), vTm (List.mem_of_getElem? (i := 81) (by decide +kernel)) (by decide +kernel), ⟨by decide +kernel, by decide +kernel, by decide +kernel⟩, by decide⟩, vTm (List.mem_of_getElem? (i := 373) (by decide +kernel)) (by decide +kernel), vTm (List.mem_of_getElem? (i := 374) (by decide +kernel)) (by decide +kernel)⟩
set_option maxRecDepth 100000 in
theorem hfX7_wipe : vMfV mX7_wipe 1 := ⟨⟨by decide +kernel, vTm (List.mem_of_getElem? (i := 427) (by decide +kernel)) (by decide +kernel), vTm (List.mem_of_getElem? (i := 81) (by decide +kernel)) (by decide +kernel), ⟨by decide +kernel, by decide +kernel, by decide +kernel⟩, by decide⟩, vTm (List.mem_of_getElem? (i := 425) (by decide +kernel)) (by decide +kernel), vTm (List.mem_of_getElem? (i := 426) (by decide +kernel)) (by decide +kernel)⟩
set_option maxRecDepth 100000 in
theorem hfX7_undo : vMfV mX7_undo 1 := ⟨⟨by decide +kernel, vTm (List.mem_of_getElem? (i := 431) (by decide +kernel)) (by decide +kernel), vTm (List.mem_of_getElem? (i := 81) (by decide +kernel)) (by decide +kernel), ⟨by decide +kernel, by decide +kernel, by decide +kernel⟩, by decide⟩, vTm (List.mem_of_getElem? (i := 429) (by decide +kernel)) (by decide +kernel), vTm (List.mem_of_getElem? (i := 430) (by decide +kernel)) (by decide +kernel)⟩
set_option maxRecDepth 100000 in
theorem hfX7_fault : vMfV mX7_fault 1 := ⟨⟨by decide +kernel, vTm (List.mem_of_getElem? (i := 435) (by decide +kernel)) (by decide +kernel), vTm (List.mem_of_getElem? (i := 81) (by decide +kernel)) (by decide +kernel), ⟨by decide +kernel, by decide +kernel, by decide +kernel⟩, by decide⟩, vTm (List.mem_of_getElem? (i := 433) (by decide +kernel)) (by decide +kernel), vTm (List.mem_of_getElem? (i := 434) (by decide +kernel)) (by decide +kernel)⟩
set_option maxRecDepth 100000 in
theorem hfX7_floor : vMfV mX7_floor 2 := ⟨⟨by decide +kernel, vTm (List.mem_of_getElem? (i := 439) (by decide +kernel)) (by decide +kernel), vTm (List.mem_of_getElem? (i := 81) (by decide +kernel)) (by decide +kernel), ⟨by decide +kernel, by decide +kernel, by decide +kernel⟩, by decide⟩, vTm (List.mem_of_getElem? (i := 437) (by decide +kernel)) (by decide +kernel), vTm (List.mem_of_getElem? (i := 438) (by decide +kernel)) (by decide +kernel)⟩
set_option maxRecDepth 100000 in
theorem hfX7_basket : vMfV mX7_basket 2 := ⟨⟨by decide +kernel, vTm (List.mem_of_getElem? (i := 447) (by decide +kernel)) (by decide +kernel), vTm (List.mem_of_getElem? (i := 81) (by decide +kernel)) (by decide +kernel), ⟨by decide +kernel, by decide +kernel, by decide +kernel⟩, by decide⟩, vTm (List.mem_of_getElem? (i := 445) (by decide +kernel)) (by decide +kernel), vTm (List.mem_of_getElem? (i := 446) (by decide +kernel)) (by decide +kernel)⟩
set_option maxRecDepth 100000 in
theorem hfX7_set : vMfV mX7_set 2 := ⟨⟨by decide +kernel, vTm (List.mem_of_getElem? (i := 459) (by decide +kernel)) (by decide +kernel), vTm (List.mem_of_getElem? (i := 81) (by decide +kernel)) (by decide +kernel), ⟨by decide +kernel, by decide +kernel, by decide +kernel⟩, by decide⟩, vTm (List.mem_of_getElem? (i := 457) (by decide +kernel)) (by decide +kernel), vTm (List.mem_of_getElem? (i := 458) (by decide +kernel)) (by decide +kernel)⟩
set_option maxRecDepth 100000 in
theorem hfX7_wind : vMfV mX7_wind 1 := ⟨⟨by decide +kernel, vTm (List.mem_of_getElem? (i := 463) (by decide +kernel)) (by decide +kernel), vTm (List.mem_of_getElem? (i := 81) (by decide +kernel)) (by decide +kernel), ⟨by decide +kernel, by decide +kernel, by decide +kernel⟩, by decide⟩, vTm (List.mem_of_getElem? (i := 461) (by decide +kernel)) (by decide +kernel), vTm (List.mem_of_getElem? (i := 462) (by decide +kernel)) (by decide +kernel)⟩
set_option maxRecDepth 100000 in
theorem hfX7_sunday : vMfV mX7_sunday 1 := ⟨⟨by decide +kernel, vTm (List.mem_of_getElem? (i := 477) (by decide +kernel)) (by decide +kernel), vTm (List.mem_of_getElem? (i := 81) (by decide +kernel)) (by decide +kernel), ⟨by decide +kernel, by decide +kernel, by decide +kernel⟩, by decide⟩, vTm (List.mem_of_getElem? (i := 475) (by decide +kernel)) (by decide +kernel), vTm (List.mem_of_getElem? (i := 476) (by decide +kernel)) (by decide +kernel)⟩
set_option maxRecDepth 100000 in
theorem hfX7_back : vMfV mX7_back 1 := ⟨⟨by decide +kernel, vTm (List.mem_of_getElem? (i := 481) (by decide +kernel)) (by decide +kernel), vTm (List.mem_of_getElem? (i := 81) (by decide +kernel)) (by decide +kernel), ⟨by decide +kernel, by decide +kernel, by decide +kernel⟩, by decide⟩, vTm (List.mem_of_getElem? (i := 479) (by decide +kernel)) (by decide +kernel), vTm (List.mem_of_getElem? (i := 480) (by decide +kernel)) (by decide +kernel)⟩
set_option maxRecDepth 100000 in
theorem hfX7_read : vMfV mX7_read 1 := ⟨⟨by decide +kernel, vTm (List.mem_of_getElem? (i := 485) (by decide +kernel)) (by decide +kernel), vTm (List.mem_of_getElem? (i := 81) (by decide +kernel)) (by decide +kernel), ⟨by decide +kernel, by decide +kernel, by decide +kernel⟩, by decide⟩, vTm (List.mem_of_getElem? (i := 483) (by decide +kernel)) (by decide +kernel), vTm (List.mem_of_getElem? (i := 484) (by decide +kernel)) (by decide +kernel)⟩
set_option maxRecDepth 100000 in
theorem hfX7_at : vMfV mX7_at 3 := ⟨⟨by decide +kernel, vTm (List.mem_of_getElem? (i := 504) (by decide +kernel)) (by decide +kernel), vTm (List.mem_of_getElem? (i := 81) (by decide +kernel)) (by decide +kernel), ⟨by decide +kernel, by decide +kernel, by decide +kernel⟩, by decide⟩, vTm (List.mem_of_getElem? (i := 502) (by decide +kernel)) (by decide +kernel), vTm (List.mem_of_getElem? (i := 503) (by decide +kernel)) (by decide +kernel)⟩
set_option maxRecDepth 100000 in
theorem hfX7_note : vMfV mX7_note 2 := ⟨⟨by decide +kernel, vTm (List.mem_of_getElem? (i := 555) (by decide +kernel)) (by decide +kernel), vTm (List.mem_of_getElem? (i := 81) (by decide +kernel)) (by decide +kernel), ⟨by decide +kernel, by decide +kernel, by decide +kernel⟩, by decide⟩, vTm (List.mem_of_getElem? (i := 553) (by decide +kernel)) (by decide +kernel), vTm (List.mem_of_getElem? (i := 554) (by decide +kernel)) (by decide +kernel)⟩
set_option maxRecDepth 100000 in
theorem hfX7_comes : vMfV mX7_comes 1 := ⟨⟨by decide +kernel, vTm (List.mem_of_getElem? (i := 568) (by decide +kernel)) (by decide +kernel), vTm (List.mem_of_getElem? (i := 81) (by decide +kernel)) (by decide +kernel), ⟨by decide +kernel, by decide +kernel, by decide +kernel⟩, by decide⟩, vTm (List.mem_of_getElem? (i := 566) (by decide +kernel)) (by decide +kernel), vTm (List.mem_of_getElem? (i := 567) (by decide +kernel)) (by decide +kernel)⟩
set_option maxRecDepth 100000 in
theorem hfX7_bites : vMfV mX7_bites 2 := ⟨⟨by decide +kernel, vTm (List.mem_of_getElem? (i := 572) (by decide +kernel)) (by decide +kernel), vTm (List.mem_of_getElem? (i := 81) (by decide +kernel)) (by decide +kernel), ⟨by decide +kernel, by decide +kernel, by decide +kernel⟩, by decide⟩, vTm (List.mem_of_getElem? (i := 570) (by decide +kernel)) (by decide +kernel), vTm (List.mem_of_getElem? (i := 571) (by decide +kernel)) (by decide +kernel)⟩
set_option maxRecDepth 100000 in
theorem hfX7_famine : vMfV mX7_famine 0 := ⟨⟨by decide +kernel, vTm (List.mem_of_getElem? (i := 576) (by decide +kernel)) (by decide +kernel), vTm (List.mem_of_getElem? (i := 81) (by decide +kernel)) (by decide +kernel), ⟨by decide +kernel, by decide +kernel, by decide +kernel⟩, by decide⟩, vTm (List.mem_of_getElem? (i := 574) (by decide +kernel)) (by decide +kernel), vTm (List.mem_of_getElem? (i := 575) (by decide +kernel)) (by decide +kernel)⟩
set_option maxRecDepth 100000 in
theorem hfX7_first : vMfV mX7_first 1 := ⟨⟨by decide +kernel, vTm (List.mem_of_getElem? (i := 588) (by decide +kernel)) (by decide +kernel), vTm (List.mem_of_getElem? (i := 81) (by decide +kernel)) (by decide +kernel), ⟨by decide +kernel, by decide +kernel, by decide +kernel⟩, by decide⟩, vTm (List.mem_of_getElem? (i := 586) (by decide +kernel)) (by decide +kernel), vTm (List.mem_of_getElem? (i := 587) (by decide +kernel)) (by decide +kernel)⟩
set_option maxRecDepth 100000 in
theorem hfX7_greedy : vMfV mX7_greedy 0 := ⟨⟨by decide +kernel, vTm (List.mem_of_getElem? (i := 592) (by decide +kernel)) (by decide +kernel), vTm (List.mem_of_getElem? (i := 81) (by decide +kernel)) (by decide +kernel), ⟨by decide +kernel, by decide +kernel, by decide +kernel⟩, by decide⟩, vTm (List.mem_of_getElem? (i := 590) (by decide +kernel)) (by decide +kernel), vTm (List.mem_of_getElem? (i := 591) (by decide +kernel)) (by decide +kernel)⟩
set_option maxRecDepth 100000 in
theorem hfX7_send : vMfV mX7_send 2 := ⟨⟨by decide +kernel, vTm (List.mem_of_getElem? (i := 604) (by decide +kernel)) (by decide +kernel), vTm (List.mem_of_getElem? (i := 81) (by decide +kernel)) (by decide +kernel), ⟨by decide +kernel, by decide +kernel, by decide +kernel⟩, by decide⟩, vTm (List.mem_of_getElem? (i := 602) (by decide +kernel)) (by decide +kernel), vTm (List.mem_of_getElem? (i := 603) (by decide +kernel)) (by decide +kernel)⟩
set_option maxRecDepth 100000 in
theorem hfX7_loaf : vMfV mX7_loaf 2 := ⟨⟨by decide +kernel, vTm (List.mem_of_getElem? (i := 612) (by decide +kernel)) (by decide +kernel), vTm (List.mem_of_getElem? (i := 81) (by decide +kernel)) (by decide +kernel), ⟨by decide +kernel, by decide +kernel, by decide +kernel⟩, by decide⟩, vTm (List.mem_of_getElem? (i := 610) (by decide +kernel)) (by decide +kernel), vTm (List.mem_of_getElem? (i := 611) (by decide +kernel)) (by decide +kernel)⟩
set_option maxRecDepth 100000 in
theorem hfX7_feed : vMfV mX7_feed 2 := ⟨⟨by decide +kernel, vTm (List.mem_of_getElem? (i := 623) (by decide +kernel)) (by decide +kernel), vTm (List.mem_of_getElem? (i := 81) (by decide +kernel)) (by decide +kernel), ⟨by decide +kernel, by decide +kernel, by decide +kernel⟩, by decide⟩, vTm (List.mem_of_getElem? (i := 621) (by decide +kernel)) (by decide +kernel), vTm (List.mem_of_getElem? (i := 622) (by decide +kernel)) (by decide +kernel)⟩
set_option maxRecDepth 100000 in
theorem hfX7_still : vMfV mX7_still 1 := ⟨⟨by decide +kernel, vTm (List.mem_of_getElem? (i := 653) (by decide +kernel)) (by decide +kernel), vTm (List.mem_of_getElem? (i := 81) (by decide +kernel)) (by decide +kernel), ⟨by decide +kernel, by decide +kernel, by decide +kernel⟩, by decide⟩, vTm (List.mem_of_getElem? (i := 651) (by decide +kernel)) (by decide +kernel), vTm (List.mem_of_getElem? (i := 652) (by decide +kernel)) (by decide +kernel)⟩
set_option maxRecDepth 100000 in
theorem hfX7_seen : vMfV mX7_seen 3 := ⟨⟨by decide +kernel, vTm (List.mem_of_getElem? (i := 665) (by decide +kernel)) (by decide +kernel), vTm (List.mem_of_getElem? (i := 81) (by decide +kernel)) (by decide +kernel), ⟨by decide +kernel, by decide +kernel, by decide +kernel⟩, by decide⟩, vTm (List.mem_of_getElem? (i := 663) (by decide +kernel)) (by decide +kernel), vTm (List.mem_of_getElem? (i := 664) (by decide +kernel)) (by decide +kernel)⟩
set_option maxRecDepth 100000 in
theorem hfX7_forget : vMfV mX7_forget 0 := ⟨⟨by decide +kernel, vTm (List.mem_of_getElem? (i := 673) (by decide +kernel)) (by decide +kernel), vTm (List.mem_of_getElem? (i := 81) (by decide +kernel)) (by decide +kernel), ⟨by decide +kernel, by decide +kernel, by decide +kernel⟩, by decide⟩, vTm (List.mem_of_getElem? (i := 671) (by decide +kernel)) (by decide +kernel), vTm (List.mem_of_getElem? (i := 672) (by decide +kernel)) (by decide +kernel)⟩
set_option maxRecDepth 100000 in
theorem hfX7_never : vMfV mX7_never 0 := ⟨⟨by decide +kernel, vTm (List.mem_of_getElem? (i := 677) (by decide +kernel)) (by decide +kernel), vTm (List.mem_of_getElem? (i := 81) (by decide +kernel)) (by decide +kernel), ⟨by decide +kernel, by decide +kernel, by decide +kernel⟩, by decide⟩, vTm (List.mem_of_getElem? (i := 675) (by decide +kernel)) (by decide +kernel), vTm (List.mem_of_getElem? (i := 676) (by decide +kernel)) (by decide +kernel)⟩
set_option maxRecDepth 100000 in
theorem hfX7_was : vMfV mX7_was 2 := ⟨⟨by decide +kernel, vTm (List.mem_of_getElem? (i := 686) (by decide +kernel)) (by decide +kernel), vTm (List.mem_of_getElem? (i := 81) (by decide +kernel)) (by decide +kernel), ⟨by decide +kernel, by decide +kernel, by decide +kernel⟩, by decide⟩, vTm (List.mem_of_getElem? (i := 684) (by decide +kernel)) (by decide +kernel), vTm (List.mem_of_getElem? (i := 685) (by decide +kernel)) (by decide +kernel)⟩
set_option maxRecDepth 100000 in
theorem hfX7_ask : vMfV mX7_ask 1 := ⟨⟨by decide +kernel, vTm (List.mem_of_getElem? (i := 699) (by decide +kernel)) (by decide +kernel), vTm (List.mem_of_getElem? (i := 81) (by decide +kernel)) (by decide +kernel), ⟨by decide +kernel, by decide +kernel, by decide +kernel⟩, by decide⟩, vTm (List.mem_of_getElem? (i := 697) (by decide +kernel)) (by decide +kernel), vTm (List.mem_of_getElem? (i := 698) (by decide +kernel)) (by decide +kernel)⟩
set_option maxRecDepth 100000 in
theorem hfX7_gust : vMfV mX7_gust 4 := ⟨⟨by decide +kernel, vTm (List.mem_of_getElem? (i := 710) (by decide +kernel)) (by decide +kernel), vTm (List.mem_of_getElem? (i := 81) (by decide +kernel)) (by decide +kernel), ⟨by decide +kernel, by decide +kernel, by decide +kernel⟩, by decide⟩, vTm (List.mem_of_getElem? (i := 708) (by decide +kernel)) (by decide +kernel), vTm (List.mem_of_getElem? (i := 709) (by decide +kernel)) (by decide +kernel)⟩
set_option maxRecDepth 100000 in
theorem hfX7_week : vMfV mX7_week 3 := ⟨⟨by decide +kernel, vTm (List.mem_of_getElem? (i := 721) (by decide +kernel)) (by decide +kernel), vTm (List.mem_of_getElem? (i := 81) (by decide +kernel)) (by decide +kernel), ⟨by decide +kernel, by decide +kernel, by decide +kernel⟩, by decide⟩, vTm (List.mem_of_getElem? (i := 719) (by decide +kernel)) (by decide +kernel), vTm (List.mem_of_getElem? (i := 720) (by decide +kernel)) (by decide +kernel)⟩
set_option maxRecDepth 100000 in
theorem hfX7_sheet : vMfV mX7_sheet 3 := ⟨⟨by decide +kernel, vTm (List.mem_of_getElem? (i := 729) (by decide +kernel)) (by decide +kernel), vTm (List.mem_of_getElem? (i := 81) (by decide +kernel)) (by decide +kernel), ⟨by decide +kernel, by decide +kernel, by decide +kernel⟩, by decide⟩, vTm (List.mem_of_getElem? (i := 727) (by decide +kernel)) (by decide +kernel), vTm (List.mem_of_getElem? (i := 728) (by decide +kernel)) (by decide +kernel)⟩
set_option maxRecDepth 100000 in
theorem hfX7_lose : vMfV mX7_lose 1 := ⟨⟨by decide +kernel, vTm (List.mem_of_getElem? (i := 740) (by decide +kernel)) (by decide +kernel), vTm (List.mem_of_getElem? (i := 81) (by decide +kernel)) (by decide +kernel), ⟨by decide +kernel, by decide +kernel, by decide +kernel⟩, by decide⟩, vTm (List.mem_of_getElem? (i := 738) (by decide +kernel)) (by decide +kernel), vTm (List.mem_of_getElem? (i := 739) (by decide +kernel)) (by decide +kernel)⟩
set_option maxRecDepth 100000 in
theorem hfX7_put : vMfV mX7_put 4 := ⟨⟨by decide +kernel, vTm (List.mem_of_getElem? (i := 744) (by decide +kernel)) (by decide +kernel), vTm (List.mem_of_getElem? (i := 81) (by decide +kernel)) (by decide +kernel), ⟨by decide +kernel, by decide +kernel, by decide +kernel⟩, by decide⟩, vTm (List.mem_of_getElem? (i := 742) (by decide +kernel)) (by decide +kernel), vTm (List.mem_of_getElem? (i := 743) (by decide +kernel)) (by decide +kernel)⟩
set_option maxRecDepth 100000 in
theorem hfX7_get : vMfV mX7_get 3 := ⟨⟨by decide +kernel, vTm (List.mem_of_getElem? (i := 761) (by decide +kernel)) (by decide +kernel), vTm (List.mem_of_getElem? (i := 81) (by decide +kernel)) (by decide +kernel), ⟨by decide +kernel, by decide +kernel, by decide +kernel⟩, by decide⟩, vTm (List.mem_of_getElem? (i := 759) (by decide +kernel)) (by decide +kernel), vTm (List.mem_of_getElem? (i := 760) (by decide +kernel)) (by decide +kernel)⟩
set_option maxRecDepth 100000 in
theorem hfX7_copy : vMfV mX7_copy 5 := ⟨⟨by decide +kernel, vTm (List.mem_of_getElem? (i := 766) (by decide +kernel)) (by decide +kernel), vTm (List.mem_of_getElem? (i := 81) (by decide +kernel)) (by decide +kernel), ⟨by decide +kernel, by decide +kernel, by decide +kernel⟩, by decide⟩, vTm (List.mem_of_getElem? (i := 764) (by decide +kernel)) (by decide +kernel), vTm (List.mem_of_getElem? (i := 765) (by decide +kernel)) (by decide +kernel)⟩
set_option maxRecDepth 100000 in
theorem hfX7_write : vMfV mX7_write 2 := ⟨⟨by decide +kernel, vTm (List.mem_of_getElem? (i := 771) (by decide +kernel)) (by decide +kernel), vTm (List.mem_of_getElem? (i := 81) (by decide +kernel)) (by decide +kernel), ⟨by decide +kernel, by decide +kernel, by decide +kernel⟩, by decide⟩, vTm (List.mem_of_getElem? (i := 769) (by decide +kernel)) (by decide +kernel), vTm (List.mem_of_getElem? (i := 770) (by decide +kernel)) (by decide +kernel)⟩
set_option maxRecDepth 100000 in
theorem hfX7_count : vMfV mX7_count 1 := ⟨⟨by decide +kernel, vTm (List.mem_of_getElem? (i := 778) (by decide +kernel)) (by decide +kernel), vTm (List.mem_of_getElem? (i := 81) (by decide +kernel)) (by decide +kernel), ⟨by decide +kernel, by decide +kernel, by decide +kernel⟩, by decide⟩, vTm (List.mem_of_getElem? (i := 776) (by decide +kernel)) (by decide +kernel), vTm (List.mem_of_getElem? (i := 777) (by decide +kernel)) (by decide +kernel)⟩
set_option maxRecDepth 100000 in
theorem hfX7_digest : vMfV mX7_digest 0 := ⟨⟨by decide +kernel, vTm (List.mem_of_getElem? (i := 782) (by decide +kernel)) (by decide +kernel), vTm (List.mem_of_getElem? (i := 81) (by decide +kernel)) (by decide +kernel), ⟨by decide +kernel, by decide +kernel, by decide +kernel⟩, by decide⟩, vTm (List.mem_of_getElem? (i := 780) (by decide +kernel)) (by decide +kernel), vTm (List.mem_of_getElem? (i := 781) (by decide +kernel)) (by decide +kernel)⟩
set_option maxRecDepth 100000 in
theorem hfX7_isText : vMfS mX7_isText 1 := ⟨⟨by decide +kernel, vTm (List.mem_of_getElem? (i := 378) (by decide +kernel)) (by decide +kernel), vTm (List.mem_of_getElem? (i := 81) (by decide +kernel)) (by decide +kernel), ⟨by decide +kernel, by decide +kernel, by decide +kernel⟩, by decide⟩, vTm (List.mem_of_getElem? (i := 377) (by decide +kernel)) (by decide +kernel)⟩
set_option maxRecDepth 100000 in
theorem hfX7_isHour : vMfS mX7_isHour 1 := ⟨⟨by decide +kernel, vTm (List.mem_of_getElem? (i := 469) (by decide +kernel)) (by decide +kernel), vTm (List.mem_of_getElem? (i := 81) (by decide +kernel)) (by decide +kernel), ⟨by decide +kernel, by decide +kernel, by decide +kernel⟩, by decide⟩, vTm (List.mem_of_getElem? (i := 468) (by decide +kernel)) (by decide +kernel)⟩
set_option maxRecDepth 100000 in
theorem hfX7_isLoad : vMfS mX7_isLoad 1 := ⟨⟨by decide +kernel, vTm (List.mem_of_getElem? (i := 615) (by decide +kernel)) (by decide +kernel), vTm (List.mem_of_getElem? (i := 81) (by decide +kernel)) (by decide +kernel), ⟨by decide +kernel, by decide +kernel, by decide +kernel⟩, by decide⟩, vTm (List.mem_of_getElem? (i := 614) (by decide +kernel)) (by decide +kernel)⟩
set_option maxRecDepth 100000 in
theorem hfX7_isSheet : vMfS mX7_isSheet 1 := ⟨⟨by decide +kernel, vTm (List.mem_of_getElem? (i := 488) (by decide +kernel)) (by decide +kernel), vTm (List.mem_of_getElem? (i := 81) (by decide +kernel)) (by decide +kernel), ⟨by decide +kernel, by decide +kernel, by decide +kernel⟩, by decide⟩, vTm (List.mem_of_getElem? (i := 487) (by decide +kernel)) (by decide +kernel)⟩
set_option maxRecDepth 100000 in
theorem hfX7_isForm : vMfS mX7_isForm 1 := ⟨⟨by decide +kernel, vTm (List.mem_of_getElem? (i := 732) (by decide +kernel)) (by decide +kernel), vTm (List.mem_of_getElem? (i := 81) (by decide +kernel)) (by decide +kernel), ⟨by decide +kernel, by decide +kernel, by decide +kernel⟩, by decide⟩, vTm (List.mem_of_getElem? (i := 731) (by decide +kernel)) (by decide +kernel)⟩
set_option maxRecDepth 100000 in
theorem hfX7_isFloor : vMfV mX7_isFloor 1 := ⟨⟨by decide +kernel, vTm (List.mem_of_getElem? (i := 443) (by decide +kernel)) (by decide +kernel), vTm (List.mem_of_getElem? (i := 81) (by decide +kernel)) (by decide +kernel), ⟨by decide +kernel, by decide +kernel, by decide +kernel⟩, by decide⟩, vTm (List.mem_of_getElem? (i := 442) (by decide +kernel)) (by decide +kernel), vTm (List.mem_of_getElem? (i := 6) (by decide +kernel)) (by decide +kernel)⟩
set_option maxRecDepth 100000 in
theorem hfX7_isBasket : vMfV mX7_isBasket 1 := ⟨⟨by decide +kernel, vTm (List.mem_of_getElem? (i := 451) (by decide +kernel)) (by decide +kernel), vTm (List.mem_of_getElem? (i := 81) (by decide +kernel)) (by decide +kernel), ⟨by decide +kernel, by decide +kernel, by decide +kernel⟩, by decide⟩, vTm (List.mem_of_getElem? (i := 450) (by decide +kernel)) (by decide +kernel), vTm (List.mem_of_getElem? (i := 7) (by decide +kernel)) (by decide +kernel)⟩
set_option maxRecDepth 100000 in
theorem hfX7_textOf : vMfV mX7_textOf 1 := ⟨⟨by decide +kernel, vTm (List.mem_of_getElem? (i := 382) (by decide +kernel)) (by decide +kernel), vTm (List.mem_of_getElem? (i := 81) (by decide +kernel)) (by decide +kernel), ⟨by decide +kernel, by decide +kernel, by decide +kernel⟩, by decide⟩, vTm (List.mem_of_getElem? (i := 381) (by decide +kernel)) (by decide +kernel), vTm (List.mem_of_getElem? (i := 0) (by decide +kernel)) (by decide +kernel)⟩
set_option maxRecDepth 100000 in
theorem hfX7_reread : vMfV mX7_reread 1 := ⟨⟨by decide +kernel, vTm (List.mem_of_getElem? (i := 390) (by decide +kernel)) (by decide +kernel), vTm (List.mem_of_getElem? (i := 81) (by decide +kernel)) (by decide +kernel), ⟨by decide +kernel, by decide +kernel, by decide +kernel⟩, by decide⟩, vTm (List.mem_of_getElem? (i := 389) (by decide +kernel)) (by decide +kernel), vTm (List.mem_of_getElem? (i := 1) (by decide +kernel)) (by decide +kernel)⟩
set_option maxRecDepth 100000 in
theorem hfX7_oneMore : vMfS mX7_oneMore 2 := ⟨⟨by decide +kernel, vTm (List.mem_of_getElem? (i := 466) (by decide +kernel)) (by decide +kernel), vTm (List.mem_of_getElem? (i := 81) (by decide +kernel)) (by decide +kernel), ⟨by decide +kernel, by decide +kernel, by decide +kernel⟩, by decide⟩, vTm (List.mem_of_getElem? (i := 465) (by decide +kernel)) (by decide +kernel)⟩
set_option maxRecDepth 100000 in
theorem hfX7_found : vMfV mX7_found 1 := ⟨⟨by decide +kernel, vTm (List.mem_of_getElem? (i := 496) (by decide +kernel)) (by decide +kernel), vTm (List.mem_of_getElem? (i := 81) (by decide +kernel)) (by decide +kernel), ⟨by decide +kernel, by decide +kernel, by decide +kernel⟩, by decide⟩, vTm (List.mem_of_getElem? (i := 495) (by decide +kernel)) (by decide +kernel), vTm (List.mem_of_getElem? (i := 8) (by decide +kernel)) (by decide +kernel)⟩
set_option maxRecDepth 100000 in
theorem hfX7_goAsTold : vMfV mX7_goAsTold 0 := ⟨⟨by decide +kernel, vTm (List.mem_of_getElem? (i := 559) (by decide +kernel)) (by decide +kernel), vTm (List.mem_of_getElem? (i := 81) (by decide +kernel)) (by decide +kernel), ⟨by decide +kernel, by decide +kernel, by decide +kernel⟩, by decide⟩, vTm (List.mem_of_getElem? (i := 558) (by decide +kernel)) (by decide +kernel), vTm (List.mem_of_getElem? (i := 16) (by decide +kernel)) (by decide +kernel)⟩
set_option maxRecDepth 100000 in
theorem hfX7_findHour : vMfV mX7_findHour 1 := ⟨⟨by decide +kernel, vTm (List.mem_of_getElem? (i := 608) (by decide +kernel)) (by decide +kernel), vTm (List.mem_of_getElem? (i := 81) (by decide +kernel)) (by decide +kernel), ⟨by decide +kernel, by decide +kernel, by decide +kernel⟩, by decide⟩, vTm (List.mem_of_getElem? (i := 607) (by decide +kernel)) (by decide +kernel), vTm (List.mem_of_getElem? (i := 17) (by decide +kernel)) (by decide +kernel)⟩
set_option maxRecDepth 100000 in
theorem hfX7_findStill : vMfV mX7_findStill 0 := ⟨⟨by decide +kernel, vTm (List.mem_of_getElem? (i := 657) (by decide +kernel)) (by decide +kernel), vTm (List.mem_of_getElem? (i := 81) (by decide +kernel)) (by decide +kernel), ⟨by decide +kernel, by decide +kernel, by decide +kernel⟩, by decide⟩, vTm (List.mem_of_getElem? (i := 656) (by decide +kernel)) (by decide +kernel), vTm (List.mem_of_getElem? (i := 22) (by decide +kernel)) (by decide +kernel)⟩
set_option maxRecDepth 100000 in
theorem hfX7_findFed : vMfV mX7_findFed 1 := ⟨⟨by decide +kernel, vTm (List.mem_of_getElem? (i := 627) (by decide +kernel)) (by decide +kernel), vTm (List.mem_of_getElem? (i := 81) (by decide +kernel)) (by decide +kernel), ⟨by decide +kernel, by decide +kernel, by decide +kernel⟩, by decide⟩, vTm (List.mem_of_getElem? (i := 626) (by decide +kernel)) (by decide +kernel), vTm (List.mem_of_getElem? (i := 18) (by decide +kernel)) (by decide +kernel)⟩
set_option maxRecDepth 100000 in
theorem hfX7_keepFed : vMfV mX7_keepFed 3 := ⟨⟨by decide +kernel, vTm (List.mem_of_getElem? (i := 645) (by decide +kernel)) (by decide +kernel), vTm (List.mem_of_getElem? (i := 81) (by decide +kernel)) (by decide +kernel), ⟨by decide +kernel, by decide +kernel, by decide +kernel⟩, by decide⟩, vTm (List.mem_of_getElem? (i := 644) (by decide +kernel)) (by decide +kernel), vTm (List.mem_of_getElem? (i := 20) (by decide +kernel)) (by decide +kernel)⟩
set_option maxRecDepth 100000 in
theorem hfX7_fedAt : vMfV mX7_fedAt 1 := ⟨⟨by decide +kernel, vTm (List.mem_of_getElem? (i := 649) (by decide +kernel)) (by decide +kernel), vTm (List.mem_of_getElem? (i := 81) (by decide +kernel)) (by decide +kernel), ⟨by decide +kernel, by decide +kernel, by decide +kernel⟩, by decide⟩, vTm (List.mem_of_getElem? (i := 648) (by decide +kernel)) (by decide +kernel), vTm (List.mem_of_getElem? (i := 21) (by decide +kernel)) (by decide +kernel)⟩
set_option maxRecDepth 100000 in
theorem hfX7_staysWhole : vMfV mX7_staysWhole 3 := ⟨⟨by decide +kernel, vTm (List.mem_of_getElem? (i := 631) (by decide +kernel)) (by decide +kernel), vTm (List.mem_of_getElem? (i := 81) (by decide +kernel)) (by decide +kernel), ⟨by decide +kernel, by decide +kernel, by decide +kernel⟩, by decide⟩, vTm (List.mem_of_getElem? (i := 630) (by decide +kernel)) (by decide +kernel), vTm (List.mem_of_getElem? (i := 19) (by decide +kernel)) (by decide +kernel)⟩
set_option maxRecDepth 100000 in
theorem hfX7_fittingBites : vMfV mX7_fittingBites 1 := ⟨⟨by decide +kernel, vTm (List.mem_of_getElem? (i := 690) (by decide +kernel)) (by decide +kernel), vTm (List.mem_of_getElem? (i := 81) (by decide +kernel)) (by decide +kernel), ⟨by decide +kernel, by decide +kernel, by decide +kernel⟩, by decide⟩, vTm (List.mem_of_getElem? (i := 689) (by decide +kernel)) (by decide +kernel), vTm (List.mem_of_getElem? (i := 23) (by decide +kernel)) (by decide +kernel)⟩
set_option maxRecDepth 100000 in
theorem hfX7_fittingWords : vMfV mX7_fittingWords 1 := ⟨⟨by decide +kernel, vTm (List.mem_of_getElem? (i := 695) (by decide +kernel)) (by decide +kernel), vTm (List.mem_of_getElem? (i := 81) (by decide +kernel)) (by decide +kernel), ⟨by decide +kernel, by decide +kernel, by decide +kernel⟩, by decide⟩, vTm (List.mem_of_getElem? (i := 694) (by decide +kernel)) (by decide +kernel), vTm (List.mem_of_getElem? (i := 24) (by decide +kernel)) (by decide +kernel)⟩
set_option maxRecDepth 100000 in
theorem hfX7_greatestHeap : vMfV mX7_greatestHeap 2 := ⟨⟨by decide +kernel, vTm (List.mem_of_getElem? (i := 703) (by decide +kernel)) (by decide +kernel), vTm (List.mem_of_getElem? (i := 81) (by decide +kernel)) (by decide +kernel), ⟨by decide +kernel, by decide +kernel, by decide +kernel⟩, by decide⟩, vTm (List.mem_of_getElem? (i := 702) (by decide +kernel)) (by decide +kernel), vTm (List.mem_of_getElem? (i := 25) (by decide +kernel)) (by decide +kernel)⟩
set_option maxRecDepth 100000 in
theorem hfX7_findChance : vMfV mX7_findChance 3 := ⟨⟨by decide +kernel, vTm (List.mem_of_getElem? (i := 715) (by decide +kernel)) (by decide +kernel), vTm (List.mem_of_getElem? (i := 81) (by decide +kernel)) (by decide +kernel), ⟨by decide +kernel, by decide +kernel, by decide +kernel⟩, by decide⟩, vTm (List.mem_of_getElem? (i := 714) (by decide +kernel)) (by decide +kernel), vTm (List.mem_of_getElem? (i := 26) (by decide +kernel)) (by decide +kernel)⟩
set_option maxRecDepth 100000 in
theorem hfX7_lots : vMfS mX7_lots 2 := ⟨⟨by decide +kernel, vTm (List.mem_of_getElem? (i := 724) (by decide +kernel)) (by decide +kernel), vTm (List.mem_of_getElem? (i := 81) (by decide +kernel)) (by decide +kernel), ⟨by decide +kernel, by decide +kernel, by decide +kernel⟩, by decide⟩, vTm (List.mem_of_getElem? (i := 723) (by decide +kernel)) (by decide +kernel)⟩
set_option maxRecDepth 100000 in
theorem hfX7_mixed : vMfS mX7_mixed 2 := ⟨⟨by decide +kernel, vTm (List.mem_of_getElem? (i := 787) (by decide +kernel)) (by decide +kernel), vTm (List.mem_of_getElem? (i := 81) (by decide +kernel)) (by decide +kernel), ⟨by decide +kernel, by decide +kernel, by decide +kernel⟩, by decide⟩, vTm (List.mem_of_getElem? (i := 786) (by decide +kernel)) (by decide +kernel)⟩
set_option maxRecDepth 100000 in
theorem hfX7_mixedFloor : vMfV mX7_mixedFloor 2 := ⟨⟨by decide +kernel, vTm (List.mem_of_getElem? (i := 793) (by decide +kernel)) (by decide +kernel), vTm (List.mem_of_getElem? (i := 81) (by decide +kernel)) (by decide +kernel), ⟨by decide +kernel, by decide +kernel, by decide +kernel⟩, by decide⟩, vTm (List.mem_of_getElem? (i := 792) (by decide +kernel)) (by decide +kernel), vTm (List.mem_of_getElem? (i := 27) (by decide +kernel)) (by decide +kernel)⟩
set_option maxRecDepth 100000 in
theorem hfX7_mixedWay : vMfV mX7_mixedWay 2 := ⟨⟨by decide +kernel, vTm (List.mem_of_getElem? (i := 801) (by decide +kernel)) (by decide +kernel), vTm (List.mem_of_getElem? (i := 81) (by decide +kernel)) (by decide +kernel), ⟨by decide +kernel, by decide +kernel, by decide +kernel⟩, by decide⟩, vTm (List.mem_of_getElem? (i := 800) (by decide +kernel)) (by decide +kernel), vTm (List.mem_of_getElem? (i := 28) (by decide +kernel)) (by decide +kernel)⟩
set_option maxRecDepth 100000 in
theorem hfX7_mixedHour : vMfV mX7_mixedHour 3 := ⟨⟨by decide +kernel, vTm (List.mem_of_getElem? (i := 806) (by decide +kernel)) (by decide +kernel), vTm (List.mem_of_getElem? (i := 81) (by decide +kernel)) (by decide +kernel), ⟨by decide +kernel, by decide +kernel, by decide +kernel⟩, by decide⟩, vTm (List.mem_of_getElem? (i := 805) (by decide +kernel)) (by decide +kernel), vTm (List.mem_of_getElem? (i := 29) (by decide +kernel)) (by decide +kernel)⟩
set_option maxRecDepth 100000 in
theorem hfX7_mixedPlans : vMfV mX7_mixedPlans 2 := ⟨⟨by decide +kernel, vTm (List.mem_of_getElem? (i := 813) (by decide +kernel)) (by decide +kernel), vTm (List.mem_of_getElem? (i := 81) (by decide +kernel)) (by decide +kernel), ⟨by decide +kernel, by decide +kernel, by decide +kernel⟩, by decide⟩, vTm (List.mem_of_getElem? (i := 812) (by decide +kernel)) (by decide +kernel), vTm (List.mem_of_getElem? (i := 30) (by decide +kernel)) (by decide +kernel)⟩
set_option maxRecDepth 100000 in
theorem hfX8_in : vMfS mX8_in 3 := ⟨⟨by decide +kernel, vTm (List.mem_of_getElem? (i := 981) (by decide +kernel)) (by decide +kernel), vTm (List.mem_of_getElem? (i := 89) (by decide +kernel)) (by decide +kernel), ⟨by decide +kernel, by decide +kernel, by decide +kernel⟩, by decide⟩, vTm (List.mem_of_getElem? (i := 980) (by decide +kernel)) (by decide +kernel)⟩
set_option maxRecDepth 100000 in
theorem hfX8_isIn : vMfS mX8_isIn 2 := ⟨⟨by decide +kernel, vTm (List.mem_of_getElem? (i := 1103) (by decide +kernel)) (by decide +kernel), vTm (List.mem_of_getElem? (i := 89) (by decide +kernel)) (by decide +kernel), ⟨by decide +kernel, by decide +kernel, by decide +kernel⟩, by decide⟩, vTm (List.mem_of_getElem? (i := 1102) (by decide +kernel)) (by decide +kernel)⟩
set_option maxRecDepth 100000 in
theorem hfX8_no : vMfS mX8_no 1 := ⟨⟨by decide +kernel, vTm (List.mem_of_getElem? (i := 1272) (by decide +kernel)) (by decide +kernel), vTm (List.mem_of_getElem? (i := 89) (by decide +kernel)) (by decide +kernel), ⟨by decide +kernel, by decide +kernel, by decide +kernel⟩, by decide⟩, vTm (List.mem_of_getElem? (i := 1271) (by decide +kernel)) (by decide +kernel)⟩
set_option maxRecDepth 100000 in
theorem hfX8_lowest : vMfS mX8_lowest 3 := ⟨⟨by decide +kernel, vTm (List.mem_of_getElem? (i := 1269) (by decide +kernel)) (by decide +kernel), vTm (List.mem_of_getElem? (i := 89) (by decide +kernel)) (by decide +kernel), ⟨by decide +kernel, by decide +kernel, by decide +kernel⟩, by decide⟩, vTm (List.mem_of_getElem? (i := 1268) (by decide +kernel)) (by decide +kernel)⟩
set_option maxRecDepth 100000 in
theorem hfX8_isText : vMfS mX8_isText 1 := ⟨⟨by decide +kernel, vTm (List.mem_of_getElem? (i := 978) (by decide +kernel)) (by decide +kernel), vTm (List.mem_of_getElem? (i := 89) (by decide +kernel)) (by decide +kernel), ⟨by decide +kernel, by decide +kernel, by decide +kernel⟩, by decide⟩, vTm (List.mem_of_getElem? (i := 977) (by decide +kernel)) (by decide +kernel)⟩
set_option maxRecDepth 100000 in
theorem hfX8_isHour : vMfS mX8_isHour 1 := ⟨⟨by decide +kernel, vTm (List.mem_of_getElem? (i := 1060) (by decide +kernel)) (by decide +kernel), vTm (List.mem_of_getElem? (i := 89) (by decide +kernel)) (by decide +kernel), ⟨by decide +kernel, by decide +kernel, by decide +kernel⟩, by decide⟩, vTm (List.mem_of_getElem? (i := 1059) (by decide +kernel)) (by decide +kernel)⟩
set_option maxRecDepth 100000 in
theorem hfX8_type : vMfV mX8_type 2 := ⟨⟨by decide +kernel, vTm (List.mem_of_getElem? (i := 975) (by decide +kernel)) (by decide +kernel), vTm (List.mem_of_getElem? (i := 89) (by decide +kernel)) (by decide +kernel), ⟨by decide +kernel, by decide +kernel, by decide +kernel⟩, by decide⟩, vTm (List.mem_of_getElem? (i := 973) (by decide +kernel)) (by decide +kernel), vTm (List.mem_of_getElem? (i := 974) (by decide +kernel)) (by decide +kernel)⟩
set_option maxRecDepth 100000 in
theorem hfX8_wipe : vMfV mX8_wipe 1 := ⟨⟨by decide +kernel, vTm (List.mem_of_getElem? (i := 985) (by decide +kernel)) (by decide +kernel), vTm (List.mem_of_getElem? (i := 89) (by decide +kernel)) (by decide +kernel), ⟨by decide +kernel, by decide +kernel, by decide +kernel⟩, by decide⟩, vTm (List.mem_of_getElem? (i := 983) (by decide +kernel)) (by decide +kernel), vTm (List.mem_of_getElem? (i := 984) (by decide +kernel)) (by decide +kernel)⟩
set_option maxRecDepth 100000 in
theorem hfX8_undo : vMfV mX8_undo 1 := ⟨⟨by decide +kernel, vTm (List.mem_of_getElem? (i := 989) (by decide +kernel)) (by decide +kernel), vTm (List.mem_of_getElem? (i := 89) (by decide +kernel)) (by decide +kernel), ⟨by decide +kernel, by decide +kernel, by decide +kernel⟩, by decide⟩, vTm (List.mem_of_getElem? (i := 987) (by decide +kernel)) (by decide +kernel), vTm (List.mem_of_getElem? (i := 988) (by decide +kernel)) (by decide +kernel)⟩
set_option maxRecDepth 100000 in
theorem hfX8_byteAt : vMfV mX8_byteAt 2 := ⟨⟨by decide +kernel, vTm (List.mem_of_getElem? (i := 1009) (by decide +kernel)) (by decide +kernel), vTm (List.mem_of_getElem? (i := 89) (by decide +kernel)) (by decide +kernel), ⟨by decide +kernel, by decide +kernel, by decide +kernel⟩, by decide⟩, vTm (List.mem_of_getElem? (i := 1008) (by decide +kernel)) (by decide +kernel), vTm (List.mem_of_getElem? (i := 34) (by decide +kernel)) (by decide +kernel)⟩
set_option maxRecDepth 100000 in
theorem hfX8_isLetter : vMfV mX8_isLetter 2 := ⟨⟨by decide +kernel, vTm (List.mem_of_getElem? (i := 1017) (by decide +kernel)) (by decide +kernel), vTm (List.mem_of_getElem? (i := 89) (by decide +kernel)) (by decide +kernel), ⟨by decide +kernel, by decide +kernel, by decide +kernel⟩, by decide⟩, vTm (List.mem_of_getElem? (i := 1016) (by decide +kernel)) (by decide +kernel), vTm (List.mem_of_getElem? (i := 36) (by decide +kernel)) (by decide +kernel)⟩
set_option maxRecDepth 100000 in
theorem hfX8_isFigure : vMfV mX8_isFigure 3 := ⟨⟨by decide +kernel, vTm (List.mem_of_getElem? (i := 1013) (by decide +kernel)) (by decide +kernel), vTm (List.mem_of_getElem? (i := 89) (by decide +kernel)) (by decide +kernel), ⟨by decide +kernel, by decide +kernel, by decide +kernel⟩, by decide⟩, vTm (List.mem_of_getElem? (i := 1012) (by decide +kernel)) (by decide +kernel), vTm (List.mem_of_getElem? (i := 35) (by decide +kernel)) (by decide +kernel)⟩
set_option maxRecDepth 100000 in
theorem hfX8_readsFloor : vMfV mX8_readsFloor 2 := ⟨⟨by decide +kernel, vTm (List.mem_of_getElem? (i := 1005) (by decide +kernel)) (by decide +kernel), vTm (List.mem_of_getElem? (i := 89) (by decide +kernel)) (by decide +kernel), ⟨by decide +kernel, by decide +kernel, by decide +kernel⟩, by decide⟩, vTm (List.mem_of_getElem? (i := 1004) (by decide +kernel)) (by decide +kernel), vTm (List.mem_of_getElem? (i := 33) (by decide +kernel)) (by decide +kernel)⟩
set_option maxRecDepth 100000 in
theorem hfX8_readsBasket : vMfV mX8_readsBasket 2 := ⟨⟨by decide +kernel, vTm (List.mem_of_getElem? (i := 1021) (by decide +kernel)) (by decide +kernel), vTm (List.mem_of_getElem? (i := 89) (by decide +kernel)) (by decide +kernel), ⟨by decide +kernel, by decide +kernel, by decide +kernel⟩, by decide⟩, vTm (List.mem_of_getElem? (i := 1020) (by decide +kernel)) (by decide +kernel), vTm (List.mem_of_getElem? (i := 37) (by decide +kernel)) (by decide +kernel)⟩
set_option maxRecDepth 100000 in
theorem hfX8_readsParts : vMfV mX8_readsParts 1 := ⟨⟨by decide +kernel, vTm (List.mem_of_getElem? (i := 1001) (by decide +kernel)) (by decide +kernel), vTm (List.mem_of_getElem? (i := 89) (by decide +kernel)) (by decide +kernel), ⟨by decide +kernel, by decide +kernel, by decide +kernel⟩, by decide⟩, vTm (List.mem_of_getElem? (i := 1000) (by decide +kernel)) (by decide +kernel), vTm (List.mem_of_getElem? (i := 32) (by decide +kernel)) (by decide +kernel)⟩
set_option maxRecDepth 100000 in
theorem hfX8_faultOf : vMfV mX8_faultOf 1 := ⟨⟨by decide +kernel, vTm (List.mem_of_getElem? (i := 997) (by decide +kernel)) (by decide +kernel), vTm (List.mem_of_getElem? (i := 89) (by decide +kernel)) (by decide +kernel), ⟨by decide +kernel, by decide +kernel, by decide +kernel⟩, by decide⟩, vTm (List.mem_of_getElem? (i := 996) (by decide +kernel)) (by decide +kernel), vTm (List.mem_of_getElem? (i := 31) (by decide +kernel)) (by decide +kernel)⟩
set_option maxRecDepth 100000 in
theorem hfX8_reads : vMfV mX8_reads 0 := ⟨⟨by decide +kernel, vTm (List.mem_of_getElem? (i := 1033) (by decide +kernel)) (by decide +kernel), vTm (List.mem_of_getElem? (i := 89) (by decide +kernel)) (by decide +kernel), ⟨by decide +kernel, by decide +kernel, by decide +kernel⟩, by decide⟩, vTm (List.mem_of_getElem? (i := 1032) (by decide +kernel)) (by decide +kernel), vTm (List.mem_of_getElem? (i := 39) (by decide +kernel)) (by decide +kernel)⟩
set_option maxRecDepth 100000 in
theorem hfX8_fault : vMfV mX8_fault 1 := ⟨⟨by decide +kernel, vTm (List.mem_of_getElem? (i := 993) (by decide +kernel)) (by decide +kernel), vTm (List.mem_of_getElem? (i := 89) (by decide +kernel)) (by decide +kernel), ⟨by decide +kernel, by decide +kernel, by decide +kernel⟩, by decide⟩, vTm (List.mem_of_getElem? (i := 991) (by decide +kernel)) (by decide +kernel), vTm (List.mem_of_getElem? (i := 992) (by decide +kernel)) (by decide +kernel)⟩
set_option maxRecDepth 100000 in
theorem hfX8_isFloor : vMfV mX8_isFloor 1 := ⟨⟨by decide +kernel, vTm (List.mem_of_getElem? (i := 1029) (by decide +kernel)) (by decide +kernel), vTm (List.mem_of_getElem? (i := 89) (by decide +kernel)) (by decide +kernel), ⟨by decide +kernel, by decide +kernel, by decide +kernel⟩, by decide⟩, vTm (List.mem_of_getElem? (i := 1028) (by decide +kernel)) (by decide +kernel), vTm (List.mem_of_getElem? (i := 38) (by decide +kernel)) (by decide +kernel)⟩
set_option maxRecDepth 100000 in
theorem hfX8_isBasket : vMfV mX8_isBasket 1 := ⟨⟨by decide +kernel, vTm (List.mem_of_getElem? (i := 1045) (by decide +kernel)) (by decide +kernel), vTm (List.mem_of_getElem? (i := 89) (by decide +kernel)) (by decide +kernel), ⟨by decide +kernel, by decide +kernel, by decide +kernel⟩, by decide⟩, vTm (List.mem_of_getElem? (i := 1044) (by decide +kernel)) (by decide +kernel), vTm (List.mem_of_getElem? (i := 41) (by decide +kernel)) (by decide +kernel)⟩
set_option maxRecDepth 100000 in
theorem hfX8_floorOf : vMfV mX8_floorOf 2 := ⟨⟨by decide +kernel, vTm (List.mem_of_getElem? (i := 1037) (by decide +kernel)) (by decide +kernel), vTm (List.mem_of_getElem? (i := 89) (by decide +kernel)) (by decide +kernel), ⟨by decide +kernel, by decide +kernel, by decide +kernel⟩, by decide⟩, vTm (List.mem_of_getElem? (i := 1036) (by decide +kernel)) (by decide +kernel), vTm (List.mem_of_getElem? (i := 40) (by decide +kernel)) (by decide +kernel)⟩
set_option maxRecDepth 100000 in
theorem hfX8_floor : vMfV mX8_floor 2 := ⟨⟨by decide +kernel, vTm (List.mem_of_getElem? (i := 1025) (by decide +kernel)) (by decide +kernel), vTm (List.mem_of_getElem? (i := 89) (by decide +kernel)) (by decide +kernel), ⟨by decide +kernel, by decide +kernel, by decide +kernel⟩, by decide⟩, vTm (List.mem_of_getElem? (i := 1023) (by decide +kernel)) (by decide +kernel), vTm (List.mem_of_getElem? (i := 1024) (by decide +kernel)) (by decide +kernel)⟩
set_option maxRecDepth 100000 in
theorem hfX8_basketOf : vMfV mX8_basketOf 2 := ⟨⟨by decide +kernel, vTm (List.mem_of_getElem? (i := 1049) (by decide +kernel)) (by decide +kernel), vTm (List.mem_of_getElem? (i := 89) (by decide +kernel)) (by decide +kernel), ⟨by decide +kernel, by decide +kernel, by decide +kernel⟩, by decide⟩, vTm (List.mem_of_getElem? (i := 1048) (by decide +kernel)) (by decide +kernel), vTm (List.mem_of_getElem? (i := 42) (by decide +kernel)) (by decide +kernel)⟩
set_option maxRecDepth 100000 in
theorem hfX8_basket : vMfV mX8_basket 2 := ⟨⟨by decide +kernel, vTm (List.mem_of_getElem? (i := 1041) (by decide +kernel)) (by decide +kernel), vTm (List.mem_of_getElem? (i := 89) (by decide +kernel)) (by decide +kernel), ⟨by decide +kernel, by decide +kernel, by decide +kernel⟩, by decide⟩, vTm (List.mem_of_getElem? (i := 1039) (by decide +kernel)) (by decide +kernel), vTm (List.mem_of_getElem? (i := 1040) (by decide +kernel)) (by decide +kernel)⟩
set_option maxRecDepth 100000 in
theorem hfX8_set : vMfV mX8_set 2 := ⟨⟨by decide +kernel, vTm (List.mem_of_getElem? (i := 1053) (by decide +kernel)) (by decide +kernel), vTm (List.mem_of_getElem? (i := 89) (by decide +kernel)) (by decide +kernel), ⟨by decide +kernel, by decide +kernel, by decide +kernel⟩, by decide⟩, vTm (List.mem_of_getElem? (i := 1051) (by decide +kernel)) (by decide +kernel), vTm (List.mem_of_getElem? (i := 1052) (by decide +kernel)) (by decide +kernel)⟩
set_option maxRecDepth 100000 in
theorem hfX8_wind : vMfV mX8_wind 1 := ⟨⟨by decide +kernel, vTm (List.mem_of_getElem? (i := 1057) (by decide +kernel)) (by decide +kernel), vTm (List.mem_of_getElem? (i := 89) (by decide +kernel)) (by decide +kernel), ⟨by decide +kernel, by decide +kernel, by decide +kernel⟩, by decide⟩, vTm (List.mem_of_getElem? (i := 1055) (by decide +kernel)) (by decide +kernel), vTm (List.mem_of_getElem? (i := 1056) (by decide +kernel)) (by decide +kernel)⟩
set_option maxRecDepth 100000 in
theorem hfX8_sunday : vMfV mX8_sunday 1 := ⟨⟨by decide +kernel, vTm (List.mem_of_getElem? (i := 1064) (by decide +kernel)) (by decide +kernel), vTm (List.mem_of_getElem? (i := 89) (by decide +kernel)) (by decide +kernel), ⟨by decide +kernel, by decide +kernel, by decide +kernel⟩, by decide⟩, vTm (List.mem_of_getElem? (i := 1062) (by decide +kernel)) (by decide +kernel), vTm (List.mem_of_getElem? (i := 1063) (by decide +kernel)) (by decide +kernel)⟩
set_option maxRecDepth 100000 in
theorem hfX8_back : vMfV mX8_back 1 := ⟨⟨by decide +kernel, vTm (List.mem_of_getElem? (i := 1068) (by decide +kernel)) (by decide +kernel), vTm (List.mem_of_getElem? (i := 89) (by decide +kernel)) (by decide +kernel), ⟨by decide +kernel, by decide +kernel, by decide +kernel⟩, by decide⟩, vTm (List.mem_of_getElem? (i := 1066) (by decide +kernel)) (by decide +kernel), vTm (List.mem_of_getElem? (i := 1067) (by decide +kernel)) (by decide +kernel)⟩
set_option maxRecDepth 100000 in
theorem hfX8_read : vMfV mX8_read 1 := ⟨⟨by decide +kernel, vTm (List.mem_of_getElem? (i := 1072) (by decide +kernel)) (by decide +kernel), vTm (List.mem_of_getElem? (i := 89) (by decide +kernel)) (by decide +kernel), ⟨by decide +kernel, by decide +kernel, by decide +kernel⟩, by decide⟩, vTm (List.mem_of_getElem? (i := 1070) (by decide +kernel)) (by decide +kernel), vTm (List.mem_of_getElem? (i := 1071) (by decide +kernel)) (by decide +kernel)⟩
set_option maxRecDepth 100000 in
theorem hfX8_bitsOf : vMfS mX8_bitsOf 2 := ⟨⟨by decide +kernel, vTm (List.mem_of_getElem? (i := 1106) (by decide +kernel)) (by decide +kernel), vTm (List.mem_of_getElem? (i := 89) (by decide +kernel)) (by decide +kernel), ⟨by decide +kernel, by decide +kernel, by decide +kernel⟩, by decide⟩, vTm (List.mem_of_getElem? (i := 1105) (by decide +kernel)) (by decide +kernel)⟩
set_option maxRecDepth 100000 in
theorem hfX8_windsBut : vMfV mX8_windsBut 1 := ⟨⟨by decide +kernel, vTm (List.mem_of_getElem? (i := 1100) (by decide +kernel)) (by decide +kernel), vTm (List.mem_of_getElem? (i := 89) (by decide +kernel)) (by decide +kernel), ⟨by decide +kernel, by decide +kernel, by decide +kernel⟩, by decide⟩, vTm (List.mem_of_getElem? (i := 1099) (by decide +kernel)) (by decide +kernel), vTm (List.mem_of_getElem? (i := 47) (by decide +kernel)) (by decide +kernel)⟩
set_option maxRecDepth 100000 in
theorem hfX8_asTold : vMfV mX8_asTold 0 := ⟨⟨by decide +kernel, vTm (List.mem_of_getElem? (i := 1096) (by decide +kernel)) (by decide +kernel), vTm (List.mem_of_getElem? (i := 89) (by decide +kernel)) (by decide +kernel), ⟨by decide +kernel, by decide +kernel, by decide +kernel⟩, by decide⟩, vTm (List.mem_of_getElem? (i := 1095) (by decide +kernel)) (by decide +kernel), vTm (List.mem_of_getElem? (i := 46) (by decide +kernel)) (by decide +kernel)⟩
set_option maxRecDepth 100000 in
theorem hfX8_isTangled : vMfV mX8_isTangled 1 := ⟨⟨by decide +kernel, vTm (List.mem_of_getElem? (i := 1118) (by decide +kernel)) (by decide +kernel), vTm (List.mem_of_getElem? (i := 89) (by decide +kernel)) (by decide +kernel), ⟨by decide +kernel, by decide +kernel, by decide +kernel⟩, by decide⟩, vTm (List.mem_of_getElem? (i := 1117) (by decide +kernel)) (by decide +kernel), vTm (List.mem_of_getElem? (i := 50) (by decide +kernel)) (by decide +kernel)⟩
set_option maxRecDepth 100000 in
theorem hfX8_takes : vMfV mX8_takes 3 := ⟨⟨by decide +kernel, vTm (List.mem_of_getElem? (i := 1122) (by decide +kernel)) (by decide +kernel), vTm (List.mem_of_getElem? (i := 89) (by decide +kernel)) (by decide +kernel), ⟨by decide +kernel, by decide +kernel, by decide +kernel⟩, by decide⟩, vTm (List.mem_of_getElem? (i := 1121) (by decide +kernel)) (by decide +kernel), vTm (List.mem_of_getElem? (i := 51) (by decide +kernel)) (by decide +kernel)⟩
set_option maxRecDepth 100000 in
theorem hfX8_wears : vMfV mX8_wears 1 := ⟨⟨by decide +kernel, vTm (List.mem_of_getElem? (i := 1130) (by decide +kernel)) (by decide +kernel), vTm (List.mem_of_getElem? (i := 89) (by decide +kernel)) (by decide +kernel), ⟨by decide +kernel, by decide +kernel, by decide +kernel⟩, by decide⟩, vTm (List.mem_of_getElem? (i := 1129) (by decide +kernel)) (by decide +kernel), vTm (List.mem_of_getElem? (i := 53) (by decide +kernel)) (by decide +kernel)⟩
set_option maxRecDepth 100000 in
theorem hfX8_goesUp : vMfV mX8_goesUp 2 := ⟨⟨by decide +kernel, vTm (List.mem_of_getElem? (i := 1126) (by decide +kernel)) (by decide +kernel), vTm (List.mem_of_getElem? (i := 89) (by decide +kernel)) (by decide +kernel), ⟨by decide +kernel, by decide +kernel, by decide +kernel⟩, by decide⟩, vTm (List.mem_of_getElem? (i := 1125) (by decide +kernel)) (by decide +kernel), vTm (List.mem_of_getElem? (i := 52) (by decide +kernel)) (by decide +kernel)⟩
set_option maxRecDepth 100000 in
theorem hfX8_goesBy : vMfV mX8_goesBy 1 := ⟨⟨by decide +kernel, vTm (List.mem_of_getElem? (i := 1114) (by decide +kernel)) (by decide +kernel), vTm (List.mem_of_getElem? (i := 89) (by decide +kernel)) (by decide +kernel), ⟨by decide +kernel, by decide +kernel, by decide +kernel⟩, by decide⟩, vTm (List.mem_of_getElem? (i := 1113) (by decide +kernel)) (by decide +kernel), vTm (List.mem_of_getElem? (i := 49) (by decide +kernel)) (by decide +kernel)⟩
set_option maxRecDepth 100000 in
theorem hfX8_runs : vMfV mX8_runs 0 := ⟨⟨by decide +kernel, vTm (List.mem_of_getElem? (i := 1110) (by decide +kernel)) (by decide +kernel), vTm (List.mem_of_getElem? (i := 89) (by decide +kernel)) (by decide +kernel), ⟨by decide +kernel, by decide +kernel, by decide +kernel⟩, by decide⟩, vTm (List.mem_of_getElem? (i := 1109) (by decide +kernel)) (by decide +kernel), vTm (List.mem_of_getElem? (i := 48) (by decide +kernel)) (by decide +kernel)⟩
set_option maxRecDepth 100000 in
theorem hfX8_runsTold : vMfV mX8_runsTold 0 := ⟨⟨by decide +kernel, vTm (List.mem_of_getElem? (i := 1092) (by decide +kernel)) (by decide +kernel), vTm (List.mem_of_getElem? (i := 89) (by decide +kernel)) (by decide +kernel), ⟨by decide +kernel, by decide +kernel, by decide +kernel⟩, by decide⟩, vTm (List.mem_of_getElem? (i := 1091) (by decide +kernel)) (by decide +kernel), vTm (List.mem_of_getElem? (i := 45) (by decide +kernel)) (by decide +kernel)⟩
set_option maxRecDepth 100000 in
theorem hfX8_atOf : vMfV mX8_atOf 3 := ⟨⟨by decide +kernel, vTm (List.mem_of_getElem? (i := 1088) (by decide +kernel)) (by decide +kernel), vTm (List.mem_of_getElem? (i := 89) (by decide +kernel)) (by decide +kernel), ⟨by decide +kernel, by decide +kernel, by decide +kernel⟩, by decide⟩, vTm (List.mem_of_getElem? (i := 1087) (by decide +kernel)) (by decide +kernel), vTm (List.mem_of_getElem? (i := 44) (by decide +kernel)) (by decide +kernel)⟩
set_option maxRecDepth 100000 in
theorem hfX8_at : vMfV mX8_at 3 := ⟨⟨by decide +kernel, vTm (List.mem_of_getElem? (i := 1084) (by decide +kernel)) (by decide +kernel), vTm (List.mem_of_getElem? (i := 89) (by decide +kernel)) (by decide +kernel), ⟨by decide +kernel, by decide +kernel, by decide +kernel⟩, by decide⟩, vTm (List.mem_of_getElem? (i := 1082) (by decide +kernel)) (by decide +kernel), vTm (List.mem_of_getElem? (i := 1083) (by decide +kernel)) (by decide +kernel)⟩
set_option maxRecDepth 100000 in
theorem hfX8_noteOf : vMfV mX8_noteOf 2 := ⟨⟨by decide +kernel, vTm (List.mem_of_getElem? (i := 1138) (by decide +kernel)) (by decide +kernel), vTm (List.mem_of_getElem? (i := 89) (by decide +kernel)) (by decide +kernel), ⟨by decide +kernel, by decide +kernel, by decide +kernel⟩, by decide⟩, vTm (List.mem_of_getElem? (i := 1137) (by decide +kernel)) (by decide +kernel), vTm (List.mem_of_getElem? (i := 54) (by decide +kernel)) (by decide +kernel)⟩
set_option maxRecDepth 100000 in
theorem hfX8_note : vMfV mX8_note 2 := ⟨⟨by decide +kernel, vTm (List.mem_of_getElem? (i := 1134) (by decide +kernel)) (by decide +kernel), vTm (List.mem_of_getElem? (i := 89) (by decide +kernel)) (by decide +kernel), ⟨by decide +kernel, by decide +kernel, by decide +kernel⟩, by decide⟩, vTm (List.mem_of_getElem? (i := 1132) (by decide +kernel)) (by decide +kernel), vTm (List.mem_of_getElem? (i := 1133) (by decide +kernel)) (by decide +kernel)⟩
set_option maxRecDepth 100000 in
theorem hfX8_comesOf : vMfV mX8_comesOf 1 := ⟨⟨by decide +kernel, vTm (List.mem_of_getElem? (i := 1146) (by decide +kernel)) (by decide +kernel), vTm (List.mem_of_getElem? (i := 89) (by decide +kernel)) (by decide +kernel), ⟨by decide +kernel, by decide +kernel, by decide +kernel⟩, by decide⟩, vTm (List.mem_of_getElem? (i := 1145) (by decide +kernel)) (by decide +kernel), vTm (List.mem_of_getElem? (i := 55) (by decide +kernel)) (by decide +kernel)⟩
set_option maxRecDepth 100000 in
theorem hfX8_comes : vMfV mX8_comes 1 := ⟨⟨by decide +kernel, vTm (List.mem_of_getElem? (i := 1142) (by decide +kernel)) (by decide +kernel), vTm (List.mem_of_getElem? (i := 89) (by decide +kernel)) (by decide +kernel), ⟨by decide +kernel, by decide +kernel, by decide +kernel⟩, by decide⟩, vTm (List.mem_of_getElem? (i := 1140) (by decide +kernel)) (by decide +kernel), vTm (List.mem_of_getElem? (i := 1141) (by decide +kernel)) (by decide +kernel)⟩
set_option maxRecDepth 100000 in
theorem hfX8_bitesOf : vMfV mX8_bitesOf 2 := ⟨⟨by decide +kernel, vTm (List.mem_of_getElem? (i := 1154) (by decide +kernel)) (by decide +kernel), vTm (List.mem_of_getElem? (i := 89) (by decide +kernel)) (by decide +kernel), ⟨by decide +kernel, by decide +kernel, by decide +kernel⟩, by decide⟩, vTm (List.mem_of_getElem? (i := 1153) (by decide +kernel)) (by decide +kernel), vTm (List.mem_of_getElem? (i := 56) (by decide +kernel)) (by decide +kernel)⟩
set_option maxRecDepth 100000 in
theorem hfX8_bites : vMfV mX8_bites 2 := ⟨⟨by decide +kernel, vTm (List.mem_of_getElem? (i := 1150) (by decide +kernel)) (by decide +kernel), vTm (List.mem_of_getElem? (i := 89) (by decide +kernel)) (by decide +kernel), ⟨by decide +kernel, by decide +kernel, by decide +kernel⟩, by decide⟩, vTm (List.mem_of_getElem? (i := 1148) (by decide +kernel)) (by decide +kernel), vTm (List.mem_of_getElem? (i := 1149) (by decide +kernel)) (by decide +kernel)⟩
set_option maxRecDepth 100000 in
theorem hfX8_upMuch : vMfV mX8_upMuch 0 := ⟨⟨by decide +kernel, vTm (List.mem_of_getElem? (i := 1166) (by decide +kernel)) (by decide +kernel), vTm (List.mem_of_getElem? (i := 89) (by decide +kernel)) (by decide +kernel), ⟨by decide +kernel, by decide +kernel, by decide +kernel⟩, by decide⟩, vTm (List.mem_of_getElem? (i := 1165) (by decide +kernel)) (by decide +kernel), vTm (List.mem_of_getElem? (i := 58) (by decide +kernel)) (by decide +kernel)⟩
set_option maxRecDepth 100000 in
theorem hfX8_famineNow : vMfV mX8_famineNow 0 := ⟨⟨by decide +kernel, vTm (List.mem_of_getElem? (i := 1162) (by decide +kernel)) (by decide +kernel), vTm (List.mem_of_getElem? (i := 89) (by decide +kernel)) (by decide +kernel), ⟨by decide +kernel, by decide +kernel, by decide +kernel⟩, by decide⟩, vTm (List.mem_of_getElem? (i := 1161) (by decide +kernel)) (by decide +kernel), vTm (List.mem_of_getElem? (i := 57) (by decide +kernel)) (by decide +kernel)⟩
set_option maxRecDepth 100000 in
theorem hfX8_famine : vMfV mX8_famine 0 := ⟨⟨by decide +kernel, vTm (List.mem_of_getElem? (i := 1158) (by decide +kernel)) (by decide +kernel), vTm (List.mem_of_getElem? (i := 89) (by decide +kernel)) (by decide +kernel), ⟨by decide +kernel, by decide +kernel, by decide +kernel⟩, by decide⟩, vTm (List.mem_of_getElem? (i := 1156) (by decide +kernel)) (by decide +kernel), vTm (List.mem_of_getElem? (i := 1157) (by decide +kernel)) (by decide +kernel)⟩
set_option maxRecDepth 100000 in
theorem hfX8_firstOf : vMfV mX8_firstOf 1 := ⟨⟨by decide +kernel, vTm (List.mem_of_getElem? (i := 1174) (by decide +kernel)) (by decide +kernel), vTm (List.mem_of_getElem? (i := 89) (by decide +kernel)) (by decide +kernel), ⟨by decide +kernel, by decide +kernel, by decide +kernel⟩, by decide⟩, vTm (List.mem_of_getElem? (i := 1173) (by decide +kernel)) (by decide +kernel), vTm (List.mem_of_getElem? (i := 59) (by decide +kernel)) (by decide +kernel)⟩
set_option maxRecDepth 100000 in
theorem hfX8_first : vMfV mX8_first 1 := ⟨⟨by decide +kernel, vTm (List.mem_of_getElem? (i := 1170) (by decide +kernel)) (by decide +kernel), vTm (List.mem_of_getElem? (i := 89) (by decide +kernel)) (by decide +kernel), ⟨by decide +kernel, by decide +kernel, by decide +kernel⟩, by decide⟩, vTm (List.mem_of_getElem? (i := 1168) (by decide +kernel)) (by decide +kernel), vTm (List.mem_of_getElem? (i := 1169) (by decide +kernel)) (by decide +kernel)⟩
set_option maxRecDepth 100000 in
theorem hfX8_greedyNow : vMfV mX8_greedyNow 0 := ⟨⟨by decide +kernel, vTm (List.mem_of_getElem? (i := 1182) (by decide +kernel)) (by decide +kernel), vTm (List.mem_of_getElem? (i := 89) (by decide +kernel)) (by decide +kernel), ⟨by decide +kernel, by decide +kernel, by decide +kernel⟩, by decide⟩, vTm (List.mem_of_getElem? (i := 1181) (by decide +kernel)) (by decide +kernel), vTm (List.mem_of_getElem? (i := 60) (by decide +kernel)) (by decide +kernel)⟩
set_option maxRecDepth 100000 in
theorem hfX8_greedy : vMfV mX8_greedy 0 := ⟨⟨by decide +kernel, vTm (List.mem_of_getElem? (i := 1178) (by decide +kernel)) (by decide +kernel), vTm (List.mem_of_getElem? (i := 89) (by decide +kernel)) (by decide +kernel), ⟨by decide +kernel, by decide +kernel, by decide +kernel⟩, by decide⟩, vTm (List.mem_of_getElem? (i := 1176) (by decide +kernel)) (by decide +kernel), vTm (List.mem_of_getElem? (i := 1177) (by decide +kernel)) (by decide +kernel)⟩
set_option maxRecDepth 100000 in
theorem hfX8_sendOf : vMfV mX8_sendOf 2 := ⟨⟨by decide +kernel, vTm (List.mem_of_getElem? (i := 1190) (by decide +kernel)) (by decide +kernel), vTm (List.mem_of_getElem? (i := 89) (by decide +kernel)) (by decide +kernel), ⟨by decide +kernel, by decide +kernel, by decide +kernel⟩, by decide⟩, vTm (List.mem_of_getElem? (i := 1189) (by decide +kernel)) (by decide +kernel), vTm (List.mem_of_getElem? (i := 61) (by decide +kernel)) (by decide +kernel)⟩
set_option maxRecDepth 100000 in
theorem hfX8_send : vMfV mX8_send 2 := ⟨⟨by decide +kernel, vTm (List.mem_of_getElem? (i := 1186) (by decide +kernel)) (by decide +kernel), vTm (List.mem_of_getElem? (i := 89) (by decide +kernel)) (by decide +kernel), ⟨by decide +kernel, by decide +kernel, by decide +kernel⟩, by decide⟩, vTm (List.mem_of_getElem? (i := 1184) (by decide +kernel)) (by decide +kernel), vTm (List.mem_of_getElem? (i := 1185) (by decide +kernel)) (by decide +kernel)⟩
set_option maxRecDepth 100000 in
theorem hfX8_loafOf : vMfV mX8_loafOf 2 := ⟨⟨by decide +kernel, vTm (List.mem_of_getElem? (i := 1198) (by decide +kernel)) (by decide +kernel), vTm (List.mem_of_getElem? (i := 89) (by decide +kernel)) (by decide +kernel), ⟨by decide +kernel, by decide +kernel, by decide +kernel⟩, by decide⟩, vTm (List.mem_of_getElem? (i := 1197) (by decide +kernel)) (by decide +kernel), vTm (List.mem_of_getElem? (i := 62) (by decide +kernel)) (by decide +kernel)⟩
set_option maxRecDepth 100000 in
theorem hfX8_loaf : vMfV mX8_loaf 2 := ⟨⟨by decide +kernel, vTm (List.mem_of_getElem? (i := 1194) (by decide +kernel)) (by decide +kernel), vTm (List.mem_of_getElem? (i := 89) (by decide +kernel)) (by decide +kernel), ⟨by decide +kernel, by decide +kernel, by decide +kernel⟩, by decide⟩, vTm (List.mem_of_getElem? (i := 1192) (by decide +kernel)) (by decide +kernel), vTm (List.mem_of_getElem? (i := 1193) (by decide +kernel)) (by decide +kernel)⟩
set_option maxRecDepth 100000 in
theorem hfX8_isKept : vMfV mX8_isKept 2 := ⟨⟨by decide +kernel, vTm (List.mem_of_getElem? (i := 1210) (by decide +kernel)) (by decide +kernel), vTm (List.mem_of_getElem? (i := 89) (by decide +kernel)) (by decide +kernel), ⟨by decide +kernel, by decide +kernel, by decide +kernel⟩, by decide⟩, vTm (List.mem_of_getElem? (i := 1209) (by decide +kernel)) (by decide +kernel), vTm (List.mem_of_getElem? (i := 64) (by decide +kernel)) (by decide +kernel)⟩
set_option maxRecDepth 100000 in
theorem hfX8_feedBy : vMfV mX8_feedBy 1 := ⟨⟨by decide +kernel, vTm (List.mem_of_getElem? (i := 1206) (by decide +kernel)) (by decide +kernel), vTm (List.mem_of_getElem? (i := 89) (by decide +kernel)) (by decide +kernel), ⟨by decide +kernel, by decide +kernel, by decide +kernel⟩, by decide⟩, vTm (List.mem_of_getElem? (i := 1205) (by decide +kernel)) (by decide +kernel), vTm (List.mem_of_getElem? (i := 63) (by decide +kernel)) (by decide +kernel)⟩
set_option maxRecDepth 100000 in
theorem hfX8_ofRow : vMfV mX8_ofRow 2 := ⟨⟨by decide +kernel, vTm (List.mem_of_getElem? (i := 1214) (by decide +kernel)) (by decide +kernel), vTm (List.mem_of_getElem? (i := 89) (by decide +kernel)) (by decide +kernel), ⟨by decide +kernel, by decide +kernel, by decide +kernel⟩, by decide⟩, vTm (List.mem_of_getElem? (i := 1213) (by decide +kernel)) (by decide +kernel), vTm (List.mem_of_getElem? (i := 65) (by decide +kernel)) (by decide +kernel)⟩
set_option maxRecDepth 100000 in
theorem hfX8_feed : vMfV mX8_feed 2 := ⟨⟨by decide +kernel, vTm (List.mem_of_getElem? (i := 1202) (by decide +kernel)) (by decide +kernel), vTm (List.mem_of_getElem? (i := 89) (by decide +kernel)) (by decide +kernel), ⟨by decide +kernel, by decide +kernel, by decide +kernel⟩, by decide⟩, vTm (List.mem_of_getElem? (i := 1200) (by decide +kernel)) (by decide +kernel), vTm (List.mem_of_getElem? (i := 1201) (by decide +kernel)) (by decide +kernel)⟩
set_option maxRecDepth 100000 in
theorem hfX8_stillOf : vMfV mX8_stillOf 1 := ⟨⟨by decide +kernel, vTm (List.mem_of_getElem? (i := 1222) (by decide +kernel)) (by decide +kernel), vTm (List.mem_of_getElem? (i := 89) (by decide +kernel)) (by decide +kernel), ⟨by decide +kernel, by decide +kernel, by decide +kernel⟩, by decide⟩, vTm (List.mem_of_getElem? (i := 1221) (by decide +kernel)) (by decide +kernel), vTm (List.mem_of_getElem? (i := 66) (by decide +kernel)) (by decide +kernel)⟩
set_option maxRecDepth 100000 in
theorem hfX8_still : vMfV mX8_still 1 := ⟨⟨by decide +kernel, vTm (List.mem_of_getElem? (i := 1218) (by decide +kernel)) (by decide +kernel), vTm (List.mem_of_getElem? (i := 89) (by decide +kernel)) (by decide +kernel), ⟨by decide +kernel, by decide +kernel, by decide +kernel⟩, by decide⟩, vTm (List.mem_of_getElem? (i := 1216) (by decide +kernel)) (by decide +kernel), vTm (List.mem_of_getElem? (i := 1217) (by decide +kernel)) (by decide +kernel)⟩
set_option maxRecDepth 100000 in
theorem hfX8_seen : vMfV mX8_seen 3 := ⟨⟨by decide +kernel, vTm (List.mem_of_getElem? (i := 1226) (by decide +kernel)) (by decide +kernel), vTm (List.mem_of_getElem? (i := 89) (by decide +kernel)) (by decide +kernel), ⟨by decide +kernel, by decide +kernel, by decide +kernel⟩, by decide⟩, vTm (List.mem_of_getElem? (i := 1224) (by decide +kernel)) (by decide +kernel), vTm (List.mem_of_getElem? (i := 1225) (by decide +kernel)) (by decide +kernel)⟩
set_option maxRecDepth 100000 in
theorem hfX8_forget : vMfV mX8_forget 0 := ⟨⟨by decide +kernel, vTm (List.mem_of_getElem? (i := 1230) (by decide +kernel)) (by decide +kernel), vTm (List.mem_of_getElem? (i := 89) (by decide +kernel)) (by decide +kernel), ⟨by decide +kernel, by decide +kernel, by decide +kernel⟩, by decide⟩, vTm (List.mem_of_getElem? (i := 1228) (by decide +kernel)) (by decide +kernel), vTm (List.mem_of_getElem? (i := 1229) (by decide +kernel)) (by decide +kernel)⟩
set_option maxRecDepth 100000 in
theorem hfX8_isSeen : vMfV mX8_isSeen 0 := ⟨⟨by decide +kernel, vTm (List.mem_of_getElem? (i := 1242) (by decide +kernel)) (by decide +kernel), vTm (List.mem_of_getElem? (i := 89) (by decide +kernel)) (by decide +kernel), ⟨by decide +kernel, by decide +kernel, by decide +kernel⟩, by decide⟩, vTm (List.mem_of_getElem? (i := 1241) (by decide +kernel)) (by decide +kernel), vTm (List.mem_of_getElem? (i := 68) (by decide +kernel)) (by decide +kernel)⟩
set_option maxRecDepth 100000 in
theorem hfX8_neverNow : vMfV mX8_neverNow 0 := ⟨⟨by decide +kernel, vTm (List.mem_of_getElem? (i := 1238) (by decide +kernel)) (by decide +kernel), vTm (List.mem_of_getElem? (i := 89) (by decide +kernel)) (by decide +kernel), ⟨by decide +kernel, by decide +kernel, by decide +kernel⟩, by decide⟩, vTm (List.mem_of_getElem? (i := 1237) (by decide +kernel)) (by decide +kernel), vTm (List.mem_of_getElem? (i := 67) (by decide +kernel)) (by decide +kernel)⟩
set_option maxRecDepth 100000 in
theorem hfX8_never : vMfV mX8_never 0 := ⟨⟨by decide +kernel, vTm (List.mem_of_getElem? (i := 1234) (by decide +kernel)) (by decide +kernel), vTm (List.mem_of_getElem? (i := 89) (by decide +kernel)) (by decide +kernel), ⟨by decide +kernel, by decide +kernel, by decide +kernel⟩, by decide⟩, vTm (List.mem_of_getElem? (i := 1232) (by decide +kernel)) (by decide +kernel), vTm (List.mem_of_getElem? (i := 1233) (by decide +kernel)) (by decide +kernel)⟩
set_option maxRecDepth 100000 in
theorem hfX8_wasOf : vMfV mX8_wasOf 2 := ⟨⟨by decide +kernel, vTm (List.mem_of_getElem? (i := 1250) (by decide +kernel)) (by decide +kernel), vTm (List.mem_of_getElem? (i := 89) (by decide +kernel)) (by decide +kernel), ⟨by decide +kernel, by decide +kernel, by decide +kernel⟩, by decide⟩, vTm (List.mem_of_getElem? (i := 1249) (by decide +kernel)) (by decide +kernel), vTm (List.mem_of_getElem? (i := 69) (by decide +kernel)) (by decide +kernel)⟩
set_option maxRecDepth 100000 in
theorem hfX8_was : vMfV mX8_was 2 := ⟨⟨by decide +kernel, vTm (List.mem_of_getElem? (i := 1246) (by decide +kernel)) (by decide +kernel), vTm (List.mem_of_getElem? (i := 89) (by decide +kernel)) (by decide +kernel), ⟨by decide +kernel, by decide +kernel, by decide +kernel⟩, by decide⟩, vTm (List.mem_of_getElem? (i := 1244) (by decide +kernel)) (by decide +kernel), vTm (List.mem_of_getElem? (i := 1245) (by decide +kernel)) (by decide +kernel)⟩
set_option maxRecDepth 100000 in
theorem hfX8_askOf : vMfV mX8_askOf 1 := ⟨⟨by decide +kernel, vTm (List.mem_of_getElem? (i := 1258) (by decide +kernel)) (by decide +kernel), vTm (List.mem_of_getElem? (i := 89) (by decide +kernel)) (by decide +kernel), ⟨by decide +kernel, by decide +kernel, by decide +kernel⟩, by decide⟩, vTm (List.mem_of_getElem? (i := 1257) (by decide +kernel)) (by decide +kernel), vTm (List.mem_of_getElem? (i := 70) (by decide +kernel)) (by decide +kernel)⟩
set_option maxRecDepth 100000 in
theorem hfX8_ask : vMfV mX8_ask 1 := ⟨⟨by decide +kernel, vTm (List.mem_of_getElem? (i := 1254) (by decide +kernel)) (by decide +kernel), vTm (List.mem_of_getElem? (i := 89) (by decide +kernel)) (by decide +kernel), ⟨by decide +kernel, by decide +kernel, by decide +kernel⟩, by decide⟩, vTm (List.mem_of_getElem? (i := 1252) (by decide +kernel)) (by decide +kernel), vTm (List.mem_of_getElem? (i := 1253) (by decide +kernel)) (by decide +kernel)⟩
set_option maxRecDepth 100000 in
theorem hfX8_gustOf : vMfV mX8_gustOf 4 := ⟨⟨by decide +kernel, vTm (List.mem_of_getElem? (i := 1266) (by decide +kernel)) (by decide +kernel), vTm (List.mem_of_getElem? (i := 89) (by decide +kernel)) (by decide +kernel), ⟨by decide +kernel, by decide +kernel, by decide +kernel⟩, by decide⟩, vTm (List.mem_of_getElem? (i := 1265) (by decide +kernel)) (by decide +kernel), vTm (List.mem_of_getElem? (i := 71) (by decide +kernel)) (by decide +kernel)⟩
set_option maxRecDepth 100000 in
theorem hfX8_gust : vMfV mX8_gust 4 := ⟨⟨by decide +kernel, vTm (List.mem_of_getElem? (i := 1262) (by decide +kernel)) (by decide +kernel), vTm (List.mem_of_getElem? (i := 89) (by decide +kernel)) (by decide +kernel), ⟨by decide +kernel, by decide +kernel, by decide +kernel⟩, by decide⟩, vTm (List.mem_of_getElem? (i := 1260) (by decide +kernel)) (by decide +kernel), vTm (List.mem_of_getElem? (i := 1261) (by decide +kernel)) (by decide +kernel)⟩
set_option maxRecDepth 100000 in
theorem hfX8_bitesAll : vMfV mX8_bitesAll 0 := ⟨⟨by decide +kernel, vTm (List.mem_of_getElem? (i := 1286) (by decide +kernel)) (by decide +kernel), vTm (List.mem_of_getElem? (i := 89) (by decide +kernel)) (by decide +kernel), ⟨by decide +kernel, by decide +kernel, by decide +kernel⟩, by decide⟩, vTm (List.mem_of_getElem? (i := 1285) (by decide +kernel)) (by decide +kernel), vTm (List.mem_of_getElem? (i := 73) (by decide +kernel)) (by decide +kernel)⟩
set_option maxRecDepth 100000 in
theorem hfX8_weekOf : vMfV mX8_weekOf 3 := ⟨⟨by decide +kernel, vTm (List.mem_of_getElem? (i := 1281) (by decide +kernel)) (by decide +kernel), vTm (List.mem_of_getElem? (i := 89) (by decide +kernel)) (by decide +kernel), ⟨by decide +kernel, by decide +kernel, by decide +kernel⟩, by decide⟩, vTm (List.mem_of_getElem? (i := 1280) (by decide +kernel)) (by decide +kernel), vTm (List.mem_of_getElem? (i := 72) (by decide +kernel)) (by decide +kernel)⟩
set_option maxRecDepth 100000 in
theorem hfX8_week : vMfV mX8_week 3 := ⟨⟨by decide +kernel, vTm (List.mem_of_getElem? (i := 1277) (by decide +kernel)) (by decide +kernel), vTm (List.mem_of_getElem? (i := 89) (by decide +kernel)) (by decide +kernel), ⟨by decide +kernel, by decide +kernel, by decide +kernel⟩, by decide⟩, vTm (List.mem_of_getElem? (i := 1275) (by decide +kernel)) (by decide +kernel), vTm (List.mem_of_getElem? (i := 1276) (by decide +kernel)) (by decide +kernel)⟩
set_option maxRecDepth 100000 in
theorem hfX8_meets : vMfV mX8_meets 1 := ⟨⟨by decide +kernel, vTm (List.mem_of_getElem? (i := 1079) (by decide +kernel)) (by decide +kernel), vTm (List.mem_of_getElem? (i := 89) (by decide +kernel)) (by decide +kernel), ⟨by decide +kernel, by decide +kernel, by decide +kernel⟩, by decide⟩, vTm (List.mem_of_getElem? (i := 1078) (by decide +kernel)) (by decide +kernel), vTm (List.mem_of_getElem? (i := 43) (by decide +kernel)) (by decide +kernel)⟩
set_option maxRecDepth 100000 in
theorem hfX8_isSheet : vMfS mX8_isSheet 1 := ⟨⟨by decide +kernel, vTm (List.mem_of_getElem? (i := 1075) (by decide +kernel)) (by decide +kernel), vTm (List.mem_of_getElem? (i := 89) (by decide +kernel)) (by decide +kernel), ⟨by decide +kernel, by decide +kernel, by decide +kernel⟩, by decide⟩, vTm (List.mem_of_getElem? (i := 1074) (by decide +kernel)) (by decide +kernel)⟩
set_option maxRecDepth 100000 in
theorem hfX8_sheet : vMfV mX8_sheet 3 := ⟨⟨by decide +kernel, vTm (List.mem_of_getElem? (i := 1290) (by decide +kernel)) (by decide +kernel), vTm (List.mem_of_getElem? (i := 89) (by decide +kernel)) (by decide +kernel), ⟨by decide +kernel, by decide +kernel, by decide +kernel⟩, by decide⟩, vTm (List.mem_of_getElem? (i := 1288) (by decide +kernel)) (by decide +kernel), vTm (List.mem_of_getElem? (i := 1289) (by decide +kernel)) (by decide +kernel)⟩
set_option maxRecDepth 100000 in
theorem hfX8_lose : vMfV mX8_lose 1 := ⟨⟨by decide +kernel, vTm (List.mem_of_getElem? (i := 1294) (by decide +kernel)) (by decide +kernel), vTm (List.mem_of_getElem? (i := 89) (by decide +kernel)) (by decide +kernel), ⟨by decide +kernel, by decide +kernel, by decide +kernel⟩, by decide⟩, vTm (List.mem_of_getElem? (i := 1292) (by decide +kernel)) (by decide +kernel), vTm (List.mem_of_getElem? (i := 1293) (by decide +kernel)) (by decide +kernel)⟩
set_option maxRecDepth 100000 in
theorem hfX8_lacks : vMfV mX8_lacks 3 := ⟨⟨by decide +kernel, vTm (List.mem_of_getElem? (i := 1302) (by decide +kernel)) (by decide +kernel), vTm (List.mem_of_getElem? (i := 89) (by decide +kernel)) (by decide +kernel), ⟨by decide +kernel, by decide +kernel, by decide +kernel⟩, by decide⟩, vTm (List.mem_of_getElem? (i := 1301) (by decide +kernel)) (by decide +kernel), vTm (List.mem_of_getElem? (i := 74) (by decide +kernel)) (by decide +kernel)⟩
set_option maxRecDepth 100000 in
theorem hfX8_keep : vMfV mX8_keep 3 := ⟨⟨by decide +kernel, vTm (List.mem_of_getElem? (i := 1306) (by decide +kernel)) (by decide +kernel), vTm (List.mem_of_getElem? (i := 89) (by decide +kernel)) (by decide +kernel), ⟨by decide +kernel, by decide +kernel, by decide +kernel⟩, by decide⟩, vTm (List.mem_of_getElem? (i := 1305) (by decide +kernel)) (by decide +kernel), vTm (List.mem_of_getElem? (i := 75) (by decide +kernel)) (by decide +kernel)⟩
set_option maxRecDepth 100000 in
theorem hfX8_put : vMfV mX8_put 4 := ⟨⟨by decide +kernel, vTm (List.mem_of_getElem? (i := 1298) (by decide +kernel)) (by decide +kernel), vTm (List.mem_of_getElem? (i := 89) (by decide +kernel)) (by decide +kernel), ⟨by decide +kernel, by decide +kernel, by decide +kernel⟩, by decide⟩, vTm (List.mem_of_getElem? (i := 1296) (by decide +kernel)) (by decide +kernel), vTm (List.mem_of_getElem? (i := 1297) (by decide +kernel)) (by decide +kernel)⟩
set_option maxRecDepth 100000 in
theorem hfX8_get : vMfV mX8_get 3 := ⟨⟨by decide +kernel, vTm (List.mem_of_getElem? (i := 1310) (by decide +kernel)) (by decide +kernel), vTm (List.mem_of_getElem? (i := 89) (by decide +kernel)) (by decide +kernel), ⟨by decide +kernel, by decide +kernel, by decide +kernel⟩, by decide⟩, vTm (List.mem_of_getElem? (i := 1308) (by decide +kernel)) (by decide +kernel), vTm (List.mem_of_getElem? (i := 1309) (by decide +kernel)) (by decide +kernel)⟩
set_option maxRecDepth 100000 in
theorem hfX8_copy : vMfV mX8_copy 5 := ⟨⟨by decide +kernel, vTm (List.mem_of_getElem? (i := 1315) (by decide +kernel)) (by decide +kernel), vTm (List.mem_of_getElem? (i := 89) (by decide +kernel)) (by decide +kernel), ⟨by decide +kernel, by decide +kernel, by decide +kernel⟩, by decide⟩, vTm (List.mem_of_getElem? (i := 1313) (by decide +kernel)) (by decide +kernel), vTm (List.mem_of_getElem? (i := 1314) (by decide +kernel)) (by decide +kernel)⟩
set_option maxRecDepth 100000 in
theorem hfX8_write : vMfV mX8_write 2 := ⟨⟨by decide +kernel, vTm (List.mem_of_getElem? (i := 1319) (by decide +kernel)) (by decide +kernel), vTm (List.mem_of_getElem? (i := 89) (by decide +kernel)) (by decide +kernel), ⟨by decide +kernel, by decide +kernel, by decide +kernel⟩, by decide⟩, vTm (List.mem_of_getElem? (i := 1317) (by decide +kernel)) (by decide +kernel), vTm (List.mem_of_getElem? (i := 1318) (by decide +kernel)) (by decide +kernel)⟩
set_option maxRecDepth 100000 in
theorem hfX8_sumOf : vMfV mX8_sumOf 1 := ⟨⟨by decide +kernel, vTm (List.mem_of_getElem? (i := 1327) (by decide +kernel)) (by decide +kernel), vTm (List.mem_of_getElem? (i := 89) (by decide +kernel)) (by decide +kernel), ⟨by decide +kernel, by decide +kernel, by decide +kernel⟩, by decide⟩, vTm (List.mem_of_getElem? (i := 1326) (by decide +kernel)) (by decide +kernel), vTm (List.mem_of_getElem? (i := 76) (by decide +kernel)) (by decide +kernel)⟩
set_option maxRecDepth 100000 in
theorem hfX8_count : vMfV mX8_count 1 := ⟨⟨by decide +kernel, vTm (List.mem_of_getElem? (i := 1323) (by decide +kernel)) (by decide +kernel), vTm (List.mem_of_getElem? (i := 89) (by decide +kernel)) (by decide +kernel), ⟨by decide +kernel, by decide +kernel, by decide +kernel⟩, by decide⟩, vTm (List.mem_of_getElem? (i := 1321) (by decide +kernel)) (by decide +kernel), vTm (List.mem_of_getElem? (i := 1322) (by decide +kernel)) (by decide +kernel)⟩
set_option maxRecDepth 100000 in
theorem hfX8_floorDigest : vMfV mX8_floorDigest 2 := ⟨⟨by decide +kernel, vTm (List.mem_of_getElem? (i := 1338) (by decide +kernel)) (by decide +kernel), vTm (List.mem_of_getElem? (i := 89) (by decide +kernel)) (by decide +kernel), ⟨by decide +kernel, by decide +kernel, by decide +kernel⟩, by decide⟩, vTm (List.mem_of_getElem? (i := 1337) (by decide +kernel)) (by decide +kernel), vTm (List.mem_of_getElem? (i := 77) (by decide +kernel)) (by decide +kernel)⟩
set_option maxRecDepth 100000 in
theorem hfX8_hourDigest : vMfV mX8_hourDigest 3 := ⟨⟨by decide +kernel, vTm (List.mem_of_getElem? (i := 1346) (by decide +kernel)) (by decide +kernel), vTm (List.mem_of_getElem? (i := 89) (by decide +kernel)) (by decide +kernel), ⟨by decide +kernel, by decide +kernel, by decide +kernel⟩, by decide⟩, vTm (List.mem_of_getElem? (i := 1345) (by decide +kernel)) (by decide +kernel), vTm (List.mem_of_getElem? (i := 79) (by decide +kernel)) (by decide +kernel)⟩
set_option maxRecDepth 100000 in
theorem hfX8_basketDigest : vMfV mX8_basketDigest 2 := ⟨⟨by decide +kernel, vTm (List.mem_of_getElem? (i := 1342) (by decide +kernel)) (by decide +kernel), vTm (List.mem_of_getElem? (i := 89) (by decide +kernel)) (by decide +kernel), ⟨by decide +kernel, by decide +kernel, by decide +kernel⟩, by decide⟩, vTm (List.mem_of_getElem? (i := 1341) (by decide +kernel)) (by decide +kernel), vTm (List.mem_of_getElem? (i := 78) (by decide +kernel)) (by decide +kernel)⟩
set_option maxRecDepth 100000 in
theorem hfX8_digest : vMfV mX8_digest 0 := ⟨⟨by decide +kernel, vTm (List.mem_of_getElem? (i := 1331) (by decide +kernel)) (by decide +kernel), vTm (List.mem_of_getElem? (i := 89) (by decide +kernel)) (by decide +kernel), ⟨by decide +kernel, by decide +kernel, by decide +kernel⟩, by decide⟩, vTm (List.mem_of_getElem? (i := 1329) (by decide +kernel)) (by decide +kernel), vTm (List.mem_of_getElem? (i := 1330) (by decide +kernel)) (by decide +kernel)⟩
set_option maxRecDepth 100000 in
theorem flX4_13 : vFL RX4 13 4 0 := fun C T N hc => by
  cases hc
  exact ⟨by decide, Or.inl (vTm (List.mem_of_getElem? (i := 106) (by decide +kernel)) (by decide +kernel))⟩
set_option maxRecDepth 100000 in
theorem flX5_61 : vFL RX5 61 4 0 := fun C T N hc => by
  cases hc
  exact ⟨by decide, Or.inl (vTm (List.mem_of_getElem? (i := 107) (by decide +kernel)) (by decide +kernel))⟩
set_option maxRecDepth 100000 in
theorem flX4_7 : vFL RX4 7 4 1 := fun C T N hc => by
  cases hc
  exact ⟨by decide, Or.inl (vTm (List.mem_of_getElem? (i := 108) (by decide +kernel)) (by decide +kernel))⟩
set_option maxRecDepth 100000 in
theorem fpX4_7 : vFP RX4 7 4 1 := fun C T N hc => by
  cases hc
  exact ⟨by decide, rfl, vTm (List.mem_of_getElem? (i := 108) (by decide +kernel)) (by decide +kernel)⟩
set_option maxRecDepth 100000 in
theorem flX5_56 : vFL RX5 56 4 1 := fun C T N hc => by
  cases hc
  exact ⟨by decide, Or.inl (vTm (List.mem_of_getElem? (i := 109) (by decide +kernel)) (by decide +kernel))⟩
set_option maxRecDepth 100000 in
theorem fpX5_56 : vFP RX5 56 4 1 := fun C T N hc => by
  cases hc
  exact ⟨by decide, rfl, vTm (List.mem_of_getElem? (i := 109) (by decide +kernel)) (by decide +kernel)⟩
set_option maxRecDepth 100000 in
theorem flX7_104 : vFL RX7 104 4 1 := fun C T N hc => by
  cases hc
  exact ⟨by decide, Or.inl (vTm (List.mem_of_getElem? (i := 110) (by decide +kernel)) (by decide +kernel))⟩
set_option maxRecDepth 100000 in
theorem fpX7_104 : vFP RX7 104 4 1 := fun C T N hc => by
  cases hc
  exact ⟨by decide, rfl, vTm (List.mem_of_getElem? (i := 110) (by decide +kernel)) (by decide +kernel)⟩
set_option maxRecDepth 100000 in
theorem flX5_9 : vFL RX5 9 5 0 := fun C T N hc => by
  cases hc
  exact ⟨by decide, Or.inl (vTm (List.mem_of_getElem? (i := 123) (by decide +kernel)) (by decide +kernel))⟩
set_option maxRecDepth 100000 in
theorem fpX5_9 : vFP RX5 9 5 0 := fun C T N hc => by
  cases hc
  exact ⟨by decide, rfl, vTm (List.mem_of_getElem? (i := 123) (by decide +kernel)) (by decide +kernel)⟩
set_option maxRecDepth 100000 in
theorem flX6_100 : vFL RX6 100 5 0 := fun C T N hc => by
  cases hc
  exact ⟨by decide, Or.inl (vTm (List.mem_of_getElem? (i := 124) (by decide +kernel)) (by decide +kernel))⟩
set_option maxRecDepth 100000 in
theorem fpX6_100 : vFP RX6 100 5 0 := fun C T N hc => by
  cases hc
  exact ⟨by decide, rfl, vTm (List.mem_of_getElem? (i := 124) (by decide +kernel)) (by decide +kernel)⟩
set_option maxRecDepth 100000 in
theorem flX7_217 : vFL RX7 217 5 0 := fun C T N hc => by
  cases hc
  exact ⟨by decide, Or.inl (vTm (List.mem_of_getElem? (i := 125) (by decide +kernel)) (by decide +kernel))⟩
set_option maxRecDepth 100000 in
theorem fpX7_217 : vFP RX7 217 5 0 := fun C T N hc => by
  cases hc
  exact ⟨by decide, rfl, vTm (List.mem_of_getElem? (i := 125) (by decide +kernel)) (by decide +kernel)⟩
set_option maxRecDepth 100000 in
theorem flX5_15 : vFL RX5 15 5 1 := fun C T N hc => by
  cases hc
  exact ⟨by decide, Or.inl (vTm (List.mem_of_getElem? (i := 126) (by decide +kernel)) (by decide +kernel))⟩
set_option maxRecDepth 100000 in
theorem fpX5_15 : vFP RX5 15 5 1 := fun C T N hc => by
  cases hc
  exact ⟨by decide, rfl, vTm (List.mem_of_getElem? (i := 126) (by decide +kernel)) (by decide +kernel)⟩
set_option maxRecDepth 100000 in
theorem flX7_107 : vFL RX7 107 5 1 := fun C T N hc => by
  cases hc
  exact ⟨by decide, Or.inl (vTm (List.mem_of_getElem? (i := 127) (by decide +kernel)) (by decide +kernel))⟩
set_option maxRecDepth 100000 in
theorem fpX7_107 : vFP RX7 107 5 1 := fun C T N hc => by
  cases hc
  exact ⟨by decide, rfl, vTm (List.mem_of_getElem? (i := 127) (by decide +kernel)) (by decide +kernel)⟩
set_option maxRecDepth 100000 in
theorem flX5_18 : vFL RX5 18 5 2 := fun C T N hc => by
  cases hc
  exact ⟨by decide, Or.inl (vTm (List.mem_of_getElem? (i := 128) (by decide +kernel)) (by decide +kernel))⟩
set_option maxRecDepth 100000 in
theorem flX6_106 : vFL RX6 106 5 2 := fun C T N hc => by
  cases hc
  exact ⟨by decide, Or.inl (vTm (List.mem_of_getElem? (i := 129) (by decide +kernel)) (by decide +kernel))⟩
set_option maxRecDepth 100000 in
theorem flX7_116 : vFL RX7 116 5 2 := fun C T N hc => by
  cases hc
  exact ⟨by decide, Or.inl (vTm (List.mem_of_getElem? (i := 130) (by decide +kernel)) (by decide +kernel))⟩
set_option maxRecDepth 100000 in
theorem flX5_22 : vFL RX5 22 5 3 := fun C T N hc => by
  cases hc
  exact ⟨by decide, Or.inl (vTm (List.mem_of_getElem? (i := 131) (by decide +kernel)) (by decide +kernel))⟩
set_option maxRecDepth 100000 in
theorem flX6_120 : vFL RX6 120 5 3 := fun C T N hc => by
  cases hc
  exact ⟨by decide, Or.inl (vTm (List.mem_of_getElem? (i := 132) (by decide +kernel)) (by decide +kernel))⟩
set_option maxRecDepth 100000 in
theorem flX7_119 : vFL RX7 119 5 3 := fun C T N hc => by
  cases hc
  exact ⟨by decide, Or.inl (vTm (List.mem_of_getElem? (i := 133) (by decide +kernel)) (by decide +kernel))⟩
set_option maxRecDepth 100000 in
theorem flX5_25 : vFL RX5 25 5 4 := fun C T N hc => by
  cases hc
  exact ⟨by decide, Or.inl (vTm (List.mem_of_getElem? (i := 134) (by decide +kernel)) (by decide +kernel))⟩
set_option maxRecDepth 100000 in
theorem flX7_122 : vFL RX7 122 5 4 := fun C T N hc => by
  cases hc
  exact ⟨by decide, Or.inl (vTm (List.mem_of_getElem? (i := 135) (by decide +kernel)) (by decide +kernel))⟩
set_option maxRecDepth 100000 in
theorem flX6_122 : vFL RX6 122 5 4 := fun C T N hc => by
  cases hc
  exact ⟨by decide, Or.inl (vTm (List.mem_of_getElem? (i := 136) (by decide +kernel)) (by decide +kernel))⟩
set_option maxRecDepth 100000 in
theorem flX5_28 : vFL RX5 28 5 5 := fun C T N hc => by
  cases hc
  exact ⟨by decide, Or.inl (vTm (List.mem_of_getElem? (i := 137) (by decide +kernel)) (by decide +kernel))⟩
set_option maxRecDepth 100000 in
theorem fpX5_28 : vFP RX5 28 5 5 := fun C T N hc => by
  cases hc
  exact ⟨by decide, rfl, vTm (List.mem_of_getElem? (i := 137) (by decide +kernel)) (by decide +kernel)⟩
set_option maxRecDepth 100000 in
theorem flX6_82 : vFL RX6 82 5 5 := fun C T N hc => by
  cases hc
  exact ⟨by decide, Or.inl (vTm (List.mem_of_getElem? (i := 138) (by decide +kernel)) (by decide +kernel))⟩
set_option maxRecDepth 100000 in
theorem fpX6_82 : vFP RX6 82 5 5 := fun C T N hc => by
  cases hc
  exact ⟨by decide, rfl, vTm (List.mem_of_getElem? (i := 138) (by decide +kernel)) (by decide +kernel)⟩
set_option maxRecDepth 100000 in
theorem flX3_31 : vFL RX3 31 5 5 := fun C T N hc => by
  cases hc
  exact ⟨by decide, Or.inl (vTm (List.mem_of_getElem? (i := 139) (by decide +kernel)) (by decide +kernel))⟩
set_option maxRecDepth 100000 in
theorem fpX3_31 : vFP RX3 31 5 5 := fun C T N hc => by
  cases hc
  exact ⟨by decide, rfl, vTm (List.mem_of_getElem? (i := 139) (by decide +kernel)) (by decide +kernel)⟩
set_option maxRecDepth 100000 in
theorem flX7_268 : vFL RX7 268 5 5 := fun C T N hc => by
  cases hc
  exact ⟨by decide, Or.inl (vTm (List.mem_of_getElem? (i := 140) (by decide +kernel)) (by decide +kernel))⟩
set_option maxRecDepth 100000 in
theorem fpX7_268 : vFP RX7 268 5 5 := fun C T N hc => by
  cases hc
  exact ⟨by decide, rfl, vTm (List.mem_of_getElem? (i := 140) (by decide +kernel)) (by decide +kernel)⟩
set_option maxRecDepth 100000 in
theorem flX5_31 : vFL RX5 31 5 6 := fun C T N hc => by
  cases hc
  exact ⟨by decide, Or.inl (vTm (List.mem_of_getElem? (i := 141) (by decide +kernel)) (by decide +kernel))⟩
set_option maxRecDepth 100000 in
theorem fpX5_31 : vFP RX5 31 5 6 := fun C T N hc => by
  cases hc
  exact ⟨by decide, rfl, vTm (List.mem_of_getElem? (i := 141) (by decide +kernel)) (by decide +kernel)⟩
set_option maxRecDepth 100000 in
theorem flX7_110 : vFL RX7 110 5 6 := fun C T N hc => by
  cases hc
  exact ⟨by decide, Or.inl (vTm (List.mem_of_getElem? (i := 142) (by decide +kernel)) (by decide +kernel))⟩
set_option maxRecDepth 100000 in
theorem fpX7_110 : vFP RX7 110 5 6 := fun C T N hc => by
  cases hc
  exact ⟨by decide, rfl, vTm (List.mem_of_getElem? (i := 142) (by decide +kernel)) (by decide +kernel)⟩
set_option maxRecDepth 100000 in
theorem flX5_34 : vFL RX5 34 5 7 := fun C T N hc => by
  cases hc
  exact ⟨by decide, Or.inl (vTm (List.mem_of_getElem? (i := 143) (by decide +kernel)) (by decide +kernel))⟩
set_option maxRecDepth 100000 in
theorem flX6_103 : vFL RX6 103 5 7 := fun C T N hc => by
  cases hc
  exact ⟨by decide, Or.inl (vTm (List.mem_of_getElem? (i := 144) (by decide +kernel)) (by decide +kernel))⟩
set_option maxRecDepth 100000 in
theorem flX7_128 : vFL RX7 128 5 7 := fun C T N hc => by
  cases hc
  exact ⟨by decide, Or.inl (vTm (List.mem_of_getElem? (i := 145) (by decide +kernel)) (by decide +kernel))⟩
set_option maxRecDepth 100000 in
theorem flX5_37 : vFL RX5 37 5 8 := fun C T N hc => by
  cases hc
  exact ⟨by decide, Or.inl (vTm (List.mem_of_getElem? (i := 146) (by decide +kernel)) (by decide +kernel))⟩
set_option maxRecDepth 100000 in
theorem flX6_87 : vFL RX6 87 5 8 := fun C T N hc => by
  cases hc
  exact ⟨by decide, Or.inl (vTm (List.mem_of_getElem? (i := 147) (by decide +kernel)) (by decide +kernel))⟩
set_option maxRecDepth 100000 in
theorem flX7_131 : vFL RX7 131 5 8 := fun C T N hc => by
  cases hc
  exact ⟨by decide, Or.inl (vTm (List.mem_of_getElem? (i := 148) (by decide +kernel)) (by decide +kernel))⟩
set_option maxRecDepth 100000 in
theorem flX5_40 : vFL RX5 40 5 9 := fun C T N hc => by
  cases hc
  exact ⟨by decide, Or.inl (vTm (List.mem_of_getElem? (i := 149) (by decide +kernel)) (by decide +kernel))⟩
set_option maxRecDepth 100000 in
theorem flX6_88 : vFL RX6 88 5 9 := fun C T N hc => by
  cases hc
  exact ⟨by decide, Or.inl (vTm (List.mem_of_getElem? (i := 150) (by decide +kernel)) (by decide +kernel))⟩
set_option maxRecDepth 100000 in
theorem flX7_134 : vFL RX7 134 5 9 := fun C T N hc => by
  cases hc
  exact ⟨by decide, Or.inl (vTm (List.mem_of_getElem? (i := 151) (by decide +kernel)) (by decide +kernel))⟩
set_option maxRecDepth 100000 in
theorem flX5_43 : vFL RX5 43 5 10 := fun C T N hc => by
  cases hc
  exact ⟨by decide, Or.inl (vTm (List.mem_of_getElem? (i := 152) (by decide +kernel)) (by decide +kernel))⟩
set_option maxRecDepth 100000 in
theorem flX6_91 : vFL RX6 91 5 10 := fun C T N hc => by
  cases hc
  exact ⟨by decide, Or.inl (vTm (List.mem_of_getElem? (i := 153) (by decide +kernel)) (by decide +kernel))⟩
set_option maxRecDepth 100000 in
theorem flX5_46 : vFL RX5 46 5 11 := fun C T N hc => by
  cases hc
  exact ⟨by decide, Or.inl (vTm (List.mem_of_getElem? (i := 154) (by decide +kernel)) (by decide +kernel))⟩
set_option maxRecDepth 100000 in
theorem fpX5_46 : vFP RX5 46 5 11 := fun C T N hc => by
  cases hc
  exact ⟨by decide, rfl, vTm (List.mem_of_getElem? (i := 154) (by decide +kernel)) (by decide +kernel)⟩
set_option maxRecDepth 100000 in
theorem flX6_117 : vFL RX6 117 5 11 := fun C T N hc => by
  cases hc
  exact ⟨by decide, Or.inl (vTm (List.mem_of_getElem? (i := 155) (by decide +kernel)) (by decide +kernel))⟩
set_option maxRecDepth 100000 in
theorem fpX6_117 : vFP RX6 117 5 11 := fun C T N hc => by
  cases hc
  exact ⟨by decide, rfl, vTm (List.mem_of_getElem? (i := 155) (by decide +kernel)) (by decide +kernel)⟩
set_option maxRecDepth 100000 in
theorem flX7_141 : vFL RX7 141 5 11 := fun C T N hc => by
  cases hc
  exact ⟨by decide, Or.inl (vTm (List.mem_of_getElem? (i := 156) (by decide +kernel)) (by decide +kernel))⟩
set_option maxRecDepth 100000 in
theorem fpX7_141 : vFP RX7 141 5 11 := fun C T N hc => by
  cases hc
  exact ⟨by decide, rfl, vTm (List.mem_of_getElem? (i := 156) (by decide +kernel)) (by decide +kernel)⟩
set_option maxRecDepth 100000 in
theorem flX5_49 : vFL RX5 49 5 12 := fun C T N hc => by
  cases hc
  exact ⟨by decide, Or.inl (vTm (List.mem_of_getElem? (i := 157) (by decide +kernel)) (by decide +kernel))⟩
set_option maxRecDepth 100000 in
theorem fpX5_49 : vFP RX5 49 5 12 := fun C T N hc => by
  cases hc
  exact ⟨by decide, rfl, vTm (List.mem_of_getElem? (i := 157) (by decide +kernel)) (by decide +kernel)⟩
set_option maxRecDepth 100000 in
theorem flX7_144 : vFL RX7 144 5 12 := fun C T N hc => by
  cases hc
  exact ⟨by decide, Or.inl (vTm (List.mem_of_getElem? (i := 158) (by decide +kernel)) (by decide +kernel))⟩
set_option maxRecDepth 100000 in
theorem fpX7_144 : vFP RX7 144 5 12 := fun C T N hc => by
  cases hc
  exact ⟨by decide, rfl, vTm (List.mem_of_getElem? (i := 158) (by decide +kernel)) (by decide +kernel)⟩
set_option maxRecDepth 100000 in
theorem flX6_129 : vFL RX6 129 5 12 := fun C T N hc => by
  cases hc
  exact ⟨by decide, Or.inl (vTm (List.mem_of_getElem? (i := 159) (by decide +kernel)) (by decide +kernel))⟩
set_option maxRecDepth 100000 in
theorem fpX6_129 : vFP RX6 129 5 12 := fun C T N hc => by
  cases hc
  exact ⟨by decide, rfl, vTm (List.mem_of_getElem? (i := 159) (by decide +kernel)) (by decide +kernel)⟩
set_option maxRecDepth 100000 in
theorem flX6_65 : vFL RX6 65 6 0 := fun C T N hc => by
  cases hc
  exact ⟨by decide, Or.inl (vTm (List.mem_of_getElem? (i := 193) (by decide +kernel)) (by decide +kernel))⟩
set_option maxRecDepth 100000 in
theorem flX3_25 : vFL RX3 25 6 0 := fun C T N hc => by
  cases hc
  exact ⟨by decide, Or.inr ⟨"BreadString", fun s h => h⟩⟩
set_option maxRecDepth 100000 in
theorem flX6_9 : vFL RX6 9 6 1 := fun C T N hc => by
  cases hc
  exact ⟨by decide, Or.inl (vTm (List.mem_of_getElem? (i := 195) (by decide +kernel)) (by decide +kernel))⟩
set_option maxRecDepth 100000 in
theorem fpX6_9 : vFP RX6 9 6 1 := fun C T N hc => by
  cases hc
  exact ⟨by decide, rfl, vTm (List.mem_of_getElem? (i := 195) (by decide +kernel)) (by decide +kernel)⟩
set_option maxRecDepth 100000 in
theorem flX6_15 : vFL RX6 15 6 2 := fun C T N hc => by
  cases hc
  exact ⟨by decide, Or.inl (vTm (List.mem_of_getElem? (i := 196) (by decide +kernel)) (by decide +kernel))⟩
set_option maxRecDepth 100000 in
theorem fpX6_15 : vFP RX6 15 6 2 := fun C T N hc => by
  cases hc
  exact ⟨by decide, rfl, vTm (List.mem_of_getElem? (i := 196) (by decide +kernel)) (by decide +kernel)⟩
set_option maxRecDepth 100000 in
theorem flX6_18 : vFL RX6 18 6 3 := fun C T N hc => by
  cases hc
  exact ⟨by decide, Or.inl (vTm (List.mem_of_getElem? (i := 197) (by decide +kernel)) (by decide +kernel))⟩
set_option maxRecDepth 100000 in
theorem flX7_177 : vFL RX7 177 6 3 := fun C T N hc => by
  cases hc
  exact ⟨by decide, Or.inl (vTm (List.mem_of_getElem? (i := 198) (by decide +kernel)) (by decide +kernel))⟩
set_option maxRecDepth 100000 in
theorem flX6_22 : vFL RX6 22 6 4 := fun C T N hc => by
  cases hc
  exact ⟨by decide, Or.inl (vTm (List.mem_of_getElem? (i := 199) (by decide +kernel)) (by decide +kernel))⟩
set_option maxRecDepth 100000 in
theorem flX7_180 : vFL RX7 180 6 4 := fun C T N hc => by
  cases hc
  exact ⟨by decide, Or.inl (vTm (List.mem_of_getElem? (i := 200) (by decide +kernel)) (by decide +kernel))⟩
set_option maxRecDepth 100000 in
theorem flX6_25 : vFL RX6 25 6 5 := fun C T N hc => by
  cases hc
  exact ⟨by decide, Or.inl (vTm (List.mem_of_getElem? (i := 201) (by decide +kernel)) (by decide +kernel))⟩
set_option maxRecDepth 100000 in
theorem flX7_183 : vFL RX7 183 6 5 := fun C T N hc => by
  cases hc
  exact ⟨by decide, Or.inl (vTm (List.mem_of_getElem? (i := 202) (by decide +kernel)) (by decide +kernel))⟩
set_option maxRecDepth 100000 in
theorem flX6_28 : vFL RX6 28 6 6 := fun C T N hc => by
  cases hc
  exact ⟨by decide, Or.inl (vTm (List.mem_of_getElem? (i := 203) (by decide +kernel)) (by decide +kernel))⟩
set_option maxRecDepth 100000 in
theorem flX7_192 : vFL RX7 192 6 6 := fun C T N hc => by
  cases hc
  exact ⟨by decide, Or.inl (vTm (List.mem_of_getElem? (i := 204) (by decide +kernel)) (by decide +kernel))⟩
set_option maxRecDepth 100000 in
theorem flX6_31 : vFL RX6 31 6 7 := fun C T N hc => by
  cases hc
  exact ⟨by decide, Or.inl (vTm (List.mem_of_getElem? (i := 205) (by decide +kernel)) (by decide +kernel))⟩
set_option maxRecDepth 100000 in
theorem flX6_34 : vFL RX6 34 6 8 := fun C T N hc => by
  cases hc
  exact ⟨by decide, Or.inl (vTm (List.mem_of_getElem? (i := 206) (by decide +kernel)) (by decide +kernel))⟩
set_option maxRecDepth 100000 in
theorem flX6_37 : vFL RX6 37 6 9 := fun C T N hc => by
  cases hc
  exact ⟨by decide, Or.inl (vTm (List.mem_of_getElem? (i := 207) (by decide +kernel)) (by decide +kernel))⟩
set_option maxRecDepth 100000 in
theorem flX6_40 : vFL RX6 40 6 10 := fun C T N hc => by
  cases hc
  exact ⟨by decide, Or.inl (vTm (List.mem_of_getElem? (i := 208) (by decide +kernel)) (by decide +kernel))⟩
set_option maxRecDepth 100000 in
theorem flX6_43 : vFL RX6 43 6 11 := fun C T N hc => by
  cases hc
  exact ⟨by decide, Or.inl (vTm (List.mem_of_getElem? (i := 209) (by decide +kernel)) (by decide +kernel))⟩
set_option maxRecDepth 100000 in
theorem flX6_46 : vFL RX6 46 6 12 := fun C T N hc => by
  cases hc
  exact ⟨by decide, Or.inl (vTm (List.mem_of_getElem? (i := 210) (by decide +kernel)) (by decide +kernel))⟩
set_option maxRecDepth 100000 in
theorem flX7_195 : vFL RX7 195 6 12 := fun C T N hc => by
  cases hc
  exact ⟨by decide, Or.inl (vTm (List.mem_of_getElem? (i := 211) (by decide +kernel)) (by decide +kernel))⟩
set_option maxRecDepth 100000 in
theorem flX6_49 : vFL RX6 49 6 13 := fun C T N hc => by
  cases hc
  exact ⟨by decide, Or.inl (vTm (List.mem_of_getElem? (i := 212) (by decide +kernel)) (by decide +kernel))⟩
set_option maxRecDepth 100000 in
theorem flX7_198 : vFL RX7 198 6 13 := fun C T N hc => by
  cases hc
  exact ⟨by decide, Or.inl (vTm (List.mem_of_getElem? (i := 213) (by decide +kernel)) (by decide +kernel))⟩
set_option maxRecDepth 100000 in
theorem flX6_52 : vFL RX6 52 6 14 := fun C T N hc => by
  cases hc
  exact ⟨by decide, Or.inl (vTm (List.mem_of_getElem? (i := 214) (by decide +kernel)) (by decide +kernel))⟩
set_option maxRecDepth 100000 in
theorem fpX6_52 : vFP RX6 52 6 14 := fun C T N hc => by
  cases hc
  exact ⟨by decide, rfl, vTm (List.mem_of_getElem? (i := 214) (by decide +kernel)) (by decide +kernel)⟩
set_option maxRecDepth 100000 in
theorem flX6_56 : vFL RX6 56 6 15 := fun C T N hc => by
  cases hc
  exact ⟨by decide, Or.inl (vTm (List.mem_of_getElem? (i := 215) (by decide +kernel)) (by decide +kernel))⟩
set_option maxRecDepth 100000 in
theorem fpX6_56 : vFP RX6 56 6 15 := fun C T N hc => by
  cases hc
  exact ⟨by decide, rfl, vTm (List.mem_of_getElem? (i := 215) (by decide +kernel)) (by decide +kernel)⟩
set_option maxRecDepth 100000 in
theorem flX7_284 : vFL RX7 284 6 15 := fun C T N hc => by
  cases hc
  exact ⟨by decide, Or.inl (vTm (List.mem_of_getElem? (i := 216) (by decide +kernel)) (by decide +kernel))⟩
set_option maxRecDepth 100000 in
theorem fpX7_284 : vFP RX7 284 6 15 := fun C T N hc => by
  cases hc
  exact ⟨by decide, rfl, vTm (List.mem_of_getElem? (i := 216) (by decide +kernel)) (by decide +kernel)⟩
set_option maxRecDepth 100000 in
theorem flX6_59 : vFL RX6 59 6 16 := fun C T N hc => by
  cases hc
  exact ⟨by decide, Or.inl (vTm (List.mem_of_getElem? (i := 217) (by decide +kernel)) (by decide +kernel))⟩
set_option maxRecDepth 100000 in
theorem fpX6_59 : vFP RX6 59 6 16 := fun C T N hc => by
  cases hc
  exact ⟨by decide, rfl, vTm (List.mem_of_getElem? (i := 217) (by decide +kernel)) (by decide +kernel)⟩
set_option maxRecDepth 100000 in
theorem flX7_208 : vFL RX7 208 6 16 := fun C T N hc => by
  cases hc
  exact ⟨by decide, Or.inl (vTm (List.mem_of_getElem? (i := 218) (by decide +kernel)) (by decide +kernel))⟩
set_option maxRecDepth 100000 in
theorem fpX7_208 : vFP RX7 208 6 16 := fun C T N hc => by
  cases hc
  exact ⟨by decide, rfl, vTm (List.mem_of_getElem? (i := 218) (by decide +kernel)) (by decide +kernel)⟩
set_option maxRecDepth 100000 in
theorem flX6_62 : vFL RX6 62 6 17 := fun C T N hc => by
  cases hc
  exact ⟨by decide, Or.inl (vTm (List.mem_of_getElem? (i := 219) (by decide +kernel)) (by decide +kernel))⟩
set_option maxRecDepth 100000 in
theorem fpX6_62 : vFP RX6 62 6 17 := fun C T N hc => by
  cases hc
  exact ⟨by decide, rfl, vTm (List.mem_of_getElem? (i := 219) (by decide +kernel)) (by decide +kernel)⟩
set_option maxRecDepth 100000 in
theorem flX7_211 : vFL RX7 211 6 17 := fun C T N hc => by
  cases hc
  exact ⟨by decide, Or.inl (vTm (List.mem_of_getElem? (i := 220) (by decide +kernel)) (by decide +kernel))⟩
set_option maxRecDepth 100000 in
theorem fpX7_211 : vFP RX7 211 6 17 := fun C T N hc => by
  cases hc
  exact ⟨by decide, rfl, vTm (List.mem_of_getElem? (i := 220) (by decide +kernel)) (by decide +kernel)⟩
set_option maxRecDepth 100000 in
theorem flX1_9 : vFL RX1 9 1 0 := fun C T N hc => by
  cases hc
  exact ⟨by decide, Or.inl (vTm (List.mem_of_getElem? (i := 264) (by decide +kernel)) (by decide +kernel))⟩
set_option maxRecDepth 100000 in
theorem flX1_15 : vFL RX1 15 1 1 := fun C T N hc => by
  cases hc
  exact ⟨by decide, Or.inl (vTm (List.mem_of_getElem? (i := 265) (by decide +kernel)) (by decide +kernel))⟩
set_option maxRecDepth 100000 in
theorem fpX1_15 : vFP RX1 15 1 1 := fun C T N hc => by
  cases hc
  exact ⟨by decide, rfl, vTm (List.mem_of_getElem? (i := 265) (by decide +kernel)) (by decide +kernel)⟩
set_option maxRecDepth 100000 in
theorem flX7_151 : vFL RX7 151 1 1 := fun C T N hc => by
  cases hc
  exact ⟨by decide, Or.inl (vTm (List.mem_of_getElem? (i := 266) (by decide +kernel)) (by decide +kernel))⟩
set_option maxRecDepth 100000 in
theorem fpX7_151 : vFP RX7 151 1 1 := fun C T N hc => by
  cases hc
  exact ⟨by decide, rfl, vTm (List.mem_of_getElem? (i := 266) (by decide +kernel)) (by decide +kernel)⟩
set_option maxRecDepth 100000 in
theorem flX3_9 : vFL RX3 9 3 0 := fun C T N hc => by
  cases hc
  exact ⟨by decide, Or.inl (vTm (List.mem_of_getElem? (i := 278) (by decide +kernel)) (by decide +kernel))⟩
set_option maxRecDepth 100000 in
theorem flX3_15 : vFL RX3 15 3 1 := fun C T N hc => by
  cases hc
  exact ⟨by decide, Or.inl (vTm (List.mem_of_getElem? (i := 279) (by decide +kernel)) (by decide +kernel))⟩
set_option maxRecDepth 100000 in
theorem flX3_18 : vFL RX3 18 3 2 := fun C T N hc => by
  cases hc
  exact ⟨by decide, Or.inl (vTm (List.mem_of_getElem? (i := 280) (by decide +kernel)) (by decide +kernel))⟩
set_option maxRecDepth 100000 in
theorem flX3_21 : vFL RX3 21 3 3 := fun C T N hc => by
  cases hc
  exact ⟨by decide, Or.inl (vTm (List.mem_of_getElem? (i := 281) (by decide +kernel)) (by decide +kernel))⟩
set_option maxRecDepth 100000 in
theorem fpX3_21 : vFP RX3 21 3 3 := fun C T N hc => by
  cases hc
  exact ⟨by decide, rfl, vTm (List.mem_of_getElem? (i := 281) (by decide +kernel)) (by decide +kernel)⟩
set_option maxRecDepth 100000 in
theorem flX7_253 : vFL RX7 253 3 3 := fun C T N hc => by
  cases hc
  exact ⟨by decide, Or.inl (vTm (List.mem_of_getElem? (i := 282) (by decide +kernel)) (by decide +kernel))⟩
set_option maxRecDepth 100000 in
theorem fpX7_253 : vFP RX7 253 3 3 := fun C T N hc => by
  cases hc
  exact ⟨by decide, rfl, vTm (List.mem_of_getElem? (i := 282) (by decide +kernel)) (by decide +kernel)⟩
set_option maxRecDepth 100000 in
theorem flX2_9 : vFL RX2 9 2 0 := fun C T N hc => by
  cases hc
  exact ⟨by decide, Or.inl (vTm (List.mem_of_getElem? (i := 298) (by decide +kernel)) (by decide +kernel))⟩
set_option maxRecDepth 100000 in
theorem flX7_301 : vFL RX7 301 2 0 := fun C T N hc => by
  cases hc
  exact ⟨by decide, Or.inl (vTm (List.mem_of_getElem? (i := 299) (by decide +kernel)) (by decide +kernel))⟩
set_option maxRecDepth 100000 in
theorem flX2_15 : vFL RX2 15 2 1 := fun C T N hc => by
  cases hc
  exact ⟨by decide, Or.inl (vTm (List.mem_of_getElem? (i := 300) (by decide +kernel)) (by decide +kernel))⟩
set_option maxRecDepth 100000 in
theorem flX7_161 : vFL RX7 161 2 1 := fun C T N hc => by
  cases hc
  exact ⟨by decide, Or.inl (vTm (List.mem_of_getElem? (i := 301) (by decide +kernel)) (by decide +kernel))⟩
set_option maxRecDepth 100000 in
theorem flX2_18 : vFL RX2 18 2 2 := fun C T N hc => by
  cases hc
  exact ⟨by decide, Or.inl (vTm (List.mem_of_getElem? (i := 302) (by decide +kernel)) (by decide +kernel))⟩
set_option maxRecDepth 100000 in
theorem flX7_307 : vFL RX7 307 2 2 := fun C T N hc => by
  cases hc
  exact ⟨by decide, Or.inl (vTm (List.mem_of_getElem? (i := 303) (by decide +kernel)) (by decide +kernel))⟩
set_option maxRecDepth 100000 in
theorem flX0_9 : vFL RX0 9 0 0 := fun C T N hc => by
  cases hc
  exact ⟨by decide, Or.inl (vTm (List.mem_of_getElem? (i := 317) (by decide +kernel)) (by decide +kernel))⟩
set_option maxRecDepth 100000 in
theorem fpX0_9 : vFP RX0 9 0 0 := fun C T N hc => by
  cases hc
  exact ⟨by decide, rfl, vTm (List.mem_of_getElem? (i := 317) (by decide +kernel)) (by decide +kernel)⟩
set_option maxRecDepth 100000 in
theorem flX7_224 : vFL RX7 224 0 0 := fun C T N hc => by
  cases hc
  exact ⟨by decide, Or.inl (vTm (List.mem_of_getElem? (i := 318) (by decide +kernel)) (by decide +kernel))⟩
set_option maxRecDepth 100000 in
theorem fpX7_224 : vFP RX7 224 0 0 := fun C T N hc => by
  cases hc
  exact ⟨by decide, rfl, vTm (List.mem_of_getElem? (i := 318) (by decide +kernel)) (by decide +kernel)⟩
set_option maxRecDepth 100000 in
theorem flX0_15 : vFL RX0 15 0 1 := fun C T N hc => by
  cases hc
  exact ⟨by decide, Or.inl (vTm (List.mem_of_getElem? (i := 319) (by decide +kernel)) (by decide +kernel))⟩
set_option maxRecDepth 100000 in
theorem fpX0_15 : vFP RX0 15 0 1 := fun C T N hc => by
  cases hc
  exact ⟨by decide, rfl, vTm (List.mem_of_getElem? (i := 319) (by decide +kernel)) (by decide +kernel)⟩
set_option maxRecDepth 100000 in
theorem flX7_230 : vFL RX7 230 0 1 := fun C T N hc => by
  cases hc
  exact ⟨by decide, Or.inl (vTm (List.mem_of_getElem? (i := 320) (by decide +kernel)) (by decide +kernel))⟩
set_option maxRecDepth 100000 in
theorem fpX7_230 : vFP RX7 230 0 1 := fun C T N hc => by
  cases hc
  exact ⟨by decide, rfl, vTm (List.mem_of_getElem? (i := 320) (by decide +kernel)) (by decide +kernel)⟩
set_option maxRecDepth 100000 in
theorem flX7_14 : vFL RX7 14 7 0 := fun C T N hc => by
  cases hc
  exact ⟨by decide, Or.inl (vTm (List.mem_of_getElem? (i := 326) (by decide +kernel)) (by decide +kernel))⟩
set_option maxRecDepth 100000 in
theorem flX7_18 : vFL RX7 18 7 1 := fun C T N hc => by
  cases hc
  exact ⟨by decide, Or.inl (vTm (List.mem_of_getElem? (i := 327) (by decide +kernel)) (by decide +kernel))⟩
set_option maxRecDepth 100000 in
theorem flX7_24 : vFL RX7 24 7 2 := fun C T N hc => by
  cases hc
  exact ⟨by decide, Or.inl (vTm (List.mem_of_getElem? (i := 328) (by decide +kernel)) (by decide +kernel))⟩
set_option maxRecDepth 100000 in
theorem flX7_33 : vFL RX7 33 7 3 := fun C T N hc => by
  cases hc
  exact ⟨by decide, Or.inl (vTm (List.mem_of_getElem? (i := 329) (by decide +kernel)) (by decide +kernel))⟩
set_option maxRecDepth 100000 in
theorem flX7_40 : vFL RX7 40 7 4 := fun C T N hc => by
  cases hc
  exact ⟨by decide, Or.inl (vTm (List.mem_of_getElem? (i := 330) (by decide +kernel)) (by decide +kernel))⟩
set_option maxRecDepth 100000 in
theorem flX7_44 : vFL RX7 44 7 5 := fun C T N hc => by
  cases hc
  exact ⟨by decide, Or.inl (vTm (List.mem_of_getElem? (i := 331) (by decide +kernel)) (by decide +kernel))⟩
set_option maxRecDepth 100000 in
theorem flX7_50 : vFL RX7 50 7 6 := fun C T N hc => by
  cases hc
  exact ⟨by decide, Or.inl (vTm (List.mem_of_getElem? (i := 332) (by decide +kernel)) (by decide +kernel))⟩
set_option maxRecDepth 100000 in
theorem flX7_57 : vFL RX7 57 7 7 := fun C T N hc => by
  cases hc
  exact ⟨by decide, Or.inl (vTm (List.mem_of_getElem? (i := 333) (by decide +kernel)) (by decide +kernel))⟩
set_option maxRecDepth 100000 in
theorem flX7_64 : vFL RX7 64 7 8 := fun C T N hc => by
  cases hc
  exact ⟨by decide, Or.inl (vTm (List.mem_of_getElem? (i := 334) (by decide +kernel)) (by decide +kernel))⟩
set_option maxRecDepth 100000 in
theorem flX7_68 : vFL RX7 68 7 9 := fun C T N hc => by
  cases hc
  exact ⟨by decide, Or.inl (vTm (List.mem_of_getElem? (i := 335) (by decide +kernel)) (by decide +kernel))⟩
set_option maxRecDepth 100000 in
theorem flX7_72 : vFL RX7 72 7 10 := fun C T N hc => by
  cases hc
  exact ⟨by decide, Or.inl (vTm (List.mem_of_getElem? (i := 336) (by decide +kernel)) (by decide +kernel))⟩
set_option maxRecDepth 100000 in
theorem fpX7_72 : vFP RX7 72 7 10 := fun C T N hc => by
  cases hc
  exact ⟨by decide, rfl, vTm (List.mem_of_getElem? (i := 336) (by decide +kernel)) (by decide +kernel)⟩
set_option maxRecDepth 100000 in
theorem flX7_76 : vFL RX7 76 7 11 := fun C T N hc => by
  cases hc
  exact ⟨by decide, Or.inl (vTm (List.mem_of_getElem? (i := 337) (by decide +kernel)) (by decide +kernel))⟩
set_option maxRecDepth 100000 in
theorem flX7_79 : vFL RX7 79 7 12 := fun C T N hc => by
  cases hc
  exact ⟨by decide, Or.inl (vTm (List.mem_of_getElem? (i := 338) (by decide +kernel)) (by decide +kernel))⟩
set_option maxRecDepth 100000 in
theorem fpX7_79 : vFP RX7 79 7 12 := fun C T N hc => by
  cases hc
  exact ⟨by decide, rfl, vTm (List.mem_of_getElem? (i := 338) (by decide +kernel)) (by decide +kernel)⟩
set_option maxRecDepth 100000 in
theorem flX7_83 : vFL RX7 83 7 13 := fun C T N hc => by
  cases hc
  exact ⟨by decide, Or.inl (vTm (List.mem_of_getElem? (i := 339) (by decide +kernel)) (by decide +kernel))⟩
set_option maxRecDepth 100000 in
theorem fpX7_83 : vFP RX7 83 7 13 := fun C T N hc => by
  cases hc
  exact ⟨by decide, rfl, vTm (List.mem_of_getElem? (i := 339) (by decide +kernel)) (by decide +kernel)⟩
set_option maxRecDepth 100000 in
theorem flX7_86 : vFL RX7 86 7 14 := fun C T N hc => by
  cases hc
  exact ⟨by decide, Or.inl (vTm (List.mem_of_getElem? (i := 340) (by decide +kernel)) (by decide +kernel))⟩
set_option maxRecDepth 100000 in
theorem fpX7_86 : vFP RX7 86 7 14 := fun C T N hc => by
  cases hc
  exact ⟨by decide, rfl, vTm (List.mem_of_getElem? (i := 340) (by decide +kernel)) (by decide +kernel)⟩
set_option maxRecDepth 100000 in
theorem lkX7_89 : Cond.methodLink RX7 89 yX7_isText ∈ vTbl := vTm (List.mem_of_getElem? (i := 376) (by decide +kernel)) (by decide +kernel)
set_option maxRecDepth 100000 in
theorem lkX7_93 : Cond.methodLink RX7 93 yX7_textOf ∈ vTbl := vTm (List.mem_of_getElem? (i := 379) (by decide +kernel)) (by decide +kernel)
set_option maxRecDepth 100000 in
theorem lkX7_97 : Cond.methodLink RX7 97 yX4_append ∈ vTbl := vTm (List.mem_of_getElem? (i := 383) (by decide +kernel)) (by decide +kernel)
set_option maxRecDepth 100000 in
theorem lkX7_100 : Cond.methodLink RX7 100 yX7_reread ∈ vTbl := vTm (List.mem_of_getElem? (i := 387) (by decide +kernel)) (by decide +kernel)
set_option maxRecDepth 100000 in
theorem lkX7_358 : Cond.methodLink RX7 358 yX5_readFloors ∈ vTbl := vTm (List.mem_of_getElem? (i := 391) (by decide +kernel)) (by decide +kernel)
set_option maxRecDepth 100000 in
theorem lkX5_52 : Cond.methodLink RX5 52 yX5_takeFloors ∈ vTbl := vTm (List.mem_of_getElem? (i := 395) (by decide +kernel)) (by decide +kernel)
set_option maxRecDepth 100000 in
theorem lkX5_64 : Cond.methodLink RX5 64 yX5_sortOf ∈ vTbl := vTm (List.mem_of_getElem? (i := 399) (by decide +kernel)) (by decide +kernel)
set_option maxRecDepth 100000 in
theorem lkX5_68 : Cond.methodLink RX5 68 yX5_isFigure ∈ vTbl := vTm (List.mem_of_getElem? (i := 402) (by decide +kernel)) (by decide +kernel)
set_option maxRecDepth 100000 in
theorem lkX5_72 : Cond.methodLink RX5 72 yX5_isLetter ∈ vTbl := vTm (List.mem_of_getElem? (i := 405) (by decide +kernel)) (by decide +kernel)
set_option maxRecDepth 100000 in
theorem lkX7_362 : Cond.methodLink RX7 362 yX5_readBaskets ∈ vTbl := vTm (List.mem_of_getElem? (i := 408) (by decide +kernel)) (by decide +kernel)
set_option maxRecDepth 100000 in
theorem lkX5_75 : Cond.methodLink RX5 75 yX5_takeBaskets ∈ vTbl := vTm (List.mem_of_getElem? (i := 412) (by decide +kernel)) (by decide +kernel)
set_option maxRecDepth 100000 in
theorem lkX5_78 : Cond.methodLink RX5 78 yX5_basketTakes ∈ vTbl := vTm (List.mem_of_getElem? (i := 416) (by decide +kernel)) (by decide +kernel)
set_option maxRecDepth 100000 in
theorem lkX5_82 : Cond.methodLink RX5 82 yX5_keepBasketByte ∈ vTbl := vTm (List.mem_of_getElem? (i := 420) (by decide +kernel)) (by decide +kernel)
set_option maxRecDepth 100000 in
theorem lkX7_113 : Cond.methodLink RX7 113 yX7_isFloor ∈ vTbl := vTm (List.mem_of_getElem? (i := 440) (by decide +kernel)) (by decide +kernel)
set_option maxRecDepth 100000 in
theorem lkX7_125 : Cond.methodLink RX7 125 yX7_isBasket ∈ vTbl := vTm (List.mem_of_getElem? (i := 448) (by decide +kernel)) (by decide +kernel)
set_option maxRecDepth 100000 in
theorem lkX7_137 : Cond.methodLink RX7 137 yX5_toldLetter ∈ vTbl := vTm (List.mem_of_getElem? (i := 452) (by decide +kernel)) (by decide +kernel)
set_option maxRecDepth 100000 in
theorem lkX7_147 : Cond.methodLink RX7 147 yX7_oneMore ∈ vTbl := vTm (List.mem_of_getElem? (i := 464) (by decide +kernel)) (by decide +kernel)
set_option maxRecDepth 100000 in
theorem lkX7_166 : Cond.methodLink RX7 166 yX7_isHour ∈ vTbl := vTm (List.mem_of_getElem? (i := 467) (by decide +kernel)) (by decide +kernel)
set_option maxRecDepth 100000 in
theorem lkX7_365 : Cond.methodLink RX7 365 yX1_add ∈ vTbl := vTm (List.mem_of_getElem? (i := 470) (by decide +kernel)) (by decide +kernel)
set_option maxRecDepth 100000 in
theorem lkX7_152 : Cond.methodLink RX7 152 yX7_isSheet ∈ vTbl := vTm (List.mem_of_getElem? (i := 486) (by decide +kernel)) (by decide +kernel)
set_option maxRecDepth 100000 in
theorem lkX7_155 : Cond.methodLink RX7 155 yX2_isLost ∈ vTbl := vTm (List.mem_of_getElem? (i := 489) (by decide +kernel)) (by decide +kernel)
set_option maxRecDepth 100000 in
theorem lkX7_158 : Cond.methodLink RX7 158 yX7_found ∈ vTbl := vTm (List.mem_of_getElem? (i := 493) (by decide +kernel)) (by decide +kernel)
set_option maxRecDepth 100000 in
theorem lkX7_163 : Cond.methodLink RX7 163 yX2_item ∈ vTbl := vTm (List.mem_of_getElem? (i := 497) (by decide +kernel)) (by decide +kernel)
set_option maxRecDepth 100000 in
theorem lkX7_169 : Cond.methodLink RX7 169 yX1_all ∈ vTbl := vTm (List.mem_of_getElem? (i := 505) (by decide +kernel)) (by decide +kernel)
set_option maxRecDepth 100000 in
theorem lkX1_19 : Cond.methodLink RX1 19 yX1_chosen ∈ vTbl := vTm (List.mem_of_getElem? (i := 509) (by decide +kernel)) (by decide +kernel)
set_option maxRecDepth 100000 in
theorem lkX7_173 : Cond.methodLink RX7 173 yX6_go ∈ vTbl := vTm (List.mem_of_getElem? (i := 513) (by decide +kernel)) (by decide +kernel)
set_option maxRecDepth 100000 in
theorem lkX6_69 : Cond.methodLink RX6 69 yX6_begin ∈ vTbl := vTm (List.mem_of_getElem? (i := 517) (by decide +kernel)) (by decide +kernel)
set_option maxRecDepth 100000 in
theorem lkX6_72 : Cond.methodLink RX6 72 yX6_arrive ∈ vTbl := vTm (List.mem_of_getElem? (i := 524) (by decide +kernel)) (by decide +kernel)
set_option maxRecDepth 100000 in
theorem lkX6_76 : Cond.methodLink RX6 76 yX6_serve ∈ vTbl := vTm (List.mem_of_getElem? (i := 528) (by decide +kernel)) (by decide +kernel)
set_option maxRecDepth 100000 in
theorem lkX6_109 : Cond.methodLink RX6 109 yX6_wantsBite ∈ vTbl := vTm (List.mem_of_getElem? (i := 532) (by decide +kernel)) (by decide +kernel)
set_option maxRecDepth 100000 in
theorem lkX6_113 : Cond.methodLink RX6 113 yX6_bite ∈ vTbl := vTm (List.mem_of_getElem? (i := 536) (by decide +kernel)) (by decide +kernel)
set_option maxRecDepth 100000 in
theorem lkX6_79 : Cond.methodLink RX6 79 yX6_climb ∈ vTbl := vTm (List.mem_of_getElem? (i := 540) (by decide +kernel)) (by decide +kernel)
set_option maxRecDepth 100000 in
theorem lkX6_125 : Cond.methodLink RX6 125 yX6_leave ∈ vTbl := vTm (List.mem_of_getElem? (i := 544) (by decide +kernel)) (by decide +kernel)
set_option maxRecDepth 100000 in
theorem lkX7_181 : Cond.methodLink RX7 181 yX6_letters ∈ vTbl := vTm (List.mem_of_getElem? (i := 548) (by decide +kernel)) (by decide +kernel)
set_option maxRecDepth 100000 in
theorem lkX7_186 : Cond.methodLink RX7 186 yX7_goAsTold ∈ vTbl := vTm (List.mem_of_getElem? (i := 556) (by decide +kernel)) (by decide +kernel)
set_option maxRecDepth 100000 in
theorem lkX7_189 : Cond.methodLink RX7 189 yX6_letter ∈ vTbl := vTm (List.mem_of_getElem? (i := 560) (by decide +kernel)) (by decide +kernel)
set_option maxRecDepth 100000 in
theorem lkX6_132 : Cond.methodLink RX6 132 yX6_letters ∈ vTbl := vTm (List.mem_of_getElem? (i := 564) (by decide +kernel)) (by decide +kernel)
set_option maxRecDepth 100000 in
theorem lkX7_201 : Cond.methodLink RX7 201 yX5_loadInAll ∈ vTbl := vTm (List.mem_of_getElem? (i := 577) (by decide +kernel)) (by decide +kernel)
set_option maxRecDepth 100000 in
theorem lkX7_205 : Cond.methodLink RX7 205 yX6_loadUp ∈ vTbl := vTm (List.mem_of_getElem? (i := 581) (by decide +kernel)) (by decide +kernel)
set_option maxRecDepth 100000 in
theorem lkX7_214 : Cond.methodLink RX7 214 yX0_clear ∈ vTbl := vTm (List.mem_of_getElem? (i := 593) (by decide +kernel)) (by decide +kernel)
set_option maxRecDepth 100000 in
theorem lkX7_220 : Cond.methodLink RX7 220 yX0_offer ∈ vTbl := vTm (List.mem_of_getElem? (i := 597) (by decide +kernel)) (by decide +kernel)
set_option maxRecDepth 100000 in
theorem lkX7_227 : Cond.methodLink RX7 227 yX7_findHour ∈ vTbl := vTm (List.mem_of_getElem? (i := 605) (by decide +kernel)) (by decide +kernel)
set_option maxRecDepth 100000 in
theorem lkX7_233 : Cond.methodLink RX7 233 yX7_isLoad ∈ vTbl := vTm (List.mem_of_getElem? (i := 613) (by decide +kernel)) (by decide +kernel)
set_option maxRecDepth 100000 in
theorem lkX7_236 : Cond.methodLink RX7 236 yX6_bringsUp ∈ vTbl := vTm (List.mem_of_getElem? (i := 616) (by decide +kernel)) (by decide +kernel)
set_option maxRecDepth 100000 in
theorem lkX7_240 : Cond.methodLink RX7 240 yX7_findFed ∈ vTbl := vTm (List.mem_of_getElem? (i := 624) (by decide +kernel)) (by decide +kernel)
set_option maxRecDepth 100000 in
theorem lkX7_367 : Cond.methodLink RX7 367 yX7_staysWhole ∈ vTbl := vTm (List.mem_of_getElem? (i := 628) (by decide +kernel)) (by decide +kernel)
set_option maxRecDepth 100000 in
theorem lkX7_373 : Cond.methodLink RX7 373 yX5_changeBite ∈ vTbl := vTm (List.mem_of_getElem? (i := 632) (by decide +kernel)) (by decide +kernel)
set_option maxRecDepth 100000 in
theorem lkX7_376 : Cond.methodLink RX7 376 yX6_noteAsTold ∈ vTbl := vTm (List.mem_of_getElem? (i := 636) (by decide +kernel)) (by decide +kernel)
set_option maxRecDepth 100000 in
theorem lkX6_135 : Cond.methodLink RX6 135 yX6_letter ∈ vTbl := vTm (List.mem_of_getElem? (i := 640) (by decide +kernel)) (by decide +kernel)
set_option maxRecDepth 100000 in
theorem lkX6_139 : Cond.methodLink RX6 139 yX5_toldLetter ∈ vTbl := vTm (List.mem_of_getElem? (i := 641) (by decide +kernel)) (by decide +kernel)
set_option maxRecDepth 100000 in
theorem lkX7_370 : Cond.methodLink RX7 370 yX7_keepFed ∈ vTbl := vTm (List.mem_of_getElem? (i := 642) (by decide +kernel)) (by decide +kernel)
set_option maxRecDepth 100000 in
theorem lkX7_243 : Cond.methodLink RX7 243 yX7_fedAt ∈ vTbl := vTm (List.mem_of_getElem? (i := 646) (by decide +kernel)) (by decide +kernel)
set_option maxRecDepth 100000 in
theorem lkX7_246 : Cond.methodLink RX7 246 yX7_findStill ∈ vTbl := vTm (List.mem_of_getElem? (i := 654) (by decide +kernel)) (by decide +kernel)
set_option maxRecDepth 100000 in
theorem lkX7_254 : Cond.methodLink RX7 254 yX1_allBut ∈ vTbl := vTm (List.mem_of_getElem? (i := 658) (by decide +kernel)) (by decide +kernel)
set_option maxRecDepth 100000 in
theorem lkX7_249 : Cond.methodLink RX7 249 yX3_add ∈ vTbl := vTm (List.mem_of_getElem? (i := 666) (by decide +kernel)) (by decide +kernel)
set_option maxRecDepth 100000 in
theorem lkX7_258 : Cond.methodLink RX7 258 yX3_agree ∈ vTbl := vTm (List.mem_of_getElem? (i := 678) (by decide +kernel)) (by decide +kernel)
set_option maxRecDepth 100000 in
theorem lkX3_36 : Cond.methodLink RX3 36 yX6_letter ∈ vTbl := vTm (List.mem_of_getElem? (i := 682) (by decide +kernel)) (by decide +kernel)
set_option maxRecDepth 100000 in
theorem lkX7_262 : Cond.methodLink RX7 262 yX7_fittingBites ∈ vTbl := vTm (List.mem_of_getElem? (i := 687) (by decide +kernel)) (by decide +kernel)
set_option maxRecDepth 100000 in
theorem lkX7_265 : Cond.methodLink RX7 265 yX7_fittingWords ∈ vTbl := vTm (List.mem_of_getElem? (i := 692) (by decide +kernel)) (by decide +kernel)
set_option maxRecDepth 100000 in
theorem lkX7_271 : Cond.methodLink RX7 271 yX7_greatestHeap ∈ vTbl := vTm (List.mem_of_getElem? (i := 700) (by decide +kernel)) (by decide +kernel)
set_option maxRecDepth 100000 in
theorem ctX7_274 : Cond.constantLong RX7 274 (-9223372036854775806) ∈ vTbl := vTm (List.mem_of_getElem? (i := 711) (by decide +kernel)) (by decide +kernel)
set_option maxRecDepth 100000 in
theorem lkX7_276 : Cond.methodLink RX7 276 yX7_findChance ∈ vTbl := vTm (List.mem_of_getElem? (i := 712) (by decide +kernel)) (by decide +kernel)
set_option maxRecDepth 100000 in
theorem lkX7_382 : Cond.methodLink RX7 382 yX1_chosen ∈ vTbl := vTm (List.mem_of_getElem? (i := 716) (by decide +kernel)) (by decide +kernel)
set_option maxRecDepth 100000 in
theorem ctX7_385 : Cond.constantLong RX7 385 (2) ∈ vTbl := vTm (List.mem_of_getElem? (i := 717) (by decide +kernel)) (by decide +kernel)
set_option maxRecDepth 100000 in
theorem lkX7_280 : Cond.methodLink RX7 280 yX7_lots ∈ vTbl := vTm (List.mem_of_getElem? (i := 722) (by decide +kernel)) (by decide +kernel)
set_option maxRecDepth 100000 in
theorem ctX7_387 : Cond.constant RX7 387 (1103515245) ∈ vTbl := vTm (List.mem_of_getElem? (i := 725) (by decide +kernel)) (by decide +kernel)
set_option maxRecDepth 100000 in
theorem lkX7_287 : Cond.methodLink RX7 287 yX7_isForm ∈ vTbl := vTm (List.mem_of_getElem? (i := 730) (by decide +kernel)) (by decide +kernel)
set_option maxRecDepth 100000 in
theorem lkX7_290 : Cond.methodLink RX7 290 yX2_make ∈ vTbl := vTm (List.mem_of_getElem? (i := 733) (by decide +kernel)) (by decide +kernel)
set_option maxRecDepth 100000 in
theorem lkX7_293 : Cond.methodLink RX7 293 yX2_wrongWith ∈ vTbl := vTm (List.mem_of_getElem? (i := 745) (by decide +kernel)) (by decide +kernel)
set_option maxRecDepth 100000 in
theorem lkX2_21 : Cond.methodLink RX2 21 yX2_isLost ∈ vTbl := vTm (List.mem_of_getElem? (i := 749) (by decide +kernel)) (by decide +kernel)
set_option maxRecDepth 100000 in
theorem lkX2_25 : Cond.methodLink RX2 25 yX2_hasItems ∈ vTbl := vTm (List.mem_of_getElem? (i := 750) (by decide +kernel)) (by decide +kernel)
set_option maxRecDepth 100000 in
theorem lkX7_297 : Cond.methodLink RX7 297 yX2_store ∈ vTbl := vTm (List.mem_of_getElem? (i := 754) (by decide +kernel)) (by decide +kernel)
set_option maxRecDepth 100000 in
theorem ctX7_300 : Cond.constant RX7 300 (-2147483648) ∈ vTbl := vTm (List.mem_of_getElem? (i := 762) (by decide +kernel)) (by decide +kernel)
set_option maxRecDepth 100000 in
theorem lkX7_304 : Cond.methodLink RX7 304 yX2_hasItems ∈ vTbl := vTm (List.mem_of_getElem? (i := 767) (by decide +kernel)) (by decide +kernel)
set_option maxRecDepth 100000 in
theorem ctX7_321 : Cond.constantLong RX7 321 (17) ∈ vTbl := vTm (List.mem_of_getElem? (i := 783) (by decide +kernel)) (by decide +kernel)
set_option maxRecDepth 100000 in
theorem lkX7_323 : Cond.methodLink RX7 323 yX7_count ∈ vTbl := vTm (List.mem_of_getElem? (i := 784) (by decide +kernel)) (by decide +kernel)
set_option maxRecDepth 100000 in
theorem lkX7_326 : Cond.methodLink RX7 326 yX7_mixed ∈ vTbl := vTm (List.mem_of_getElem? (i := 785) (by decide +kernel)) (by decide +kernel)
set_option maxRecDepth 100000 in
theorem ctX7_388 : Cond.constantLong RX7 388 (31) ∈ vTbl := vTm (List.mem_of_getElem? (i := 788) (by decide +kernel)) (by decide +kernel)
set_option maxRecDepth 100000 in
theorem lkX7_330 : Cond.methodLink RX7 330 yX7_fault ∈ vTbl := vTm (List.mem_of_getElem? (i := 789) (by decide +kernel)) (by decide +kernel)
set_option maxRecDepth 100000 in
theorem lkX7_333 : Cond.methodLink RX7 333 yX7_mixedFloor ∈ vTbl := vTm (List.mem_of_getElem? (i := 790) (by decide +kernel)) (by decide +kernel)
set_option maxRecDepth 100000 in
theorem lkX7_390 : Cond.methodLink RX7 390 yX7_floor ∈ vTbl := vTm (List.mem_of_getElem? (i := 794) (by decide +kernel)) (by decide +kernel)
set_option maxRecDepth 100000 in
theorem lkX7_392 : Cond.methodLink RX7 392 yX7_bites ∈ vTbl := vTm (List.mem_of_getElem? (i := 795) (by decide +kernel)) (by decide +kernel)
set_option maxRecDepth 100000 in
theorem lkX7_394 : Cond.methodLink RX7 394 yX7_was ∈ vTbl := vTm (List.mem_of_getElem? (i := 796) (by decide +kernel)) (by decide +kernel)
set_option maxRecDepth 100000 in
theorem lkX7_397 : Cond.methodLink RX7 397 yX7_ask ∈ vTbl := vTm (List.mem_of_getElem? (i := 797) (by decide +kernel)) (by decide +kernel)
set_option maxRecDepth 100000 in
theorem lkX7_337 : Cond.methodLink RX7 337 yX7_mixedWay ∈ vTbl := vTm (List.mem_of_getElem? (i := 798) (by decide +kernel)) (by decide +kernel)
set_option maxRecDepth 100000 in
theorem lkX7_400 : Cond.methodLink RX7 400 yX7_basket ∈ vTbl := vTm (List.mem_of_getElem? (i := 802) (by decide +kernel)) (by decide +kernel)
set_option maxRecDepth 100000 in
theorem lkX7_403 : Cond.methodLink RX7 403 yX7_mixedHour ∈ vTbl := vTm (List.mem_of_getElem? (i := 803) (by decide +kernel)) (by decide +kernel)
set_option maxRecDepth 100000 in
theorem lkX7_413 : Cond.methodLink RX7 413 yX7_at ∈ vTbl := vTm (List.mem_of_getElem? (i := 807) (by decide +kernel)) (by decide +kernel)
set_option maxRecDepth 100000 in
theorem lkX7_407 : Cond.methodLink RX7 407 yX7_comes ∈ vTbl := vTm (List.mem_of_getElem? (i := 808) (by decide +kernel)) (by decide +kernel)
set_option maxRecDepth 100000 in
theorem lkX7_410 : Cond.methodLink RX7 410 yX7_note ∈ vTbl := vTm (List.mem_of_getElem? (i := 809) (by decide +kernel)) (by decide +kernel)
set_option maxRecDepth 100000 in
theorem lkX7_340 : Cond.methodLink RX7 340 yX7_mixedPlans ∈ vTbl := vTm (List.mem_of_getElem? (i := 810) (by decide +kernel)) (by decide +kernel)
set_option maxRecDepth 100000 in
theorem lkX7_416 : Cond.methodLink RX7 416 yX7_loaf ∈ vTbl := vTm (List.mem_of_getElem? (i := 814) (by decide +kernel)) (by decide +kernel)
set_option maxRecDepth 100000 in
theorem lkX7_343 : Cond.methodLink RX7 343 yX7_famine ∈ vTbl := vTm (List.mem_of_getElem? (i := 815) (by decide +kernel)) (by decide +kernel)
set_option maxRecDepth 100000 in
theorem lkX7_346 : Cond.methodLink RX7 346 yX7_first ∈ vTbl := vTm (List.mem_of_getElem? (i := 816) (by decide +kernel)) (by decide +kernel)
set_option maxRecDepth 100000 in
theorem lkX7_349 : Cond.methodLink RX7 349 yX7_greedy ∈ vTbl := vTm (List.mem_of_getElem? (i := 817) (by decide +kernel)) (by decide +kernel)
set_option maxRecDepth 100000 in
theorem lkX7_352 : Cond.methodLink RX7 352 yX7_never ∈ vTbl := vTm (List.mem_of_getElem? (i := 818) (by decide +kernel)) (by decide +kernel)
set_option maxRecDepth 100000 in
theorem lkX7_355 : Cond.methodLink RX7 355 yX7_week ∈ vTbl := vTm (List.mem_of_getElem? (i := 819) (by decide +kernel)) (by decide +kernel)
set_option maxRecDepth 100000 in
theorem flX8_7 : vFL RX8 7 8 0 := fun C T N hc => by
  cases hc
  exact ⟨by decide, Or.inl (vTm (List.mem_of_getElem? (i := 826) (by decide +kernel)) (by decide +kernel))⟩
set_option maxRecDepth 100000 in
theorem flX8_13 : vFL RX8 13 8 1 := fun C T N hc => by
  cases hc
  exact ⟨by decide, Or.inl (vTm (List.mem_of_getElem? (i := 827) (by decide +kernel)) (by decide +kernel))⟩
set_option maxRecDepth 100000 in
theorem flX8_144 : vFL RX8 144 8 2 := fun C T N hc => by
  cases hc
  exact ⟨by decide, Or.inl (vTm (List.mem_of_getElem? (i := 828) (by decide +kernel)) (by decide +kernel))⟩
set_option maxRecDepth 100000 in
theorem fpX8_144 : vFP RX8 144 8 2 := fun C T N hc => by
  cases hc
  exact ⟨by decide, rfl, vTm (List.mem_of_getElem? (i := 828) (by decide +kernel)) (by decide +kernel)⟩
set_option maxRecDepth 100000 in
theorem flX8_16 : vFL RX8 16 8 3 := fun C T N hc => by
  cases hc
  exact ⟨by decide, Or.inl (vTm (List.mem_of_getElem? (i := 829) (by decide +kernel)) (by decide +kernel))⟩
set_option maxRecDepth 100000 in
theorem flX8_19 : vFL RX8 19 8 4 := fun C T N hc => by
  cases hc
  exact ⟨by decide, Or.inl (vTm (List.mem_of_getElem? (i := 830) (by decide +kernel)) (by decide +kernel))⟩
set_option maxRecDepth 100000 in
theorem flX8_22 : vFL RX8 22 8 5 := fun C T N hc => by
  cases hc
  exact ⟨by decide, Or.inl (vTm (List.mem_of_getElem? (i := 831) (by decide +kernel)) (by decide +kernel))⟩
set_option maxRecDepth 100000 in
theorem flX8_147 : vFL RX8 147 8 6 := fun C T N hc => by
  cases hc
  exact ⟨by decide, Or.inl (vTm (List.mem_of_getElem? (i := 832) (by decide +kernel)) (by decide +kernel))⟩
set_option maxRecDepth 100000 in
theorem fpX8_147 : vFP RX8 147 8 6 := fun C T N hc => by
  cases hc
  exact ⟨by decide, rfl, vTm (List.mem_of_getElem? (i := 832) (by decide +kernel)) (by decide +kernel)⟩
set_option maxRecDepth 100000 in
theorem flX8_25 : vFL RX8 25 8 7 := fun C T N hc => by
  cases hc
  exact ⟨by decide, Or.inl (vTm (List.mem_of_getElem? (i := 833) (by decide +kernel)) (by decide +kernel))⟩
set_option maxRecDepth 100000 in
theorem flX8_28 : vFL RX8 28 8 8 := fun C T N hc => by
  cases hc
  exact ⟨by decide, Or.inl (vTm (List.mem_of_getElem? (i := 834) (by decide +kernel)) (by decide +kernel))⟩
set_option maxRecDepth 100000 in
theorem flX8_31 : vFL RX8 31 8 9 := fun C T N hc => by
  cases hc
  exact ⟨by decide, Or.inl (vTm (List.mem_of_getElem? (i := 835) (by decide +kernel)) (by decide +kernel))⟩
set_option maxRecDepth 100000 in
theorem flX8_34 : vFL RX8 34 8 10 := fun C T N hc => by
  cases hc
  exact ⟨by decide, Or.inl (vTm (List.mem_of_getElem? (i := 836) (by decide +kernel)) (by decide +kernel))⟩
set_option maxRecDepth 100000 in
theorem flX8_116 : vFL RX8 116 8 11 := fun C T N hc => by
  cases hc
  exact ⟨by decide, Or.inl (vTm (List.mem_of_getElem? (i := 837) (by decide +kernel)) (by decide +kernel))⟩
set_option maxRecDepth 100000 in
theorem fpX8_116 : vFP RX8 116 8 11 := fun C T N hc => by
  cases hc
  exact ⟨by decide, rfl, vTm (List.mem_of_getElem? (i := 837) (by decide +kernel)) (by decide +kernel)⟩
set_option maxRecDepth 100000 in
theorem flX8_120 : vFL RX8 120 8 12 := fun C T N hc => by
  cases hc
  exact ⟨by decide, Or.inl (vTm (List.mem_of_getElem? (i := 838) (by decide +kernel)) (by decide +kernel))⟩
set_option maxRecDepth 100000 in
theorem fpX8_120 : vFP RX8 120 8 12 := fun C T N hc => by
  cases hc
  exact ⟨by decide, rfl, vTm (List.mem_of_getElem? (i := 838) (by decide +kernel)) (by decide +kernel)⟩
set_option maxRecDepth 100000 in
theorem flX8_181 : vFL RX8 181 8 13 := fun C T N hc => by
  cases hc
  exact ⟨by decide, Or.inl (vTm (List.mem_of_getElem? (i := 839) (by decide +kernel)) (by decide +kernel))⟩
set_option maxRecDepth 100000 in
theorem fpX8_181 : vFP RX8 181 8 13 := fun C T N hc => by
  cases hc
  exact ⟨by decide, rfl, vTm (List.mem_of_getElem? (i := 839) (by decide +kernel)) (by decide +kernel)⟩
set_option maxRecDepth 100000 in
theorem flX8_37 : vFL RX8 37 8 14 := fun C T N hc => by
  cases hc
  exact ⟨by decide, Or.inl (vTm (List.mem_of_getElem? (i := 840) (by decide +kernel)) (by decide +kernel))⟩
set_option maxRecDepth 100000 in
theorem flX8_184 : vFL RX8 184 8 15 := fun C T N hc => by
  cases hc
  exact ⟨by decide, Or.inl (vTm (List.mem_of_getElem? (i := 841) (by decide +kernel)) (by decide +kernel))⟩
set_option maxRecDepth 100000 in
theorem fpX8_184 : vFP RX8 184 8 15 := fun C T N hc => by
  cases hc
  exact ⟨by decide, rfl, vTm (List.mem_of_getElem? (i := 841) (by decide +kernel)) (by decide +kernel)⟩
set_option maxRecDepth 100000 in
theorem flX8_40 : vFL RX8 40 8 16 := fun C T N hc => by
  cases hc
  exact ⟨by decide, Or.inl (vTm (List.mem_of_getElem? (i := 842) (by decide +kernel)) (by decide +kernel))⟩
set_option maxRecDepth 100000 in
theorem flX8_208 : vFL RX8 208 8 17 := fun C T N hc => by
  cases hc
  exact ⟨by decide, Or.inl (vTm (List.mem_of_getElem? (i := 843) (by decide +kernel)) (by decide +kernel))⟩
set_option maxRecDepth 100000 in
theorem fpX8_208 : vFP RX8 208 8 17 := fun C T N hc => by
  cases hc
  exact ⟨by decide, rfl, vTm (List.mem_of_getElem? (i := 843) (by decide +kernel)) (by decide +kernel)⟩
set_option maxRecDepth 100000 in
theorem flX8_212 : vFL RX8 212 8 18 := fun C T N hc => by
  cases hc
  exact ⟨by decide, Or.inl (vTm (List.mem_of_getElem? (i := 844) (by decide +kernel)) (by decide +kernel))⟩
set_option maxRecDepth 100000 in
theorem fpX8_212 : vFP RX8 212 8 18 := fun C T N hc => by
  cases hc
  exact ⟨by decide, rfl, vTm (List.mem_of_getElem? (i := 844) (by decide +kernel)) (by decide +kernel)⟩
set_option maxRecDepth 100000 in
theorem flX8_215 : vFL RX8 215 8 19 := fun C T N hc => by
  cases hc
  exact ⟨by decide, Or.inl (vTm (List.mem_of_getElem? (i := 845) (by decide +kernel)) (by decide +kernel))⟩
set_option maxRecDepth 100000 in
theorem fpX8_215 : vFP RX8 215 8 19 := fun C T N hc => by
  cases hc
  exact ⟨by decide, rfl, vTm (List.mem_of_getElem? (i := 845) (by decide +kernel)) (by decide +kernel)⟩
set_option maxRecDepth 100000 in
theorem flX8_43 : vFL RX8 43 8 20 := fun C T N hc => by
  cases hc
  exact ⟨by decide, Or.inl (vTm (List.mem_of_getElem? (i := 846) (by decide +kernel)) (by decide +kernel))⟩
set_option maxRecDepth 100000 in
theorem flX8_46 : vFL RX8 46 8 21 := fun C T N hc => by
  cases hc
  exact ⟨by decide, Or.inl (vTm (List.mem_of_getElem? (i := 847) (by decide +kernel)) (by decide +kernel))⟩
set_option maxRecDepth 100000 in
theorem flX8_49 : vFL RX8 49 8 22 := fun C T N hc => by
  cases hc
  exact ⟨by decide, Or.inl (vTm (List.mem_of_getElem? (i := 848) (by decide +kernel)) (by decide +kernel))⟩
set_option maxRecDepth 100000 in
theorem flX8_52 : vFL RX8 52 8 23 := fun C T N hc => by
  cases hc
  exact ⟨by decide, Or.inl (vTm (List.mem_of_getElem? (i := 849) (by decide +kernel)) (by decide +kernel))⟩
set_option maxRecDepth 100000 in
theorem flX8_55 : vFL RX8 55 8 24 := fun C T N hc => by
  cases hc
  exact ⟨by decide, Or.inl (vTm (List.mem_of_getElem? (i := 850) (by decide +kernel)) (by decide +kernel))⟩
set_option maxRecDepth 100000 in
theorem flX8_59 : vFL RX8 59 8 25 := fun C T N hc => by
  cases hc
  exact ⟨by decide, Or.inl (vTm (List.mem_of_getElem? (i := 851) (by decide +kernel)) (by decide +kernel))⟩
set_option maxRecDepth 100000 in
theorem flX8_62 : vFL RX8 62 8 26 := fun C T N hc => by
  cases hc
  exact ⟨by decide, Or.inl (vTm (List.mem_of_getElem? (i := 852) (by decide +kernel)) (by decide +kernel))⟩
set_option maxRecDepth 100000 in
theorem flX8_65 : vFL RX8 65 8 27 := fun C T N hc => by
  cases hc
  exact ⟨by decide, Or.inl (vTm (List.mem_of_getElem? (i := 853) (by decide +kernel)) (by decide +kernel))⟩
set_option maxRecDepth 100000 in
theorem flX8_68 : vFL RX8 68 8 28 := fun C T N hc => by
  cases hc
  exact ⟨by decide, Or.inl (vTm (List.mem_of_getElem? (i := 854) (by decide +kernel)) (by decide +kernel))⟩
set_option maxRecDepth 100000 in
theorem flX8_71 : vFL RX8 71 8 29 := fun C T N hc => by
  cases hc
  exact ⟨by decide, Or.inl (vTm (List.mem_of_getElem? (i := 855) (by decide +kernel)) (by decide +kernel))⟩
set_option maxRecDepth 100000 in
theorem flX8_218 : vFL RX8 218 8 30 := fun C T N hc => by
  cases hc
  exact ⟨by decide, Or.inl (vTm (List.mem_of_getElem? (i := 856) (by decide +kernel)) (by decide +kernel))⟩
set_option maxRecDepth 100000 in
theorem fpX8_218 : vFP RX8 218 8 30 := fun C T N hc => by
  cases hc
  exact ⟨by decide, rfl, vTm (List.mem_of_getElem? (i := 856) (by decide +kernel)) (by decide +kernel)⟩
set_option maxRecDepth 100000 in
theorem flX8_221 : vFL RX8 221 8 31 := fun C T N hc => by
  cases hc
  exact ⟨by decide, Or.inl (vTm (List.mem_of_getElem? (i := 857) (by decide +kernel)) (by decide +kernel))⟩
set_option maxRecDepth 100000 in
theorem fpX8_221 : vFP RX8 221 8 31 := fun C T N hc => by
  cases hc
  exact ⟨by decide, rfl, vTm (List.mem_of_getElem? (i := 857) (by decide +kernel)) (by decide +kernel)⟩
set_option maxRecDepth 100000 in
theorem flX8_74 : vFL RX8 74 8 32 := fun C T N hc => by
  cases hc
  exact ⟨by decide, Or.inl (vTm (List.mem_of_getElem? (i := 858) (by decide +kernel)) (by decide +kernel))⟩
set_option maxRecDepth 100000 in
theorem flX8_77 : vFL RX8 77 8 33 := fun C T N hc => by
  cases hc
  exact ⟨by decide, Or.inl (vTm (List.mem_of_getElem? (i := 859) (by decide +kernel)) (by decide +kernel))⟩
set_option maxRecDepth 100000 in
theorem flX8_80 : vFL RX8 80 8 34 := fun C T N hc => by
  cases hc
  exact ⟨by decide, Or.inl (vTm (List.mem_of_getElem? (i := 860) (by decide +kernel)) (by decide +kernel))⟩
set_option maxRecDepth 100000 in
theorem flX8_83 : vFL RX8 83 8 35 := fun C T N hc => by
  cases hc
  exact ⟨by decide, Or.inl (vTm (List.mem_of_getElem? (i := 861) (by decide +kernel)) (by decide +kernel))⟩
set_option maxRecDepth 100000 in
theorem flX8_86 : vFL RX8 86 8 36 := fun C T N hc => by
  cases hc
  exact ⟨by decide, Or.inl (vTm (List.mem_of_getElem? (i := 862) (by decide +kernel)) (by decide +kernel))⟩
set_option maxRecDepth 100000 in
theorem flX8_295 : vFL RX8 295 8 37 := fun C T N hc => by
  cases hc
  exact ⟨by decide, Or.inl (vTm (List.mem_of_getElem? (i := 863) (by decide +kernel)) (by decide +kernel))⟩
set_option maxRecDepth 100000 in
theorem fpX8_295 : vFP RX8 295 8 37 := fun C T N hc => by
  cases hc
  exact ⟨by decide, rfl, vTm (List.mem_of_getElem? (i := 863) (by decide +kernel)) (by decide +kernel)⟩
set_option maxRecDepth 100000 in
theorem flX8_89 : vFL RX8 89 8 38 := fun C T N hc => by
  cases hc
  exact ⟨by decide, Or.inl (vTm (List.mem_of_getElem? (i := 864) (by decide +kernel)) (by decide +kernel))⟩
set_option maxRecDepth 100000 in
theorem flX8_92 : vFL RX8 92 8 39 := fun C T N hc => by
  cases hc
  exact ⟨by decide, Or.inl (vTm (List.mem_of_getElem? (i := 865) (by decide +kernel)) (by decide +kernel))⟩
set_option maxRecDepth 100000 in
theorem flX8_95 : vFL RX8 95 8 40 := fun C T N hc => by
  cases hc
  exact ⟨by decide, Or.inl (vTm (List.mem_of_getElem? (i := 866) (by decide +kernel)) (by decide +kernel))⟩
set_option maxRecDepth 100000 in
theorem flX8_98 : vFL RX8 98 8 41 := fun C T N hc => by
  cases hc
  exact ⟨by decide, Or.inl (vTm (List.mem_of_getElem? (i := 867) (by decide +kernel)) (by decide +kernel))⟩
set_option maxRecDepth 100000 in
theorem flX8_101 : vFL RX8 101 8 42 := fun C T N hc => by
  cases hc
  exact ⟨by decide, Or.inl (vTm (List.mem_of_getElem? (i := 868) (by decide +kernel)) (by decide +kernel))⟩
set_option maxRecDepth 100000 in
theorem flX8_104 : vFL RX8 104 8 43 := fun C T N hc => by
  cases hc
  exact ⟨by decide, Or.inl (vTm (List.mem_of_getElem? (i := 869) (by decide +kernel)) (by decide +kernel))⟩
set_option maxRecDepth 100000 in
theorem flX8_107 : vFL RX8 107 8 44 := fun C T N hc => by
  cases hc
  exact ⟨by decide, Or.inl (vTm (List.mem_of_getElem? (i := 870) (by decide +kernel)) (by decide +kernel))⟩
set_option maxRecDepth 100000 in
theorem flX8_110 : vFL RX8 110 8 45 := fun C T N hc => by
  cases hc
  exact ⟨by decide, Or.inl (vTm (List.mem_of_getElem? (i := 871) (by decide +kernel)) (by decide +kernel))⟩
set_option maxRecDepth 100000 in
theorem flX8_113 : vFL RX8 113 8 46 := fun C T N hc => by
  cases hc
  exact ⟨by decide, Or.inl (vTm (List.mem_of_getElem? (i := 872) (by decide +kernel)) (by decide +kernel))⟩
set_option maxRecDepth 100000 in
theorem flX8_329 : vFL RX8 329 8 47 := fun C T N hc => by
  cases hc
  exact ⟨by decide, Or.inl (vTm (List.mem_of_getElem? (i := 873) (by decide +kernel)) (by decide +kernel))⟩
set_option maxRecDepth 100000 in
theorem fpX8_329 : vFP RX8 329 8 47 := fun C T N hc => by
  cases hc
  exact ⟨by decide, rfl, vTm (List.mem_of_getElem? (i := 873) (by decide +kernel)) (by decide +kernel)⟩
set_option maxRecDepth 100000 in
theorem lkX8_129 : Cond.methodLink RX8 129 yX8_isText ∈ vTbl := vTm (List.mem_of_getElem? (i := 976) (by decide +kernel)) (by decide +kernel)
set_option maxRecDepth 100000 in
theorem lkX8_125 : Cond.methodLink RX8 125 yX8_in ∈ vTbl := vTm (List.mem_of_getElem? (i := 979) (by decide +kernel)) (by decide +kernel)
set_option maxRecDepth 100000 in
theorem lkX8_160 : Cond.methodLink RX8 160 yX8_faultOf ∈ vTbl := vTm (List.mem_of_getElem? (i := 994) (by decide +kernel)) (by decide +kernel)
set_option maxRecDepth 100000 in
theorem lkX8_156 : Cond.methodLink RX8 156 yX8_readsParts ∈ vTbl := vTm (List.mem_of_getElem? (i := 998) (by decide +kernel)) (by decide +kernel)
set_option maxRecDepth 100000 in
theorem lkX8_150 : Cond.methodLink RX8 150 yX8_readsFloor ∈ vTbl := vTm (List.mem_of_getElem? (i := 1002) (by decide +kernel)) (by decide +kernel)
set_option maxRecDepth 100000 in
theorem lkX8_133 : Cond.methodLink RX8 133 yX8_byteAt ∈ vTbl := vTm (List.mem_of_getElem? (i := 1006) (by decide +kernel)) (by decide +kernel)
set_option maxRecDepth 100000 in
theorem lkX8_137 : Cond.methodLink RX8 137 yX8_isFigure ∈ vTbl := vTm (List.mem_of_getElem? (i := 1010) (by decide +kernel)) (by decide +kernel)
set_option maxRecDepth 100000 in
theorem lkX8_140 : Cond.methodLink RX8 140 yX8_isLetter ∈ vTbl := vTm (List.mem_of_getElem? (i := 1014) (by decide +kernel)) (by decide +kernel)
set_option maxRecDepth 100000 in
theorem lkX8_153 : Cond.methodLink RX8 153 yX8_readsBasket ∈ vTbl := vTm (List.mem_of_getElem? (i := 1018) (by decide +kernel)) (by decide +kernel)
set_option maxRecDepth 100000 in
theorem lkX8_166 : Cond.methodLink RX8 166 yX8_isFloor ∈ vTbl := vTm (List.mem_of_getElem? (i := 1026) (by decide +kernel)) (by decide +kernel)
set_option maxRecDepth 100000 in
theorem lkX8_163 : Cond.methodLink RX8 163 yX8_reads ∈ vTbl := vTm (List.mem_of_getElem? (i := 1030) (by decide +kernel)) (by decide +kernel)
set_option maxRecDepth 100000 in
theorem lkX8_169 : Cond.methodLink RX8 169 yX8_floorOf ∈ vTbl := vTm (List.mem_of_getElem? (i := 1034) (by decide +kernel)) (by decide +kernel)
set_option maxRecDepth 100000 in
theorem lkX8_172 : Cond.methodLink RX8 172 yX8_isBasket ∈ vTbl := vTm (List.mem_of_getElem? (i := 1042) (by decide +kernel)) (by decide +kernel)
set_option maxRecDepth 100000 in
theorem lkX8_175 : Cond.methodLink RX8 175 yX8_basketOf ∈ vTbl := vTm (List.mem_of_getElem? (i := 1046) (by decide +kernel)) (by decide +kernel)
set_option maxRecDepth 100000 in
theorem lkX8_178 : Cond.methodLink RX8 178 yX8_isHour ∈ vTbl := vTm (List.mem_of_getElem? (i := 1058) (by decide +kernel)) (by decide +kernel)
set_option maxRecDepth 100000 in
theorem lkX8_187 : Cond.methodLink RX8 187 yX8_isSheet ∈ vTbl := vTm (List.mem_of_getElem? (i := 1073) (by decide +kernel)) (by decide +kernel)
set_option maxRecDepth 100000 in
theorem lkX8_190 : Cond.methodLink RX8 190 yX8_meets ∈ vTbl := vTm (List.mem_of_getElem? (i := 1076) (by decide +kernel)) (by decide +kernel)
set_option maxRecDepth 100000 in
theorem lkX8_193 : Cond.methodLink RX8 193 yX8_wind ∈ vTbl := vTm (List.mem_of_getElem? (i := 1080) (by decide +kernel)) (by decide +kernel)
set_option maxRecDepth 100000 in
theorem lkX8_251 : Cond.methodLink RX8 251 yX8_atOf ∈ vTbl := vTm (List.mem_of_getElem? (i := 1085) (by decide +kernel)) (by decide +kernel)
set_option maxRecDepth 100000 in
theorem lkX8_248 : Cond.methodLink RX8 248 yX8_runsTold ∈ vTbl := vTm (List.mem_of_getElem? (i := 1089) (by decide +kernel)) (by decide +kernel)
set_option maxRecDepth 100000 in
theorem lkX8_242 : Cond.methodLink RX8 242 yX8_asTold ∈ vTbl := vTm (List.mem_of_getElem? (i := 1093) (by decide +kernel)) (by decide +kernel)
set_option maxRecDepth 100000 in
theorem lkX8_204 : Cond.methodLink RX8 204 yX8_windsBut ∈ vTbl := vTm (List.mem_of_getElem? (i := 1097) (by decide +kernel)) (by decide +kernel)
set_option maxRecDepth 100000 in
theorem lkX8_196 : Cond.methodLink RX8 196 yX8_isIn ∈ vTbl := vTm (List.mem_of_getElem? (i := 1101) (by decide +kernel)) (by decide +kernel)
set_option maxRecDepth 100000 in
theorem lkX8_200 : Cond.methodLink RX8 200 yX8_bitsOf ∈ vTbl := vTm (List.mem_of_getElem? (i := 1104) (by decide +kernel)) (by decide +kernel)
set_option maxRecDepth 100000 in
theorem lkX8_245 : Cond.methodLink RX8 245 yX8_runs ∈ vTbl := vTm (List.mem_of_getElem? (i := 1107) (by decide +kernel)) (by decide +kernel)
set_option maxRecDepth 100000 in
theorem lkX8_239 : Cond.methodLink RX8 239 yX8_goesBy ∈ vTbl := vTm (List.mem_of_getElem? (i := 1111) (by decide +kernel)) (by decide +kernel)
set_option maxRecDepth 100000 in
theorem lkX8_228 : Cond.methodLink RX8 228 yX8_isTangled ∈ vTbl := vTm (List.mem_of_getElem? (i := 1115) (by decide +kernel)) (by decide +kernel)
set_option maxRecDepth 100000 in
theorem lkX8_231 : Cond.methodLink RX8 231 yX8_takes ∈ vTbl := vTm (List.mem_of_getElem? (i := 1119) (by decide +kernel)) (by decide +kernel)
set_option maxRecDepth 100000 in
theorem lkX8_235 : Cond.methodLink RX8 235 yX8_goesUp ∈ vTbl := vTm (List.mem_of_getElem? (i := 1123) (by decide +kernel)) (by decide +kernel)
set_option maxRecDepth 100000 in
theorem lkX8_224 : Cond.methodLink RX8 224 yX8_wears ∈ vTbl := vTm (List.mem_of_getElem? (i := 1127) (by decide +kernel)) (by decide +kernel)
set_option maxRecDepth 100000 in
theorem lkX8_255 : Cond.methodLink RX8 255 yX8_noteOf ∈ vTbl := vTm (List.mem_of_getElem? (i := 1135) (by decide +kernel)) (by decide +kernel)
set_option maxRecDepth 100000 in
theorem lkX8_258 : Cond.methodLink RX8 258 yX8_comesOf ∈ vTbl := vTm (List.mem_of_getElem? (i := 1143) (by decide +kernel)) (by decide +kernel)
set_option maxRecDepth 100000 in
theorem lkX8_261 : Cond.methodLink RX8 261 yX8_bitesOf ∈ vTbl := vTm (List.mem_of_getElem? (i := 1151) (by decide +kernel)) (by decide +kernel)
set_option maxRecDepth 100000 in
theorem lkX8_268 : Cond.methodLink RX8 268 yX8_famineNow ∈ vTbl := vTm (List.mem_of_getElem? (i := 1159) (by decide +kernel)) (by decide +kernel)
set_option maxRecDepth 100000 in
theorem lkX8_264 : Cond.methodLink RX8 264 yX8_upMuch ∈ vTbl := vTm (List.mem_of_getElem? (i := 1163) (by decide +kernel)) (by decide +kernel)
set_option maxRecDepth 100000 in
theorem lkX8_271 : Cond.methodLink RX8 271 yX8_firstOf ∈ vTbl := vTm (List.mem_of_getElem? (i := 1171) (by decide +kernel)) (by decide +kernel)
set_option maxRecDepth 100000 in
theorem lkX8_274 : Cond.methodLink RX8 274 yX8_greedyNow ∈ vTbl := vTm (List.mem_of_getElem? (i := 1179) (by decide +kernel)) (by decide +kernel)
set_option maxRecDepth 100000 in
theorem lkX8_277 : Cond.methodLink RX8 277 yX8_sendOf ∈ vTbl := vTm (List.mem_of_getElem? (i := 1187) (by decide +kernel)) (by decide +kernel)
set_option maxRecDepth 100000 in
theorem lkX8_280 : Cond.methodLink RX8 280 yX8_loafOf ∈ vTbl := vTm (List.mem_of_getElem? (i := 1195) (by decide +kernel)) (by decide +kernel)
set_option maxRecDepth 100000 in
theorem lkX8_286 : Cond.methodLink RX8 286 yX8_feedBy ∈ vTbl := vTm (List.mem_of_getElem? (i := 1203) (by decide +kernel)) (by decide +kernel)
set_option maxRecDepth 100000 in
theorem lkX8_283 : Cond.methodLink RX8 283 yX8_isKept ∈ vTbl := vTm (List.mem_of_getElem? (i := 1207) (by decide +kernel)) (by decide +kernel)
set_option maxRecDepth 100000 in
theorem lkX8_289 : Cond.methodLink RX8 289 yX8_ofRow ∈ vTbl := vTm (List.mem_of_getElem? (i := 1211) (by decide +kernel)) (by decide +kernel)
set_option maxRecDepth 100000 in
theorem lkX8_292 : Cond.methodLink RX8 292 yX8_stillOf ∈ vTbl := vTm (List.mem_of_getElem? (i := 1219) (by decide +kernel)) (by decide +kernel)
set_option maxRecDepth 100000 in
theorem lkX8_302 : Cond.methodLink RX8 302 yX8_neverNow ∈ vTbl := vTm (List.mem_of_getElem? (i := 1235) (by decide +kernel)) (by decide +kernel)
set_option maxRecDepth 100000 in
theorem lkX8_298 : Cond.methodLink RX8 298 yX8_isSeen ∈ vTbl := vTm (List.mem_of_getElem? (i := 1239) (by decide +kernel)) (by decide +kernel)
set_option maxRecDepth 100000 in
theorem lkX8_305 : Cond.methodLink RX8 305 yX8_wasOf ∈ vTbl := vTm (List.mem_of_getElem? (i := 1247) (by decide +kernel)) (by decide +kernel)
set_option maxRecDepth 100000 in
theorem lkX8_308 : Cond.methodLink RX8 308 yX8_askOf ∈ vTbl := vTm (List.mem_of_getElem? (i := 1255) (by decide +kernel)) (by decide +kernel)
set_option maxRecDepth 100000 in
theorem lkX8_315 : Cond.methodLink RX8 315 yX8_gustOf ∈ vTbl := vTm (List.mem_of_getElem? (i := 1263) (by decide +kernel)) (by decide +kernel)
set_option maxRecDepth 100000 in
theorem lkX8_311 : Cond.methodLink RX8 311 yX8_lowest ∈ vTbl := vTm (List.mem_of_getElem? (i := 1267) (by decide +kernel)) (by decide +kernel)
set_option maxRecDepth 100000 in
theorem lkX8_319 : Cond.methodLink RX8 319 yX8_no ∈ vTbl := vTm (List.mem_of_getElem? (i := 1270) (by decide +kernel)) (by decide +kernel)
set_option maxRecDepth 100000 in
theorem ctX8_123 : Cond.constantLong RX8 123 (-9223372036854775808) ∈ vTbl := vTm (List.mem_of_getElem? (i := 1273) (by decide +kernel)) (by decide +kernel)
set_option maxRecDepth 100000 in
theorem lkX8_326 : Cond.methodLink RX8 326 yX8_weekOf ∈ vTbl := vTm (List.mem_of_getElem? (i := 1278) (by decide +kernel)) (by decide +kernel)
set_option maxRecDepth 100000 in
theorem ctX8_322 : Cond.constant RX8 322 (1103515245) ∈ vTbl := vTm (List.mem_of_getElem? (i := 1282) (by decide +kernel)) (by decide +kernel)
set_option maxRecDepth 100000 in
theorem lkX8_323 : Cond.methodLink RX8 323 yX8_bitesAll ∈ vTbl := vTm (List.mem_of_getElem? (i := 1283) (by decide +kernel)) (by decide +kernel)
set_option maxRecDepth 100000 in
theorem lkX8_332 : Cond.methodLink RX8 332 yX8_lacks ∈ vTbl := vTm (List.mem_of_getElem? (i := 1299) (by decide +kernel)) (by decide +kernel)
set_option maxRecDepth 100000 in
theorem lkX8_335 : Cond.methodLink RX8 335 yX8_keep ∈ vTbl := vTm (List.mem_of_getElem? (i := 1303) (by decide +kernel)) (by decide +kernel)
set_option maxRecDepth 100000 in
theorem ctX8_338 : Cond.constant RX8 338 (-2147483648) ∈ vTbl := vTm (List.mem_of_getElem? (i := 1311) (by decide +kernel)) (by decide +kernel)
set_option maxRecDepth 100000 in
theorem lkX8_339 : Cond.methodLink RX8 339 yX8_sumOf ∈ vTbl := vTm (List.mem_of_getElem? (i := 1324) (by decide +kernel)) (by decide +kernel)
set_option maxRecDepth 100000 in
theorem ctX8_348 : Cond.constantLong RX8 348 (17) ∈ vTbl := vTm (List.mem_of_getElem? (i := 1332) (by decide +kernel)) (by decide +kernel)
set_option maxRecDepth 100000 in
theorem ctX8_342 : Cond.constantLong RX8 342 (31) ∈ vTbl := vTm (List.mem_of_getElem? (i := 1333) (by decide +kernel)) (by decide +kernel)
set_option maxRecDepth 100000 in
theorem lkX8_350 : Cond.methodLink RX8 350 yX8_count ∈ vTbl := vTm (List.mem_of_getElem? (i := 1334) (by decide +kernel)) (by decide +kernel)
set_option maxRecDepth 100000 in
theorem lkX8_353 : Cond.methodLink RX8 353 yX8_floorDigest ∈ vTbl := vTm (List.mem_of_getElem? (i := 1335) (by decide +kernel)) (by decide +kernel)
set_option maxRecDepth 100000 in
theorem lkX8_356 : Cond.methodLink RX8 356 yX8_basketDigest ∈ vTbl := vTm (List.mem_of_getElem? (i := 1339) (by decide +kernel)) (by decide +kernel)
set_option maxRecDepth 100000 in
theorem lkX8_344 : Cond.methodLink RX8 344 yX8_hourDigest ∈ vTbl := vTm (List.mem_of_getElem? (i := 1343) (by decide +kernel)) (by decide +kernel)
set_option maxRecDepth 100000 in
theorem lkacX6_94 : Cond.methodLink RX6 94 arraycopyName ∈ vTbl := vTm (List.mem_of_getElem? (i := 521) (by decide +kernel)) (by decide +kernel)
set_option maxRecDepth 100000 in
theorem lkacX7_310 : Cond.methodLink RX7 310 arraycopyName ∈ vTbl := vTm (List.mem_of_getElem? (i := 691) (by decide +kernel)) (by decide +kernel)
set_option maxRecDepth 100000 in
theorem lkX7_379 : Cond.methodLink RX7 379 Lib.Math.max.name ∈ vTbl := vTm (List.mem_of_getElem? (i := 704) (by decide +kernel)) (by decide +kernel)
set_option maxRecDepth 100000 in
theorem ma_max_s : Cond.static Lib.Math.max.name ∈ vTbl := vTm (List.mem_of_getElem? (i := 705) (by decide +kernel)) (by decide +kernel)
set_option maxRecDepth 100000 in
theorem ma_max_c : Cond.code Lib.Math.max.name Lib.Math.max.code 2 (some .int) ∈ vTbl := vTm (List.mem_of_getElem? (i := 706) (by decide +kernel)) (by decide +kernel)
set_option maxRecDepth 100000 in
theorem lkX7_316 : Cond.methodLink RX7 316 Lib.Math.min.name ∈ vTbl := vTm (List.mem_of_getElem? (i := 772) (by decide +kernel)) (by decide +kernel)
set_option maxRecDepth 100000 in
theorem ma_min_s : Cond.static Lib.Math.min.name ∈ vTbl := vTm (List.mem_of_getElem? (i := 773) (by decide +kernel)) (by decide +kernel)
set_option maxRecDepth 100000 in
theorem ma_min_c : Cond.code Lib.Math.min.name Lib.Math.min.code 2 (some .int) ∈ vTbl := vTm (List.mem_of_getElem? (i := 774) (by decide +kernel)) (by decide +kernel)
set_option maxRecDepth 100000 in
theorem ma_ini : Cond.initialized "java/lang/Math" ∈ vTbl := vTm (List.mem_of_getElem? (i := 91) (by decide +kernel)) (by decide +kernel)
set_option maxRecDepth 100000 in
theorem ac_nat : Cond.native arraycopyName ∈ vTbl := vTm (List.mem_of_getElem? (i := 523) (by decide +kernel)) (by decide +kernel)
set_option maxRecDepth 100000 in
theorem ac_sta : Cond.static arraycopyName ∈ vTbl := vTm (List.mem_of_getElem? (i := 522) (by decide +kernel)) (by decide +kernel)
set_option maxRecDepth 100000 in
theorem ac_ini : Cond.initialized "java/lang/System" ∈ vTbl := vTm (List.mem_of_getElem? (i := 90) (by decide +kernel)) (by decide +kernel)
end
section
theorem dX0_clear_0 : decode cX0_clear 0 = .ok (.aload_n 0, 1) := by decide +kernel
theorem dX0_clear_1 : decode cX0_clear 1 = .ok (.iconst (-1), 1) := by decide +kernel
theorem dX0_clear_2 : decode cX0_clear 2 = .ok (.putfield 9, 3) := by decide +kernel
theorem dX0_clear_5 : decode cX0_clear 5 = .ok (.aload_n 0, 1) := by decide +kernel
theorem dX0_clear_6 : decode cX0_clear 6 = .ok (.iconst (-1), 1) := by decide +kernel
theorem dX0_clear_7 : decode cX0_clear 7 = .ok (.putfield 15, 3) := by decide +kernel
theorem dX0_clear_10 : decode cX0_clear 10 = .ok (.return_, 1) := by decide +kernel
theorem dX0_offer_0 : decode cX0_offer 0 = .ok (.iload_n 2, 1) := by decide +kernel
theorem dX0_offer_1 : decode cX0_offer 1 = .ok (.aload_n 0, 1) := by decide +kernel
theorem dX0_offer_2 : decode cX0_offer 2 = .ok (.getfield 15, 3) := by decide +kernel
theorem dX0_offer_5 : decode cX0_offer 5 = .ok (.if_icmp .le 13, 3) := by decide +kernel
theorem dX0_offer_8 : decode cX0_offer 8 = .ok (.aload_n 0, 1) := by decide +kernel
theorem dX0_offer_9 : decode cX0_offer 9 = .ok (.iload_n 1, 1) := by decide +kernel
theorem dX0_offer_10 : decode cX0_offer 10 = .ok (.putfield 9, 3) := by decide +kernel
theorem dX0_offer_13 : decode cX0_offer 13 = .ok (.aload_n 0, 1) := by decide +kernel
theorem dX0_offer_14 : decode cX0_offer 14 = .ok (.iload_n 2, 1) := by decide +kernel
theorem dX0_offer_15 : decode cX0_offer 15 = .ok (.putfield 15, 3) := by decide +kernel
theorem dX0_offer_18 : decode cX0_offer 18 = .ok (.return_, 1) := by decide +kernel
theorem dX1_add_0 : decode cX1_add 0 = .ok (.aload_n 0, 1) := by decide +kernel
theorem dX1_add_1 : decode cX1_add 1 = .ok (.getfield 15, 3) := by decide +kernel
theorem dX1_add_4 : decode cX1_add 4 = .ok (.ifCond .lt 12, 3) := by decide +kernel
theorem dX1_add_7 : decode cX1_add 7 = .ok (.aload_n 0, 1) := by decide +kernel
theorem dX1_add_8 : decode cX1_add 8 = .ok (.getfield 15, 3) := by decide +kernel
theorem dX1_add_11 : decode cX1_add 11 = .ok (.bipush 6, 2) := by decide +kernel
theorem dX1_add_13 : decode cX1_add 13 = .ok (.if_icmp .lt 5, 3) := by decide +kernel
theorem dX1_add_16 : decode cX1_add 16 = .ok (.iconst 0, 1) := by decide +kernel
theorem dX1_add_17 : decode cX1_add 17 = .ok (.ireturn, 1) := by decide +kernel
theorem dX1_add_18 : decode cX1_add 18 = .ok (.aload_n 0, 1) := by decide +kernel
theorem dX1_add_19 : decode cX1_add 19 = .ok (.getfield 9, 3) := by decide +kernel
theorem dX1_add_22 : decode cX1_add 22 = .ok (.aload_n 0, 1) := by decide +kernel
theorem dX1_add_23 : decode cX1_add 23 = .ok (.getfield 15, 3) := by decide +kernel
theorem dX1_add_26 : decode cX1_add 26 = .ok (.iload_n 1, 1) := by decide +kernel
theorem dX1_add_27 : decode cX1_add 27 = .ok (.iastore, 1) := by decide +kernel
theorem dX1_add_28 : decode cX1_add 28 = .ok (.aload_n 0, 1) := by decide +kernel
theorem dX1_add_29 : decode cX1_add 29 = .ok (.dup, 1) := by decide +kernel
theorem dX1_add_30 : decode cX1_add 30 = .ok (.getfield 15, 3) := by decide +kernel
theorem dX1_add_33 : decode cX1_add 33 = .ok (.iconst 1, 1) := by decide +kernel
theorem dX1_add_34 : decode cX1_add 34 = .ok (.iadd, 1) := by decide +kernel
theorem dX1_add_35 : decode cX1_add 35 = .ok (.putfield 15, 3) := by decide +kernel
theorem dX1_add_38 : decode cX1_add 38 = .ok (.iconst 1, 1) := by decide +kernel
theorem dX1_add_39 : decode cX1_add 39 = .ok (.ireturn, 1) := by decide +kernel
theorem dX1_all_0 : decode cX1_all 0 = .ok (.aload_n 0, 1) := by decide +kernel
theorem dX1_all_1 : decode cX1_all 1 = .ok (.iconst (-1), 1) := by decide +kernel
theorem dX1_all_2 : decode cX1_all 2 = .ok (.invokevirtual 19, 3) := by decide +kernel
theorem dX1_all_5 : decode cX1_all 5 = .ok (.lreturn, 1) := by decide +kernel
theorem dX1_allBut_0 : decode cX1_allBut 0 = .ok (.aload_n 0, 1) := by decide +kernel
theorem dX1_allBut_1 : decode cX1_allBut 1 = .ok (.iconst 1, 1) := by decide +kernel
theorem dX1_allBut_2 : decode cX1_allBut 2 = .ok (.iload_n 1, 1) := by decide +kernel
theorem dX1_allBut_3 : decode cX1_allBut 3 = .ok (.ishl, 1) := by decide +kernel
theorem dX1_allBut_4 : decode cX1_allBut 4 = .ok (.iconst (-1), 1) := by decide +kernel
theorem dX1_allBut_5 : decode cX1_allBut 5 = .ok (.ixor, 1) := by decide +kernel
theorem dX1_allBut_6 : decode cX1_allBut 6 = .ok (.invokevirtual 19, 3) := by decide +kernel
theorem dX1_allBut_9 : decode cX1_allBut 9 = .ok (.lreturn, 1) := by decide +kernel
theorem dX1_chosen_0 : decode cX1_chosen 0 = .ok (.lconst 0, 1) := by decide +kernel
theorem dX1_chosen_1 : decode cX1_chosen 1 = .ok (.lstore_n 2, 1) := by decide +kernel
theorem dX1_chosen_2 : decode cX1_chosen 2 = .ok (.iconst 0, 1) := by decide +kernel
theorem dX1_chosen_3 : decode cX1_chosen 3 = .ok (.istore 4, 2) := by decide +kernel
theorem dX1_chosen_5 : decode cX1_chosen 5 = .ok (.iload 4, 2) := by decide +kernel
theorem dX1_chosen_7 : decode cX1_chosen 7 = .ok (.aload_n 0, 1) := by decide +kernel
theorem dX1_chosen_8 : decode cX1_chosen 8 = .ok (.getfield 15, 3) := by decide +kernel
theorem dX1_chosen_11 : decode cX1_chosen 11 = .ok (.if_icmp .ge 31, 3) := by decide +kernel
theorem dX1_chosen_14 : decode cX1_chosen 14 = .ok (.iload_n 1, 1) := by decide +kernel
theorem dX1_chosen_15 : decode cX1_chosen 15 = .ok (.iload 4, 2) := by decide +kernel
theorem dX1_chosen_17 : decode cX1_chosen 17 = .ok (.ishr, 1) := by decide +kernel
theorem dX1_chosen_18 : decode cX1_chosen 18 = .ok (.iconst 1, 1) := by decide +kernel
theorem dX1_chosen_19 : decode cX1_chosen 19 = .ok (.iand, 1) := by decide +kernel
theorem dX1_chosen_20 : decode cX1_chosen 20 = .ok (.iconst 1, 1) := by decide +kernel
theorem dX1_chosen_21 : decode cX1_chosen 21 = .ok (.if_icmp .ne 15, 3) := by decide +kernel
theorem dX1_chosen_24 : decode cX1_chosen 24 = .ok (.lload_n 2, 1) := by decide +kernel
theorem dX1_chosen_25 : decode cX1_chosen 25 = .ok (.lconst 1, 1) := by decide +kernel
theorem dX1_chosen_26 : decode cX1_chosen 26 = .ok (.aload_n 0, 1) := by decide +kernel
theorem dX1_chosen_27 : decode cX1_chosen 27 = .ok (.getfield 9, 3) := by decide +kernel
theorem dX1_chosen_30 : decode cX1_chosen 30 = .ok (.iload 4, 2) := by decide +kernel
theorem dX1_chosen_32 : decode cX1_chosen 32 = .ok (.iaload, 1) := by decide +kernel
theorem dX1_chosen_33 : decode cX1_chosen 33 = .ok (.lshl, 1) := by decide +kernel
theorem dX1_chosen_34 : decode cX1_chosen 34 = .ok (.lor, 1) := by decide +kernel
theorem dX1_chosen_35 : decode cX1_chosen 35 = .ok (.lstore_n 2, 1) := by decide +kernel
theorem dX1_chosen_36 : decode cX1_chosen 36 = .ok (.iinc 4 1, 3) := by decide +kernel
theorem dX1_chosen_39 : decode cX1_chosen 39 = .ok (.goto (-34), 3) := by decide +kernel
theorem dX1_chosen_42 : decode cX1_chosen 42 = .ok (.lload_n 2, 1) := by decide +kernel
theorem dX1_chosen_43 : decode cX1_chosen 43 = .ok (.lreturn, 1) := by decide +kernel
theorem dX2_isLost_0 : decode cX2_isLost 0 = .ok (.aload_n 0, 1) := by decide +kernel
theorem dX2_isLost_1 : decode cX2_isLost 1 = .ok (.getfield 15, 3) := by decide +kernel
theorem dX2_isLost_4 : decode cX2_isLost 4 = .ok (.iload_n 1, 1) := by decide +kernel
theorem dX2_isLost_5 : decode cX2_isLost 5 = .ok (.iaload, 1) := by decide +kernel
theorem dX2_isLost_6 : decode cX2_isLost 6 = .ok (.iconst (-1), 1) := by decide +kernel
theorem dX2_isLost_7 : decode cX2_isLost 7 = .ok (.if_icmp .ne 7, 3) := by decide +kernel
theorem dX2_isLost_10 : decode cX2_isLost 10 = .ok (.iconst 1, 1) := by decide +kernel
theorem dX2_isLost_11 : decode cX2_isLost 11 = .ok (.goto 4, 3) := by decide +kernel
theorem dX2_isLost_14 : decode cX2_isLost 14 = .ok (.iconst 0, 1) := by decide +kernel
theorem dX2_isLost_15 : decode cX2_isLost 15 = .ok (.ireturn, 1) := by decide +kernel
theorem dX2_make_0 : decode cX2_make 0 = .ok (.aload_n 0, 1) := by decide +kernel
theorem dX2_make_1 : decode cX2_make 1 = .ok (.getfield 9, 3) := by decide +kernel
theorem dX2_make_4 : decode cX2_make 4 = .ok (.iload_n 1, 1) := by decide +kernel
theorem dX2_make_5 : decode cX2_make 5 = .ok (.iload_n 2, 1) := by decide +kernel
theorem dX2_make_6 : decode cX2_make 6 = .ok (.iastore, 1) := by decide +kernel
theorem dX2_make_7 : decode cX2_make 7 = .ok (.aload_n 0, 1) := by decide +kernel
theorem dX2_make_8 : decode cX2_make 8 = .ok (.getfield 15, 3) := by decide +kernel
theorem dX2_make_11 : decode cX2_make 11 = .ok (.iload_n 1, 1) := by decide +kernel
theorem dX2_make_12 : decode cX2_make 12 = .ok (.iload_n 3, 1) := by decide +kernel
theorem dX2_make_13 : decode cX2_make 13 = .ok (.iastore, 1) := by decide +kernel
theorem dX2_make_14 : decode cX2_make 14 = .ok (.iconst 0, 1) := by decide +kernel
theorem dX2_make_15 : decode cX2_make 15 = .ok (.istore 4, 2) := by decide +kernel
theorem dX2_make_17 : decode cX2_make 17 = .ok (.iload 4, 2) := by decide +kernel
theorem dX2_make_19 : decode cX2_make 19 = .ok (.iload_n 3, 1) := by decide +kernel
theorem dX2_make_20 : decode cX2_make 20 = .ok (.if_icmp .ge 22, 3) := by decide +kernel
theorem dX2_make_23 : decode cX2_make 23 = .ok (.aload_n 0, 1) := by decide +kernel
theorem dX2_make_24 : decode cX2_make 24 = .ok (.getfield 18, 3) := by decide +kernel
theorem dX2_make_27 : decode cX2_make 27 = .ok (.iload_n 1, 1) := by decide +kernel
theorem dX2_make_28 : decode cX2_make 28 = .ok (.bipush 60, 2) := by decide +kernel
theorem dX2_make_30 : decode cX2_make 30 = .ok (.imul, 1) := by decide +kernel
theorem dX2_make_31 : decode cX2_make 31 = .ok (.iload 4, 2) := by decide +kernel
theorem dX2_make_33 : decode cX2_make 33 = .ok (.iadd, 1) := by decide +kernel
theorem dX2_make_34 : decode cX2_make 34 = .ok (.iconst 0, 1) := by decide +kernel
theorem dX2_make_35 : decode cX2_make 35 = .ok (.iastore, 1) := by decide +kernel
theorem dX2_make_36 : decode cX2_make 36 = .ok (.iinc 4 1, 3) := by decide +kernel
theorem dX2_make_39 : decode cX2_make 39 = .ok (.goto (-22), 3) := by decide +kernel
theorem dX2_make_42 : decode cX2_make 42 = .ok (.return_, 1) := by decide +kernel
theorem dX2_wrongWith_0 : decode cX2_wrongWith 0 = .ok (.aload_n 0, 1) := by decide +kernel
theorem dX2_wrongWith_1 : decode cX2_wrongWith 1 = .ok (.iload_n 1, 1) := by decide +kernel
theorem dX2_wrongWith_2 : decode cX2_wrongWith 2 = .ok (.invokevirtual 21, 3) := by decide +kernel
theorem dX2_wrongWith_5 : decode cX2_wrongWith 5 = .ok (.ifCond .eq 5, 3) := by decide +kernel
theorem dX2_wrongWith_8 : decode cX2_wrongWith 8 = .ok (.iconst 1, 1) := by decide +kernel
theorem dX2_wrongWith_9 : decode cX2_wrongWith 9 = .ok (.ireturn, 1) := by decide +kernel
theorem dX2_wrongWith_10 : decode cX2_wrongWith 10 = .ok (.aload_n 0, 1) := by decide +kernel
theorem dX2_wrongWith_11 : decode cX2_wrongWith 11 = .ok (.getfield 9, 3) := by decide +kernel
theorem dX2_wrongWith_14 : decode cX2_wrongWith 14 = .ok (.iload_n 1, 1) := by decide +kernel
theorem dX2_wrongWith_15 : decode cX2_wrongWith 15 = .ok (.iaload, 1) := by decide +kernel
theorem dX2_wrongWith_16 : decode cX2_wrongWith 16 = .ok (.iload_n 2, 1) := by decide +kernel
theorem dX2_wrongWith_17 : decode cX2_wrongWith 17 = .ok (.if_icmp .eq 5, 3) := by decide +kernel
theorem dX2_wrongWith_20 : decode cX2_wrongWith 20 = .ok (.iconst 3, 1) := by decide +kernel
theorem dX2_wrongWith_21 : decode cX2_wrongWith 21 = .ok (.ireturn, 1) := by decide +kernel
theorem dX2_wrongWith_22 : decode cX2_wrongWith 22 = .ok (.aload_n 0, 1) := by decide +kernel
theorem dX2_wrongWith_23 : decode cX2_wrongWith 23 = .ok (.iload_n 1, 1) := by decide +kernel
theorem dX2_wrongWith_24 : decode cX2_wrongWith 24 = .ok (.iload_n 3, 1) := by decide +kernel
theorem dX2_wrongWith_25 : decode cX2_wrongWith 25 = .ok (.iconst 1, 1) := by decide +kernel
theorem dX2_wrongWith_26 : decode cX2_wrongWith 26 = .ok (.invokevirtual 25, 3) := by decide +kernel
theorem dX2_wrongWith_29 : decode cX2_wrongWith 29 = .ok (.ifCond .eq 7, 3) := by decide +kernel
theorem dX2_wrongWith_32 : decode cX2_wrongWith 32 = .ok (.iconst 0, 1) := by decide +kernel
theorem dX2_wrongWith_33 : decode cX2_wrongWith 33 = .ok (.goto 4, 3) := by decide +kernel
theorem dX2_wrongWith_36 : decode cX2_wrongWith 36 = .ok (.iconst 2, 1) := by decide +kernel
theorem dX2_wrongWith_37 : decode cX2_wrongWith 37 = .ok (.ireturn, 1) := by decide +kernel
theorem dX2_hasItems_0 : decode cX2_hasItems 0 = .ok (.iload_n 2, 1) := by decide +kernel
theorem dX2_hasItems_1 : decode cX2_hasItems 1 = .ok (.ifCond .lt 33, 3) := by decide +kernel
theorem dX2_hasItems_4 : decode cX2_hasItems 4 = .ok (.iload_n 3, 1) := by decide +kernel
theorem dX2_hasItems_5 : decode cX2_hasItems 5 = .ok (.ifCond .lt 29, 3) := by decide +kernel
theorem dX2_hasItems_8 : decode cX2_hasItems 8 = .ok (.iload_n 3, 1) := by decide +kernel
theorem dX2_hasItems_9 : decode cX2_hasItems 9 = .ok (.aload_n 0, 1) := by decide +kernel
theorem dX2_hasItems_10 : decode cX2_hasItems 10 = .ok (.getfield 15, 3) := by decide +kernel
theorem dX2_hasItems_13 : decode cX2_hasItems 13 = .ok (.iload_n 1, 1) := by decide +kernel
theorem dX2_hasItems_14 : decode cX2_hasItems 14 = .ok (.iaload, 1) := by decide +kernel
theorem dX2_hasItems_15 : decode cX2_hasItems 15 = .ok (.if_icmp .gt 19, 3) := by decide +kernel
theorem dX2_hasItems_18 : decode cX2_hasItems 18 = .ok (.iload_n 2, 1) := by decide +kernel
theorem dX2_hasItems_19 : decode cX2_hasItems 19 = .ok (.aload_n 0, 1) := by decide +kernel
theorem dX2_hasItems_20 : decode cX2_hasItems 20 = .ok (.getfield 15, 3) := by decide +kernel
theorem dX2_hasItems_23 : decode cX2_hasItems 23 = .ok (.iload_n 1, 1) := by decide +kernel
theorem dX2_hasItems_24 : decode cX2_hasItems 24 = .ok (.iaload, 1) := by decide +kernel
theorem dX2_hasItems_25 : decode cX2_hasItems 25 = .ok (.iload_n 3, 1) := by decide +kernel
theorem dX2_hasItems_26 : decode cX2_hasItems 26 = .ok (.isub, 1) := by decide +kernel
theorem dX2_hasItems_27 : decode cX2_hasItems 27 = .ok (.if_icmp .gt 7, 3) := by decide +kernel
theorem dX2_hasItems_30 : decode cX2_hasItems 30 = .ok (.iconst 1, 1) := by decide +kernel
theorem dX2_hasItems_31 : decode cX2_hasItems 31 = .ok (.goto 4, 3) := by decide +kernel
theorem dX2_hasItems_34 : decode cX2_hasItems 34 = .ok (.iconst 0, 1) := by decide +kernel
theorem dX2_hasItems_35 : decode cX2_hasItems 35 = .ok (.ireturn, 1) := by decide +kernel
theorem dX2_item_0 : decode cX2_item 0 = .ok (.aload_n 0, 1) := by decide +kernel
theorem dX2_item_1 : decode cX2_item 1 = .ok (.getfield 18, 3) := by decide +kernel
theorem dX2_item_4 : decode cX2_item 4 = .ok (.iload_n 1, 1) := by decide +kernel
theorem dX2_item_5 : decode cX2_item 5 = .ok (.bipush 60, 2) := by decide +kernel
theorem dX2_item_7 : decode cX2_item 7 = .ok (.imul, 1) := by decide +kernel
theorem dX2_item_8 : decode cX2_item 8 = .ok (.iload_n 2, 1) := by decide +kernel
theorem dX2_item_9 : decode cX2_item 9 = .ok (.iadd, 1) := by decide +kernel
theorem dX2_item_10 : decode cX2_item 10 = .ok (.iaload, 1) := by decide +kernel
theorem dX2_item_11 : decode cX2_item 11 = .ok (.ireturn, 1) := by decide +kernel
theorem dX2_store_0 : decode cX2_store 0 = .ok (.aload_n 0, 1) := by decide +kernel
theorem dX2_store_1 : decode cX2_store 1 = .ok (.getfield 9, 3) := by decide +kernel
theorem dX2_store_4 : decode cX2_store 4 = .ok (.iload_n 1, 1) := by decide +kernel
theorem dX2_store_5 : decode cX2_store 5 = .ok (.iaload, 1) := by decide +kernel
theorem dX2_store_6 : decode cX2_store 6 = .ok (.ifCond .ne 8, 3) := by decide +kernel
theorem dX2_store_9 : decode cX2_store 9 = .ok (.iload_n 3, 1) := by decide +kernel
theorem dX2_store_10 : decode cX2_store 10 = .ok (.i2b, 1) := by decide +kernel
theorem dX2_store_11 : decode cX2_store 11 = .ok (.goto 19, 3) := by decide +kernel
theorem dX2_store_14 : decode cX2_store 14 = .ok (.aload_n 0, 1) := by decide +kernel
theorem dX2_store_15 : decode cX2_store 15 = .ok (.getfield 9, 3) := by decide +kernel
theorem dX2_store_18 : decode cX2_store 18 = .ok (.iload_n 1, 1) := by decide +kernel
theorem dX2_store_19 : decode cX2_store 19 = .ok (.iaload, 1) := by decide +kernel
theorem dX2_store_20 : decode cX2_store 20 = .ok (.iconst 1, 1) := by decide +kernel
theorem dX2_store_21 : decode cX2_store 21 = .ok (.if_icmp .ne 8, 3) := by decide +kernel
theorem dX2_store_24 : decode cX2_store 24 = .ok (.iload_n 3, 1) := by decide +kernel
theorem dX2_store_25 : decode cX2_store 25 = .ok (.i2s, 1) := by decide +kernel
theorem dX2_store_26 : decode cX2_store 26 = .ok (.goto 4, 3) := by decide +kernel
theorem dX2_store_29 : decode cX2_store 29 = .ok (.iload_n 3, 1) := by decide +kernel
theorem dX2_store_30 : decode cX2_store 30 = .ok (.istore 4, 2) := by decide +kernel
theorem dX2_store_32 : decode cX2_store 32 = .ok (.aload_n 0, 1) := by decide +kernel
theorem dX2_store_33 : decode cX2_store 33 = .ok (.getfield 18, 3) := by decide +kernel
theorem dX2_store_36 : decode cX2_store 36 = .ok (.iload_n 1, 1) := by decide +kernel
theorem dX2_store_37 : decode cX2_store 37 = .ok (.bipush 60, 2) := by decide +kernel
theorem dX2_store_39 : decode cX2_store 39 = .ok (.imul, 1) := by decide +kernel
theorem dX2_store_40 : decode cX2_store 40 = .ok (.iload_n 2, 1) := by decide +kernel
theorem dX2_store_41 : decode cX2_store 41 = .ok (.iadd, 1) := by decide +kernel
theorem dX2_store_42 : decode cX2_store 42 = .ok (.iload 4, 2) := by decide +kernel
theorem dX2_store_44 : decode cX2_store 44 = .ok (.iastore, 1) := by decide +kernel
theorem dX2_store_45 : decode cX2_store 45 = .ok (.return_, 1) := by decide +kernel
theorem dX3_add_0 : decode cX3_add 0 = .ok (.aload_n 0, 1) := by decide +kernel
theorem dX3_add_1 : decode cX3_add 1 = .ok (.getfield 21, 3) := by decide +kernel
theorem dX3_add_4 : decode cX3_add 4 = .ok (.ifCond .lt 12, 3) := by decide +kernel
theorem dX3_add_7 : decode cX3_add 7 = .ok (.aload_n 0, 1) := by decide +kernel
theorem dX3_add_8 : decode cX3_add 8 = .ok (.getfield 21, 3) := by decide +kernel
theorem dX3_add_11 : decode cX3_add 11 = .ok (.bipush 8, 2) := by decide +kernel
theorem dX3_add_13 : decode cX3_add 13 = .ok (.if_icmp .lt 5, 3) := by decide +kernel
theorem dX3_add_16 : decode cX3_add 16 = .ok (.iconst 0, 1) := by decide +kernel
theorem dX3_add_17 : decode cX3_add 17 = .ok (.ireturn, 1) := by decide +kernel
theorem dX3_add_18 : decode cX3_add 18 = .ok (.aload_n 0, 1) := by decide +kernel
theorem dX3_add_19 : decode cX3_add 19 = .ok (.getfield 9, 3) := by decide +kernel
theorem dX3_add_22 : decode cX3_add 22 = .ok (.aload_n 0, 1) := by decide +kernel
theorem dX3_add_23 : decode cX3_add 23 = .ok (.getfield 21, 3) := by decide +kernel
theorem dX3_add_26 : decode cX3_add 26 = .ok (.iload_n 1, 1) := by decide +kernel
theorem dX3_add_27 : decode cX3_add 27 = .ok (.iastore, 1) := by decide +kernel
theorem dX3_add_28 : decode cX3_add 28 = .ok (.aload_n 0, 1) := by decide +kernel
theorem dX3_add_29 : decode cX3_add 29 = .ok (.getfield 15, 3) := by decide +kernel
theorem dX3_add_32 : decode cX3_add 32 = .ok (.aload_n 0, 1) := by decide +kernel
theorem dX3_add_33 : decode cX3_add 33 = .ok (.getfield 21, 3) := by decide +kernel
theorem dX3_add_36 : decode cX3_add 36 = .ok (.iload_n 2, 1) := by decide +kernel
theorem dX3_add_37 : decode cX3_add 37 = .ok (.iastore, 1) := by decide +kernel
theorem dX3_add_38 : decode cX3_add 38 = .ok (.aload_n 0, 1) := by decide +kernel
theorem dX3_add_39 : decode cX3_add 39 = .ok (.getfield 18, 3) := by decide +kernel
theorem dX3_add_42 : decode cX3_add 42 = .ok (.aload_n 0, 1) := by decide +kernel
theorem dX3_add_43 : decode cX3_add 43 = .ok (.getfield 21, 3) := by decide +kernel
theorem dX3_add_46 : decode cX3_add 46 = .ok (.iload_n 3, 1) := by decide +kernel
theorem dX3_add_47 : decode cX3_add 47 = .ok (.bipush 8, 2) := by decide +kernel
theorem dX3_add_49 : decode cX3_add 49 = .ok (.if_icmp .ne 7, 3) := by decide +kernel
theorem dX3_add_52 : decode cX3_add 52 = .ok (.iconst (-1), 1) := by decide +kernel
theorem dX3_add_53 : decode cX3_add 53 = .ok (.goto 4, 3) := by decide +kernel
theorem dX3_add_56 : decode cX3_add 56 = .ok (.iload_n 3, 1) := by decide +kernel
theorem dX3_add_57 : decode cX3_add 57 = .ok (.iastore, 1) := by decide +kernel
theorem dX3_add_58 : decode cX3_add 58 = .ok (.aload_n 0, 1) := by decide +kernel
theorem dX3_add_59 : decode cX3_add 59 = .ok (.dup, 1) := by decide +kernel
theorem dX3_add_60 : decode cX3_add 60 = .ok (.getfield 21, 3) := by decide +kernel
theorem dX3_add_63 : decode cX3_add 63 = .ok (.iconst 1, 1) := by decide +kernel
theorem dX3_add_64 : decode cX3_add 64 = .ok (.iadd, 1) := by decide +kernel
theorem dX3_add_65 : decode cX3_add 65 = .ok (.putfield 21, 3) := by decide +kernel
theorem dX3_add_68 : decode cX3_add 68 = .ok (.iconst 1, 1) := by decide +kernel
theorem dX3_add_69 : decode cX3_add 69 = .ok (.ireturn, 1) := by decide +kernel
theorem dX3_agree_0 : decode cX3_agree 0 = .ok (.iconst 0, 1) := by decide +kernel
theorem dX3_agree_1 : decode cX3_agree 1 = .ok (.istore_n 2, 1) := by decide +kernel
theorem dX3_agree_2 : decode cX3_agree 2 = .ok (.iload_n 2, 1) := by decide +kernel
theorem dX3_agree_3 : decode cX3_agree 3 = .ok (.aload_n 0, 1) := by decide +kernel
theorem dX3_agree_4 : decode cX3_agree 4 = .ok (.getfield 21, 3) := by decide +kernel
theorem dX3_agree_7 : decode cX3_agree 7 = .ok (.if_icmp .ge 52, 3) := by decide +kernel
theorem dX3_agree_10 : decode cX3_agree 10 = .ok (.aload_n 0, 1) := by decide +kernel
theorem dX3_agree_11 : decode cX3_agree 11 = .ok (.getfield 9, 3) := by decide +kernel
theorem dX3_agree_14 : decode cX3_agree 14 = .ok (.iload_n 2, 1) := by decide +kernel
theorem dX3_agree_15 : decode cX3_agree 15 = .ok (.iaload, 1) := by decide +kernel
theorem dX3_agree_16 : decode cX3_agree 16 = .ok (.aload_n 1, 1) := by decide +kernel
theorem dX3_agree_17 : decode cX3_agree 17 = .ok (.getfield 25, 3) := by decide +kernel
theorem dX3_agree_20 : decode cX3_agree 20 = .ok (.getfield 31, 3) := by decide +kernel
theorem dX3_agree_23 : decode cX3_agree 23 = .ok (.if_icmp .ge 28, 3) := by decide +kernel
theorem dX3_agree_26 : decode cX3_agree 26 = .ok (.aload_n 1, 1) := by decide +kernel
theorem dX3_agree_27 : decode cX3_agree 27 = .ok (.aload_n 0, 1) := by decide +kernel
theorem dX3_agree_28 : decode cX3_agree 28 = .ok (.getfield 9, 3) := by decide +kernel
theorem dX3_agree_31 : decode cX3_agree 31 = .ok (.iload_n 2, 1) := by decide +kernel
theorem dX3_agree_32 : decode cX3_agree 32 = .ok (.iaload, 1) := by decide +kernel
theorem dX3_agree_33 : decode cX3_agree 33 = .ok (.aload_n 0, 1) := by decide +kernel
theorem dX3_agree_34 : decode cX3_agree 34 = .ok (.getfield 15, 3) := by decide +kernel
theorem dX3_agree_37 : decode cX3_agree 37 = .ok (.iload_n 2, 1) := by decide +kernel
theorem dX3_agree_38 : decode cX3_agree 38 = .ok (.iaload, 1) := by decide +kernel
theorem dX3_agree_39 : decode cX3_agree 39 = .ok (.invokevirtual 36, 3) := by decide +kernel
theorem dX3_agree_42 : decode cX3_agree 42 = .ok (.aload_n 0, 1) := by decide +kernel
theorem dX3_agree_43 : decode cX3_agree 43 = .ok (.getfield 18, 3) := by decide +kernel
theorem dX3_agree_46 : decode cX3_agree 46 = .ok (.iload_n 2, 1) := by decide +kernel
theorem dX3_agree_47 : decode cX3_agree 47 = .ok (.iaload, 1) := by decide +kernel
theorem dX3_agree_48 : decode cX3_agree 48 = .ok (.if_icmp .eq 5, 3) := by decide +kernel
theorem dX3_agree_51 : decode cX3_agree 51 = .ok (.iconst 0, 1) := by decide +kernel
theorem dX3_agree_52 : decode cX3_agree 52 = .ok (.ireturn, 1) := by decide +kernel
theorem dX3_agree_53 : decode cX3_agree 53 = .ok (.iinc 2 1, 3) := by decide +kernel
theorem dX3_agree_56 : decode cX3_agree 56 = .ok (.goto (-54), 3) := by decide +kernel
theorem dX3_agree_59 : decode cX3_agree 59 = .ok (.iconst 1, 1) := by decide +kernel
theorem dX3_agree_60 : decode cX3_agree 60 = .ok (.ireturn, 1) := by decide +kernel
theorem dX4_append_0 : decode cX4_append 0 = .ok (.aload_n 0, 1) := by decide +kernel
theorem dX4_append_1 : decode cX4_append 1 = .ok (.getfield 7, 3) := by decide +kernel
theorem dX4_append_4 : decode cX4_append 4 = .ok (.ifCond .lt 15, 3) := by decide +kernel
theorem dX4_append_7 : decode cX4_append 7 = .ok (.aload_n 0, 1) := by decide +kernel
theorem dX4_append_8 : decode cX4_append 8 = .ok (.getfield 7, 3) := by decide +kernel
theorem dX4_append_11 : decode cX4_append 11 = .ok (.aload_n 0, 1) := by decide +kernel
theorem dX4_append_12 : decode cX4_append 12 = .ok (.getfield 13, 3) := by decide +kernel
theorem dX4_append_15 : decode cX4_append 15 = .ok (.arraylength, 1) := by decide +kernel
theorem dX4_append_16 : decode cX4_append 16 = .ok (.if_icmp .lt 5, 3) := by decide +kernel
theorem dX4_append_19 : decode cX4_append 19 = .ok (.iconst 0, 1) := by decide +kernel
theorem dX4_append_20 : decode cX4_append 20 = .ok (.ireturn, 1) := by decide +kernel
theorem dX4_append_21 : decode cX4_append 21 = .ok (.aload_n 0, 1) := by decide +kernel
theorem dX4_append_22 : decode cX4_append 22 = .ok (.getfield 13, 3) := by decide +kernel
theorem dX4_append_25 : decode cX4_append 25 = .ok (.aload_n 0, 1) := by decide +kernel
theorem dX4_append_26 : decode cX4_append 26 = .ok (.getfield 7, 3) := by decide +kernel
theorem dX4_append_29 : decode cX4_append 29 = .ok (.iload_n 1, 1) := by decide +kernel
theorem dX4_append_30 : decode cX4_append 30 = .ok (.iastore, 1) := by decide +kernel
theorem dX4_append_31 : decode cX4_append 31 = .ok (.aload_n 0, 1) := by decide +kernel
theorem dX4_append_32 : decode cX4_append 32 = .ok (.dup, 1) := by decide +kernel
theorem dX4_append_33 : decode cX4_append 33 = .ok (.getfield 7, 3) := by decide +kernel
theorem dX4_append_36 : decode cX4_append 36 = .ok (.iconst 1, 1) := by decide +kernel
theorem dX4_append_37 : decode cX4_append 37 = .ok (.iadd, 1) := by decide +kernel
theorem dX4_append_38 : decode cX4_append 38 = .ok (.putfield 7, 3) := by decide +kernel
theorem dX4_append_41 : decode cX4_append 41 = .ok (.iconst 1, 1) := by decide +kernel
theorem dX4_append_42 : decode cX4_append 42 = .ok (.ireturn, 1) := by decide +kernel
theorem dX5_readFloors_0 : decode cX5_readFloors 0 = .ok (.aload_n 0, 1) := by decide +kernel
theorem dX5_readFloors_1 : decode cX5_readFloors 1 = .ok (.aload_n 0, 1) := by decide +kernel
theorem dX5_readFloors_2 : decode cX5_readFloors 2 = .ok (.aload_n 1, 1) := by decide +kernel
theorem dX5_readFloors_3 : decode cX5_readFloors 3 = .ok (.invokevirtual 52, 3) := by decide +kernel
theorem dX5_readFloors_6 : decode cX5_readFloors 6 = .ok (.putfield 15, 3) := by decide +kernel
theorem dX5_readFloors_9 : decode cX5_readFloors 9 = .ok (.aload_n 0, 1) := by decide +kernel
theorem dX5_readFloors_10 : decode cX5_readFloors 10 = .ok (.aload_n 0, 1) := by decide +kernel
theorem dX5_readFloors_11 : decode cX5_readFloors 11 = .ok (.getfield 15, 3) := by decide +kernel
theorem dX5_readFloors_14 : decode cX5_readFloors 14 = .ok (.iconst (-1), 1) := by decide +kernel
theorem dX5_readFloors_15 : decode cX5_readFloors 15 = .ok (.if_icmp .ne 14, 3) := by decide +kernel
theorem dX5_readFloors_18 : decode cX5_readFloors 18 = .ok (.aload_n 1, 1) := by decide +kernel
theorem dX5_readFloors_19 : decode cX5_readFloors 19 = .ok (.getfield 56, 3) := by decide +kernel
theorem dX5_readFloors_22 : decode cX5_readFloors 22 = .ok (.iconst 1, 1) := by decide +kernel
theorem dX5_readFloors_23 : decode cX5_readFloors 23 = .ok (.iadd, 1) := by decide +kernel
theorem dX5_readFloors_24 : decode cX5_readFloors 24 = .ok (.iconst 4, 1) := by decide +kernel
theorem dX5_readFloors_25 : decode cX5_readFloors 25 = .ok (.idiv, 1) := by decide +kernel
theorem dX5_readFloors_26 : decode cX5_readFloors 26 = .ok (.goto 4, 3) := by decide +kernel
theorem dX5_readFloors_29 : decode cX5_readFloors 29 = .ok (.iconst 0, 1) := by decide +kernel
theorem dX5_readFloors_30 : decode cX5_readFloors 30 = .ok (.putfield 9, 3) := by decide +kernel
theorem dX5_readFloors_33 : decode cX5_readFloors 33 = .ok (.return_, 1) := by decide +kernel
theorem dX5_takeFloors_0 : decode cX5_takeFloors 0 = .ok (.iconst 0, 1) := by decide +kernel
theorem dX5_takeFloors_1 : decode cX5_takeFloors 1 = .ok (.istore_n 2, 1) := by decide +kernel
theorem dX5_takeFloors_2 : decode cX5_takeFloors 2 = .ok (.iload_n 2, 1) := by decide +kernel
theorem dX5_takeFloors_3 : decode cX5_takeFloors 3 = .ok (.aload_n 1, 1) := by decide +kernel
theorem dX5_takeFloors_4 : decode cX5_takeFloors 4 = .ok (.getfield 56, 3) := by decide +kernel
theorem dX5_takeFloors_7 : decode cX5_takeFloors 7 = .ok (.if_icmp .ge 130, 3) := by decide +kernel
theorem dX5_takeFloors_10 : decode cX5_takeFloors 10 = .ok (.aload_n 1, 1) := by decide +kernel
theorem dX5_takeFloors_11 : decode cX5_takeFloors 11 = .ok (.getfield 61, 3) := by decide +kernel
theorem dX5_takeFloors_14 : decode cX5_takeFloors 14 = .ok (.iload_n 2, 1) := by decide +kernel
theorem dX5_takeFloors_15 : decode cX5_takeFloors 15 = .ok (.iaload, 1) := by decide +kernel
theorem dX5_takeFloors_16 : decode cX5_takeFloors 16 = .ok (.istore_n 3, 1) := by decide +kernel
theorem dX5_takeFloors_17 : decode cX5_takeFloors 17 = .ok (.iload_n 2, 1) := by decide +kernel
theorem dX5_takeFloors_18 : decode cX5_takeFloors 18 = .ok (.iconst 4, 1) := by decide +kernel
theorem dX5_takeFloors_19 : decode cX5_takeFloors 19 = .ok (.idiv, 1) := by decide +kernel
theorem dX5_takeFloors_20 : decode cX5_takeFloors 20 = .ok (.istore 4, 2) := by decide +kernel
theorem dX5_takeFloors_22 : decode cX5_takeFloors 22 = .ok (.iload_n 2, 1) := by decide +kernel
theorem dX5_takeFloors_23 : decode cX5_takeFloors 23 = .ok (.iconst 4, 1) := by decide +kernel
theorem dX5_takeFloors_24 : decode cX5_takeFloors 24 = .ok (.irem, 1) := by decide +kernel
theorem dX5_takeFloors_25 : decode cX5_takeFloors 25 = .ok (.istore 5, 2) := by decide +kernel
theorem dX5_takeFloors_27 : decode cX5_takeFloors 27 = .ok (.iload 4, 2) := by decide +kernel
theorem dX5_takeFloors_29 : decode cX5_takeFloors 29 = .ok (.bipush 9, 2) := by decide +kernel
theorem dX5_takeFloors_31 : decode cX5_takeFloors 31 = .ok (.if_icmp .lt 5, 3) := by decide +kernel
theorem dX5_takeFloors_34 : decode cX5_takeFloors 34 = .ok (.iload_n 2, 1) := by decide +kernel
theorem dX5_takeFloors_35 : decode cX5_takeFloors 35 = .ok (.ireturn, 1) := by decide +kernel
theorem dX5_takeFloors_36 : decode cX5_takeFloors 36 = .ok (.iload 5, 2) := by decide +kernel
theorem dX5_takeFloors_38 : decode cX5_takeFloors 38 = .ok (.ifCond .ne 25, 3) := by decide +kernel
theorem dX5_takeFloors_41 : decode cX5_takeFloors 41 = .ok (.iload_n 3, 1) := by decide +kernel
theorem dX5_takeFloors_42 : decode cX5_takeFloors 42 = .ok (.invokestatic 64, 3) := by decide +kernel
theorem dX5_takeFloors_45 : decode cX5_takeFloors 45 = .ok (.iconst (-1), 1) := by decide +kernel
theorem dX5_takeFloors_46 : decode cX5_takeFloors 46 = .ok (.if_icmp .eq 17, 3) := by decide +kernel
theorem dX5_takeFloors_49 : decode cX5_takeFloors 49 = .ok (.aload_n 0, 1) := by decide +kernel
theorem dX5_takeFloors_50 : decode cX5_takeFloors 50 = .ok (.getfield 18, 3) := by decide +kernel
theorem dX5_takeFloors_53 : decode cX5_takeFloors 53 = .ok (.iload 4, 2) := by decide +kernel
theorem dX5_takeFloors_55 : decode cX5_takeFloors 55 = .ok (.iload_n 3, 1) := by decide +kernel
theorem dX5_takeFloors_56 : decode cX5_takeFloors 56 = .ok (.invokestatic 64, 3) := by decide +kernel
theorem dX5_takeFloors_59 : decode cX5_takeFloors 59 = .ok (.iastore, 1) := by decide +kernel
theorem dX5_takeFloors_60 : decode cX5_takeFloors 60 = .ok (.goto 71, 3) := by decide +kernel
theorem dX5_takeFloors_63 : decode cX5_takeFloors 63 = .ok (.iload 5, 2) := by decide +kernel
theorem dX5_takeFloors_65 : decode cX5_takeFloors 65 = .ok (.iconst 1, 1) := by decide +kernel
theorem dX5_takeFloors_66 : decode cX5_takeFloors 66 = .ok (.if_icmp .ne 24, 3) := by decide +kernel
theorem dX5_takeFloors_69 : decode cX5_takeFloors 69 = .ok (.iload_n 3, 1) := by decide +kernel
theorem dX5_takeFloors_70 : decode cX5_takeFloors 70 = .ok (.invokestatic 68, 3) := by decide +kernel
theorem dX5_takeFloors_73 : decode cX5_takeFloors 73 = .ok (.ifCond .eq 17, 3) := by decide +kernel
theorem dX5_takeFloors_76 : decode cX5_takeFloors 76 = .ok (.aload_n 0, 1) := by decide +kernel
theorem dX5_takeFloors_77 : decode cX5_takeFloors 77 = .ok (.getfield 22, 3) := by decide +kernel
theorem dX5_takeFloors_80 : decode cX5_takeFloors 80 = .ok (.iload 4, 2) := by decide +kernel
theorem dX5_takeFloors_82 : decode cX5_takeFloors 82 = .ok (.iload_n 3, 1) := by decide +kernel
theorem dX5_takeFloors_83 : decode cX5_takeFloors 83 = .ok (.bipush 48, 2) := by decide +kernel
theorem dX5_takeFloors_85 : decode cX5_takeFloors 85 = .ok (.isub, 1) := by decide +kernel
theorem dX5_takeFloors_86 : decode cX5_takeFloors 86 = .ok (.iastore, 1) := by decide +kernel
theorem dX5_takeFloors_87 : decode cX5_takeFloors 87 = .ok (.goto 44, 3) := by decide +kernel
theorem dX5_takeFloors_90 : decode cX5_takeFloors 90 = .ok (.iload 5, 2) := by decide +kernel
theorem dX5_takeFloors_92 : decode cX5_takeFloors 92 = .ok (.iconst 2, 1) := by decide +kernel
theorem dX5_takeFloors_93 : decode cX5_takeFloors 93 = .ok (.if_icmp .ne 24, 3) := by decide +kernel
theorem dX5_takeFloors_96 : decode cX5_takeFloors 96 = .ok (.iload_n 3, 1) := by decide +kernel
theorem dX5_takeFloors_97 : decode cX5_takeFloors 97 = .ok (.invokestatic 72, 3) := by decide +kernel
theorem dX5_takeFloors_100 : decode cX5_takeFloors 100 = .ok (.ifCond .eq 17, 3) := by decide +kernel
theorem dX5_takeFloors_103 : decode cX5_takeFloors 103 = .ok (.aload_n 0, 1) := by decide +kernel
theorem dX5_takeFloors_104 : decode cX5_takeFloors 104 = .ok (.getfield 25, 3) := by decide +kernel
theorem dX5_takeFloors_107 : decode cX5_takeFloors 107 = .ok (.iload 4, 2) := by decide +kernel
theorem dX5_takeFloors_109 : decode cX5_takeFloors 109 = .ok (.iload_n 3, 1) := by decide +kernel
theorem dX5_takeFloors_110 : decode cX5_takeFloors 110 = .ok (.bipush 97, 2) := by decide +kernel
theorem dX5_takeFloors_112 : decode cX5_takeFloors 112 = .ok (.isub, 1) := by decide +kernel
theorem dX5_takeFloors_113 : decode cX5_takeFloors 113 = .ok (.iastore, 1) := by decide +kernel
theorem dX5_takeFloors_114 : decode cX5_takeFloors 114 = .ok (.goto 17, 3) := by decide +kernel
theorem dX5_takeFloors_117 : decode cX5_takeFloors 117 = .ok (.iload 5, 2) := by decide +kernel
theorem dX5_takeFloors_119 : decode cX5_takeFloors 119 = .ok (.iconst 3, 1) := by decide +kernel
theorem dX5_takeFloors_120 : decode cX5_takeFloors 120 = .ok (.if_icmp .ne 9, 3) := by decide +kernel
theorem dX5_takeFloors_123 : decode cX5_takeFloors 123 = .ok (.iload_n 3, 1) := by decide +kernel
theorem dX5_takeFloors_124 : decode cX5_takeFloors 124 = .ok (.bipush 59, 2) := by decide +kernel
theorem dX5_takeFloors_126 : decode cX5_takeFloors 126 = .ok (.if_icmp .eq 5, 3) := by decide +kernel
theorem dX5_takeFloors_129 : decode cX5_takeFloors 129 = .ok (.iload_n 2, 1) := by decide +kernel
theorem dX5_takeFloors_130 : decode cX5_takeFloors 130 = .ok (.ireturn, 1) := by decide +kernel
theorem dX5_takeFloors_131 : decode cX5_takeFloors 131 = .ok (.iinc 2 1, 3) := by decide +kernel
theorem dX5_takeFloors_134 : decode cX5_takeFloors 134 = .ok (.goto (-132), 3) := by decide +kernel
theorem dX5_takeFloors_137 : decode cX5_takeFloors 137 = .ok (.aload_n 1, 1) := by decide +kernel
theorem dX5_takeFloors_138 : decode cX5_takeFloors 138 = .ok (.getfield 56, 3) := by decide +kernel
theorem dX5_takeFloors_141 : decode cX5_takeFloors 141 = .ok (.ifCond .eq 13, 3) := by decide +kernel
theorem dX5_takeFloors_144 : decode cX5_takeFloors 144 = .ok (.aload_n 1, 1) := by decide +kernel
theorem dX5_takeFloors_145 : decode cX5_takeFloors 145 = .ok (.getfield 56, 3) := by decide +kernel
theorem dX5_takeFloors_148 : decode cX5_takeFloors 148 = .ok (.iconst 4, 1) := by decide +kernel
theorem dX5_takeFloors_149 : decode cX5_takeFloors 149 = .ok (.irem, 1) := by decide +kernel
theorem dX5_takeFloors_150 : decode cX5_takeFloors 150 = .ok (.iconst 3, 1) := by decide +kernel
theorem dX5_takeFloors_151 : decode cX5_takeFloors 151 = .ok (.if_icmp .ne 7, 3) := by decide +kernel
theorem dX5_takeFloors_154 : decode cX5_takeFloors 154 = .ok (.iconst (-1), 1) := by decide +kernel
theorem dX5_takeFloors_155 : decode cX5_takeFloors 155 = .ok (.goto 7, 3) := by decide +kernel
theorem dX5_takeFloors_158 : decode cX5_takeFloors 158 = .ok (.aload_n 1, 1) := by decide +kernel
theorem dX5_takeFloors_159 : decode cX5_takeFloors 159 = .ok (.getfield 56, 3) := by decide +kernel
theorem dX5_takeFloors_162 : decode cX5_takeFloors 162 = .ok (.ireturn, 1) := by decide +kernel
theorem dX5_readBaskets_0 : decode cX5_readBaskets 0 = .ok (.aload_n 0, 1) := by decide +kernel
theorem dX5_readBaskets_1 : decode cX5_readBaskets 1 = .ok (.iconst 0, 1) := by decide +kernel
theorem dX5_readBaskets_2 : decode cX5_readBaskets 2 = .ok (.putfield 28, 3) := by decide +kernel
theorem dX5_readBaskets_5 : decode cX5_readBaskets 5 = .ok (.aload_n 0, 1) := by decide +kernel
theorem dX5_readBaskets_6 : decode cX5_readBaskets 6 = .ok (.aload_n 0, 1) := by decide +kernel
theorem dX5_readBaskets_7 : decode cX5_readBaskets 7 = .ok (.aload_n 1, 1) := by decide +kernel
theorem dX5_readBaskets_8 : decode cX5_readBaskets 8 = .ok (.invokevirtual 75, 3) := by decide +kernel
theorem dX5_readBaskets_11 : decode cX5_readBaskets 11 = .ok (.putfield 31, 3) := by decide +kernel
theorem dX5_readBaskets_14 : decode cX5_readBaskets 14 = .ok (.aload_n 0, 1) := by decide +kernel
theorem dX5_readBaskets_15 : decode cX5_readBaskets 15 = .ok (.getfield 31, 3) := by decide +kernel
theorem dX5_readBaskets_18 : decode cX5_readBaskets 18 = .ok (.iconst (-1), 1) := by decide +kernel
theorem dX5_readBaskets_19 : decode cX5_readBaskets 19 = .ok (.if_icmp .eq 8, 3) := by decide +kernel
theorem dX5_readBaskets_22 : decode cX5_readBaskets 22 = .ok (.aload_n 0, 1) := by decide +kernel
theorem dX5_readBaskets_23 : decode cX5_readBaskets 23 = .ok (.iconst 0, 1) := by decide +kernel
theorem dX5_readBaskets_24 : decode cX5_readBaskets 24 = .ok (.putfield 28, 3) := by decide +kernel
theorem dX5_readBaskets_27 : decode cX5_readBaskets 27 = .ok (.return_, 1) := by decide +kernel
theorem dX5_takeBaskets_0 : decode cX5_takeBaskets 0 = .ok (.iconst 0, 1) := by decide +kernel
theorem dX5_takeBaskets_1 : decode cX5_takeBaskets 1 = .ok (.istore_n 2, 1) := by decide +kernel
theorem dX5_takeBaskets_2 : decode cX5_takeBaskets 2 = .ok (.iconst 0, 1) := by decide +kernel
theorem dX5_takeBaskets_3 : decode cX5_takeBaskets 3 = .ok (.istore_n 3, 1) := by decide +kernel
theorem dX5_takeBaskets_4 : decode cX5_takeBaskets 4 = .ok (.iload_n 3, 1) := by decide +kernel
theorem dX5_takeBaskets_5 : decode cX5_takeBaskets 5 = .ok (.aload_n 1, 1) := by decide +kernel
theorem dX5_takeBaskets_6 : decode cX5_takeBaskets 6 = .ok (.getfield 56, 3) := by decide +kernel
theorem dX5_takeBaskets_9 : decode cX5_takeBaskets 9 = .ok (.if_icmp .ge 59, 3) := by decide +kernel
theorem dX5_takeBaskets_12 : decode cX5_takeBaskets 12 = .ok (.aload_n 1, 1) := by decide +kernel
theorem dX5_takeBaskets_13 : decode cX5_takeBaskets 13 = .ok (.getfield 61, 3) := by decide +kernel
theorem dX5_takeBaskets_16 : decode cX5_takeBaskets 16 = .ok (.iload_n 3, 1) := by decide +kernel
theorem dX5_takeBaskets_17 : decode cX5_takeBaskets 17 = .ok (.iaload, 1) := by decide +kernel
theorem dX5_takeBaskets_18 : decode cX5_takeBaskets 18 = .ok (.istore 4, 2) := by decide +kernel
theorem dX5_takeBaskets_20 : decode cX5_takeBaskets 20 = .ok (.iload_n 2, 1) := by decide +kernel
theorem dX5_takeBaskets_21 : decode cX5_takeBaskets 21 = .ok (.iconst 4, 1) := by decide +kernel
theorem dX5_takeBaskets_22 : decode cX5_takeBaskets 22 = .ok (.if_icmp .le 15, 3) := by decide +kernel
theorem dX5_takeBaskets_25 : decode cX5_takeBaskets 25 = .ok (.iload 4, 2) := by decide +kernel
theorem dX5_takeBaskets_27 : decode cX5_takeBaskets 27 = .ok (.bipush 59, 2) := by decide +kernel
theorem dX5_takeBaskets_29 : decode cX5_takeBaskets 29 = .ok (.if_icmp .ne 8, 3) := by decide +kernel
theorem dX5_takeBaskets_32 : decode cX5_takeBaskets 32 = .ok (.iconst 0, 1) := by decide +kernel
theorem dX5_takeBaskets_33 : decode cX5_takeBaskets 33 = .ok (.istore_n 2, 1) := by decide +kernel
theorem dX5_takeBaskets_34 : decode cX5_takeBaskets 34 = .ok (.goto 28, 3) := by decide +kernel
theorem dX5_takeBaskets_37 : decode cX5_takeBaskets 37 = .ok (.aload_n 0, 1) := by decide +kernel
theorem dX5_takeBaskets_38 : decode cX5_takeBaskets 38 = .ok (.iload_n 2, 1) := by decide +kernel
theorem dX5_takeBaskets_39 : decode cX5_takeBaskets 39 = .ok (.iload 4, 2) := by decide +kernel
theorem dX5_takeBaskets_41 : decode cX5_takeBaskets 41 = .ok (.invokevirtual 78, 3) := by decide +kernel
theorem dX5_takeBaskets_44 : decode cX5_takeBaskets 44 = .ok (.ifCond .eq 16, 3) := by decide +kernel
theorem dX5_takeBaskets_47 : decode cX5_takeBaskets 47 = .ok (.aload_n 0, 1) := by decide +kernel
theorem dX5_takeBaskets_48 : decode cX5_takeBaskets 48 = .ok (.iload_n 2, 1) := by decide +kernel
theorem dX5_takeBaskets_49 : decode cX5_takeBaskets 49 = .ok (.iload 4, 2) := by decide +kernel
theorem dX5_takeBaskets_51 : decode cX5_takeBaskets 51 = .ok (.invokevirtual 82, 3) := by decide +kernel
theorem dX5_takeBaskets_54 : decode cX5_takeBaskets 54 = .ok (.iinc 2 1, 3) := by decide +kernel
theorem dX5_takeBaskets_57 : decode cX5_takeBaskets 57 = .ok (.goto 5, 3) := by decide +kernel
theorem dX5_takeBaskets_60 : decode cX5_takeBaskets 60 = .ok (.iload_n 3, 1) := by decide +kernel
theorem dX5_takeBaskets_61 : decode cX5_takeBaskets 61 = .ok (.ireturn, 1) := by decide +kernel
theorem dX5_takeBaskets_62 : decode cX5_takeBaskets 62 = .ok (.iinc 3 1, 3) := by decide +kernel
theorem dX5_takeBaskets_65 : decode cX5_takeBaskets 65 = .ok (.goto (-61), 3) := by decide +kernel
theorem dX5_takeBaskets_68 : decode cX5_takeBaskets 68 = .ok (.aload_n 1, 1) := by decide +kernel
theorem dX5_takeBaskets_69 : decode cX5_takeBaskets 69 = .ok (.getfield 56, 3) := by decide +kernel
theorem dX5_takeBaskets_72 : decode cX5_takeBaskets 72 = .ok (.ifCond .eq 8, 3) := by decide +kernel
theorem dX5_takeBaskets_75 : decode cX5_takeBaskets 75 = .ok (.iload_n 2, 1) := by decide +kernel
theorem dX5_takeBaskets_76 : decode cX5_takeBaskets 76 = .ok (.iconst 4, 1) := by decide +kernel
theorem dX5_takeBaskets_77 : decode cX5_takeBaskets 77 = .ok (.if_icmp .le 7, 3) := by decide +kernel
theorem dX5_takeBaskets_80 : decode cX5_takeBaskets 80 = .ok (.iconst (-1), 1) := by decide +kernel
theorem dX5_takeBaskets_81 : decode cX5_takeBaskets 81 = .ok (.goto 7, 3) := by decide +kernel
theorem dX5_takeBaskets_84 : decode cX5_takeBaskets 84 = .ok (.aload_n 1, 1) := by decide +kernel
theorem dX5_takeBaskets_85 : decode cX5_takeBaskets 85 = .ok (.getfield 56, 3) := by decide +kernel
theorem dX5_takeBaskets_88 : decode cX5_takeBaskets 88 = .ok (.ireturn, 1) := by decide +kernel
theorem dX5_basketTakes_0 : decode cX5_basketTakes 0 = .ok (.iload_n 1, 1) := by decide +kernel
theorem dX5_basketTakes_1 : decode cX5_basketTakes 1 = .ok (.ifCond .ne 30, 3) := by decide +kernel
theorem dX5_basketTakes_4 : decode cX5_basketTakes 4 = .ok (.aload_n 0, 1) := by decide +kernel
theorem dX5_basketTakes_5 : decode cX5_basketTakes 5 = .ok (.getfield 28, 3) := by decide +kernel
theorem dX5_basketTakes_8 : decode cX5_basketTakes 8 = .ok (.bipush 8, 2) := by decide +kernel
theorem dX5_basketTakes_10 : decode cX5_basketTakes 10 = .ok (.if_icmp .ge 19, 3) := by decide +kernel
theorem dX5_basketTakes_13 : decode cX5_basketTakes 13 = .ok (.iload_n 2, 1) := by decide +kernel
theorem dX5_basketTakes_14 : decode cX5_basketTakes 14 = .ok (.bipush 48, 2) := by decide +kernel
theorem dX5_basketTakes_16 : decode cX5_basketTakes 16 = .ok (.if_icmp .lt 13, 3) := by decide +kernel
theorem dX5_basketTakes_19 : decode cX5_basketTakes 19 = .ok (.iload_n 2, 1) := by decide +kernel
theorem dX5_basketTakes_20 : decode cX5_basketTakes 20 = .ok (.bipush 50, 2) := by decide +kernel
theorem dX5_basketTakes_22 : decode cX5_basketTakes 22 = .ok (.if_icmp .gt 7, 3) := by decide +kernel
theorem dX5_basketTakes_25 : decode cX5_basketTakes 25 = .ok (.iconst 1, 1) := by decide +kernel
theorem dX5_basketTakes_26 : decode cX5_basketTakes 26 = .ok (.goto 4, 3) := by decide +kernel
theorem dX5_basketTakes_29 : decode cX5_basketTakes 29 = .ok (.iconst 0, 1) := by decide +kernel
theorem dX5_basketTakes_30 : decode cX5_basketTakes 30 = .ok (.ireturn, 1) := by decide +kernel
theorem dX5_basketTakes_31 : decode cX5_basketTakes 31 = .ok (.iload_n 1, 1) := by decide +kernel
theorem dX5_basketTakes_32 : decode cX5_basketTakes 32 = .ok (.iconst 4, 1) := by decide +kernel
theorem dX5_basketTakes_33 : decode cX5_basketTakes 33 = .ok (.if_icmp .ge 10, 3) := by decide +kernel
theorem dX5_basketTakes_36 : decode cX5_basketTakes 36 = .ok (.iload_n 2, 1) := by decide +kernel
theorem dX5_basketTakes_37 : decode cX5_basketTakes 37 = .ok (.invokestatic 68, 3) := by decide +kernel
theorem dX5_basketTakes_40 : decode cX5_basketTakes 40 = .ok (.goto 21, 3) := by decide +kernel
theorem dX5_basketTakes_43 : decode cX5_basketTakes 43 = .ok (.iload_n 1, 1) := by decide +kernel
theorem dX5_basketTakes_44 : decode cX5_basketTakes 44 = .ok (.bipush 7, 2) := by decide +kernel
theorem dX5_basketTakes_46 : decode cX5_basketTakes 46 = .ok (.if_icmp .ge 14, 3) := by decide +kernel
theorem dX5_basketTakes_49 : decode cX5_basketTakes 49 = .ok (.iload_n 2, 1) := by decide +kernel
theorem dX5_basketTakes_50 : decode cX5_basketTakes 50 = .ok (.invokestatic 72, 3) := by decide +kernel
theorem dX5_basketTakes_53 : decode cX5_basketTakes 53 = .ok (.ifCond .eq 7, 3) := by decide +kernel
theorem dX5_basketTakes_56 : decode cX5_basketTakes 56 = .ok (.iconst 1, 1) := by decide +kernel
theorem dX5_basketTakes_57 : decode cX5_basketTakes 57 = .ok (.goto 4, 3) := by decide +kernel
theorem dX5_basketTakes_60 : decode cX5_basketTakes 60 = .ok (.iconst 0, 1) := by decide +kernel
theorem dX5_basketTakes_61 : decode cX5_basketTakes 61 = .ok (.ireturn, 1) := by decide +kernel
theorem dX5_keepBasketByte_0 : decode cX5_keepBasketByte 0 = .ok (.iload_n 1, 1) := by decide +kernel
theorem dX5_keepBasketByte_1 : decode cX5_keepBasketByte 1 = .ok (.ifCond .ne 13, 3) := by decide +kernel
theorem dX5_keepBasketByte_4 : decode cX5_keepBasketByte 4 = .ok (.aload_n 0, 1) := by decide +kernel
theorem dX5_keepBasketByte_5 : decode cX5_keepBasketByte 5 = .ok (.dup, 1) := by decide +kernel
theorem dX5_keepBasketByte_6 : decode cX5_keepBasketByte 6 = .ok (.getfield 28, 3) := by decide +kernel
theorem dX5_keepBasketByte_9 : decode cX5_keepBasketByte 9 = .ok (.iconst 1, 1) := by decide +kernel
theorem dX5_keepBasketByte_10 : decode cX5_keepBasketByte 10 = .ok (.iadd, 1) := by decide +kernel
theorem dX5_keepBasketByte_11 : decode cX5_keepBasketByte 11 = .ok (.putfield 28, 3) := by decide +kernel
theorem dX5_keepBasketByte_14 : decode cX5_keepBasketByte 14 = .ok (.aload_n 0, 1) := by decide +kernel
theorem dX5_keepBasketByte_15 : decode cX5_keepBasketByte 15 = .ok (.getfield 28, 3) := by decide +kernel
theorem dX5_keepBasketByte_18 : decode cX5_keepBasketByte 18 = .ok (.iconst 1, 1) := by decide +kernel
theorem dX5_keepBasketByte_19 : decode cX5_keepBasketByte 19 = .ok (.isub, 1) := by decide +kernel
theorem dX5_keepBasketByte_20 : decode cX5_keepBasketByte 20 = .ok (.istore_n 3, 1) := by decide +kernel
theorem dX5_keepBasketByte_21 : decode cX5_keepBasketByte 21 = .ok (.iload_n 3, 1) := by decide +kernel
theorem dX5_keepBasketByte_22 : decode cX5_keepBasketByte 22 = .ok (.ifCond .lt 9, 3) := by decide +kernel
theorem dX5_keepBasketByte_25 : decode cX5_keepBasketByte 25 = .ok (.iload_n 3, 1) := by decide +kernel
theorem dX5_keepBasketByte_26 : decode cX5_keepBasketByte 26 = .ok (.bipush 8, 2) := by decide +kernel
theorem dX5_keepBasketByte_28 : decode cX5_keepBasketByte 28 = .ok (.if_icmp .lt 4, 3) := by decide +kernel
theorem dX5_keepBasketByte_31 : decode cX5_keepBasketByte 31 = .ok (.return_, 1) := by decide +kernel
theorem dX5_keepBasketByte_32 : decode cX5_keepBasketByte 32 = .ok (.iload_n 1, 1) := by decide +kernel
theorem dX5_keepBasketByte_33 : decode cX5_keepBasketByte 33 = .ok (.tableswitch 95 0 3 #[31, 47, 63, 79], 31) := by decide +kernel
theorem dX5_keepBasketByte_64 : decode cX5_keepBasketByte 64 = .ok (.aload_n 0, 1) := by decide +kernel
theorem dX5_keepBasketByte_65 : decode cX5_keepBasketByte 65 = .ok (.getfield 34, 3) := by decide +kernel
theorem dX5_keepBasketByte_68 : decode cX5_keepBasketByte 68 = .ok (.iload_n 3, 1) := by decide +kernel
theorem dX5_keepBasketByte_69 : decode cX5_keepBasketByte 69 = .ok (.bipush 10, 2) := by decide +kernel
theorem dX5_keepBasketByte_71 : decode cX5_keepBasketByte 71 = .ok (.iload_n 2, 1) := by decide +kernel
theorem dX5_keepBasketByte_72 : decode cX5_keepBasketByte 72 = .ok (.bipush 48, 2) := by decide +kernel
theorem dX5_keepBasketByte_74 : decode cX5_keepBasketByte 74 = .ok (.isub, 1) := by decide +kernel
theorem dX5_keepBasketByte_75 : decode cX5_keepBasketByte 75 = .ok (.imul, 1) := by decide +kernel
theorem dX5_keepBasketByte_76 : decode cX5_keepBasketByte 76 = .ok (.iastore, 1) := by decide +kernel
theorem dX5_keepBasketByte_77 : decode cX5_keepBasketByte 77 = .ok (.goto 76, 3) := by decide +kernel
theorem dX5_keepBasketByte_80 : decode cX5_keepBasketByte 80 = .ok (.aload_n 0, 1) := by decide +kernel
theorem dX5_keepBasketByte_81 : decode cX5_keepBasketByte 81 = .ok (.getfield 34, 3) := by decide +kernel
theorem dX5_keepBasketByte_84 : decode cX5_keepBasketByte 84 = .ok (.iload_n 3, 1) := by decide +kernel
theorem dX5_keepBasketByte_85 : decode cX5_keepBasketByte 85 = .ok (.dup2, 1) := by decide +kernel
theorem dX5_keepBasketByte_86 : decode cX5_keepBasketByte 86 = .ok (.iaload, 1) := by decide +kernel
theorem dX5_keepBasketByte_87 : decode cX5_keepBasketByte 87 = .ok (.iload_n 2, 1) := by decide +kernel
theorem dX5_keepBasketByte_88 : decode cX5_keepBasketByte 88 = .ok (.bipush 48, 2) := by decide +kernel
theorem dX5_keepBasketByte_90 : decode cX5_keepBasketByte 90 = .ok (.isub, 1) := by decide +kernel
theorem dX5_keepBasketByte_91 : decode cX5_keepBasketByte 91 = .ok (.iadd, 1) := by decide +kernel
theorem dX5_keepBasketByte_92 : decode cX5_keepBasketByte 92 = .ok (.iastore, 1) := by decide +kernel
theorem dX5_keepBasketByte_93 : decode cX5_keepBasketByte 93 = .ok (.goto 60, 3) := by decide +kernel
theorem dX5_keepBasketByte_96 : decode cX5_keepBasketByte 96 = .ok (.aload_n 0, 1) := by decide +kernel
theorem dX5_keepBasketByte_97 : decode cX5_keepBasketByte 97 = .ok (.getfield 37, 3) := by decide +kernel
theorem dX5_keepBasketByte_100 : decode cX5_keepBasketByte 100 = .ok (.iload_n 3, 1) := by decide +kernel
theorem dX5_keepBasketByte_101 : decode cX5_keepBasketByte 101 = .ok (.bipush 10, 2) := by decide +kernel
theorem dX5_keepBasketByte_103 : decode cX5_keepBasketByte 103 = .ok (.iload_n 2, 1) := by decide +kernel
theorem dX5_keepBasketByte_104 : decode cX5_keepBasketByte 104 = .ok (.bipush 48, 2) := by decide +kernel
theorem dX5_keepBasketByte_106 : decode cX5_keepBasketByte 106 = .ok (.isub, 1) := by decide +kernel
theorem dX5_keepBasketByte_107 : decode cX5_keepBasketByte 107 = .ok (.imul, 1) := by decide +kernel
theorem dX5_keepBasketByte_108 : decode cX5_keepBasketByte 108 = .ok (.iastore, 1) := by decide +kernel
theorem dX5_keepBasketByte_109 : decode cX5_keepBasketByte 109 = .ok (.goto 44, 3) := by decide +kernel
theorem dX5_keepBasketByte_112 : decode cX5_keepBasketByte 112 = .ok (.aload_n 0, 1) := by decide +kernel
theorem dX5_keepBasketByte_113 : decode cX5_keepBasketByte 113 = .ok (.getfield 37, 3) := by decide +kernel
theorem dX5_keepBasketByte_116 : decode cX5_keepBasketByte 116 = .ok (.iload_n 3, 1) := by decide +kernel
theorem dX5_keepBasketByte_117 : decode cX5_keepBasketByte 117 = .ok (.dup2, 1) := by decide +kernel
theorem dX5_keepBasketByte_118 : decode cX5_keepBasketByte 118 = .ok (.iaload, 1) := by decide +kernel
theorem dX5_keepBasketByte_119 : decode cX5_keepBasketByte 119 = .ok (.iload_n 2, 1) := by decide +kernel
theorem dX5_keepBasketByte_120 : decode cX5_keepBasketByte 120 = .ok (.bipush 48, 2) := by decide +kernel
theorem dX5_keepBasketByte_122 : decode cX5_keepBasketByte 122 = .ok (.isub, 1) := by decide +kernel
theorem dX5_keepBasketByte_123 : decode cX5_keepBasketByte 123 = .ok (.iadd, 1) := by decide +kernel
theorem dX5_keepBasketByte_124 : decode cX5_keepBasketByte 124 = .ok (.iastore, 1) := by decide +kernel
theorem dX5_keepBasketByte_125 : decode cX5_keepBasketByte 125 = .ok (.goto 28, 3) := by decide +kernel
theorem dX5_keepBasketByte_128 : decode cX5_keepBasketByte 128 = .ok (.aload_n 0, 1) := by decide +kernel
theorem dX5_keepBasketByte_129 : decode cX5_keepBasketByte 129 = .ok (.getfield 40, 3) := by decide +kernel
theorem dX5_keepBasketByte_132 : decode cX5_keepBasketByte 132 = .ok (.iload_n 3, 1) := by decide +kernel
theorem dX5_keepBasketByte_133 : decode cX5_keepBasketByte 133 = .ok (.iload_n 1, 1) := by decide +kernel
theorem dX5_keepBasketByte_134 : decode cX5_keepBasketByte 134 = .ok (.iconst 3, 1) := by decide +kernel
theorem dX5_keepBasketByte_135 : decode cX5_keepBasketByte 135 = .ok (.isub, 1) := by decide +kernel
theorem dX5_keepBasketByte_136 : decode cX5_keepBasketByte 136 = .ok (.iastore, 1) := by decide +kernel
theorem dX5_keepBasketByte_137 : decode cX5_keepBasketByte 137 = .ok (.aload_n 0, 1) := by decide +kernel
theorem dX5_keepBasketByte_138 : decode cX5_keepBasketByte 138 = .ok (.getfield 43, 3) := by decide +kernel
theorem dX5_keepBasketByte_141 : decode cX5_keepBasketByte 141 = .ok (.iload_n 3, 1) := by decide +kernel
theorem dX5_keepBasketByte_142 : decode cX5_keepBasketByte 142 = .ok (.iconst 3, 1) := by decide +kernel
theorem dX5_keepBasketByte_143 : decode cX5_keepBasketByte 143 = .ok (.imul, 1) := by decide +kernel
theorem dX5_keepBasketByte_144 : decode cX5_keepBasketByte 144 = .ok (.iload_n 1, 1) := by decide +kernel
theorem dX5_keepBasketByte_145 : decode cX5_keepBasketByte 145 = .ok (.iadd, 1) := by decide +kernel
theorem dX5_keepBasketByte_146 : decode cX5_keepBasketByte 146 = .ok (.iconst 4, 1) := by decide +kernel
theorem dX5_keepBasketByte_147 : decode cX5_keepBasketByte 147 = .ok (.isub, 1) := by decide +kernel
theorem dX5_keepBasketByte_148 : decode cX5_keepBasketByte 148 = .ok (.iload_n 2, 1) := by decide +kernel
theorem dX5_keepBasketByte_149 : decode cX5_keepBasketByte 149 = .ok (.bipush 97, 2) := by decide +kernel
theorem dX5_keepBasketByte_151 : decode cX5_keepBasketByte 151 = .ok (.isub, 1) := by decide +kernel
theorem dX5_keepBasketByte_152 : decode cX5_keepBasketByte 152 = .ok (.iastore, 1) := by decide +kernel
theorem dX5_keepBasketByte_153 : decode cX5_keepBasketByte 153 = .ok (.return_, 1) := by decide +kernel
theorem dX5_toldLetter_0 : decode cX5_toldLetter 0 = .ok (.iload_n 2, 1) := by decide +kernel
theorem dX5_toldLetter_1 : decode cX5_toldLetter 1 = .ok (.ifCond .lt 26, 3) := by decide +kernel
theorem dX5_toldLetter_4 : decode cX5_toldLetter 4 = .ok (.iload_n 2, 1) := by decide +kernel
theorem dX5_toldLetter_5 : decode cX5_toldLetter 5 = .ok (.aload_n 0, 1) := by decide +kernel
theorem dX5_toldLetter_6 : decode cX5_toldLetter 6 = .ok (.getfield 40, 3) := by decide +kernel
theorem dX5_toldLetter_9 : decode cX5_toldLetter 9 = .ok (.iload_n 1, 1) := by decide +kernel
theorem dX5_toldLetter_10 : decode cX5_toldLetter 10 = .ok (.iaload, 1) := by decide +kernel
theorem dX5_toldLetter_11 : decode cX5_toldLetter 11 = .ok (.if_icmp .ge 16, 3) := by decide +kernel
theorem dX5_toldLetter_14 : decode cX5_toldLetter 14 = .ok (.aload_n 0, 1) := by decide +kernel
theorem dX5_toldLetter_15 : decode cX5_toldLetter 15 = .ok (.getfield 43, 3) := by decide +kernel
theorem dX5_toldLetter_18 : decode cX5_toldLetter 18 = .ok (.iload_n 1, 1) := by decide +kernel
theorem dX5_toldLetter_19 : decode cX5_toldLetter 19 = .ok (.iconst 3, 1) := by decide +kernel
theorem dX5_toldLetter_20 : decode cX5_toldLetter 20 = .ok (.imul, 1) := by decide +kernel
theorem dX5_toldLetter_21 : decode cX5_toldLetter 21 = .ok (.iload_n 2, 1) := by decide +kernel
theorem dX5_toldLetter_22 : decode cX5_toldLetter 22 = .ok (.iadd, 1) := by decide +kernel
theorem dX5_toldLetter_23 : decode cX5_toldLetter 23 = .ok (.iaload, 1) := by decide +kernel
theorem dX5_toldLetter_24 : decode cX5_toldLetter 24 = .ok (.goto 4, 3) := by decide +kernel
theorem dX5_toldLetter_27 : decode cX5_toldLetter 27 = .ok (.iconst (-1), 1) := by decide +kernel
theorem dX5_toldLetter_28 : decode cX5_toldLetter 28 = .ok (.ireturn, 1) := by decide +kernel
theorem dX5_loadInAll_0 : decode cX5_loadInAll 0 = .ok (.iconst 0, 1) := by decide +kernel
theorem dX5_loadInAll_1 : decode cX5_loadInAll 1 = .ok (.istore_n 1, 1) := by decide +kernel
theorem dX5_loadInAll_2 : decode cX5_loadInAll 2 = .ok (.iconst 0, 1) := by decide +kernel
theorem dX5_loadInAll_3 : decode cX5_loadInAll 3 = .ok (.istore_n 2, 1) := by decide +kernel
theorem dX5_loadInAll_4 : decode cX5_loadInAll 4 = .ok (.iload_n 2, 1) := by decide +kernel
theorem dX5_loadInAll_5 : decode cX5_loadInAll 5 = .ok (.aload_n 0, 1) := by decide +kernel
theorem dX5_loadInAll_6 : decode cX5_loadInAll 6 = .ok (.getfield 28, 3) := by decide +kernel
theorem dX5_loadInAll_9 : decode cX5_loadInAll 9 = .ok (.if_icmp .ge 18, 3) := by decide +kernel
theorem dX5_loadInAll_12 : decode cX5_loadInAll 12 = .ok (.iload_n 1, 1) := by decide +kernel
theorem dX5_loadInAll_13 : decode cX5_loadInAll 13 = .ok (.aload_n 0, 1) := by decide +kernel
theorem dX5_loadInAll_14 : decode cX5_loadInAll 14 = .ok (.getfield 37, 3) := by decide +kernel
theorem dX5_loadInAll_17 : decode cX5_loadInAll 17 = .ok (.iload_n 2, 1) := by decide +kernel
theorem dX5_loadInAll_18 : decode cX5_loadInAll 18 = .ok (.iaload, 1) := by decide +kernel
theorem dX5_loadInAll_19 : decode cX5_loadInAll 19 = .ok (.iadd, 1) := by decide +kernel
theorem dX5_loadInAll_20 : decode cX5_loadInAll 20 = .ok (.istore_n 1, 1) := by decide +kernel
theorem dX5_loadInAll_21 : decode cX5_loadInAll 21 = .ok (.iinc 2 1, 3) := by decide +kernel
theorem dX5_loadInAll_24 : decode cX5_loadInAll 24 = .ok (.goto (-20), 3) := by decide +kernel
theorem dX5_loadInAll_27 : decode cX5_loadInAll 27 = .ok (.iload_n 1, 1) := by decide +kernel
theorem dX5_loadInAll_28 : decode cX5_loadInAll 28 = .ok (.ireturn, 1) := by decide +kernel
theorem dX5_changeBite_0 : decode cX5_changeBite 0 = .ok (.iload_n 1, 1) := by decide +kernel
theorem dX5_changeBite_1 : decode cX5_changeBite 1 = .ok (.ifCond .lt 11, 3) := by decide +kernel
theorem dX5_changeBite_4 : decode cX5_changeBite 4 = .ok (.iload_n 1, 1) := by decide +kernel
theorem dX5_changeBite_5 : decode cX5_changeBite 5 = .ok (.aload_n 0, 1) := by decide +kernel
theorem dX5_changeBite_6 : decode cX5_changeBite 6 = .ok (.getfield 9, 3) := by decide +kernel
theorem dX5_changeBite_9 : decode cX5_changeBite 9 = .ok (.if_icmp .lt 5, 3) := by decide +kernel
theorem dX5_changeBite_12 : decode cX5_changeBite 12 = .ok (.iconst 0, 1) := by decide +kernel
theorem dX5_changeBite_13 : decode cX5_changeBite 13 = .ok (.ireturn, 1) := by decide +kernel
theorem dX5_changeBite_14 : decode cX5_changeBite 14 = .ok (.aload_n 0, 1) := by decide +kernel
theorem dX5_changeBite_15 : decode cX5_changeBite 15 = .ok (.getfield 22, 3) := by decide +kernel
theorem dX5_changeBite_18 : decode cX5_changeBite 18 = .ok (.iload_n 1, 1) := by decide +kernel
theorem dX5_changeBite_19 : decode cX5_changeBite 19 = .ok (.iaload, 1) := by decide +kernel
theorem dX5_changeBite_20 : decode cX5_changeBite 20 = .ok (.istore_n 3, 1) := by decide +kernel
theorem dX5_changeBite_21 : decode cX5_changeBite 21 = .ok (.aload_n 0, 1) := by decide +kernel
theorem dX5_changeBite_22 : decode cX5_changeBite 22 = .ok (.getfield 22, 3) := by decide +kernel
theorem dX5_changeBite_25 : decode cX5_changeBite 25 = .ok (.iload_n 1, 1) := by decide +kernel
theorem dX5_changeBite_26 : decode cX5_changeBite 26 = .ok (.iload_n 2, 1) := by decide +kernel
theorem dX5_changeBite_27 : decode cX5_changeBite 27 = .ok (.iastore, 1) := by decide +kernel
theorem dX5_changeBite_28 : decode cX5_changeBite 28 = .ok (.iload_n 3, 1) := by decide +kernel
theorem dX5_changeBite_29 : decode cX5_changeBite 29 = .ok (.ireturn, 1) := by decide +kernel
theorem dX5_sortOf_0 : decode cX5_sortOf 0 = .ok (.iload_n 0, 1) := by decide +kernel
theorem dX5_sortOf_1 : decode cX5_sortOf 1 = .ok (.lookupswitch 51 #[(99, 49), (108, 47), (109, 45), (112, 43)], 43) := by decide +kernel
theorem dX5_sortOf_44 : decode cX5_sortOf 44 = .ok (.iconst 0, 1) := by decide +kernel
theorem dX5_sortOf_45 : decode cX5_sortOf 45 = .ok (.ireturn, 1) := by decide +kernel
theorem dX5_sortOf_46 : decode cX5_sortOf 46 = .ok (.iconst 1, 1) := by decide +kernel
theorem dX5_sortOf_47 : decode cX5_sortOf 47 = .ok (.ireturn, 1) := by decide +kernel
theorem dX5_sortOf_48 : decode cX5_sortOf 48 = .ok (.iconst 2, 1) := by decide +kernel
theorem dX5_sortOf_49 : decode cX5_sortOf 49 = .ok (.ireturn, 1) := by decide +kernel
theorem dX5_sortOf_50 : decode cX5_sortOf 50 = .ok (.iconst 3, 1) := by decide +kernel
theorem dX5_sortOf_51 : decode cX5_sortOf 51 = .ok (.ireturn, 1) := by decide +kernel
theorem dX5_sortOf_52 : decode cX5_sortOf 52 = .ok (.iconst (-1), 1) := by decide +kernel
theorem dX5_sortOf_53 : decode cX5_sortOf 53 = .ok (.ireturn, 1) := by decide +kernel
theorem dX5_isFigure_0 : decode cX5_isFigure 0 = .ok (.iload_n 0, 1) := by decide +kernel
theorem dX5_isFigure_1 : decode cX5_isFigure 1 = .ok (.bipush 48, 2) := by decide +kernel
theorem dX5_isFigure_3 : decode cX5_isFigure 3 = .ok (.if_icmp .lt 13, 3) := by decide +kernel
theorem dX5_isFigure_6 : decode cX5_isFigure 6 = .ok (.iload_n 0, 1) := by decide +kernel
theorem dX5_isFigure_7 : decode cX5_isFigure 7 = .ok (.bipush 57, 2) := by decide +kernel
theorem dX5_isFigure_9 : decode cX5_isFigure 9 = .ok (.if_icmp .gt 7, 3) := by decide +kernel
theorem dX5_isFigure_12 : decode cX5_isFigure 12 = .ok (.iconst 1, 1) := by decide +kernel
theorem dX5_isFigure_13 : decode cX5_isFigure 13 = .ok (.goto 4, 3) := by decide +kernel
theorem dX5_isFigure_16 : decode cX5_isFigure 16 = .ok (.iconst 0, 1) := by decide +kernel
theorem dX5_isFigure_17 : decode cX5_isFigure 17 = .ok (.ireturn, 1) := by decide +kernel
theorem dX5_isLetter_0 : decode cX5_isLetter 0 = .ok (.iload_n 0, 1) := by decide +kernel
theorem dX5_isLetter_1 : decode cX5_isLetter 1 = .ok (.bipush 97, 2) := by decide +kernel
theorem dX5_isLetter_3 : decode cX5_isLetter 3 = .ok (.if_icmp .lt 13, 3) := by decide +kernel
theorem dX5_isLetter_6 : decode cX5_isLetter 6 = .ok (.iload_n 0, 1) := by decide +kernel
theorem dX5_isLetter_7 : decode cX5_isLetter 7 = .ok (.bipush 104, 2) := by decide +kernel
theorem dX5_isLetter_9 : decode cX5_isLetter 9 = .ok (.if_icmp .gt 7, 3) := by decide +kernel
theorem dX5_isLetter_12 : decode cX5_isLetter 12 = .ok (.iconst 1, 1) := by decide +kernel
theorem dX5_isLetter_13 : decode cX5_isLetter 13 = .ok (.goto 4, 3) := by decide +kernel
theorem dX5_isLetter_16 : decode cX5_isLetter 16 = .ok (.iconst 0, 1) := by decide +kernel
theorem dX5_isLetter_17 : decode cX5_isLetter 17 = .ok (.ireturn, 1) := by decide +kernel
theorem dX6_go_0 : decode cX6_go 0 = .ok (.aload_n 0, 1) := by decide +kernel
theorem dX6_go_1 : decode cX6_go 1 = .ok (.invokevirtual 69, 3) := by decide +kernel
theorem dX6_go_4 : decode cX6_go 4 = .ok (.iconst 0, 1) := by decide +kernel
theorem dX6_go_5 : decode cX6_go 5 = .ok (.istore 6, 2) := by decide +kernel
theorem dX6_go_7 : decode cX6_go 7 = .ok (.iload 6, 2) := by decide +kernel
theorem dX6_go_9 : decode cX6_go 9 = .ok (.bipush 40, 2) := by decide +kernel
theorem dX6_go_11 : decode cX6_go 11 = .ok (.if_icmp .ge 82, 3) := by decide +kernel
theorem dX6_go_14 : decode cX6_go 14 = .ok (.aload_n 0, 1) := by decide +kernel
theorem dX6_go_15 : decode cX6_go 15 = .ok (.getfield 52, 3) := by decide +kernel
theorem dX6_go_18 : decode cX6_go 18 = .ok (.ifCond .le 75, 3) := by decide +kernel
theorem dX6_go_21 : decode cX6_go 21 = .ok (.aload_n 0, 1) := by decide +kernel
theorem dX6_go_22 : decode cX6_go 22 = .ok (.lload_n 1, 1) := by decide +kernel
theorem dX6_go_23 : decode cX6_go 23 = .ok (.iload 6, 2) := by decide +kernel
theorem dX6_go_25 : decode cX6_go 25 = .ok (.lshr, 1) := by decide +kernel
theorem dX6_go_26 : decode cX6_go 26 = .ok (.lconst 1, 1) := by decide +kernel
theorem dX6_go_27 : decode cX6_go 27 = .ok (.land, 1) := by decide +kernel
theorem dX6_go_28 : decode cX6_go 28 = .ok (.lconst 1, 1) := by decide +kernel
theorem dX6_go_29 : decode cX6_go 29 = .ok (.lcmp, 1) := by decide +kernel
theorem dX6_go_30 : decode cX6_go 30 = .ok (.ifCond .ne 7, 3) := by decide +kernel
theorem dX6_go_33 : decode cX6_go 33 = .ok (.iconst 1, 1) := by decide +kernel
theorem dX6_go_34 : decode cX6_go 34 = .ok (.goto 4, 3) := by decide +kernel
theorem dX6_go_37 : decode cX6_go 37 = .ok (.iconst 0, 1) := by decide +kernel
theorem dX6_go_38 : decode cX6_go 38 = .ok (.putfield 9, 3) := by decide +kernel
theorem dX6_go_41 : decode cX6_go 41 = .ok (.aload_n 0, 1) := by decide +kernel
theorem dX6_go_42 : decode cX6_go 42 = .ok (.lload_n 3, 1) := by decide +kernel
theorem dX6_go_43 : decode cX6_go 43 = .ok (.iload 6, 2) := by decide +kernel
theorem dX6_go_45 : decode cX6_go 45 = .ok (.lshr, 1) := by decide +kernel
theorem dX6_go_46 : decode cX6_go 46 = .ok (.lconst 1, 1) := by decide +kernel
theorem dX6_go_47 : decode cX6_go 47 = .ok (.land, 1) := by decide +kernel
theorem dX6_go_48 : decode cX6_go 48 = .ok (.lconst 1, 1) := by decide +kernel
theorem dX6_go_49 : decode cX6_go 49 = .ok (.lcmp, 1) := by decide +kernel
theorem dX6_go_50 : decode cX6_go 50 = .ok (.ifCond .ne 7, 3) := by decide +kernel
theorem dX6_go_53 : decode cX6_go 53 = .ok (.iconst 1, 1) := by decide +kernel
theorem dX6_go_54 : decode cX6_go 54 = .ok (.goto 4, 3) := by decide +kernel
theorem dX6_go_57 : decode cX6_go 57 = .ok (.iconst 0, 1) := by decide +kernel
theorem dX6_go_58 : decode cX6_go 58 = .ok (.putfield 15, 3) := by decide +kernel
theorem dX6_go_61 : decode cX6_go 61 = .ok (.aload_n 0, 1) := by decide +kernel
theorem dX6_go_62 : decode cX6_go 62 = .ok (.iload 6, 2) := by decide +kernel
theorem dX6_go_64 : decode cX6_go 64 = .ok (.invokevirtual 72, 3) := by decide +kernel
theorem dX6_go_67 : decode cX6_go 67 = .ok (.aload_n 0, 1) := by decide +kernel
theorem dX6_go_68 : decode cX6_go 68 = .ok (.iload 6, 2) := by decide +kernel
theorem dX6_go_70 : decode cX6_go 70 = .ok (.invokevirtual 76, 3) := by decide +kernel
theorem dX6_go_73 : decode cX6_go 73 = .ok (.iload 6, 2) := by decide +kernel
theorem dX6_go_75 : decode cX6_go 75 = .ok (.iload 5, 2) := by decide +kernel
theorem dX6_go_77 : decode cX6_go 77 = .ok (.if_icmp .ne 4, 3) := by decide +kernel
theorem dX6_go_80 : decode cX6_go 80 = .ok (.return_, 1) := by decide +kernel
theorem dX6_go_81 : decode cX6_go 81 = .ok (.aload_n 0, 1) := by decide +kernel
theorem dX6_go_82 : decode cX6_go 82 = .ok (.iload 6, 2) := by decide +kernel
theorem dX6_go_84 : decode cX6_go 84 = .ok (.invokevirtual 79, 3) := by decide +kernel
theorem dX6_go_87 : decode cX6_go 87 = .ok (.iinc 6 1, 3) := by decide +kernel
theorem dX6_go_90 : decode cX6_go 90 = .ok (.goto (-83), 3) := by decide +kernel
theorem dX6_go_93 : decode cX6_go 93 = .ok (.return_, 1) := by decide +kernel
theorem dX6_begin_0 : decode cX6_begin 0 = .ok (.iconst 0, 1) := by decide +kernel
theorem dX6_begin_1 : decode cX6_begin 1 = .ok (.istore_n 1, 1) := by decide +kernel
theorem dX6_begin_2 : decode cX6_begin 2 = .ok (.iload_n 1, 1) := by decide +kernel
theorem dX6_begin_3 : decode cX6_begin 3 = .ok (.aload_n 0, 1) := by decide +kernel
theorem dX6_begin_4 : decode cX6_begin 4 = .ok (.getfield 65, 3) := by decide +kernel
theorem dX6_begin_7 : decode cX6_begin 7 = .ok (.getfield 82, 3) := by decide +kernel
theorem dX6_begin_10 : decode cX6_begin 10 = .ok (.if_icmp .ge 96, 3) := by decide +kernel
theorem dX6_begin_13 : decode cX6_begin 13 = .ok (.aload_n 0, 1) := by decide +kernel
theorem dX6_begin_14 : decode cX6_begin 14 = .ok (.getfield 18, 3) := by decide +kernel
theorem dX6_begin_17 : decode cX6_begin 17 = .ok (.iload_n 1, 1) := by decide +kernel
theorem dX6_begin_18 : decode cX6_begin 18 = .ok (.iconst (-1), 1) := by decide +kernel
theorem dX6_begin_19 : decode cX6_begin 19 = .ok (.iastore, 1) := by decide +kernel
theorem dX6_begin_20 : decode cX6_begin 20 = .ok (.aload_n 0, 1) := by decide +kernel
theorem dX6_begin_21 : decode cX6_begin 21 = .ok (.getfield 22, 3) := by decide +kernel
theorem dX6_begin_24 : decode cX6_begin 24 = .ok (.iload_n 1, 1) := by decide +kernel
theorem dX6_begin_25 : decode cX6_begin 25 = .ok (.aload_n 0, 1) := by decide +kernel
theorem dX6_begin_26 : decode cX6_begin 26 = .ok (.getfield 65, 3) := by decide +kernel
theorem dX6_begin_29 : decode cX6_begin 29 = .ok (.getfield 87, 3) := by decide +kernel
theorem dX6_begin_32 : decode cX6_begin 32 = .ok (.iload_n 1, 1) := by decide +kernel
theorem dX6_begin_33 : decode cX6_begin 33 = .ok (.iaload, 1) := by decide +kernel
theorem dX6_begin_34 : decode cX6_begin 34 = .ok (.iastore, 1) := by decide +kernel
theorem dX6_begin_35 : decode cX6_begin 35 = .ok (.aload_n 0, 1) := by decide +kernel
theorem dX6_begin_36 : decode cX6_begin 36 = .ok (.getfield 25, 3) := by decide +kernel
theorem dX6_begin_39 : decode cX6_begin 39 = .ok (.iload_n 1, 1) := by decide +kernel
theorem dX6_begin_40 : decode cX6_begin 40 = .ok (.iconst 0, 1) := by decide +kernel
theorem dX6_begin_41 : decode cX6_begin 41 = .ok (.iastore, 1) := by decide +kernel
theorem dX6_begin_42 : decode cX6_begin 42 = .ok (.aload_n 0, 1) := by decide +kernel
theorem dX6_begin_43 : decode cX6_begin 43 = .ok (.getfield 28, 3) := by decide +kernel
theorem dX6_begin_46 : decode cX6_begin 46 = .ok (.iload_n 1, 1) := by decide +kernel
theorem dX6_begin_47 : decode cX6_begin 47 = .ok (.iconst (-1), 1) := by decide +kernel
theorem dX6_begin_48 : decode cX6_begin 48 = .ok (.iastore, 1) := by decide +kernel
theorem dX6_begin_49 : decode cX6_begin 49 = .ok (.aload_n 0, 1) := by decide +kernel
theorem dX6_begin_50 : decode cX6_begin 50 = .ok (.getfield 31, 3) := by decide +kernel
theorem dX6_begin_53 : decode cX6_begin 53 = .ok (.iload_n 1, 1) := by decide +kernel
theorem dX6_begin_54 : decode cX6_begin 54 = .ok (.iconst 0, 1) := by decide +kernel
theorem dX6_begin_55 : decode cX6_begin 55 = .ok (.iastore, 1) := by decide +kernel
theorem dX6_begin_56 : decode cX6_begin 56 = .ok (.aload_n 0, 1) := by decide +kernel
theorem dX6_begin_57 : decode cX6_begin 57 = .ok (.getfield 37, 3) := by decide +kernel
theorem dX6_begin_60 : decode cX6_begin 60 = .ok (.iload_n 1, 1) := by decide +kernel
theorem dX6_begin_61 : decode cX6_begin 61 = .ok (.iconst 0, 1) := by decide +kernel
theorem dX6_begin_62 : decode cX6_begin 62 = .ok (.iastore, 1) := by decide +kernel
theorem dX6_begin_63 : decode cX6_begin 63 = .ok (.aload_n 0, 1) := by decide +kernel
theorem dX6_begin_64 : decode cX6_begin 64 = .ok (.getfield 40, 3) := by decide +kernel
theorem dX6_begin_67 : decode cX6_begin 67 = .ok (.iload_n 1, 1) := by decide +kernel
theorem dX6_begin_68 : decode cX6_begin 68 = .ok (.aload_n 0, 1) := by decide +kernel
theorem dX6_begin_69 : decode cX6_begin 69 = .ok (.getfield 65, 3) := by decide +kernel
theorem dX6_begin_72 : decode cX6_begin 72 = .ok (.getfield 88, 3) := by decide +kernel
theorem dX6_begin_75 : decode cX6_begin 75 = .ok (.iload_n 1, 1) := by decide +kernel
theorem dX6_begin_76 : decode cX6_begin 76 = .ok (.iaload, 1) := by decide +kernel
theorem dX6_begin_77 : decode cX6_begin 77 = .ok (.iastore, 1) := by decide +kernel
theorem dX6_begin_78 : decode cX6_begin 78 = .ok (.aload_n 0, 1) := by decide +kernel
theorem dX6_begin_79 : decode cX6_begin 79 = .ok (.getfield 65, 3) := by decide +kernel
theorem dX6_begin_82 : decode cX6_begin 82 = .ok (.getfield 91, 3) := by decide +kernel
theorem dX6_begin_85 : decode cX6_begin 85 = .ok (.iload_n 1, 1) := by decide +kernel
theorem dX6_begin_86 : decode cX6_begin 86 = .ok (.iconst 3, 1) := by decide +kernel
theorem dX6_begin_87 : decode cX6_begin 87 = .ok (.imul, 1) := by decide +kernel
theorem dX6_begin_88 : decode cX6_begin 88 = .ok (.aload_n 0, 1) := by decide +kernel
theorem dX6_begin_89 : decode cX6_begin 89 = .ok (.getfield 34, 3) := by decide +kernel
theorem dX6_begin_92 : decode cX6_begin 92 = .ok (.iload_n 1, 1) := by decide +kernel
theorem dX6_begin_93 : decode cX6_begin 93 = .ok (.bipush 21, 2) := by decide +kernel
theorem dX6_begin_95 : decode cX6_begin 95 = .ok (.imul, 1) := by decide +kernel
theorem dX6_begin_96 : decode cX6_begin 96 = .ok (.iconst 3, 1) := by decide +kernel
theorem dX6_begin_97 : decode cX6_begin 97 = .ok (.invokestatic 94, 3) := by decide +kernel
theorem dX6_begin_100 : decode cX6_begin 100 = .ok (.iinc 1 1, 3) := by decide +kernel
theorem dX6_begin_103 : decode cX6_begin 103 = .ok (.goto (-101), 3) := by decide +kernel
theorem dX6_begin_106 : decode cX6_begin 106 = .ok (.aload_n 0, 1) := by decide +kernel
theorem dX6_begin_107 : decode cX6_begin 107 = .ok (.aload_n 0, 1) := by decide +kernel
theorem dX6_begin_108 : decode cX6_begin 108 = .ok (.getfield 65, 3) := by decide +kernel
theorem dX6_begin_111 : decode cX6_begin 111 = .ok (.getfield 82, 3) := by decide +kernel
theorem dX6_begin_114 : decode cX6_begin 114 = .ok (.putfield 52, 3) := by decide +kernel
theorem dX6_begin_117 : decode cX6_begin 117 = .ok (.iconst 0, 1) := by decide +kernel
theorem dX6_begin_118 : decode cX6_begin 118 = .ok (.istore_n 1, 1) := by decide +kernel
theorem dX6_begin_119 : decode cX6_begin 119 = .ok (.iload_n 1, 1) := by decide +kernel
theorem dX6_begin_120 : decode cX6_begin 120 = .ok (.aload_n 0, 1) := by decide +kernel
theorem dX6_begin_121 : decode cX6_begin 121 = .ok (.getfield 65, 3) := by decide +kernel
theorem dX6_begin_124 : decode cX6_begin 124 = .ok (.getfield 100, 3) := by decide +kernel
theorem dX6_begin_127 : decode cX6_begin 127 = .ok (.if_icmp .ge 30, 3) := by decide +kernel
theorem dX6_begin_130 : decode cX6_begin 130 = .ok (.aload_n 0, 1) := by decide +kernel
theorem dX6_begin_131 : decode cX6_begin 131 = .ok (.getfield 43, 3) := by decide +kernel
theorem dX6_begin_134 : decode cX6_begin 134 = .ok (.iload_n 1, 1) := by decide +kernel
theorem dX6_begin_135 : decode cX6_begin 135 = .ok (.iconst (-1), 1) := by decide +kernel
theorem dX6_begin_136 : decode cX6_begin 136 = .ok (.iastore, 1) := by decide +kernel
theorem dX6_begin_137 : decode cX6_begin 137 = .ok (.aload_n 0, 1) := by decide +kernel
theorem dX6_begin_138 : decode cX6_begin 138 = .ok (.getfield 46, 3) := by decide +kernel
theorem dX6_begin_141 : decode cX6_begin 141 = .ok (.iload_n 1, 1) := by decide +kernel
theorem dX6_begin_142 : decode cX6_begin 142 = .ok (.iconst 0, 1) := by decide +kernel
theorem dX6_begin_143 : decode cX6_begin 143 = .ok (.iastore, 1) := by decide +kernel
theorem dX6_begin_144 : decode cX6_begin 144 = .ok (.aload_n 0, 1) := by decide +kernel
theorem dX6_begin_145 : decode cX6_begin 145 = .ok (.getfield 49, 3) := by decide +kernel
theorem dX6_begin_148 : decode cX6_begin 148 = .ok (.iload_n 1, 1) := by decide +kernel
theorem dX6_begin_149 : decode cX6_begin 149 = .ok (.iconst 0, 1) := by decide +kernel
theorem dX6_begin_150 : decode cX6_begin 150 = .ok (.iastore, 1) := by decide +kernel
theorem dX6_begin_151 : decode cX6_begin 151 = .ok (.iinc 1 1, 3) := by decide +kernel
theorem dX6_begin_154 : decode cX6_begin 154 = .ok (.goto (-35), 3) := by decide +kernel
theorem dX6_begin_157 : decode cX6_begin 157 = .ok (.aload_n 0, 1) := by decide +kernel
theorem dX6_begin_158 : decode cX6_begin 158 = .ok (.iconst 0, 1) := by decide +kernel
theorem dX6_begin_159 : decode cX6_begin 159 = .ok (.putfield 56, 3) := by decide +kernel
theorem dX6_begin_162 : decode cX6_begin 162 = .ok (.aload_n 0, 1) := by decide +kernel
theorem dX6_begin_163 : decode cX6_begin 163 = .ok (.iconst (-1), 1) := by decide +kernel
theorem dX6_begin_164 : decode cX6_begin 164 = .ok (.putfield 59, 3) := by decide +kernel
theorem dX6_begin_167 : decode cX6_begin 167 = .ok (.aload_n 0, 1) := by decide +kernel
theorem dX6_begin_168 : decode cX6_begin 168 = .ok (.iconst (-1), 1) := by decide +kernel
theorem dX6_begin_169 : decode cX6_begin 169 = .ok (.putfield 62, 3) := by decide +kernel
theorem dX6_begin_172 : decode cX6_begin 172 = .ok (.return_, 1) := by decide +kernel
theorem dX6_arrive_0 : decode cX6_arrive 0 = .ok (.iconst 0, 1) := by decide +kernel
theorem dX6_arrive_1 : decode cX6_arrive 1 = .ok (.istore_n 2, 1) := by decide +kernel
theorem dX6_arrive_2 : decode cX6_arrive 2 = .ok (.iload_n 2, 1) := by decide +kernel
theorem dX6_arrive_3 : decode cX6_arrive 3 = .ok (.aload_n 0, 1) := by decide +kernel
theorem dX6_arrive_4 : decode cX6_arrive 4 = .ok (.getfield 65, 3) := by decide +kernel
theorem dX6_arrive_7 : decode cX6_arrive 7 = .ok (.getfield 82, 3) := by decide +kernel
theorem dX6_arrive_10 : decode cX6_arrive 10 = .ok (.if_icmp .ge 56, 3) := by decide +kernel
theorem dX6_arrive_13 : decode cX6_arrive 13 = .ok (.aload_n 0, 1) := by decide +kernel
theorem dX6_arrive_14 : decode cX6_arrive 14 = .ok (.getfield 65, 3) := by decide +kernel
theorem dX6_arrive_17 : decode cX6_arrive 17 = .ok (.getfield 103, 3) := by decide +kernel
theorem dX6_arrive_20 : decode cX6_arrive 20 = .ok (.iload_n 2, 1) := by decide +kernel
theorem dX6_arrive_21 : decode cX6_arrive 21 = .ok (.iaload, 1) := by decide +kernel
theorem dX6_arrive_22 : decode cX6_arrive 22 = .ok (.iload_n 1, 1) := by decide +kernel
theorem dX6_arrive_23 : decode cX6_arrive 23 = .ok (.if_icmp .ne 37, 3) := by decide +kernel
theorem dX6_arrive_26 : decode cX6_arrive 26 = .ok (.aload_n 0, 1) := by decide +kernel
theorem dX6_arrive_27 : decode cX6_arrive 27 = .ok (.getfield 18, 3) := by decide +kernel
theorem dX6_arrive_30 : decode cX6_arrive 30 = .ok (.iload_n 2, 1) := by decide +kernel
theorem dX6_arrive_31 : decode cX6_arrive 31 = .ok (.iconst 0, 1) := by decide +kernel
theorem dX6_arrive_32 : decode cX6_arrive 32 = .ok (.iastore, 1) := by decide +kernel
theorem dX6_arrive_33 : decode cX6_arrive 33 = .ok (.aload_n 0, 1) := by decide +kernel
theorem dX6_arrive_34 : decode cX6_arrive 34 = .ok (.getfield 65, 3) := by decide +kernel
theorem dX6_arrive_37 : decode cX6_arrive 37 = .ok (.getfield 100, 3) := by decide +kernel
theorem dX6_arrive_40 : decode cX6_arrive 40 = .ok (.ifCond .ne 20, 3) := by decide +kernel
theorem dX6_arrive_43 : decode cX6_arrive 43 = .ok (.aload_n 0, 1) := by decide +kernel
theorem dX6_arrive_44 : decode cX6_arrive 44 = .ok (.getfield 28, 3) := by decide +kernel
theorem dX6_arrive_47 : decode cX6_arrive 47 = .ok (.iload_n 2, 1) := by decide +kernel
theorem dX6_arrive_48 : decode cX6_arrive 48 = .ok (.iload_n 1, 1) := by decide +kernel
theorem dX6_arrive_49 : decode cX6_arrive 49 = .ok (.iastore, 1) := by decide +kernel
theorem dX6_arrive_50 : decode cX6_arrive 50 = .ok (.aload_n 0, 1) := by decide +kernel
theorem dX6_arrive_51 : decode cX6_arrive 51 = .ok (.dup, 1) := by decide +kernel
theorem dX6_arrive_52 : decode cX6_arrive 52 = .ok (.getfield 52, 3) := by decide +kernel
theorem dX6_arrive_55 : decode cX6_arrive 55 = .ok (.iconst 1, 1) := by decide +kernel
theorem dX6_arrive_56 : decode cX6_arrive 56 = .ok (.isub, 1) := by decide +kernel
theorem dX6_arrive_57 : decode cX6_arrive 57 = .ok (.putfield 52, 3) := by decide +kernel
theorem dX6_arrive_60 : decode cX6_arrive 60 = .ok (.iinc 2 1, 3) := by decide +kernel
theorem dX6_arrive_63 : decode cX6_arrive 63 = .ok (.goto (-61), 3) := by decide +kernel
theorem dX6_arrive_66 : decode cX6_arrive 66 = .ok (.return_, 1) := by decide +kernel
theorem dX6_serve_0 : decode cX6_serve 0 = .ok (.iconst 0, 1) := by decide +kernel
theorem dX6_serve_1 : decode cX6_serve 1 = .ok (.istore_n 2, 1) := by decide +kernel
theorem dX6_serve_2 : decode cX6_serve 2 = .ok (.iconst 0, 1) := by decide +kernel
theorem dX6_serve_3 : decode cX6_serve 3 = .ok (.istore_n 3, 1) := by decide +kernel
theorem dX6_serve_4 : decode cX6_serve 4 = .ok (.iload_n 3, 1) := by decide +kernel
theorem dX6_serve_5 : decode cX6_serve 5 = .ok (.aload_n 0, 1) := by decide +kernel
theorem dX6_serve_6 : decode cX6_serve 6 = .ok (.getfield 65, 3) := by decide +kernel
theorem dX6_serve_9 : decode cX6_serve 9 = .ok (.getfield 82, 3) := by decide +kernel
theorem dX6_serve_12 : decode cX6_serve 12 = .ok (.if_icmp .ge 127, 3) := by decide +kernel
theorem dX6_serve_15 : decode cX6_serve 15 = .ok (.aload_n 0, 1) := by decide +kernel
theorem dX6_serve_16 : decode cX6_serve 16 = .ok (.getfield 18, 3) := by decide +kernel
theorem dX6_serve_19 : decode cX6_serve 19 = .ok (.iload_n 3, 1) := by decide +kernel
theorem dX6_serve_20 : decode cX6_serve 20 = .ok (.iaload, 1) := by decide +kernel
theorem dX6_serve_21 : decode cX6_serve 21 = .ok (.istore 4, 2) := by decide +kernel
theorem dX6_serve_23 : decode cX6_serve 23 = .ok (.iload 4, 2) := by decide +kernel
theorem dX6_serve_25 : decode cX6_serve 25 = .ok (.ifCond .lt 108, 3) := by decide +kernel
theorem dX6_serve_28 : decode cX6_serve 28 = .ok (.iload 4, 2) := by decide +kernel
theorem dX6_serve_30 : decode cX6_serve 30 = .ok (.aload_n 0, 1) := by decide +kernel
theorem dX6_serve_31 : decode cX6_serve 31 = .ok (.getfield 65, 3) := by decide +kernel
theorem dX6_serve_34 : decode cX6_serve 34 = .ok (.getfield 100, 3) := by decide +kernel
theorem dX6_serve_37 : decode cX6_serve 37 = .ok (.if_icmp .lt 6, 3) := by decide +kernel
theorem dX6_serve_40 : decode cX6_serve 40 = .ok (.goto 93, 3) := by decide +kernel
theorem dX6_serve_43 : decode cX6_serve 43 = .ok (.aload_n 0, 1) := by decide +kernel
theorem dX6_serve_44 : decode cX6_serve 44 = .ok (.getfield 25, 3) := by decide +kernel
theorem dX6_serve_47 : decode cX6_serve 47 = .ok (.iload_n 3, 1) := by decide +kernel
theorem dX6_serve_48 : decode cX6_serve 48 = .ok (.iload_n 2, 1) := by decide +kernel
theorem dX6_serve_49 : decode cX6_serve 49 = .ok (.iload 4, 2) := by decide +kernel
theorem dX6_serve_51 : decode cX6_serve 51 = .ok (.ishr, 1) := by decide +kernel
theorem dX6_serve_52 : decode cX6_serve 52 = .ok (.iconst 1, 1) := by decide +kernel
theorem dX6_serve_53 : decode cX6_serve 53 = .ok (.iand, 1) := by decide +kernel
theorem dX6_serve_54 : decode cX6_serve 54 = .ok (.iastore, 1) := by decide +kernel
theorem dX6_serve_55 : decode cX6_serve 55 = .ok (.iload_n 2, 1) := by decide +kernel
theorem dX6_serve_56 : decode cX6_serve 56 = .ok (.iconst 1, 1) := by decide +kernel
theorem dX6_serve_57 : decode cX6_serve 57 = .ok (.iload 4, 2) := by decide +kernel
theorem dX6_serve_59 : decode cX6_serve 59 = .ok (.ishl, 1) := by decide +kernel
theorem dX6_serve_60 : decode cX6_serve 60 = .ok (.ior, 1) := by decide +kernel
theorem dX6_serve_61 : decode cX6_serve 61 = .ok (.istore_n 2, 1) := by decide +kernel
theorem dX6_serve_62 : decode cX6_serve 62 = .ok (.aload_n 0, 1) := by decide +kernel
theorem dX6_serve_63 : decode cX6_serve 63 = .ok (.getfield 25, 3) := by decide +kernel
theorem dX6_serve_66 : decode cX6_serve 66 = .ok (.iload_n 3, 1) := by decide +kernel
theorem dX6_serve_67 : decode cX6_serve 67 = .ok (.iaload, 1) := by decide +kernel
theorem dX6_serve_68 : decode cX6_serve 68 = .ok (.iconst 1, 1) := by decide +kernel
theorem dX6_serve_69 : decode cX6_serve 69 = .ok (.if_icmp .ne 6, 3) := by decide +kernel
theorem dX6_serve_72 : decode cX6_serve 72 = .ok (.goto 61, 3) := by decide +kernel
theorem dX6_serve_75 : decode cX6_serve 75 = .ok (.aload_n 0, 1) := by decide +kernel
theorem dX6_serve_76 : decode cX6_serve 76 = .ok (.getfield 65, 3) := by decide +kernel
theorem dX6_serve_79 : decode cX6_serve 79 = .ok (.getfield 106, 3) := by decide +kernel
theorem dX6_serve_82 : decode cX6_serve 82 = .ok (.iload 4, 2) := by decide +kernel
theorem dX6_serve_84 : decode cX6_serve 84 = .ok (.iaload, 1) := by decide +kernel
theorem dX6_serve_85 : decode cX6_serve 85 = .ok (.iconst 3, 1) := by decide +kernel
theorem dX6_serve_86 : decode cX6_serve 86 = .ok (.if_icmp .ne 20, 3) := by decide +kernel
theorem dX6_serve_89 : decode cX6_serve 89 = .ok (.aload_n 0, 1) := by decide +kernel
theorem dX6_serve_90 : decode cX6_serve 90 = .ok (.getfield 9, 3) := by decide +kernel
theorem dX6_serve_93 : decode cX6_serve 93 = .ok (.ifCond .eq 13, 3) := by decide +kernel
theorem dX6_serve_96 : decode cX6_serve 96 = .ok (.aload_n 0, 1) := by decide +kernel
theorem dX6_serve_97 : decode cX6_serve 97 = .ok (.getfield 22, 3) := by decide +kernel
theorem dX6_serve_100 : decode cX6_serve 100 = .ok (.iload_n 3, 1) := by decide +kernel
theorem dX6_serve_101 : decode cX6_serve 101 = .ok (.dup2, 1) := by decide +kernel
theorem dX6_serve_102 : decode cX6_serve 102 = .ok (.iaload, 1) := by decide +kernel
theorem dX6_serve_103 : decode cX6_serve 103 = .ok (.iconst 2, 1) := by decide +kernel
theorem dX6_serve_104 : decode cX6_serve 104 = .ok (.idiv, 1) := by decide +kernel
theorem dX6_serve_105 : decode cX6_serve 105 = .ok (.iastore, 1) := by decide +kernel
theorem dX6_serve_106 : decode cX6_serve 106 = .ok (.aload_n 0, 1) := by decide +kernel
theorem dX6_serve_107 : decode cX6_serve 107 = .ok (.getfield 22, 3) := by decide +kernel
theorem dX6_serve_110 : decode cX6_serve 110 = .ok (.iload_n 3, 1) := by decide +kernel
theorem dX6_serve_111 : decode cX6_serve 111 = .ok (.iaload, 1) := by decide +kernel
theorem dX6_serve_112 : decode cX6_serve 112 = .ok (.ifCond .le 21, 3) := by decide +kernel
theorem dX6_serve_115 : decode cX6_serve 115 = .ok (.aload_n 0, 1) := by decide +kernel
theorem dX6_serve_116 : decode cX6_serve 116 = .ok (.iload 4, 2) := by decide +kernel
theorem dX6_serve_118 : decode cX6_serve 118 = .ok (.iload_n 1, 1) := by decide +kernel
theorem dX6_serve_119 : decode cX6_serve 119 = .ok (.invokevirtual 109, 3) := by decide +kernel
theorem dX6_serve_122 : decode cX6_serve 122 = .ok (.ifCond .eq 11, 3) := by decide +kernel
theorem dX6_serve_125 : decode cX6_serve 125 = .ok (.aload_n 0, 1) := by decide +kernel
theorem dX6_serve_126 : decode cX6_serve 126 = .ok (.iload_n 3, 1) := by decide +kernel
theorem dX6_serve_127 : decode cX6_serve 127 = .ok (.iload 4, 2) := by decide +kernel
theorem dX6_serve_129 : decode cX6_serve 129 = .ok (.iload_n 1, 1) := by decide +kernel
theorem dX6_serve_130 : decode cX6_serve 130 = .ok (.invokevirtual 113, 3) := by decide +kernel
theorem dX6_serve_133 : decode cX6_serve 133 = .ok (.iinc 3 1, 3) := by decide +kernel
theorem dX6_serve_136 : decode cX6_serve 136 = .ok (.goto (-132), 3) := by decide +kernel
theorem dX6_serve_139 : decode cX6_serve 139 = .ok (.return_, 1) := by decide +kernel
theorem dX6_wantsBite_0 : decode cX6_wantsBite 0 = .ok (.aload_n 0, 1) := by decide +kernel
theorem dX6_wantsBite_1 : decode cX6_wantsBite 1 = .ok (.getfield 43, 3) := by decide +kernel
theorem dX6_wantsBite_4 : decode cX6_wantsBite 4 = .ok (.iload_n 1, 1) := by decide +kernel
theorem dX6_wantsBite_5 : decode cX6_wantsBite 5 = .ok (.iaload, 1) := by decide +kernel
theorem dX6_wantsBite_6 : decode cX6_wantsBite 6 = .ok (.iconst (-1), 1) := by decide +kernel
theorem dX6_wantsBite_7 : decode cX6_wantsBite 7 = .ok (.if_icmp .eq 21, 3) := by decide +kernel
theorem dX6_wantsBite_10 : decode cX6_wantsBite 10 = .ok (.iload_n 2, 1) := by decide +kernel
theorem dX6_wantsBite_11 : decode cX6_wantsBite 11 = .ok (.aload_n 0, 1) := by decide +kernel
theorem dX6_wantsBite_12 : decode cX6_wantsBite 12 = .ok (.getfield 43, 3) := by decide +kernel
theorem dX6_wantsBite_15 : decode cX6_wantsBite 15 = .ok (.iload_n 1, 1) := by decide +kernel
theorem dX6_wantsBite_16 : decode cX6_wantsBite 16 = .ok (.iaload, 1) := by decide +kernel
theorem dX6_wantsBite_17 : decode cX6_wantsBite 17 = .ok (.isub, 1) := by decide +kernel
theorem dX6_wantsBite_18 : decode cX6_wantsBite 18 = .ok (.aload_n 0, 1) := by decide +kernel
theorem dX6_wantsBite_19 : decode cX6_wantsBite 19 = .ok (.getfield 65, 3) := by decide +kernel
theorem dX6_wantsBite_22 : decode cX6_wantsBite 22 = .ok (.getfield 117, 3) := by decide +kernel
theorem dX6_wantsBite_25 : decode cX6_wantsBite 25 = .ok (.if_icmp .le 7, 3) := by decide +kernel
theorem dX6_wantsBite_28 : decode cX6_wantsBite 28 = .ok (.iconst 1, 1) := by decide +kernel
theorem dX6_wantsBite_29 : decode cX6_wantsBite 29 = .ok (.goto 4, 3) := by decide +kernel
theorem dX6_wantsBite_32 : decode cX6_wantsBite 32 = .ok (.iconst 0, 1) := by decide +kernel
theorem dX6_wantsBite_33 : decode cX6_wantsBite 33 = .ok (.istore_n 3, 1) := by decide +kernel
theorem dX6_wantsBite_34 : decode cX6_wantsBite 34 = .ok (.iload_n 3, 1) := by decide +kernel
theorem dX6_wantsBite_35 : decode cX6_wantsBite 35 = .ok (.ifCond .eq 26, 3) := by decide +kernel
theorem dX6_wantsBite_38 : decode cX6_wantsBite 38 = .ok (.aload_n 0, 1) := by decide +kernel
theorem dX6_wantsBite_39 : decode cX6_wantsBite 39 = .ok (.getfield 65, 3) := by decide +kernel
theorem dX6_wantsBite_42 : decode cX6_wantsBite 42 = .ok (.getfield 120, 3) := by decide +kernel
theorem dX6_wantsBite_45 : decode cX6_wantsBite 45 = .ok (.iload_n 1, 1) := by decide +kernel
theorem dX6_wantsBite_46 : decode cX6_wantsBite 46 = .ok (.iaload, 1) := by decide +kernel
theorem dX6_wantsBite_47 : decode cX6_wantsBite 47 = .ok (.ifCond .le 14, 3) := by decide +kernel
theorem dX6_wantsBite_50 : decode cX6_wantsBite 50 = .ok (.aload_n 0, 1) := by decide +kernel
theorem dX6_wantsBite_51 : decode cX6_wantsBite 51 = .ok (.getfield 15, 3) := by decide +kernel
theorem dX6_wantsBite_54 : decode cX6_wantsBite 54 = .ok (.ifCond .ne 7, 3) := by decide +kernel
theorem dX6_wantsBite_57 : decode cX6_wantsBite 57 = .ok (.iconst 1, 1) := by decide +kernel
theorem dX6_wantsBite_58 : decode cX6_wantsBite 58 = .ok (.goto 4, 3) := by decide +kernel
theorem dX6_wantsBite_61 : decode cX6_wantsBite 61 = .ok (.iconst 0, 1) := by decide +kernel
theorem dX6_wantsBite_62 : decode cX6_wantsBite 62 = .ok (.ireturn, 1) := by decide +kernel
theorem dX6_bite_0 : decode cX6_bite 0 = .ok (.aload_n 0, 1) := by decide +kernel
theorem dX6_bite_1 : decode cX6_bite 1 = .ok (.getfield 65, 3) := by decide +kernel
theorem dX6_bite_4 : decode cX6_bite 4 = .ok (.getfield 120, 3) := by decide +kernel
theorem dX6_bite_7 : decode cX6_bite 7 = .ok (.iload_n 2, 1) := by decide +kernel
theorem dX6_bite_8 : decode cX6_bite 8 = .ok (.iaload, 1) := by decide +kernel
theorem dX6_bite_9 : decode cX6_bite 9 = .ok (.aload_n 0, 1) := by decide +kernel
theorem dX6_bite_10 : decode cX6_bite 10 = .ok (.getfield 22, 3) := by decide +kernel
theorem dX6_bite_13 : decode cX6_bite 13 = .ok (.iload_n 1, 1) := by decide +kernel
theorem dX6_bite_14 : decode cX6_bite 14 = .ok (.iaload, 1) := by decide +kernel
theorem dX6_bite_15 : decode cX6_bite 15 = .ok (.if_icmp .ge 15, 3) := by decide +kernel
theorem dX6_bite_18 : decode cX6_bite 18 = .ok (.aload_n 0, 1) := by decide +kernel
theorem dX6_bite_19 : decode cX6_bite 19 = .ok (.getfield 65, 3) := by decide +kernel
theorem dX6_bite_22 : decode cX6_bite 22 = .ok (.getfield 120, 3) := by decide +kernel
theorem dX6_bite_25 : decode cX6_bite 25 = .ok (.iload_n 2, 1) := by decide +kernel
theorem dX6_bite_26 : decode cX6_bite 26 = .ok (.iaload, 1) := by decide +kernel
theorem dX6_bite_27 : decode cX6_bite 27 = .ok (.goto 9, 3) := by decide +kernel
theorem dX6_bite_30 : decode cX6_bite 30 = .ok (.aload_n 0, 1) := by decide +kernel
theorem dX6_bite_31 : decode cX6_bite 31 = .ok (.getfield 22, 3) := by decide +kernel
theorem dX6_bite_34 : decode cX6_bite 34 = .ok (.iload_n 1, 1) := by decide +kernel
theorem dX6_bite_35 : decode cX6_bite 35 = .ok (.iaload, 1) := by decide +kernel
theorem dX6_bite_36 : decode cX6_bite 36 = .ok (.istore 4, 2) := by decide +kernel
theorem dX6_bite_38 : decode cX6_bite 38 = .ok (.aload_n 0, 1) := by decide +kernel
theorem dX6_bite_39 : decode cX6_bite 39 = .ok (.getfield 22, 3) := by decide +kernel
theorem dX6_bite_42 : decode cX6_bite 42 = .ok (.iload_n 1, 1) := by decide +kernel
theorem dX6_bite_43 : decode cX6_bite 43 = .ok (.dup2, 1) := by decide +kernel
theorem dX6_bite_44 : decode cX6_bite 44 = .ok (.iaload, 1) := by decide +kernel
theorem dX6_bite_45 : decode cX6_bite 45 = .ok (.iload 4, 2) := by decide +kernel
theorem dX6_bite_47 : decode cX6_bite 47 = .ok (.isub, 1) := by decide +kernel
theorem dX6_bite_48 : decode cX6_bite 48 = .ok (.iastore, 1) := by decide +kernel
theorem dX6_bite_49 : decode cX6_bite 49 = .ok (.aload_n 0, 1) := by decide +kernel
theorem dX6_bite_50 : decode cX6_bite 50 = .ok (.getfield 43, 3) := by decide +kernel
theorem dX6_bite_53 : decode cX6_bite 53 = .ok (.iload_n 2, 1) := by decide +kernel
theorem dX6_bite_54 : decode cX6_bite 54 = .ok (.iload_n 3, 1) := by decide +kernel
theorem dX6_bite_55 : decode cX6_bite 55 = .ok (.iastore, 1) := by decide +kernel
theorem dX6_bite_56 : decode cX6_bite 56 = .ok (.aload_n 0, 1) := by decide +kernel
theorem dX6_bite_57 : decode cX6_bite 57 = .ok (.getfield 46, 3) := by decide +kernel
theorem dX6_bite_60 : decode cX6_bite 60 = .ok (.iload_n 2, 1) := by decide +kernel
theorem dX6_bite_61 : decode cX6_bite 61 = .ok (.dup2, 1) := by decide +kernel
theorem dX6_bite_62 : decode cX6_bite 62 = .ok (.iaload, 1) := by decide +kernel
theorem dX6_bite_63 : decode cX6_bite 63 = .ok (.iconst 1, 1) := by decide +kernel
theorem dX6_bite_64 : decode cX6_bite 64 = .ok (.iadd, 1) := by decide +kernel
theorem dX6_bite_65 : decode cX6_bite 65 = .ok (.iastore, 1) := by decide +kernel
theorem dX6_bite_66 : decode cX6_bite 66 = .ok (.aload_n 0, 1) := by decide +kernel
theorem dX6_bite_67 : decode cX6_bite 67 = .ok (.getfield 49, 3) := by decide +kernel
theorem dX6_bite_70 : decode cX6_bite 70 = .ok (.iload_n 2, 1) := by decide +kernel
theorem dX6_bite_71 : decode cX6_bite 71 = .ok (.dup2, 1) := by decide +kernel
theorem dX6_bite_72 : decode cX6_bite 72 = .ok (.iaload, 1) := by decide +kernel
theorem dX6_bite_73 : decode cX6_bite 73 = .ok (.iload 4, 2) := by decide +kernel
theorem dX6_bite_75 : decode cX6_bite 75 = .ok (.iadd, 1) := by decide +kernel
theorem dX6_bite_76 : decode cX6_bite 76 = .ok (.iastore, 1) := by decide +kernel
theorem dX6_bite_77 : decode cX6_bite 77 = .ok (.aload_n 0, 1) := by decide +kernel
theorem dX6_bite_78 : decode cX6_bite 78 = .ok (.dup, 1) := by decide +kernel
theorem dX6_bite_79 : decode cX6_bite 79 = .ok (.getfield 56, 3) := by decide +kernel
theorem dX6_bite_82 : decode cX6_bite 82 = .ok (.iconst 1, 1) := by decide +kernel
theorem dX6_bite_83 : decode cX6_bite 83 = .ok (.iadd, 1) := by decide +kernel
theorem dX6_bite_84 : decode cX6_bite 84 = .ok (.putfield 56, 3) := by decide +kernel
theorem dX6_bite_87 : decode cX6_bite 87 = .ok (.aload_n 0, 1) := by decide +kernel
theorem dX6_bite_88 : decode cX6_bite 88 = .ok (.getfield 59, 3) := by decide +kernel
theorem dX6_bite_91 : decode cX6_bite 91 = .ok (.iconst (-1), 1) := by decide +kernel
theorem dX6_bite_92 : decode cX6_bite 92 = .ok (.if_icmp .ne 13, 3) := by decide +kernel
theorem dX6_bite_95 : decode cX6_bite 95 = .ok (.aload_n 0, 1) := by decide +kernel
theorem dX6_bite_96 : decode cX6_bite 96 = .ok (.iload_n 3, 1) := by decide +kernel
theorem dX6_bite_97 : decode cX6_bite 97 = .ok (.putfield 59, 3) := by decide +kernel
theorem dX6_bite_100 : decode cX6_bite 100 = .ok (.aload_n 0, 1) := by decide +kernel
theorem dX6_bite_101 : decode cX6_bite 101 = .ok (.iload_n 2, 1) := by decide +kernel
theorem dX6_bite_102 : decode cX6_bite 102 = .ok (.putfield 62, 3) := by decide +kernel
theorem dX6_bite_105 : decode cX6_bite 105 = .ok (.aload_n 0, 1) := by decide +kernel
theorem dX6_bite_106 : decode cX6_bite 106 = .ok (.getfield 65, 3) := by decide +kernel
theorem dX6_bite_109 : decode cX6_bite 109 = .ok (.getfield 106, 3) := by decide +kernel
theorem dX6_bite_112 : decode cX6_bite 112 = .ok (.iload_n 2, 1) := by decide +kernel
theorem dX6_bite_113 : decode cX6_bite 113 = .ok (.iaload, 1) := by decide +kernel
theorem dX6_bite_114 : decode cX6_bite 114 = .ok (.iconst 1, 1) := by decide +kernel
theorem dX6_bite_115 : decode cX6_bite 115 = .ok (.if_icmp .ne 31, 3) := by decide +kernel
theorem dX6_bite_118 : decode cX6_bite 118 = .ok (.aload_n 0, 1) := by decide +kernel
theorem dX6_bite_119 : decode cX6_bite 119 = .ok (.getfield 34, 3) := by decide +kernel
theorem dX6_bite_122 : decode cX6_bite 122 = .ok (.iload_n 1, 1) := by decide +kernel
theorem dX6_bite_123 : decode cX6_bite 123 = .ok (.bipush 21, 2) := by decide +kernel
theorem dX6_bite_125 : decode cX6_bite 125 = .ok (.imul, 1) := by decide +kernel
theorem dX6_bite_126 : decode cX6_bite 126 = .ok (.aload_n 0, 1) := by decide +kernel
theorem dX6_bite_127 : decode cX6_bite 127 = .ok (.getfield 37, 3) := by decide +kernel
theorem dX6_bite_130 : decode cX6_bite 130 = .ok (.iload_n 1, 1) := by decide +kernel
theorem dX6_bite_131 : decode cX6_bite 131 = .ok (.iaload, 1) := by decide +kernel
theorem dX6_bite_132 : decode cX6_bite 132 = .ok (.iadd, 1) := by decide +kernel
theorem dX6_bite_133 : decode cX6_bite 133 = .ok (.aload_n 0, 1) := by decide +kernel
theorem dX6_bite_134 : decode cX6_bite 134 = .ok (.getfield 65, 3) := by decide +kernel
theorem dX6_bite_137 : decode cX6_bite 137 = .ok (.getfield 122, 3) := by decide +kernel
theorem dX6_bite_140 : decode cX6_bite 140 = .ok (.iload_n 2, 1) := by decide +kernel
theorem dX6_bite_141 : decode cX6_bite 141 = .ok (.iaload, 1) := by decide +kernel
theorem dX6_bite_142 : decode cX6_bite 142 = .ok (.iastore, 1) := by decide +kernel
theorem dX6_bite_143 : decode cX6_bite 143 = .ok (.goto 49, 3) := by decide +kernel
theorem dX6_bite_146 : decode cX6_bite 146 = .ok (.aload_n 0, 1) := by decide +kernel
theorem dX6_bite_147 : decode cX6_bite 147 = .ok (.getfield 40, 3) := by decide +kernel
theorem dX6_bite_150 : decode cX6_bite 150 = .ok (.iload_n 1, 1) := by decide +kernel
theorem dX6_bite_151 : decode cX6_bite 151 = .ok (.iaload, 1) := by decide +kernel
theorem dX6_bite_152 : decode cX6_bite 152 = .ok (.bipush 21, 2) := by decide +kernel
theorem dX6_bite_154 : decode cX6_bite 154 = .ok (.if_icmp .ge 38, 3) := by decide +kernel
theorem dX6_bite_157 : decode cX6_bite 157 = .ok (.aload_n 0, 1) := by decide +kernel
theorem dX6_bite_158 : decode cX6_bite 158 = .ok (.getfield 34, 3) := by decide +kernel
theorem dX6_bite_161 : decode cX6_bite 161 = .ok (.iload_n 1, 1) := by decide +kernel
theorem dX6_bite_162 : decode cX6_bite 162 = .ok (.bipush 21, 2) := by decide +kernel
theorem dX6_bite_164 : decode cX6_bite 164 = .ok (.imul, 1) := by decide +kernel
theorem dX6_bite_165 : decode cX6_bite 165 = .ok (.aload_n 0, 1) := by decide +kernel
theorem dX6_bite_166 : decode cX6_bite 166 = .ok (.getfield 40, 3) := by decide +kernel
theorem dX6_bite_169 : decode cX6_bite 169 = .ok (.iload_n 1, 1) := by decide +kernel
theorem dX6_bite_170 : decode cX6_bite 170 = .ok (.iaload, 1) := by decide +kernel
theorem dX6_bite_171 : decode cX6_bite 171 = .ok (.iadd, 1) := by decide +kernel
theorem dX6_bite_172 : decode cX6_bite 172 = .ok (.aload_n 0, 1) := by decide +kernel
theorem dX6_bite_173 : decode cX6_bite 173 = .ok (.getfield 65, 3) := by decide +kernel
theorem dX6_bite_176 : decode cX6_bite 176 = .ok (.getfield 122, 3) := by decide +kernel
theorem dX6_bite_179 : decode cX6_bite 179 = .ok (.iload_n 2, 1) := by decide +kernel
theorem dX6_bite_180 : decode cX6_bite 180 = .ok (.iaload, 1) := by decide +kernel
theorem dX6_bite_181 : decode cX6_bite 181 = .ok (.iastore, 1) := by decide +kernel
theorem dX6_bite_182 : decode cX6_bite 182 = .ok (.aload_n 0, 1) := by decide +kernel
theorem dX6_bite_183 : decode cX6_bite 183 = .ok (.getfield 40, 3) := by decide +kernel
theorem dX6_bite_186 : decode cX6_bite 186 = .ok (.iload_n 1, 1) := by decide +kernel
theorem dX6_bite_187 : decode cX6_bite 187 = .ok (.dup2, 1) := by decide +kernel
theorem dX6_bite_188 : decode cX6_bite 188 = .ok (.iaload, 1) := by decide +kernel
theorem dX6_bite_189 : decode cX6_bite 189 = .ok (.iconst 1, 1) := by decide +kernel
theorem dX6_bite_190 : decode cX6_bite 190 = .ok (.iadd, 1) := by decide +kernel
theorem dX6_bite_191 : decode cX6_bite 191 = .ok (.iastore, 1) := by decide +kernel
theorem dX6_bite_192 : decode cX6_bite 192 = .ok (.return_, 1) := by decide +kernel
theorem dX6_climb_0 : decode cX6_climb 0 = .ok (.iconst 0, 1) := by decide +kernel
theorem dX6_climb_1 : decode cX6_climb 1 = .ok (.istore_n 2, 1) := by decide +kernel
theorem dX6_climb_2 : decode cX6_climb 2 = .ok (.iload_n 2, 1) := by decide +kernel
theorem dX6_climb_3 : decode cX6_climb 3 = .ok (.aload_n 0, 1) := by decide +kernel
theorem dX6_climb_4 : decode cX6_climb 4 = .ok (.getfield 65, 3) := by decide +kernel
theorem dX6_climb_7 : decode cX6_climb 7 = .ok (.getfield 82, 3) := by decide +kernel
theorem dX6_climb_10 : decode cX6_climb 10 = .ok (.if_icmp .ge 89, 3) := by decide +kernel
theorem dX6_climb_13 : decode cX6_climb 13 = .ok (.aload_n 0, 1) := by decide +kernel
theorem dX6_climb_14 : decode cX6_climb 14 = .ok (.getfield 18, 3) := by decide +kernel
theorem dX6_climb_17 : decode cX6_climb 17 = .ok (.iload_n 2, 1) := by decide +kernel
theorem dX6_climb_18 : decode cX6_climb 18 = .ok (.iaload, 1) := by decide +kernel
theorem dX6_climb_19 : decode cX6_climb 19 = .ok (.istore_n 3, 1) := by decide +kernel
theorem dX6_climb_20 : decode cX6_climb 20 = .ok (.iload_n 3, 1) := by decide +kernel
theorem dX6_climb_21 : decode cX6_climb 21 = .ok (.ifCond .lt 72, 3) := by decide +kernel
theorem dX6_climb_24 : decode cX6_climb 24 = .ok (.iload_n 3, 1) := by decide +kernel
theorem dX6_climb_25 : decode cX6_climb 25 = .ok (.aload_n 0, 1) := by decide +kernel
theorem dX6_climb_26 : decode cX6_climb 26 = .ok (.getfield 65, 3) := by decide +kernel
theorem dX6_climb_29 : decode cX6_climb 29 = .ok (.getfield 100, 3) := by decide +kernel
theorem dX6_climb_32 : decode cX6_climb 32 = .ok (.if_icmp .ge 61, 3) := by decide +kernel
theorem dX6_climb_35 : decode cX6_climb 35 = .ok (.aload_n 0, 1) := by decide +kernel
theorem dX6_climb_36 : decode cX6_climb 36 = .ok (.getfield 25, 3) := by decide +kernel
theorem dX6_climb_39 : decode cX6_climb 39 = .ok (.iload_n 2, 1) := by decide +kernel
theorem dX6_climb_40 : decode cX6_climb 40 = .ok (.iaload, 1) := by decide +kernel
theorem dX6_climb_41 : decode cX6_climb 41 = .ok (.iconst 1, 1) := by decide +kernel
theorem dX6_climb_42 : decode cX6_climb 42 = .ok (.if_icmp .ne 6, 3) := by decide +kernel
theorem dX6_climb_45 : decode cX6_climb 45 = .ok (.goto 48, 3) := by decide +kernel
theorem dX6_climb_48 : decode cX6_climb 48 = .ok (.aload_n 0, 1) := by decide +kernel
theorem dX6_climb_49 : decode cX6_climb 49 = .ok (.getfield 65, 3) := by decide +kernel
theorem dX6_climb_52 : decode cX6_climb 52 = .ok (.getfield 106, 3) := by decide +kernel
theorem dX6_climb_55 : decode cX6_climb 55 = .ok (.iload_n 3, 1) := by decide +kernel
theorem dX6_climb_56 : decode cX6_climb 56 = .ok (.iaload, 1) := by decide +kernel
theorem dX6_climb_57 : decode cX6_climb 57 = .ok (.iconst 2, 1) := by decide +kernel
theorem dX6_climb_58 : decode cX6_climb 58 = .ok (.if_icmp .ne 29, 3) := by decide +kernel
theorem dX6_climb_61 : decode cX6_climb 61 = .ok (.aload_n 0, 1) := by decide +kernel
theorem dX6_climb_62 : decode cX6_climb 62 = .ok (.getfield 31, 3) := by decide +kernel
theorem dX6_climb_65 : decode cX6_climb 65 = .ok (.iload_n 2, 1) := by decide +kernel
theorem dX6_climb_66 : decode cX6_climb 66 = .ok (.iaload, 1) := by decide +kernel
theorem dX6_climb_67 : decode cX6_climb 67 = .ok (.ifCond .ne 20, 3) := by decide +kernel
theorem dX6_climb_70 : decode cX6_climb 70 = .ok (.aload_n 0, 1) := by decide +kernel
theorem dX6_climb_71 : decode cX6_climb 71 = .ok (.getfield 15, 3) := by decide +kernel
theorem dX6_climb_74 : decode cX6_climb 74 = .ok (.ifCond .ne 13, 3) := by decide +kernel
theorem dX6_climb_77 : decode cX6_climb 77 = .ok (.aload_n 0, 1) := by decide +kernel
theorem dX6_climb_78 : decode cX6_climb 78 = .ok (.getfield 31, 3) := by decide +kernel
theorem dX6_climb_81 : decode cX6_climb 81 = .ok (.iload_n 2, 1) := by decide +kernel
theorem dX6_climb_82 : decode cX6_climb 82 = .ok (.iconst 1, 1) := by decide +kernel
theorem dX6_climb_83 : decode cX6_climb 83 = .ok (.iastore, 1) := by decide +kernel
theorem dX6_climb_84 : decode cX6_climb 84 = .ok (.goto 9, 3) := by decide +kernel
theorem dX6_climb_87 : decode cX6_climb 87 = .ok (.aload_n 0, 1) := by decide +kernel
theorem dX6_climb_88 : decode cX6_climb 88 = .ok (.iload_n 2, 1) := by decide +kernel
theorem dX6_climb_89 : decode cX6_climb 89 = .ok (.iload_n 1, 1) := by decide +kernel
theorem dX6_climb_90 : decode cX6_climb 90 = .ok (.invokevirtual 125, 3) := by decide +kernel
theorem dX6_climb_93 : decode cX6_climb 93 = .ok (.iinc 2 1, 3) := by decide +kernel
theorem dX6_climb_96 : decode cX6_climb 96 = .ok (.goto (-94), 3) := by decide +kernel
theorem dX6_climb_99 : decode cX6_climb 99 = .ok (.return_, 1) := by decide +kernel
theorem dX6_leave_0 : decode cX6_leave 0 = .ok (.aload_n 0, 1) := by decide +kernel
theorem dX6_leave_1 : decode cX6_leave 1 = .ok (.getfield 31, 3) := by decide +kernel
theorem dX6_leave_4 : decode cX6_leave 4 = .ok (.iload_n 1, 1) := by decide +kernel
theorem dX6_leave_5 : decode cX6_leave 5 = .ok (.iconst 0, 1) := by decide +kernel
theorem dX6_leave_6 : decode cX6_leave 6 = .ok (.iastore, 1) := by decide +kernel
theorem dX6_leave_7 : decode cX6_leave 7 = .ok (.aload_n 0, 1) := by decide +kernel
theorem dX6_leave_8 : decode cX6_leave 8 = .ok (.getfield 18, 3) := by decide +kernel
theorem dX6_leave_11 : decode cX6_leave 11 = .ok (.iload_n 1, 1) := by decide +kernel
theorem dX6_leave_12 : decode cX6_leave 12 = .ok (.dup2, 1) := by decide +kernel
theorem dX6_leave_13 : decode cX6_leave 13 = .ok (.iaload, 1) := by decide +kernel
theorem dX6_leave_14 : decode cX6_leave 14 = .ok (.iconst 1, 1) := by decide +kernel
theorem dX6_leave_15 : decode cX6_leave 15 = .ok (.iadd, 1) := by decide +kernel
theorem dX6_leave_16 : decode cX6_leave 16 = .ok (.iastore, 1) := by decide +kernel
theorem dX6_leave_17 : decode cX6_leave 17 = .ok (.aload_n 0, 1) := by decide +kernel
theorem dX6_leave_18 : decode cX6_leave 18 = .ok (.getfield 65, 3) := by decide +kernel
theorem dX6_leave_21 : decode cX6_leave 21 = .ok (.getfield 129, 3) := by decide +kernel
theorem dX6_leave_24 : decode cX6_leave 24 = .ok (.ifCond .le 47, 3) := by decide +kernel
theorem dX6_leave_27 : decode cX6_leave 27 = .ok (.aload_n 0, 1) := by decide +kernel
theorem dX6_leave_28 : decode cX6_leave 28 = .ok (.getfield 18, 3) := by decide +kernel
theorem dX6_leave_31 : decode cX6_leave 31 = .ok (.iload_n 1, 1) := by decide +kernel
theorem dX6_leave_32 : decode cX6_leave 32 = .ok (.iaload, 1) := by decide +kernel
theorem dX6_leave_33 : decode cX6_leave 33 = .ok (.aload_n 0, 1) := by decide +kernel
theorem dX6_leave_34 : decode cX6_leave 34 = .ok (.getfield 65, 3) := by decide +kernel
theorem dX6_leave_37 : decode cX6_leave 37 = .ok (.getfield 129, 3) := by decide +kernel
theorem dX6_leave_40 : decode cX6_leave 40 = .ok (.irem, 1) := by decide +kernel
theorem dX6_leave_41 : decode cX6_leave 41 = .ok (.ifCond .ne 30, 3) := by decide +kernel
theorem dX6_leave_44 : decode cX6_leave 44 = .ok (.aload_n 0, 1) := by decide +kernel
theorem dX6_leave_45 : decode cX6_leave 45 = .ok (.getfield 40, 3) := by decide +kernel
theorem dX6_leave_48 : decode cX6_leave 48 = .ok (.iload_n 1, 1) := by decide +kernel
theorem dX6_leave_49 : decode cX6_leave 49 = .ok (.iaload, 1) := by decide +kernel
theorem dX6_leave_50 : decode cX6_leave 50 = .ok (.aload_n 0, 1) := by decide +kernel
theorem dX6_leave_51 : decode cX6_leave 51 = .ok (.getfield 37, 3) := by decide +kernel
theorem dX6_leave_54 : decode cX6_leave 54 = .ok (.iload_n 1, 1) := by decide +kernel
theorem dX6_leave_55 : decode cX6_leave 55 = .ok (.iaload, 1) := by decide +kernel
theorem dX6_leave_56 : decode cX6_leave 56 = .ok (.isub, 1) := by decide +kernel
theorem dX6_leave_57 : decode cX6_leave 57 = .ok (.iconst 2, 1) := by decide +kernel
theorem dX6_leave_58 : decode cX6_leave 58 = .ok (.if_icmp .lt 13, 3) := by decide +kernel
theorem dX6_leave_61 : decode cX6_leave 61 = .ok (.aload_n 0, 1) := by decide +kernel
theorem dX6_leave_62 : decode cX6_leave 62 = .ok (.getfield 37, 3) := by decide +kernel
theorem dX6_leave_65 : decode cX6_leave 65 = .ok (.iload_n 1, 1) := by decide +kernel
theorem dX6_leave_66 : decode cX6_leave 66 = .ok (.dup2, 1) := by decide +kernel
theorem dX6_leave_67 : decode cX6_leave 67 = .ok (.iaload, 1) := by decide +kernel
theorem dX6_leave_68 : decode cX6_leave 68 = .ok (.iconst 1, 1) := by decide +kernel
theorem dX6_leave_69 : decode cX6_leave 69 = .ok (.iadd, 1) := by decide +kernel
theorem dX6_leave_70 : decode cX6_leave 70 = .ok (.iastore, 1) := by decide +kernel
theorem dX6_leave_71 : decode cX6_leave 71 = .ok (.aload_n 0, 1) := by decide +kernel
theorem dX6_leave_72 : decode cX6_leave 72 = .ok (.getfield 18, 3) := by decide +kernel
theorem dX6_leave_75 : decode cX6_leave 75 = .ok (.iload_n 1, 1) := by decide +kernel
theorem dX6_leave_76 : decode cX6_leave 76 = .ok (.iaload, 1) := by decide +kernel
theorem dX6_leave_77 : decode cX6_leave 77 = .ok (.aload_n 0, 1) := by decide +kernel
theorem dX6_leave_78 : decode cX6_leave 78 = .ok (.getfield 65, 3) := by decide +kernel
theorem dX6_leave_81 : decode cX6_leave 81 = .ok (.getfield 100, 3) := by decide +kernel
theorem dX6_leave_84 : decode cX6_leave 84 = .ok (.if_icmp .ne 22, 3) := by decide +kernel
theorem dX6_leave_87 : decode cX6_leave 87 = .ok (.aload_n 0, 1) := by decide +kernel
theorem dX6_leave_88 : decode cX6_leave 88 = .ok (.getfield 28, 3) := by decide +kernel
theorem dX6_leave_91 : decode cX6_leave 91 = .ok (.iload_n 1, 1) := by decide +kernel
theorem dX6_leave_92 : decode cX6_leave 92 = .ok (.iload_n 2, 1) := by decide +kernel
theorem dX6_leave_93 : decode cX6_leave 93 = .ok (.iconst 1, 1) := by decide +kernel
theorem dX6_leave_94 : decode cX6_leave 94 = .ok (.iadd, 1) := by decide +kernel
theorem dX6_leave_95 : decode cX6_leave 95 = .ok (.iastore, 1) := by decide +kernel
theorem dX6_leave_96 : decode cX6_leave 96 = .ok (.aload_n 0, 1) := by decide +kernel
theorem dX6_leave_97 : decode cX6_leave 97 = .ok (.dup, 1) := by decide +kernel
theorem dX6_leave_98 : decode cX6_leave 98 = .ok (.getfield 52, 3) := by decide +kernel
theorem dX6_leave_101 : decode cX6_leave 101 = .ok (.iconst 1, 1) := by decide +kernel
theorem dX6_leave_102 : decode cX6_leave 102 = .ok (.isub, 1) := by decide +kernel
theorem dX6_leave_103 : decode cX6_leave 103 = .ok (.putfield 52, 3) := by decide +kernel
theorem dX6_leave_106 : decode cX6_leave 106 = .ok (.return_, 1) := by decide +kernel
theorem dX6_letters_0 : decode cX6_letters 0 = .ok (.aload_n 0, 1) := by decide +kernel
theorem dX6_letters_1 : decode cX6_letters 1 = .ok (.getfield 40, 3) := by decide +kernel
theorem dX6_letters_4 : decode cX6_letters 4 = .ok (.iload_n 1, 1) := by decide +kernel
theorem dX6_letters_5 : decode cX6_letters 5 = .ok (.iaload, 1) := by decide +kernel
theorem dX6_letters_6 : decode cX6_letters 6 = .ok (.aload_n 0, 1) := by decide +kernel
theorem dX6_letters_7 : decode cX6_letters 7 = .ok (.getfield 37, 3) := by decide +kernel
theorem dX6_letters_10 : decode cX6_letters 10 = .ok (.iload_n 1, 1) := by decide +kernel
theorem dX6_letters_11 : decode cX6_letters 11 = .ok (.iaload, 1) := by decide +kernel
theorem dX6_letters_12 : decode cX6_letters 12 = .ok (.isub, 1) := by decide +kernel
theorem dX6_letters_13 : decode cX6_letters 13 = .ok (.ireturn, 1) := by decide +kernel
theorem dX6_letter_0 : decode cX6_letter 0 = .ok (.iload_n 2, 1) := by decide +kernel
theorem dX6_letter_1 : decode cX6_letter 1 = .ok (.ifCond .lt 33, 3) := by decide +kernel
theorem dX6_letter_4 : decode cX6_letter 4 = .ok (.iload_n 2, 1) := by decide +kernel
theorem dX6_letter_5 : decode cX6_letter 5 = .ok (.aload_n 0, 1) := by decide +kernel
theorem dX6_letter_6 : decode cX6_letter 6 = .ok (.iload_n 1, 1) := by decide +kernel
theorem dX6_letter_7 : decode cX6_letter 7 = .ok (.invokevirtual 132, 3) := by decide +kernel
theorem dX6_letter_10 : decode cX6_letter 10 = .ok (.if_icmp .ge 24, 3) := by decide +kernel
theorem dX6_letter_13 : decode cX6_letter 13 = .ok (.aload_n 0, 1) := by decide +kernel
theorem dX6_letter_14 : decode cX6_letter 14 = .ok (.getfield 34, 3) := by decide +kernel
theorem dX6_letter_17 : decode cX6_letter 17 = .ok (.iload_n 1, 1) := by decide +kernel
theorem dX6_letter_18 : decode cX6_letter 18 = .ok (.bipush 21, 2) := by decide +kernel
theorem dX6_letter_20 : decode cX6_letter 20 = .ok (.imul, 1) := by decide +kernel
theorem dX6_letter_21 : decode cX6_letter 21 = .ok (.aload_n 0, 1) := by decide +kernel
theorem dX6_letter_22 : decode cX6_letter 22 = .ok (.getfield 37, 3) := by decide +kernel
theorem dX6_letter_25 : decode cX6_letter 25 = .ok (.iload_n 1, 1) := by decide +kernel
theorem dX6_letter_26 : decode cX6_letter 26 = .ok (.iaload, 1) := by decide +kernel
theorem dX6_letter_27 : decode cX6_letter 27 = .ok (.iadd, 1) := by decide +kernel
theorem dX6_letter_28 : decode cX6_letter 28 = .ok (.iload_n 2, 1) := by decide +kernel
theorem dX6_letter_29 : decode cX6_letter 29 = .ok (.iadd, 1) := by decide +kernel
theorem dX6_letter_30 : decode cX6_letter 30 = .ok (.iaload, 1) := by decide +kernel
theorem dX6_letter_31 : decode cX6_letter 31 = .ok (.goto 4, 3) := by decide +kernel
theorem dX6_letter_34 : decode cX6_letter 34 = .ok (.iconst (-1), 1) := by decide +kernel
theorem dX6_letter_35 : decode cX6_letter 35 = .ok (.ireturn, 1) := by decide +kernel
theorem dX6_noteAsTold_0 : decode cX6_noteAsTold 0 = .ok (.aload_n 0, 1) := by decide +kernel
theorem dX6_noteAsTold_1 : decode cX6_noteAsTold 1 = .ok (.iload_n 1, 1) := by decide +kernel
theorem dX6_noteAsTold_2 : decode cX6_noteAsTold 2 = .ok (.invokevirtual 132, 3) := by decide +kernel
theorem dX6_noteAsTold_5 : decode cX6_noteAsTold 5 = .ok (.aload_n 0, 1) := by decide +kernel
theorem dX6_noteAsTold_6 : decode cX6_noteAsTold 6 = .ok (.getfield 65, 3) := by decide +kernel
theorem dX6_noteAsTold_9 : decode cX6_noteAsTold 9 = .ok (.getfield 88, 3) := by decide +kernel
theorem dX6_noteAsTold_12 : decode cX6_noteAsTold 12 = .ok (.iload_n 1, 1) := by decide +kernel
theorem dX6_noteAsTold_13 : decode cX6_noteAsTold 13 = .ok (.iaload, 1) := by decide +kernel
theorem dX6_noteAsTold_14 : decode cX6_noteAsTold 14 = .ok (.if_icmp .eq 5, 3) := by decide +kernel
theorem dX6_noteAsTold_17 : decode cX6_noteAsTold 17 = .ok (.iconst 0, 1) := by decide +kernel
theorem dX6_noteAsTold_18 : decode cX6_noteAsTold 18 = .ok (.ireturn, 1) := by decide +kernel
theorem dX6_noteAsTold_19 : decode cX6_noteAsTold 19 = .ok (.iconst 0, 1) := by decide +kernel
theorem dX6_noteAsTold_20 : decode cX6_noteAsTold 20 = .ok (.istore_n 2, 1) := by decide +kernel
theorem dX6_noteAsTold_21 : decode cX6_noteAsTold 21 = .ok (.iload_n 2, 1) := by decide +kernel
theorem dX6_noteAsTold_22 : decode cX6_noteAsTold 22 = .ok (.iconst 3, 1) := by decide +kernel
theorem dX6_noteAsTold_23 : decode cX6_noteAsTold 23 = .ok (.if_icmp .ge 29, 3) := by decide +kernel
theorem dX6_noteAsTold_26 : decode cX6_noteAsTold 26 = .ok (.aload_n 0, 1) := by decide +kernel
theorem dX6_noteAsTold_27 : decode cX6_noteAsTold 27 = .ok (.iload_n 1, 1) := by decide +kernel
theorem dX6_noteAsTold_28 : decode cX6_noteAsTold 28 = .ok (.iload_n 2, 1) := by decide +kernel
theorem dX6_noteAsTold_29 : decode cX6_noteAsTold 29 = .ok (.invokevirtual 135, 3) := by decide +kernel
theorem dX6_noteAsTold_32 : decode cX6_noteAsTold 32 = .ok (.aload_n 0, 1) := by decide +kernel
theorem dX6_noteAsTold_33 : decode cX6_noteAsTold 33 = .ok (.getfield 65, 3) := by decide +kernel
theorem dX6_noteAsTold_36 : decode cX6_noteAsTold 36 = .ok (.iload_n 1, 1) := by decide +kernel
theorem dX6_noteAsTold_37 : decode cX6_noteAsTold 37 = .ok (.iload_n 2, 1) := by decide +kernel
theorem dX6_noteAsTold_38 : decode cX6_noteAsTold 38 = .ok (.invokevirtual 139, 3) := by decide +kernel
theorem dX6_noteAsTold_41 : decode cX6_noteAsTold 41 = .ok (.if_icmp .eq 5, 3) := by decide +kernel
theorem dX6_noteAsTold_44 : decode cX6_noteAsTold 44 = .ok (.iconst 0, 1) := by decide +kernel
theorem dX6_noteAsTold_45 : decode cX6_noteAsTold 45 = .ok (.ireturn, 1) := by decide +kernel
theorem dX6_noteAsTold_46 : decode cX6_noteAsTold 46 = .ok (.iinc 2 1, 3) := by decide +kernel
theorem dX6_noteAsTold_49 : decode cX6_noteAsTold 49 = .ok (.goto (-28), 3) := by decide +kernel
theorem dX6_noteAsTold_52 : decode cX6_noteAsTold 52 = .ok (.iconst 1, 1) := by decide +kernel
theorem dX6_noteAsTold_53 : decode cX6_noteAsTold 53 = .ok (.ireturn, 1) := by decide +kernel
theorem dX6_bringsUp_0 : decode cX6_bringsUp 0 = .ok (.aload_n 0, 1) := by decide +kernel
theorem dX6_bringsUp_1 : decode cX6_bringsUp 1 = .ok (.getfield 28, 3) := by decide +kernel
theorem dX6_bringsUp_4 : decode cX6_bringsUp 4 = .ok (.iload_n 1, 1) := by decide +kernel
theorem dX6_bringsUp_5 : decode cX6_bringsUp 5 = .ok (.iaload, 1) := by decide +kernel
theorem dX6_bringsUp_6 : decode cX6_bringsUp 6 = .ok (.iconst (-1), 1) := by decide +kernel
theorem dX6_bringsUp_7 : decode cX6_bringsUp 7 = .ok (.if_icmp .eq 17, 3) := by decide +kernel
theorem dX6_bringsUp_10 : decode cX6_bringsUp 10 = .ok (.aload_n 0, 1) := by decide +kernel
theorem dX6_bringsUp_11 : decode cX6_bringsUp 11 = .ok (.getfield 22, 3) := by decide +kernel
theorem dX6_bringsUp_14 : decode cX6_bringsUp 14 = .ok (.iload_n 1, 1) := by decide +kernel
theorem dX6_bringsUp_15 : decode cX6_bringsUp 15 = .ok (.iaload, 1) := by decide +kernel
theorem dX6_bringsUp_16 : decode cX6_bringsUp 16 = .ok (.iload_n 2, 1) := by decide +kernel
theorem dX6_bringsUp_17 : decode cX6_bringsUp 17 = .ok (.if_icmp .lt 7, 3) := by decide +kernel
theorem dX6_bringsUp_20 : decode cX6_bringsUp 20 = .ok (.iconst 1, 1) := by decide +kernel
theorem dX6_bringsUp_21 : decode cX6_bringsUp 21 = .ok (.goto 4, 3) := by decide +kernel
theorem dX6_bringsUp_24 : decode cX6_bringsUp 24 = .ok (.iconst 0, 1) := by decide +kernel
theorem dX6_bringsUp_25 : decode cX6_bringsUp 25 = .ok (.ireturn, 1) := by decide +kernel
theorem dX6_loadUp_0 : decode cX6_loadUp 0 = .ok (.iconst 0, 1) := by decide +kernel
theorem dX6_loadUp_1 : decode cX6_loadUp 1 = .ok (.istore_n 1, 1) := by decide +kernel
theorem dX6_loadUp_2 : decode cX6_loadUp 2 = .ok (.iconst 0, 1) := by decide +kernel
theorem dX6_loadUp_3 : decode cX6_loadUp 3 = .ok (.istore_n 2, 1) := by decide +kernel
theorem dX6_loadUp_4 : decode cX6_loadUp 4 = .ok (.iload_n 2, 1) := by decide +kernel
theorem dX6_loadUp_5 : decode cX6_loadUp 5 = .ok (.aload_n 0, 1) := by decide +kernel
theorem dX6_loadUp_6 : decode cX6_loadUp 6 = .ok (.getfield 65, 3) := by decide +kernel
theorem dX6_loadUp_9 : decode cX6_loadUp 9 = .ok (.getfield 82, 3) := by decide +kernel
theorem dX6_loadUp_12 : decode cX6_loadUp 12 = .ok (.if_icmp .ge 28, 3) := by decide +kernel
theorem dX6_loadUp_15 : decode cX6_loadUp 15 = .ok (.aload_n 0, 1) := by decide +kernel
theorem dX6_loadUp_16 : decode cX6_loadUp 16 = .ok (.getfield 28, 3) := by decide +kernel
theorem dX6_loadUp_19 : decode cX6_loadUp 19 = .ok (.iload_n 2, 1) := by decide +kernel
theorem dX6_loadUp_20 : decode cX6_loadUp 20 = .ok (.iaload, 1) := by decide +kernel
theorem dX6_loadUp_21 : decode cX6_loadUp 21 = .ok (.iconst (-1), 1) := by decide +kernel
theorem dX6_loadUp_22 : decode cX6_loadUp 22 = .ok (.if_icmp .eq 12, 3) := by decide +kernel
theorem dX6_loadUp_25 : decode cX6_loadUp 25 = .ok (.iload_n 1, 1) := by decide +kernel
theorem dX6_loadUp_26 : decode cX6_loadUp 26 = .ok (.aload_n 0, 1) := by decide +kernel
theorem dX6_loadUp_27 : decode cX6_loadUp 27 = .ok (.getfield 22, 3) := by decide +kernel
theorem dX6_loadUp_30 : decode cX6_loadUp 30 = .ok (.iload_n 2, 1) := by decide +kernel
theorem dX6_loadUp_31 : decode cX6_loadUp 31 = .ok (.iaload, 1) := by decide +kernel
theorem dX6_loadUp_32 : decode cX6_loadUp 32 = .ok (.iadd, 1) := by decide +kernel
theorem dX6_loadUp_33 : decode cX6_loadUp 33 = .ok (.istore_n 1, 1) := by decide +kernel
theorem dX6_loadUp_34 : decode cX6_loadUp 34 = .ok (.iinc 2 1, 3) := by decide +kernel
theorem dX6_loadUp_37 : decode cX6_loadUp 37 = .ok (.goto (-33), 3) := by decide +kernel
theorem dX6_loadUp_40 : decode cX6_loadUp 40 = .ok (.iload_n 1, 1) := by decide +kernel
theorem dX6_loadUp_41 : decode cX6_loadUp 41 = .ok (.ireturn, 1) := by decide +kernel
theorem dX7_type_0 : decode cX7_type 0 = .ok (.iload_n 1, 1) := by decide +kernel
theorem dX7_type_1 : decode cX7_type 1 = .ok (.invokestatic 89, 3) := by decide +kernel
theorem dX7_type_4 : decode cX7_type 4 = .ok (.ifCond .eq 14, 3) := by decide +kernel
theorem dX7_type_7 : decode cX7_type 7 = .ok (.iload_n 2, 1) := by decide +kernel
theorem dX7_type_8 : decode cX7_type 8 = .ok (.ifCond .lt 10, 3) := by decide +kernel
theorem dX7_type_11 : decode cX7_type 11 = .ok (.iload_n 2, 1) := by decide +kernel
theorem dX7_type_12 : decode cX7_type 12 = .ok (.sipush 255, 3) := by decide +kernel
theorem dX7_type_15 : decode cX7_type 15 = .ok (.if_icmp .le 6, 3) := by decide +kernel
theorem dX7_type_18 : decode cX7_type 18 = .ok (.bipush (-2), 2) := by decide +kernel
theorem dX7_type_20 : decode cX7_type 20 = .ok (.ireturn, 1) := by decide +kernel
theorem dX7_type_21 : decode cX7_type 21 = .ok (.aload_n 0, 1) := by decide +kernel
theorem dX7_type_22 : decode cX7_type 22 = .ok (.iload_n 1, 1) := by decide +kernel
theorem dX7_type_23 : decode cX7_type 23 = .ok (.invokevirtual 93, 3) := by decide +kernel
theorem dX7_type_26 : decode cX7_type 26 = .ok (.iload_n 2, 1) := by decide +kernel
theorem dX7_type_27 : decode cX7_type 27 = .ok (.invokevirtual 97, 3) := by decide +kernel
theorem dX7_type_30 : decode cX7_type 30 = .ok (.ifCond .ne 6, 3) := by decide +kernel
theorem dX7_type_33 : decode cX7_type 33 = .ok (.bipush (-4), 2) := by decide +kernel
theorem dX7_type_35 : decode cX7_type 35 = .ok (.ireturn, 1) := by decide +kernel
theorem dX7_type_36 : decode cX7_type 36 = .ok (.aload_n 0, 1) := by decide +kernel
theorem dX7_type_37 : decode cX7_type 37 = .ok (.iload_n 1, 1) := by decide +kernel
theorem dX7_type_38 : decode cX7_type 38 = .ok (.invokevirtual 100, 3) := by decide +kernel
theorem dX7_type_41 : decode cX7_type 41 = .ok (.ireturn, 1) := by decide +kernel
theorem dX7_wipe_0 : decode cX7_wipe 0 = .ok (.iload_n 1, 1) := by decide +kernel
theorem dX7_wipe_1 : decode cX7_wipe 1 = .ok (.invokestatic 89, 3) := by decide +kernel
theorem dX7_wipe_4 : decode cX7_wipe 4 = .ok (.ifCond .ne 6, 3) := by decide +kernel
theorem dX7_wipe_7 : decode cX7_wipe 7 = .ok (.bipush (-2), 2) := by decide +kernel
theorem dX7_wipe_9 : decode cX7_wipe 9 = .ok (.ireturn, 1) := by decide +kernel
theorem dX7_wipe_10 : decode cX7_wipe 10 = .ok (.aload_n 0, 1) := by decide +kernel
theorem dX7_wipe_11 : decode cX7_wipe 11 = .ok (.iload_n 1, 1) := by decide +kernel
theorem dX7_wipe_12 : decode cX7_wipe 12 = .ok (.invokevirtual 93, 3) := by decide +kernel
theorem dX7_wipe_15 : decode cX7_wipe 15 = .ok (.getfield 104, 3) := by decide +kernel
theorem dX7_wipe_18 : decode cX7_wipe 18 = .ok (.istore_n 2, 1) := by decide +kernel
theorem dX7_wipe_19 : decode cX7_wipe 19 = .ok (.aload_n 0, 1) := by decide +kernel
theorem dX7_wipe_20 : decode cX7_wipe 20 = .ok (.iload_n 1, 1) := by decide +kernel
theorem dX7_wipe_21 : decode cX7_wipe 21 = .ok (.invokevirtual 93, 3) := by decide +kernel
theorem dX7_wipe_24 : decode cX7_wipe 24 = .ok (.iconst 0, 1) := by decide +kernel
theorem dX7_wipe_25 : decode cX7_wipe 25 = .ok (.putfield 104, 3) := by decide +kernel
theorem dX7_wipe_28 : decode cX7_wipe 28 = .ok (.aload_n 0, 1) := by decide +kernel
theorem dX7_wipe_29 : decode cX7_wipe 29 = .ok (.iload_n 1, 1) := by decide +kernel
theorem dX7_wipe_30 : decode cX7_wipe 30 = .ok (.invokevirtual 100, 3) := by decide +kernel
theorem dX7_wipe_33 : decode cX7_wipe 33 = .ok (.pop, 1) := by decide +kernel
theorem dX7_wipe_34 : decode cX7_wipe 34 = .ok (.iload_n 2, 1) := by decide +kernel
theorem dX7_wipe_35 : decode cX7_wipe 35 = .ok (.ireturn, 1) := by decide +kernel
theorem dX7_undo_0 : decode cX7_undo 0 = .ok (.iload_n 1, 1) := by decide +kernel
theorem dX7_undo_1 : decode cX7_undo 1 = .ok (.invokestatic 89, 3) := by decide +kernel
theorem dX7_undo_4 : decode cX7_undo 4 = .ok (.ifCond .ne 6, 3) := by decide +kernel
theorem dX7_undo_7 : decode cX7_undo 7 = .ok (.bipush (-2), 2) := by decide +kernel
theorem dX7_undo_9 : decode cX7_undo 9 = .ok (.ireturn, 1) := by decide +kernel
theorem dX7_undo_10 : decode cX7_undo 10 = .ok (.aload_n 0, 1) := by decide +kernel
theorem dX7_undo_11 : decode cX7_undo 11 = .ok (.iload_n 1, 1) := by decide +kernel
theorem dX7_undo_12 : decode cX7_undo 12 = .ok (.invokevirtual 93, 3) := by decide +kernel
theorem dX7_undo_15 : decode cX7_undo 15 = .ok (.getfield 104, 3) := by decide +kernel
theorem dX7_undo_18 : decode cX7_undo 18 = .ok (.ifCond .ne 6, 3) := by decide +kernel
theorem dX7_undo_21 : decode cX7_undo 21 = .ok (.bipush (-3), 2) := by decide +kernel
theorem dX7_undo_23 : decode cX7_undo 23 = .ok (.ireturn, 1) := by decide +kernel
theorem dX7_undo_24 : decode cX7_undo 24 = .ok (.aload_n 0, 1) := by decide +kernel
theorem dX7_undo_25 : decode cX7_undo 25 = .ok (.iload_n 1, 1) := by decide +kernel
theorem dX7_undo_26 : decode cX7_undo 26 = .ok (.invokevirtual 93, 3) := by decide +kernel
theorem dX7_undo_29 : decode cX7_undo 29 = .ok (.dup, 1) := by decide +kernel
theorem dX7_undo_30 : decode cX7_undo 30 = .ok (.getfield 104, 3) := by decide +kernel
theorem dX7_undo_33 : decode cX7_undo 33 = .ok (.iconst 1, 1) := by decide +kernel
theorem dX7_undo_34 : decode cX7_undo 34 = .ok (.isub, 1) := by decide +kernel
theorem dX7_undo_35 : decode cX7_undo 35 = .ok (.putfield 104, 3) := by decide +kernel
theorem dX7_undo_38 : decode cX7_undo 38 = .ok (.aload_n 0, 1) := by decide +kernel
theorem dX7_undo_39 : decode cX7_undo 39 = .ok (.iload_n 1, 1) := by decide +kernel
theorem dX7_undo_40 : decode cX7_undo 40 = .ok (.invokevirtual 100, 3) := by decide +kernel
theorem dX7_undo_43 : decode cX7_undo 43 = .ok (.ireturn, 1) := by decide +kernel
theorem dX7_fault_0 : decode cX7_fault 0 = .ok (.iload_n 1, 1) := by decide +kernel
theorem dX7_fault_1 : decode cX7_fault 1 = .ok (.invokestatic 89, 3) := by decide +kernel
theorem dX7_fault_4 : decode cX7_fault 4 = .ok (.ifCond .ne 6, 3) := by decide +kernel
theorem dX7_fault_7 : decode cX7_fault 7 = .ok (.bipush (-2), 2) := by decide +kernel
theorem dX7_fault_9 : decode cX7_fault 9 = .ok (.ireturn, 1) := by decide +kernel
theorem dX7_fault_10 : decode cX7_fault 10 = .ok (.iload_n 1, 1) := by decide +kernel
theorem dX7_fault_11 : decode cX7_fault 11 = .ok (.ifCond .ne 13, 3) := by decide +kernel
theorem dX7_fault_14 : decode cX7_fault 14 = .ok (.aload_n 0, 1) := by decide +kernel
theorem dX7_fault_15 : decode cX7_fault 15 = .ok (.getfield 24, 3) := by decide +kernel
theorem dX7_fault_18 : decode cX7_fault 18 = .ok (.getfield 107, 3) := by decide +kernel
theorem dX7_fault_21 : decode cX7_fault 21 = .ok (.goto 10, 3) := by decide +kernel
theorem dX7_fault_24 : decode cX7_fault 24 = .ok (.aload_n 0, 1) := by decide +kernel
theorem dX7_fault_25 : decode cX7_fault 25 = .ok (.getfield 24, 3) := by decide +kernel
theorem dX7_fault_28 : decode cX7_fault 28 = .ok (.getfield 110, 3) := by decide +kernel
theorem dX7_fault_31 : decode cX7_fault 31 = .ok (.ireturn, 1) := by decide +kernel
theorem dX7_floor_0 : decode cX7_floor 0 = .ok (.aload_n 0, 1) := by decide +kernel
theorem dX7_floor_1 : decode cX7_floor 1 = .ok (.iload_n 1, 1) := by decide +kernel
theorem dX7_floor_2 : decode cX7_floor 2 = .ok (.invokevirtual 113, 3) := by decide +kernel
theorem dX7_floor_5 : decode cX7_floor 5 = .ok (.ifCond .ne 6, 3) := by decide +kernel
theorem dX7_floor_8 : decode cX7_floor 8 = .ok (.bipush (-2), 2) := by decide +kernel
theorem dX7_floor_10 : decode cX7_floor 10 = .ok (.ireturn, 1) := by decide +kernel
theorem dX7_floor_11 : decode cX7_floor 11 = .ok (.iload_n 2, 1) := by decide +kernel
theorem dX7_floor_12 : decode cX7_floor 12 = .ok (.tableswitch 58 0 2 #[28, 38, 48], 28) := by decide +kernel
theorem dX7_floor_40 : decode cX7_floor 40 = .ok (.aload_n 0, 1) := by decide +kernel
theorem dX7_floor_41 : decode cX7_floor 41 = .ok (.getfield 24, 3) := by decide +kernel
theorem dX7_floor_44 : decode cX7_floor 44 = .ok (.getfield 116, 3) := by decide +kernel
theorem dX7_floor_47 : decode cX7_floor 47 = .ok (.iload_n 1, 1) := by decide +kernel
theorem dX7_floor_48 : decode cX7_floor 48 = .ok (.iaload, 1) := by decide +kernel
theorem dX7_floor_49 : decode cX7_floor 49 = .ok (.ireturn, 1) := by decide +kernel
theorem dX7_floor_50 : decode cX7_floor 50 = .ok (.aload_n 0, 1) := by decide +kernel
theorem dX7_floor_51 : decode cX7_floor 51 = .ok (.getfield 24, 3) := by decide +kernel
theorem dX7_floor_54 : decode cX7_floor 54 = .ok (.getfield 119, 3) := by decide +kernel
theorem dX7_floor_57 : decode cX7_floor 57 = .ok (.iload_n 1, 1) := by decide +kernel
theorem dX7_floor_58 : decode cX7_floor 58 = .ok (.iaload, 1) := by decide +kernel
theorem dX7_floor_59 : decode cX7_floor 59 = .ok (.ireturn, 1) := by decide +kernel
theorem dX7_floor_60 : decode cX7_floor 60 = .ok (.aload_n 0, 1) := by decide +kernel
theorem dX7_floor_61 : decode cX7_floor 61 = .ok (.getfield 24, 3) := by decide +kernel
theorem dX7_floor_64 : decode cX7_floor 64 = .ok (.getfield 122, 3) := by decide +kernel
theorem dX7_floor_67 : decode cX7_floor 67 = .ok (.iload_n 1, 1) := by decide +kernel
theorem dX7_floor_68 : decode cX7_floor 68 = .ok (.iaload, 1) := by decide +kernel
theorem dX7_floor_69 : decode cX7_floor 69 = .ok (.ireturn, 1) := by decide +kernel
theorem dX7_floor_70 : decode cX7_floor 70 = .ok (.bipush (-2), 2) := by decide +kernel
theorem dX7_floor_72 : decode cX7_floor 72 = .ok (.ireturn, 1) := by decide +kernel
theorem dX7_basket_0 : decode cX7_basket 0 = .ok (.aload_n 0, 1) := by decide +kernel
theorem dX7_basket_1 : decode cX7_basket 1 = .ok (.iload_n 1, 1) := by decide +kernel
theorem dX7_basket_2 : decode cX7_basket 2 = .ok (.invokevirtual 125, 3) := by decide +kernel
theorem dX7_basket_5 : decode cX7_basket 5 = .ok (.ifCond .eq 12, 3) := by decide +kernel
theorem dX7_basket_8 : decode cX7_basket 8 = .ok (.iload_n 2, 1) := by decide +kernel
theorem dX7_basket_9 : decode cX7_basket 9 = .ok (.ifCond .lt 8, 3) := by decide +kernel
theorem dX7_basket_12 : decode cX7_basket 12 = .ok (.iload_n 2, 1) := by decide +kernel
theorem dX7_basket_13 : decode cX7_basket 13 = .ok (.iconst 5, 1) := by decide +kernel
theorem dX7_basket_14 : decode cX7_basket 14 = .ok (.if_icmp .le 6, 3) := by decide +kernel
theorem dX7_basket_17 : decode cX7_basket 17 = .ok (.bipush (-2), 2) := by decide +kernel
theorem dX7_basket_19 : decode cX7_basket 19 = .ok (.ireturn, 1) := by decide +kernel
theorem dX7_basket_20 : decode cX7_basket 20 = .ok (.iload_n 2, 1) := by decide +kernel
theorem dX7_basket_21 : decode cX7_basket 21 = .ok (.tableswitch 57 0 2 #[27, 37, 47], 27) := by decide +kernel
theorem dX7_basket_48 : decode cX7_basket 48 = .ok (.aload_n 0, 1) := by decide +kernel
theorem dX7_basket_49 : decode cX7_basket 49 = .ok (.getfield 24, 3) := by decide +kernel
theorem dX7_basket_52 : decode cX7_basket 52 = .ok (.getfield 128, 3) := by decide +kernel
theorem dX7_basket_55 : decode cX7_basket 55 = .ok (.iload_n 1, 1) := by decide +kernel
theorem dX7_basket_56 : decode cX7_basket 56 = .ok (.iaload, 1) := by decide +kernel
theorem dX7_basket_57 : decode cX7_basket 57 = .ok (.ireturn, 1) := by decide +kernel
theorem dX7_basket_58 : decode cX7_basket 58 = .ok (.aload_n 0, 1) := by decide +kernel
theorem dX7_basket_59 : decode cX7_basket 59 = .ok (.getfield 24, 3) := by decide +kernel
theorem dX7_basket_62 : decode cX7_basket 62 = .ok (.getfield 131, 3) := by decide +kernel
theorem dX7_basket_65 : decode cX7_basket 65 = .ok (.iload_n 1, 1) := by decide +kernel
theorem dX7_basket_66 : decode cX7_basket 66 = .ok (.iaload, 1) := by decide +kernel
theorem dX7_basket_67 : decode cX7_basket 67 = .ok (.ireturn, 1) := by decide +kernel
theorem dX7_basket_68 : decode cX7_basket 68 = .ok (.aload_n 0, 1) := by decide +kernel
theorem dX7_basket_69 : decode cX7_basket 69 = .ok (.getfield 24, 3) := by decide +kernel
theorem dX7_basket_72 : decode cX7_basket 72 = .ok (.getfield 134, 3) := by decide +kernel
theorem dX7_basket_75 : decode cX7_basket 75 = .ok (.iload_n 1, 1) := by decide +kernel
theorem dX7_basket_76 : decode cX7_basket 76 = .ok (.iaload, 1) := by decide +kernel
theorem dX7_basket_77 : decode cX7_basket 77 = .ok (.ireturn, 1) := by decide +kernel
theorem dX7_basket_78 : decode cX7_basket 78 = .ok (.aload_n 0, 1) := by decide +kernel
theorem dX7_basket_79 : decode cX7_basket 79 = .ok (.getfield 24, 3) := by decide +kernel
theorem dX7_basket_82 : decode cX7_basket 82 = .ok (.iload_n 1, 1) := by decide +kernel
theorem dX7_basket_83 : decode cX7_basket 83 = .ok (.iload_n 2, 1) := by decide +kernel
theorem dX7_basket_84 : decode cX7_basket 84 = .ok (.iconst 3, 1) := by decide +kernel
theorem dX7_basket_85 : decode cX7_basket 85 = .ok (.isub, 1) := by decide +kernel
theorem dX7_basket_86 : decode cX7_basket 86 = .ok (.invokevirtual 137, 3) := by decide +kernel
theorem dX7_basket_89 : decode cX7_basket 89 = .ok (.ireturn, 1) := by decide +kernel
theorem dX7_set_0 : decode cX7_set 0 = .ok (.iload_n 1, 1) := by decide +kernel
theorem dX7_set_1 : decode cX7_set 1 = .ok (.ifCond .ne 31, 3) := by decide +kernel
theorem dX7_set_4 : decode cX7_set 4 = .ok (.iload_n 2, 1) := by decide +kernel
theorem dX7_set_5 : decode cX7_set 5 = .ok (.ifCond .lt 27, 3) := by decide +kernel
theorem dX7_set_8 : decode cX7_set 8 = .ok (.iload_n 2, 1) := by decide +kernel
theorem dX7_set_9 : decode cX7_set 9 = .ok (.bipush 9, 2) := by decide +kernel
theorem dX7_set_11 : decode cX7_set 11 = .ok (.if_icmp .gt 21, 3) := by decide +kernel
theorem dX7_set_14 : decode cX7_set 14 = .ok (.aload_n 0, 1) := by decide +kernel
theorem dX7_set_15 : decode cX7_set 15 = .ok (.getfield 24, 3) := by decide +kernel
theorem dX7_set_18 : decode cX7_set 18 = .ok (.getfield 141, 3) := by decide +kernel
theorem dX7_set_21 : decode cX7_set 21 = .ok (.istore_n 3, 1) := by decide +kernel
theorem dX7_set_22 : decode cX7_set 22 = .ok (.aload_n 0, 1) := by decide +kernel
theorem dX7_set_23 : decode cX7_set 23 = .ok (.getfield 24, 3) := by decide +kernel
theorem dX7_set_26 : decode cX7_set 26 = .ok (.iload_n 2, 1) := by decide +kernel
theorem dX7_set_27 : decode cX7_set 27 = .ok (.putfield 141, 3) := by decide +kernel
theorem dX7_set_30 : decode cX7_set 30 = .ok (.iload_n 3, 1) := by decide +kernel
theorem dX7_set_31 : decode cX7_set 31 = .ok (.ireturn, 1) := by decide +kernel
theorem dX7_set_32 : decode cX7_set 32 = .ok (.iload_n 1, 1) := by decide +kernel
theorem dX7_set_33 : decode cX7_set 33 = .ok (.iconst 1, 1) := by decide +kernel
theorem dX7_set_34 : decode cX7_set 34 = .ok (.if_icmp .ne 32, 3) := by decide +kernel
theorem dX7_set_37 : decode cX7_set 37 = .ok (.iload_n 2, 1) := by decide +kernel
theorem dX7_set_38 : decode cX7_set 38 = .ok (.iconst 1, 1) := by decide +kernel
theorem dX7_set_39 : decode cX7_set 39 = .ok (.if_icmp .lt 27, 3) := by decide +kernel
theorem dX7_set_42 : decode cX7_set 42 = .ok (.iload_n 2, 1) := by decide +kernel
theorem dX7_set_43 : decode cX7_set 43 = .ok (.bipush 9, 2) := by decide +kernel
theorem dX7_set_45 : decode cX7_set 45 = .ok (.if_icmp .gt 21, 3) := by decide +kernel
theorem dX7_set_48 : decode cX7_set 48 = .ok (.aload_n 0, 1) := by decide +kernel
theorem dX7_set_49 : decode cX7_set 49 = .ok (.getfield 24, 3) := by decide +kernel
theorem dX7_set_52 : decode cX7_set 52 = .ok (.getfield 144, 3) := by decide +kernel
theorem dX7_set_55 : decode cX7_set 55 = .ok (.istore_n 3, 1) := by decide +kernel
theorem dX7_set_56 : decode cX7_set 56 = .ok (.aload_n 0, 1) := by decide +kernel
theorem dX7_set_57 : decode cX7_set 57 = .ok (.getfield 24, 3) := by decide +kernel
theorem dX7_set_60 : decode cX7_set 60 = .ok (.iload_n 2, 1) := by decide +kernel
theorem dX7_set_61 : decode cX7_set 61 = .ok (.putfield 144, 3) := by decide +kernel
theorem dX7_set_64 : decode cX7_set 64 = .ok (.iload_n 3, 1) := by decide +kernel
theorem dX7_set_65 : decode cX7_set 65 = .ok (.ireturn, 1) := by decide +kernel
theorem dX7_set_66 : decode cX7_set 66 = .ok (.bipush (-2), 2) := by decide +kernel
theorem dX7_set_68 : decode cX7_set 68 = .ok (.ireturn, 1) := by decide +kernel
theorem dX7_wind_0 : decode cX7_wind 0 = .ok (.aload_n 0, 1) := by decide +kernel
theorem dX7_wind_1 : decode cX7_wind 1 = .ok (.getfield 40, 3) := by decide +kernel
theorem dX7_wind_4 : decode cX7_wind 4 = .ok (.iload_n 1, 1) := by decide +kernel
theorem dX7_wind_5 : decode cX7_wind 5 = .ok (.invokestatic 147, 3) := by decide +kernel
theorem dX7_wind_8 : decode cX7_wind 8 = .ok (.ireturn, 1) := by decide +kernel
theorem dX7_sunday_0 : decode cX7_sunday 0 = .ok (.aload_n 0, 1) := by decide +kernel
theorem dX7_sunday_1 : decode cX7_sunday 1 = .ok (.getfield 44, 3) := by decide +kernel
theorem dX7_sunday_4 : decode cX7_sunday 4 = .ok (.iload_n 1, 1) := by decide +kernel
theorem dX7_sunday_5 : decode cX7_sunday 5 = .ok (.invokestatic 147, 3) := by decide +kernel
theorem dX7_sunday_8 : decode cX7_sunday 8 = .ok (.ireturn, 1) := by decide +kernel
theorem dX7_back_0 : decode cX7_back 0 = .ok (.iload_n 1, 1) := by decide +kernel
theorem dX7_back_1 : decode cX7_back 1 = .ok (.ifCond .eq 11, 3) := by decide +kernel
theorem dX7_back_4 : decode cX7_back 4 = .ok (.iload_n 1, 1) := by decide +kernel
theorem dX7_back_5 : decode cX7_back 5 = .ok (.iconst 1, 1) := by decide +kernel
theorem dX7_back_6 : decode cX7_back 6 = .ok (.if_icmp .eq 6, 3) := by decide +kernel
theorem dX7_back_9 : decode cX7_back 9 = .ok (.bipush (-2), 2) := by decide +kernel
theorem dX7_back_11 : decode cX7_back 11 = .ok (.ireturn, 1) := by decide +kernel
theorem dX7_back_12 : decode cX7_back 12 = .ok (.iload_n 1, 1) := by decide +kernel
theorem dX7_back_13 : decode cX7_back 13 = .ok (.ifCond .ne 10, 3) := by decide +kernel
theorem dX7_back_16 : decode cX7_back 16 = .ok (.aload_n 0, 1) := by decide +kernel
theorem dX7_back_17 : decode cX7_back 17 = .ok (.getfield 40, 3) := by decide +kernel
theorem dX7_back_20 : decode cX7_back 20 = .ok (.goto 7, 3) := by decide +kernel
theorem dX7_back_23 : decode cX7_back 23 = .ok (.aload_n 0, 1) := by decide +kernel
theorem dX7_back_24 : decode cX7_back 24 = .ok (.getfield 44, 3) := by decide +kernel
theorem dX7_back_27 : decode cX7_back 27 = .ok (.astore_n 2, 1) := by decide +kernel
theorem dX7_back_28 : decode cX7_back 28 = .ok (.aload_n 2, 1) := by decide +kernel
theorem dX7_back_29 : decode cX7_back 29 = .ok (.getfield 151, 3) := by decide +kernel
theorem dX7_back_32 : decode cX7_back 32 = .ok (.ifCond .ne 6, 3) := by decide +kernel
theorem dX7_back_35 : decode cX7_back 35 = .ok (.bipush (-3), 2) := by decide +kernel
theorem dX7_back_37 : decode cX7_back 37 = .ok (.ireturn, 1) := by decide +kernel
theorem dX7_back_38 : decode cX7_back 38 = .ok (.aload_n 2, 1) := by decide +kernel
theorem dX7_back_39 : decode cX7_back 39 = .ok (.dup, 1) := by decide +kernel
theorem dX7_back_40 : decode cX7_back 40 = .ok (.getfield 151, 3) := by decide +kernel
theorem dX7_back_43 : decode cX7_back 43 = .ok (.iconst 1, 1) := by decide +kernel
theorem dX7_back_44 : decode cX7_back 44 = .ok (.isub, 1) := by decide +kernel
theorem dX7_back_45 : decode cX7_back 45 = .ok (.putfield 151, 3) := by decide +kernel
theorem dX7_back_48 : decode cX7_back 48 = .ok (.aload_n 2, 1) := by decide +kernel
theorem dX7_back_49 : decode cX7_back 49 = .ok (.getfield 151, 3) := by decide +kernel
theorem dX7_back_52 : decode cX7_back 52 = .ok (.ireturn, 1) := by decide +kernel
theorem dX7_read_0 : decode cX7_read 0 = .ok (.iload_n 1, 1) := by decide +kernel
theorem dX7_read_1 : decode cX7_read 1 = .ok (.invokestatic 152, 3) := by decide +kernel
theorem dX7_read_4 : decode cX7_read 4 = .ok (.ifCond .ne 6, 3) := by decide +kernel
theorem dX7_read_7 : decode cX7_read 7 = .ok (.bipush (-2), 2) := by decide +kernel
theorem dX7_read_9 : decode cX7_read 9 = .ok (.ireturn, 1) := by decide +kernel
theorem dX7_read_10 : decode cX7_read 10 = .ok (.aload_n 0, 1) := by decide +kernel
theorem dX7_read_11 : decode cX7_read 11 = .ok (.getfield 57, 3) := by decide +kernel
theorem dX7_read_14 : decode cX7_read 14 = .ok (.iload_n 1, 1) := by decide +kernel
theorem dX7_read_15 : decode cX7_read 15 = .ok (.invokevirtual 155, 3) := by decide +kernel
theorem dX7_read_18 : decode cX7_read 18 = .ok (.ifCond .eq 9, 3) := by decide +kernel
theorem dX7_read_21 : decode cX7_read 21 = .ok (.aload_n 0, 1) := by decide +kernel
theorem dX7_read_22 : decode cX7_read 22 = .ok (.iconst 1, 1) := by decide +kernel
theorem dX7_read_23 : decode cX7_read 23 = .ok (.invokevirtual 158, 3) := by decide +kernel
theorem dX7_read_26 : decode cX7_read 26 = .ok (.ireturn, 1) := by decide +kernel
theorem dX7_read_27 : decode cX7_read 27 = .ok (.iconst 0, 1) := by decide +kernel
theorem dX7_read_28 : decode cX7_read 28 = .ok (.istore_n 2, 1) := by decide +kernel
theorem dX7_read_29 : decode cX7_read 29 = .ok (.iload_n 2, 1) := by decide +kernel
theorem dX7_read_30 : decode cX7_read 30 = .ok (.aload_n 0, 1) := by decide +kernel
theorem dX7_read_31 : decode cX7_read 31 = .ok (.getfield 57, 3) := by decide +kernel
theorem dX7_read_34 : decode cX7_read 34 = .ok (.getfield 161, 3) := by decide +kernel
theorem dX7_read_37 : decode cX7_read 37 = .ok (.iload_n 1, 1) := by decide +kernel
theorem dX7_read_38 : decode cX7_read 38 = .ok (.iaload, 1) := by decide +kernel
theorem dX7_read_39 : decode cX7_read 39 = .ok (.if_icmp .ge 28, 3) := by decide +kernel
theorem dX7_read_42 : decode cX7_read 42 = .ok (.aload_n 0, 1) := by decide +kernel
theorem dX7_read_43 : decode cX7_read 43 = .ok (.getfield 40, 3) := by decide +kernel
theorem dX7_read_46 : decode cX7_read 46 = .ok (.aload_n 0, 1) := by decide +kernel
theorem dX7_read_47 : decode cX7_read 47 = .ok (.getfield 57, 3) := by decide +kernel
theorem dX7_read_50 : decode cX7_read 50 = .ok (.iload_n 1, 1) := by decide +kernel
theorem dX7_read_51 : decode cX7_read 51 = .ok (.iload_n 2, 1) := by decide +kernel
theorem dX7_read_52 : decode cX7_read 52 = .ok (.invokevirtual 163, 3) := by decide +kernel
theorem dX7_read_55 : decode cX7_read 55 = .ok (.invokestatic 147, 3) := by decide +kernel
theorem dX7_read_58 : decode cX7_read 58 = .ok (.ifCond .lt 9, 3) := by decide +kernel
theorem dX7_read_61 : decode cX7_read 61 = .ok (.iinc 2 1, 3) := by decide +kernel
theorem dX7_read_64 : decode cX7_read 64 = .ok (.goto (-35), 3) := by decide +kernel
theorem dX7_read_67 : decode cX7_read 67 = .ok (.iload_n 2, 1) := by decide +kernel
theorem dX7_read_68 : decode cX7_read 68 = .ok (.ireturn, 1) := by decide +kernel
theorem dX7_at_0 : decode cX7_at 0 = .ok (.iload_n 1, 1) := by decide +kernel
theorem dX7_at_1 : decode cX7_at 1 = .ok (.invokestatic 166, 3) := by decide +kernel
theorem dX7_at_4 : decode cX7_at 4 = .ok (.ifCond .eq 20, 3) := by decide +kernel
theorem dX7_at_7 : decode cX7_at 7 = .ok (.aload_n 0, 1) := by decide +kernel
theorem dX7_at_8 : decode cX7_at 8 = .ok (.iload_n 2, 1) := by decide +kernel
theorem dX7_at_9 : decode cX7_at 9 = .ok (.invokevirtual 125, 3) := by decide +kernel
theorem dX7_at_12 : decode cX7_at 12 = .ok (.ifCond .eq 12, 3) := by decide +kernel
theorem dX7_at_15 : decode cX7_at 15 = .ok (.iload_n 3, 1) := by decide +kernel
theorem dX7_at_16 : decode cX7_at 16 = .ok (.ifCond .lt 8, 3) := by decide +kernel
theorem dX7_at_19 : decode cX7_at 19 = .ok (.iload_n 3, 1) := by decide +kernel
theorem dX7_at_20 : decode cX7_at 20 = .ok (.iconst 3, 1) := by decide +kernel
theorem dX7_at_21 : decode cX7_at 21 = .ok (.if_icmp .le 6, 3) := by decide +kernel
theorem dX7_at_24 : decode cX7_at 24 = .ok (.bipush (-2), 2) := by decide +kernel
theorem dX7_at_26 : decode cX7_at 26 = .ok (.ireturn, 1) := by decide +kernel
theorem dX7_at_27 : decode cX7_at 27 = .ok (.aload_n 0, 1) := by decide +kernel
theorem dX7_at_28 : decode cX7_at 28 = .ok (.getfield 33, 3) := by decide +kernel
theorem dX7_at_31 : decode cX7_at 31 = .ok (.aload_n 0, 1) := by decide +kernel
theorem dX7_at_32 : decode cX7_at 32 = .ok (.getfield 40, 3) := by decide +kernel
theorem dX7_at_35 : decode cX7_at 35 = .ok (.invokevirtual 169, 3) := by decide +kernel
theorem dX7_at_38 : decode cX7_at 38 = .ok (.aload_n 0, 1) := by decide +kernel
theorem dX7_at_39 : decode cX7_at 39 = .ok (.getfield 44, 3) := by decide +kernel
theorem dX7_at_42 : decode cX7_at 42 = .ok (.invokevirtual 169, 3) := by decide +kernel
theorem dX7_at_45 : decode cX7_at 45 = .ok (.iload_n 1, 1) := by decide +kernel
theorem dX7_at_46 : decode cX7_at 46 = .ok (.invokevirtual 173, 3) := by decide +kernel
theorem dX7_at_49 : decode cX7_at 49 = .ok (.iload_n 3, 1) := by decide +kernel
theorem dX7_at_50 : decode cX7_at 50 = .ok (.tableswitch 55 0 2 #[26, 36, 46], 26) := by decide +kernel
theorem dX7_at_76 : decode cX7_at 76 = .ok (.aload_n 0, 1) := by decide +kernel
theorem dX7_at_77 : decode cX7_at 77 = .ok (.getfield 33, 3) := by decide +kernel
theorem dX7_at_80 : decode cX7_at 80 = .ok (.getfield 177, 3) := by decide +kernel
theorem dX7_at_83 : decode cX7_at 83 = .ok (.iload_n 2, 1) := by decide +kernel
theorem dX7_at_84 : decode cX7_at 84 = .ok (.iaload, 1) := by decide +kernel
theorem dX7_at_85 : decode cX7_at 85 = .ok (.ireturn, 1) := by decide +kernel
theorem dX7_at_86 : decode cX7_at 86 = .ok (.aload_n 0, 1) := by decide +kernel
theorem dX7_at_87 : decode cX7_at 87 = .ok (.getfield 33, 3) := by decide +kernel
theorem dX7_at_90 : decode cX7_at 90 = .ok (.getfield 180, 3) := by decide +kernel
theorem dX7_at_93 : decode cX7_at 93 = .ok (.iload_n 2, 1) := by decide +kernel
theorem dX7_at_94 : decode cX7_at 94 = .ok (.iaload, 1) := by decide +kernel
theorem dX7_at_95 : decode cX7_at 95 = .ok (.ireturn, 1) := by decide +kernel
theorem dX7_at_96 : decode cX7_at 96 = .ok (.aload_n 0, 1) := by decide +kernel
theorem dX7_at_97 : decode cX7_at 97 = .ok (.getfield 33, 3) := by decide +kernel
theorem dX7_at_100 : decode cX7_at 100 = .ok (.iload_n 2, 1) := by decide +kernel
theorem dX7_at_101 : decode cX7_at 101 = .ok (.invokevirtual 181, 3) := by decide +kernel
theorem dX7_at_104 : decode cX7_at 104 = .ok (.ireturn, 1) := by decide +kernel
theorem dX7_at_105 : decode cX7_at 105 = .ok (.aload_n 0, 1) := by decide +kernel
theorem dX7_at_106 : decode cX7_at 106 = .ok (.getfield 33, 3) := by decide +kernel
theorem dX7_at_109 : decode cX7_at 109 = .ok (.getfield 183, 3) := by decide +kernel
theorem dX7_at_112 : decode cX7_at 112 = .ok (.iload_n 2, 1) := by decide +kernel
theorem dX7_at_113 : decode cX7_at 113 = .ok (.iaload, 1) := by decide +kernel
theorem dX7_at_114 : decode cX7_at 114 = .ok (.ireturn, 1) := by decide +kernel
theorem dX7_note_0 : decode cX7_note 0 = .ok (.aload_n 0, 1) := by decide +kernel
theorem dX7_note_1 : decode cX7_note 1 = .ok (.iload_n 1, 1) := by decide +kernel
theorem dX7_note_2 : decode cX7_note 2 = .ok (.invokevirtual 125, 3) := by decide +kernel
theorem dX7_note_5 : decode cX7_note 5 = .ok (.ifCond .eq 13, 3) := by decide +kernel
theorem dX7_note_8 : decode cX7_note 8 = .ok (.iload_n 2, 1) := by decide +kernel
theorem dX7_note_9 : decode cX7_note 9 = .ok (.ifCond .lt 9, 3) := by decide +kernel
theorem dX7_note_12 : decode cX7_note 12 = .ok (.iload_n 2, 1) := by decide +kernel
theorem dX7_note_13 : decode cX7_note 13 = .ok (.bipush 12, 2) := by decide +kernel
theorem dX7_note_15 : decode cX7_note 15 = .ok (.if_icmp .lt 6, 3) := by decide +kernel
theorem dX7_note_18 : decode cX7_note 18 = .ok (.bipush (-2), 2) := by decide +kernel
theorem dX7_note_20 : decode cX7_note 20 = .ok (.ireturn, 1) := by decide +kernel
theorem dX7_note_21 : decode cX7_note 21 = .ok (.aload_n 0, 1) := by decide +kernel
theorem dX7_note_22 : decode cX7_note 22 = .ok (.invokevirtual 186, 3) := by decide +kernel
theorem dX7_note_25 : decode cX7_note 25 = .ok (.aload_n 0, 1) := by decide +kernel
theorem dX7_note_26 : decode cX7_note 26 = .ok (.getfield 33, 3) := by decide +kernel
theorem dX7_note_29 : decode cX7_note 29 = .ok (.iload_n 1, 1) := by decide +kernel
theorem dX7_note_30 : decode cX7_note 30 = .ok (.iload_n 2, 1) := by decide +kernel
theorem dX7_note_31 : decode cX7_note 31 = .ok (.invokevirtual 189, 3) := by decide +kernel
theorem dX7_note_34 : decode cX7_note 34 = .ok (.ireturn, 1) := by decide +kernel
theorem dX7_comes_0 : decode cX7_comes 0 = .ok (.aload_n 0, 1) := by decide +kernel
theorem dX7_comes_1 : decode cX7_comes 1 = .ok (.iload_n 1, 1) := by decide +kernel
theorem dX7_comes_2 : decode cX7_comes 2 = .ok (.invokevirtual 125, 3) := by decide +kernel
theorem dX7_comes_5 : decode cX7_comes 5 = .ok (.ifCond .ne 6, 3) := by decide +kernel
theorem dX7_comes_8 : decode cX7_comes 8 = .ok (.bipush (-2), 2) := by decide +kernel
theorem dX7_comes_10 : decode cX7_comes 10 = .ok (.ireturn, 1) := by decide +kernel
theorem dX7_comes_11 : decode cX7_comes 11 = .ok (.aload_n 0, 1) := by decide +kernel
theorem dX7_comes_12 : decode cX7_comes 12 = .ok (.invokevirtual 186, 3) := by decide +kernel
theorem dX7_comes_15 : decode cX7_comes 15 = .ok (.aload_n 0, 1) := by decide +kernel
theorem dX7_comes_16 : decode cX7_comes 16 = .ok (.getfield 33, 3) := by decide +kernel
theorem dX7_comes_19 : decode cX7_comes 19 = .ok (.getfield 192, 3) := by decide +kernel
theorem dX7_comes_22 : decode cX7_comes 22 = .ok (.iload_n 1, 1) := by decide +kernel
theorem dX7_comes_23 : decode cX7_comes 23 = .ok (.iaload, 1) := by decide +kernel
theorem dX7_comes_24 : decode cX7_comes 24 = .ok (.ireturn, 1) := by decide +kernel
theorem dX7_bites_0 : decode cX7_bites 0 = .ok (.aload_n 0, 1) := by decide +kernel
theorem dX7_bites_1 : decode cX7_bites 1 = .ok (.iload_n 1, 1) := by decide +kernel
theorem dX7_bites_2 : decode cX7_bites 2 = .ok (.invokevirtual 113, 3) := by decide +kernel
theorem dX7_bites_5 : decode cX7_bites 5 = .ok (.ifCond .eq 12, 3) := by decide +kernel
theorem dX7_bites_8 : decode cX7_bites 8 = .ok (.iload_n 2, 1) := by decide +kernel
theorem dX7_bites_9 : decode cX7_bites 9 = .ok (.ifCond .eq 11, 3) := by decide +kernel
theorem dX7_bites_12 : decode cX7_bites 12 = .ok (.iload_n 2, 1) := by decide +kernel
theorem dX7_bites_13 : decode cX7_bites 13 = .ok (.iconst 1, 1) := by decide +kernel
theorem dX7_bites_14 : decode cX7_bites 14 = .ok (.if_icmp .eq 6, 3) := by decide +kernel
theorem dX7_bites_17 : decode cX7_bites 17 = .ok (.bipush (-2), 2) := by decide +kernel
theorem dX7_bites_19 : decode cX7_bites 19 = .ok (.ireturn, 1) := by decide +kernel
theorem dX7_bites_20 : decode cX7_bites 20 = .ok (.aload_n 0, 1) := by decide +kernel
theorem dX7_bites_21 : decode cX7_bites 21 = .ok (.invokevirtual 186, 3) := by decide +kernel
theorem dX7_bites_24 : decode cX7_bites 24 = .ok (.iload_n 2, 1) := by decide +kernel
theorem dX7_bites_25 : decode cX7_bites 25 = .ok (.ifCond .ne 15, 3) := by decide +kernel
theorem dX7_bites_28 : decode cX7_bites 28 = .ok (.aload_n 0, 1) := by decide +kernel
theorem dX7_bites_29 : decode cX7_bites 29 = .ok (.getfield 33, 3) := by decide +kernel
theorem dX7_bites_32 : decode cX7_bites 32 = .ok (.getfield 195, 3) := by decide +kernel
theorem dX7_bites_35 : decode cX7_bites 35 = .ok (.iload_n 1, 1) := by decide +kernel
theorem dX7_bites_36 : decode cX7_bites 36 = .ok (.iaload, 1) := by decide +kernel
theorem dX7_bites_37 : decode cX7_bites 37 = .ok (.goto 12, 3) := by decide +kernel
theorem dX7_bites_40 : decode cX7_bites 40 = .ok (.aload_n 0, 1) := by decide +kernel
theorem dX7_bites_41 : decode cX7_bites 41 = .ok (.getfield 33, 3) := by decide +kernel
theorem dX7_bites_44 : decode cX7_bites 44 = .ok (.getfield 198, 3) := by decide +kernel
theorem dX7_bites_47 : decode cX7_bites 47 = .ok (.iload_n 1, 1) := by decide +kernel
theorem dX7_bites_48 : decode cX7_bites 48 = .ok (.iaload, 1) := by decide +kernel
theorem dX7_bites_49 : decode cX7_bites 49 = .ok (.ireturn, 1) := by decide +kernel
theorem dX7_famine_0 : decode cX7_famine 0 = .ok (.aload_n 0, 1) := by decide +kernel
theorem dX7_famine_1 : decode cX7_famine 1 = .ok (.invokevirtual 186, 3) := by decide +kernel
theorem dX7_famine_4 : decode cX7_famine 4 = .ok (.aload_n 0, 1) := by decide +kernel
theorem dX7_famine_5 : decode cX7_famine 5 = .ok (.getfield 24, 3) := by decide +kernel
theorem dX7_famine_8 : decode cX7_famine 8 = .ok (.invokevirtual 201, 3) := by decide +kernel
theorem dX7_famine_11 : decode cX7_famine 11 = .ok (.aload_n 0, 1) := by decide +kernel
theorem dX7_famine_12 : decode cX7_famine 12 = .ok (.getfield 33, 3) := by decide +kernel
theorem dX7_famine_15 : decode cX7_famine 15 = .ok (.invokevirtual 205, 3) := by decide +kernel
theorem dX7_famine_18 : decode cX7_famine 18 = .ok (.isub, 1) := by decide +kernel
theorem dX7_famine_19 : decode cX7_famine 19 = .ok (.ireturn, 1) := by decide +kernel
theorem dX7_first_0 : decode cX7_first 0 = .ok (.iload_n 1, 1) := by decide +kernel
theorem dX7_first_1 : decode cX7_first 1 = .ok (.ifCond .eq 11, 3) := by decide +kernel
theorem dX7_first_4 : decode cX7_first 4 = .ok (.iload_n 1, 1) := by decide +kernel
theorem dX7_first_5 : decode cX7_first 5 = .ok (.iconst 1, 1) := by decide +kernel
theorem dX7_first_6 : decode cX7_first 6 = .ok (.if_icmp .eq 6, 3) := by decide +kernel
theorem dX7_first_9 : decode cX7_first 9 = .ok (.bipush (-2), 2) := by decide +kernel
theorem dX7_first_11 : decode cX7_first 11 = .ok (.ireturn, 1) := by decide +kernel
theorem dX7_first_12 : decode cX7_first 12 = .ok (.aload_n 0, 1) := by decide +kernel
theorem dX7_first_13 : decode cX7_first 13 = .ok (.invokevirtual 186, 3) := by decide +kernel
theorem dX7_first_16 : decode cX7_first 16 = .ok (.iload_n 1, 1) := by decide +kernel
theorem dX7_first_17 : decode cX7_first 17 = .ok (.ifCond .ne 13, 3) := by decide +kernel
theorem dX7_first_20 : decode cX7_first 20 = .ok (.aload_n 0, 1) := by decide +kernel
theorem dX7_first_21 : decode cX7_first 21 = .ok (.getfield 33, 3) := by decide +kernel
theorem dX7_first_24 : decode cX7_first 24 = .ok (.getfield 208, 3) := by decide +kernel
theorem dX7_first_27 : decode cX7_first 27 = .ok (.goto 10, 3) := by decide +kernel
theorem dX7_first_30 : decode cX7_first 30 = .ok (.aload_n 0, 1) := by decide +kernel
theorem dX7_first_31 : decode cX7_first 31 = .ok (.getfield 33, 3) := by decide +kernel
theorem dX7_first_34 : decode cX7_first 34 = .ok (.getfield 211, 3) := by decide +kernel
theorem dX7_first_37 : decode cX7_first 37 = .ok (.ireturn, 1) := by decide +kernel
theorem dX7_greedy_0 : decode cX7_greedy 0 = .ok (.aload_n 0, 1) := by decide +kernel
theorem dX7_greedy_1 : decode cX7_greedy 1 = .ok (.invokevirtual 186, 3) := by decide +kernel
theorem dX7_greedy_4 : decode cX7_greedy 4 = .ok (.aload_n 0, 1) := by decide +kernel
theorem dX7_greedy_5 : decode cX7_greedy 5 = .ok (.getfield 64, 3) := by decide +kernel
theorem dX7_greedy_8 : decode cX7_greedy 8 = .ok (.invokevirtual 214, 3) := by decide +kernel
theorem dX7_greedy_11 : decode cX7_greedy 11 = .ok (.iconst 0, 1) := by decide +kernel
theorem dX7_greedy_12 : decode cX7_greedy 12 = .ok (.istore_n 1, 1) := by decide +kernel
theorem dX7_greedy_13 : decode cX7_greedy 13 = .ok (.iload_n 1, 1) := by decide +kernel
theorem dX7_greedy_14 : decode cX7_greedy 14 = .ok (.aload_n 0, 1) := by decide +kernel
theorem dX7_greedy_15 : decode cX7_greedy 15 = .ok (.getfield 24, 3) := by decide +kernel
theorem dX7_greedy_18 : decode cX7_greedy 18 = .ok (.getfield 217, 3) := by decide +kernel
theorem dX7_greedy_21 : decode cX7_greedy 21 = .ok (.if_icmp .ge 26, 3) := by decide +kernel
theorem dX7_greedy_24 : decode cX7_greedy 24 = .ok (.aload_n 0, 1) := by decide +kernel
theorem dX7_greedy_25 : decode cX7_greedy 25 = .ok (.getfield 64, 3) := by decide +kernel
theorem dX7_greedy_28 : decode cX7_greedy 28 = .ok (.iload_n 1, 1) := by decide +kernel
theorem dX7_greedy_29 : decode cX7_greedy 29 = .ok (.aload_n 0, 1) := by decide +kernel
theorem dX7_greedy_30 : decode cX7_greedy 30 = .ok (.getfield 33, 3) := by decide +kernel
theorem dX7_greedy_33 : decode cX7_greedy 33 = .ok (.getfield 198, 3) := by decide +kernel
theorem dX7_greedy_36 : decode cX7_greedy 36 = .ok (.iload_n 1, 1) := by decide +kernel
theorem dX7_greedy_37 : decode cX7_greedy 37 = .ok (.iaload, 1) := by decide +kernel
theorem dX7_greedy_38 : decode cX7_greedy 38 = .ok (.invokevirtual 220, 3) := by decide +kernel
theorem dX7_greedy_41 : decode cX7_greedy 41 = .ok (.iinc 1 1, 3) := by decide +kernel
theorem dX7_greedy_44 : decode cX7_greedy 44 = .ok (.goto (-31), 3) := by decide +kernel
theorem dX7_greedy_47 : decode cX7_greedy 47 = .ok (.aload_n 0, 1) := by decide +kernel
theorem dX7_greedy_48 : decode cX7_greedy 48 = .ok (.getfield 64, 3) := by decide +kernel
theorem dX7_greedy_51 : decode cX7_greedy 51 = .ok (.getfield 224, 3) := by decide +kernel
theorem dX7_greedy_54 : decode cX7_greedy 54 = .ok (.ireturn, 1) := by decide +kernel
theorem dX7_send_0 : decode cX7_send 0 = .ok (.aload_n 0, 1) := by decide +kernel
theorem dX7_send_1 : decode cX7_send 1 = .ok (.iload_n 1, 1) := by decide +kernel
theorem dX7_send_2 : decode cX7_send 2 = .ok (.invokevirtual 125, 3) := by decide +kernel
theorem dX7_send_5 : decode cX7_send 5 = .ok (.ifCond .eq 12, 3) := by decide +kernel
theorem dX7_send_8 : decode cX7_send 8 = .ok (.iload_n 2, 1) := by decide +kernel
theorem dX7_send_9 : decode cX7_send 9 = .ok (.ifCond .eq 11, 3) := by decide +kernel
theorem dX7_send_12 : decode cX7_send 12 = .ok (.iload_n 2, 1) := by decide +kernel
theorem dX7_send_13 : decode cX7_send 13 = .ok (.iconst 1, 1) := by decide +kernel
theorem dX7_send_14 : decode cX7_send 14 = .ok (.if_icmp .eq 6, 3) := by decide +kernel
theorem dX7_send_17 : decode cX7_send 17 = .ok (.bipush (-2), 2) := by decide +kernel
theorem dX7_send_19 : decode cX7_send 19 = .ok (.ireturn, 1) := by decide +kernel
theorem dX7_send_20 : decode cX7_send 20 = .ok (.aload_n 0, 1) := by decide +kernel
theorem dX7_send_21 : decode cX7_send 21 = .ok (.iload_n 1, 1) := by decide +kernel
theorem dX7_send_22 : decode cX7_send 22 = .ok (.invokevirtual 227, 3) := by decide +kernel
theorem dX7_send_25 : decode cX7_send 25 = .ok (.iload_n 2, 1) := by decide +kernel
theorem dX7_send_26 : decode cX7_send 26 = .ok (.ifCond .ne 13, 3) := by decide +kernel
theorem dX7_send_29 : decode cX7_send 29 = .ok (.aload_n 0, 1) := by decide +kernel
theorem dX7_send_30 : decode cX7_send 30 = .ok (.getfield 64, 3) := by decide +kernel
theorem dX7_send_33 : decode cX7_send 33 = .ok (.getfield 224, 3) := by decide +kernel
theorem dX7_send_36 : decode cX7_send 36 = .ok (.goto 10, 3) := by decide +kernel
theorem dX7_send_39 : decode cX7_send 39 = .ok (.aload_n 0, 1) := by decide +kernel
theorem dX7_send_40 : decode cX7_send 40 = .ok (.getfield 64, 3) := by decide +kernel
theorem dX7_send_43 : decode cX7_send 43 = .ok (.getfield 230, 3) := by decide +kernel
theorem dX7_send_46 : decode cX7_send 46 = .ok (.ireturn, 1) := by decide +kernel
theorem dX7_loaf_0 : decode cX7_loaf 0 = .ok (.aload_n 0, 1) := by decide +kernel
theorem dX7_loaf_1 : decode cX7_loaf 1 = .ok (.iload_n 1, 1) := by decide +kernel
theorem dX7_loaf_2 : decode cX7_loaf 2 = .ok (.invokevirtual 125, 3) := by decide +kernel
theorem dX7_loaf_5 : decode cX7_loaf 5 = .ok (.ifCond .eq 10, 3) := by decide +kernel
theorem dX7_loaf_8 : decode cX7_loaf 8 = .ok (.iload_n 2, 1) := by decide +kernel
theorem dX7_loaf_9 : decode cX7_loaf 9 = .ok (.invokestatic 233, 3) := by decide +kernel
theorem dX7_loaf_12 : decode cX7_loaf 12 = .ok (.ifCond .ne 6, 3) := by decide +kernel
theorem dX7_loaf_15 : decode cX7_loaf 15 = .ok (.bipush (-2), 2) := by decide +kernel
theorem dX7_loaf_17 : decode cX7_loaf 17 = .ok (.ireturn, 1) := by decide +kernel
theorem dX7_loaf_18 : decode cX7_loaf 18 = .ok (.aload_n 0, 1) := by decide +kernel
theorem dX7_loaf_19 : decode cX7_loaf 19 = .ok (.getfield 24, 3) := by decide +kernel
theorem dX7_loaf_22 : decode cX7_loaf 22 = .ok (.getfield 131, 3) := by decide +kernel
theorem dX7_loaf_25 : decode cX7_loaf 25 = .ok (.iload_n 1, 1) := by decide +kernel
theorem dX7_loaf_26 : decode cX7_loaf 26 = .ok (.iaload, 1) := by decide +kernel
theorem dX7_loaf_27 : decode cX7_loaf 27 = .ok (.istore_n 3, 1) := by decide +kernel
theorem dX7_loaf_28 : decode cX7_loaf 28 = .ok (.iconst (-1), 1) := by decide +kernel
theorem dX7_loaf_29 : decode cX7_loaf 29 = .ok (.istore 4, 2) := by decide +kernel
theorem dX7_loaf_31 : decode cX7_loaf 31 = .ok (.iload_n 2, 1) := by decide +kernel
theorem dX7_loaf_32 : decode cX7_loaf 32 = .ok (.istore 5, 2) := by decide +kernel
theorem dX7_loaf_34 : decode cX7_loaf 34 = .ok (.iload 5, 2) := by decide +kernel
theorem dX7_loaf_36 : decode cX7_loaf 36 = .ok (.bipush 100, 2) := by decide +kernel
theorem dX7_loaf_38 : decode cX7_loaf 38 = .ok (.if_icmp .ge 46, 3) := by decide +kernel
theorem dX7_loaf_41 : decode cX7_loaf 41 = .ok (.iload 4, 2) := by decide +kernel
theorem dX7_loaf_43 : decode cX7_loaf 43 = .ok (.iconst (-1), 1) := by decide +kernel
theorem dX7_loaf_44 : decode cX7_loaf 44 = .ok (.if_icmp .ne 40, 3) := by decide +kernel
theorem dX7_loaf_47 : decode cX7_loaf 47 = .ok (.aload_n 0, 1) := by decide +kernel
theorem dX7_loaf_48 : decode cX7_loaf 48 = .ok (.getfield 24, 3) := by decide +kernel
theorem dX7_loaf_51 : decode cX7_loaf 51 = .ok (.getfield 131, 3) := by decide +kernel
theorem dX7_loaf_54 : decode cX7_loaf 54 = .ok (.iload_n 1, 1) := by decide +kernel
theorem dX7_loaf_55 : decode cX7_loaf 55 = .ok (.iload 5, 2) := by decide +kernel
theorem dX7_loaf_57 : decode cX7_loaf 57 = .ok (.iastore, 1) := by decide +kernel
theorem dX7_loaf_58 : decode cX7_loaf 58 = .ok (.aload_n 0, 1) := by decide +kernel
theorem dX7_loaf_59 : decode cX7_loaf 59 = .ok (.invokevirtual 186, 3) := by decide +kernel
theorem dX7_loaf_62 : decode cX7_loaf 62 = .ok (.aload_n 0, 1) := by decide +kernel
theorem dX7_loaf_63 : decode cX7_loaf 63 = .ok (.getfield 33, 3) := by decide +kernel
theorem dX7_loaf_66 : decode cX7_loaf 66 = .ok (.iload_n 1, 1) := by decide +kernel
theorem dX7_loaf_67 : decode cX7_loaf 67 = .ok (.iload_n 2, 1) := by decide +kernel
theorem dX7_loaf_68 : decode cX7_loaf 68 = .ok (.invokevirtual 236, 3) := by decide +kernel
theorem dX7_loaf_71 : decode cX7_loaf 71 = .ok (.ifCond .eq 7, 3) := by decide +kernel
theorem dX7_loaf_74 : decode cX7_loaf 74 = .ok (.iload 5, 2) := by decide +kernel
theorem dX7_loaf_76 : decode cX7_loaf 76 = .ok (.istore 4, 2) := by decide +kernel
theorem dX7_loaf_78 : decode cX7_loaf 78 = .ok (.iinc 5 1, 3) := by decide +kernel
theorem dX7_loaf_81 : decode cX7_loaf 81 = .ok (.goto (-47), 3) := by decide +kernel
theorem dX7_loaf_84 : decode cX7_loaf 84 = .ok (.aload_n 0, 1) := by decide +kernel
theorem dX7_loaf_85 : decode cX7_loaf 85 = .ok (.getfield 24, 3) := by decide +kernel
theorem dX7_loaf_88 : decode cX7_loaf 88 = .ok (.getfield 131, 3) := by decide +kernel
theorem dX7_loaf_91 : decode cX7_loaf 91 = .ok (.iload_n 1, 1) := by decide +kernel
theorem dX7_loaf_92 : decode cX7_loaf 92 = .ok (.iload_n 3, 1) := by decide +kernel
theorem dX7_loaf_93 : decode cX7_loaf 93 = .ok (.iastore, 1) := by decide +kernel
theorem dX7_loaf_94 : decode cX7_loaf 94 = .ok (.iload 4, 2) := by decide +kernel
theorem dX7_loaf_96 : decode cX7_loaf 96 = .ok (.ireturn, 1) := by decide +kernel
theorem dX7_feed_0 : decode cX7_feed 0 = .ok (.aload_n 0, 1) := by decide +kernel
theorem dX7_feed_1 : decode cX7_feed 1 = .ok (.iload_n 1, 1) := by decide +kernel
theorem dX7_feed_2 : decode cX7_feed 2 = .ok (.invokevirtual 125, 3) := by decide +kernel
theorem dX7_feed_5 : decode cX7_feed 5 = .ok (.ifCond .eq 13, 3) := by decide +kernel
theorem dX7_feed_8 : decode cX7_feed 8 = .ok (.iload_n 2, 1) := by decide +kernel
theorem dX7_feed_9 : decode cX7_feed 9 = .ok (.iconst (-1), 1) := by decide +kernel
theorem dX7_feed_10 : decode cX7_feed 10 = .ok (.if_icmp .lt 8, 3) := by decide +kernel
theorem dX7_feed_13 : decode cX7_feed 13 = .ok (.iload_n 2, 1) := by decide +kernel
theorem dX7_feed_14 : decode cX7_feed 14 = .ok (.iconst 2, 1) := by decide +kernel
theorem dX7_feed_15 : decode cX7_feed 15 = .ok (.if_icmp .lt 6, 3) := by decide +kernel
theorem dX7_feed_18 : decode cX7_feed 18 = .ok (.bipush (-2), 2) := by decide +kernel
theorem dX7_feed_20 : decode cX7_feed 20 = .ok (.ireturn, 1) := by decide +kernel
theorem dX7_feed_21 : decode cX7_feed 21 = .ok (.aload_n 0, 1) := by decide +kernel
theorem dX7_feed_22 : decode cX7_feed 22 = .ok (.iload_n 1, 1) := by decide +kernel
theorem dX7_feed_23 : decode cX7_feed 23 = .ok (.invokevirtual 240, 3) := by decide +kernel
theorem dX7_feed_26 : decode cX7_feed 26 = .ok (.iload_n 2, 1) := by decide +kernel
theorem dX7_feed_27 : decode cX7_feed 27 = .ok (.iconst (-1), 1) := by decide +kernel
theorem dX7_feed_28 : decode cX7_feed 28 = .ok (.if_icmp .ne 10, 3) := by decide +kernel
theorem dX7_feed_31 : decode cX7_feed 31 = .ok (.aload_n 0, 1) := by decide +kernel
theorem dX7_feed_32 : decode cX7_feed 32 = .ok (.getfield 72, 3) := by decide +kernel
theorem dX7_feed_35 : decode cX7_feed 35 = .ok (.goto 8, 3) := by decide +kernel
theorem dX7_feed_38 : decode cX7_feed 38 = .ok (.aload_n 0, 1) := by decide +kernel
theorem dX7_feed_39 : decode cX7_feed 39 = .ok (.iload_n 2, 1) := by decide +kernel
theorem dX7_feed_40 : decode cX7_feed 40 = .ok (.invokevirtual 243, 3) := by decide +kernel
theorem dX7_feed_43 : decode cX7_feed 43 = .ok (.ireturn, 1) := by decide +kernel
theorem dX7_still_0 : decode cX7_still 0 = .ok (.iload_n 1, 1) := by decide +kernel
theorem dX7_still_1 : decode cX7_still 1 = .ok (.ifCond .eq 11, 3) := by decide +kernel
theorem dX7_still_4 : decode cX7_still 4 = .ok (.iload_n 1, 1) := by decide +kernel
theorem dX7_still_5 : decode cX7_still 5 = .ok (.iconst 1, 1) := by decide +kernel
theorem dX7_still_6 : decode cX7_still 6 = .ok (.if_icmp .eq 6, 3) := by decide +kernel
theorem dX7_still_9 : decode cX7_still 9 = .ok (.bipush (-2), 2) := by decide +kernel
theorem dX7_still_11 : decode cX7_still 11 = .ok (.ireturn, 1) := by decide +kernel
theorem dX7_still_12 : decode cX7_still 12 = .ok (.aload_n 0, 1) := by decide +kernel
theorem dX7_still_13 : decode cX7_still 13 = .ok (.invokevirtual 246, 3) := by decide +kernel
theorem dX7_still_16 : decode cX7_still 16 = .ok (.iload_n 1, 1) := by decide +kernel
theorem dX7_still_17 : decode cX7_still 17 = .ok (.ifCond .ne 13, 3) := by decide +kernel
theorem dX7_still_20 : decode cX7_still 20 = .ok (.aload_n 0, 1) := by decide +kernel
theorem dX7_still_21 : decode cX7_still 21 = .ok (.getfield 64, 3) := by decide +kernel
theorem dX7_still_24 : decode cX7_still 24 = .ok (.getfield 224, 3) := by decide +kernel
theorem dX7_still_27 : decode cX7_still 27 = .ok (.goto 10, 3) := by decide +kernel
theorem dX7_still_30 : decode cX7_still 30 = .ok (.aload_n 0, 1) := by decide +kernel
theorem dX7_still_31 : decode cX7_still 31 = .ok (.getfield 64, 3) := by decide +kernel
theorem dX7_still_34 : decode cX7_still 34 = .ok (.getfield 230, 3) := by decide +kernel
theorem dX7_still_37 : decode cX7_still 37 = .ok (.ireturn, 1) := by decide +kernel
theorem dX7_seen_0 : decode cX7_seen 0 = .ok (.iload_n 1, 1) := by decide +kernel
theorem dX7_seen_1 : decode cX7_seen 1 = .ok (.ifCond .lt 29, 3) := by decide +kernel
theorem dX7_seen_4 : decode cX7_seen 4 = .ok (.iload_n 1, 1) := by decide +kernel
theorem dX7_seen_5 : decode cX7_seen 5 = .ok (.bipush 8, 2) := by decide +kernel
theorem dX7_seen_7 : decode cX7_seen 7 = .ok (.if_icmp .ge 23, 3) := by decide +kernel
theorem dX7_seen_10 : decode cX7_seen 10 = .ok (.iload_n 2, 1) := by decide +kernel
theorem dX7_seen_11 : decode cX7_seen 11 = .ok (.ifCond .lt 19, 3) := by decide +kernel
theorem dX7_seen_14 : decode cX7_seen 14 = .ok (.iload_n 2, 1) := by decide +kernel
theorem dX7_seen_15 : decode cX7_seen 15 = .ok (.bipush 12, 2) := by decide +kernel
theorem dX7_seen_17 : decode cX7_seen 17 = .ok (.if_icmp .ge 13, 3) := by decide +kernel
theorem dX7_seen_20 : decode cX7_seen 20 = .ok (.iload_n 3, 1) := by decide +kernel
theorem dX7_seen_21 : decode cX7_seen 21 = .ok (.ifCond .lt 9, 3) := by decide +kernel
theorem dX7_seen_24 : decode cX7_seen 24 = .ok (.iload_n 3, 1) := by decide +kernel
theorem dX7_seen_25 : decode cX7_seen 25 = .ok (.bipush 8, 2) := by decide +kernel
theorem dX7_seen_27 : decode cX7_seen 27 = .ok (.if_icmp .le 6, 3) := by decide +kernel
theorem dX7_seen_30 : decode cX7_seen 30 = .ok (.bipush (-2), 2) := by decide +kernel
theorem dX7_seen_32 : decode cX7_seen 32 = .ok (.ireturn, 1) := by decide +kernel
theorem dX7_seen_33 : decode cX7_seen 33 = .ok (.aload_n 0, 1) := by decide +kernel
theorem dX7_seen_34 : decode cX7_seen 34 = .ok (.getfield 50, 3) := by decide +kernel
theorem dX7_seen_37 : decode cX7_seen 37 = .ok (.iload_n 1, 1) := by decide +kernel
theorem dX7_seen_38 : decode cX7_seen 38 = .ok (.iload_n 2, 1) := by decide +kernel
theorem dX7_seen_39 : decode cX7_seen 39 = .ok (.iload_n 3, 1) := by decide +kernel
theorem dX7_seen_40 : decode cX7_seen 40 = .ok (.invokevirtual 249, 3) := by decide +kernel
theorem dX7_seen_43 : decode cX7_seen 43 = .ok (.ifCond .eq 13, 3) := by decide +kernel
theorem dX7_seen_46 : decode cX7_seen 46 = .ok (.aload_n 0, 1) := by decide +kernel
theorem dX7_seen_47 : decode cX7_seen 47 = .ok (.getfield 50, 3) := by decide +kernel
theorem dX7_seen_50 : decode cX7_seen 50 = .ok (.getfield 253, 3) := by decide +kernel
theorem dX7_seen_53 : decode cX7_seen 53 = .ok (.goto 5, 3) := by decide +kernel
theorem dX7_seen_56 : decode cX7_seen 56 = .ok (.bipush (-4), 2) := by decide +kernel
theorem dX7_seen_58 : decode cX7_seen 58 = .ok (.ireturn, 1) := by decide +kernel
theorem dX7_forget_0 : decode cX7_forget 0 = .ok (.aload_n 0, 1) := by decide +kernel
theorem dX7_forget_1 : decode cX7_forget 1 = .ok (.getfield 50, 3) := by decide +kernel
theorem dX7_forget_4 : decode cX7_forget 4 = .ok (.getfield 253, 3) := by decide +kernel
theorem dX7_forget_7 : decode cX7_forget 7 = .ok (.istore_n 1, 1) := by decide +kernel
theorem dX7_forget_8 : decode cX7_forget 8 = .ok (.aload_n 0, 1) := by decide +kernel
theorem dX7_forget_9 : decode cX7_forget 9 = .ok (.getfield 50, 3) := by decide +kernel
theorem dX7_forget_12 : decode cX7_forget 12 = .ok (.iconst 0, 1) := by decide +kernel
theorem dX7_forget_13 : decode cX7_forget 13 = .ok (.putfield 253, 3) := by decide +kernel
theorem dX7_forget_16 : decode cX7_forget 16 = .ok (.iload_n 1, 1) := by decide +kernel
theorem dX7_forget_17 : decode cX7_forget 17 = .ok (.ireturn, 1) := by decide +kernel
theorem dX7_never_0 : decode cX7_never 0 = .ok (.iconst 0, 1) := by decide +kernel
theorem dX7_never_1 : decode cX7_never 1 = .ok (.istore_n 1, 1) := by decide +kernel
theorem dX7_never_2 : decode cX7_never 2 = .ok (.iconst 0, 1) := by decide +kernel
theorem dX7_never_3 : decode cX7_never 3 = .ok (.istore_n 2, 1) := by decide +kernel
theorem dX7_never_4 : decode cX7_never 4 = .ok (.iload_n 2, 1) := by decide +kernel
theorem dX7_never_5 : decode cX7_never 5 = .ok (.aload_n 0, 1) := by decide +kernel
theorem dX7_never_6 : decode cX7_never 6 = .ok (.getfield 40, 3) := by decide +kernel
theorem dX7_never_9 : decode cX7_never 9 = .ok (.getfield 151, 3) := by decide +kernel
theorem dX7_never_12 : decode cX7_never 12 = .ok (.if_icmp .ge 53, 3) := by decide +kernel
theorem dX7_never_15 : decode cX7_never 15 = .ok (.aload_n 0, 1) := by decide +kernel
theorem dX7_never_16 : decode cX7_never 16 = .ok (.getfield 33, 3) := by decide +kernel
theorem dX7_never_19 : decode cX7_never 19 = .ok (.aload_n 0, 1) := by decide +kernel
theorem dX7_never_20 : decode cX7_never 20 = .ok (.getfield 40, 3) := by decide +kernel
theorem dX7_never_23 : decode cX7_never 23 = .ok (.iload_n 2, 1) := by decide +kernel
theorem dX7_never_24 : decode cX7_never 24 = .ok (.invokevirtual 254, 3) := by decide +kernel
theorem dX7_never_27 : decode cX7_never 27 = .ok (.aload_n 0, 1) := by decide +kernel
theorem dX7_never_28 : decode cX7_never 28 = .ok (.getfield 44, 3) := by decide +kernel
theorem dX7_never_31 : decode cX7_never 31 = .ok (.invokevirtual 169, 3) := by decide +kernel
theorem dX7_never_34 : decode cX7_never 34 = .ok (.bipush 40, 2) := by decide +kernel
theorem dX7_never_36 : decode cX7_never 36 = .ok (.invokevirtual 173, 3) := by decide +kernel
theorem dX7_never_39 : decode cX7_never 39 = .ok (.aload_n 0, 1) := by decide +kernel
theorem dX7_never_40 : decode cX7_never 40 = .ok (.getfield 50, 3) := by decide +kernel
theorem dX7_never_43 : decode cX7_never 43 = .ok (.aload_n 0, 1) := by decide +kernel
theorem dX7_never_44 : decode cX7_never 44 = .ok (.getfield 33, 3) := by decide +kernel
theorem dX7_never_47 : decode cX7_never 47 = .ok (.invokevirtual 258, 3) := by decide +kernel
theorem dX7_never_50 : decode cX7_never 50 = .ok (.ifCond .eq 9, 3) := by decide +kernel
theorem dX7_never_53 : decode cX7_never 53 = .ok (.iload_n 1, 1) := by decide +kernel
theorem dX7_never_54 : decode cX7_never 54 = .ok (.iconst 1, 1) := by decide +kernel
theorem dX7_never_55 : decode cX7_never 55 = .ok (.iload_n 2, 1) := by decide +kernel
theorem dX7_never_56 : decode cX7_never 56 = .ok (.ishl, 1) := by decide +kernel
theorem dX7_never_57 : decode cX7_never 57 = .ok (.ior, 1) := by decide +kernel
theorem dX7_never_58 : decode cX7_never 58 = .ok (.istore_n 1, 1) := by decide +kernel
theorem dX7_never_59 : decode cX7_never 59 = .ok (.iinc 2 1, 3) := by decide +kernel
theorem dX7_never_62 : decode cX7_never 62 = .ok (.goto (-58), 3) := by decide +kernel
theorem dX7_never_65 : decode cX7_never 65 = .ok (.iload_n 1, 1) := by decide +kernel
theorem dX7_never_66 : decode cX7_never 66 = .ok (.ireturn, 1) := by decide +kernel
theorem dX7_was_0 : decode cX7_was 0 = .ok (.aload_n 0, 1) := by decide +kernel
theorem dX7_was_1 : decode cX7_was 1 = .ok (.iload_n 1, 1) := by decide +kernel
theorem dX7_was_2 : decode cX7_was 2 = .ok (.invokevirtual 113, 3) := by decide +kernel
theorem dX7_was_5 : decode cX7_was 5 = .ok (.ifCond .ne 6, 3) := by decide +kernel
theorem dX7_was_8 : decode cX7_was 8 = .ok (.bipush (-2), 2) := by decide +kernel
theorem dX7_was_10 : decode cX7_was 10 = .ok (.ireturn, 1) := by decide +kernel
theorem dX7_was_11 : decode cX7_was 11 = .ok (.iload_n 2, 1) := by decide +kernel
theorem dX7_was_12 : decode cX7_was 12 = .ok (.lookupswitch 40 #[(0, 28), (1, 34)], 28) := by decide +kernel
theorem dX7_was_40 : decode cX7_was 40 = .ok (.aload_n 0, 1) := by decide +kernel
theorem dX7_was_41 : decode cX7_was 41 = .ok (.iload_n 1, 1) := by decide +kernel
theorem dX7_was_42 : decode cX7_was 42 = .ok (.invokevirtual 262, 3) := by decide +kernel
theorem dX7_was_45 : decode cX7_was 45 = .ok (.ireturn, 1) := by decide +kernel
theorem dX7_was_46 : decode cX7_was 46 = .ok (.aload_n 0, 1) := by decide +kernel
theorem dX7_was_47 : decode cX7_was 47 = .ok (.iload_n 1, 1) := by decide +kernel
theorem dX7_was_48 : decode cX7_was 48 = .ok (.invokevirtual 265, 3) := by decide +kernel
theorem dX7_was_51 : decode cX7_was 51 = .ok (.ireturn, 1) := by decide +kernel
theorem dX7_was_52 : decode cX7_was 52 = .ok (.bipush (-2), 2) := by decide +kernel
theorem dX7_was_54 : decode cX7_was 54 = .ok (.ireturn, 1) := by decide +kernel
theorem dX7_ask_0 : decode cX7_ask 0 = .ok (.aload_n 0, 1) := by decide +kernel
theorem dX7_ask_1 : decode cX7_ask 1 = .ok (.iload_n 1, 1) := by decide +kernel
theorem dX7_ask_2 : decode cX7_ask 2 = .ok (.invokevirtual 113, 3) := by decide +kernel
theorem dX7_ask_5 : decode cX7_ask 5 = .ok (.ifCond .ne 6, 3) := by decide +kernel
theorem dX7_ask_8 : decode cX7_ask 8 = .ok (.bipush (-2), 2) := by decide +kernel
theorem dX7_ask_10 : decode cX7_ask 10 = .ok (.ireturn, 1) := by decide +kernel
theorem dX7_ask_11 : decode cX7_ask 11 = .ok (.aload_n 0, 1) := by decide +kernel
theorem dX7_ask_12 : decode cX7_ask 12 = .ok (.iload_n 1, 1) := by decide +kernel
theorem dX7_ask_13 : decode cX7_ask 13 = .ok (.invokevirtual 262, 3) := by decide +kernel
theorem dX7_ask_16 : decode cX7_ask 16 = .ok (.istore_n 2, 1) := by decide +kernel
theorem dX7_ask_17 : decode cX7_ask 17 = .ok (.aload_n 0, 1) := by decide +kernel
theorem dX7_ask_18 : decode cX7_ask 18 = .ok (.getfield 64, 3) := by decide +kernel
theorem dX7_ask_21 : decode cX7_ask 21 = .ok (.invokevirtual 214, 3) := by decide +kernel
theorem dX7_ask_24 : decode cX7_ask 24 = .ok (.iconst 0, 1) := by decide +kernel
theorem dX7_ask_25 : decode cX7_ask 25 = .ok (.istore_n 3, 1) := by decide +kernel
theorem dX7_ask_26 : decode cX7_ask 26 = .ok (.iload_n 3, 1) := by decide +kernel
theorem dX7_ask_27 : decode cX7_ask 27 = .ok (.aload_n 0, 1) := by decide +kernel
theorem dX7_ask_28 : decode cX7_ask 28 = .ok (.getfield 24, 3) := by decide +kernel
theorem dX7_ask_31 : decode cX7_ask 31 = .ok (.getfield 268, 3) := by decide +kernel
theorem dX7_ask_34 : decode cX7_ask 34 = .ok (.if_icmp .ge 26, 3) := by decide +kernel
theorem dX7_ask_37 : decode cX7_ask 37 = .ok (.aload_n 0, 1) := by decide +kernel
theorem dX7_ask_38 : decode cX7_ask 38 = .ok (.getfield 64, 3) := by decide +kernel
theorem dX7_ask_41 : decode cX7_ask 41 = .ok (.iload_n 3, 1) := by decide +kernel
theorem dX7_ask_42 : decode cX7_ask 42 = .ok (.bipush 10, 2) := by decide +kernel
theorem dX7_ask_44 : decode cX7_ask 44 = .ok (.aload_n 0, 1) := by decide +kernel
theorem dX7_ask_45 : decode cX7_ask 45 = .ok (.iload_n 3, 1) := by decide +kernel
theorem dX7_ask_46 : decode cX7_ask 46 = .ok (.iload_n 2, 1) := by decide +kernel
theorem dX7_ask_47 : decode cX7_ask 47 = .ok (.invokevirtual 271, 3) := by decide +kernel
theorem dX7_ask_50 : decode cX7_ask 50 = .ok (.isub, 1) := by decide +kernel
theorem dX7_ask_51 : decode cX7_ask 51 = .ok (.invokevirtual 220, 3) := by decide +kernel
theorem dX7_ask_54 : decode cX7_ask 54 = .ok (.iinc 3 1, 3) := by decide +kernel
theorem dX7_ask_57 : decode cX7_ask 57 = .ok (.goto (-31), 3) := by decide +kernel
theorem dX7_ask_60 : decode cX7_ask 60 = .ok (.aload_n 0, 1) := by decide +kernel
theorem dX7_ask_61 : decode cX7_ask 61 = .ok (.getfield 64, 3) := by decide +kernel
theorem dX7_ask_64 : decode cX7_ask 64 = .ok (.getfield 224, 3) := by decide +kernel
theorem dX7_ask_67 : decode cX7_ask 67 = .ok (.ireturn, 1) := by decide +kernel
theorem dX7_gust_0 : decode cX7_gust 0 = .ok (.iload_n 1, 1) := by decide +kernel
theorem dX7_gust_1 : decode cX7_gust 1 = .ok (.ifCond .lt 35, 3) := by decide +kernel
theorem dX7_gust_4 : decode cX7_gust 4 = .ok (.iload_n 1, 1) := by decide +kernel
theorem dX7_gust_5 : decode cX7_gust 5 = .ok (.bipush 16, 2) := by decide +kernel
theorem dX7_gust_7 : decode cX7_gust 7 = .ok (.if_icmp .gt 29, 3) := by decide +kernel
theorem dX7_gust_10 : decode cX7_gust 10 = .ok (.aload_n 0, 1) := by decide +kernel
theorem dX7_gust_11 : decode cX7_gust 11 = .ok (.iload_n 2, 1) := by decide +kernel
theorem dX7_gust_12 : decode cX7_gust 12 = .ok (.invokevirtual 125, 3) := by decide +kernel
theorem dX7_gust_15 : decode cX7_gust 15 = .ok (.ifCond .eq 21, 3) := by decide +kernel
theorem dX7_gust_18 : decode cX7_gust 18 = .ok (.iload_n 3, 1) := by decide +kernel
theorem dX7_gust_19 : decode cX7_gust 19 = .ok (.invokestatic 233, 3) := by decide +kernel
theorem dX7_gust_22 : decode cX7_gust 22 = .ok (.ifCond .eq 14, 3) := by decide +kernel
theorem dX7_gust_25 : decode cX7_gust 25 = .ok (.iload 4, 2) := by decide +kernel
theorem dX7_gust_27 : decode cX7_gust 27 = .ok (.ifCond .eq 13, 3) := by decide +kernel
theorem dX7_gust_30 : decode cX7_gust 30 = .ok (.iload 4, 2) := by decide +kernel
theorem dX7_gust_32 : decode cX7_gust 32 = .ok (.iconst 1, 1) := by decide +kernel
theorem dX7_gust_33 : decode cX7_gust 33 = .ok (.if_icmp .eq 7, 3) := by decide +kernel
theorem dX7_gust_36 : decode cX7_gust 36 = .ok (.ldc2_w 274, 3) := by decide +kernel
theorem dX7_gust_39 : decode cX7_gust 39 = .ok (.lreturn, 1) := by decide +kernel
theorem dX7_gust_40 : decode cX7_gust 40 = .ok (.aload_n 0, 1) := by decide +kernel
theorem dX7_gust_41 : decode cX7_gust 41 = .ok (.iload_n 1, 1) := by decide +kernel
theorem dX7_gust_42 : decode cX7_gust 42 = .ok (.iload_n 2, 1) := by decide +kernel
theorem dX7_gust_43 : decode cX7_gust 43 = .ok (.iload_n 3, 1) := by decide +kernel
theorem dX7_gust_44 : decode cX7_gust 44 = .ok (.invokevirtual 276, 3) := by decide +kernel
theorem dX7_gust_47 : decode cX7_gust 47 = .ok (.iload 4, 2) := by decide +kernel
theorem dX7_gust_49 : decode cX7_gust 49 = .ok (.ifCond .ne 10, 3) := by decide +kernel
theorem dX7_gust_52 : decode cX7_gust 52 = .ok (.aload_n 0, 1) := by decide +kernel
theorem dX7_gust_53 : decode cX7_gust 53 = .ok (.getfield 79, 3) := by decide +kernel
theorem dX7_gust_56 : decode cX7_gust 56 = .ok (.goto 7, 3) := by decide +kernel
theorem dX7_gust_59 : decode cX7_gust 59 = .ok (.aload_n 0, 1) := by decide +kernel
theorem dX7_gust_60 : decode cX7_gust 60 = .ok (.getfield 83, 3) := by decide +kernel
theorem dX7_gust_63 : decode cX7_gust 63 = .ok (.lreturn, 1) := by decide +kernel
theorem dX7_week_0 : decode cX7_week 0 = .ok (.iload_n 2, 1) := by decide +kernel
theorem dX7_week_1 : decode cX7_week 1 = .ok (.ifCond .lt 18, 3) := by decide +kernel
theorem dX7_week_4 : decode cX7_week 4 = .ok (.iload_n 2, 1) := by decide +kernel
theorem dX7_week_5 : decode cX7_week 5 = .ok (.bipush 6, 2) := by decide +kernel
theorem dX7_week_7 : decode cX7_week 7 = .ok (.if_icmp .gt 12, 3) := by decide +kernel
theorem dX7_week_10 : decode cX7_week 10 = .ok (.iload_n 3, 1) := by decide +kernel
theorem dX7_week_11 : decode cX7_week 11 = .ok (.ifCond .eq 11, 3) := by decide +kernel
theorem dX7_week_14 : decode cX7_week 14 = .ok (.iload_n 3, 1) := by decide +kernel
theorem dX7_week_15 : decode cX7_week 15 = .ok (.iconst 1, 1) := by decide +kernel
theorem dX7_week_16 : decode cX7_week 16 = .ok (.if_icmp .eq 6, 3) := by decide +kernel
theorem dX7_week_19 : decode cX7_week 19 = .ok (.bipush (-2), 2) := by decide +kernel
theorem dX7_week_21 : decode cX7_week 21 = .ok (.ireturn, 1) := by decide +kernel
theorem dX7_week_22 : decode cX7_week 22 = .ok (.aload_n 0, 1) := by decide +kernel
theorem dX7_week_23 : decode cX7_week 23 = .ok (.getfield 33, 3) := by decide +kernel
theorem dX7_week_26 : decode cX7_week 26 = .ok (.aload_n 0, 1) := by decide +kernel
theorem dX7_week_27 : decode cX7_week 27 = .ok (.getfield 40, 3) := by decide +kernel
theorem dX7_week_30 : decode cX7_week 30 = .ok (.invokevirtual 169, 3) := by decide +kernel
theorem dX7_week_33 : decode cX7_week 33 = .ok (.iload_n 1, 1) := by decide +kernel
theorem dX7_week_34 : decode cX7_week 34 = .ok (.iload_n 2, 1) := by decide +kernel
theorem dX7_week_35 : decode cX7_week 35 = .ok (.invokestatic 280, 3) := by decide +kernel
theorem dX7_week_38 : decode cX7_week 38 = .ok (.bipush 40, 2) := by decide +kernel
theorem dX7_week_40 : decode cX7_week 40 = .ok (.invokevirtual 173, 3) := by decide +kernel
theorem dX7_week_43 : decode cX7_week 43 = .ok (.iload_n 3, 1) := by decide +kernel
theorem dX7_week_44 : decode cX7_week 44 = .ok (.ifCond .ne 13, 3) := by decide +kernel
theorem dX7_week_47 : decode cX7_week 47 = .ok (.aload_n 0, 1) := by decide +kernel
theorem dX7_week_48 : decode cX7_week 48 = .ok (.getfield 33, 3) := by decide +kernel
theorem dX7_week_51 : decode cX7_week 51 = .ok (.invokevirtual 205, 3) := by decide +kernel
theorem dX7_week_54 : decode cX7_week 54 = .ok (.goto 10, 3) := by decide +kernel
theorem dX7_week_57 : decode cX7_week 57 = .ok (.aload_n 0, 1) := by decide +kernel
theorem dX7_week_58 : decode cX7_week 58 = .ok (.getfield 33, 3) := by decide +kernel
theorem dX7_week_61 : decode cX7_week 61 = .ok (.getfield 284, 3) := by decide +kernel
theorem dX7_week_64 : decode cX7_week 64 = .ok (.ireturn, 1) := by decide +kernel
theorem dX7_sheet_0 : decode cX7_sheet 0 = .ok (.iload_n 1, 1) := by decide +kernel
theorem dX7_sheet_1 : decode cX7_sheet 1 = .ok (.invokestatic 152, 3) := by decide +kernel
theorem dX7_sheet_4 : decode cX7_sheet 4 = .ok (.ifCond .eq 16, 3) := by decide +kernel
theorem dX7_sheet_7 : decode cX7_sheet 7 = .ok (.iload_n 2, 1) := by decide +kernel
theorem dX7_sheet_8 : decode cX7_sheet 8 = .ok (.invokestatic 287, 3) := by decide +kernel
theorem dX7_sheet_11 : decode cX7_sheet 11 = .ok (.ifCond .eq 9, 3) := by decide +kernel
theorem dX7_sheet_14 : decode cX7_sheet 14 = .ok (.iload_n 3, 1) := by decide +kernel
theorem dX7_sheet_15 : decode cX7_sheet 15 = .ok (.bipush 60, 2) := by decide +kernel
theorem dX7_sheet_17 : decode cX7_sheet 17 = .ok (.if_icmp .le 6, 3) := by decide +kernel
theorem dX7_sheet_20 : decode cX7_sheet 20 = .ok (.bipush (-2), 2) := by decide +kernel
theorem dX7_sheet_22 : decode cX7_sheet 22 = .ok (.ireturn, 1) := by decide +kernel
theorem dX7_sheet_23 : decode cX7_sheet 23 = .ok (.iload_n 3, 1) := by decide +kernel
theorem dX7_sheet_24 : decode cX7_sheet 24 = .ok (.ifCond .ge 9, 3) := by decide +kernel
theorem dX7_sheet_27 : decode cX7_sheet 27 = .ok (.aload_n 0, 1) := by decide +kernel
theorem dX7_sheet_28 : decode cX7_sheet 28 = .ok (.iconst 5, 1) := by decide +kernel
theorem dX7_sheet_29 : decode cX7_sheet 29 = .ok (.invokevirtual 158, 3) := by decide +kernel
theorem dX7_sheet_32 : decode cX7_sheet 32 = .ok (.ireturn, 1) := by decide +kernel
theorem dX7_sheet_33 : decode cX7_sheet 33 = .ok (.aload_n 0, 1) := by decide +kernel
theorem dX7_sheet_34 : decode cX7_sheet 34 = .ok (.getfield 57, 3) := by decide +kernel
theorem dX7_sheet_37 : decode cX7_sheet 37 = .ok (.iload_n 1, 1) := by decide +kernel
theorem dX7_sheet_38 : decode cX7_sheet 38 = .ok (.iload_n 2, 1) := by decide +kernel
theorem dX7_sheet_39 : decode cX7_sheet 39 = .ok (.iload_n 3, 1) := by decide +kernel
theorem dX7_sheet_40 : decode cX7_sheet 40 = .ok (.invokevirtual 290, 3) := by decide +kernel
theorem dX7_sheet_43 : decode cX7_sheet 43 = .ok (.iload_n 3, 1) := by decide +kernel
theorem dX7_sheet_44 : decode cX7_sheet 44 = .ok (.ireturn, 1) := by decide +kernel
theorem dX7_lose_0 : decode cX7_lose 0 = .ok (.iload_n 1, 1) := by decide +kernel
theorem dX7_lose_1 : decode cX7_lose 1 = .ok (.invokestatic 152, 3) := by decide +kernel
theorem dX7_lose_4 : decode cX7_lose 4 = .ok (.ifCond .ne 6, 3) := by decide +kernel
theorem dX7_lose_7 : decode cX7_lose 7 = .ok (.bipush (-2), 2) := by decide +kernel
theorem dX7_lose_9 : decode cX7_lose 9 = .ok (.ireturn, 1) := by decide +kernel
theorem dX7_lose_10 : decode cX7_lose 10 = .ok (.aload_n 0, 1) := by decide +kernel
theorem dX7_lose_11 : decode cX7_lose 11 = .ok (.getfield 57, 3) := by decide +kernel
theorem dX7_lose_14 : decode cX7_lose 14 = .ok (.iload_n 1, 1) := by decide +kernel
theorem dX7_lose_15 : decode cX7_lose 15 = .ok (.invokevirtual 155, 3) := by decide +kernel
theorem dX7_lose_18 : decode cX7_lose 18 = .ok (.ifCond .eq 9, 3) := by decide +kernel
theorem dX7_lose_21 : decode cX7_lose 21 = .ok (.aload_n 0, 1) := by decide +kernel
theorem dX7_lose_22 : decode cX7_lose 22 = .ok (.iconst 1, 1) := by decide +kernel
theorem dX7_lose_23 : decode cX7_lose 23 = .ok (.invokevirtual 158, 3) := by decide +kernel
theorem dX7_lose_26 : decode cX7_lose 26 = .ok (.ireturn, 1) := by decide +kernel
theorem dX7_lose_27 : decode cX7_lose 27 = .ok (.aload_n 0, 1) := by decide +kernel
theorem dX7_lose_28 : decode cX7_lose 28 = .ok (.getfield 57, 3) := by decide +kernel
theorem dX7_lose_31 : decode cX7_lose 31 = .ok (.getfield 161, 3) := by decide +kernel
theorem dX7_lose_34 : decode cX7_lose 34 = .ok (.iload_n 1, 1) := by decide +kernel
theorem dX7_lose_35 : decode cX7_lose 35 = .ok (.iaload, 1) := by decide +kernel
theorem dX7_lose_36 : decode cX7_lose 36 = .ok (.istore_n 2, 1) := by decide +kernel
theorem dX7_lose_37 : decode cX7_lose 37 = .ok (.aload_n 0, 1) := by decide +kernel
theorem dX7_lose_38 : decode cX7_lose 38 = .ok (.getfield 57, 3) := by decide +kernel
theorem dX7_lose_41 : decode cX7_lose 41 = .ok (.getfield 161, 3) := by decide +kernel
theorem dX7_lose_44 : decode cX7_lose 44 = .ok (.iload_n 1, 1) := by decide +kernel
theorem dX7_lose_45 : decode cX7_lose 45 = .ok (.iconst (-1), 1) := by decide +kernel
theorem dX7_lose_46 : decode cX7_lose 46 = .ok (.iastore, 1) := by decide +kernel
theorem dX7_lose_47 : decode cX7_lose 47 = .ok (.iload_n 2, 1) := by decide +kernel
theorem dX7_lose_48 : decode cX7_lose 48 = .ok (.ireturn, 1) := by decide +kernel
theorem dX7_put_0 : decode cX7_put 0 = .ok (.iload_n 1, 1) := by decide +kernel
theorem dX7_put_1 : decode cX7_put 1 = .ok (.invokestatic 152, 3) := by decide +kernel
theorem dX7_put_4 : decode cX7_put 4 = .ok (.ifCond .eq 10, 3) := by decide +kernel
theorem dX7_put_7 : decode cX7_put 7 = .ok (.iload_n 2, 1) := by decide +kernel
theorem dX7_put_8 : decode cX7_put 8 = .ok (.invokestatic 287, 3) := by decide +kernel
theorem dX7_put_11 : decode cX7_put 11 = .ok (.ifCond .ne 6, 3) := by decide +kernel
theorem dX7_put_14 : decode cX7_put 14 = .ok (.bipush (-2), 2) := by decide +kernel
theorem dX7_put_16 : decode cX7_put 16 = .ok (.ireturn, 1) := by decide +kernel
theorem dX7_put_17 : decode cX7_put 17 = .ok (.aload_n 0, 1) := by decide +kernel
theorem dX7_put_18 : decode cX7_put 18 = .ok (.getfield 57, 3) := by decide +kernel
theorem dX7_put_21 : decode cX7_put 21 = .ok (.iload_n 1, 1) := by decide +kernel
theorem dX7_put_22 : decode cX7_put 22 = .ok (.iload_n 2, 1) := by decide +kernel
theorem dX7_put_23 : decode cX7_put 23 = .ok (.iload_n 3, 1) := by decide +kernel
theorem dX7_put_24 : decode cX7_put 24 = .ok (.invokevirtual 293, 3) := by decide +kernel
theorem dX7_put_27 : decode cX7_put 27 = .ok (.istore 5, 2) := by decide +kernel
theorem dX7_put_29 : decode cX7_put 29 = .ok (.iload 5, 2) := by decide +kernel
theorem dX7_put_31 : decode cX7_put 31 = .ok (.ifCond .eq 10, 3) := by decide +kernel
theorem dX7_put_34 : decode cX7_put 34 = .ok (.aload_n 0, 1) := by decide +kernel
theorem dX7_put_35 : decode cX7_put 35 = .ok (.iload 5, 2) := by decide +kernel
theorem dX7_put_37 : decode cX7_put 37 = .ok (.invokevirtual 158, 3) := by decide +kernel
theorem dX7_put_40 : decode cX7_put 40 = .ok (.ireturn, 1) := by decide +kernel
theorem dX7_put_41 : decode cX7_put 41 = .ok (.aload_n 0, 1) := by decide +kernel
theorem dX7_put_42 : decode cX7_put 42 = .ok (.getfield 57, 3) := by decide +kernel
theorem dX7_put_45 : decode cX7_put 45 = .ok (.iload_n 1, 1) := by decide +kernel
theorem dX7_put_46 : decode cX7_put 46 = .ok (.iload_n 3, 1) := by decide +kernel
theorem dX7_put_47 : decode cX7_put 47 = .ok (.iload 4, 2) := by decide +kernel
theorem dX7_put_49 : decode cX7_put 49 = .ok (.invokevirtual 297, 3) := by decide +kernel
theorem dX7_put_52 : decode cX7_put 52 = .ok (.iconst 1, 1) := by decide +kernel
theorem dX7_put_53 : decode cX7_put 53 = .ok (.ireturn, 1) := by decide +kernel
theorem dX7_get_0 : decode cX7_get 0 = .ok (.iload_n 1, 1) := by decide +kernel
theorem dX7_get_1 : decode cX7_get 1 = .ok (.invokestatic 152, 3) := by decide +kernel
theorem dX7_get_4 : decode cX7_get 4 = .ok (.ifCond .eq 10, 3) := by decide +kernel
theorem dX7_get_7 : decode cX7_get 7 = .ok (.iload_n 2, 1) := by decide +kernel
theorem dX7_get_8 : decode cX7_get 8 = .ok (.invokestatic 287, 3) := by decide +kernel
theorem dX7_get_11 : decode cX7_get 11 = .ok (.ifCond .ne 7, 3) := by decide +kernel
theorem dX7_get_14 : decode cX7_get 14 = .ok (.ldc_w 300, 3) := by decide +kernel
theorem dX7_get_17 : decode cX7_get 17 = .ok (.ireturn, 1) := by decide +kernel
theorem dX7_get_18 : decode cX7_get 18 = .ok (.aload_n 0, 1) := by decide +kernel
theorem dX7_get_19 : decode cX7_get 19 = .ok (.getfield 57, 3) := by decide +kernel
theorem dX7_get_22 : decode cX7_get 22 = .ok (.iload_n 1, 1) := by decide +kernel
theorem dX7_get_23 : decode cX7_get 23 = .ok (.iload_n 2, 1) := by decide +kernel
theorem dX7_get_24 : decode cX7_get 24 = .ok (.iload_n 3, 1) := by decide +kernel
theorem dX7_get_25 : decode cX7_get 25 = .ok (.invokevirtual 293, 3) := by decide +kernel
theorem dX7_get_28 : decode cX7_get 28 = .ok (.istore 4, 2) := by decide +kernel
theorem dX7_get_30 : decode cX7_get 30 = .ok (.iload 4, 2) := by decide +kernel
theorem dX7_get_32 : decode cX7_get 32 = .ok (.ifCond .eq 14, 3) := by decide +kernel
theorem dX7_get_35 : decode cX7_get 35 = .ok (.aload_n 0, 1) := by decide +kernel
theorem dX7_get_36 : decode cX7_get 36 = .ok (.iload 4, 2) := by decide +kernel
theorem dX7_get_38 : decode cX7_get 38 = .ok (.invokevirtual 158, 3) := by decide +kernel
theorem dX7_get_41 : decode cX7_get 41 = .ok (.pop, 1) := by decide +kernel
theorem dX7_get_42 : decode cX7_get 42 = .ok (.ldc_w 300, 3) := by decide +kernel
theorem dX7_get_45 : decode cX7_get 45 = .ok (.ireturn, 1) := by decide +kernel
theorem dX7_get_46 : decode cX7_get 46 = .ok (.aload_n 0, 1) := by decide +kernel
theorem dX7_get_47 : decode cX7_get 47 = .ok (.getfield 57, 3) := by decide +kernel
theorem dX7_get_50 : decode cX7_get 50 = .ok (.iload_n 1, 1) := by decide +kernel
theorem dX7_get_51 : decode cX7_get 51 = .ok (.iload_n 3, 1) := by decide +kernel
theorem dX7_get_52 : decode cX7_get 52 = .ok (.invokevirtual 163, 3) := by decide +kernel
theorem dX7_get_55 : decode cX7_get 55 = .ok (.ireturn, 1) := by decide +kernel
theorem dX7_copy_0 : decode cX7_copy 0 = .ok (.iload_n 1, 1) := by decide +kernel
theorem dX7_copy_1 : decode cX7_copy 1 = .ok (.invokestatic 152, 3) := by decide +kernel
theorem dX7_copy_4 : decode cX7_copy 4 = .ok (.ifCond .eq 10, 3) := by decide +kernel
theorem dX7_copy_7 : decode cX7_copy 7 = .ok (.iload_n 3, 1) := by decide +kernel
theorem dX7_copy_8 : decode cX7_copy 8 = .ok (.invokestatic 152, 3) := by decide +kernel
theorem dX7_copy_11 : decode cX7_copy 11 = .ok (.ifCond .ne 6, 3) := by decide +kernel
theorem dX7_copy_14 : decode cX7_copy 14 = .ok (.bipush (-2), 2) := by decide +kernel
theorem dX7_copy_16 : decode cX7_copy 16 = .ok (.ireturn, 1) := by decide +kernel
theorem dX7_copy_17 : decode cX7_copy 17 = .ok (.aload_n 0, 1) := by decide +kernel
theorem dX7_copy_18 : decode cX7_copy 18 = .ok (.getfield 57, 3) := by decide +kernel
theorem dX7_copy_21 : decode cX7_copy 21 = .ok (.iload_n 1, 1) := by decide +kernel
theorem dX7_copy_22 : decode cX7_copy 22 = .ok (.invokevirtual 155, 3) := by decide +kernel
theorem dX7_copy_25 : decode cX7_copy 25 = .ok (.ifCond .ne 14, 3) := by decide +kernel
theorem dX7_copy_28 : decode cX7_copy 28 = .ok (.aload_n 0, 1) := by decide +kernel
theorem dX7_copy_29 : decode cX7_copy 29 = .ok (.getfield 57, 3) := by decide +kernel
theorem dX7_copy_32 : decode cX7_copy 32 = .ok (.iload_n 3, 1) := by decide +kernel
theorem dX7_copy_33 : decode cX7_copy 33 = .ok (.invokevirtual 155, 3) := by decide +kernel
theorem dX7_copy_36 : decode cX7_copy 36 = .ok (.ifCond .eq 9, 3) := by decide +kernel
theorem dX7_copy_39 : decode cX7_copy 39 = .ok (.aload_n 0, 1) := by decide +kernel
theorem dX7_copy_40 : decode cX7_copy 40 = .ok (.iconst 1, 1) := by decide +kernel
theorem dX7_copy_41 : decode cX7_copy 41 = .ok (.invokevirtual 158, 3) := by decide +kernel
theorem dX7_copy_44 : decode cX7_copy 44 = .ok (.ireturn, 1) := by decide +kernel
theorem dX7_copy_45 : decode cX7_copy 45 = .ok (.aload_n 0, 1) := by decide +kernel
theorem dX7_copy_46 : decode cX7_copy 46 = .ok (.getfield 57, 3) := by decide +kernel
theorem dX7_copy_49 : decode cX7_copy 49 = .ok (.getfield 301, 3) := by decide +kernel
theorem dX7_copy_52 : decode cX7_copy 52 = .ok (.iload_n 1, 1) := by decide +kernel
theorem dX7_copy_53 : decode cX7_copy 53 = .ok (.iaload, 1) := by decide +kernel
theorem dX7_copy_54 : decode cX7_copy 54 = .ok (.aload_n 0, 1) := by decide +kernel
theorem dX7_copy_55 : decode cX7_copy 55 = .ok (.getfield 57, 3) := by decide +kernel
theorem dX7_copy_58 : decode cX7_copy 58 = .ok (.getfield 301, 3) := by decide +kernel
theorem dX7_copy_61 : decode cX7_copy 61 = .ok (.iload_n 3, 1) := by decide +kernel
theorem dX7_copy_62 : decode cX7_copy 62 = .ok (.iaload, 1) := by decide +kernel
theorem dX7_copy_63 : decode cX7_copy 63 = .ok (.if_icmp .eq 9, 3) := by decide +kernel
theorem dX7_copy_66 : decode cX7_copy 66 = .ok (.aload_n 0, 1) := by decide +kernel
theorem dX7_copy_67 : decode cX7_copy 67 = .ok (.iconst 4, 1) := by decide +kernel
theorem dX7_copy_68 : decode cX7_copy 68 = .ok (.invokevirtual 158, 3) := by decide +kernel
theorem dX7_copy_71 : decode cX7_copy 71 = .ok (.ireturn, 1) := by decide +kernel
theorem dX7_copy_72 : decode cX7_copy 72 = .ok (.aload_n 0, 1) := by decide +kernel
theorem dX7_copy_73 : decode cX7_copy 73 = .ok (.getfield 57, 3) := by decide +kernel
theorem dX7_copy_76 : decode cX7_copy 76 = .ok (.iload_n 1, 1) := by decide +kernel
theorem dX7_copy_77 : decode cX7_copy 77 = .ok (.iload_n 2, 1) := by decide +kernel
theorem dX7_copy_78 : decode cX7_copy 78 = .ok (.iload 5, 2) := by decide +kernel
theorem dX7_copy_80 : decode cX7_copy 80 = .ok (.invokevirtual 304, 3) := by decide +kernel
theorem dX7_copy_83 : decode cX7_copy 83 = .ok (.ifCond .eq 18, 3) := by decide +kernel
theorem dX7_copy_86 : decode cX7_copy 86 = .ok (.aload_n 0, 1) := by decide +kernel
theorem dX7_copy_87 : decode cX7_copy 87 = .ok (.getfield 57, 3) := by decide +kernel
theorem dX7_copy_90 : decode cX7_copy 90 = .ok (.iload_n 3, 1) := by decide +kernel
theorem dX7_copy_91 : decode cX7_copy 91 = .ok (.iload 4, 2) := by decide +kernel
theorem dX7_copy_93 : decode cX7_copy 93 = .ok (.iload 5, 2) := by decide +kernel
theorem dX7_copy_95 : decode cX7_copy 95 = .ok (.invokevirtual 304, 3) := by decide +kernel
theorem dX7_copy_98 : decode cX7_copy 98 = .ok (.ifCond .ne 9, 3) := by decide +kernel
theorem dX7_copy_101 : decode cX7_copy 101 = .ok (.aload_n 0, 1) := by decide +kernel
theorem dX7_copy_102 : decode cX7_copy 102 = .ok (.iconst 2, 1) := by decide +kernel
theorem dX7_copy_103 : decode cX7_copy 103 = .ok (.invokevirtual 158, 3) := by decide +kernel
theorem dX7_copy_106 : decode cX7_copy 106 = .ok (.ireturn, 1) := by decide +kernel
theorem dX7_copy_107 : decode cX7_copy 107 = .ok (.aload_n 0, 1) := by decide +kernel
theorem dX7_copy_108 : decode cX7_copy 108 = .ok (.getfield 57, 3) := by decide +kernel
theorem dX7_copy_111 : decode cX7_copy 111 = .ok (.getfield 307, 3) := by decide +kernel
theorem dX7_copy_114 : decode cX7_copy 114 = .ok (.iload_n 1, 1) := by decide +kernel
theorem dX7_copy_115 : decode cX7_copy 115 = .ok (.bipush 60, 2) := by decide +kernel
theorem dX7_copy_117 : decode cX7_copy 117 = .ok (.imul, 1) := by decide +kernel
theorem dX7_copy_118 : decode cX7_copy 118 = .ok (.iload_n 2, 1) := by decide +kernel
theorem dX7_copy_119 : decode cX7_copy 119 = .ok (.iadd, 1) := by decide +kernel
theorem dX7_copy_120 : decode cX7_copy 120 = .ok (.aload_n 0, 1) := by decide +kernel
theorem dX7_copy_121 : decode cX7_copy 121 = .ok (.getfield 57, 3) := by decide +kernel
theorem dX7_copy_124 : decode cX7_copy 124 = .ok (.getfield 307, 3) := by decide +kernel
theorem dX7_copy_127 : decode cX7_copy 127 = .ok (.iload_n 3, 1) := by decide +kernel
theorem dX7_copy_128 : decode cX7_copy 128 = .ok (.bipush 60, 2) := by decide +kernel
theorem dX7_copy_130 : decode cX7_copy 130 = .ok (.imul, 1) := by decide +kernel
theorem dX7_copy_131 : decode cX7_copy 131 = .ok (.iload 4, 2) := by decide +kernel
theorem dX7_copy_133 : decode cX7_copy 133 = .ok (.iadd, 1) := by decide +kernel
theorem dX7_copy_134 : decode cX7_copy 134 = .ok (.iload 5, 2) := by decide +kernel
theorem dX7_copy_136 : decode cX7_copy 136 = .ok (.invokestatic 310, 3) := by decide +kernel
theorem dX7_copy_139 : decode cX7_copy 139 = .ok (.iconst 1, 1) := by decide +kernel
theorem dX7_copy_140 : decode cX7_copy 140 = .ok (.ireturn, 1) := by decide +kernel
theorem dX7_write_0 : decode cX7_write 0 = .ok (.aload_n 0, 1) := by decide +kernel
theorem dX7_write_1 : decode cX7_write 1 = .ok (.iload_n 1, 1) := by decide +kernel
theorem dX7_write_2 : decode cX7_write 2 = .ok (.invokevirtual 125, 3) := by decide +kernel
theorem dX7_write_5 : decode cX7_write 5 = .ok (.ifCond .eq 10, 3) := by decide +kernel
theorem dX7_write_8 : decode cX7_write 8 = .ok (.iload_n 2, 1) := by decide +kernel
theorem dX7_write_9 : decode cX7_write 9 = .ok (.invokestatic 152, 3) := by decide +kernel
theorem dX7_write_12 : decode cX7_write 12 = .ok (.ifCond .ne 6, 3) := by decide +kernel
theorem dX7_write_15 : decode cX7_write 15 = .ok (.bipush (-2), 2) := by decide +kernel
theorem dX7_write_17 : decode cX7_write 17 = .ok (.ireturn, 1) := by decide +kernel
theorem dX7_write_18 : decode cX7_write 18 = .ok (.aload_n 0, 1) := by decide +kernel
theorem dX7_write_19 : decode cX7_write 19 = .ok (.getfield 57, 3) := by decide +kernel
theorem dX7_write_22 : decode cX7_write 22 = .ok (.iload_n 2, 1) := by decide +kernel
theorem dX7_write_23 : decode cX7_write 23 = .ok (.invokevirtual 155, 3) := by decide +kernel
theorem dX7_write_26 : decode cX7_write 26 = .ok (.ifCond .eq 9, 3) := by decide +kernel
theorem dX7_write_29 : decode cX7_write 29 = .ok (.aload_n 0, 1) := by decide +kernel
theorem dX7_write_30 : decode cX7_write 30 = .ok (.iconst 1, 1) := by decide +kernel
theorem dX7_write_31 : decode cX7_write 31 = .ok (.invokevirtual 158, 3) := by decide +kernel
theorem dX7_write_34 : decode cX7_write 34 = .ok (.ireturn, 1) := by decide +kernel
theorem dX7_write_35 : decode cX7_write 35 = .ok (.aload_n 0, 1) := by decide +kernel
theorem dX7_write_36 : decode cX7_write 36 = .ok (.invokevirtual 186, 3) := by decide +kernel
theorem dX7_write_39 : decode cX7_write 39 = .ok (.aload_n 0, 1) := by decide +kernel
theorem dX7_write_40 : decode cX7_write 40 = .ok (.getfield 57, 3) := by decide +kernel
theorem dX7_write_43 : decode cX7_write 43 = .ok (.getfield 161, 3) := by decide +kernel
theorem dX7_write_46 : decode cX7_write 46 = .ok (.iload_n 2, 1) := by decide +kernel
theorem dX7_write_47 : decode cX7_write 47 = .ok (.iaload, 1) := by decide +kernel
theorem dX7_write_48 : decode cX7_write 48 = .ok (.aload_n 0, 1) := by decide +kernel
theorem dX7_write_49 : decode cX7_write 49 = .ok (.getfield 33, 3) := by decide +kernel
theorem dX7_write_52 : decode cX7_write 52 = .ok (.iload_n 1, 1) := by decide +kernel
theorem dX7_write_53 : decode cX7_write 53 = .ok (.invokevirtual 181, 3) := by decide +kernel
theorem dX7_write_56 : decode cX7_write 56 = .ok (.invokestatic 316, 3) := by decide +kernel
theorem dX7_write_59 : decode cX7_write 59 = .ok (.istore_n 3, 1) := by decide +kernel
theorem dX7_write_60 : decode cX7_write 60 = .ok (.iconst 0, 1) := by decide +kernel
theorem dX7_write_61 : decode cX7_write 61 = .ok (.istore 4, 2) := by decide +kernel
theorem dX7_write_63 : decode cX7_write 63 = .ok (.iload 4, 2) := by decide +kernel
theorem dX7_write_65 : decode cX7_write 65 = .ok (.iload_n 3, 1) := by decide +kernel
theorem dX7_write_66 : decode cX7_write 66 = .ok (.if_icmp .ge 29, 3) := by decide +kernel
theorem dX7_write_69 : decode cX7_write 69 = .ok (.aload_n 0, 1) := by decide +kernel
theorem dX7_write_70 : decode cX7_write 70 = .ok (.getfield 57, 3) := by decide +kernel
theorem dX7_write_73 : decode cX7_write 73 = .ok (.iload_n 2, 1) := by decide +kernel
theorem dX7_write_74 : decode cX7_write 74 = .ok (.iload 4, 2) := by decide +kernel
theorem dX7_write_76 : decode cX7_write 76 = .ok (.aload_n 0, 1) := by decide +kernel
theorem dX7_write_77 : decode cX7_write 77 = .ok (.getfield 33, 3) := by decide +kernel
theorem dX7_write_80 : decode cX7_write 80 = .ok (.iload_n 1, 1) := by decide +kernel
theorem dX7_write_81 : decode cX7_write 81 = .ok (.iload 4, 2) := by decide +kernel
theorem dX7_write_83 : decode cX7_write 83 = .ok (.invokevirtual 189, 3) := by decide +kernel
theorem dX7_write_86 : decode cX7_write 86 = .ok (.invokevirtual 297, 3) := by decide +kernel
theorem dX7_write_89 : decode cX7_write 89 = .ok (.iinc 4 1, 3) := by decide +kernel
theorem dX7_write_92 : decode cX7_write 92 = .ok (.goto (-29), 3) := by decide +kernel
theorem dX7_write_95 : decode cX7_write 95 = .ok (.iload_n 3, 1) := by decide +kernel
theorem dX7_write_96 : decode cX7_write 96 = .ok (.ireturn, 1) := by decide +kernel
theorem dX7_count_0 : decode cX7_count 0 = .ok (.iload_n 1, 1) := by decide +kernel
theorem dX7_count_1 : decode cX7_count 1 = .ok (.tableswitch 124 0 8 #[51, 59, 67, 75, 83, 91, 99, 111, 119], 51) := by decide +kernel
theorem dX7_count_52 : decode cX7_count 52 = .ok (.aload_n 0, 1) := by decide +kernel
theorem dX7_count_53 : decode cX7_count 53 = .ok (.getfield 24, 3) := by decide +kernel
theorem dX7_count_56 : decode cX7_count 56 = .ok (.getfield 217, 3) := by decide +kernel
theorem dX7_count_59 : decode cX7_count 59 = .ok (.ireturn, 1) := by decide +kernel
theorem dX7_count_60 : decode cX7_count 60 = .ok (.aload_n 0, 1) := by decide +kernel
theorem dX7_count_61 : decode cX7_count 61 = .ok (.getfield 24, 3) := by decide +kernel
theorem dX7_count_64 : decode cX7_count 64 = .ok (.getfield 268, 3) := by decide +kernel
theorem dX7_count_67 : decode cX7_count 67 = .ok (.ireturn, 1) := by decide +kernel
theorem dX7_count_68 : decode cX7_count 68 = .ok (.aload_n 0, 1) := by decide +kernel
theorem dX7_count_69 : decode cX7_count 69 = .ok (.getfield 14, 3) := by decide +kernel
theorem dX7_count_72 : decode cX7_count 72 = .ok (.getfield 104, 3) := by decide +kernel
theorem dX7_count_75 : decode cX7_count 75 = .ok (.ireturn, 1) := by decide +kernel
theorem dX7_count_76 : decode cX7_count 76 = .ok (.aload_n 0, 1) := by decide +kernel
theorem dX7_count_77 : decode cX7_count 77 = .ok (.getfield 18, 3) := by decide +kernel
theorem dX7_count_80 : decode cX7_count 80 = .ok (.getfield 104, 3) := by decide +kernel
theorem dX7_count_83 : decode cX7_count 83 = .ok (.ireturn, 1) := by decide +kernel
theorem dX7_count_84 : decode cX7_count 84 = .ok (.aload_n 0, 1) := by decide +kernel
theorem dX7_count_85 : decode cX7_count 85 = .ok (.getfield 40, 3) := by decide +kernel
theorem dX7_count_88 : decode cX7_count 88 = .ok (.getfield 151, 3) := by decide +kernel
theorem dX7_count_91 : decode cX7_count 91 = .ok (.ireturn, 1) := by decide +kernel
theorem dX7_count_92 : decode cX7_count 92 = .ok (.aload_n 0, 1) := by decide +kernel
theorem dX7_count_93 : decode cX7_count 93 = .ok (.getfield 44, 3) := by decide +kernel
theorem dX7_count_96 : decode cX7_count 96 = .ok (.getfield 151, 3) := by decide +kernel
theorem dX7_count_99 : decode cX7_count 99 = .ok (.ireturn, 1) := by decide +kernel
theorem dX7_count_100 : decode cX7_count 100 = .ok (.aload_n 0, 1) := by decide +kernel
theorem dX7_count_101 : decode cX7_count 101 = .ok (.invokevirtual 186, 3) := by decide +kernel
theorem dX7_count_104 : decode cX7_count 104 = .ok (.aload_n 0, 1) := by decide +kernel
theorem dX7_count_105 : decode cX7_count 105 = .ok (.getfield 33, 3) := by decide +kernel
theorem dX7_count_108 : decode cX7_count 108 = .ok (.getfield 284, 3) := by decide +kernel
theorem dX7_count_111 : decode cX7_count 111 = .ok (.ireturn, 1) := by decide +kernel
theorem dX7_count_112 : decode cX7_count 112 = .ok (.aload_n 0, 1) := by decide +kernel
theorem dX7_count_113 : decode cX7_count 113 = .ok (.getfield 50, 3) := by decide +kernel
theorem dX7_count_116 : decode cX7_count 116 = .ok (.getfield 253, 3) := by decide +kernel
theorem dX7_count_119 : decode cX7_count 119 = .ok (.ireturn, 1) := by decide +kernel
theorem dX7_count_120 : decode cX7_count 120 = .ok (.aload_n 0, 1) := by decide +kernel
theorem dX7_count_121 : decode cX7_count 121 = .ok (.getfield 86, 3) := by decide +kernel
theorem dX7_count_124 : decode cX7_count 124 = .ok (.ireturn, 1) := by decide +kernel
theorem dX7_count_125 : decode cX7_count 125 = .ok (.bipush (-2), 2) := by decide +kernel
theorem dX7_count_127 : decode cX7_count 127 = .ok (.ireturn, 1) := by decide +kernel
theorem dX7_digest_0 : decode cX7_digest 0 = .ok (.ldc2_w 321, 3) := by decide +kernel
theorem dX7_digest_3 : decode cX7_digest 3 = .ok (.lstore_n 1, 1) := by decide +kernel
theorem dX7_digest_4 : decode cX7_digest 4 = .ok (.iconst 0, 1) := by decide +kernel
theorem dX7_digest_5 : decode cX7_digest 5 = .ok (.istore_n 3, 1) := by decide +kernel
theorem dX7_digest_6 : decode cX7_digest 6 = .ok (.iload_n 3, 1) := by decide +kernel
theorem dX7_digest_7 : decode cX7_digest 7 = .ok (.bipush 7, 2) := by decide +kernel
theorem dX7_digest_9 : decode cX7_digest 9 = .ok (.if_icmp .gt 20, 3) := by decide +kernel
theorem dX7_digest_12 : decode cX7_digest 12 = .ok (.lload_n 1, 1) := by decide +kernel
theorem dX7_digest_13 : decode cX7_digest 13 = .ok (.aload_n 0, 1) := by decide +kernel
theorem dX7_digest_14 : decode cX7_digest 14 = .ok (.iload_n 3, 1) := by decide +kernel
theorem dX7_digest_15 : decode cX7_digest 15 = .ok (.invokevirtual 323, 3) := by decide +kernel
theorem dX7_digest_18 : decode cX7_digest 18 = .ok (.i2l, 1) := by decide +kernel
theorem dX7_digest_19 : decode cX7_digest 19 = .ok (.invokestatic 326, 3) := by decide +kernel
theorem dX7_digest_22 : decode cX7_digest 22 = .ok (.lstore_n 1, 1) := by decide +kernel
theorem dX7_digest_23 : decode cX7_digest 23 = .ok (.iinc 3 1, 3) := by decide +kernel
theorem dX7_digest_26 : decode cX7_digest 26 = .ok (.goto (-20), 3) := by decide +kernel
theorem dX7_digest_29 : decode cX7_digest 29 = .ok (.lload_n 1, 1) := by decide +kernel
theorem dX7_digest_30 : decode cX7_digest 30 = .ok (.aload_n 0, 1) := by decide +kernel
theorem dX7_digest_31 : decode cX7_digest 31 = .ok (.iconst 0, 1) := by decide +kernel
theorem dX7_digest_32 : decode cX7_digest 32 = .ok (.invokevirtual 330, 3) := by decide +kernel
theorem dX7_digest_35 : decode cX7_digest 35 = .ok (.i2l, 1) := by decide +kernel
theorem dX7_digest_36 : decode cX7_digest 36 = .ok (.invokestatic 326, 3) := by decide +kernel
theorem dX7_digest_39 : decode cX7_digest 39 = .ok (.aload_n 0, 1) := by decide +kernel
theorem dX7_digest_40 : decode cX7_digest 40 = .ok (.iconst 1, 1) := by decide +kernel
theorem dX7_digest_41 : decode cX7_digest 41 = .ok (.invokevirtual 330, 3) := by decide +kernel
theorem dX7_digest_44 : decode cX7_digest 44 = .ok (.i2l, 1) := by decide +kernel
theorem dX7_digest_45 : decode cX7_digest 45 = .ok (.invokestatic 326, 3) := by decide +kernel
theorem dX7_digest_48 : decode cX7_digest 48 = .ok (.lstore_n 1, 1) := by decide +kernel
theorem dX7_digest_49 : decode cX7_digest 49 = .ok (.iconst 0, 1) := by decide +kernel
theorem dX7_digest_50 : decode cX7_digest 50 = .ok (.istore_n 3, 1) := by decide +kernel
theorem dX7_digest_51 : decode cX7_digest 51 = .ok (.iload_n 3, 1) := by decide +kernel
theorem dX7_digest_52 : decode cX7_digest 52 = .ok (.aload_n 0, 1) := by decide +kernel
theorem dX7_digest_53 : decode cX7_digest 53 = .ok (.getfield 24, 3) := by decide +kernel
theorem dX7_digest_56 : decode cX7_digest 56 = .ok (.getfield 217, 3) := by decide +kernel
theorem dX7_digest_59 : decode cX7_digest 59 = .ok (.if_icmp .ge 16, 3) := by decide +kernel
theorem dX7_digest_62 : decode cX7_digest 62 = .ok (.aload_n 0, 1) := by decide +kernel
theorem dX7_digest_63 : decode cX7_digest 63 = .ok (.lload_n 1, 1) := by decide +kernel
theorem dX7_digest_64 : decode cX7_digest 64 = .ok (.iload_n 3, 1) := by decide +kernel
theorem dX7_digest_65 : decode cX7_digest 65 = .ok (.invokevirtual 333, 3) := by decide +kernel
theorem dX7_digest_68 : decode cX7_digest 68 = .ok (.lstore_n 1, 1) := by decide +kernel
theorem dX7_digest_69 : decode cX7_digest 69 = .ok (.iinc 3 1, 3) := by decide +kernel
theorem dX7_digest_72 : decode cX7_digest 72 = .ok (.goto (-21), 3) := by decide +kernel
theorem dX7_digest_75 : decode cX7_digest 75 = .ok (.iconst 0, 1) := by decide +kernel
theorem dX7_digest_76 : decode cX7_digest 76 = .ok (.istore_n 3, 1) := by decide +kernel
theorem dX7_digest_77 : decode cX7_digest 77 = .ok (.iload_n 3, 1) := by decide +kernel
end
section
theorem dX7_digest_78 : decode cX7_digest 78 = .ok (.aload_n 0, 1) := by decide +kernel
theorem dX7_digest_79 : decode cX7_digest 79 = .ok (.getfield 24, 3) := by decide +kernel
theorem dX7_digest_82 : decode cX7_digest 82 = .ok (.getfield 268, 3) := by decide +kernel
theorem dX7_digest_85 : decode cX7_digest 85 = .ok (.if_icmp .ge 21, 3) := by decide +kernel
theorem dX7_digest_88 : decode cX7_digest 88 = .ok (.aload_n 0, 1) := by decide +kernel
theorem dX7_digest_89 : decode cX7_digest 89 = .ok (.aload_n 0, 1) := by decide +kernel
theorem dX7_digest_90 : decode cX7_digest 90 = .ok (.lload_n 1, 1) := by decide +kernel
theorem dX7_digest_91 : decode cX7_digest 91 = .ok (.iload_n 3, 1) := by decide +kernel
theorem dX7_digest_92 : decode cX7_digest 92 = .ok (.invokevirtual 337, 3) := by decide +kernel
theorem dX7_digest_95 : decode cX7_digest 95 = .ok (.iload_n 3, 1) := by decide +kernel
theorem dX7_digest_96 : decode cX7_digest 96 = .ok (.invokevirtual 340, 3) := by decide +kernel
theorem dX7_digest_99 : decode cX7_digest 99 = .ok (.lstore_n 1, 1) := by decide +kernel
theorem dX7_digest_100 : decode cX7_digest 100 = .ok (.iinc 3 1, 3) := by decide +kernel
theorem dX7_digest_103 : decode cX7_digest 103 = .ok (.goto (-26), 3) := by decide +kernel
theorem dX7_digest_106 : decode cX7_digest 106 = .ok (.lload_n 1, 1) := by decide +kernel
theorem dX7_digest_107 : decode cX7_digest 107 = .ok (.aload_n 0, 1) := by decide +kernel
theorem dX7_digest_108 : decode cX7_digest 108 = .ok (.invokevirtual 343, 3) := by decide +kernel
theorem dX7_digest_111 : decode cX7_digest 111 = .ok (.i2l, 1) := by decide +kernel
theorem dX7_digest_112 : decode cX7_digest 112 = .ok (.invokestatic 326, 3) := by decide +kernel
theorem dX7_digest_115 : decode cX7_digest 115 = .ok (.lstore_n 1, 1) := by decide +kernel
theorem dX7_digest_116 : decode cX7_digest 116 = .ok (.lload_n 1, 1) := by decide +kernel
theorem dX7_digest_117 : decode cX7_digest 117 = .ok (.aload_n 0, 1) := by decide +kernel
theorem dX7_digest_118 : decode cX7_digest 118 = .ok (.iconst 0, 1) := by decide +kernel
theorem dX7_digest_119 : decode cX7_digest 119 = .ok (.invokevirtual 346, 3) := by decide +kernel
theorem dX7_digest_122 : decode cX7_digest 122 = .ok (.i2l, 1) := by decide +kernel
theorem dX7_digest_123 : decode cX7_digest 123 = .ok (.invokestatic 326, 3) := by decide +kernel
theorem dX7_digest_126 : decode cX7_digest 126 = .ok (.aload_n 0, 1) := by decide +kernel
theorem dX7_digest_127 : decode cX7_digest 127 = .ok (.iconst 1, 1) := by decide +kernel
theorem dX7_digest_128 : decode cX7_digest 128 = .ok (.invokevirtual 346, 3) := by decide +kernel
theorem dX7_digest_131 : decode cX7_digest 131 = .ok (.i2l, 1) := by decide +kernel
theorem dX7_digest_132 : decode cX7_digest 132 = .ok (.invokestatic 326, 3) := by decide +kernel
theorem dX7_digest_135 : decode cX7_digest 135 = .ok (.lstore_n 1, 1) := by decide +kernel
theorem dX7_digest_136 : decode cX7_digest 136 = .ok (.lload_n 1, 1) := by decide +kernel
theorem dX7_digest_137 : decode cX7_digest 137 = .ok (.aload_n 0, 1) := by decide +kernel
theorem dX7_digest_138 : decode cX7_digest 138 = .ok (.invokevirtual 349, 3) := by decide +kernel
theorem dX7_digest_141 : decode cX7_digest 141 = .ok (.i2l, 1) := by decide +kernel
theorem dX7_digest_142 : decode cX7_digest 142 = .ok (.invokestatic 326, 3) := by decide +kernel
theorem dX7_digest_145 : decode cX7_digest 145 = .ok (.lstore_n 1, 1) := by decide +kernel
theorem dX7_digest_146 : decode cX7_digest 146 = .ok (.aload_n 0, 1) := by decide +kernel
theorem dX7_digest_147 : decode cX7_digest 147 = .ok (.invokevirtual 246, 3) := by decide +kernel
theorem dX7_digest_150 : decode cX7_digest 150 = .ok (.lload_n 1, 1) := by decide +kernel
theorem dX7_digest_151 : decode cX7_digest 151 = .ok (.aload_n 0, 1) := by decide +kernel
theorem dX7_digest_152 : decode cX7_digest 152 = .ok (.getfield 64, 3) := by decide +kernel
theorem dX7_digest_155 : decode cX7_digest 155 = .ok (.getfield 224, 3) := by decide +kernel
theorem dX7_digest_158 : decode cX7_digest 158 = .ok (.i2l, 1) := by decide +kernel
theorem dX7_digest_159 : decode cX7_digest 159 = .ok (.invokestatic 326, 3) := by decide +kernel
theorem dX7_digest_162 : decode cX7_digest 162 = .ok (.aload_n 0, 1) := by decide +kernel
theorem dX7_digest_163 : decode cX7_digest 163 = .ok (.getfield 64, 3) := by decide +kernel
theorem dX7_digest_166 : decode cX7_digest 166 = .ok (.getfield 230, 3) := by decide +kernel
theorem dX7_digest_169 : decode cX7_digest 169 = .ok (.i2l, 1) := by decide +kernel
theorem dX7_digest_170 : decode cX7_digest 170 = .ok (.invokestatic 326, 3) := by decide +kernel
theorem dX7_digest_173 : decode cX7_digest 173 = .ok (.lstore_n 1, 1) := by decide +kernel
theorem dX7_digest_174 : decode cX7_digest 174 = .ok (.lload_n 1, 1) := by decide +kernel
theorem dX7_digest_175 : decode cX7_digest 175 = .ok (.aload_n 0, 1) := by decide +kernel
theorem dX7_digest_176 : decode cX7_digest 176 = .ok (.invokevirtual 352, 3) := by decide +kernel
theorem dX7_digest_179 : decode cX7_digest 179 = .ok (.i2l, 1) := by decide +kernel
theorem dX7_digest_180 : decode cX7_digest 180 = .ok (.invokestatic 326, 3) := by decide +kernel
theorem dX7_digest_183 : decode cX7_digest 183 = .ok (.lstore_n 1, 1) := by decide +kernel
theorem dX7_digest_184 : decode cX7_digest 184 = .ok (.lload_n 1, 1) := by decide +kernel
theorem dX7_digest_185 : decode cX7_digest 185 = .ok (.aload_n 0, 1) := by decide +kernel
theorem dX7_digest_186 : decode cX7_digest 186 = .ok (.bipush 7, 2) := by decide +kernel
theorem dX7_digest_188 : decode cX7_digest 188 = .ok (.iconst 5, 1) := by decide +kernel
theorem dX7_digest_189 : decode cX7_digest 189 = .ok (.iconst 0, 1) := by decide +kernel
theorem dX7_digest_190 : decode cX7_digest 190 = .ok (.invokevirtual 355, 3) := by decide +kernel
theorem dX7_digest_193 : decode cX7_digest 193 = .ok (.i2l, 1) := by decide +kernel
theorem dX7_digest_194 : decode cX7_digest 194 = .ok (.invokestatic 326, 3) := by decide +kernel
theorem dX7_digest_197 : decode cX7_digest 197 = .ok (.aload_n 0, 1) := by decide +kernel
theorem dX7_digest_198 : decode cX7_digest 198 = .ok (.bipush 7, 2) := by decide +kernel
theorem dX7_digest_200 : decode cX7_digest 200 = .ok (.iconst 5, 1) := by decide +kernel
theorem dX7_digest_201 : decode cX7_digest 201 = .ok (.iconst 1, 1) := by decide +kernel
theorem dX7_digest_202 : decode cX7_digest 202 = .ok (.invokevirtual 355, 3) := by decide +kernel
theorem dX7_digest_205 : decode cX7_digest 205 = .ok (.i2l, 1) := by decide +kernel
theorem dX7_digest_206 : decode cX7_digest 206 = .ok (.invokestatic 326, 3) := by decide +kernel
theorem dX7_digest_209 : decode cX7_digest 209 = .ok (.lreturn, 1) := by decide +kernel
theorem dX7_isText_0 : decode cX7_isText 0 = .ok (.iload_n 0, 1) := by decide +kernel
theorem dX7_isText_1 : decode cX7_isText 1 = .ok (.ifCond .eq 8, 3) := by decide +kernel
theorem dX7_isText_4 : decode cX7_isText 4 = .ok (.iload_n 0, 1) := by decide +kernel
theorem dX7_isText_5 : decode cX7_isText 5 = .ok (.iconst 1, 1) := by decide +kernel
theorem dX7_isText_6 : decode cX7_isText 6 = .ok (.if_icmp .ne 7, 3) := by decide +kernel
theorem dX7_isText_9 : decode cX7_isText 9 = .ok (.iconst 1, 1) := by decide +kernel
theorem dX7_isText_10 : decode cX7_isText 10 = .ok (.goto 4, 3) := by decide +kernel
theorem dX7_isText_13 : decode cX7_isText 13 = .ok (.iconst 0, 1) := by decide +kernel
theorem dX7_isText_14 : decode cX7_isText 14 = .ok (.ireturn, 1) := by decide +kernel
theorem dX7_isHour_0 : decode cX7_isHour 0 = .ok (.iload_n 0, 1) := by decide +kernel
theorem dX7_isHour_1 : decode cX7_isHour 1 = .ok (.ifCond .lt 13, 3) := by decide +kernel
theorem dX7_isHour_4 : decode cX7_isHour 4 = .ok (.iload_n 0, 1) := by decide +kernel
theorem dX7_isHour_5 : decode cX7_isHour 5 = .ok (.bipush 40, 2) := by decide +kernel
theorem dX7_isHour_7 : decode cX7_isHour 7 = .ok (.if_icmp .ge 7, 3) := by decide +kernel
theorem dX7_isHour_10 : decode cX7_isHour 10 = .ok (.iconst 1, 1) := by decide +kernel
theorem dX7_isHour_11 : decode cX7_isHour 11 = .ok (.goto 4, 3) := by decide +kernel
theorem dX7_isHour_14 : decode cX7_isHour 14 = .ok (.iconst 0, 1) := by decide +kernel
theorem dX7_isHour_15 : decode cX7_isHour 15 = .ok (.ireturn, 1) := by decide +kernel
theorem dX7_isLoad_0 : decode cX7_isLoad 0 = .ok (.iload_n 0, 1) := by decide +kernel
theorem dX7_isLoad_1 : decode cX7_isLoad 1 = .ok (.ifCond .lt 13, 3) := by decide +kernel
theorem dX7_isLoad_4 : decode cX7_isLoad 4 = .ok (.iload_n 0, 1) := by decide +kernel
theorem dX7_isLoad_5 : decode cX7_isLoad 5 = .ok (.bipush 100, 2) := by decide +kernel
theorem dX7_isLoad_7 : decode cX7_isLoad 7 = .ok (.if_icmp .ge 7, 3) := by decide +kernel
theorem dX7_isLoad_10 : decode cX7_isLoad 10 = .ok (.iconst 1, 1) := by decide +kernel
theorem dX7_isLoad_11 : decode cX7_isLoad 11 = .ok (.goto 4, 3) := by decide +kernel
theorem dX7_isLoad_14 : decode cX7_isLoad 14 = .ok (.iconst 0, 1) := by decide +kernel
theorem dX7_isLoad_15 : decode cX7_isLoad 15 = .ok (.ireturn, 1) := by decide +kernel
theorem dX7_isSheet_0 : decode cX7_isSheet 0 = .ok (.iload_n 0, 1) := by decide +kernel
theorem dX7_isSheet_1 : decode cX7_isSheet 1 = .ok (.ifCond .lt 12, 3) := by decide +kernel
theorem dX7_isSheet_4 : decode cX7_isSheet 4 = .ok (.iload_n 0, 1) := by decide +kernel
theorem dX7_isSheet_5 : decode cX7_isSheet 5 = .ok (.iconst 4, 1) := by decide +kernel
theorem dX7_isSheet_6 : decode cX7_isSheet 6 = .ok (.if_icmp .ge 7, 3) := by decide +kernel
theorem dX7_isSheet_9 : decode cX7_isSheet 9 = .ok (.iconst 1, 1) := by decide +kernel
theorem dX7_isSheet_10 : decode cX7_isSheet 10 = .ok (.goto 4, 3) := by decide +kernel
theorem dX7_isSheet_13 : decode cX7_isSheet 13 = .ok (.iconst 0, 1) := by decide +kernel
theorem dX7_isSheet_14 : decode cX7_isSheet 14 = .ok (.ireturn, 1) := by decide +kernel
theorem dX7_isForm_0 : decode cX7_isForm 0 = .ok (.iload_n 0, 1) := by decide +kernel
theorem dX7_isForm_1 : decode cX7_isForm 1 = .ok (.ifCond .lt 12, 3) := by decide +kernel
theorem dX7_isForm_4 : decode cX7_isForm 4 = .ok (.iload_n 0, 1) := by decide +kernel
theorem dX7_isForm_5 : decode cX7_isForm 5 = .ok (.iconst 3, 1) := by decide +kernel
theorem dX7_isForm_6 : decode cX7_isForm 6 = .ok (.if_icmp .ge 7, 3) := by decide +kernel
theorem dX7_isForm_9 : decode cX7_isForm 9 = .ok (.iconst 1, 1) := by decide +kernel
theorem dX7_isForm_10 : decode cX7_isForm 10 = .ok (.goto 4, 3) := by decide +kernel
theorem dX7_isForm_13 : decode cX7_isForm 13 = .ok (.iconst 0, 1) := by decide +kernel
theorem dX7_isForm_14 : decode cX7_isForm 14 = .ok (.ireturn, 1) := by decide +kernel
theorem dX7_isFloor_0 : decode cX7_isFloor 0 = .ok (.iload_n 1, 1) := by decide +kernel
theorem dX7_isFloor_1 : decode cX7_isFloor 1 = .ok (.ifCond .lt 18, 3) := by decide +kernel
theorem dX7_isFloor_4 : decode cX7_isFloor 4 = .ok (.iload_n 1, 1) := by decide +kernel
theorem dX7_isFloor_5 : decode cX7_isFloor 5 = .ok (.aload_n 0, 1) := by decide +kernel
theorem dX7_isFloor_6 : decode cX7_isFloor 6 = .ok (.getfield 24, 3) := by decide +kernel
theorem dX7_isFloor_9 : decode cX7_isFloor 9 = .ok (.getfield 217, 3) := by decide +kernel
theorem dX7_isFloor_12 : decode cX7_isFloor 12 = .ok (.if_icmp .ge 7, 3) := by decide +kernel
theorem dX7_isFloor_15 : decode cX7_isFloor 15 = .ok (.iconst 1, 1) := by decide +kernel
theorem dX7_isFloor_16 : decode cX7_isFloor 16 = .ok (.goto 4, 3) := by decide +kernel
theorem dX7_isFloor_19 : decode cX7_isFloor 19 = .ok (.iconst 0, 1) := by decide +kernel
theorem dX7_isFloor_20 : decode cX7_isFloor 20 = .ok (.ireturn, 1) := by decide +kernel
theorem dX7_isBasket_0 : decode cX7_isBasket 0 = .ok (.iload_n 1, 1) := by decide +kernel
theorem dX7_isBasket_1 : decode cX7_isBasket 1 = .ok (.ifCond .lt 18, 3) := by decide +kernel
theorem dX7_isBasket_4 : decode cX7_isBasket 4 = .ok (.iload_n 1, 1) := by decide +kernel
theorem dX7_isBasket_5 : decode cX7_isBasket 5 = .ok (.aload_n 0, 1) := by decide +kernel
theorem dX7_isBasket_6 : decode cX7_isBasket 6 = .ok (.getfield 24, 3) := by decide +kernel
theorem dX7_isBasket_9 : decode cX7_isBasket 9 = .ok (.getfield 268, 3) := by decide +kernel
theorem dX7_isBasket_12 : decode cX7_isBasket 12 = .ok (.if_icmp .ge 7, 3) := by decide +kernel
theorem dX7_isBasket_15 : decode cX7_isBasket 15 = .ok (.iconst 1, 1) := by decide +kernel
theorem dX7_isBasket_16 : decode cX7_isBasket 16 = .ok (.goto 4, 3) := by decide +kernel
theorem dX7_isBasket_19 : decode cX7_isBasket 19 = .ok (.iconst 0, 1) := by decide +kernel
theorem dX7_isBasket_20 : decode cX7_isBasket 20 = .ok (.ireturn, 1) := by decide +kernel
theorem dX7_textOf_0 : decode cX7_textOf 0 = .ok (.iload_n 1, 1) := by decide +kernel
theorem dX7_textOf_1 : decode cX7_textOf 1 = .ok (.ifCond .ne 10, 3) := by decide +kernel
theorem dX7_textOf_4 : decode cX7_textOf 4 = .ok (.aload_n 0, 1) := by decide +kernel
theorem dX7_textOf_5 : decode cX7_textOf 5 = .ok (.getfield 14, 3) := by decide +kernel
theorem dX7_textOf_8 : decode cX7_textOf 8 = .ok (.goto 7, 3) := by decide +kernel
theorem dX7_textOf_11 : decode cX7_textOf 11 = .ok (.aload_n 0, 1) := by decide +kernel
theorem dX7_textOf_12 : decode cX7_textOf 12 = .ok (.getfield 18, 3) := by decide +kernel
theorem dX7_textOf_15 : decode cX7_textOf 15 = .ok (.areturn, 1) := by decide +kernel
theorem dX7_reread_0 : decode cX7_reread 0 = .ok (.iload_n 1, 1) := by decide +kernel
theorem dX7_reread_1 : decode cX7_reread 1 = .ok (.ifCond .ne 17, 3) := by decide +kernel
theorem dX7_reread_4 : decode cX7_reread 4 = .ok (.aload_n 0, 1) := by decide +kernel
theorem dX7_reread_5 : decode cX7_reread 5 = .ok (.getfield 24, 3) := by decide +kernel
theorem dX7_reread_8 : decode cX7_reread 8 = .ok (.aload_n 0, 1) := by decide +kernel
theorem dX7_reread_9 : decode cX7_reread 9 = .ok (.getfield 14, 3) := by decide +kernel
theorem dX7_reread_12 : decode cX7_reread 12 = .ok (.invokevirtual 358, 3) := by decide +kernel
theorem dX7_reread_15 : decode cX7_reread 15 = .ok (.goto 14, 3) := by decide +kernel
theorem dX7_reread_18 : decode cX7_reread 18 = .ok (.aload_n 0, 1) := by decide +kernel
theorem dX7_reread_19 : decode cX7_reread 19 = .ok (.getfield 24, 3) := by decide +kernel
theorem dX7_reread_22 : decode cX7_reread 22 = .ok (.aload_n 0, 1) := by decide +kernel
theorem dX7_reread_23 : decode cX7_reread 23 = .ok (.getfield 18, 3) := by decide +kernel
theorem dX7_reread_26 : decode cX7_reread 26 = .ok (.invokevirtual 362, 3) := by decide +kernel
theorem dX7_reread_29 : decode cX7_reread 29 = .ok (.aload_n 0, 1) := by decide +kernel
theorem dX7_reread_30 : decode cX7_reread 30 = .ok (.iload_n 1, 1) := by decide +kernel
theorem dX7_reread_31 : decode cX7_reread 31 = .ok (.invokevirtual 93, 3) := by decide +kernel
theorem dX7_reread_34 : decode cX7_reread 34 = .ok (.getfield 104, 3) := by decide +kernel
theorem dX7_reread_37 : decode cX7_reread 37 = .ok (.ireturn, 1) := by decide +kernel
theorem dX7_oneMore_0 : decode cX7_oneMore 0 = .ok (.iload_n 1, 1) := by decide +kernel
theorem dX7_oneMore_1 : decode cX7_oneMore 1 = .ok (.invokestatic 166, 3) := by decide +kernel
theorem dX7_oneMore_4 : decode cX7_oneMore 4 = .ok (.ifCond .ne 6, 3) := by decide +kernel
theorem dX7_oneMore_7 : decode cX7_oneMore 7 = .ok (.bipush (-2), 2) := by decide +kernel
theorem dX7_oneMore_9 : decode cX7_oneMore 9 = .ok (.ireturn, 1) := by decide +kernel
theorem dX7_oneMore_10 : decode cX7_oneMore 10 = .ok (.aload_n 0, 1) := by decide +kernel
theorem dX7_oneMore_11 : decode cX7_oneMore 11 = .ok (.iload_n 1, 1) := by decide +kernel
theorem dX7_oneMore_12 : decode cX7_oneMore 12 = .ok (.invokevirtual 365, 3) := by decide +kernel
theorem dX7_oneMore_15 : decode cX7_oneMore 15 = .ok (.ifCond .eq 10, 3) := by decide +kernel
theorem dX7_oneMore_18 : decode cX7_oneMore 18 = .ok (.aload_n 0, 1) := by decide +kernel
theorem dX7_oneMore_19 : decode cX7_oneMore 19 = .ok (.getfield 151, 3) := by decide +kernel
theorem dX7_oneMore_22 : decode cX7_oneMore 22 = .ok (.goto 5, 3) := by decide +kernel
theorem dX7_oneMore_25 : decode cX7_oneMore 25 = .ok (.bipush (-4), 2) := by decide +kernel
theorem dX7_oneMore_27 : decode cX7_oneMore 27 = .ok (.ireturn, 1) := by decide +kernel
theorem dX7_found_0 : decode cX7_found 0 = .ok (.aload_n 0, 1) := by decide +kernel
theorem dX7_found_1 : decode cX7_found 1 = .ok (.iload_n 1, 1) := by decide +kernel
theorem dX7_found_2 : decode cX7_found 2 = .ok (.putfield 86, 3) := by decide +kernel
theorem dX7_found_5 : decode cX7_found 5 = .ok (.bipush (-10), 2) := by decide +kernel
theorem dX7_found_7 : decode cX7_found 7 = .ok (.iload_n 1, 1) := by decide +kernel
theorem dX7_found_8 : decode cX7_found 8 = .ok (.isub, 1) := by decide +kernel
theorem dX7_found_9 : decode cX7_found 9 = .ok (.ireturn, 1) := by decide +kernel
theorem dX7_goAsTold_0 : decode cX7_goAsTold 0 = .ok (.aload_n 0, 1) := by decide +kernel
theorem dX7_goAsTold_1 : decode cX7_goAsTold 1 = .ok (.getfield 33, 3) := by decide +kernel
theorem dX7_goAsTold_4 : decode cX7_goAsTold 4 = .ok (.aload_n 0, 1) := by decide +kernel
theorem dX7_goAsTold_5 : decode cX7_goAsTold 5 = .ok (.getfield 40, 3) := by decide +kernel
theorem dX7_goAsTold_8 : decode cX7_goAsTold 8 = .ok (.invokevirtual 169, 3) := by decide +kernel
theorem dX7_goAsTold_11 : decode cX7_goAsTold 11 = .ok (.aload_n 0, 1) := by decide +kernel
theorem dX7_goAsTold_12 : decode cX7_goAsTold 12 = .ok (.getfield 44, 3) := by decide +kernel
theorem dX7_goAsTold_15 : decode cX7_goAsTold 15 = .ok (.invokevirtual 169, 3) := by decide +kernel
theorem dX7_goAsTold_18 : decode cX7_goAsTold 18 = .ok (.bipush 40, 2) := by decide +kernel
theorem dX7_goAsTold_20 : decode cX7_goAsTold 20 = .ok (.invokevirtual 173, 3) := by decide +kernel
theorem dX7_goAsTold_23 : decode cX7_goAsTold 23 = .ok (.return_, 1) := by decide +kernel
theorem dX7_findHour_0 : decode cX7_findHour 0 = .ok (.aload_n 0, 1) := by decide +kernel
theorem dX7_findHour_1 : decode cX7_findHour 1 = .ok (.getfield 24, 3) := by decide +kernel
theorem dX7_findHour_4 : decode cX7_findHour 4 = .ok (.getfield 128, 3) := by decide +kernel
theorem dX7_findHour_7 : decode cX7_findHour 7 = .ok (.iload_n 1, 1) := by decide +kernel
theorem dX7_findHour_8 : decode cX7_findHour 8 = .ok (.iaload, 1) := by decide +kernel
theorem dX7_findHour_9 : decode cX7_findHour 9 = .ok (.istore_n 2, 1) := by decide +kernel
theorem dX7_findHour_10 : decode cX7_findHour 10 = .ok (.aload_n 0, 1) := by decide +kernel
theorem dX7_findHour_11 : decode cX7_findHour 11 = .ok (.getfield 64, 3) := by decide +kernel
theorem dX7_findHour_14 : decode cX7_findHour 14 = .ok (.invokevirtual 214, 3) := by decide +kernel
theorem dX7_findHour_17 : decode cX7_findHour 17 = .ok (.iconst 0, 1) := by decide +kernel
theorem dX7_findHour_18 : decode cX7_findHour 18 = .ok (.istore_n 3, 1) := by decide +kernel
theorem dX7_findHour_19 : decode cX7_findHour 19 = .ok (.iload_n 3, 1) := by decide +kernel
theorem dX7_findHour_20 : decode cX7_findHour 20 = .ok (.bipush 30, 2) := by decide +kernel
theorem dX7_findHour_22 : decode cX7_findHour 22 = .ok (.if_icmp .ge 38, 3) := by decide +kernel
theorem dX7_findHour_25 : decode cX7_findHour 25 = .ok (.aload_n 0, 1) := by decide +kernel
theorem dX7_findHour_26 : decode cX7_findHour 26 = .ok (.getfield 24, 3) := by decide +kernel
theorem dX7_findHour_29 : decode cX7_findHour 29 = .ok (.getfield 128, 3) := by decide +kernel
theorem dX7_findHour_32 : decode cX7_findHour 32 = .ok (.iload_n 1, 1) := by decide +kernel
theorem dX7_findHour_33 : decode cX7_findHour 33 = .ok (.iload_n 3, 1) := by decide +kernel
theorem dX7_findHour_34 : decode cX7_findHour 34 = .ok (.iastore, 1) := by decide +kernel
theorem dX7_findHour_35 : decode cX7_findHour 35 = .ok (.aload_n 0, 1) := by decide +kernel
theorem dX7_findHour_36 : decode cX7_findHour 36 = .ok (.invokevirtual 186, 3) := by decide +kernel
theorem dX7_findHour_39 : decode cX7_findHour 39 = .ok (.aload_n 0, 1) := by decide +kernel
theorem dX7_findHour_40 : decode cX7_findHour 40 = .ok (.getfield 64, 3) := by decide +kernel
theorem dX7_findHour_43 : decode cX7_findHour 43 = .ok (.iload_n 3, 1) := by decide +kernel
theorem dX7_findHour_44 : decode cX7_findHour 44 = .ok (.aload_n 0, 1) := by decide +kernel
theorem dX7_findHour_45 : decode cX7_findHour 45 = .ok (.getfield 33, 3) := by decide +kernel
theorem dX7_findHour_48 : decode cX7_findHour 48 = .ok (.invokevirtual 205, 3) := by decide +kernel
theorem dX7_findHour_51 : decode cX7_findHour 51 = .ok (.invokevirtual 220, 3) := by decide +kernel
theorem dX7_findHour_54 : decode cX7_findHour 54 = .ok (.iinc 3 1, 3) := by decide +kernel
theorem dX7_findHour_57 : decode cX7_findHour 57 = .ok (.goto (-38), 3) := by decide +kernel
theorem dX7_findHour_60 : decode cX7_findHour 60 = .ok (.aload_n 0, 1) := by decide +kernel
theorem dX7_findHour_61 : decode cX7_findHour 61 = .ok (.getfield 24, 3) := by decide +kernel
theorem dX7_findHour_64 : decode cX7_findHour 64 = .ok (.getfield 128, 3) := by decide +kernel
theorem dX7_findHour_67 : decode cX7_findHour 67 = .ok (.iload_n 1, 1) := by decide +kernel
theorem dX7_findHour_68 : decode cX7_findHour 68 = .ok (.iload_n 2, 1) := by decide +kernel
theorem dX7_findHour_69 : decode cX7_findHour 69 = .ok (.iastore, 1) := by decide +kernel
theorem dX7_findHour_70 : decode cX7_findHour 70 = .ok (.return_, 1) := by decide +kernel
theorem dX7_findStill_0 : decode cX7_findStill 0 = .ok (.aload_n 0, 1) := by decide +kernel
theorem dX7_findStill_1 : decode cX7_findStill 1 = .ok (.getfield 64, 3) := by decide +kernel
theorem dX7_findStill_4 : decode cX7_findStill 4 = .ok (.invokevirtual 214, 3) := by decide +kernel
theorem dX7_findStill_7 : decode cX7_findStill 7 = .ok (.iconst 0, 1) := by decide +kernel
theorem dX7_findStill_8 : decode cX7_findStill 8 = .ok (.istore_n 1, 1) := by decide +kernel
theorem dX7_findStill_9 : decode cX7_findStill 9 = .ok (.iload_n 1, 1) := by decide +kernel
theorem dX7_findStill_10 : decode cX7_findStill 10 = .ok (.aload_n 0, 1) := by decide +kernel
theorem dX7_findStill_11 : decode cX7_findStill 11 = .ok (.getfield 40, 3) := by decide +kernel
theorem dX7_findStill_14 : decode cX7_findStill 14 = .ok (.getfield 151, 3) := by decide +kernel
theorem dX7_findStill_17 : decode cX7_findStill 17 = .ok (.if_icmp .ge 48, 3) := by decide +kernel
theorem dX7_findStill_20 : decode cX7_findStill 20 = .ok (.aload_n 0, 1) := by decide +kernel
theorem dX7_findStill_21 : decode cX7_findStill 21 = .ok (.getfield 33, 3) := by decide +kernel
theorem dX7_findStill_24 : decode cX7_findStill 24 = .ok (.aload_n 0, 1) := by decide +kernel
theorem dX7_findStill_25 : decode cX7_findStill 25 = .ok (.getfield 40, 3) := by decide +kernel
theorem dX7_findStill_28 : decode cX7_findStill 28 = .ok (.iload_n 1, 1) := by decide +kernel
theorem dX7_findStill_29 : decode cX7_findStill 29 = .ok (.invokevirtual 254, 3) := by decide +kernel
theorem dX7_findStill_32 : decode cX7_findStill 32 = .ok (.aload_n 0, 1) := by decide +kernel
theorem dX7_findStill_33 : decode cX7_findStill 33 = .ok (.getfield 44, 3) := by decide +kernel
theorem dX7_findStill_36 : decode cX7_findStill 36 = .ok (.invokevirtual 169, 3) := by decide +kernel
theorem dX7_findStill_39 : decode cX7_findStill 39 = .ok (.bipush 40, 2) := by decide +kernel
theorem dX7_findStill_41 : decode cX7_findStill 41 = .ok (.invokevirtual 173, 3) := by decide +kernel
theorem dX7_findStill_44 : decode cX7_findStill 44 = .ok (.aload_n 0, 1) := by decide +kernel
theorem dX7_findStill_45 : decode cX7_findStill 45 = .ok (.getfield 64, 3) := by decide +kernel
theorem dX7_findStill_48 : decode cX7_findStill 48 = .ok (.iload_n 1, 1) := by decide +kernel
theorem dX7_findStill_49 : decode cX7_findStill 49 = .ok (.aload_n 0, 1) := by decide +kernel
theorem dX7_findStill_50 : decode cX7_findStill 50 = .ok (.getfield 33, 3) := by decide +kernel
theorem dX7_findStill_53 : decode cX7_findStill 53 = .ok (.invokevirtual 205, 3) := by decide +kernel
theorem dX7_findStill_56 : decode cX7_findStill 56 = .ok (.invokevirtual 220, 3) := by decide +kernel
theorem dX7_findStill_59 : decode cX7_findStill 59 = .ok (.iinc 1 1, 3) := by decide +kernel
theorem dX7_findStill_62 : decode cX7_findStill 62 = .ok (.goto (-53), 3) := by decide +kernel
theorem dX7_findStill_65 : decode cX7_findStill 65 = .ok (.return_, 1) := by decide +kernel
theorem dX7_findFed_0 : decode cX7_findFed 0 = .ok (.aload_n 0, 1) := by decide +kernel
theorem dX7_findFed_1 : decode cX7_findFed 1 = .ok (.aload_n 0, 1) := by decide +kernel
theorem dX7_findFed_2 : decode cX7_findFed 2 = .ok (.iload_n 1, 1) := by decide +kernel
theorem dX7_findFed_3 : decode cX7_findFed 3 = .ok (.iconst (-1), 1) := by decide +kernel
theorem dX7_findFed_4 : decode cX7_findFed 4 = .ok (.iconst (-1), 1) := by decide +kernel
theorem dX7_findFed_5 : decode cX7_findFed 5 = .ok (.invokevirtual 367, 3) := by decide +kernel
theorem dX7_findFed_8 : decode cX7_findFed 8 = .ok (.ifCond .eq 7, 3) := by decide +kernel
theorem dX7_findFed_11 : decode cX7_findFed 11 = .ok (.iconst 0, 1) := by decide +kernel
theorem dX7_findFed_12 : decode cX7_findFed 12 = .ok (.goto 4, 3) := by decide +kernel
theorem dX7_findFed_15 : decode cX7_findFed 15 = .ok (.iconst (-1), 1) := by decide +kernel
theorem dX7_findFed_16 : decode cX7_findFed 16 = .ok (.putfield 72, 3) := by decide +kernel
theorem dX7_findFed_19 : decode cX7_findFed 19 = .ok (.iconst 0, 1) := by decide +kernel
theorem dX7_findFed_20 : decode cX7_findFed 20 = .ok (.istore_n 2, 1) := by decide +kernel
theorem dX7_findFed_21 : decode cX7_findFed 21 = .ok (.iload_n 2, 1) := by decide +kernel
theorem dX7_findFed_22 : decode cX7_findFed 22 = .ok (.aload_n 0, 1) := by decide +kernel
theorem dX7_findFed_23 : decode cX7_findFed 23 = .ok (.getfield 24, 3) := by decide +kernel
theorem dX7_findFed_26 : decode cX7_findFed 26 = .ok (.getfield 217, 3) := by decide +kernel
theorem dX7_findFed_29 : decode cX7_findFed 29 = .ok (.if_icmp .ge 34, 3) := by decide +kernel
theorem dX7_findFed_32 : decode cX7_findFed 32 = .ok (.aload_n 0, 1) := by decide +kernel
theorem dX7_findFed_33 : decode cX7_findFed 33 = .ok (.getfield 72, 3) := by decide +kernel
theorem dX7_findFed_36 : decode cX7_findFed 36 = .ok (.iconst (-1), 1) := by decide +kernel
theorem dX7_findFed_37 : decode cX7_findFed 37 = .ok (.if_icmp .ne 26, 3) := by decide +kernel
theorem dX7_findFed_40 : decode cX7_findFed 40 = .ok (.aload_n 0, 1) := by decide +kernel
theorem dX7_findFed_41 : decode cX7_findFed 41 = .ok (.iload_n 1, 1) := by decide +kernel
theorem dX7_findFed_42 : decode cX7_findFed 42 = .ok (.iload_n 2, 1) := by decide +kernel
theorem dX7_findFed_43 : decode cX7_findFed 43 = .ok (.iconst (-1), 1) := by decide +kernel
theorem dX7_findFed_44 : decode cX7_findFed 44 = .ok (.invokevirtual 367, 3) := by decide +kernel
theorem dX7_findFed_47 : decode cX7_findFed 47 = .ok (.ifCond .eq 10, 3) := by decide +kernel
theorem dX7_findFed_50 : decode cX7_findFed 50 = .ok (.aload_n 0, 1) := by decide +kernel
theorem dX7_findFed_51 : decode cX7_findFed 51 = .ok (.iconst 1, 1) := by decide +kernel
theorem dX7_findFed_52 : decode cX7_findFed 52 = .ok (.iload_n 2, 1) := by decide +kernel
theorem dX7_findFed_53 : decode cX7_findFed 53 = .ok (.iconst (-1), 1) := by decide +kernel
theorem dX7_findFed_54 : decode cX7_findFed 54 = .ok (.invokevirtual 370, 3) := by decide +kernel
theorem dX7_findFed_57 : decode cX7_findFed 57 = .ok (.iinc 2 1, 3) := by decide +kernel
theorem dX7_findFed_60 : decode cX7_findFed 60 = .ok (.goto (-39), 3) := by decide +kernel
theorem dX7_findFed_63 : decode cX7_findFed 63 = .ok (.iconst 0, 1) := by decide +kernel
theorem dX7_findFed_64 : decode cX7_findFed 64 = .ok (.istore_n 2, 1) := by decide +kernel
theorem dX7_findFed_65 : decode cX7_findFed 65 = .ok (.iload_n 2, 1) := by decide +kernel
theorem dX7_findFed_66 : decode cX7_findFed 66 = .ok (.aload_n 0, 1) := by decide +kernel
theorem dX7_findFed_67 : decode cX7_findFed 67 = .ok (.getfield 24, 3) := by decide +kernel
theorem dX7_findFed_70 : decode cX7_findFed 70 = .ok (.getfield 217, 3) := by decide +kernel
theorem dX7_findFed_73 : decode cX7_findFed 73 = .ok (.if_icmp .ge 63, 3) := by decide +kernel
theorem dX7_findFed_76 : decode cX7_findFed 76 = .ok (.aload_n 0, 1) := by decide +kernel
theorem dX7_findFed_77 : decode cX7_findFed 77 = .ok (.getfield 72, 3) := by decide +kernel
theorem dX7_findFed_80 : decode cX7_findFed 80 = .ok (.iconst (-1), 1) := by decide +kernel
theorem dX7_findFed_81 : decode cX7_findFed 81 = .ok (.if_icmp .ne 55, 3) := by decide +kernel
theorem dX7_findFed_84 : decode cX7_findFed 84 = .ok (.iload_n 2, 1) := by decide +kernel
theorem dX7_findFed_85 : decode cX7_findFed 85 = .ok (.iconst 1, 1) := by decide +kernel
theorem dX7_findFed_86 : decode cX7_findFed 86 = .ok (.iadd, 1) := by decide +kernel
theorem dX7_findFed_87 : decode cX7_findFed 87 = .ok (.istore_n 3, 1) := by decide +kernel
theorem dX7_findFed_88 : decode cX7_findFed 88 = .ok (.iload_n 3, 1) := by decide +kernel
theorem dX7_findFed_89 : decode cX7_findFed 89 = .ok (.aload_n 0, 1) := by decide +kernel
theorem dX7_findFed_90 : decode cX7_findFed 90 = .ok (.getfield 24, 3) := by decide +kernel
theorem dX7_findFed_93 : decode cX7_findFed 93 = .ok (.getfield 217, 3) := by decide +kernel
theorem dX7_findFed_96 : decode cX7_findFed 96 = .ok (.if_icmp .ge 34, 3) := by decide +kernel
theorem dX7_findFed_99 : decode cX7_findFed 99 = .ok (.aload_n 0, 1) := by decide +kernel
theorem dX7_findFed_100 : decode cX7_findFed 100 = .ok (.getfield 72, 3) := by decide +kernel
theorem dX7_findFed_103 : decode cX7_findFed 103 = .ok (.iconst (-1), 1) := by decide +kernel
theorem dX7_findFed_104 : decode cX7_findFed 104 = .ok (.if_icmp .ne 26, 3) := by decide +kernel
theorem dX7_findFed_107 : decode cX7_findFed 107 = .ok (.aload_n 0, 1) := by decide +kernel
theorem dX7_findFed_108 : decode cX7_findFed 108 = .ok (.iload_n 1, 1) := by decide +kernel
theorem dX7_findFed_109 : decode cX7_findFed 109 = .ok (.iload_n 2, 1) := by decide +kernel
theorem dX7_findFed_110 : decode cX7_findFed 110 = .ok (.iload_n 3, 1) := by decide +kernel
theorem dX7_findFed_111 : decode cX7_findFed 111 = .ok (.invokevirtual 367, 3) := by decide +kernel
theorem dX7_findFed_114 : decode cX7_findFed 114 = .ok (.ifCond .eq 10, 3) := by decide +kernel
theorem dX7_findFed_117 : decode cX7_findFed 117 = .ok (.aload_n 0, 1) := by decide +kernel
theorem dX7_findFed_118 : decode cX7_findFed 118 = .ok (.iconst 2, 1) := by decide +kernel
theorem dX7_findFed_119 : decode cX7_findFed 119 = .ok (.iload_n 2, 1) := by decide +kernel
theorem dX7_findFed_120 : decode cX7_findFed 120 = .ok (.iload_n 3, 1) := by decide +kernel
theorem dX7_findFed_121 : decode cX7_findFed 121 = .ok (.invokevirtual 370, 3) := by decide +kernel
theorem dX7_findFed_124 : decode cX7_findFed 124 = .ok (.iinc 3 1, 3) := by decide +kernel
theorem dX7_findFed_127 : decode cX7_findFed 127 = .ok (.goto (-39), 3) := by decide +kernel
theorem dX7_findFed_130 : decode cX7_findFed 130 = .ok (.iinc 2 1, 3) := by decide +kernel
theorem dX7_findFed_133 : decode cX7_findFed 133 = .ok (.goto (-68), 3) := by decide +kernel
theorem dX7_findFed_136 : decode cX7_findFed 136 = .ok (.return_, 1) := by decide +kernel
theorem dX7_keepFed_0 : decode cX7_keepFed 0 = .ok (.aload_n 0, 1) := by decide +kernel
theorem dX7_keepFed_1 : decode cX7_keepFed 1 = .ok (.iload_n 1, 1) := by decide +kernel
theorem dX7_keepFed_2 : decode cX7_keepFed 2 = .ok (.putfield 72, 3) := by decide +kernel
theorem dX7_keepFed_5 : decode cX7_keepFed 5 = .ok (.aload_n 0, 1) := by decide +kernel
theorem dX7_keepFed_6 : decode cX7_keepFed 6 = .ok (.getfield 68, 3) := by decide +kernel
theorem dX7_keepFed_9 : decode cX7_keepFed 9 = .ok (.iconst 0, 1) := by decide +kernel
theorem dX7_keepFed_10 : decode cX7_keepFed 10 = .ok (.iload_n 2, 1) := by decide +kernel
theorem dX7_keepFed_11 : decode cX7_keepFed 11 = .ok (.iastore, 1) := by decide +kernel
theorem dX7_keepFed_12 : decode cX7_keepFed 12 = .ok (.aload_n 0, 1) := by decide +kernel
theorem dX7_keepFed_13 : decode cX7_keepFed 13 = .ok (.getfield 68, 3) := by decide +kernel
theorem dX7_keepFed_16 : decode cX7_keepFed 16 = .ok (.iconst 1, 1) := by decide +kernel
theorem dX7_keepFed_17 : decode cX7_keepFed 17 = .ok (.iload_n 3, 1) := by decide +kernel
theorem dX7_keepFed_18 : decode cX7_keepFed 18 = .ok (.iastore, 1) := by decide +kernel
theorem dX7_keepFed_19 : decode cX7_keepFed 19 = .ok (.return_, 1) := by decide +kernel
theorem dX7_fedAt_0 : decode cX7_fedAt 0 = .ok (.iload_n 1, 1) := by decide +kernel
theorem dX7_fedAt_1 : decode cX7_fedAt 1 = .ok (.ifCond .lt 25, 3) := by decide +kernel
theorem dX7_fedAt_4 : decode cX7_fedAt 4 = .ok (.iload_n 1, 1) := by decide +kernel
theorem dX7_fedAt_5 : decode cX7_fedAt 5 = .ok (.aload_n 0, 1) := by decide +kernel
theorem dX7_fedAt_6 : decode cX7_fedAt 6 = .ok (.getfield 72, 3) := by decide +kernel
theorem dX7_fedAt_9 : decode cX7_fedAt 9 = .ok (.if_icmp .ge 17, 3) := by decide +kernel
theorem dX7_fedAt_12 : decode cX7_fedAt 12 = .ok (.iload_n 1, 1) := by decide +kernel
theorem dX7_fedAt_13 : decode cX7_fedAt 13 = .ok (.iconst 2, 1) := by decide +kernel
theorem dX7_fedAt_14 : decode cX7_fedAt 14 = .ok (.if_icmp .ge 12, 3) := by decide +kernel
theorem dX7_fedAt_17 : decode cX7_fedAt 17 = .ok (.aload_n 0, 1) := by decide +kernel
theorem dX7_fedAt_18 : decode cX7_fedAt 18 = .ok (.getfield 68, 3) := by decide +kernel
theorem dX7_fedAt_21 : decode cX7_fedAt 21 = .ok (.iload_n 1, 1) := by decide +kernel
theorem dX7_fedAt_22 : decode cX7_fedAt 22 = .ok (.iaload, 1) := by decide +kernel
theorem dX7_fedAt_23 : decode cX7_fedAt 23 = .ok (.goto 4, 3) := by decide +kernel
theorem dX7_fedAt_26 : decode cX7_fedAt 26 = .ok (.iconst (-1), 1) := by decide +kernel
theorem dX7_fedAt_27 : decode cX7_fedAt 27 = .ok (.ireturn, 1) := by decide +kernel
theorem dX7_staysWhole_0 : decode cX7_staysWhole 0 = .ok (.aload_n 0, 1) := by decide +kernel
theorem dX7_staysWhole_1 : decode cX7_staysWhole 1 = .ok (.getfield 24, 3) := by decide +kernel
theorem dX7_staysWhole_4 : decode cX7_staysWhole 4 = .ok (.iload_n 2, 1) := by decide +kernel
theorem dX7_staysWhole_5 : decode cX7_staysWhole 5 = .ok (.iconst 0, 1) := by decide +kernel
theorem dX7_staysWhole_6 : decode cX7_staysWhole 6 = .ok (.invokevirtual 373, 3) := by decide +kernel
theorem dX7_staysWhole_9 : decode cX7_staysWhole 9 = .ok (.istore 4, 2) := by decide +kernel
theorem dX7_staysWhole_11 : decode cX7_staysWhole 11 = .ok (.aload_n 0, 1) := by decide +kernel
theorem dX7_staysWhole_12 : decode cX7_staysWhole 12 = .ok (.getfield 24, 3) := by decide +kernel
theorem dX7_staysWhole_15 : decode cX7_staysWhole 15 = .ok (.iload_n 3, 1) := by decide +kernel
theorem dX7_staysWhole_16 : decode cX7_staysWhole 16 = .ok (.iconst 0, 1) := by decide +kernel
theorem dX7_staysWhole_17 : decode cX7_staysWhole 17 = .ok (.invokevirtual 373, 3) := by decide +kernel
theorem dX7_staysWhole_20 : decode cX7_staysWhole 20 = .ok (.istore 5, 2) := by decide +kernel
theorem dX7_staysWhole_22 : decode cX7_staysWhole 22 = .ok (.aload_n 0, 1) := by decide +kernel
theorem dX7_staysWhole_23 : decode cX7_staysWhole 23 = .ok (.getfield 33, 3) := by decide +kernel
theorem dX7_staysWhole_26 : decode cX7_staysWhole 26 = .ok (.aload_n 0, 1) := by decide +kernel
theorem dX7_staysWhole_27 : decode cX7_staysWhole 27 = .ok (.getfield 40, 3) := by decide +kernel
theorem dX7_staysWhole_30 : decode cX7_staysWhole 30 = .ok (.invokevirtual 169, 3) := by decide +kernel
theorem dX7_staysWhole_33 : decode cX7_staysWhole 33 = .ok (.aload_n 0, 1) := by decide +kernel
theorem dX7_staysWhole_34 : decode cX7_staysWhole 34 = .ok (.getfield 44, 3) := by decide +kernel
theorem dX7_staysWhole_37 : decode cX7_staysWhole 37 = .ok (.invokevirtual 169, 3) := by decide +kernel
theorem dX7_staysWhole_40 : decode cX7_staysWhole 40 = .ok (.bipush 40, 2) := by decide +kernel
theorem dX7_staysWhole_42 : decode cX7_staysWhole 42 = .ok (.invokevirtual 173, 3) := by decide +kernel
theorem dX7_staysWhole_45 : decode cX7_staysWhole 45 = .ok (.aload_n 0, 1) := by decide +kernel
theorem dX7_staysWhole_46 : decode cX7_staysWhole 46 = .ok (.getfield 24, 3) := by decide +kernel
theorem dX7_staysWhole_49 : decode cX7_staysWhole 49 = .ok (.iload_n 3, 1) := by decide +kernel
theorem dX7_staysWhole_50 : decode cX7_staysWhole 50 = .ok (.iload 5, 2) := by decide +kernel
theorem dX7_staysWhole_52 : decode cX7_staysWhole 52 = .ok (.invokevirtual 373, 3) := by decide +kernel
theorem dX7_staysWhole_55 : decode cX7_staysWhole 55 = .ok (.pop, 1) := by decide +kernel
theorem dX7_staysWhole_56 : decode cX7_staysWhole 56 = .ok (.aload_n 0, 1) := by decide +kernel
theorem dX7_staysWhole_57 : decode cX7_staysWhole 57 = .ok (.getfield 24, 3) := by decide +kernel
theorem dX7_staysWhole_60 : decode cX7_staysWhole 60 = .ok (.iload_n 2, 1) := by decide +kernel
theorem dX7_staysWhole_61 : decode cX7_staysWhole 61 = .ok (.iload 4, 2) := by decide +kernel
theorem dX7_staysWhole_63 : decode cX7_staysWhole 63 = .ok (.invokevirtual 373, 3) := by decide +kernel
theorem dX7_staysWhole_66 : decode cX7_staysWhole 66 = .ok (.pop, 1) := by decide +kernel
theorem dX7_staysWhole_67 : decode cX7_staysWhole 67 = .ok (.aload_n 0, 1) := by decide +kernel
theorem dX7_staysWhole_68 : decode cX7_staysWhole 68 = .ok (.getfield 33, 3) := by decide +kernel
theorem dX7_staysWhole_71 : decode cX7_staysWhole 71 = .ok (.getfield 192, 3) := by decide +kernel
theorem dX7_staysWhole_74 : decode cX7_staysWhole 74 = .ok (.iload_n 1, 1) := by decide +kernel
theorem dX7_staysWhole_75 : decode cX7_staysWhole 75 = .ok (.iaload, 1) := by decide +kernel
theorem dX7_staysWhole_76 : decode cX7_staysWhole 76 = .ok (.iconst (-1), 1) := by decide +kernel
theorem dX7_staysWhole_77 : decode cX7_staysWhole 77 = .ok (.if_icmp .eq 18, 3) := by decide +kernel
theorem dX7_staysWhole_80 : decode cX7_staysWhole 80 = .ok (.aload_n 0, 1) := by decide +kernel
theorem dX7_staysWhole_81 : decode cX7_staysWhole 81 = .ok (.getfield 33, 3) := by decide +kernel
theorem dX7_staysWhole_84 : decode cX7_staysWhole 84 = .ok (.iload_n 1, 1) := by decide +kernel
theorem dX7_staysWhole_85 : decode cX7_staysWhole 85 = .ok (.invokevirtual 376, 3) := by decide +kernel
theorem dX7_staysWhole_88 : decode cX7_staysWhole 88 = .ok (.ifCond .eq 7, 3) := by decide +kernel
theorem dX7_staysWhole_91 : decode cX7_staysWhole 91 = .ok (.iconst 1, 1) := by decide +kernel
theorem dX7_staysWhole_92 : decode cX7_staysWhole 92 = .ok (.goto 4, 3) := by decide +kernel
theorem dX7_staysWhole_95 : decode cX7_staysWhole 95 = .ok (.iconst 0, 1) := by decide +kernel
theorem dX7_staysWhole_96 : decode cX7_staysWhole 96 = .ok (.ireturn, 1) := by decide +kernel
theorem dX7_fittingBites_0 : decode cX7_fittingBites 0 = .ok (.aload_n 0, 1) := by decide +kernel
theorem dX7_fittingBites_1 : decode cX7_fittingBites 1 = .ok (.getfield 24, 3) := by decide +kernel
theorem dX7_fittingBites_4 : decode cX7_fittingBites 4 = .ok (.getfield 119, 3) := by decide +kernel
theorem dX7_fittingBites_7 : decode cX7_fittingBites 7 = .ok (.iload_n 1, 1) := by decide +kernel
theorem dX7_fittingBites_8 : decode cX7_fittingBites 8 = .ok (.iaload, 1) := by decide +kernel
theorem dX7_fittingBites_9 : decode cX7_fittingBites 9 = .ok (.istore_n 2, 1) := by decide +kernel
theorem dX7_fittingBites_10 : decode cX7_fittingBites 10 = .ok (.iconst 0, 1) := by decide +kernel
theorem dX7_fittingBites_11 : decode cX7_fittingBites 11 = .ok (.istore_n 3, 1) := by decide +kernel
theorem dX7_fittingBites_12 : decode cX7_fittingBites 12 = .ok (.iconst 0, 1) := by decide +kernel
theorem dX7_fittingBites_13 : decode cX7_fittingBites 13 = .ok (.istore 4, 2) := by decide +kernel
theorem dX7_fittingBites_15 : decode cX7_fittingBites 15 = .ok (.iload 4, 2) := by decide +kernel
theorem dX7_fittingBites_17 : decode cX7_fittingBites 17 = .ok (.bipush 10, 2) := by decide +kernel
theorem dX7_fittingBites_19 : decode cX7_fittingBites 19 = .ok (.if_icmp .ge 86, 3) := by decide +kernel
theorem dX7_fittingBites_22 : decode cX7_fittingBites 22 = .ok (.aload_n 0, 1) := by decide +kernel
theorem dX7_fittingBites_23 : decode cX7_fittingBites 23 = .ok (.getfield 24, 3) := by decide +kernel
theorem dX7_fittingBites_26 : decode cX7_fittingBites 26 = .ok (.getfield 119, 3) := by decide +kernel
theorem dX7_fittingBites_29 : decode cX7_fittingBites 29 = .ok (.iload_n 1, 1) := by decide +kernel
theorem dX7_fittingBites_30 : decode cX7_fittingBites 30 = .ok (.iload 4, 2) := by decide +kernel
theorem dX7_fittingBites_32 : decode cX7_fittingBites 32 = .ok (.iastore, 1) := by decide +kernel
theorem dX7_fittingBites_33 : decode cX7_fittingBites 33 = .ok (.aload_n 0, 1) := by decide +kernel
theorem dX7_fittingBites_34 : decode cX7_fittingBites 34 = .ok (.getfield 33, 3) := by decide +kernel
theorem dX7_fittingBites_37 : decode cX7_fittingBites 37 = .ok (.aload_n 0, 1) := by decide +kernel
theorem dX7_fittingBites_38 : decode cX7_fittingBites 38 = .ok (.getfield 40, 3) := by decide +kernel
theorem dX7_fittingBites_41 : decode cX7_fittingBites 41 = .ok (.invokevirtual 169, 3) := by decide +kernel
theorem dX7_fittingBites_44 : decode cX7_fittingBites 44 = .ok (.aload_n 0, 1) := by decide +kernel
theorem dX7_fittingBites_45 : decode cX7_fittingBites 45 = .ok (.getfield 44, 3) := by decide +kernel
theorem dX7_fittingBites_48 : decode cX7_fittingBites 48 = .ok (.invokevirtual 169, 3) := by decide +kernel
theorem dX7_fittingBites_51 : decode cX7_fittingBites 51 = .ok (.bipush 40, 2) := by decide +kernel
theorem dX7_fittingBites_53 : decode cX7_fittingBites 53 = .ok (.invokevirtual 173, 3) := by decide +kernel
theorem dX7_fittingBites_56 : decode cX7_fittingBites 56 = .ok (.aload_n 0, 1) := by decide +kernel
theorem dX7_fittingBites_57 : decode cX7_fittingBites 57 = .ok (.getfield 50, 3) := by decide +kernel
theorem dX7_fittingBites_60 : decode cX7_fittingBites 60 = .ok (.aload_n 0, 1) := by decide +kernel
theorem dX7_fittingBites_61 : decode cX7_fittingBites 61 = .ok (.getfield 33, 3) := by decide +kernel
theorem dX7_fittingBites_64 : decode cX7_fittingBites 64 = .ok (.invokevirtual 258, 3) := by decide +kernel
theorem dX7_fittingBites_67 : decode cX7_fittingBites 67 = .ok (.ifCond .eq 10, 3) := by decide +kernel
theorem dX7_fittingBites_70 : decode cX7_fittingBites 70 = .ok (.iload_n 3, 1) := by decide +kernel
theorem dX7_fittingBites_71 : decode cX7_fittingBites 71 = .ok (.iconst 1, 1) := by decide +kernel
theorem dX7_fittingBites_72 : decode cX7_fittingBites 72 = .ok (.iload 4, 2) := by decide +kernel
theorem dX7_fittingBites_74 : decode cX7_fittingBites 74 = .ok (.ishl, 1) := by decide +kernel
theorem dX7_fittingBites_75 : decode cX7_fittingBites 75 = .ok (.ior, 1) := by decide +kernel
theorem dX7_fittingBites_76 : decode cX7_fittingBites 76 = .ok (.istore_n 3, 1) := by decide +kernel
theorem dX7_fittingBites_77 : decode cX7_fittingBites 77 = .ok (.aload_n 0, 1) := by decide +kernel
theorem dX7_fittingBites_78 : decode cX7_fittingBites 78 = .ok (.getfield 33, 3) := by decide +kernel
theorem dX7_fittingBites_81 : decode cX7_fittingBites 81 = .ok (.getfield 180, 3) := by decide +kernel
theorem dX7_fittingBites_84 : decode cX7_fittingBites 84 = .ok (.iconst 0, 1) := by decide +kernel
theorem dX7_fittingBites_85 : decode cX7_fittingBites 85 = .ok (.aload_n 0, 1) := by decide +kernel
theorem dX7_fittingBites_86 : decode cX7_fittingBites 86 = .ok (.getfield 76, 3) := by decide +kernel
theorem dX7_fittingBites_89 : decode cX7_fittingBites 89 = .ok (.iload 4, 2) := by decide +kernel
theorem dX7_fittingBites_91 : decode cX7_fittingBites 91 = .ok (.bipush 8, 2) := by decide +kernel
theorem dX7_fittingBites_93 : decode cX7_fittingBites 93 = .ok (.imul, 1) := by decide +kernel
theorem dX7_fittingBites_94 : decode cX7_fittingBites 94 = .ok (.bipush 8, 2) := by decide +kernel
theorem dX7_fittingBites_96 : decode cX7_fittingBites 96 = .ok (.invokestatic 310, 3) := by decide +kernel
theorem dX7_fittingBites_99 : decode cX7_fittingBites 99 = .ok (.iinc 4 1, 3) := by decide +kernel
theorem dX7_fittingBites_102 : decode cX7_fittingBites 102 = .ok (.goto (-87), 3) := by decide +kernel
theorem dX7_fittingBites_105 : decode cX7_fittingBites 105 = .ok (.aload_n 0, 1) := by decide +kernel
theorem dX7_fittingBites_106 : decode cX7_fittingBites 106 = .ok (.getfield 24, 3) := by decide +kernel
theorem dX7_fittingBites_109 : decode cX7_fittingBites 109 = .ok (.getfield 119, 3) := by decide +kernel
theorem dX7_fittingBites_112 : decode cX7_fittingBites 112 = .ok (.iload_n 1, 1) := by decide +kernel
theorem dX7_fittingBites_113 : decode cX7_fittingBites 113 = .ok (.iload_n 2, 1) := by decide +kernel
theorem dX7_fittingBites_114 : decode cX7_fittingBites 114 = .ok (.iastore, 1) := by decide +kernel
theorem dX7_fittingBites_115 : decode cX7_fittingBites 115 = .ok (.iload_n 3, 1) := by decide +kernel
theorem dX7_fittingBites_116 : decode cX7_fittingBites 116 = .ok (.ireturn, 1) := by decide +kernel
theorem dX7_fittingWords_0 : decode cX7_fittingWords 0 = .ok (.aload_n 0, 1) := by decide +kernel
theorem dX7_fittingWords_1 : decode cX7_fittingWords 1 = .ok (.getfield 24, 3) := by decide +kernel
theorem dX7_fittingWords_4 : decode cX7_fittingWords 4 = .ok (.getfield 122, 3) := by decide +kernel
theorem dX7_fittingWords_7 : decode cX7_fittingWords 7 = .ok (.iload_n 1, 1) := by decide +kernel
theorem dX7_fittingWords_8 : decode cX7_fittingWords 8 = .ok (.iaload, 1) := by decide +kernel
theorem dX7_fittingWords_9 : decode cX7_fittingWords 9 = .ok (.istore_n 2, 1) := by decide +kernel
theorem dX7_fittingWords_10 : decode cX7_fittingWords 10 = .ok (.iconst 0, 1) := by decide +kernel
theorem dX7_fittingWords_11 : decode cX7_fittingWords 11 = .ok (.istore_n 3, 1) := by decide +kernel
theorem dX7_fittingWords_12 : decode cX7_fittingWords 12 = .ok (.iconst 0, 1) := by decide +kernel
theorem dX7_fittingWords_13 : decode cX7_fittingWords 13 = .ok (.istore 4, 2) := by decide +kernel
theorem dX7_fittingWords_15 : decode cX7_fittingWords 15 = .ok (.iload 4, 2) := by decide +kernel
theorem dX7_fittingWords_17 : decode cX7_fittingWords 17 = .ok (.bipush 8, 2) := by decide +kernel
theorem dX7_fittingWords_19 : decode cX7_fittingWords 19 = .ok (.if_icmp .ge 64, 3) := by decide +kernel
theorem dX7_fittingWords_22 : decode cX7_fittingWords 22 = .ok (.aload_n 0, 1) := by decide +kernel
theorem dX7_fittingWords_23 : decode cX7_fittingWords 23 = .ok (.getfield 24, 3) := by decide +kernel
theorem dX7_fittingWords_26 : decode cX7_fittingWords 26 = .ok (.getfield 122, 3) := by decide +kernel
theorem dX7_fittingWords_29 : decode cX7_fittingWords 29 = .ok (.iload_n 1, 1) := by decide +kernel
theorem dX7_fittingWords_30 : decode cX7_fittingWords 30 = .ok (.iload 4, 2) := by decide +kernel
theorem dX7_fittingWords_32 : decode cX7_fittingWords 32 = .ok (.iastore, 1) := by decide +kernel
theorem dX7_fittingWords_33 : decode cX7_fittingWords 33 = .ok (.aload_n 0, 1) := by decide +kernel
theorem dX7_fittingWords_34 : decode cX7_fittingWords 34 = .ok (.getfield 33, 3) := by decide +kernel
theorem dX7_fittingWords_37 : decode cX7_fittingWords 37 = .ok (.aload_n 0, 1) := by decide +kernel
theorem dX7_fittingWords_38 : decode cX7_fittingWords 38 = .ok (.getfield 40, 3) := by decide +kernel
theorem dX7_fittingWords_41 : decode cX7_fittingWords 41 = .ok (.invokevirtual 169, 3) := by decide +kernel
theorem dX7_fittingWords_44 : decode cX7_fittingWords 44 = .ok (.aload_n 0, 1) := by decide +kernel
theorem dX7_fittingWords_45 : decode cX7_fittingWords 45 = .ok (.getfield 44, 3) := by decide +kernel
theorem dX7_fittingWords_48 : decode cX7_fittingWords 48 = .ok (.invokevirtual 169, 3) := by decide +kernel
theorem dX7_fittingWords_51 : decode cX7_fittingWords 51 = .ok (.bipush 40, 2) := by decide +kernel
theorem dX7_fittingWords_53 : decode cX7_fittingWords 53 = .ok (.invokevirtual 173, 3) := by decide +kernel
theorem dX7_fittingWords_56 : decode cX7_fittingWords 56 = .ok (.aload_n 0, 1) := by decide +kernel
theorem dX7_fittingWords_57 : decode cX7_fittingWords 57 = .ok (.getfield 50, 3) := by decide +kernel
theorem dX7_fittingWords_60 : decode cX7_fittingWords 60 = .ok (.aload_n 0, 1) := by decide +kernel
theorem dX7_fittingWords_61 : decode cX7_fittingWords 61 = .ok (.getfield 33, 3) := by decide +kernel
theorem dX7_fittingWords_64 : decode cX7_fittingWords 64 = .ok (.invokevirtual 258, 3) := by decide +kernel
theorem dX7_fittingWords_67 : decode cX7_fittingWords 67 = .ok (.ifCond .eq 10, 3) := by decide +kernel
theorem dX7_fittingWords_70 : decode cX7_fittingWords 70 = .ok (.iload_n 3, 1) := by decide +kernel
theorem dX7_fittingWords_71 : decode cX7_fittingWords 71 = .ok (.iconst 1, 1) := by decide +kernel
theorem dX7_fittingWords_72 : decode cX7_fittingWords 72 = .ok (.iload 4, 2) := by decide +kernel
theorem dX7_fittingWords_74 : decode cX7_fittingWords 74 = .ok (.ishl, 1) := by decide +kernel
theorem dX7_fittingWords_75 : decode cX7_fittingWords 75 = .ok (.ior, 1) := by decide +kernel
theorem dX7_fittingWords_76 : decode cX7_fittingWords 76 = .ok (.istore_n 3, 1) := by decide +kernel
theorem dX7_fittingWords_77 : decode cX7_fittingWords 77 = .ok (.iinc 4 1, 3) := by decide +kernel
theorem dX7_fittingWords_80 : decode cX7_fittingWords 80 = .ok (.goto (-65), 3) := by decide +kernel
theorem dX7_fittingWords_83 : decode cX7_fittingWords 83 = .ok (.aload_n 0, 1) := by decide +kernel
theorem dX7_fittingWords_84 : decode cX7_fittingWords 84 = .ok (.getfield 24, 3) := by decide +kernel
theorem dX7_fittingWords_87 : decode cX7_fittingWords 87 = .ok (.getfield 122, 3) := by decide +kernel
theorem dX7_fittingWords_90 : decode cX7_fittingWords 90 = .ok (.iload_n 1, 1) := by decide +kernel
theorem dX7_fittingWords_91 : decode cX7_fittingWords 91 = .ok (.iload_n 2, 1) := by decide +kernel
theorem dX7_fittingWords_92 : decode cX7_fittingWords 92 = .ok (.iastore, 1) := by decide +kernel
theorem dX7_fittingWords_93 : decode cX7_fittingWords 93 = .ok (.iload_n 3, 1) := by decide +kernel
theorem dX7_fittingWords_94 : decode cX7_fittingWords 94 = .ok (.ireturn, 1) := by decide +kernel
theorem dX7_greatestHeap_0 : decode cX7_greatestHeap 0 = .ok (.iconst 0, 1) := by decide +kernel
theorem dX7_greatestHeap_1 : decode cX7_greatestHeap 1 = .ok (.istore_n 3, 1) := by decide +kernel
theorem dX7_greatestHeap_2 : decode cX7_greatestHeap 2 = .ok (.iconst 0, 1) := by decide +kernel
theorem dX7_greatestHeap_3 : decode cX7_greatestHeap 3 = .ok (.istore 4, 2) := by decide +kernel
theorem dX7_greatestHeap_5 : decode cX7_greatestHeap 5 = .ok (.iload 4, 2) := by decide +kernel
theorem dX7_greatestHeap_7 : decode cX7_greatestHeap 7 = .ok (.bipush 10, 2) := by decide +kernel
theorem dX7_greatestHeap_9 : decode cX7_greatestHeap 9 = .ok (.if_icmp .ge 97, 3) := by decide +kernel
theorem dX7_greatestHeap_12 : decode cX7_greatestHeap 12 = .ok (.iconst 0, 1) := by decide +kernel
theorem dX7_greatestHeap_13 : decode cX7_greatestHeap 13 = .ok (.istore 5, 2) := by decide +kernel
theorem dX7_greatestHeap_15 : decode cX7_greatestHeap 15 = .ok (.iconst 0, 1) := by decide +kernel
theorem dX7_greatestHeap_16 : decode cX7_greatestHeap 16 = .ok (.istore 6, 2) := by decide +kernel
theorem dX7_greatestHeap_18 : decode cX7_greatestHeap 18 = .ok (.iload 6, 2) := by decide +kernel
theorem dX7_greatestHeap_20 : decode cX7_greatestHeap 20 = .ok (.bipush 10, 2) := by decide +kernel
theorem dX7_greatestHeap_22 : decode cX7_greatestHeap 22 = .ok (.if_icmp .ge 71, 3) := by decide +kernel
theorem dX7_greatestHeap_25 : decode cX7_greatestHeap 25 = .ok (.iload_n 2, 1) := by decide +kernel
theorem dX7_greatestHeap_26 : decode cX7_greatestHeap 26 = .ok (.iload 4, 2) := by decide +kernel
theorem dX7_greatestHeap_28 : decode cX7_greatestHeap 28 = .ok (.ishr, 1) := by decide +kernel
theorem dX7_greatestHeap_29 : decode cX7_greatestHeap 29 = .ok (.iconst 1, 1) := by decide +kernel
theorem dX7_greatestHeap_30 : decode cX7_greatestHeap 30 = .ok (.iand, 1) := by decide +kernel
theorem dX7_greatestHeap_31 : decode cX7_greatestHeap 31 = .ok (.iconst 1, 1) := by decide +kernel
theorem dX7_greatestHeap_32 : decode cX7_greatestHeap 32 = .ok (.if_icmp .ne 17, 3) := by decide +kernel
theorem dX7_greatestHeap_35 : decode cX7_greatestHeap 35 = .ok (.iload_n 2, 1) := by decide +kernel
theorem dX7_greatestHeap_36 : decode cX7_greatestHeap 36 = .ok (.iload 6, 2) := by decide +kernel
theorem dX7_greatestHeap_38 : decode cX7_greatestHeap 38 = .ok (.ishr, 1) := by decide +kernel
theorem dX7_greatestHeap_39 : decode cX7_greatestHeap 39 = .ok (.iconst 1, 1) := by decide +kernel
theorem dX7_greatestHeap_40 : decode cX7_greatestHeap 40 = .ok (.iand, 1) := by decide +kernel
theorem dX7_greatestHeap_41 : decode cX7_greatestHeap 41 = .ok (.iconst 1, 1) := by decide +kernel
theorem dX7_greatestHeap_42 : decode cX7_greatestHeap 42 = .ok (.if_icmp .ne 7, 3) := by decide +kernel
theorem dX7_greatestHeap_45 : decode cX7_greatestHeap 45 = .ok (.iconst 1, 1) := by decide +kernel
theorem dX7_greatestHeap_46 : decode cX7_greatestHeap 46 = .ok (.goto 4, 3) := by decide +kernel
theorem dX7_greatestHeap_49 : decode cX7_greatestHeap 49 = .ok (.iconst 0, 1) := by decide +kernel
theorem dX7_greatestHeap_50 : decode cX7_greatestHeap 50 = .ok (.istore 7, 2) := by decide +kernel
theorem dX7_greatestHeap_52 : decode cX7_greatestHeap 52 = .ok (.iload 7, 2) := by decide +kernel
theorem dX7_greatestHeap_54 : decode cX7_greatestHeap 54 = .ok (.ifCond .eq 33, 3) := by decide +kernel
theorem dX7_greatestHeap_57 : decode cX7_greatestHeap 57 = .ok (.aload_n 0, 1) := by decide +kernel
theorem dX7_greatestHeap_58 : decode cX7_greatestHeap 58 = .ok (.getfield 76, 3) := by decide +kernel
theorem dX7_greatestHeap_61 : decode cX7_greatestHeap 61 = .ok (.iload 4, 2) := by decide +kernel
theorem dX7_greatestHeap_63 : decode cX7_greatestHeap 63 = .ok (.bipush 8, 2) := by decide +kernel
theorem dX7_greatestHeap_65 : decode cX7_greatestHeap 65 = .ok (.imul, 1) := by decide +kernel
theorem dX7_greatestHeap_66 : decode cX7_greatestHeap 66 = .ok (.iload_n 1, 1) := by decide +kernel
theorem dX7_greatestHeap_67 : decode cX7_greatestHeap 67 = .ok (.iadd, 1) := by decide +kernel
theorem dX7_greatestHeap_68 : decode cX7_greatestHeap 68 = .ok (.iaload, 1) := by decide +kernel
theorem dX7_greatestHeap_69 : decode cX7_greatestHeap 69 = .ok (.aload_n 0, 1) := by decide +kernel
theorem dX7_greatestHeap_70 : decode cX7_greatestHeap 70 = .ok (.getfield 76, 3) := by decide +kernel
theorem dX7_greatestHeap_73 : decode cX7_greatestHeap 73 = .ok (.iload 6, 2) := by decide +kernel
theorem dX7_greatestHeap_75 : decode cX7_greatestHeap 75 = .ok (.bipush 8, 2) := by decide +kernel
theorem dX7_greatestHeap_77 : decode cX7_greatestHeap 77 = .ok (.imul, 1) := by decide +kernel
theorem dX7_greatestHeap_78 : decode cX7_greatestHeap 78 = .ok (.iload_n 1, 1) := by decide +kernel
theorem dX7_greatestHeap_79 : decode cX7_greatestHeap 79 = .ok (.iadd, 1) := by decide +kernel
theorem dX7_greatestHeap_80 : decode cX7_greatestHeap 80 = .ok (.iaload, 1) := by decide +kernel
theorem dX7_greatestHeap_81 : decode cX7_greatestHeap 81 = .ok (.if_icmp .ne 6, 3) := by decide +kernel
theorem dX7_greatestHeap_84 : decode cX7_greatestHeap 84 = .ok (.iinc 5 1, 3) := by decide +kernel
theorem dX7_greatestHeap_87 : decode cX7_greatestHeap 87 = .ok (.iinc 6 1, 3) := by decide +kernel
theorem dX7_greatestHeap_90 : decode cX7_greatestHeap 90 = .ok (.goto (-72), 3) := by decide +kernel
theorem dX7_greatestHeap_93 : decode cX7_greatestHeap 93 = .ok (.iload_n 3, 1) := by decide +kernel
theorem dX7_greatestHeap_94 : decode cX7_greatestHeap 94 = .ok (.iload 5, 2) := by decide +kernel
theorem dX7_greatestHeap_96 : decode cX7_greatestHeap 96 = .ok (.invokestatic 379, 3) := by decide +kernel
theorem dX7_greatestHeap_99 : decode cX7_greatestHeap 99 = .ok (.istore_n 3, 1) := by decide +kernel
theorem dX7_greatestHeap_100 : decode cX7_greatestHeap 100 = .ok (.iinc 4 1, 3) := by decide +kernel
theorem dX7_greatestHeap_103 : decode cX7_greatestHeap 103 = .ok (.goto (-98), 3) := by decide +kernel
theorem dX7_greatestHeap_106 : decode cX7_greatestHeap 106 = .ok (.iload_n 3, 1) := by decide +kernel
theorem dX7_greatestHeap_107 : decode cX7_greatestHeap 107 = .ok (.ireturn, 1) := by decide +kernel
theorem dX7_findChance_0 : decode cX7_findChance 0 = .ok (.aload_n 0, 1) := by decide +kernel
theorem dX7_findChance_1 : decode cX7_findChance 1 = .ok (.lconst 0, 1) := by decide +kernel
theorem dX7_findChance_2 : decode cX7_findChance 2 = .ok (.putfield 79, 3) := by decide +kernel
theorem dX7_findChance_5 : decode cX7_findChance 5 = .ok (.aload_n 0, 1) := by decide +kernel
theorem dX7_findChance_6 : decode cX7_findChance 6 = .ok (.lconst 1, 1) := by decide +kernel
theorem dX7_findChance_7 : decode cX7_findChance 7 = .ok (.iconst 4, 1) := by decide +kernel
theorem dX7_findChance_8 : decode cX7_findChance 8 = .ok (.aload_n 0, 1) := by decide +kernel
theorem dX7_findChance_9 : decode cX7_findChance 9 = .ok (.getfield 40, 3) := by decide +kernel
theorem dX7_findChance_12 : decode cX7_findChance 12 = .ok (.getfield 151, 3) := by decide +kernel
theorem dX7_findChance_15 : decode cX7_findChance 15 = .ok (.imul, 1) := by decide +kernel
theorem dX7_findChance_16 : decode cX7_findChance 16 = .ok (.lshl, 1) := by decide +kernel
theorem dX7_findChance_17 : decode cX7_findChance 17 = .ok (.putfield 83, 3) := by decide +kernel
theorem dX7_findChance_20 : decode cX7_findChance 20 = .ok (.iconst 0, 1) := by decide +kernel
theorem dX7_findChance_21 : decode cX7_findChance 21 = .ok (.istore 4, 2) := by decide +kernel
theorem dX7_findChance_23 : decode cX7_findChance 23 = .ok (.iload 4, 2) := by decide +kernel
theorem dX7_findChance_25 : decode cX7_findChance 25 = .ok (.iconst 1, 1) := by decide +kernel
theorem dX7_findChance_26 : decode cX7_findChance 26 = .ok (.aload_n 0, 1) := by decide +kernel
theorem dX7_findChance_27 : decode cX7_findChance 27 = .ok (.getfield 40, 3) := by decide +kernel
theorem dX7_findChance_30 : decode cX7_findChance 30 = .ok (.getfield 151, 3) := by decide +kernel
theorem dX7_findChance_33 : decode cX7_findChance 33 = .ok (.ishl, 1) := by decide +kernel
theorem dX7_findChance_34 : decode cX7_findChance 34 = .ok (.if_icmp .ge 118, 3) := by decide +kernel
theorem dX7_findChance_37 : decode cX7_findChance 37 = .ok (.lconst 1, 1) := by decide +kernel
theorem dX7_findChance_38 : decode cX7_findChance 38 = .ok (.lstore 5, 2) := by decide +kernel
theorem dX7_findChance_40 : decode cX7_findChance 40 = .ok (.iconst 0, 1) := by decide +kernel
theorem dX7_findChance_41 : decode cX7_findChance 41 = .ok (.istore 7, 2) := by decide +kernel
theorem dX7_findChance_43 : decode cX7_findChance 43 = .ok (.iload 7, 2) := by decide +kernel
theorem dX7_findChance_45 : decode cX7_findChance 45 = .ok (.aload_n 0, 1) := by decide +kernel
theorem dX7_findChance_46 : decode cX7_findChance 46 = .ok (.getfield 40, 3) := by decide +kernel
theorem dX7_findChance_49 : decode cX7_findChance 49 = .ok (.getfield 151, 3) := by decide +kernel
theorem dX7_findChance_52 : decode cX7_findChance 52 = .ok (.if_icmp .ge 35, 3) := by decide +kernel
theorem dX7_findChance_55 : decode cX7_findChance 55 = .ok (.lload 5, 2) := by decide +kernel
theorem dX7_findChance_57 : decode cX7_findChance 57 = .ok (.iload 4, 2) := by decide +kernel
theorem dX7_findChance_59 : decode cX7_findChance 59 = .ok (.iload 7, 2) := by decide +kernel
theorem dX7_findChance_61 : decode cX7_findChance 61 = .ok (.ishr, 1) := by decide +kernel
theorem dX7_findChance_62 : decode cX7_findChance 62 = .ok (.iconst 1, 1) := by decide +kernel
theorem dX7_findChance_63 : decode cX7_findChance 63 = .ok (.iand, 1) := by decide +kernel
theorem dX7_findChance_64 : decode cX7_findChance 64 = .ok (.iconst 1, 1) := by decide +kernel
theorem dX7_findChance_65 : decode cX7_findChance 65 = .ok (.if_icmp .ne 8, 3) := by decide +kernel
theorem dX7_findChance_68 : decode cX7_findChance 68 = .ok (.iload_n 1, 1) := by decide +kernel
theorem dX7_findChance_69 : decode cX7_findChance 69 = .ok (.i2l, 1) := by decide +kernel
theorem dX7_findChance_70 : decode cX7_findChance 70 = .ok (.goto 8, 3) := by decide +kernel
theorem dX7_findChance_73 : decode cX7_findChance 73 = .ok (.bipush 16, 2) := by decide +kernel
theorem dX7_findChance_75 : decode cX7_findChance 75 = .ok (.iload_n 1, 1) := by decide +kernel
theorem dX7_findChance_76 : decode cX7_findChance 76 = .ok (.isub, 1) := by decide +kernel
theorem dX7_findChance_77 : decode cX7_findChance 77 = .ok (.i2l, 1) := by decide +kernel
theorem dX7_findChance_78 : decode cX7_findChance 78 = .ok (.lmul, 1) := by decide +kernel
theorem dX7_findChance_79 : decode cX7_findChance 79 = .ok (.lstore 5, 2) := by decide +kernel
theorem dX7_findChance_81 : decode cX7_findChance 81 = .ok (.iinc 7 1, 3) := by decide +kernel
theorem dX7_findChance_84 : decode cX7_findChance 84 = .ok (.goto (-41), 3) := by decide +kernel
theorem dX7_findChance_87 : decode cX7_findChance 87 = .ok (.lload 5, 2) := by decide +kernel
theorem dX7_findChance_89 : decode cX7_findChance 89 = .ok (.lconst 0, 1) := by decide +kernel
theorem dX7_findChance_90 : decode cX7_findChance 90 = .ok (.lcmp, 1) := by decide +kernel
theorem dX7_findChance_91 : decode cX7_findChance 91 = .ok (.ifCond .le 55, 3) := by decide +kernel
theorem dX7_findChance_94 : decode cX7_findChance 94 = .ok (.aload_n 0, 1) := by decide +kernel
theorem dX7_findChance_95 : decode cX7_findChance 95 = .ok (.getfield 33, 3) := by decide +kernel
theorem dX7_findChance_98 : decode cX7_findChance 98 = .ok (.aload_n 0, 1) := by decide +kernel
theorem dX7_findChance_99 : decode cX7_findChance 99 = .ok (.getfield 40, 3) := by decide +kernel
theorem dX7_findChance_102 : decode cX7_findChance 102 = .ok (.iload 4, 2) := by decide +kernel
theorem dX7_findChance_104 : decode cX7_findChance 104 = .ok (.invokevirtual 382, 3) := by decide +kernel
theorem dX7_findChance_107 : decode cX7_findChance 107 = .ok (.aload_n 0, 1) := by decide +kernel
theorem dX7_findChance_108 : decode cX7_findChance 108 = .ok (.getfield 44, 3) := by decide +kernel
theorem dX7_findChance_111 : decode cX7_findChance 111 = .ok (.invokevirtual 169, 3) := by decide +kernel
theorem dX7_findChance_114 : decode cX7_findChance 114 = .ok (.bipush 40, 2) := by decide +kernel
theorem dX7_findChance_116 : decode cX7_findChance 116 = .ok (.invokevirtual 173, 3) := by decide +kernel
theorem dX7_findChance_119 : decode cX7_findChance 119 = .ok (.aload_n 0, 1) := by decide +kernel
theorem dX7_findChance_120 : decode cX7_findChance 120 = .ok (.dup, 1) := by decide +kernel
theorem dX7_findChance_121 : decode cX7_findChance 121 = .ok (.getfield 79, 3) := by decide +kernel
theorem dX7_findChance_124 : decode cX7_findChance 124 = .ok (.aload_n 0, 1) := by decide +kernel
theorem dX7_findChance_125 : decode cX7_findChance 125 = .ok (.getfield 33, 3) := by decide +kernel
theorem dX7_findChance_128 : decode cX7_findChance 128 = .ok (.iload_n 2, 1) := by decide +kernel
theorem dX7_findChance_129 : decode cX7_findChance 129 = .ok (.iload_n 3, 1) := by decide +kernel
theorem dX7_findChance_130 : decode cX7_findChance 130 = .ok (.invokevirtual 236, 3) := by decide +kernel
theorem dX7_findChance_133 : decode cX7_findChance 133 = .ok (.ifCond .eq 8, 3) := by decide +kernel
theorem dX7_findChance_136 : decode cX7_findChance 136 = .ok (.lload 5, 2) := by decide +kernel
theorem dX7_findChance_138 : decode cX7_findChance 138 = .ok (.goto 4, 3) := by decide +kernel
theorem dX7_findChance_141 : decode cX7_findChance 141 = .ok (.lconst 0, 1) := by decide +kernel
theorem dX7_findChance_142 : decode cX7_findChance 142 = .ok (.ladd, 1) := by decide +kernel
theorem dX7_findChance_143 : decode cX7_findChance 143 = .ok (.putfield 79, 3) := by decide +kernel
theorem dX7_findChance_146 : decode cX7_findChance 146 = .ok (.iinc 4 1, 3) := by decide +kernel
theorem dX7_findChance_149 : decode cX7_findChance 149 = .ok (.goto (-126), 3) := by decide +kernel
theorem dX7_findChance_152 : decode cX7_findChance 152 = .ok (.iconst 0, 1) := by decide +kernel
theorem dX7_findChance_153 : decode cX7_findChance 153 = .ok (.istore 4, 2) := by decide +kernel
theorem dX7_findChance_155 : decode cX7_findChance 155 = .ok (.iload 4, 2) := by decide +kernel
theorem dX7_findChance_157 : decode cX7_findChance 157 = .ok (.bipush 24, 2) := by decide +kernel
theorem dX7_findChance_159 : decode cX7_findChance 159 = .ok (.if_icmp .ge 55, 3) := by decide +kernel
theorem dX7_findChance_162 : decode cX7_findChance 162 = .ok (.aload_n 0, 1) := by decide +kernel
theorem dX7_findChance_163 : decode cX7_findChance 163 = .ok (.getfield 83, 3) := by decide +kernel
theorem dX7_findChance_166 : decode cX7_findChance 166 = .ok (.lconst 1, 1) := by decide +kernel
theorem dX7_findChance_167 : decode cX7_findChance 167 = .ok (.lcmp, 1) := by decide +kernel
theorem dX7_findChance_168 : decode cX7_findChance 168 = .ok (.ifCond .le 46, 3) := by decide +kernel
theorem dX7_findChance_171 : decode cX7_findChance 171 = .ok (.aload_n 0, 1) := by decide +kernel
theorem dX7_findChance_172 : decode cX7_findChance 172 = .ok (.getfield 79, 3) := by decide +kernel
theorem dX7_findChance_175 : decode cX7_findChance 175 = .ok (.ldc2_w 385, 3) := by decide +kernel
theorem dX7_findChance_178 : decode cX7_findChance 178 = .ok (.lrem, 1) := by decide +kernel
theorem dX7_findChance_179 : decode cX7_findChance 179 = .ok (.lconst 0, 1) := by decide +kernel
theorem dX7_findChance_180 : decode cX7_findChance 180 = .ok (.lcmp, 1) := by decide +kernel
theorem dX7_findChance_181 : decode cX7_findChance 181 = .ok (.ifCond .ne 33, 3) := by decide +kernel
theorem dX7_findChance_184 : decode cX7_findChance 184 = .ok (.aload_n 0, 1) := by decide +kernel
theorem dX7_findChance_185 : decode cX7_findChance 185 = .ok (.dup, 1) := by decide +kernel
theorem dX7_findChance_186 : decode cX7_findChance 186 = .ok (.getfield 79, 3) := by decide +kernel
theorem dX7_findChance_189 : decode cX7_findChance 189 = .ok (.ldc2_w 385, 3) := by decide +kernel
theorem dX7_findChance_192 : decode cX7_findChance 192 = .ok (.ldiv, 1) := by decide +kernel
theorem dX7_findChance_193 : decode cX7_findChance 193 = .ok (.putfield 79, 3) := by decide +kernel
theorem dX7_findChance_196 : decode cX7_findChance 196 = .ok (.aload_n 0, 1) := by decide +kernel
theorem dX7_findChance_197 : decode cX7_findChance 197 = .ok (.dup, 1) := by decide +kernel
theorem dX7_findChance_198 : decode cX7_findChance 198 = .ok (.getfield 83, 3) := by decide +kernel
theorem dX7_findChance_201 : decode cX7_findChance 201 = .ok (.ldc2_w 385, 3) := by decide +kernel
theorem dX7_findChance_204 : decode cX7_findChance 204 = .ok (.ldiv, 1) := by decide +kernel
theorem dX7_findChance_205 : decode cX7_findChance 205 = .ok (.putfield 83, 3) := by decide +kernel
theorem dX7_findChance_208 : decode cX7_findChance 208 = .ok (.iinc 4 1, 3) := by decide +kernel
theorem dX7_findChance_211 : decode cX7_findChance 211 = .ok (.goto (-56), 3) := by decide +kernel
theorem dX7_findChance_214 : decode cX7_findChance 214 = .ok (.return_, 1) := by decide +kernel
theorem dX7_lots_0 : decode cX7_lots 0 = .ok (.lconst 0, 1) := by decide +kernel
theorem dX7_lots_1 : decode cX7_lots 1 = .ok (.lstore_n 2, 1) := by decide +kernel
theorem dX7_lots_2 : decode cX7_lots 2 = .ok (.iload_n 0, 1) := by decide +kernel
theorem dX7_lots_3 : decode cX7_lots 3 = .ok (.istore 4, 2) := by decide +kernel
theorem dX7_lots_5 : decode cX7_lots 5 = .ok (.iconst 0, 1) := by decide +kernel
theorem dX7_lots_6 : decode cX7_lots 6 = .ok (.istore 5, 2) := by decide +kernel
theorem dX7_lots_8 : decode cX7_lots 8 = .ok (.iload 5, 2) := by decide +kernel
theorem dX7_lots_10 : decode cX7_lots 10 = .ok (.iload_n 1, 1) := by decide +kernel
theorem dX7_lots_11 : decode cX7_lots 11 = .ok (.if_icmp .ge 34, 3) := by decide +kernel
theorem dX7_lots_14 : decode cX7_lots 14 = .ok (.ldc_w 387, 3) := by decide +kernel
theorem dX7_lots_17 : decode cX7_lots 17 = .ok (.iload 4, 2) := by decide +kernel
theorem dX7_lots_19 : decode cX7_lots 19 = .ok (.imul, 1) := by decide +kernel
theorem dX7_lots_20 : decode cX7_lots 20 = .ok (.sipush 12345, 3) := by decide +kernel
theorem dX7_lots_23 : decode cX7_lots 23 = .ok (.iadd, 1) := by decide +kernel
theorem dX7_lots_24 : decode cX7_lots 24 = .ok (.istore 4, 2) := by decide +kernel
theorem dX7_lots_26 : decode cX7_lots 26 = .ok (.lload_n 2, 1) := by decide +kernel
theorem dX7_lots_27 : decode cX7_lots 27 = .ok (.lconst 1, 1) := by decide +kernel
theorem dX7_lots_28 : decode cX7_lots 28 = .ok (.iload 4, 2) := by decide +kernel
theorem dX7_lots_30 : decode cX7_lots 30 = .ok (.bipush 16, 2) := by decide +kernel
theorem dX7_lots_32 : decode cX7_lots 32 = .ok (.iushr, 1) := by decide +kernel
theorem dX7_lots_33 : decode cX7_lots 33 = .ok (.bipush 40, 2) := by decide +kernel
theorem dX7_lots_35 : decode cX7_lots 35 = .ok (.irem, 1) := by decide +kernel
theorem dX7_lots_36 : decode cX7_lots 36 = .ok (.lshl, 1) := by decide +kernel
theorem dX7_lots_37 : decode cX7_lots 37 = .ok (.lor, 1) := by decide +kernel
theorem dX7_lots_38 : decode cX7_lots 38 = .ok (.lstore_n 2, 1) := by decide +kernel
theorem dX7_lots_39 : decode cX7_lots 39 = .ok (.iinc 5 1, 3) := by decide +kernel
theorem dX7_lots_42 : decode cX7_lots 42 = .ok (.goto (-34), 3) := by decide +kernel
theorem dX7_lots_45 : decode cX7_lots 45 = .ok (.lload_n 2, 1) := by decide +kernel
theorem dX7_lots_46 : decode cX7_lots 46 = .ok (.lreturn, 1) := by decide +kernel
theorem dX7_mixed_0 : decode cX7_mixed 0 = .ok (.ldc2_w 388, 3) := by decide +kernel
theorem dX7_mixed_3 : decode cX7_mixed 3 = .ok (.lload_n 0, 1) := by decide +kernel
theorem dX7_mixed_4 : decode cX7_mixed 4 = .ok (.lmul, 1) := by decide +kernel
theorem dX7_mixed_5 : decode cX7_mixed 5 = .ok (.lload_n 2, 1) := by decide +kernel
theorem dX7_mixed_6 : decode cX7_mixed 6 = .ok (.ladd, 1) := by decide +kernel
theorem dX7_mixed_7 : decode cX7_mixed 7 = .ok (.lreturn, 1) := by decide +kernel
theorem dX7_mixedFloor_0 : decode cX7_mixedFloor 0 = .ok (.iconst 0, 1) := by decide +kernel
theorem dX7_mixedFloor_1 : decode cX7_mixedFloor 1 = .ok (.istore 4, 2) := by decide +kernel
theorem dX7_mixedFloor_3 : decode cX7_mixedFloor 3 = .ok (.iload 4, 2) := by decide +kernel
theorem dX7_mixedFloor_5 : decode cX7_mixedFloor 5 = .ok (.iconst 2, 1) := by decide +kernel
theorem dX7_mixedFloor_6 : decode cX7_mixedFloor 6 = .ok (.if_icmp .gt 22, 3) := by decide +kernel
theorem dX7_mixedFloor_9 : decode cX7_mixedFloor 9 = .ok (.lload_n 1, 1) := by decide +kernel
theorem dX7_mixedFloor_10 : decode cX7_mixedFloor 10 = .ok (.aload_n 0, 1) := by decide +kernel
theorem dX7_mixedFloor_11 : decode cX7_mixedFloor 11 = .ok (.iload_n 3, 1) := by decide +kernel
theorem dX7_mixedFloor_12 : decode cX7_mixedFloor 12 = .ok (.iload 4, 2) := by decide +kernel
theorem dX7_mixedFloor_14 : decode cX7_mixedFloor 14 = .ok (.invokevirtual 390, 3) := by decide +kernel
theorem dX7_mixedFloor_17 : decode cX7_mixedFloor 17 = .ok (.i2l, 1) := by decide +kernel
theorem dX7_mixedFloor_18 : decode cX7_mixedFloor 18 = .ok (.invokestatic 326, 3) := by decide +kernel
theorem dX7_mixedFloor_21 : decode cX7_mixedFloor 21 = .ok (.lstore_n 1, 1) := by decide +kernel
theorem dX7_mixedFloor_22 : decode cX7_mixedFloor 22 = .ok (.iinc 4 1, 3) := by decide +kernel
theorem dX7_mixedFloor_25 : decode cX7_mixedFloor 25 = .ok (.goto (-22), 3) := by decide +kernel
theorem dX7_mixedFloor_28 : decode cX7_mixedFloor 28 = .ok (.lload_n 1, 1) := by decide +kernel
theorem dX7_mixedFloor_29 : decode cX7_mixedFloor 29 = .ok (.aload_n 0, 1) := by decide +kernel
theorem dX7_mixedFloor_30 : decode cX7_mixedFloor 30 = .ok (.iload_n 3, 1) := by decide +kernel
theorem dX7_mixedFloor_31 : decode cX7_mixedFloor 31 = .ok (.iconst 0, 1) := by decide +kernel
theorem dX7_mixedFloor_32 : decode cX7_mixedFloor 32 = .ok (.invokevirtual 392, 3) := by decide +kernel
theorem dX7_mixedFloor_35 : decode cX7_mixedFloor 35 = .ok (.i2l, 1) := by decide +kernel
theorem dX7_mixedFloor_36 : decode cX7_mixedFloor 36 = .ok (.invokestatic 326, 3) := by decide +kernel
theorem dX7_mixedFloor_39 : decode cX7_mixedFloor 39 = .ok (.aload_n 0, 1) := by decide +kernel
theorem dX7_mixedFloor_40 : decode cX7_mixedFloor 40 = .ok (.iload_n 3, 1) := by decide +kernel
theorem dX7_mixedFloor_41 : decode cX7_mixedFloor 41 = .ok (.iconst 1, 1) := by decide +kernel
theorem dX7_mixedFloor_42 : decode cX7_mixedFloor 42 = .ok (.invokevirtual 392, 3) := by decide +kernel
theorem dX7_mixedFloor_45 : decode cX7_mixedFloor 45 = .ok (.i2l, 1) := by decide +kernel
theorem dX7_mixedFloor_46 : decode cX7_mixedFloor 46 = .ok (.invokestatic 326, 3) := by decide +kernel
theorem dX7_mixedFloor_49 : decode cX7_mixedFloor 49 = .ok (.lstore_n 1, 1) := by decide +kernel
theorem dX7_mixedFloor_50 : decode cX7_mixedFloor 50 = .ok (.lload_n 1, 1) := by decide +kernel
theorem dX7_mixedFloor_51 : decode cX7_mixedFloor 51 = .ok (.aload_n 0, 1) := by decide +kernel
theorem dX7_mixedFloor_52 : decode cX7_mixedFloor 52 = .ok (.iload_n 3, 1) := by decide +kernel
theorem dX7_mixedFloor_53 : decode cX7_mixedFloor 53 = .ok (.iconst 0, 1) := by decide +kernel
theorem dX7_mixedFloor_54 : decode cX7_mixedFloor 54 = .ok (.invokevirtual 394, 3) := by decide +kernel
theorem dX7_mixedFloor_57 : decode cX7_mixedFloor 57 = .ok (.i2l, 1) := by decide +kernel
theorem dX7_mixedFloor_58 : decode cX7_mixedFloor 58 = .ok (.invokestatic 326, 3) := by decide +kernel
theorem dX7_mixedFloor_61 : decode cX7_mixedFloor 61 = .ok (.aload_n 0, 1) := by decide +kernel
theorem dX7_mixedFloor_62 : decode cX7_mixedFloor 62 = .ok (.iload_n 3, 1) := by decide +kernel
theorem dX7_mixedFloor_63 : decode cX7_mixedFloor 63 = .ok (.iconst 1, 1) := by decide +kernel
theorem dX7_mixedFloor_64 : decode cX7_mixedFloor 64 = .ok (.invokevirtual 394, 3) := by decide +kernel
theorem dX7_mixedFloor_67 : decode cX7_mixedFloor 67 = .ok (.i2l, 1) := by decide +kernel
theorem dX7_mixedFloor_68 : decode cX7_mixedFloor 68 = .ok (.invokestatic 326, 3) := by decide +kernel
theorem dX7_mixedFloor_71 : decode cX7_mixedFloor 71 = .ok (.lstore_n 1, 1) := by decide +kernel
theorem dX7_mixedFloor_72 : decode cX7_mixedFloor 72 = .ok (.lload_n 1, 1) := by decide +kernel
theorem dX7_mixedFloor_73 : decode cX7_mixedFloor 73 = .ok (.aload_n 0, 1) := by decide +kernel
theorem dX7_mixedFloor_74 : decode cX7_mixedFloor 74 = .ok (.iload_n 3, 1) := by decide +kernel
theorem dX7_mixedFloor_75 : decode cX7_mixedFloor 75 = .ok (.invokevirtual 397, 3) := by decide +kernel
theorem dX7_mixedFloor_78 : decode cX7_mixedFloor 78 = .ok (.i2l, 1) := by decide +kernel
theorem dX7_mixedFloor_79 : decode cX7_mixedFloor 79 = .ok (.invokestatic 326, 3) := by decide +kernel
theorem dX7_mixedFloor_82 : decode cX7_mixedFloor 82 = .ok (.lreturn, 1) := by decide +kernel
theorem dX7_mixedWay_0 : decode cX7_mixedWay 0 = .ok (.iconst 0, 1) := by decide +kernel
theorem dX7_mixedWay_1 : decode cX7_mixedWay 1 = .ok (.istore 4, 2) := by decide +kernel
theorem dX7_mixedWay_3 : decode cX7_mixedWay 3 = .ok (.iload 4, 2) := by decide +kernel
theorem dX7_mixedWay_5 : decode cX7_mixedWay 5 = .ok (.iconst 5, 1) := by decide +kernel
theorem dX7_mixedWay_6 : decode cX7_mixedWay 6 = .ok (.if_icmp .gt 22, 3) := by decide +kernel
theorem dX7_mixedWay_9 : decode cX7_mixedWay 9 = .ok (.lload_n 1, 1) := by decide +kernel
theorem dX7_mixedWay_10 : decode cX7_mixedWay 10 = .ok (.aload_n 0, 1) := by decide +kernel
theorem dX7_mixedWay_11 : decode cX7_mixedWay 11 = .ok (.iload_n 3, 1) := by decide +kernel
theorem dX7_mixedWay_12 : decode cX7_mixedWay 12 = .ok (.iload 4, 2) := by decide +kernel
theorem dX7_mixedWay_14 : decode cX7_mixedWay 14 = .ok (.invokevirtual 400, 3) := by decide +kernel
theorem dX7_mixedWay_17 : decode cX7_mixedWay 17 = .ok (.i2l, 1) := by decide +kernel
theorem dX7_mixedWay_18 : decode cX7_mixedWay 18 = .ok (.invokestatic 326, 3) := by decide +kernel
theorem dX7_mixedWay_21 : decode cX7_mixedWay 21 = .ok (.lstore_n 1, 1) := by decide +kernel
theorem dX7_mixedWay_22 : decode cX7_mixedWay 22 = .ok (.iinc 4 1, 3) := by decide +kernel
theorem dX7_mixedWay_25 : decode cX7_mixedWay 25 = .ok (.goto (-22), 3) := by decide +kernel
theorem dX7_mixedWay_28 : decode cX7_mixedWay 28 = .ok (.aload_n 0, 1) := by decide +kernel
theorem dX7_mixedWay_29 : decode cX7_mixedWay 29 = .ok (.lload_n 1, 1) := by decide +kernel
theorem dX7_mixedWay_30 : decode cX7_mixedWay 30 = .ok (.iload_n 3, 1) := by decide +kernel
theorem dX7_mixedWay_31 : decode cX7_mixedWay 31 = .ok (.iconst 0, 1) := by decide +kernel
theorem dX7_mixedWay_32 : decode cX7_mixedWay 32 = .ok (.invokevirtual 403, 3) := by decide +kernel
theorem dX7_mixedWay_35 : decode cX7_mixedWay 35 = .ok (.lstore_n 1, 1) := by decide +kernel
theorem dX7_mixedWay_36 : decode cX7_mixedWay 36 = .ok (.aload_n 0, 1) := by decide +kernel
theorem dX7_mixedWay_37 : decode cX7_mixedWay 37 = .ok (.lload_n 1, 1) := by decide +kernel
theorem dX7_mixedWay_38 : decode cX7_mixedWay 38 = .ok (.iload_n 3, 1) := by decide +kernel
theorem dX7_mixedWay_39 : decode cX7_mixedWay 39 = .ok (.iconst 5, 1) := by decide +kernel
theorem dX7_mixedWay_40 : decode cX7_mixedWay 40 = .ok (.invokevirtual 403, 3) := by decide +kernel
theorem dX7_mixedWay_43 : decode cX7_mixedWay 43 = .ok (.lstore_n 1, 1) := by decide +kernel
theorem dX7_mixedWay_44 : decode cX7_mixedWay 44 = .ok (.aload_n 0, 1) := by decide +kernel
theorem dX7_mixedWay_45 : decode cX7_mixedWay 45 = .ok (.lload_n 1, 1) := by decide +kernel
theorem dX7_mixedWay_46 : decode cX7_mixedWay 46 = .ok (.iload_n 3, 1) := by decide +kernel
theorem dX7_mixedWay_47 : decode cX7_mixedWay 47 = .ok (.bipush 12, 2) := by decide +kernel
theorem dX7_mixedWay_49 : decode cX7_mixedWay 49 = .ok (.invokevirtual 403, 3) := by decide +kernel
theorem dX7_mixedWay_52 : decode cX7_mixedWay 52 = .ok (.lstore_n 1, 1) := by decide +kernel
theorem dX7_mixedWay_53 : decode cX7_mixedWay 53 = .ok (.aload_n 0, 1) := by decide +kernel
theorem dX7_mixedWay_54 : decode cX7_mixedWay 54 = .ok (.lload_n 1, 1) := by decide +kernel
theorem dX7_mixedWay_55 : decode cX7_mixedWay 55 = .ok (.iload_n 3, 1) := by decide +kernel
theorem dX7_mixedWay_56 : decode cX7_mixedWay 56 = .ok (.bipush 39, 2) := by decide +kernel
theorem dX7_mixedWay_58 : decode cX7_mixedWay 58 = .ok (.invokevirtual 403, 3) := by decide +kernel
theorem dX7_mixedWay_61 : decode cX7_mixedWay 61 = .ok (.lstore_n 1, 1) := by decide +kernel
theorem dX7_mixedWay_62 : decode cX7_mixedWay 62 = .ok (.lload_n 1, 1) := by decide +kernel
theorem dX7_mixedWay_63 : decode cX7_mixedWay 63 = .ok (.aload_n 0, 1) := by decide +kernel
theorem dX7_mixedWay_64 : decode cX7_mixedWay 64 = .ok (.iload_n 3, 1) := by decide +kernel
theorem dX7_mixedWay_65 : decode cX7_mixedWay 65 = .ok (.invokevirtual 407, 3) := by decide +kernel
theorem dX7_mixedWay_68 : decode cX7_mixedWay 68 = .ok (.i2l, 1) := by decide +kernel
theorem dX7_mixedWay_69 : decode cX7_mixedWay 69 = .ok (.invokestatic 326, 3) := by decide +kernel
theorem dX7_mixedWay_72 : decode cX7_mixedWay 72 = .ok (.lstore_n 1, 1) := by decide +kernel
theorem dX7_mixedWay_73 : decode cX7_mixedWay 73 = .ok (.iconst 0, 1) := by decide +kernel
theorem dX7_mixedWay_74 : decode cX7_mixedWay 74 = .ok (.istore 4, 2) := by decide +kernel
theorem dX7_mixedWay_76 : decode cX7_mixedWay 76 = .ok (.iload 4, 2) := by decide +kernel
theorem dX7_mixedWay_78 : decode cX7_mixedWay 78 = .ok (.iconst 3, 1) := by decide +kernel
theorem dX7_mixedWay_79 : decode cX7_mixedWay 79 = .ok (.if_icmp .gt 22, 3) := by decide +kernel
theorem dX7_mixedWay_82 : decode cX7_mixedWay 82 = .ok (.lload_n 1, 1) := by decide +kernel
theorem dX7_mixedWay_83 : decode cX7_mixedWay 83 = .ok (.aload_n 0, 1) := by decide +kernel
theorem dX7_mixedWay_84 : decode cX7_mixedWay 84 = .ok (.iload_n 3, 1) := by decide +kernel
theorem dX7_mixedWay_85 : decode cX7_mixedWay 85 = .ok (.iload 4, 2) := by decide +kernel
theorem dX7_mixedWay_87 : decode cX7_mixedWay 87 = .ok (.invokevirtual 410, 3) := by decide +kernel
theorem dX7_mixedWay_90 : decode cX7_mixedWay 90 = .ok (.i2l, 1) := by decide +kernel
theorem dX7_mixedWay_91 : decode cX7_mixedWay 91 = .ok (.invokestatic 326, 3) := by decide +kernel
theorem dX7_mixedWay_94 : decode cX7_mixedWay 94 = .ok (.lstore_n 1, 1) := by decide +kernel
theorem dX7_mixedWay_95 : decode cX7_mixedWay 95 = .ok (.iinc 4 1, 3) := by decide +kernel
theorem dX7_mixedWay_98 : decode cX7_mixedWay 98 = .ok (.goto (-22), 3) := by decide +kernel
theorem dX7_mixedWay_101 : decode cX7_mixedWay 101 = .ok (.lload_n 1, 1) := by decide +kernel
theorem dX7_mixedWay_102 : decode cX7_mixedWay 102 = .ok (.lreturn, 1) := by decide +kernel
theorem dX7_mixedHour_0 : decode cX7_mixedHour 0 = .ok (.iconst 0, 1) := by decide +kernel
theorem dX7_mixedHour_1 : decode cX7_mixedHour 1 = .ok (.istore 5, 2) := by decide +kernel
theorem dX7_mixedHour_3 : decode cX7_mixedHour 3 = .ok (.iload 5, 2) := by decide +kernel
theorem dX7_mixedHour_5 : decode cX7_mixedHour 5 = .ok (.iconst 3, 1) := by decide +kernel
theorem dX7_mixedHour_6 : decode cX7_mixedHour 6 = .ok (.if_icmp .gt 24, 3) := by decide +kernel
theorem dX7_mixedHour_9 : decode cX7_mixedHour 9 = .ok (.lload_n 1, 1) := by decide +kernel
theorem dX7_mixedHour_10 : decode cX7_mixedHour 10 = .ok (.aload_n 0, 1) := by decide +kernel
theorem dX7_mixedHour_11 : decode cX7_mixedHour 11 = .ok (.iload 4, 2) := by decide +kernel
theorem dX7_mixedHour_13 : decode cX7_mixedHour 13 = .ok (.iload_n 3, 1) := by decide +kernel
theorem dX7_mixedHour_14 : decode cX7_mixedHour 14 = .ok (.iload 5, 2) := by decide +kernel
theorem dX7_mixedHour_16 : decode cX7_mixedHour 16 = .ok (.invokevirtual 413, 3) := by decide +kernel
theorem dX7_mixedHour_19 : decode cX7_mixedHour 19 = .ok (.i2l, 1) := by decide +kernel
theorem dX7_mixedHour_20 : decode cX7_mixedHour 20 = .ok (.invokestatic 326, 3) := by decide +kernel
theorem dX7_mixedHour_23 : decode cX7_mixedHour 23 = .ok (.lstore_n 1, 1) := by decide +kernel
theorem dX7_mixedHour_24 : decode cX7_mixedHour 24 = .ok (.iinc 5 1, 3) := by decide +kernel
theorem dX7_mixedHour_27 : decode cX7_mixedHour 27 = .ok (.goto (-24), 3) := by decide +kernel
theorem dX7_mixedHour_30 : decode cX7_mixedHour 30 = .ok (.lload_n 1, 1) := by decide +kernel
theorem dX7_mixedHour_31 : decode cX7_mixedHour 31 = .ok (.lreturn, 1) := by decide +kernel
theorem dX7_mixedPlans_0 : decode cX7_mixedPlans 0 = .ok (.aload_n 0, 1) := by decide +kernel
theorem dX7_mixedPlans_1 : decode cX7_mixedPlans 1 = .ok (.iload_n 3, 1) := by decide +kernel
theorem dX7_mixedPlans_2 : decode cX7_mixedPlans 2 = .ok (.invokevirtual 227, 3) := by decide +kernel
theorem dX7_mixedPlans_5 : decode cX7_mixedPlans 5 = .ok (.lload_n 1, 1) := by decide +kernel
theorem dX7_mixedPlans_6 : decode cX7_mixedPlans 6 = .ok (.aload_n 0, 1) := by decide +kernel
theorem dX7_mixedPlans_7 : decode cX7_mixedPlans 7 = .ok (.getfield 64, 3) := by decide +kernel
theorem dX7_mixedPlans_10 : decode cX7_mixedPlans 10 = .ok (.getfield 224, 3) := by decide +kernel
theorem dX7_mixedPlans_13 : decode cX7_mixedPlans 13 = .ok (.i2l, 1) := by decide +kernel
theorem dX7_mixedPlans_14 : decode cX7_mixedPlans 14 = .ok (.invokestatic 326, 3) := by decide +kernel
theorem dX7_mixedPlans_17 : decode cX7_mixedPlans 17 = .ok (.aload_n 0, 1) := by decide +kernel
theorem dX7_mixedPlans_18 : decode cX7_mixedPlans 18 = .ok (.getfield 64, 3) := by decide +kernel
theorem dX7_mixedPlans_21 : decode cX7_mixedPlans 21 = .ok (.getfield 230, 3) := by decide +kernel
theorem dX7_mixedPlans_24 : decode cX7_mixedPlans 24 = .ok (.i2l, 1) := by decide +kernel
theorem dX7_mixedPlans_25 : decode cX7_mixedPlans 25 = .ok (.invokestatic 326, 3) := by decide +kernel
theorem dX7_mixedPlans_28 : decode cX7_mixedPlans 28 = .ok (.lstore_n 1, 1) := by decide +kernel
theorem dX7_mixedPlans_29 : decode cX7_mixedPlans 29 = .ok (.lload_n 1, 1) := by decide +kernel
theorem dX7_mixedPlans_30 : decode cX7_mixedPlans 30 = .ok (.aload_n 0, 1) := by decide +kernel
theorem dX7_mixedPlans_31 : decode cX7_mixedPlans 31 = .ok (.iload_n 3, 1) := by decide +kernel
theorem dX7_mixedPlans_32 : decode cX7_mixedPlans 32 = .ok (.iconst 5, 1) := by decide +kernel
theorem dX7_mixedPlans_33 : decode cX7_mixedPlans 33 = .ok (.invokevirtual 416, 3) := by decide +kernel
theorem dX7_mixedPlans_36 : decode cX7_mixedPlans 36 = .ok (.i2l, 1) := by decide +kernel
theorem dX7_mixedPlans_37 : decode cX7_mixedPlans 37 = .ok (.invokestatic 326, 3) := by decide +kernel
theorem dX7_mixedPlans_40 : decode cX7_mixedPlans 40 = .ok (.lstore_n 1, 1) := by decide +kernel
theorem dX7_mixedPlans_41 : decode cX7_mixedPlans 41 = .ok (.aload_n 0, 1) := by decide +kernel
theorem dX7_mixedPlans_42 : decode cX7_mixedPlans 42 = .ok (.iload_n 3, 1) := by decide +kernel
theorem dX7_mixedPlans_43 : decode cX7_mixedPlans 43 = .ok (.invokevirtual 240, 3) := by decide +kernel
theorem dX7_mixedPlans_46 : decode cX7_mixedPlans 46 = .ok (.lload_n 1, 1) := by decide +kernel
theorem dX7_mixedPlans_47 : decode cX7_mixedPlans 47 = .ok (.aload_n 0, 1) := by decide +kernel
theorem dX7_mixedPlans_48 : decode cX7_mixedPlans 48 = .ok (.getfield 72, 3) := by decide +kernel
theorem dX7_mixedPlans_51 : decode cX7_mixedPlans 51 = .ok (.i2l, 1) := by decide +kernel
theorem dX7_mixedPlans_52 : decode cX7_mixedPlans 52 = .ok (.invokestatic 326, 3) := by decide +kernel
theorem dX7_mixedPlans_55 : decode cX7_mixedPlans 55 = .ok (.aload_n 0, 1) := by decide +kernel
theorem dX7_mixedPlans_56 : decode cX7_mixedPlans 56 = .ok (.iconst 0, 1) := by decide +kernel
theorem dX7_mixedPlans_57 : decode cX7_mixedPlans 57 = .ok (.invokevirtual 243, 3) := by decide +kernel
theorem dX7_mixedPlans_60 : decode cX7_mixedPlans 60 = .ok (.i2l, 1) := by decide +kernel
theorem dX7_mixedPlans_61 : decode cX7_mixedPlans 61 = .ok (.invokestatic 326, 3) := by decide +kernel
theorem dX7_mixedPlans_64 : decode cX7_mixedPlans 64 = .ok (.lstore_n 1, 1) := by decide +kernel
theorem dX7_mixedPlans_65 : decode cX7_mixedPlans 65 = .ok (.aload_n 0, 1) := by decide +kernel
theorem dX7_mixedPlans_66 : decode cX7_mixedPlans 66 = .ok (.iconst 5, 1) := by decide +kernel
theorem dX7_mixedPlans_67 : decode cX7_mixedPlans 67 = .ok (.iload_n 3, 1) := by decide +kernel
theorem dX7_mixedPlans_68 : decode cX7_mixedPlans 68 = .ok (.iconst 3, 1) := by decide +kernel
theorem dX7_mixedPlans_69 : decode cX7_mixedPlans 69 = .ok (.invokevirtual 276, 3) := by decide +kernel
theorem dX7_mixedPlans_72 : decode cX7_mixedPlans 72 = .ok (.lload_n 1, 1) := by decide +kernel
theorem dX7_mixedPlans_73 : decode cX7_mixedPlans 73 = .ok (.aload_n 0, 1) := by decide +kernel
theorem dX7_mixedPlans_74 : decode cX7_mixedPlans 74 = .ok (.getfield 79, 3) := by decide +kernel
theorem dX7_mixedPlans_77 : decode cX7_mixedPlans 77 = .ok (.invokestatic 326, 3) := by decide +kernel
theorem dX7_mixedPlans_80 : decode cX7_mixedPlans 80 = .ok (.aload_n 0, 1) := by decide +kernel
theorem dX7_mixedPlans_81 : decode cX7_mixedPlans 81 = .ok (.getfield 83, 3) := by decide +kernel
theorem dX7_mixedPlans_84 : decode cX7_mixedPlans 84 = .ok (.invokestatic 326, 3) := by decide +kernel
theorem dX7_mixedPlans_87 : decode cX7_mixedPlans 87 = .ok (.lreturn, 1) := by decide +kernel
theorem dX8_in_0 : decode cX8_in 0 = .ok (.iload_n 0, 1) := by decide +kernel
theorem dX8_in_1 : decode cX8_in 1 = .ok (.iload_n 1, 1) := by decide +kernel
theorem dX8_in_2 : decode cX8_in 2 = .ok (.if_icmp .lt 12, 3) := by decide +kernel
theorem dX8_in_5 : decode cX8_in 5 = .ok (.iload_n 0, 1) := by decide +kernel
theorem dX8_in_6 : decode cX8_in 6 = .ok (.iload_n 2, 1) := by decide +kernel
theorem dX8_in_7 : decode cX8_in 7 = .ok (.if_icmp .gt 7, 3) := by decide +kernel
theorem dX8_in_10 : decode cX8_in 10 = .ok (.iconst 1, 1) := by decide +kernel
theorem dX8_in_11 : decode cX8_in 11 = .ok (.goto 4, 3) := by decide +kernel
theorem dX8_in_14 : decode cX8_in 14 = .ok (.iconst 0, 1) := by decide +kernel
theorem dX8_in_15 : decode cX8_in 15 = .ok (.ireturn, 1) := by decide +kernel
theorem dX8_isIn_0 : decode cX8_isIn 0 = .ok (.lload_n 0, 1) := by decide +kernel
theorem dX8_isIn_1 : decode cX8_isIn 1 = .ok (.iload_n 2, 1) := by decide +kernel
theorem dX8_isIn_2 : decode cX8_isIn 2 = .ok (.lshr, 1) := by decide +kernel
theorem dX8_isIn_3 : decode cX8_isIn 3 = .ok (.lconst 1, 1) := by decide +kernel
theorem dX8_isIn_4 : decode cX8_isIn 4 = .ok (.land, 1) := by decide +kernel
theorem dX8_isIn_5 : decode cX8_isIn 5 = .ok (.lconst 1, 1) := by decide +kernel
theorem dX8_isIn_6 : decode cX8_isIn 6 = .ok (.lcmp, 1) := by decide +kernel
theorem dX8_isIn_7 : decode cX8_isIn 7 = .ok (.ifCond .ne 7, 3) := by decide +kernel
theorem dX8_isIn_10 : decode cX8_isIn 10 = .ok (.iconst 1, 1) := by decide +kernel
theorem dX8_isIn_11 : decode cX8_isIn 11 = .ok (.goto 4, 3) := by decide +kernel
theorem dX8_isIn_14 : decode cX8_isIn 14 = .ok (.iconst 0, 1) := by decide +kernel
theorem dX8_isIn_15 : decode cX8_isIn 15 = .ok (.ireturn, 1) := by decide +kernel
theorem dX8_no_0 : decode cX8_no 0 = .ok (.ldc2_w 123, 3) := by decide +kernel
theorem dX8_no_3 : decode cX8_no 3 = .ok (.iload_n 0, 1) := by decide +kernel
theorem dX8_no_4 : decode cX8_no 4 = .ok (.i2l, 1) := by decide +kernel
theorem dX8_no_5 : decode cX8_no 5 = .ok (.lsub, 1) := by decide +kernel
theorem dX8_no_6 : decode cX8_no 6 = .ok (.lreturn, 1) := by decide +kernel
theorem dX8_lowest_0 : decode cX8_lowest 0 = .ok (.lload_n 0, 1) := by decide +kernel
theorem dX8_lowest_1 : decode cX8_lowest 1 = .ok (.lstore 5, 2) := by decide +kernel
theorem dX8_lowest_3 : decode cX8_lowest 3 = .ok (.lload_n 2, 1) := by decide +kernel
theorem dX8_lowest_4 : decode cX8_lowest 4 = .ok (.lstore 7, 2) := by decide +kernel
theorem dX8_lowest_6 : decode cX8_lowest 6 = .ok (.lload 7, 2) := by decide +kernel
theorem dX8_lowest_8 : decode cX8_lowest 8 = .ok (.lconst 0, 1) := by decide +kernel
theorem dX8_lowest_9 : decode cX8_lowest 9 = .ok (.lcmp, 1) := by decide +kernel
theorem dX8_lowest_10 : decode cX8_lowest 10 = .ok (.ifCond .eq 21, 3) := by decide +kernel
theorem dX8_lowest_13 : decode cX8_lowest 13 = .ok (.lload 5, 2) := by decide +kernel
theorem dX8_lowest_15 : decode cX8_lowest 15 = .ok (.lload 7, 2) := by decide +kernel
theorem dX8_lowest_17 : decode cX8_lowest 17 = .ok (.lrem, 1) := by decide +kernel
theorem dX8_lowest_18 : decode cX8_lowest 18 = .ok (.lstore 9, 2) := by decide +kernel
theorem dX8_lowest_20 : decode cX8_lowest 20 = .ok (.lload 7, 2) := by decide +kernel
theorem dX8_lowest_22 : decode cX8_lowest 22 = .ok (.lstore 5, 2) := by decide +kernel
theorem dX8_lowest_24 : decode cX8_lowest 24 = .ok (.lload 9, 2) := by decide +kernel
theorem dX8_lowest_26 : decode cX8_lowest 26 = .ok (.lstore 7, 2) := by decide +kernel
theorem dX8_lowest_28 : decode cX8_lowest 28 = .ok (.goto (-22), 3) := by decide +kernel
theorem dX8_lowest_31 : decode cX8_lowest 31 = .ok (.iload 4, 2) := by decide +kernel
theorem dX8_lowest_33 : decode cX8_lowest 33 = .ok (.ifCond .ne 10, 3) := by decide +kernel
theorem dX8_lowest_36 : decode cX8_lowest 36 = .ok (.lload_n 0, 1) := by decide +kernel
theorem dX8_lowest_37 : decode cX8_lowest 37 = .ok (.lload 5, 2) := by decide +kernel
theorem dX8_lowest_39 : decode cX8_lowest 39 = .ok (.ldiv, 1) := by decide +kernel
theorem dX8_lowest_40 : decode cX8_lowest 40 = .ok (.goto 7, 3) := by decide +kernel
theorem dX8_lowest_43 : decode cX8_lowest 43 = .ok (.lload_n 2, 1) := by decide +kernel
theorem dX8_lowest_44 : decode cX8_lowest 44 = .ok (.lload 5, 2) := by decide +kernel
theorem dX8_lowest_46 : decode cX8_lowest 46 = .ok (.ldiv, 1) := by decide +kernel
theorem dX8_lowest_47 : decode cX8_lowest 47 = .ok (.lreturn, 1) := by decide +kernel
theorem dX8_isText_0 : decode cX8_isText 0 = .ok (.iload_n 0, 1) := by decide +kernel
theorem dX8_isText_1 : decode cX8_isText 1 = .ok (.iconst 0, 1) := by decide +kernel
theorem dX8_isText_2 : decode cX8_isText 2 = .ok (.iconst 1, 1) := by decide +kernel
theorem dX8_isText_3 : decode cX8_isText 3 = .ok (.invokestatic 125, 3) := by decide +kernel
theorem dX8_isText_6 : decode cX8_isText 6 = .ok (.ireturn, 1) := by decide +kernel
theorem dX8_isHour_0 : decode cX8_isHour 0 = .ok (.iload_n 0, 1) := by decide +kernel
theorem dX8_isHour_1 : decode cX8_isHour 1 = .ok (.iconst 0, 1) := by decide +kernel
theorem dX8_isHour_2 : decode cX8_isHour 2 = .ok (.bipush 39, 2) := by decide +kernel
theorem dX8_isHour_4 : decode cX8_isHour 4 = .ok (.invokestatic 125, 3) := by decide +kernel
theorem dX8_isHour_7 : decode cX8_isHour 7 = .ok (.ireturn, 1) := by decide +kernel
theorem dX8_type_0 : decode cX8_type 0 = .ok (.iload_n 1, 1) := by decide +kernel
theorem dX8_type_1 : decode cX8_type 1 = .ok (.invokestatic 129, 3) := by decide +kernel
theorem dX8_type_4 : decode cX8_type 4 = .ok (.ifCond .eq 14, 3) := by decide +kernel
theorem dX8_type_7 : decode cX8_type 7 = .ok (.iload_n 2, 1) := by decide +kernel
theorem dX8_type_8 : decode cX8_type 8 = .ok (.iconst 0, 1) := by decide +kernel
theorem dX8_type_9 : decode cX8_type 9 = .ok (.sipush 255, 3) := by decide +kernel
theorem dX8_type_12 : decode cX8_type 12 = .ok (.invokestatic 125, 3) := by decide +kernel
theorem dX8_type_15 : decode cX8_type 15 = .ok (.ifCond .ne 6, 3) := by decide +kernel
theorem dX8_type_18 : decode cX8_type 18 = .ok (.bipush (-2), 2) := by decide +kernel
theorem dX8_type_20 : decode cX8_type 20 = .ok (.ireturn, 1) := by decide +kernel
theorem dX8_type_21 : decode cX8_type 21 = .ok (.aload_n 0, 1) := by decide +kernel
theorem dX8_type_22 : decode cX8_type 22 = .ok (.getfield 7, 3) := by decide +kernel
theorem dX8_type_25 : decode cX8_type 25 = .ok (.iload_n 1, 1) := by decide +kernel
theorem dX8_type_26 : decode cX8_type 26 = .ok (.iaload, 1) := by decide +kernel
theorem dX8_type_27 : decode cX8_type 27 = .ok (.iload_n 1, 1) := by decide +kernel
theorem dX8_type_28 : decode cX8_type 28 = .ok (.ifCond .ne 8, 3) := by decide +kernel
theorem dX8_type_31 : decode cX8_type 31 = .ok (.bipush 35, 2) := by decide +kernel
theorem dX8_type_33 : decode cX8_type 33 = .ok (.goto 5, 3) := by decide +kernel
theorem dX8_type_36 : decode cX8_type 36 = .ok (.bipush 63, 2) := by decide +kernel
theorem dX8_type_38 : decode cX8_type 38 = .ok (.if_icmp .ne 6, 3) := by decide +kernel
theorem dX8_type_41 : decode cX8_type 41 = .ok (.bipush (-4), 2) := by decide +kernel
theorem dX8_type_43 : decode cX8_type 43 = .ok (.ireturn, 1) := by decide +kernel
theorem dX8_type_44 : decode cX8_type 44 = .ok (.aload_n 0, 1) := by decide +kernel
theorem dX8_type_45 : decode cX8_type 45 = .ok (.getfield 13, 3) := by decide +kernel
theorem dX8_type_48 : decode cX8_type 48 = .ok (.bipush 63, 2) := by decide +kernel
theorem dX8_type_50 : decode cX8_type 50 = .ok (.iload_n 1, 1) := by decide +kernel
theorem dX8_type_51 : decode cX8_type 51 = .ok (.imul, 1) := by decide +kernel
theorem dX8_type_52 : decode cX8_type 52 = .ok (.aload_n 0, 1) := by decide +kernel
theorem dX8_type_53 : decode cX8_type 53 = .ok (.getfield 7, 3) := by decide +kernel
theorem dX8_type_56 : decode cX8_type 56 = .ok (.iload_n 1, 1) := by decide +kernel
theorem dX8_type_57 : decode cX8_type 57 = .ok (.iaload, 1) := by decide +kernel
theorem dX8_type_58 : decode cX8_type 58 = .ok (.iadd, 1) := by decide +kernel
theorem dX8_type_59 : decode cX8_type 59 = .ok (.iload_n 2, 1) := by decide +kernel
theorem dX8_type_60 : decode cX8_type 60 = .ok (.iastore, 1) := by decide +kernel
theorem dX8_type_61 : decode cX8_type 61 = .ok (.aload_n 0, 1) := by decide +kernel
theorem dX8_type_62 : decode cX8_type 62 = .ok (.getfield 7, 3) := by decide +kernel
theorem dX8_type_65 : decode cX8_type 65 = .ok (.iload_n 1, 1) := by decide +kernel
theorem dX8_type_66 : decode cX8_type 66 = .ok (.dup2, 1) := by decide +kernel
theorem dX8_type_67 : decode cX8_type 67 = .ok (.iaload, 1) := by decide +kernel
theorem dX8_type_68 : decode cX8_type 68 = .ok (.iconst 1, 1) := by decide +kernel
theorem dX8_type_69 : decode cX8_type 69 = .ok (.iadd, 1) := by decide +kernel
theorem dX8_type_70 : decode cX8_type 70 = .ok (.iastore, 1) := by decide +kernel
theorem dX8_type_71 : decode cX8_type 71 = .ok (.aload_n 0, 1) := by decide +kernel
theorem dX8_type_72 : decode cX8_type 72 = .ok (.getfield 7, 3) := by decide +kernel
theorem dX8_type_75 : decode cX8_type 75 = .ok (.iload_n 1, 1) := by decide +kernel
theorem dX8_type_76 : decode cX8_type 76 = .ok (.iaload, 1) := by decide +kernel
theorem dX8_type_77 : decode cX8_type 77 = .ok (.ireturn, 1) := by decide +kernel
theorem dX8_wipe_0 : decode cX8_wipe 0 = .ok (.iload_n 1, 1) := by decide +kernel
theorem dX8_wipe_1 : decode cX8_wipe 1 = .ok (.invokestatic 129, 3) := by decide +kernel
theorem dX8_wipe_4 : decode cX8_wipe 4 = .ok (.ifCond .ne 6, 3) := by decide +kernel
theorem dX8_wipe_7 : decode cX8_wipe 7 = .ok (.bipush (-2), 2) := by decide +kernel
theorem dX8_wipe_9 : decode cX8_wipe 9 = .ok (.ireturn, 1) := by decide +kernel
theorem dX8_wipe_10 : decode cX8_wipe 10 = .ok (.aload_n 0, 1) := by decide +kernel
theorem dX8_wipe_11 : decode cX8_wipe 11 = .ok (.getfield 7, 3) := by decide +kernel
theorem dX8_wipe_14 : decode cX8_wipe 14 = .ok (.iload_n 1, 1) := by decide +kernel
theorem dX8_wipe_15 : decode cX8_wipe 15 = .ok (.iaload, 1) := by decide +kernel
theorem dX8_wipe_16 : decode cX8_wipe 16 = .ok (.istore_n 2, 1) := by decide +kernel
theorem dX8_wipe_17 : decode cX8_wipe 17 = .ok (.aload_n 0, 1) := by decide +kernel
theorem dX8_wipe_18 : decode cX8_wipe 18 = .ok (.getfield 7, 3) := by decide +kernel
theorem dX8_wipe_21 : decode cX8_wipe 21 = .ok (.iload_n 1, 1) := by decide +kernel
theorem dX8_wipe_22 : decode cX8_wipe 22 = .ok (.iconst 0, 1) := by decide +kernel
theorem dX8_wipe_23 : decode cX8_wipe 23 = .ok (.iastore, 1) := by decide +kernel
theorem dX8_wipe_24 : decode cX8_wipe 24 = .ok (.iload_n 2, 1) := by decide +kernel
theorem dX8_wipe_25 : decode cX8_wipe 25 = .ok (.ireturn, 1) := by decide +kernel
theorem dX8_undo_0 : decode cX8_undo 0 = .ok (.iload_n 1, 1) := by decide +kernel
theorem dX8_undo_1 : decode cX8_undo 1 = .ok (.invokestatic 129, 3) := by decide +kernel
theorem dX8_undo_4 : decode cX8_undo 4 = .ok (.ifCond .ne 6, 3) := by decide +kernel
theorem dX8_undo_7 : decode cX8_undo 7 = .ok (.bipush (-2), 2) := by decide +kernel
theorem dX8_undo_9 : decode cX8_undo 9 = .ok (.ireturn, 1) := by decide +kernel
theorem dX8_undo_10 : decode cX8_undo 10 = .ok (.aload_n 0, 1) := by decide +kernel
theorem dX8_undo_11 : decode cX8_undo 11 = .ok (.getfield 7, 3) := by decide +kernel
theorem dX8_undo_14 : decode cX8_undo 14 = .ok (.iload_n 1, 1) := by decide +kernel
theorem dX8_undo_15 : decode cX8_undo 15 = .ok (.iaload, 1) := by decide +kernel
theorem dX8_undo_16 : decode cX8_undo 16 = .ok (.ifCond .ne 6, 3) := by decide +kernel
theorem dX8_undo_19 : decode cX8_undo 19 = .ok (.bipush (-3), 2) := by decide +kernel
theorem dX8_undo_21 : decode cX8_undo 21 = .ok (.ireturn, 1) := by decide +kernel
theorem dX8_undo_22 : decode cX8_undo 22 = .ok (.aload_n 0, 1) := by decide +kernel
theorem dX8_undo_23 : decode cX8_undo 23 = .ok (.getfield 7, 3) := by decide +kernel
theorem dX8_undo_26 : decode cX8_undo 26 = .ok (.iload_n 1, 1) := by decide +kernel
theorem dX8_undo_27 : decode cX8_undo 27 = .ok (.dup2, 1) := by decide +kernel
theorem dX8_undo_28 : decode cX8_undo 28 = .ok (.iaload, 1) := by decide +kernel
theorem dX8_undo_29 : decode cX8_undo 29 = .ok (.iconst 1, 1) := by decide +kernel
theorem dX8_undo_30 : decode cX8_undo 30 = .ok (.isub, 1) := by decide +kernel
theorem dX8_undo_31 : decode cX8_undo 31 = .ok (.iastore, 1) := by decide +kernel
theorem dX8_undo_32 : decode cX8_undo 32 = .ok (.aload_n 0, 1) := by decide +kernel
theorem dX8_undo_33 : decode cX8_undo 33 = .ok (.getfield 7, 3) := by decide +kernel
theorem dX8_undo_36 : decode cX8_undo 36 = .ok (.iload_n 1, 1) := by decide +kernel
theorem dX8_undo_37 : decode cX8_undo 37 = .ok (.iaload, 1) := by decide +kernel
theorem dX8_undo_38 : decode cX8_undo 38 = .ok (.ireturn, 1) := by decide +kernel
theorem dX8_byteAt_0 : decode cX8_byteAt 0 = .ok (.iload_n 2, 1) := by decide +kernel
theorem dX8_byteAt_1 : decode cX8_byteAt 1 = .ok (.aload_n 0, 1) := by decide +kernel
theorem dX8_byteAt_2 : decode cX8_byteAt 2 = .ok (.getfield 7, 3) := by decide +kernel
theorem dX8_byteAt_5 : decode cX8_byteAt 5 = .ok (.iload_n 1, 1) := by decide +kernel
theorem dX8_byteAt_6 : decode cX8_byteAt 6 = .ok (.iaload, 1) := by decide +kernel
theorem dX8_byteAt_7 : decode cX8_byteAt 7 = .ok (.if_icmp .ge 17, 3) := by decide +kernel
theorem dX8_byteAt_10 : decode cX8_byteAt 10 = .ok (.aload_n 0, 1) := by decide +kernel
theorem dX8_byteAt_11 : decode cX8_byteAt 11 = .ok (.getfield 13, 3) := by decide +kernel
theorem dX8_byteAt_14 : decode cX8_byteAt 14 = .ok (.bipush 63, 2) := by decide +kernel
theorem dX8_byteAt_16 : decode cX8_byteAt 16 = .ok (.iload_n 1, 1) := by decide +kernel
theorem dX8_byteAt_17 : decode cX8_byteAt 17 = .ok (.imul, 1) := by decide +kernel
theorem dX8_byteAt_18 : decode cX8_byteAt 18 = .ok (.iload_n 2, 1) := by decide +kernel
theorem dX8_byteAt_19 : decode cX8_byteAt 19 = .ok (.iadd, 1) := by decide +kernel
theorem dX8_byteAt_20 : decode cX8_byteAt 20 = .ok (.iaload, 1) := by decide +kernel
theorem dX8_byteAt_21 : decode cX8_byteAt 21 = .ok (.goto 4, 3) := by decide +kernel
theorem dX8_byteAt_24 : decode cX8_byteAt 24 = .ok (.iconst (-1), 1) := by decide +kernel
theorem dX8_byteAt_25 : decode cX8_byteAt 25 = .ok (.ireturn, 1) := by decide +kernel
theorem dX8_isLetter_0 : decode cX8_isLetter 0 = .ok (.aload_n 0, 1) := by decide +kernel
theorem dX8_isLetter_1 : decode cX8_isLetter 1 = .ok (.iload_n 1, 1) := by decide +kernel
theorem dX8_isLetter_2 : decode cX8_isLetter 2 = .ok (.iload_n 2, 1) := by decide +kernel
theorem dX8_isLetter_3 : decode cX8_isLetter 3 = .ok (.invokevirtual 133, 3) := by decide +kernel
theorem dX8_isLetter_6 : decode cX8_isLetter 6 = .ok (.bipush 97, 2) := by decide +kernel
theorem dX8_isLetter_8 : decode cX8_isLetter 8 = .ok (.bipush 104, 2) := by decide +kernel
theorem dX8_isLetter_10 : decode cX8_isLetter 10 = .ok (.invokestatic 125, 3) := by decide +kernel
theorem dX8_isLetter_13 : decode cX8_isLetter 13 = .ok (.ireturn, 1) := by decide +kernel
theorem dX8_isFigure_0 : decode cX8_isFigure 0 = .ok (.aload_n 0, 1) := by decide +kernel
theorem dX8_isFigure_1 : decode cX8_isFigure 1 = .ok (.iload_n 1, 1) := by decide +kernel
theorem dX8_isFigure_2 : decode cX8_isFigure 2 = .ok (.iload_n 2, 1) := by decide +kernel
theorem dX8_isFigure_3 : decode cX8_isFigure 3 = .ok (.invokevirtual 133, 3) := by decide +kernel
theorem dX8_isFigure_6 : decode cX8_isFigure 6 = .ok (.bipush 48, 2) := by decide +kernel
theorem dX8_isFigure_8 : decode cX8_isFigure 8 = .ok (.bipush 48, 2) := by decide +kernel
theorem dX8_isFigure_10 : decode cX8_isFigure 10 = .ok (.iload_n 3, 1) := by decide +kernel
theorem dX8_isFigure_11 : decode cX8_isFigure 11 = .ok (.iadd, 1) := by decide +kernel
theorem dX8_isFigure_12 : decode cX8_isFigure 12 = .ok (.invokestatic 125, 3) := by decide +kernel
theorem dX8_isFigure_15 : decode cX8_isFigure 15 = .ok (.ireturn, 1) := by decide +kernel
theorem dX8_readsFloor_0 : decode cX8_readsFloor 0 = .ok (.aload_n 0, 1) := by decide +kernel
theorem dX8_readsFloor_1 : decode cX8_readsFloor 1 = .ok (.iconst 0, 1) := by decide +kernel
theorem dX8_readsFloor_2 : decode cX8_readsFloor 2 = .ok (.iload_n 2, 1) := by decide +kernel
theorem dX8_readsFloor_3 : decode cX8_readsFloor 3 = .ok (.invokevirtual 133, 3) := by decide +kernel
theorem dX8_readsFloor_6 : decode cX8_readsFloor 6 = .ok (.istore_n 3, 1) := by decide +kernel
theorem dX8_readsFloor_7 : decode cX8_readsFloor 7 = .ok (.iload_n 3, 1) := by decide +kernel
theorem dX8_readsFloor_8 : decode cX8_readsFloor 8 = .ok (.bipush 112, 2) := by decide +kernel
theorem dX8_readsFloor_10 : decode cX8_readsFloor 10 = .ok (.if_icmp .ne 7, 3) := by decide +kernel
theorem dX8_readsFloor_13 : decode cX8_readsFloor 13 = .ok (.iconst 0, 1) := by decide +kernel
theorem dX8_readsFloor_14 : decode cX8_readsFloor 14 = .ok (.goto 34, 3) := by decide +kernel
theorem dX8_readsFloor_17 : decode cX8_readsFloor 17 = .ok (.iload_n 3, 1) := by decide +kernel
theorem dX8_readsFloor_18 : decode cX8_readsFloor 18 = .ok (.bipush 109, 2) := by decide +kernel
theorem dX8_readsFloor_20 : decode cX8_readsFloor 20 = .ok (.if_icmp .ne 7, 3) := by decide +kernel
theorem dX8_readsFloor_23 : decode cX8_readsFloor 23 = .ok (.iconst 1, 1) := by decide +kernel
theorem dX8_readsFloor_24 : decode cX8_readsFloor 24 = .ok (.goto 24, 3) := by decide +kernel
theorem dX8_readsFloor_27 : decode cX8_readsFloor 27 = .ok (.iload_n 3, 1) := by decide +kernel
theorem dX8_readsFloor_28 : decode cX8_readsFloor 28 = .ok (.bipush 108, 2) := by decide +kernel
theorem dX8_readsFloor_30 : decode cX8_readsFloor 30 = .ok (.if_icmp .ne 7, 3) := by decide +kernel
theorem dX8_readsFloor_33 : decode cX8_readsFloor 33 = .ok (.iconst 2, 1) := by decide +kernel
theorem dX8_readsFloor_34 : decode cX8_readsFloor 34 = .ok (.goto 14, 3) := by decide +kernel
theorem dX8_readsFloor_37 : decode cX8_readsFloor 37 = .ok (.iload_n 3, 1) := by decide +kernel
theorem dX8_readsFloor_38 : decode cX8_readsFloor 38 = .ok (.bipush 99, 2) := by decide +kernel
theorem dX8_readsFloor_40 : decode cX8_readsFloor 40 = .ok (.if_icmp .ne 7, 3) := by decide +kernel
theorem dX8_readsFloor_43 : decode cX8_readsFloor 43 = .ok (.iconst 3, 1) := by decide +kernel
theorem dX8_readsFloor_44 : decode cX8_readsFloor 44 = .ok (.goto 4, 3) := by decide +kernel
theorem dX8_readsFloor_47 : decode cX8_readsFloor 47 = .ok (.iconst (-1), 1) := by decide +kernel
theorem dX8_readsFloor_48 : decode cX8_readsFloor 48 = .ok (.istore 4, 2) := by decide +kernel
theorem dX8_readsFloor_50 : decode cX8_readsFloor 50 = .ok (.iload_n 1, 1) := by decide +kernel
theorem dX8_readsFloor_51 : decode cX8_readsFloor 51 = .ok (.bipush 9, 2) := by decide +kernel
theorem dX8_readsFloor_53 : decode cX8_readsFloor 53 = .ok (.if_icmp .eq 9, 3) := by decide +kernel
theorem dX8_readsFloor_56 : decode cX8_readsFloor 56 = .ok (.iload 4, 2) := by decide +kernel
theorem dX8_readsFloor_58 : decode cX8_readsFloor 58 = .ok (.iconst (-1), 1) := by decide +kernel
theorem dX8_readsFloor_59 : decode cX8_readsFloor 59 = .ok (.if_icmp .ne 5, 3) := by decide +kernel
theorem dX8_readsFloor_62 : decode cX8_readsFloor 62 = .ok (.iconst (-1), 1) := by decide +kernel
theorem dX8_readsFloor_63 : decode cX8_readsFloor 63 = .ok (.ireturn, 1) := by decide +kernel
theorem dX8_readsFloor_64 : decode cX8_readsFloor 64 = .ok (.aload_n 0, 1) := by decide +kernel
theorem dX8_readsFloor_65 : decode cX8_readsFloor 65 = .ok (.iconst 0, 1) := by decide +kernel
theorem dX8_readsFloor_66 : decode cX8_readsFloor 66 = .ok (.iload_n 2, 1) := by decide +kernel
theorem dX8_readsFloor_67 : decode cX8_readsFloor 67 = .ok (.iconst 1, 1) := by decide +kernel
theorem dX8_readsFloor_68 : decode cX8_readsFloor 68 = .ok (.iadd, 1) := by decide +kernel
theorem dX8_readsFloor_69 : decode cX8_readsFloor 69 = .ok (.bipush 9, 2) := by decide +kernel
theorem dX8_readsFloor_71 : decode cX8_readsFloor 71 = .ok (.invokevirtual 137, 3) := by decide +kernel
theorem dX8_readsFloor_74 : decode cX8_readsFloor 74 = .ok (.ifCond .ne 6, 3) := by decide +kernel
theorem dX8_readsFloor_77 : decode cX8_readsFloor 77 = .ok (.bipush (-2), 2) := by decide +kernel
theorem dX8_readsFloor_79 : decode cX8_readsFloor 79 = .ok (.ireturn, 1) := by decide +kernel
theorem dX8_readsFloor_80 : decode cX8_readsFloor 80 = .ok (.aload_n 0, 1) := by decide +kernel
theorem dX8_readsFloor_81 : decode cX8_readsFloor 81 = .ok (.iconst 0, 1) := by decide +kernel
theorem dX8_readsFloor_82 : decode cX8_readsFloor 82 = .ok (.iload_n 2, 1) := by decide +kernel
theorem dX8_readsFloor_83 : decode cX8_readsFloor 83 = .ok (.iconst 2, 1) := by decide +kernel
theorem dX8_readsFloor_84 : decode cX8_readsFloor 84 = .ok (.iadd, 1) := by decide +kernel
theorem dX8_readsFloor_85 : decode cX8_readsFloor 85 = .ok (.invokevirtual 140, 3) := by decide +kernel
theorem dX8_readsFloor_88 : decode cX8_readsFloor 88 = .ok (.ifCond .ne 6, 3) := by decide +kernel
theorem dX8_readsFloor_91 : decode cX8_readsFloor 91 = .ok (.bipush (-3), 2) := by decide +kernel
theorem dX8_readsFloor_93 : decode cX8_readsFloor 93 = .ok (.ireturn, 1) := by decide +kernel
theorem dX8_readsFloor_94 : decode cX8_readsFloor 94 = .ok (.aload_n 0, 1) := by decide +kernel
theorem dX8_readsFloor_95 : decode cX8_readsFloor 95 = .ok (.getfield 16, 3) := by decide +kernel
theorem dX8_readsFloor_98 : decode cX8_readsFloor 98 = .ok (.iload_n 1, 1) := by decide +kernel
theorem dX8_readsFloor_99 : decode cX8_readsFloor 99 = .ok (.iload 4, 2) := by decide +kernel
theorem dX8_readsFloor_101 : decode cX8_readsFloor 101 = .ok (.iastore, 1) := by decide +kernel
theorem dX8_readsFloor_102 : decode cX8_readsFloor 102 = .ok (.aload_n 0, 1) := by decide +kernel
theorem dX8_readsFloor_103 : decode cX8_readsFloor 103 = .ok (.getfield 19, 3) := by decide +kernel
theorem dX8_readsFloor_106 : decode cX8_readsFloor 106 = .ok (.iload_n 1, 1) := by decide +kernel
theorem dX8_readsFloor_107 : decode cX8_readsFloor 107 = .ok (.aload_n 0, 1) := by decide +kernel
theorem dX8_readsFloor_108 : decode cX8_readsFloor 108 = .ok (.iconst 0, 1) := by decide +kernel
theorem dX8_readsFloor_109 : decode cX8_readsFloor 109 = .ok (.iload_n 2, 1) := by decide +kernel
theorem dX8_readsFloor_110 : decode cX8_readsFloor 110 = .ok (.iconst 1, 1) := by decide +kernel
theorem dX8_readsFloor_111 : decode cX8_readsFloor 111 = .ok (.iadd, 1) := by decide +kernel
theorem dX8_readsFloor_112 : decode cX8_readsFloor 112 = .ok (.invokevirtual 133, 3) := by decide +kernel
theorem dX8_readsFloor_115 : decode cX8_readsFloor 115 = .ok (.bipush 48, 2) := by decide +kernel
theorem dX8_readsFloor_117 : decode cX8_readsFloor 117 = .ok (.isub, 1) := by decide +kernel
theorem dX8_readsFloor_118 : decode cX8_readsFloor 118 = .ok (.iastore, 1) := by decide +kernel
theorem dX8_readsFloor_119 : decode cX8_readsFloor 119 = .ok (.aload_n 0, 1) := by decide +kernel
theorem dX8_readsFloor_120 : decode cX8_readsFloor 120 = .ok (.getfield 22, 3) := by decide +kernel
theorem dX8_readsFloor_123 : decode cX8_readsFloor 123 = .ok (.iload_n 1, 1) := by decide +kernel
theorem dX8_readsFloor_124 : decode cX8_readsFloor 124 = .ok (.aload_n 0, 1) := by decide +kernel
theorem dX8_readsFloor_125 : decode cX8_readsFloor 125 = .ok (.iconst 0, 1) := by decide +kernel
theorem dX8_readsFloor_126 : decode cX8_readsFloor 126 = .ok (.iload_n 2, 1) := by decide +kernel
theorem dX8_readsFloor_127 : decode cX8_readsFloor 127 = .ok (.iconst 2, 1) := by decide +kernel
theorem dX8_readsFloor_128 : decode cX8_readsFloor 128 = .ok (.iadd, 1) := by decide +kernel
theorem dX8_readsFloor_129 : decode cX8_readsFloor 129 = .ok (.invokevirtual 133, 3) := by decide +kernel
theorem dX8_readsFloor_132 : decode cX8_readsFloor 132 = .ok (.bipush 97, 2) := by decide +kernel
theorem dX8_readsFloor_134 : decode cX8_readsFloor 134 = .ok (.isub, 1) := by decide +kernel
theorem dX8_readsFloor_135 : decode cX8_readsFloor 135 = .ok (.iastore, 1) := by decide +kernel
theorem dX8_readsFloor_136 : decode cX8_readsFloor 136 = .ok (.iconst 3, 1) := by decide +kernel
theorem dX8_readsFloor_137 : decode cX8_readsFloor 137 = .ok (.ireturn, 1) := by decide +kernel
theorem dX8_readsBasket_0 : decode cX8_readsBasket 0 = .ok (.iconst 0, 1) := by decide +kernel
theorem dX8_readsBasket_1 : decode cX8_readsBasket 1 = .ok (.istore_n 3, 1) := by decide +kernel
theorem dX8_readsBasket_2 : decode cX8_readsBasket 2 = .ok (.iload_n 1, 1) := by decide +kernel
theorem dX8_readsBasket_3 : decode cX8_readsBasket 3 = .ok (.bipush 8, 2) := by decide +kernel
theorem dX8_readsBasket_5 : decode cX8_readsBasket 5 = .ok (.if_icmp .ge 35, 3) := by decide +kernel
theorem dX8_readsBasket_8 : decode cX8_readsBasket 8 = .ok (.iload_n 3, 1) := by decide +kernel
theorem dX8_readsBasket_9 : decode cX8_readsBasket 9 = .ok (.iconst 4, 1) := by decide +kernel
theorem dX8_readsBasket_10 : decode cX8_readsBasket 10 = .ok (.if_icmp .ge 30, 3) := by decide +kernel
theorem dX8_readsBasket_13 : decode cX8_readsBasket 13 = .ok (.aload_n 0, 1) := by decide +kernel
theorem dX8_readsBasket_14 : decode cX8_readsBasket 14 = .ok (.iconst 1, 1) := by decide +kernel
theorem dX8_readsBasket_15 : decode cX8_readsBasket 15 = .ok (.iload_n 2, 1) := by decide +kernel
theorem dX8_readsBasket_16 : decode cX8_readsBasket 16 = .ok (.iload_n 3, 1) := by decide +kernel
theorem dX8_readsBasket_17 : decode cX8_readsBasket 17 = .ok (.iadd, 1) := by decide +kernel
theorem dX8_readsBasket_18 : decode cX8_readsBasket 18 = .ok (.iload_n 3, 1) := by decide +kernel
theorem dX8_readsBasket_19 : decode cX8_readsBasket 19 = .ok (.ifCond .ne 7, 3) := by decide +kernel
theorem dX8_readsBasket_22 : decode cX8_readsBasket 22 = .ok (.iconst 2, 1) := by decide +kernel
theorem dX8_readsBasket_23 : decode cX8_readsBasket 23 = .ok (.goto 5, 3) := by decide +kernel
theorem dX8_readsBasket_26 : decode cX8_readsBasket 26 = .ok (.bipush 9, 2) := by decide +kernel
theorem dX8_readsBasket_28 : decode cX8_readsBasket 28 = .ok (.invokevirtual 137, 3) := by decide +kernel
theorem dX8_readsBasket_31 : decode cX8_readsBasket 31 = .ok (.ifCond .eq 9, 3) := by decide +kernel
theorem dX8_readsBasket_34 : decode cX8_readsBasket 34 = .ok (.iinc 3 1, 3) := by decide +kernel
theorem dX8_readsBasket_37 : decode cX8_readsBasket 37 = .ok (.goto (-35), 3) := by decide +kernel
theorem dX8_readsBasket_40 : decode cX8_readsBasket 40 = .ok (.iload_n 3, 1) := by decide +kernel
theorem dX8_readsBasket_41 : decode cX8_readsBasket 41 = .ok (.iconst 4, 1) := by decide +kernel
theorem dX8_readsBasket_42 : decode cX8_readsBasket 42 = .ok (.if_icmp .lt 14, 3) := by decide +kernel
theorem dX8_readsBasket_45 : decode cX8_readsBasket 45 = .ok (.aload_n 0, 1) := by decide +kernel
theorem dX8_readsBasket_46 : decode cX8_readsBasket 46 = .ok (.iconst 1, 1) := by decide +kernel
theorem dX8_readsBasket_47 : decode cX8_readsBasket 47 = .ok (.iload_n 2, 1) := by decide +kernel
theorem dX8_readsBasket_48 : decode cX8_readsBasket 48 = .ok (.iconst 4, 1) := by decide +kernel
theorem dX8_readsBasket_49 : decode cX8_readsBasket 49 = .ok (.iadd, 1) := by decide +kernel
theorem dX8_readsBasket_50 : decode cX8_readsBasket 50 = .ok (.invokevirtual 140, 3) := by decide +kernel
theorem dX8_readsBasket_53 : decode cX8_readsBasket 53 = .ok (.ifCond .ne 8, 3) := by decide +kernel
theorem dX8_readsBasket_56 : decode cX8_readsBasket 56 = .ok (.iload_n 3, 1) := by decide +kernel
theorem dX8_readsBasket_57 : decode cX8_readsBasket 57 = .ok (.ineg, 1) := by decide +kernel
theorem dX8_readsBasket_58 : decode cX8_readsBasket 58 = .ok (.iconst 1, 1) := by decide +kernel
theorem dX8_readsBasket_59 : decode cX8_readsBasket 59 = .ok (.isub, 1) := by decide +kernel
theorem dX8_readsBasket_60 : decode cX8_readsBasket 60 = .ok (.ireturn, 1) := by decide +kernel
theorem dX8_readsBasket_61 : decode cX8_readsBasket 61 = .ok (.aload_n 0, 1) := by decide +kernel
theorem dX8_readsBasket_62 : decode cX8_readsBasket 62 = .ok (.getfield 25, 3) := by decide +kernel
theorem dX8_readsBasket_65 : decode cX8_readsBasket 65 = .ok (.iload_n 1, 1) := by decide +kernel
theorem dX8_readsBasket_66 : decode cX8_readsBasket 66 = .ok (.bipush 10, 2) := by decide +kernel
theorem dX8_readsBasket_68 : decode cX8_readsBasket 68 = .ok (.aload_n 0, 1) := by decide +kernel
theorem dX8_readsBasket_69 : decode cX8_readsBasket 69 = .ok (.iconst 1, 1) := by decide +kernel
theorem dX8_readsBasket_70 : decode cX8_readsBasket 70 = .ok (.iload_n 2, 1) := by decide +kernel
theorem dX8_readsBasket_71 : decode cX8_readsBasket 71 = .ok (.invokevirtual 133, 3) := by decide +kernel
theorem dX8_readsBasket_74 : decode cX8_readsBasket 74 = .ok (.bipush 48, 2) := by decide +kernel
theorem dX8_readsBasket_76 : decode cX8_readsBasket 76 = .ok (.isub, 1) := by decide +kernel
theorem dX8_readsBasket_77 : decode cX8_readsBasket 77 = .ok (.imul, 1) := by decide +kernel
theorem dX8_readsBasket_78 : decode cX8_readsBasket 78 = .ok (.aload_n 0, 1) := by decide +kernel
theorem dX8_readsBasket_79 : decode cX8_readsBasket 79 = .ok (.iconst 1, 1) := by decide +kernel
theorem dX8_readsBasket_80 : decode cX8_readsBasket 80 = .ok (.iload_n 2, 1) := by decide +kernel
theorem dX8_readsBasket_81 : decode cX8_readsBasket 81 = .ok (.iconst 1, 1) := by decide +kernel
theorem dX8_readsBasket_82 : decode cX8_readsBasket 82 = .ok (.iadd, 1) := by decide +kernel
theorem dX8_readsBasket_83 : decode cX8_readsBasket 83 = .ok (.invokevirtual 133, 3) := by decide +kernel
theorem dX8_readsBasket_86 : decode cX8_readsBasket 86 = .ok (.iadd, 1) := by decide +kernel
theorem dX8_readsBasket_87 : decode cX8_readsBasket 87 = .ok (.bipush 48, 2) := by decide +kernel
theorem dX8_readsBasket_89 : decode cX8_readsBasket 89 = .ok (.isub, 1) := by decide +kernel
theorem dX8_readsBasket_90 : decode cX8_readsBasket 90 = .ok (.iastore, 1) := by decide +kernel
theorem dX8_readsBasket_91 : decode cX8_readsBasket 91 = .ok (.aload_n 0, 1) := by decide +kernel
theorem dX8_readsBasket_92 : decode cX8_readsBasket 92 = .ok (.getfield 28, 3) := by decide +kernel
theorem dX8_readsBasket_95 : decode cX8_readsBasket 95 = .ok (.iload_n 1, 1) := by decide +kernel
theorem dX8_readsBasket_96 : decode cX8_readsBasket 96 = .ok (.bipush 10, 2) := by decide +kernel
theorem dX8_readsBasket_98 : decode cX8_readsBasket 98 = .ok (.aload_n 0, 1) := by decide +kernel
theorem dX8_readsBasket_99 : decode cX8_readsBasket 99 = .ok (.iconst 1, 1) := by decide +kernel
theorem dX8_readsBasket_100 : decode cX8_readsBasket 100 = .ok (.iload_n 2, 1) := by decide +kernel
theorem dX8_readsBasket_101 : decode cX8_readsBasket 101 = .ok (.iconst 2, 1) := by decide +kernel
theorem dX8_readsBasket_102 : decode cX8_readsBasket 102 = .ok (.iadd, 1) := by decide +kernel
theorem dX8_readsBasket_103 : decode cX8_readsBasket 103 = .ok (.invokevirtual 133, 3) := by decide +kernel
theorem dX8_readsBasket_106 : decode cX8_readsBasket 106 = .ok (.bipush 48, 2) := by decide +kernel
theorem dX8_readsBasket_108 : decode cX8_readsBasket 108 = .ok (.isub, 1) := by decide +kernel
theorem dX8_readsBasket_109 : decode cX8_readsBasket 109 = .ok (.imul, 1) := by decide +kernel
theorem dX8_readsBasket_110 : decode cX8_readsBasket 110 = .ok (.aload_n 0, 1) := by decide +kernel
theorem dX8_readsBasket_111 : decode cX8_readsBasket 111 = .ok (.iconst 1, 1) := by decide +kernel
theorem dX8_readsBasket_112 : decode cX8_readsBasket 112 = .ok (.iload_n 2, 1) := by decide +kernel
theorem dX8_readsBasket_113 : decode cX8_readsBasket 113 = .ok (.iconst 3, 1) := by decide +kernel
theorem dX8_readsBasket_114 : decode cX8_readsBasket 114 = .ok (.iadd, 1) := by decide +kernel
theorem dX8_readsBasket_115 : decode cX8_readsBasket 115 = .ok (.invokevirtual 133, 3) := by decide +kernel
theorem dX8_readsBasket_118 : decode cX8_readsBasket 118 = .ok (.iadd, 1) := by decide +kernel
theorem dX8_readsBasket_119 : decode cX8_readsBasket 119 = .ok (.bipush 48, 2) := by decide +kernel
theorem dX8_readsBasket_121 : decode cX8_readsBasket 121 = .ok (.isub, 1) := by decide +kernel
theorem dX8_readsBasket_122 : decode cX8_readsBasket 122 = .ok (.iastore, 1) := by decide +kernel
theorem dX8_readsBasket_123 : decode cX8_readsBasket 123 = .ok (.iconst 0, 1) := by decide +kernel
theorem dX8_readsBasket_124 : decode cX8_readsBasket 124 = .ok (.istore 4, 2) := by decide +kernel
theorem dX8_readsBasket_126 : decode cX8_readsBasket 126 = .ok (.iload 4, 2) := by decide +kernel
theorem dX8_readsBasket_128 : decode cX8_readsBasket 128 = .ok (.iconst 3, 1) := by decide +kernel
theorem dX8_readsBasket_129 : decode cX8_readsBasket 129 = .ok (.if_icmp .ge 48, 3) := by decide +kernel
theorem dX8_readsBasket_132 : decode cX8_readsBasket 132 = .ok (.aload_n 0, 1) := by decide +kernel
theorem dX8_readsBasket_133 : decode cX8_readsBasket 133 = .ok (.iconst 1, 1) := by decide +kernel
theorem dX8_readsBasket_134 : decode cX8_readsBasket 134 = .ok (.iload_n 2, 1) := by decide +kernel
theorem dX8_readsBasket_135 : decode cX8_readsBasket 135 = .ok (.iconst 4, 1) := by decide +kernel
theorem dX8_readsBasket_136 : decode cX8_readsBasket 136 = .ok (.iadd, 1) := by decide +kernel
theorem dX8_readsBasket_137 : decode cX8_readsBasket 137 = .ok (.iload 4, 2) := by decide +kernel
theorem dX8_readsBasket_139 : decode cX8_readsBasket 139 = .ok (.iadd, 1) := by decide +kernel
theorem dX8_readsBasket_140 : decode cX8_readsBasket 140 = .ok (.invokevirtual 140, 3) := by decide +kernel
theorem dX8_readsBasket_143 : decode cX8_readsBasket 143 = .ok (.ifCond .eq 34, 3) := by decide +kernel
theorem dX8_readsBasket_146 : decode cX8_readsBasket 146 = .ok (.aload_n 0, 1) := by decide +kernel
theorem dX8_readsBasket_147 : decode cX8_readsBasket 147 = .ok (.getfield 34, 3) := by decide +kernel
theorem dX8_readsBasket_150 : decode cX8_readsBasket 150 = .ok (.iconst 3, 1) := by decide +kernel
theorem dX8_readsBasket_151 : decode cX8_readsBasket 151 = .ok (.iload_n 1, 1) := by decide +kernel
theorem dX8_readsBasket_152 : decode cX8_readsBasket 152 = .ok (.imul, 1) := by decide +kernel
theorem dX8_readsBasket_153 : decode cX8_readsBasket 153 = .ok (.iload 4, 2) := by decide +kernel
theorem dX8_readsBasket_155 : decode cX8_readsBasket 155 = .ok (.iadd, 1) := by decide +kernel
theorem dX8_readsBasket_156 : decode cX8_readsBasket 156 = .ok (.aload_n 0, 1) := by decide +kernel
theorem dX8_readsBasket_157 : decode cX8_readsBasket 157 = .ok (.iconst 1, 1) := by decide +kernel
theorem dX8_readsBasket_158 : decode cX8_readsBasket 158 = .ok (.iload_n 2, 1) := by decide +kernel
theorem dX8_readsBasket_159 : decode cX8_readsBasket 159 = .ok (.iconst 4, 1) := by decide +kernel
theorem dX8_readsBasket_160 : decode cX8_readsBasket 160 = .ok (.iadd, 1) := by decide +kernel
theorem dX8_readsBasket_161 : decode cX8_readsBasket 161 = .ok (.iload 4, 2) := by decide +kernel
theorem dX8_readsBasket_163 : decode cX8_readsBasket 163 = .ok (.iadd, 1) := by decide +kernel
theorem dX8_readsBasket_164 : decode cX8_readsBasket 164 = .ok (.invokevirtual 133, 3) := by decide +kernel
theorem dX8_readsBasket_167 : decode cX8_readsBasket 167 = .ok (.bipush 97, 2) := by decide +kernel
theorem dX8_readsBasket_169 : decode cX8_readsBasket 169 = .ok (.isub, 1) := by decide +kernel
theorem dX8_readsBasket_170 : decode cX8_readsBasket 170 = .ok (.iastore, 1) := by decide +kernel
theorem dX8_readsBasket_171 : decode cX8_readsBasket 171 = .ok (.iinc 4 1, 3) := by decide +kernel
theorem dX8_readsBasket_174 : decode cX8_readsBasket 174 = .ok (.goto (-48), 3) := by decide +kernel
theorem dX8_readsBasket_177 : decode cX8_readsBasket 177 = .ok (.aload_n 0, 1) := by decide +kernel
theorem dX8_readsBasket_178 : decode cX8_readsBasket 178 = .ok (.getfield 31, 3) := by decide +kernel
theorem dX8_readsBasket_181 : decode cX8_readsBasket 181 = .ok (.iload_n 1, 1) := by decide +kernel
theorem dX8_readsBasket_182 : decode cX8_readsBasket 182 = .ok (.iload 4, 2) := by decide +kernel
theorem dX8_readsBasket_184 : decode cX8_readsBasket 184 = .ok (.iastore, 1) := by decide +kernel
theorem dX8_readsBasket_185 : decode cX8_readsBasket 185 = .ok (.iconst 4, 1) := by decide +kernel
theorem dX8_readsBasket_186 : decode cX8_readsBasket 186 = .ok (.iload 4, 2) := by decide +kernel
theorem dX8_readsBasket_188 : decode cX8_readsBasket 188 = .ok (.iadd, 1) := by decide +kernel
theorem dX8_readsBasket_189 : decode cX8_readsBasket 189 = .ok (.ireturn, 1) := by decide +kernel
theorem dX8_readsParts_0 : decode cX8_readsParts 0 = .ok (.iconst 0, 1) := by decide +kernel
theorem dX8_readsParts_1 : decode cX8_readsParts 1 = .ok (.istore_n 2, 1) := by decide +kernel
theorem dX8_readsParts_2 : decode cX8_readsParts 2 = .ok (.iconst 0, 1) := by decide +kernel
theorem dX8_readsParts_3 : decode cX8_readsParts 3 = .ok (.istore_n 3, 1) := by decide +kernel
theorem dX8_readsParts_4 : decode cX8_readsParts 4 = .ok (.aload_n 0, 1) := by decide +kernel
theorem dX8_readsParts_5 : decode cX8_readsParts 5 = .ok (.iload_n 1, 1) := by decide +kernel
theorem dX8_readsParts_6 : decode cX8_readsParts 6 = .ok (.ifCond .ne 7, 3) := by decide +kernel
theorem dX8_readsParts_9 : decode cX8_readsParts 9 = .ok (.iconst 0, 1) := by decide +kernel
theorem dX8_readsParts_10 : decode cX8_readsParts 10 = .ok (.goto 7, 3) := by decide +kernel
theorem dX8_readsParts_13 : decode cX8_readsParts 13 = .ok (.aload_n 0, 1) := by decide +kernel
theorem dX8_readsParts_14 : decode cX8_readsParts 14 = .ok (.getfield 144, 3) := by decide +kernel
theorem dX8_readsParts_17 : decode cX8_readsParts 17 = .ok (.putfield 144, 3) := by decide +kernel
theorem dX8_readsParts_20 : decode cX8_readsParts 20 = .ok (.aload_n 0, 1) := by decide +kernel
theorem dX8_readsParts_21 : decode cX8_readsParts 21 = .ok (.iload_n 1, 1) := by decide +kernel
theorem dX8_readsParts_22 : decode cX8_readsParts 22 = .ok (.iconst 1, 1) := by decide +kernel
theorem dX8_readsParts_23 : decode cX8_readsParts 23 = .ok (.if_icmp .ne 7, 3) := by decide +kernel
theorem dX8_readsParts_26 : decode cX8_readsParts 26 = .ok (.iconst 0, 1) := by decide +kernel
theorem dX8_readsParts_27 : decode cX8_readsParts 27 = .ok (.goto 7, 3) := by decide +kernel
theorem dX8_readsParts_30 : decode cX8_readsParts 30 = .ok (.aload_n 0, 1) := by decide +kernel
theorem dX8_readsParts_31 : decode cX8_readsParts 31 = .ok (.getfield 147, 3) := by decide +kernel
theorem dX8_readsParts_34 : decode cX8_readsParts 34 = .ok (.putfield 147, 3) := by decide +kernel
theorem dX8_readsParts_37 : decode cX8_readsParts 37 = .ok (.iload_n 3, 1) := by decide +kernel
theorem dX8_readsParts_38 : decode cX8_readsParts 38 = .ok (.aload_n 0, 1) := by decide +kernel
theorem dX8_readsParts_39 : decode cX8_readsParts 39 = .ok (.getfield 7, 3) := by decide +kernel
theorem dX8_readsParts_42 : decode cX8_readsParts 42 = .ok (.iload_n 1, 1) := by decide +kernel
theorem dX8_readsParts_43 : decode cX8_readsParts 43 = .ok (.iaload, 1) := by decide +kernel
theorem dX8_readsParts_44 : decode cX8_readsParts 44 = .ok (.if_icmp .lt 7, 3) := by decide +kernel
theorem dX8_readsParts_47 : decode cX8_readsParts 47 = .ok (.iload_n 3, 1) := by decide +kernel
theorem dX8_readsParts_48 : decode cX8_readsParts 48 = .ok (.ifCond .le 108, 3) := by decide +kernel
theorem dX8_readsParts_51 : decode cX8_readsParts 51 = .ok (.iload_n 1, 1) := by decide +kernel
theorem dX8_readsParts_52 : decode cX8_readsParts 52 = .ok (.ifCond .ne 12, 3) := by decide +kernel
theorem dX8_readsParts_55 : decode cX8_readsParts 55 = .ok (.aload_n 0, 1) := by decide +kernel
theorem dX8_readsParts_56 : decode cX8_readsParts 56 = .ok (.iload_n 2, 1) := by decide +kernel
theorem dX8_readsParts_57 : decode cX8_readsParts 57 = .ok (.iload_n 3, 1) := by decide +kernel
theorem dX8_readsParts_58 : decode cX8_readsParts 58 = .ok (.invokevirtual 150, 3) := by decide +kernel
theorem dX8_readsParts_61 : decode cX8_readsParts 61 = .ok (.goto 9, 3) := by decide +kernel
theorem dX8_readsParts_64 : decode cX8_readsParts 64 = .ok (.aload_n 0, 1) := by decide +kernel
theorem dX8_readsParts_65 : decode cX8_readsParts 65 = .ok (.iload_n 2, 1) := by decide +kernel
theorem dX8_readsParts_66 : decode cX8_readsParts 66 = .ok (.iload_n 3, 1) := by decide +kernel
theorem dX8_readsParts_67 : decode cX8_readsParts 67 = .ok (.invokevirtual 153, 3) := by decide +kernel
theorem dX8_readsParts_70 : decode cX8_readsParts 70 = .ok (.istore 4, 2) := by decide +kernel
theorem dX8_readsParts_72 : decode cX8_readsParts 72 = .ok (.iload 4, 2) := by decide +kernel
theorem dX8_readsParts_74 : decode cX8_readsParts 74 = .ok (.ifCond .ge 10, 3) := by decide +kernel
theorem dX8_readsParts_77 : decode cX8_readsParts 77 = .ok (.iload_n 3, 1) := by decide +kernel
theorem dX8_readsParts_78 : decode cX8_readsParts 78 = .ok (.iload 4, 2) := by decide +kernel
theorem dX8_readsParts_80 : decode cX8_readsParts 80 = .ok (.isub, 1) := by decide +kernel
theorem dX8_readsParts_81 : decode cX8_readsParts 81 = .ok (.iconst 1, 1) := by decide +kernel
theorem dX8_readsParts_82 : decode cX8_readsParts 82 = .ok (.isub, 1) := by decide +kernel
theorem dX8_readsParts_83 : decode cX8_readsParts 83 = .ok (.ireturn, 1) := by decide +kernel
theorem dX8_readsParts_84 : decode cX8_readsParts 84 = .ok (.iinc 2 1, 3) := by decide +kernel
theorem dX8_readsParts_87 : decode cX8_readsParts 87 = .ok (.iload_n 3, 1) := by decide +kernel
theorem dX8_readsParts_88 : decode cX8_readsParts 88 = .ok (.iload 4, 2) := by decide +kernel
theorem dX8_readsParts_90 : decode cX8_readsParts 90 = .ok (.iadd, 1) := by decide +kernel
theorem dX8_readsParts_91 : decode cX8_readsParts 91 = .ok (.istore_n 3, 1) := by decide +kernel
theorem dX8_readsParts_92 : decode cX8_readsParts 92 = .ok (.iload_n 3, 1) := by decide +kernel
theorem dX8_readsParts_93 : decode cX8_readsParts 93 = .ok (.aload_n 0, 1) := by decide +kernel
theorem dX8_readsParts_94 : decode cX8_readsParts 94 = .ok (.getfield 7, 3) := by decide +kernel
theorem dX8_readsParts_97 : decode cX8_readsParts 97 = .ok (.iload_n 1, 1) := by decide +kernel
theorem dX8_readsParts_98 : decode cX8_readsParts 98 = .ok (.iaload, 1) := by decide +kernel
theorem dX8_readsParts_99 : decode cX8_readsParts 99 = .ok (.if_icmp .ne 38, 3) := by decide +kernel
theorem dX8_readsParts_102 : decode cX8_readsParts 102 = .ok (.aload_n 0, 1) := by decide +kernel
theorem dX8_readsParts_103 : decode cX8_readsParts 103 = .ok (.iload_n 1, 1) := by decide +kernel
theorem dX8_readsParts_104 : decode cX8_readsParts 104 = .ok (.ifCond .ne 7, 3) := by decide +kernel
theorem dX8_readsParts_107 : decode cX8_readsParts 107 = .ok (.iload_n 2, 1) := by decide +kernel
theorem dX8_readsParts_108 : decode cX8_readsParts 108 = .ok (.goto 7, 3) := by decide +kernel
theorem dX8_readsParts_111 : decode cX8_readsParts 111 = .ok (.aload_n 0, 1) := by decide +kernel
theorem dX8_readsParts_112 : decode cX8_readsParts 112 = .ok (.getfield 144, 3) := by decide +kernel
theorem dX8_readsParts_115 : decode cX8_readsParts 115 = .ok (.putfield 144, 3) := by decide +kernel
theorem dX8_readsParts_118 : decode cX8_readsParts 118 = .ok (.aload_n 0, 1) := by decide +kernel
theorem dX8_readsParts_119 : decode cX8_readsParts 119 = .ok (.iload_n 1, 1) := by decide +kernel
theorem dX8_readsParts_120 : decode cX8_readsParts 120 = .ok (.iconst 1, 1) := by decide +kernel
theorem dX8_readsParts_121 : decode cX8_readsParts 121 = .ok (.if_icmp .ne 7, 3) := by decide +kernel
theorem dX8_readsParts_124 : decode cX8_readsParts 124 = .ok (.iload_n 2, 1) := by decide +kernel
theorem dX8_readsParts_125 : decode cX8_readsParts 125 = .ok (.goto 7, 3) := by decide +kernel
theorem dX8_readsParts_128 : decode cX8_readsParts 128 = .ok (.aload_n 0, 1) := by decide +kernel
theorem dX8_readsParts_129 : decode cX8_readsParts 129 = .ok (.getfield 147, 3) := by decide +kernel
theorem dX8_readsParts_132 : decode cX8_readsParts 132 = .ok (.putfield 147, 3) := by decide +kernel
theorem dX8_readsParts_135 : decode cX8_readsParts 135 = .ok (.iconst (-1), 1) := by decide +kernel
theorem dX8_readsParts_136 : decode cX8_readsParts 136 = .ok (.ireturn, 1) := by decide +kernel
theorem dX8_readsParts_137 : decode cX8_readsParts 137 = .ok (.aload_n 0, 1) := by decide +kernel
theorem dX8_readsParts_138 : decode cX8_readsParts 138 = .ok (.iload_n 1, 1) := by decide +kernel
theorem dX8_readsParts_139 : decode cX8_readsParts 139 = .ok (.iload_n 3, 1) := by decide +kernel
theorem dX8_readsParts_140 : decode cX8_readsParts 140 = .ok (.invokevirtual 133, 3) := by decide +kernel
theorem dX8_readsParts_143 : decode cX8_readsParts 143 = .ok (.bipush 59, 2) := by decide +kernel
theorem dX8_readsParts_145 : decode cX8_readsParts 145 = .ok (.if_icmp .eq 5, 3) := by decide +kernel
theorem dX8_readsParts_148 : decode cX8_readsParts 148 = .ok (.iload_n 3, 1) := by decide +kernel
theorem dX8_readsParts_149 : decode cX8_readsParts 149 = .ok (.ireturn, 1) := by decide +kernel
theorem dX8_readsParts_150 : decode cX8_readsParts 150 = .ok (.iinc 3 1, 3) := by decide +kernel
theorem dX8_readsParts_153 : decode cX8_readsParts 153 = .ok (.goto (-116), 3) := by decide +kernel
theorem dX8_readsParts_156 : decode cX8_readsParts 156 = .ok (.iconst (-1), 1) := by decide +kernel
theorem dX8_readsParts_157 : decode cX8_readsParts 157 = .ok (.ireturn, 1) := by decide +kernel
theorem dX8_faultOf_0 : decode cX8_faultOf 0 = .ok (.aload_n 0, 1) := by decide +kernel
theorem dX8_faultOf_1 : decode cX8_faultOf 1 = .ok (.iconst 0, 1) := by decide +kernel
theorem dX8_faultOf_2 : decode cX8_faultOf 2 = .ok (.invokevirtual 156, 3) := by decide +kernel
theorem dX8_faultOf_5 : decode cX8_faultOf 5 = .ok (.istore_n 2, 1) := by decide +kernel
theorem dX8_faultOf_6 : decode cX8_faultOf 6 = .ok (.aload_n 0, 1) := by decide +kernel
theorem dX8_faultOf_7 : decode cX8_faultOf 7 = .ok (.iconst 1, 1) := by decide +kernel
theorem dX8_faultOf_8 : decode cX8_faultOf 8 = .ok (.invokevirtual 156, 3) := by decide +kernel
theorem dX8_faultOf_11 : decode cX8_faultOf 11 = .ok (.istore_n 3, 1) := by decide +kernel
theorem dX8_faultOf_12 : decode cX8_faultOf 12 = .ok (.iload_n 1, 1) := by decide +kernel
theorem dX8_faultOf_13 : decode cX8_faultOf 13 = .ok (.ifCond .ne 7, 3) := by decide +kernel
theorem dX8_faultOf_16 : decode cX8_faultOf 16 = .ok (.iload_n 2, 1) := by decide +kernel
theorem dX8_faultOf_17 : decode cX8_faultOf 17 = .ok (.goto 4, 3) := by decide +kernel
theorem dX8_faultOf_20 : decode cX8_faultOf 20 = .ok (.iload_n 3, 1) := by decide +kernel
theorem dX8_faultOf_21 : decode cX8_faultOf 21 = .ok (.ireturn, 1) := by decide +kernel
theorem dX8_reads_0 : decode cX8_reads 0 = .ok (.aload_n 0, 1) := by decide +kernel
theorem dX8_reads_1 : decode cX8_reads 1 = .ok (.iconst 0, 1) := by decide +kernel
theorem dX8_reads_2 : decode cX8_reads 2 = .ok (.invokevirtual 160, 3) := by decide +kernel
theorem dX8_reads_5 : decode cX8_reads 5 = .ok (.istore_n 1, 1) := by decide +kernel
theorem dX8_reads_6 : decode cX8_reads 6 = .ok (.return_, 1) := by decide +kernel
theorem dX8_fault_0 : decode cX8_fault 0 = .ok (.iload_n 1, 1) := by decide +kernel
theorem dX8_fault_1 : decode cX8_fault 1 = .ok (.invokestatic 129, 3) := by decide +kernel
theorem dX8_fault_4 : decode cX8_fault 4 = .ok (.ifCond .eq 11, 3) := by decide +kernel
theorem dX8_fault_7 : decode cX8_fault 7 = .ok (.aload_n 0, 1) := by decide +kernel
theorem dX8_fault_8 : decode cX8_fault 8 = .ok (.iload_n 1, 1) := by decide +kernel
theorem dX8_fault_9 : decode cX8_fault 9 = .ok (.invokevirtual 160, 3) := by decide +kernel
theorem dX8_fault_12 : decode cX8_fault 12 = .ok (.goto 5, 3) := by decide +kernel
theorem dX8_fault_15 : decode cX8_fault 15 = .ok (.bipush (-2), 2) := by decide +kernel
theorem dX8_fault_17 : decode cX8_fault 17 = .ok (.ireturn, 1) := by decide +kernel
theorem dX8_isFloor_0 : decode cX8_isFloor 0 = .ok (.aload_n 0, 1) := by decide +kernel
theorem dX8_isFloor_1 : decode cX8_isFloor 1 = .ok (.invokevirtual 163, 3) := by decide +kernel
theorem dX8_isFloor_4 : decode cX8_isFloor 4 = .ok (.iload_n 1, 1) := by decide +kernel
theorem dX8_isFloor_5 : decode cX8_isFloor 5 = .ok (.iconst 0, 1) := by decide +kernel
theorem dX8_isFloor_6 : decode cX8_isFloor 6 = .ok (.aload_n 0, 1) := by decide +kernel
theorem dX8_isFloor_7 : decode cX8_isFloor 7 = .ok (.getfield 144, 3) := by decide +kernel
theorem dX8_isFloor_10 : decode cX8_isFloor 10 = .ok (.iconst 1, 1) := by decide +kernel
theorem dX8_isFloor_11 : decode cX8_isFloor 11 = .ok (.isub, 1) := by decide +kernel
theorem dX8_isFloor_12 : decode cX8_isFloor 12 = .ok (.invokestatic 125, 3) := by decide +kernel
theorem dX8_isFloor_15 : decode cX8_isFloor 15 = .ok (.ireturn, 1) := by decide +kernel
theorem dX8_isBasket_0 : decode cX8_isBasket 0 = .ok (.aload_n 0, 1) := by decide +kernel
theorem dX8_isBasket_1 : decode cX8_isBasket 1 = .ok (.invokevirtual 163, 3) := by decide +kernel
theorem dX8_isBasket_4 : decode cX8_isBasket 4 = .ok (.iload_n 1, 1) := by decide +kernel
theorem dX8_isBasket_5 : decode cX8_isBasket 5 = .ok (.iconst 0, 1) := by decide +kernel
theorem dX8_isBasket_6 : decode cX8_isBasket 6 = .ok (.aload_n 0, 1) := by decide +kernel
theorem dX8_isBasket_7 : decode cX8_isBasket 7 = .ok (.getfield 147, 3) := by decide +kernel
theorem dX8_isBasket_10 : decode cX8_isBasket 10 = .ok (.iconst 1, 1) := by decide +kernel
theorem dX8_isBasket_11 : decode cX8_isBasket 11 = .ok (.isub, 1) := by decide +kernel
theorem dX8_isBasket_12 : decode cX8_isBasket 12 = .ok (.invokestatic 125, 3) := by decide +kernel
theorem dX8_isBasket_15 : decode cX8_isBasket 15 = .ok (.ireturn, 1) := by decide +kernel
theorem dX8_floorOf_0 : decode cX8_floorOf 0 = .ok (.iload_n 2, 1) := by decide +kernel
theorem dX8_floorOf_1 : decode cX8_floorOf 1 = .ok (.ifCond .ne 12, 3) := by decide +kernel
theorem dX8_floorOf_4 : decode cX8_floorOf 4 = .ok (.aload_n 0, 1) := by decide +kernel
theorem dX8_floorOf_5 : decode cX8_floorOf 5 = .ok (.getfield 16, 3) := by decide +kernel
theorem dX8_floorOf_8 : decode cX8_floorOf 8 = .ok (.iload_n 1, 1) := by decide +kernel
theorem dX8_floorOf_9 : decode cX8_floorOf 9 = .ok (.iaload, 1) := by decide +kernel
theorem dX8_floorOf_10 : decode cX8_floorOf 10 = .ok (.goto 23, 3) := by decide +kernel
theorem dX8_floorOf_13 : decode cX8_floorOf 13 = .ok (.iload_n 2, 1) := by decide +kernel
theorem dX8_floorOf_14 : decode cX8_floorOf 14 = .ok (.iconst 1, 1) := by decide +kernel
theorem dX8_floorOf_15 : decode cX8_floorOf 15 = .ok (.if_icmp .ne 12, 3) := by decide +kernel
theorem dX8_floorOf_18 : decode cX8_floorOf 18 = .ok (.aload_n 0, 1) := by decide +kernel
theorem dX8_floorOf_19 : decode cX8_floorOf 19 = .ok (.getfield 19, 3) := by decide +kernel
theorem dX8_floorOf_22 : decode cX8_floorOf 22 = .ok (.iload_n 1, 1) := by decide +kernel
theorem dX8_floorOf_23 : decode cX8_floorOf 23 = .ok (.iaload, 1) := by decide +kernel
theorem dX8_floorOf_24 : decode cX8_floorOf 24 = .ok (.goto 9, 3) := by decide +kernel
theorem dX8_floorOf_27 : decode cX8_floorOf 27 = .ok (.aload_n 0, 1) := by decide +kernel
theorem dX8_floorOf_28 : decode cX8_floorOf 28 = .ok (.getfield 22, 3) := by decide +kernel
theorem dX8_floorOf_31 : decode cX8_floorOf 31 = .ok (.iload_n 1, 1) := by decide +kernel
theorem dX8_floorOf_32 : decode cX8_floorOf 32 = .ok (.iaload, 1) := by decide +kernel
theorem dX8_floorOf_33 : decode cX8_floorOf 33 = .ok (.ireturn, 1) := by decide +kernel
theorem dX8_floor_0 : decode cX8_floor 0 = .ok (.aload_n 0, 1) := by decide +kernel
theorem dX8_floor_1 : decode cX8_floor 1 = .ok (.iload_n 1, 1) := by decide +kernel
theorem dX8_floor_2 : decode cX8_floor 2 = .ok (.invokevirtual 166, 3) := by decide +kernel
theorem dX8_floor_5 : decode cX8_floor 5 = .ok (.ifCond .eq 21, 3) := by decide +kernel
theorem dX8_floor_8 : decode cX8_floor 8 = .ok (.iload_n 2, 1) := by decide +kernel
theorem dX8_floor_9 : decode cX8_floor 9 = .ok (.iconst 0, 1) := by decide +kernel
theorem dX8_floor_10 : decode cX8_floor 10 = .ok (.iconst 2, 1) := by decide +kernel
theorem dX8_floor_11 : decode cX8_floor 11 = .ok (.invokestatic 125, 3) := by decide +kernel
theorem dX8_floor_14 : decode cX8_floor 14 = .ok (.ifCond .eq 12, 3) := by decide +kernel
theorem dX8_floor_17 : decode cX8_floor 17 = .ok (.aload_n 0, 1) := by decide +kernel
theorem dX8_floor_18 : decode cX8_floor 18 = .ok (.iload_n 1, 1) := by decide +kernel
theorem dX8_floor_19 : decode cX8_floor 19 = .ok (.iload_n 2, 1) := by decide +kernel
theorem dX8_floor_20 : decode cX8_floor 20 = .ok (.invokevirtual 169, 3) := by decide +kernel
theorem dX8_floor_23 : decode cX8_floor 23 = .ok (.goto 5, 3) := by decide +kernel
theorem dX8_floor_26 : decode cX8_floor 26 = .ok (.bipush (-2), 2) := by decide +kernel
theorem dX8_floor_28 : decode cX8_floor 28 = .ok (.ireturn, 1) := by decide +kernel
theorem dX8_basketOf_0 : decode cX8_basketOf 0 = .ok (.iload_n 2, 1) := by decide +kernel
theorem dX8_basketOf_1 : decode cX8_basketOf 1 = .ok (.ifCond .ne 12, 3) := by decide +kernel
theorem dX8_basketOf_4 : decode cX8_basketOf 4 = .ok (.aload_n 0, 1) := by decide +kernel
theorem dX8_basketOf_5 : decode cX8_basketOf 5 = .ok (.getfield 25, 3) := by decide +kernel
theorem dX8_basketOf_8 : decode cX8_basketOf 8 = .ok (.iload_n 1, 1) := by decide +kernel
theorem dX8_basketOf_9 : decode cX8_basketOf 9 = .ok (.iaload, 1) := by decide +kernel
theorem dX8_basketOf_10 : decode cX8_basketOf 10 = .ok (.goto 59, 3) := by decide +kernel
theorem dX8_basketOf_13 : decode cX8_basketOf 13 = .ok (.iload_n 2, 1) := by decide +kernel
theorem dX8_basketOf_14 : decode cX8_basketOf 14 = .ok (.iconst 1, 1) := by decide +kernel
theorem dX8_basketOf_15 : decode cX8_basketOf 15 = .ok (.if_icmp .ne 12, 3) := by decide +kernel
theorem dX8_basketOf_18 : decode cX8_basketOf 18 = .ok (.aload_n 0, 1) := by decide +kernel
theorem dX8_basketOf_19 : decode cX8_basketOf 19 = .ok (.getfield 28, 3) := by decide +kernel
theorem dX8_basketOf_22 : decode cX8_basketOf 22 = .ok (.iload_n 1, 1) := by decide +kernel
theorem dX8_basketOf_23 : decode cX8_basketOf 23 = .ok (.iaload, 1) := by decide +kernel
theorem dX8_basketOf_24 : decode cX8_basketOf 24 = .ok (.goto 45, 3) := by decide +kernel
theorem dX8_basketOf_27 : decode cX8_basketOf 27 = .ok (.iload_n 2, 1) := by decide +kernel
theorem dX8_basketOf_28 : decode cX8_basketOf 28 = .ok (.iconst 2, 1) := by decide +kernel
theorem dX8_basketOf_29 : decode cX8_basketOf 29 = .ok (.if_icmp .ne 12, 3) := by decide +kernel
theorem dX8_basketOf_32 : decode cX8_basketOf 32 = .ok (.aload_n 0, 1) := by decide +kernel
theorem dX8_basketOf_33 : decode cX8_basketOf 33 = .ok (.getfield 31, 3) := by decide +kernel
theorem dX8_basketOf_36 : decode cX8_basketOf 36 = .ok (.iload_n 1, 1) := by decide +kernel
theorem dX8_basketOf_37 : decode cX8_basketOf 37 = .ok (.iaload, 1) := by decide +kernel
theorem dX8_basketOf_38 : decode cX8_basketOf 38 = .ok (.goto 31, 3) := by decide +kernel
theorem dX8_basketOf_41 : decode cX8_basketOf 41 = .ok (.iload_n 2, 1) := by decide +kernel
theorem dX8_basketOf_42 : decode cX8_basketOf 42 = .ok (.iconst 3, 1) := by decide +kernel
theorem dX8_basketOf_43 : decode cX8_basketOf 43 = .ok (.isub, 1) := by decide +kernel
theorem dX8_basketOf_44 : decode cX8_basketOf 44 = .ok (.aload_n 0, 1) := by decide +kernel
theorem dX8_basketOf_45 : decode cX8_basketOf 45 = .ok (.getfield 31, 3) := by decide +kernel
theorem dX8_basketOf_48 : decode cX8_basketOf 48 = .ok (.iload_n 1, 1) := by decide +kernel
theorem dX8_basketOf_49 : decode cX8_basketOf 49 = .ok (.iaload, 1) := by decide +kernel
theorem dX8_basketOf_50 : decode cX8_basketOf 50 = .ok (.if_icmp .ge 18, 3) := by decide +kernel
theorem dX8_basketOf_53 : decode cX8_basketOf 53 = .ok (.aload_n 0, 1) := by decide +kernel
theorem dX8_basketOf_54 : decode cX8_basketOf 54 = .ok (.getfield 34, 3) := by decide +kernel
theorem dX8_basketOf_57 : decode cX8_basketOf 57 = .ok (.iconst 3, 1) := by decide +kernel
theorem dX8_basketOf_58 : decode cX8_basketOf 58 = .ok (.iload_n 1, 1) := by decide +kernel
theorem dX8_basketOf_59 : decode cX8_basketOf 59 = .ok (.imul, 1) := by decide +kernel
theorem dX8_basketOf_60 : decode cX8_basketOf 60 = .ok (.iload_n 2, 1) := by decide +kernel
theorem dX8_basketOf_61 : decode cX8_basketOf 61 = .ok (.iadd, 1) := by decide +kernel
theorem dX8_basketOf_62 : decode cX8_basketOf 62 = .ok (.iconst 3, 1) := by decide +kernel
theorem dX8_basketOf_63 : decode cX8_basketOf 63 = .ok (.isub, 1) := by decide +kernel
theorem dX8_basketOf_64 : decode cX8_basketOf 64 = .ok (.iaload, 1) := by decide +kernel
theorem dX8_basketOf_65 : decode cX8_basketOf 65 = .ok (.goto 4, 3) := by decide +kernel
theorem dX8_basketOf_68 : decode cX8_basketOf 68 = .ok (.iconst (-1), 1) := by decide +kernel
theorem dX8_basketOf_69 : decode cX8_basketOf 69 = .ok (.ireturn, 1) := by decide +kernel
theorem dX8_basket_0 : decode cX8_basket 0 = .ok (.aload_n 0, 1) := by decide +kernel
theorem dX8_basket_1 : decode cX8_basket 1 = .ok (.iload_n 1, 1) := by decide +kernel
theorem dX8_basket_2 : decode cX8_basket 2 = .ok (.invokevirtual 172, 3) := by decide +kernel
theorem dX8_basket_5 : decode cX8_basket 5 = .ok (.ifCond .eq 21, 3) := by decide +kernel
theorem dX8_basket_8 : decode cX8_basket 8 = .ok (.iload_n 2, 1) := by decide +kernel
theorem dX8_basket_9 : decode cX8_basket 9 = .ok (.iconst 0, 1) := by decide +kernel
theorem dX8_basket_10 : decode cX8_basket 10 = .ok (.iconst 5, 1) := by decide +kernel
theorem dX8_basket_11 : decode cX8_basket 11 = .ok (.invokestatic 125, 3) := by decide +kernel
theorem dX8_basket_14 : decode cX8_basket 14 = .ok (.ifCond .eq 12, 3) := by decide +kernel
theorem dX8_basket_17 : decode cX8_basket 17 = .ok (.aload_n 0, 1) := by decide +kernel
theorem dX8_basket_18 : decode cX8_basket 18 = .ok (.iload_n 1, 1) := by decide +kernel
theorem dX8_basket_19 : decode cX8_basket 19 = .ok (.iload_n 2, 1) := by decide +kernel
theorem dX8_basket_20 : decode cX8_basket 20 = .ok (.invokevirtual 175, 3) := by decide +kernel
theorem dX8_basket_23 : decode cX8_basket 23 = .ok (.goto 5, 3) := by decide +kernel
theorem dX8_basket_26 : decode cX8_basket 26 = .ok (.bipush (-2), 2) := by decide +kernel
theorem dX8_basket_28 : decode cX8_basket 28 = .ok (.ireturn, 1) := by decide +kernel
theorem dX8_set_0 : decode cX8_set 0 = .ok (.iload_n 1, 1) := by decide +kernel
theorem dX8_set_1 : decode cX8_set 1 = .ok (.iconst 0, 1) := by decide +kernel
theorem dX8_set_2 : decode cX8_set 2 = .ok (.iconst 1, 1) := by decide +kernel
theorem dX8_set_3 : decode cX8_set 3 = .ok (.invokestatic 125, 3) := by decide +kernel
theorem dX8_set_6 : decode cX8_set 6 = .ok (.ifCond .eq 13, 3) := by decide +kernel
theorem dX8_set_9 : decode cX8_set 9 = .ok (.iload_n 2, 1) := by decide +kernel
theorem dX8_set_10 : decode cX8_set 10 = .ok (.iload_n 1, 1) := by decide +kernel
theorem dX8_set_11 : decode cX8_set 11 = .ok (.bipush 9, 2) := by decide +kernel
theorem dX8_set_13 : decode cX8_set 13 = .ok (.invokestatic 125, 3) := by decide +kernel
theorem dX8_set_16 : decode cX8_set 16 = .ok (.ifCond .ne 6, 3) := by decide +kernel
theorem dX8_set_19 : decode cX8_set 19 = .ok (.bipush (-2), 2) := by decide +kernel
theorem dX8_set_21 : decode cX8_set 21 = .ok (.ireturn, 1) := by decide +kernel
theorem dX8_set_22 : decode cX8_set 22 = .ok (.iload_n 1, 1) := by decide +kernel
theorem dX8_set_23 : decode cX8_set 23 = .ok (.ifCond .ne 10, 3) := by decide +kernel
theorem dX8_set_26 : decode cX8_set 26 = .ok (.aload_n 0, 1) := by decide +kernel
theorem dX8_set_27 : decode cX8_set 27 = .ok (.getfield 116, 3) := by decide +kernel
theorem dX8_set_30 : decode cX8_set 30 = .ok (.goto 7, 3) := by decide +kernel
theorem dX8_set_33 : decode cX8_set 33 = .ok (.aload_n 0, 1) := by decide +kernel
theorem dX8_set_34 : decode cX8_set 34 = .ok (.getfield 120, 3) := by decide +kernel
theorem dX8_set_37 : decode cX8_set 37 = .ok (.istore_n 3, 1) := by decide +kernel
theorem dX8_set_38 : decode cX8_set 38 = .ok (.aload_n 0, 1) := by decide +kernel
theorem dX8_set_39 : decode cX8_set 39 = .ok (.iload_n 1, 1) := by decide +kernel
theorem dX8_set_40 : decode cX8_set 40 = .ok (.ifCond .ne 7, 3) := by decide +kernel
theorem dX8_set_43 : decode cX8_set 43 = .ok (.iload_n 2, 1) := by decide +kernel
theorem dX8_set_44 : decode cX8_set 44 = .ok (.goto 7, 3) := by decide +kernel
theorem dX8_set_47 : decode cX8_set 47 = .ok (.aload_n 0, 1) := by decide +kernel
theorem dX8_set_48 : decode cX8_set 48 = .ok (.getfield 116, 3) := by decide +kernel
theorem dX8_set_51 : decode cX8_set 51 = .ok (.putfield 116, 3) := by decide +kernel
theorem dX8_set_54 : decode cX8_set 54 = .ok (.aload_n 0, 1) := by decide +kernel
theorem dX8_set_55 : decode cX8_set 55 = .ok (.iload_n 1, 1) := by decide +kernel
theorem dX8_set_56 : decode cX8_set 56 = .ok (.iconst 1, 1) := by decide +kernel
theorem dX8_set_57 : decode cX8_set 57 = .ok (.if_icmp .ne 7, 3) := by decide +kernel
theorem dX8_set_60 : decode cX8_set 60 = .ok (.iload_n 2, 1) := by decide +kernel
theorem dX8_set_61 : decode cX8_set 61 = .ok (.goto 7, 3) := by decide +kernel
theorem dX8_set_64 : decode cX8_set 64 = .ok (.aload_n 0, 1) := by decide +kernel
theorem dX8_set_65 : decode cX8_set 65 = .ok (.getfield 120, 3) := by decide +kernel
theorem dX8_set_68 : decode cX8_set 68 = .ok (.putfield 120, 3) := by decide +kernel
theorem dX8_set_71 : decode cX8_set 71 = .ok (.iload_n 3, 1) := by decide +kernel
theorem dX8_set_72 : decode cX8_set 72 = .ok (.ireturn, 1) := by decide +kernel
theorem dX8_wind_0 : decode cX8_wind 0 = .ok (.iload_n 1, 1) := by decide +kernel
theorem dX8_wind_1 : decode cX8_wind 1 = .ok (.invokestatic 178, 3) := by decide +kernel
theorem dX8_wind_4 : decode cX8_wind 4 = .ok (.ifCond .ne 6, 3) := by decide +kernel
theorem dX8_wind_7 : decode cX8_wind 7 = .ok (.bipush (-2), 2) := by decide +kernel
theorem dX8_wind_9 : decode cX8_wind 9 = .ok (.ireturn, 1) := by decide +kernel
theorem dX8_wind_10 : decode cX8_wind 10 = .ok (.aload_n 0, 1) := by decide +kernel
theorem dX8_wind_11 : decode cX8_wind 11 = .ok (.getfield 181, 3) := by decide +kernel
theorem dX8_wind_14 : decode cX8_wind 14 = .ok (.bipush 6, 2) := by decide +kernel
theorem dX8_wind_16 : decode cX8_wind 16 = .ok (.if_icmp .ne 6, 3) := by decide +kernel
theorem dX8_wind_19 : decode cX8_wind 19 = .ok (.bipush (-4), 2) := by decide +kernel
theorem dX8_wind_21 : decode cX8_wind 21 = .ok (.ireturn, 1) := by decide +kernel
theorem dX8_wind_22 : decode cX8_wind 22 = .ok (.aload_n 0, 1) := by decide +kernel
theorem dX8_wind_23 : decode cX8_wind 23 = .ok (.getfield 37, 3) := by decide +kernel
theorem dX8_wind_26 : decode cX8_wind 26 = .ok (.aload_n 0, 1) := by decide +kernel
theorem dX8_wind_27 : decode cX8_wind 27 = .ok (.getfield 181, 3) := by decide +kernel
theorem dX8_wind_30 : decode cX8_wind 30 = .ok (.iload_n 1, 1) := by decide +kernel
theorem dX8_wind_31 : decode cX8_wind 31 = .ok (.iastore, 1) := by decide +kernel
theorem dX8_wind_32 : decode cX8_wind 32 = .ok (.aload_n 0, 1) := by decide +kernel
theorem dX8_wind_33 : decode cX8_wind 33 = .ok (.dup, 1) := by decide +kernel
theorem dX8_wind_34 : decode cX8_wind 34 = .ok (.getfield 181, 3) := by decide +kernel
theorem dX8_wind_37 : decode cX8_wind 37 = .ok (.iconst 1, 1) := by decide +kernel
theorem dX8_wind_38 : decode cX8_wind 38 = .ok (.iadd, 1) := by decide +kernel
theorem dX8_wind_39 : decode cX8_wind 39 = .ok (.putfield 181, 3) := by decide +kernel
theorem dX8_wind_42 : decode cX8_wind 42 = .ok (.aload_n 0, 1) := by decide +kernel
theorem dX8_wind_43 : decode cX8_wind 43 = .ok (.getfield 181, 3) := by decide +kernel
theorem dX8_wind_46 : decode cX8_wind 46 = .ok (.ireturn, 1) := by decide +kernel
theorem dX8_sunday_0 : decode cX8_sunday 0 = .ok (.iload_n 1, 1) := by decide +kernel
theorem dX8_sunday_1 : decode cX8_sunday 1 = .ok (.invokestatic 178, 3) := by decide +kernel
theorem dX8_sunday_4 : decode cX8_sunday 4 = .ok (.ifCond .ne 6, 3) := by decide +kernel
theorem dX8_sunday_7 : decode cX8_sunday 7 = .ok (.bipush (-2), 2) := by decide +kernel
theorem dX8_sunday_9 : decode cX8_sunday 9 = .ok (.ireturn, 1) := by decide +kernel
theorem dX8_sunday_10 : decode cX8_sunday 10 = .ok (.aload_n 0, 1) := by decide +kernel
theorem dX8_sunday_11 : decode cX8_sunday 11 = .ok (.getfield 184, 3) := by decide +kernel
theorem dX8_sunday_14 : decode cX8_sunday 14 = .ok (.bipush 6, 2) := by decide +kernel
theorem dX8_sunday_16 : decode cX8_sunday 16 = .ok (.if_icmp .ne 6, 3) := by decide +kernel
theorem dX8_sunday_19 : decode cX8_sunday 19 = .ok (.bipush (-4), 2) := by decide +kernel
theorem dX8_sunday_21 : decode cX8_sunday 21 = .ok (.ireturn, 1) := by decide +kernel
theorem dX8_sunday_22 : decode cX8_sunday 22 = .ok (.aload_n 0, 1) := by decide +kernel
theorem dX8_sunday_23 : decode cX8_sunday 23 = .ok (.getfield 40, 3) := by decide +kernel
theorem dX8_sunday_26 : decode cX8_sunday 26 = .ok (.aload_n 0, 1) := by decide +kernel
theorem dX8_sunday_27 : decode cX8_sunday 27 = .ok (.getfield 184, 3) := by decide +kernel
theorem dX8_sunday_30 : decode cX8_sunday 30 = .ok (.iload_n 1, 1) := by decide +kernel
theorem dX8_sunday_31 : decode cX8_sunday 31 = .ok (.iastore, 1) := by decide +kernel
theorem dX8_sunday_32 : decode cX8_sunday 32 = .ok (.aload_n 0, 1) := by decide +kernel
theorem dX8_sunday_33 : decode cX8_sunday 33 = .ok (.dup, 1) := by decide +kernel
theorem dX8_sunday_34 : decode cX8_sunday 34 = .ok (.getfield 184, 3) := by decide +kernel
theorem dX8_sunday_37 : decode cX8_sunday 37 = .ok (.iconst 1, 1) := by decide +kernel
theorem dX8_sunday_38 : decode cX8_sunday 38 = .ok (.iadd, 1) := by decide +kernel
theorem dX8_sunday_39 : decode cX8_sunday 39 = .ok (.putfield 184, 3) := by decide +kernel
theorem dX8_sunday_42 : decode cX8_sunday 42 = .ok (.aload_n 0, 1) := by decide +kernel
theorem dX8_sunday_43 : decode cX8_sunday 43 = .ok (.getfield 184, 3) := by decide +kernel
theorem dX8_sunday_46 : decode cX8_sunday 46 = .ok (.ireturn, 1) := by decide +kernel
theorem dX8_back_0 : decode cX8_back 0 = .ok (.iload_n 1, 1) := by decide +kernel
theorem dX8_back_1 : decode cX8_back 1 = .ok (.iconst 0, 1) := by decide +kernel
theorem dX8_back_2 : decode cX8_back 2 = .ok (.iconst 1, 1) := by decide +kernel
theorem dX8_back_3 : decode cX8_back 3 = .ok (.invokestatic 125, 3) := by decide +kernel
theorem dX8_back_6 : decode cX8_back 6 = .ok (.ifCond .ne 6, 3) := by decide +kernel
theorem dX8_back_9 : decode cX8_back 9 = .ok (.bipush (-2), 2) := by decide +kernel
theorem dX8_back_11 : decode cX8_back 11 = .ok (.ireturn, 1) := by decide +kernel
theorem dX8_back_12 : decode cX8_back 12 = .ok (.iload_n 1, 1) := by decide +kernel
theorem dX8_back_13 : decode cX8_back 13 = .ok (.ifCond .ne 10, 3) := by decide +kernel
theorem dX8_back_16 : decode cX8_back 16 = .ok (.aload_n 0, 1) := by decide +kernel
theorem dX8_back_17 : decode cX8_back 17 = .ok (.getfield 181, 3) := by decide +kernel
theorem dX8_back_20 : decode cX8_back 20 = .ok (.goto 7, 3) := by decide +kernel
theorem dX8_back_23 : decode cX8_back 23 = .ok (.aload_n 0, 1) := by decide +kernel
theorem dX8_back_24 : decode cX8_back 24 = .ok (.getfield 184, 3) := by decide +kernel
theorem dX8_back_27 : decode cX8_back 27 = .ok (.istore_n 2, 1) := by decide +kernel
theorem dX8_back_28 : decode cX8_back 28 = .ok (.iload_n 2, 1) := by decide +kernel
theorem dX8_back_29 : decode cX8_back 29 = .ok (.ifCond .ne 6, 3) := by decide +kernel
theorem dX8_back_32 : decode cX8_back 32 = .ok (.bipush (-3), 2) := by decide +kernel
theorem dX8_back_34 : decode cX8_back 34 = .ok (.ireturn, 1) := by decide +kernel
theorem dX8_back_35 : decode cX8_back 35 = .ok (.aload_n 0, 1) := by decide +kernel
theorem dX8_back_36 : decode cX8_back 36 = .ok (.dup, 1) := by decide +kernel
theorem dX8_back_37 : decode cX8_back 37 = .ok (.getfield 181, 3) := by decide +kernel
theorem dX8_back_40 : decode cX8_back 40 = .ok (.iload_n 1, 1) := by decide +kernel
theorem dX8_back_41 : decode cX8_back 41 = .ok (.ifCond .ne 7, 3) := by decide +kernel
theorem dX8_back_44 : decode cX8_back 44 = .ok (.iconst 1, 1) := by decide +kernel
theorem dX8_back_45 : decode cX8_back 45 = .ok (.goto 4, 3) := by decide +kernel
theorem dX8_back_48 : decode cX8_back 48 = .ok (.iconst 0, 1) := by decide +kernel
theorem dX8_back_49 : decode cX8_back 49 = .ok (.isub, 1) := by decide +kernel
theorem dX8_back_50 : decode cX8_back 50 = .ok (.putfield 181, 3) := by decide +kernel
theorem dX8_back_53 : decode cX8_back 53 = .ok (.aload_n 0, 1) := by decide +kernel
theorem dX8_back_54 : decode cX8_back 54 = .ok (.dup, 1) := by decide +kernel
theorem dX8_back_55 : decode cX8_back 55 = .ok (.getfield 184, 3) := by decide +kernel
theorem dX8_back_58 : decode cX8_back 58 = .ok (.iload_n 1, 1) := by decide +kernel
theorem dX8_back_59 : decode cX8_back 59 = .ok (.iconst 1, 1) := by decide +kernel
theorem dX8_back_60 : decode cX8_back 60 = .ok (.if_icmp .ne 7, 3) := by decide +kernel
theorem dX8_back_63 : decode cX8_back 63 = .ok (.iconst 1, 1) := by decide +kernel
theorem dX8_back_64 : decode cX8_back 64 = .ok (.goto 4, 3) := by decide +kernel
theorem dX8_back_67 : decode cX8_back 67 = .ok (.iconst 0, 1) := by decide +kernel
theorem dX8_back_68 : decode cX8_back 68 = .ok (.isub, 1) := by decide +kernel
theorem dX8_back_69 : decode cX8_back 69 = .ok (.putfield 184, 3) := by decide +kernel
theorem dX8_back_72 : decode cX8_back 72 = .ok (.iload_n 2, 1) := by decide +kernel
theorem dX8_back_73 : decode cX8_back 73 = .ok (.iconst 1, 1) := by decide +kernel
theorem dX8_back_74 : decode cX8_back 74 = .ok (.isub, 1) := by decide +kernel
theorem dX8_back_75 : decode cX8_back 75 = .ok (.ireturn, 1) := by decide +kernel
theorem dX8_read_0 : decode cX8_read 0 = .ok (.iload_n 1, 1) := by decide +kernel
theorem dX8_read_1 : decode cX8_read 1 = .ok (.invokestatic 187, 3) := by decide +kernel
theorem dX8_read_4 : decode cX8_read 4 = .ok (.ifCond .ne 6, 3) := by decide +kernel
theorem dX8_read_7 : decode cX8_read 7 = .ok (.bipush (-2), 2) := by decide +kernel
theorem dX8_read_9 : decode cX8_read 9 = .ok (.ireturn, 1) := by decide +kernel
theorem dX8_read_10 : decode cX8_read 10 = .ok (.aload_n 0, 1) := by decide +kernel
theorem dX8_read_11 : decode cX8_read 11 = .ok (.getfield 101, 3) := by decide +kernel
theorem dX8_read_14 : decode cX8_read 14 = .ok (.iload_n 1, 1) := by decide +kernel
theorem dX8_read_15 : decode cX8_read 15 = .ok (.baload, 1) := by decide +kernel
theorem dX8_read_16 : decode cX8_read 16 = .ok (.ifCond .ne 9, 3) := by decide +kernel
theorem dX8_read_19 : decode cX8_read 19 = .ok (.aload_n 0, 1) := by decide +kernel
theorem dX8_read_20 : decode cX8_read 20 = .ok (.iconst 1, 1) := by decide +kernel
theorem dX8_read_21 : decode cX8_read 21 = .ok (.invokevirtual 190, 3) := by decide +kernel
theorem dX8_read_24 : decode cX8_read 24 = .ok (.ireturn, 1) := by decide +kernel
theorem dX8_read_25 : decode cX8_read 25 = .ok (.iconst 0, 1) := by decide +kernel
theorem dX8_read_26 : decode cX8_read 26 = .ok (.istore_n 2, 1) := by decide +kernel
theorem dX8_read_27 : decode cX8_read 27 = .ok (.iload_n 2, 1) := by decide +kernel
theorem dX8_read_28 : decode cX8_read 28 = .ok (.aload_n 0, 1) := by decide +kernel
theorem dX8_read_29 : decode cX8_read 29 = .ok (.getfield 107, 3) := by decide +kernel
theorem dX8_read_32 : decode cX8_read 32 = .ok (.iload_n 1, 1) := by decide +kernel
theorem dX8_read_33 : decode cX8_read 33 = .ok (.iaload, 1) := by decide +kernel
theorem dX8_read_34 : decode cX8_read 34 = .ok (.if_icmp .ge 27, 3) := by decide +kernel
theorem dX8_read_37 : decode cX8_read 37 = .ok (.aload_n 0, 1) := by decide +kernel
theorem dX8_read_38 : decode cX8_read 38 = .ok (.aload_n 0, 1) := by decide +kernel
theorem dX8_read_39 : decode cX8_read 39 = .ok (.getfield 110, 3) := by decide +kernel
theorem dX8_read_42 : decode cX8_read 42 = .ok (.bipush 60, 2) := by decide +kernel
theorem dX8_read_44 : decode cX8_read 44 = .ok (.iload_n 1, 1) := by decide +kernel
theorem dX8_read_45 : decode cX8_read 45 = .ok (.imul, 1) := by decide +kernel
theorem dX8_read_46 : decode cX8_read 46 = .ok (.iload_n 2, 1) := by decide +kernel
theorem dX8_read_47 : decode cX8_read 47 = .ok (.iadd, 1) := by decide +kernel
theorem dX8_read_48 : decode cX8_read 48 = .ok (.iaload, 1) := by decide +kernel
theorem dX8_read_49 : decode cX8_read 49 = .ok (.invokevirtual 193, 3) := by decide +kernel
theorem dX8_read_52 : decode cX8_read 52 = .ok (.ifCond .le 9, 3) := by decide +kernel
theorem dX8_read_55 : decode cX8_read 55 = .ok (.iinc 2 1, 3) := by decide +kernel
theorem dX8_read_58 : decode cX8_read 58 = .ok (.goto (-31), 3) := by decide +kernel
theorem dX8_read_61 : decode cX8_read 61 = .ok (.iload_n 2, 1) := by decide +kernel
theorem dX8_read_62 : decode cX8_read 62 = .ok (.ireturn, 1) := by decide +kernel
theorem dX8_bitsOf_0 : decode cX8_bitsOf 0 = .ok (.lload_n 0, 1) := by decide +kernel
theorem dX8_bitsOf_1 : decode cX8_bitsOf 1 = .ok (.lconst 1, 1) := by decide +kernel
theorem dX8_bitsOf_2 : decode cX8_bitsOf 2 = .ok (.iload_n 2, 1) := by decide +kernel
theorem dX8_bitsOf_3 : decode cX8_bitsOf 3 = .ok (.lshl, 1) := by decide +kernel
theorem dX8_bitsOf_4 : decode cX8_bitsOf 4 = .ok (.lor, 1) := by decide +kernel
theorem dX8_bitsOf_5 : decode cX8_bitsOf 5 = .ok (.lreturn, 1) := by decide +kernel
theorem dX8_windsBut_0 : decode cX8_windsBut 0 = .ok (.lconst 0, 1) := by decide +kernel
theorem dX8_windsBut_1 : decode cX8_windsBut 1 = .ok (.lstore_n 2, 1) := by decide +kernel
theorem dX8_windsBut_2 : decode cX8_windsBut 2 = .ok (.iconst 0, 1) := by decide +kernel
theorem dX8_windsBut_3 : decode cX8_windsBut 3 = .ok (.istore 4, 2) := by decide +kernel
theorem dX8_windsBut_5 : decode cX8_windsBut 5 = .ok (.iload 4, 2) := by decide +kernel
theorem dX8_windsBut_7 : decode cX8_windsBut 7 = .ok (.aload_n 0, 1) := by decide +kernel
theorem dX8_windsBut_8 : decode cX8_windsBut 8 = .ok (.getfield 181, 3) := by decide +kernel
theorem dX8_windsBut_11 : decode cX8_windsBut 11 = .ok (.if_icmp .ge 35, 3) := by decide +kernel
theorem dX8_windsBut_14 : decode cX8_windsBut 14 = .ok (.iload_n 1, 1) := by decide +kernel
theorem dX8_windsBut_15 : decode cX8_windsBut 15 = .ok (.i2l, 1) := by decide +kernel
theorem dX8_windsBut_16 : decode cX8_windsBut 16 = .ok (.iload 4, 2) := by decide +kernel
theorem dX8_windsBut_18 : decode cX8_windsBut 18 = .ok (.invokestatic 196, 3) := by decide +kernel
theorem dX8_windsBut_21 : decode cX8_windsBut 21 = .ok (.ifCond .eq 7, 3) := by decide +kernel
theorem dX8_windsBut_24 : decode cX8_windsBut 24 = .ok (.lload_n 2, 1) := by decide +kernel
theorem dX8_windsBut_25 : decode cX8_windsBut 25 = .ok (.goto 14, 3) := by decide +kernel
theorem dX8_windsBut_28 : decode cX8_windsBut 28 = .ok (.lload_n 2, 1) := by decide +kernel
theorem dX8_windsBut_29 : decode cX8_windsBut 29 = .ok (.aload_n 0, 1) := by decide +kernel
theorem dX8_windsBut_30 : decode cX8_windsBut 30 = .ok (.getfield 37, 3) := by decide +kernel
theorem dX8_windsBut_33 : decode cX8_windsBut 33 = .ok (.iload 4, 2) := by decide +kernel
theorem dX8_windsBut_35 : decode cX8_windsBut 35 = .ok (.iaload, 1) := by decide +kernel
theorem dX8_windsBut_36 : decode cX8_windsBut 36 = .ok (.invokestatic 200, 3) := by decide +kernel
theorem dX8_windsBut_39 : decode cX8_windsBut 39 = .ok (.lstore_n 2, 1) := by decide +kernel
theorem dX8_windsBut_40 : decode cX8_windsBut 40 = .ok (.iinc 4 1, 3) := by decide +kernel
theorem dX8_windsBut_43 : decode cX8_windsBut 43 = .ok (.goto (-38), 3) := by decide +kernel
theorem dX8_windsBut_46 : decode cX8_windsBut 46 = .ok (.lload_n 2, 1) := by decide +kernel
theorem dX8_windsBut_47 : decode cX8_windsBut 47 = .ok (.lreturn, 1) := by decide +kernel
theorem dX8_asTold_0 : decode cX8_asTold 0 = .ok (.aload_n 0, 1) := by decide +kernel
theorem dX8_asTold_1 : decode cX8_asTold 1 = .ok (.invokevirtual 163, 3) := by decide +kernel
theorem dX8_asTold_4 : decode cX8_asTold 4 = .ok (.aload_n 0, 1) := by decide +kernel
theorem dX8_asTold_5 : decode cX8_asTold 5 = .ok (.aload_n 0, 1) := by decide +kernel
theorem dX8_asTold_6 : decode cX8_asTold 6 = .ok (.iconst 0, 1) := by decide +kernel
theorem dX8_asTold_7 : decode cX8_asTold 7 = .ok (.invokevirtual 204, 3) := by decide +kernel
theorem dX8_asTold_10 : decode cX8_asTold 10 = .ok (.putfield 208, 3) := by decide +kernel
theorem dX8_asTold_13 : decode cX8_asTold 13 = .ok (.aload_n 0, 1) := by decide +kernel
theorem dX8_asTold_14 : decode cX8_asTold 14 = .ok (.lconst 0, 1) := by decide +kernel
theorem dX8_asTold_15 : decode cX8_asTold 15 = .ok (.putfield 212, 3) := by decide +kernel
theorem dX8_asTold_18 : decode cX8_asTold 18 = .ok (.iconst 0, 1) := by decide +kernel
theorem dX8_asTold_19 : decode cX8_asTold 19 = .ok (.istore_n 1, 1) := by decide +kernel
theorem dX8_asTold_20 : decode cX8_asTold 20 = .ok (.iload_n 1, 1) := by decide +kernel
theorem dX8_asTold_21 : decode cX8_asTold 21 = .ok (.aload_n 0, 1) := by decide +kernel
theorem dX8_asTold_22 : decode cX8_asTold 22 = .ok (.getfield 184, 3) := by decide +kernel
theorem dX8_asTold_25 : decode cX8_asTold 25 = .ok (.if_icmp .ge 26, 3) := by decide +kernel
theorem dX8_asTold_28 : decode cX8_asTold 28 = .ok (.aload_n 0, 1) := by decide +kernel
theorem dX8_asTold_29 : decode cX8_asTold 29 = .ok (.aload_n 0, 1) := by decide +kernel
theorem dX8_asTold_30 : decode cX8_asTold 30 = .ok (.getfield 212, 3) := by decide +kernel
theorem dX8_asTold_33 : decode cX8_asTold 33 = .ok (.aload_n 0, 1) := by decide +kernel
theorem dX8_asTold_34 : decode cX8_asTold 34 = .ok (.getfield 40, 3) := by decide +kernel
theorem dX8_asTold_37 : decode cX8_asTold 37 = .ok (.iload_n 1, 1) := by decide +kernel
theorem dX8_asTold_38 : decode cX8_asTold 38 = .ok (.iaload, 1) := by decide +kernel
theorem dX8_asTold_39 : decode cX8_asTold 39 = .ok (.invokestatic 200, 3) := by decide +kernel
theorem dX8_asTold_42 : decode cX8_asTold 42 = .ok (.putfield 212, 3) := by decide +kernel
theorem dX8_asTold_45 : decode cX8_asTold 45 = .ok (.iinc 1 1, 3) := by decide +kernel
theorem dX8_asTold_48 : decode cX8_asTold 48 = .ok (.goto (-28), 3) := by decide +kernel
theorem dX8_asTold_51 : decode cX8_asTold 51 = .ok (.aload_n 0, 1) := by decide +kernel
theorem dX8_asTold_52 : decode cX8_asTold 52 = .ok (.iconst 0, 1) := by decide +kernel
theorem dX8_asTold_53 : decode cX8_asTold 53 = .ok (.putfield 215, 3) := by decide +kernel
theorem dX8_asTold_56 : decode cX8_asTold 56 = .ok (.return_, 1) := by decide +kernel
theorem dX8_isTangled_0 : decode cX8_isTangled 0 = .ok (.iconst 0, 1) := by decide +kernel
theorem dX8_isTangled_1 : decode cX8_isTangled 1 = .ok (.istore_n 2, 1) := by decide +kernel
theorem dX8_isTangled_2 : decode cX8_isTangled 2 = .ok (.iconst 0, 1) := by decide +kernel
theorem dX8_isTangled_3 : decode cX8_isTangled 3 = .ok (.istore_n 3, 1) := by decide +kernel
theorem dX8_isTangled_4 : decode cX8_isTangled 4 = .ok (.iload_n 3, 1) := by decide +kernel
theorem dX8_isTangled_5 : decode cX8_isTangled 5 = .ok (.iload_n 1, 1) := by decide +kernel
theorem dX8_isTangled_6 : decode cX8_isTangled 6 = .ok (.if_icmp .ge 34, 3) := by decide +kernel
theorem dX8_isTangled_9 : decode cX8_isTangled 9 = .ok (.iload_n 2, 1) := by decide +kernel
theorem dX8_isTangled_10 : decode cX8_isTangled 10 = .ok (.ifCond .ne 18, 3) := by decide +kernel
theorem dX8_isTangled_13 : decode cX8_isTangled 13 = .ok (.aload_n 0, 1) := by decide +kernel
theorem dX8_isTangled_14 : decode cX8_isTangled 14 = .ok (.getfield 43, 3) := by decide +kernel
theorem dX8_isTangled_17 : decode cX8_isTangled 17 = .ok (.iload_n 3, 1) := by decide +kernel
theorem dX8_isTangled_18 : decode cX8_isTangled 18 = .ok (.iaload, 1) := by decide +kernel
theorem dX8_isTangled_19 : decode cX8_isTangled 19 = .ok (.aload_n 0, 1) := by decide +kernel
theorem dX8_isTangled_20 : decode cX8_isTangled 20 = .ok (.getfield 43, 3) := by decide +kernel
theorem dX8_isTangled_23 : decode cX8_isTangled 23 = .ok (.iload_n 1, 1) := by decide +kernel
theorem dX8_isTangled_24 : decode cX8_isTangled 24 = .ok (.iaload, 1) := by decide +kernel
theorem dX8_isTangled_25 : decode cX8_isTangled 25 = .ok (.if_icmp .ne 7, 3) := by decide +kernel
theorem dX8_isTangled_28 : decode cX8_isTangled 28 = .ok (.iconst 1, 1) := by decide +kernel
theorem dX8_isTangled_29 : decode cX8_isTangled 29 = .ok (.goto 4, 3) := by decide +kernel
theorem dX8_isTangled_32 : decode cX8_isTangled 32 = .ok (.iconst 0, 1) := by decide +kernel
theorem dX8_isTangled_33 : decode cX8_isTangled 33 = .ok (.istore_n 2, 1) := by decide +kernel
theorem dX8_isTangled_34 : decode cX8_isTangled 34 = .ok (.iinc 3 1, 3) := by decide +kernel
theorem dX8_isTangled_37 : decode cX8_isTangled 37 = .ok (.goto (-33), 3) := by decide +kernel
theorem dX8_isTangled_40 : decode cX8_isTangled 40 = .ok (.iload_n 2, 1) := by decide +kernel
theorem dX8_isTangled_41 : decode cX8_isTangled 41 = .ok (.ireturn, 1) := by decide +kernel
theorem dX8_takes_0 : decode cX8_takes 0 = .ok (.aload_n 0, 1) := by decide +kernel
theorem dX8_takes_1 : decode cX8_takes 1 = .ok (.getfield 65, 3) := by decide +kernel
theorem dX8_takes_4 : decode cX8_takes 4 = .ok (.iload_n 2, 1) := by decide +kernel
theorem dX8_takes_5 : decode cX8_takes 5 = .ok (.iaload, 1) := by decide +kernel
theorem dX8_takes_6 : decode cX8_takes 6 = .ok (.iconst (-1), 1) := by decide +kernel
theorem dX8_takes_7 : decode cX8_takes 7 = .ok (.if_icmp .eq 18, 3) := by decide +kernel
theorem dX8_takes_10 : decode cX8_takes 10 = .ok (.iload_n 3, 1) := by decide +kernel
theorem dX8_takes_11 : decode cX8_takes 11 = .ok (.aload_n 0, 1) := by decide +kernel
theorem dX8_takes_12 : decode cX8_takes 12 = .ok (.getfield 65, 3) := by decide +kernel
theorem dX8_takes_15 : decode cX8_takes 15 = .ok (.iload_n 2, 1) := by decide +kernel
theorem dX8_takes_16 : decode cX8_takes 16 = .ok (.iaload, 1) := by decide +kernel
theorem dX8_takes_17 : decode cX8_takes 17 = .ok (.isub, 1) := by decide +kernel
theorem dX8_takes_18 : decode cX8_takes 18 = .ok (.aload_n 0, 1) := by decide +kernel
theorem dX8_takes_19 : decode cX8_takes 19 = .ok (.getfield 116, 3) := by decide +kernel
theorem dX8_takes_22 : decode cX8_takes 22 = .ok (.if_icmp .le 7, 3) := by decide +kernel
theorem dX8_takes_25 : decode cX8_takes 25 = .ok (.iconst 1, 1) := by decide +kernel
theorem dX8_takes_26 : decode cX8_takes 26 = .ok (.goto 4, 3) := by decide +kernel
theorem dX8_takes_29 : decode cX8_takes 29 = .ok (.iconst 0, 1) := by decide +kernel
theorem dX8_takes_30 : decode cX8_takes 30 = .ok (.istore 4, 2) := by decide +kernel
theorem dX8_takes_32 : decode cX8_takes 32 = .ok (.aload_n 0, 1) := by decide +kernel
theorem dX8_takes_33 : decode cX8_takes 33 = .ok (.getfield 212, 3) := by decide +kernel
theorem dX8_takes_36 : decode cX8_takes 36 = .ok (.iload_n 3, 1) := by decide +kernel
theorem dX8_takes_37 : decode cX8_takes 37 = .ok (.invokestatic 196, 3) := by decide +kernel
theorem dX8_takes_40 : decode cX8_takes 40 = .ok (.ifCond .ne 38, 3) := by decide +kernel
theorem dX8_takes_43 : decode cX8_takes 43 = .ok (.aload_n 0, 1) := by decide +kernel
theorem dX8_takes_44 : decode cX8_takes 44 = .ok (.getfield 215, 3) := by decide +kernel
theorem dX8_takes_47 : decode cX8_takes 47 = .ok (.i2l, 1) := by decide +kernel
theorem dX8_takes_48 : decode cX8_takes 48 = .ok (.iload_n 2, 1) := by decide +kernel
theorem dX8_takes_49 : decode cX8_takes 49 = .ok (.invokestatic 196, 3) := by decide +kernel
theorem dX8_takes_52 : decode cX8_takes 52 = .ok (.ifCond .ne 26, 3) := by decide +kernel
theorem dX8_takes_55 : decode cX8_takes 55 = .ok (.iload 4, 2) := by decide +kernel
theorem dX8_takes_57 : decode cX8_takes 57 = .ok (.ifCond .eq 21, 3) := by decide +kernel
theorem dX8_takes_60 : decode cX8_takes 60 = .ok (.aload_n 0, 1) := by decide +kernel
theorem dX8_takes_61 : decode cX8_takes 61 = .ok (.getfield 46, 3) := by decide +kernel
theorem dX8_takes_64 : decode cX8_takes 64 = .ok (.iload_n 1, 1) := by decide +kernel
theorem dX8_takes_65 : decode cX8_takes 65 = .ok (.iaload, 1) := by decide +kernel
theorem dX8_takes_66 : decode cX8_takes 66 = .ok (.ifCond .eq 12, 3) := by decide +kernel
theorem dX8_takes_69 : decode cX8_takes 69 = .ok (.aload_n 0, 1) := by decide +kernel
theorem dX8_takes_70 : decode cX8_takes 70 = .ok (.getfield 19, 3) := by decide +kernel
theorem dX8_takes_73 : decode cX8_takes 73 = .ok (.iload_n 2, 1) := by decide +kernel
theorem dX8_takes_74 : decode cX8_takes 74 = .ok (.iaload, 1) := by decide +kernel
theorem dX8_takes_75 : decode cX8_takes 75 = .ok (.ifCond .ne 4, 3) := by decide +kernel
theorem dX8_takes_78 : decode cX8_takes 78 = .ok (.return_, 1) := by decide +kernel
theorem dX8_takes_79 : decode cX8_takes 79 = .ok (.aload_n 0, 1) := by decide +kernel
theorem dX8_takes_80 : decode cX8_takes 80 = .ok (.getfield 19, 3) := by decide +kernel
theorem dX8_takes_83 : decode cX8_takes 83 = .ok (.iload_n 2, 1) := by decide +kernel
theorem dX8_takes_84 : decode cX8_takes 84 = .ok (.iaload, 1) := by decide +kernel
theorem dX8_takes_85 : decode cX8_takes 85 = .ok (.aload_n 0, 1) := by decide +kernel
theorem dX8_takes_86 : decode cX8_takes 86 = .ok (.getfield 46, 3) := by decide +kernel
theorem dX8_takes_89 : decode cX8_takes 89 = .ok (.iload_n 1, 1) := by decide +kernel
theorem dX8_takes_90 : decode cX8_takes 90 = .ok (.iaload, 1) := by decide +kernel
theorem dX8_takes_91 : decode cX8_takes 91 = .ok (.if_icmp .ge 12, 3) := by decide +kernel
theorem dX8_takes_94 : decode cX8_takes 94 = .ok (.aload_n 0, 1) := by decide +kernel
theorem dX8_takes_95 : decode cX8_takes 95 = .ok (.getfield 19, 3) := by decide +kernel
theorem dX8_takes_98 : decode cX8_takes 98 = .ok (.iload_n 2, 1) := by decide +kernel
theorem dX8_takes_99 : decode cX8_takes 99 = .ok (.iaload, 1) := by decide +kernel
theorem dX8_takes_100 : decode cX8_takes 100 = .ok (.goto 9, 3) := by decide +kernel
theorem dX8_takes_103 : decode cX8_takes 103 = .ok (.aload_n 0, 1) := by decide +kernel
theorem dX8_takes_104 : decode cX8_takes 104 = .ok (.getfield 46, 3) := by decide +kernel
theorem dX8_takes_107 : decode cX8_takes 107 = .ok (.iload_n 1, 1) := by decide +kernel
theorem dX8_takes_108 : decode cX8_takes 108 = .ok (.iaload, 1) := by decide +kernel
theorem dX8_takes_109 : decode cX8_takes 109 = .ok (.istore 5, 2) := by decide +kernel
theorem dX8_takes_111 : decode cX8_takes 111 = .ok (.aload_n 0, 1) := by decide +kernel
theorem dX8_takes_112 : decode cX8_takes 112 = .ok (.getfield 46, 3) := by decide +kernel
theorem dX8_takes_115 : decode cX8_takes 115 = .ok (.iload_n 1, 1) := by decide +kernel
theorem dX8_takes_116 : decode cX8_takes 116 = .ok (.dup2, 1) := by decide +kernel
theorem dX8_takes_117 : decode cX8_takes 117 = .ok (.iaload, 1) := by decide +kernel
theorem dX8_takes_118 : decode cX8_takes 118 = .ok (.iload 5, 2) := by decide +kernel
theorem dX8_takes_120 : decode cX8_takes 120 = .ok (.isub, 1) := by decide +kernel
theorem dX8_takes_121 : decode cX8_takes 121 = .ok (.iastore, 1) := by decide +kernel
theorem dX8_takes_122 : decode cX8_takes 122 = .ok (.aload_n 0, 1) := by decide +kernel
theorem dX8_takes_123 : decode cX8_takes 123 = .ok (.getfield 65, 3) := by decide +kernel
theorem dX8_takes_126 : decode cX8_takes 126 = .ok (.iload_n 2, 1) := by decide +kernel
theorem dX8_takes_127 : decode cX8_takes 127 = .ok (.iload_n 3, 1) := by decide +kernel
theorem dX8_takes_128 : decode cX8_takes 128 = .ok (.iastore, 1) := by decide +kernel
theorem dX8_takes_129 : decode cX8_takes 129 = .ok (.aload_n 0, 1) := by decide +kernel
theorem dX8_takes_130 : decode cX8_takes 130 = .ok (.getfield 68, 3) := by decide +kernel
theorem dX8_takes_133 : decode cX8_takes 133 = .ok (.iload_n 2, 1) := by decide +kernel
theorem dX8_takes_134 : decode cX8_takes 134 = .ok (.dup2, 1) := by decide +kernel
theorem dX8_takes_135 : decode cX8_takes 135 = .ok (.iaload, 1) := by decide +kernel
theorem dX8_takes_136 : decode cX8_takes 136 = .ok (.iconst 1, 1) := by decide +kernel
theorem dX8_takes_137 : decode cX8_takes 137 = .ok (.iadd, 1) := by decide +kernel
theorem dX8_takes_138 : decode cX8_takes 138 = .ok (.iastore, 1) := by decide +kernel
theorem dX8_takes_139 : decode cX8_takes 139 = .ok (.aload_n 0, 1) := by decide +kernel
theorem dX8_takes_140 : decode cX8_takes 140 = .ok (.getfield 71, 3) := by decide +kernel
theorem dX8_takes_143 : decode cX8_takes 143 = .ok (.iload_n 2, 1) := by decide +kernel
theorem dX8_takes_144 : decode cX8_takes 144 = .ok (.dup2, 1) := by decide +kernel
theorem dX8_takes_145 : decode cX8_takes 145 = .ok (.iaload, 1) := by decide +kernel
theorem dX8_takes_146 : decode cX8_takes 146 = .ok (.iload 5, 2) := by decide +kernel
theorem dX8_takes_148 : decode cX8_takes 148 = .ok (.iadd, 1) := by decide +kernel
theorem dX8_takes_149 : decode cX8_takes 149 = .ok (.iastore, 1) := by decide +kernel
theorem dX8_takes_150 : decode cX8_takes 150 = .ok (.aload_n 0, 1) := by decide +kernel
theorem dX8_takes_151 : decode cX8_takes 151 = .ok (.aload_n 0, 1) := by decide +kernel
theorem dX8_takes_152 : decode cX8_takes 152 = .ok (.getfield 218, 3) := by decide +kernel
theorem dX8_takes_155 : decode cX8_takes 155 = .ok (.iconst (-1), 1) := by decide +kernel
theorem dX8_takes_156 : decode cX8_takes 156 = .ok (.if_icmp .ne 7, 3) := by decide +kernel
theorem dX8_takes_159 : decode cX8_takes 159 = .ok (.iload_n 2, 1) := by decide +kernel
theorem dX8_takes_160 : decode cX8_takes 160 = .ok (.goto 7, 3) := by decide +kernel
theorem dX8_takes_163 : decode cX8_takes 163 = .ok (.aload_n 0, 1) := by decide +kernel
theorem dX8_takes_164 : decode cX8_takes 164 = .ok (.getfield 221, 3) := by decide +kernel
theorem dX8_takes_167 : decode cX8_takes 167 = .ok (.putfield 221, 3) := by decide +kernel
theorem dX8_takes_170 : decode cX8_takes 170 = .ok (.aload_n 0, 1) := by decide +kernel
theorem dX8_takes_171 : decode cX8_takes 171 = .ok (.aload_n 0, 1) := by decide +kernel
theorem dX8_takes_172 : decode cX8_takes 172 = .ok (.getfield 218, 3) := by decide +kernel
theorem dX8_takes_175 : decode cX8_takes 175 = .ok (.iconst (-1), 1) := by decide +kernel
theorem dX8_takes_176 : decode cX8_takes 176 = .ok (.if_icmp .ne 7, 3) := by decide +kernel
theorem dX8_takes_179 : decode cX8_takes 179 = .ok (.iload_n 3, 1) := by decide +kernel
theorem dX8_takes_180 : decode cX8_takes 180 = .ok (.goto 7, 3) := by decide +kernel
theorem dX8_takes_183 : decode cX8_takes 183 = .ok (.aload_n 0, 1) := by decide +kernel
theorem dX8_takes_184 : decode cX8_takes 184 = .ok (.getfield 218, 3) := by decide +kernel
theorem dX8_takes_187 : decode cX8_takes 187 = .ok (.putfield 218, 3) := by decide +kernel
theorem dX8_takes_190 : decode cX8_takes 190 = .ok (.aload_n 0, 1) := by decide +kernel
theorem dX8_takes_191 : decode cX8_takes 191 = .ok (.getfield 16, 3) := by decide +kernel
theorem dX8_takes_194 : decode cX8_takes 194 = .ok (.iload_n 2, 1) := by decide +kernel
theorem dX8_takes_195 : decode cX8_takes 195 = .ok (.iaload, 1) := by decide +kernel
theorem dX8_takes_196 : decode cX8_takes 196 = .ok (.iconst 1, 1) := by decide +kernel
theorem dX8_takes_197 : decode cX8_takes 197 = .ok (.if_icmp .ne 21, 3) := by decide +kernel
theorem dX8_takes_200 : decode cX8_takes 200 = .ok (.aload_n 0, 1) := by decide +kernel
theorem dX8_takes_201 : decode cX8_takes 201 = .ok (.getfield 52, 3) := by decide +kernel
theorem dX8_takes_204 : decode cX8_takes 204 = .ok (.bipush 24, 2) := by decide +kernel
theorem dX8_takes_206 : decode cX8_takes 206 = .ok (.iload_n 1, 1) := by decide +kernel
theorem dX8_takes_207 : decode cX8_takes 207 = .ok (.imul, 1) := by decide +kernel
theorem dX8_takes_208 : decode cX8_takes 208 = .ok (.aload_n 0, 1) := by decide +kernel
theorem dX8_takes_209 : decode cX8_takes 209 = .ok (.getfield 22, 3) := by decide +kernel
theorem dX8_takes_212 : decode cX8_takes 212 = .ok (.iload_n 2, 1) := by decide +kernel
theorem dX8_takes_213 : decode cX8_takes 213 = .ok (.iaload, 1) := by decide +kernel
theorem dX8_takes_214 : decode cX8_takes 214 = .ok (.iastore, 1) := by decide +kernel
theorem dX8_takes_215 : decode cX8_takes 215 = .ok (.goto 35, 3) := by decide +kernel
theorem dX8_takes_218 : decode cX8_takes 218 = .ok (.aload_n 0, 1) := by decide +kernel
theorem dX8_takes_219 : decode cX8_takes 219 = .ok (.getfield 52, 3) := by decide +kernel
theorem dX8_takes_222 : decode cX8_takes 222 = .ok (.bipush 24, 2) := by decide +kernel
theorem dX8_takes_224 : decode cX8_takes 224 = .ok (.iload_n 1, 1) := by decide +kernel
theorem dX8_takes_225 : decode cX8_takes 225 = .ok (.imul, 1) := by decide +kernel
theorem dX8_takes_226 : decode cX8_takes 226 = .ok (.aload_n 0, 1) := by decide +kernel
theorem dX8_takes_227 : decode cX8_takes 227 = .ok (.getfield 49, 3) := by decide +kernel
theorem dX8_takes_230 : decode cX8_takes 230 = .ok (.iload_n 1, 1) := by decide +kernel
theorem dX8_takes_231 : decode cX8_takes 231 = .ok (.iaload, 1) := by decide +kernel
theorem dX8_takes_232 : decode cX8_takes 232 = .ok (.iadd, 1) := by decide +kernel
theorem dX8_takes_233 : decode cX8_takes 233 = .ok (.aload_n 0, 1) := by decide +kernel
theorem dX8_takes_234 : decode cX8_takes 234 = .ok (.getfield 22, 3) := by decide +kernel
theorem dX8_takes_237 : decode cX8_takes 237 = .ok (.iload_n 2, 1) := by decide +kernel
theorem dX8_takes_238 : decode cX8_takes 238 = .ok (.iaload, 1) := by decide +kernel
theorem dX8_takes_239 : decode cX8_takes 239 = .ok (.iastore, 1) := by decide +kernel
theorem dX8_takes_240 : decode cX8_takes 240 = .ok (.aload_n 0, 1) := by decide +kernel
theorem dX8_takes_241 : decode cX8_takes 241 = .ok (.getfield 49, 3) := by decide +kernel
theorem dX8_takes_244 : decode cX8_takes 244 = .ok (.iload_n 1, 1) := by decide +kernel
theorem dX8_takes_245 : decode cX8_takes 245 = .ok (.dup2, 1) := by decide +kernel
theorem dX8_takes_246 : decode cX8_takes 246 = .ok (.iaload, 1) := by decide +kernel
theorem dX8_takes_247 : decode cX8_takes 247 = .ok (.iconst 1, 1) := by decide +kernel
theorem dX8_takes_248 : decode cX8_takes 248 = .ok (.iadd, 1) := by decide +kernel
theorem dX8_takes_249 : decode cX8_takes 249 = .ok (.iastore, 1) := by decide +kernel
theorem dX8_takes_250 : decode cX8_takes 250 = .ok (.return_, 1) := by decide +kernel
theorem dX8_wears_0 : decode cX8_wears 0 = .ok (.aload_n 0, 1) := by decide +kernel
theorem dX8_wears_1 : decode cX8_wears 1 = .ok (.getfield 59, 3) := by decide +kernel
theorem dX8_wears_4 : decode cX8_wears 4 = .ok (.iload_n 1, 1) := by decide +kernel
theorem dX8_wears_5 : decode cX8_wears 5 = .ok (.dup2, 1) := by decide +kernel
theorem dX8_wears_6 : decode cX8_wears 6 = .ok (.iaload, 1) := by decide +kernel
theorem dX8_wears_7 : decode cX8_wears 7 = .ok (.iconst 1, 1) := by decide +kernel
theorem dX8_wears_8 : decode cX8_wears 8 = .ok (.iadd, 1) := by decide +kernel
theorem dX8_wears_9 : decode cX8_wears 9 = .ok (.iastore, 1) := by decide +kernel
theorem dX8_wears_10 : decode cX8_wears 10 = .ok (.aload_n 0, 1) := by decide +kernel
theorem dX8_wears_11 : decode cX8_wears 11 = .ok (.getfield 59, 3) := by decide +kernel
theorem dX8_wears_14 : decode cX8_wears 14 = .ok (.iload_n 1, 1) := by decide +kernel
theorem dX8_wears_15 : decode cX8_wears 15 = .ok (.iaload, 1) := by decide +kernel
theorem dX8_wears_16 : decode cX8_wears 16 = .ok (.aload_n 0, 1) := by decide +kernel
theorem dX8_wears_17 : decode cX8_wears 17 = .ok (.getfield 120, 3) := by decide +kernel
theorem dX8_wears_20 : decode cX8_wears 20 = .ok (.irem, 1) := by decide +kernel
theorem dX8_wears_21 : decode cX8_wears 21 = .ok (.ifCond .ne 65, 3) := by decide +kernel
theorem dX8_wears_24 : decode cX8_wears 24 = .ok (.aload_n 0, 1) := by decide +kernel
theorem dX8_wears_25 : decode cX8_wears 25 = .ok (.getfield 49, 3) := by decide +kernel
theorem dX8_wears_28 : decode cX8_wears 28 = .ok (.iload_n 1, 1) := by decide +kernel
theorem dX8_wears_29 : decode cX8_wears 29 = .ok (.iaload, 1) := by decide +kernel
theorem dX8_wears_30 : decode cX8_wears 30 = .ok (.iconst 1, 1) := by decide +kernel
theorem dX8_wears_31 : decode cX8_wears 31 = .ok (.if_icmp .le 55, 3) := by decide +kernel
theorem dX8_wears_34 : decode cX8_wears 34 = .ok (.aload_n 0, 1) := by decide +kernel
theorem dX8_wears_35 : decode cX8_wears 35 = .ok (.getfield 49, 3) := by decide +kernel
theorem dX8_wears_38 : decode cX8_wears 38 = .ok (.iload_n 1, 1) := by decide +kernel
theorem dX8_wears_39 : decode cX8_wears 39 = .ok (.dup2, 1) := by decide +kernel
theorem dX8_wears_40 : decode cX8_wears 40 = .ok (.iaload, 1) := by decide +kernel
theorem dX8_wears_41 : decode cX8_wears 41 = .ok (.iconst 1, 1) := by decide +kernel
theorem dX8_wears_42 : decode cX8_wears 42 = .ok (.isub, 1) := by decide +kernel
theorem dX8_wears_43 : decode cX8_wears 43 = .ok (.iastore, 1) := by decide +kernel
theorem dX8_wears_44 : decode cX8_wears 44 = .ok (.iconst 0, 1) := by decide +kernel
theorem dX8_wears_45 : decode cX8_wears 45 = .ok (.istore_n 2, 1) := by decide +kernel
theorem dX8_wears_46 : decode cX8_wears 46 = .ok (.iload_n 2, 1) := by decide +kernel
theorem dX8_wears_47 : decode cX8_wears 47 = .ok (.aload_n 0, 1) := by decide +kernel
theorem dX8_wears_48 : decode cX8_wears 48 = .ok (.getfield 49, 3) := by decide +kernel
theorem dX8_wears_51 : decode cX8_wears 51 = .ok (.iload_n 1, 1) := by decide +kernel
theorem dX8_wears_52 : decode cX8_wears 52 = .ok (.iaload, 1) := by decide +kernel
theorem dX8_wears_53 : decode cX8_wears 53 = .ok (.if_icmp .ge 33, 3) := by decide +kernel
theorem dX8_wears_56 : decode cX8_wears 56 = .ok (.aload_n 0, 1) := by decide +kernel
theorem dX8_wears_57 : decode cX8_wears 57 = .ok (.getfield 52, 3) := by decide +kernel
theorem dX8_wears_60 : decode cX8_wears 60 = .ok (.bipush 24, 2) := by decide +kernel
theorem dX8_wears_62 : decode cX8_wears 62 = .ok (.iload_n 1, 1) := by decide +kernel
theorem dX8_wears_63 : decode cX8_wears 63 = .ok (.imul, 1) := by decide +kernel
theorem dX8_wears_64 : decode cX8_wears 64 = .ok (.iload_n 2, 1) := by decide +kernel
theorem dX8_wears_65 : decode cX8_wears 65 = .ok (.iadd, 1) := by decide +kernel
theorem dX8_wears_66 : decode cX8_wears 66 = .ok (.aload_n 0, 1) := by decide +kernel
theorem dX8_wears_67 : decode cX8_wears 67 = .ok (.getfield 52, 3) := by decide +kernel
theorem dX8_wears_70 : decode cX8_wears 70 = .ok (.bipush 24, 2) := by decide +kernel
theorem dX8_wears_72 : decode cX8_wears 72 = .ok (.iload_n 1, 1) := by decide +kernel
theorem dX8_wears_73 : decode cX8_wears 73 = .ok (.imul, 1) := by decide +kernel
theorem dX8_wears_74 : decode cX8_wears 74 = .ok (.iload_n 2, 1) := by decide +kernel
theorem dX8_wears_75 : decode cX8_wears 75 = .ok (.iadd, 1) := by decide +kernel
theorem dX8_wears_76 : decode cX8_wears 76 = .ok (.iconst 1, 1) := by decide +kernel
theorem dX8_wears_77 : decode cX8_wears 77 = .ok (.iadd, 1) := by decide +kernel
theorem dX8_wears_78 : decode cX8_wears 78 = .ok (.iaload, 1) := by decide +kernel
theorem dX8_wears_79 : decode cX8_wears 79 = .ok (.iastore, 1) := by decide +kernel
theorem dX8_wears_80 : decode cX8_wears 80 = .ok (.iinc 2 1, 3) := by decide +kernel
theorem dX8_wears_83 : decode cX8_wears 83 = .ok (.goto (-37), 3) := by decide +kernel
theorem dX8_wears_86 : decode cX8_wears 86 = .ok (.return_, 1) := by decide +kernel
theorem dX8_goesUp_0 : decode cX8_goesUp 0 = .ok (.aload_n 0, 1) := by decide +kernel
theorem dX8_goesUp_1 : decode cX8_goesUp 1 = .ok (.getfield 16, 3) := by decide +kernel
theorem dX8_goesUp_4 : decode cX8_goesUp 4 = .ok (.aload_n 0, 1) := by decide +kernel
theorem dX8_goesUp_5 : decode cX8_goesUp 5 = .ok (.getfield 43, 3) := by decide +kernel
theorem dX8_goesUp_8 : decode cX8_goesUp 8 = .ok (.iload_n 1, 1) := by decide +kernel
theorem dX8_goesUp_9 : decode cX8_goesUp 9 = .ok (.iaload, 1) := by decide +kernel
theorem dX8_goesUp_10 : decode cX8_goesUp 10 = .ok (.iaload, 1) := by decide +kernel
theorem dX8_goesUp_11 : decode cX8_goesUp 11 = .ok (.iconst 2, 1) := by decide +kernel
theorem dX8_goesUp_12 : decode cX8_goesUp 12 = .ok (.if_icmp .ne 27, 3) := by decide +kernel
theorem dX8_goesUp_15 : decode cX8_goesUp 15 = .ok (.aload_n 0, 1) := by decide +kernel
theorem dX8_goesUp_16 : decode cX8_goesUp 16 = .ok (.getfield 55, 3) := by decide +kernel
theorem dX8_goesUp_19 : decode cX8_goesUp 19 = .ok (.iload_n 1, 1) := by decide +kernel
theorem dX8_goesUp_20 : decode cX8_goesUp 20 = .ok (.baload, 1) := by decide +kernel
theorem dX8_goesUp_21 : decode cX8_goesUp 21 = .ok (.ifCond .ne 18, 3) := by decide +kernel
theorem dX8_goesUp_24 : decode cX8_goesUp 24 = .ok (.aload_n 0, 1) := by decide +kernel
theorem dX8_goesUp_25 : decode cX8_goesUp 25 = .ok (.getfield 212, 3) := by decide +kernel
theorem dX8_goesUp_28 : decode cX8_goesUp 28 = .ok (.iload_n 2, 1) := by decide +kernel
theorem dX8_goesUp_29 : decode cX8_goesUp 29 = .ok (.invokestatic 196, 3) := by decide +kernel
theorem dX8_goesUp_32 : decode cX8_goesUp 32 = .ok (.ifCond .ne 7, 3) := by decide +kernel
theorem dX8_goesUp_35 : decode cX8_goesUp 35 = .ok (.iconst 1, 1) := by decide +kernel
theorem dX8_goesUp_36 : decode cX8_goesUp 36 = .ok (.goto 4, 3) := by decide +kernel
theorem dX8_goesUp_39 : decode cX8_goesUp 39 = .ok (.iconst 0, 1) := by decide +kernel
theorem dX8_goesUp_40 : decode cX8_goesUp 40 = .ok (.istore_n 3, 1) := by decide +kernel
theorem dX8_goesUp_41 : decode cX8_goesUp 41 = .ok (.aload_n 0, 1) := by decide +kernel
theorem dX8_goesUp_42 : decode cX8_goesUp 42 = .ok (.getfield 55, 3) := by decide +kernel
theorem dX8_goesUp_45 : decode cX8_goesUp 45 = .ok (.iload_n 1, 1) := by decide +kernel
theorem dX8_goesUp_46 : decode cX8_goesUp 46 = .ok (.iload_n 3, 1) := by decide +kernel
theorem dX8_goesUp_47 : decode cX8_goesUp 47 = .ok (.bastore, 1) := by decide +kernel
theorem dX8_goesUp_48 : decode cX8_goesUp 48 = .ok (.iload_n 3, 1) := by decide +kernel
theorem dX8_goesUp_49 : decode cX8_goesUp 49 = .ok (.ifCond .ne 44, 3) := by decide +kernel
theorem dX8_goesUp_52 : decode cX8_goesUp 52 = .ok (.aload_n 0, 1) := by decide +kernel
theorem dX8_goesUp_53 : decode cX8_goesUp 53 = .ok (.getfield 43, 3) := by decide +kernel
theorem dX8_goesUp_56 : decode cX8_goesUp 56 = .ok (.iload_n 1, 1) := by decide +kernel
theorem dX8_goesUp_57 : decode cX8_goesUp 57 = .ok (.dup2, 1) := by decide +kernel
theorem dX8_goesUp_58 : decode cX8_goesUp 58 = .ok (.iaload, 1) := by decide +kernel
theorem dX8_goesUp_59 : decode cX8_goesUp 59 = .ok (.iconst 1, 1) := by decide +kernel
theorem dX8_goesUp_60 : decode cX8_goesUp 60 = .ok (.iadd, 1) := by decide +kernel
theorem dX8_goesUp_61 : decode cX8_goesUp 61 = .ok (.iastore, 1) := by decide +kernel
theorem dX8_goesUp_62 : decode cX8_goesUp 62 = .ok (.aload_n 0, 1) := by decide +kernel
theorem dX8_goesUp_63 : decode cX8_goesUp 63 = .ok (.iload_n 1, 1) := by decide +kernel
theorem dX8_goesUp_64 : decode cX8_goesUp 64 = .ok (.invokevirtual 224, 3) := by decide +kernel
theorem dX8_goesUp_67 : decode cX8_goesUp 67 = .ok (.aload_n 0, 1) := by decide +kernel
theorem dX8_goesUp_68 : decode cX8_goesUp 68 = .ok (.getfield 62, 3) := by decide +kernel
theorem dX8_goesUp_71 : decode cX8_goesUp 71 = .ok (.iload_n 1, 1) := by decide +kernel
theorem dX8_goesUp_72 : decode cX8_goesUp 72 = .ok (.aload_n 0, 1) := by decide +kernel
theorem dX8_goesUp_73 : decode cX8_goesUp 73 = .ok (.getfield 43, 3) := by decide +kernel
theorem dX8_goesUp_76 : decode cX8_goesUp 76 = .ok (.iload_n 1, 1) := by decide +kernel
theorem dX8_goesUp_77 : decode cX8_goesUp 77 = .ok (.iaload, 1) := by decide +kernel
theorem dX8_goesUp_78 : decode cX8_goesUp 78 = .ok (.aload_n 0, 1) := by decide +kernel
theorem dX8_goesUp_79 : decode cX8_goesUp 79 = .ok (.getfield 144, 3) := by decide +kernel
theorem dX8_goesUp_82 : decode cX8_goesUp 82 = .ok (.if_icmp .ne 9, 3) := by decide +kernel
theorem dX8_goesUp_85 : decode cX8_goesUp 85 = .ok (.iload_n 2, 1) := by decide +kernel
theorem dX8_goesUp_86 : decode cX8_goesUp 86 = .ok (.iconst 1, 1) := by decide +kernel
theorem dX8_goesUp_87 : decode cX8_goesUp 87 = .ok (.iadd, 1) := by decide +kernel
theorem dX8_goesUp_88 : decode cX8_goesUp 88 = .ok (.goto 4, 3) := by decide +kernel
theorem dX8_goesUp_91 : decode cX8_goesUp 91 = .ok (.iconst (-1), 1) := by decide +kernel
theorem dX8_goesUp_92 : decode cX8_goesUp 92 = .ok (.iastore, 1) := by decide +kernel
theorem dX8_goesUp_93 : decode cX8_goesUp 93 = .ok (.return_, 1) := by decide +kernel
theorem dX8_goesBy_0 : decode cX8_goesBy 0 = .ok (.iconst 0, 1) := by decide +kernel
theorem dX8_goesBy_1 : decode cX8_goesBy 1 = .ok (.istore_n 2, 1) := by decide +kernel
theorem dX8_goesBy_2 : decode cX8_goesBy 2 = .ok (.iload_n 2, 1) := by decide +kernel
theorem dX8_goesBy_3 : decode cX8_goesBy 3 = .ok (.aload_n 0, 1) := by decide +kernel
theorem dX8_goesBy_4 : decode cX8_goesBy 4 = .ok (.getfield 147, 3) := by decide +kernel
theorem dX8_goesBy_7 : decode cX8_goesBy 7 = .ok (.if_icmp .ge 68, 3) := by decide +kernel
theorem dX8_goesBy_10 : decode cX8_goesBy 10 = .ok (.aload_n 0, 1) := by decide +kernel
theorem dX8_goesBy_11 : decode cX8_goesBy 11 = .ok (.getfield 43, 3) := by decide +kernel
theorem dX8_goesBy_14 : decode cX8_goesBy 14 = .ok (.iload_n 2, 1) := by decide +kernel
theorem dX8_goesBy_15 : decode cX8_goesBy 15 = .ok (.aload_n 0, 1) := by decide +kernel
theorem dX8_goesBy_16 : decode cX8_goesBy 16 = .ok (.getfield 25, 3) := by decide +kernel
theorem dX8_goesBy_19 : decode cX8_goesBy 19 = .ok (.iload_n 2, 1) := by decide +kernel
theorem dX8_goesBy_20 : decode cX8_goesBy 20 = .ok (.iaload, 1) := by decide +kernel
theorem dX8_goesBy_21 : decode cX8_goesBy 21 = .ok (.iload_n 1, 1) := by decide +kernel
theorem dX8_goesBy_22 : decode cX8_goesBy 22 = .ok (.if_icmp .ne 7, 3) := by decide +kernel
theorem dX8_goesBy_25 : decode cX8_goesBy 25 = .ok (.iconst 0, 1) := by decide +kernel
theorem dX8_goesBy_26 : decode cX8_goesBy 26 = .ok (.goto 9, 3) := by decide +kernel
theorem dX8_goesBy_29 : decode cX8_goesBy 29 = .ok (.aload_n 0, 1) := by decide +kernel
theorem dX8_goesBy_30 : decode cX8_goesBy 30 = .ok (.getfield 43, 3) := by decide +kernel
theorem dX8_goesBy_33 : decode cX8_goesBy 33 = .ok (.iload_n 2, 1) := by decide +kernel
theorem dX8_goesBy_34 : decode cX8_goesBy 34 = .ok (.iaload, 1) := by decide +kernel
theorem dX8_goesBy_35 : decode cX8_goesBy 35 = .ok (.iastore, 1) := by decide +kernel
theorem dX8_goesBy_36 : decode cX8_goesBy 36 = .ok (.aload_n 0, 1) := by decide +kernel
theorem dX8_goesBy_37 : decode cX8_goesBy 37 = .ok (.getfield 62, 3) := by decide +kernel
theorem dX8_goesBy_40 : decode cX8_goesBy 40 = .ok (.iload_n 2, 1) := by decide +kernel
theorem dX8_goesBy_41 : decode cX8_goesBy 41 = .ok (.aload_n 0, 1) := by decide +kernel
theorem dX8_goesBy_42 : decode cX8_goesBy 42 = .ok (.getfield 25, 3) := by decide +kernel
theorem dX8_goesBy_45 : decode cX8_goesBy 45 = .ok (.iload_n 2, 1) := by decide +kernel
theorem dX8_goesBy_46 : decode cX8_goesBy 46 = .ok (.iaload, 1) := by decide +kernel
theorem dX8_goesBy_47 : decode cX8_goesBy 47 = .ok (.iload_n 1, 1) := by decide +kernel
theorem dX8_goesBy_48 : decode cX8_goesBy 48 = .ok (.if_icmp .ne 14, 3) := by decide +kernel
theorem dX8_goesBy_51 : decode cX8_goesBy 51 = .ok (.aload_n 0, 1) := by decide +kernel
theorem dX8_goesBy_52 : decode cX8_goesBy 52 = .ok (.getfield 144, 3) := by decide +kernel
theorem dX8_goesBy_55 : decode cX8_goesBy 55 = .ok (.ifCond .ne 7, 3) := by decide +kernel
theorem dX8_goesBy_58 : decode cX8_goesBy 58 = .ok (.iload_n 1, 1) := by decide +kernel
theorem dX8_goesBy_59 : decode cX8_goesBy 59 = .ok (.goto 9, 3) := by decide +kernel
theorem dX8_goesBy_62 : decode cX8_goesBy 62 = .ok (.aload_n 0, 1) := by decide +kernel
theorem dX8_goesBy_63 : decode cX8_goesBy 63 = .ok (.getfield 62, 3) := by decide +kernel
theorem dX8_goesBy_66 : decode cX8_goesBy 66 = .ok (.iload_n 2, 1) := by decide +kernel
theorem dX8_goesBy_67 : decode cX8_goesBy 67 = .ok (.iaload, 1) := by decide +kernel
theorem dX8_goesBy_68 : decode cX8_goesBy 68 = .ok (.iastore, 1) := by decide +kernel
theorem dX8_goesBy_69 : decode cX8_goesBy 69 = .ok (.iinc 2 1, 3) := by decide +kernel
theorem dX8_goesBy_72 : decode cX8_goesBy 72 = .ok (.goto (-70), 3) := by decide +kernel
theorem dX8_goesBy_75 : decode cX8_goesBy 75 = .ok (.iconst 0, 1) := by decide +kernel
theorem dX8_goesBy_76 : decode cX8_goesBy 76 = .ok (.istore_n 2, 1) := by decide +kernel
theorem dX8_goesBy_77 : decode cX8_goesBy 77 = .ok (.iload_n 2, 1) := by decide +kernel
theorem dX8_goesBy_78 : decode cX8_goesBy 78 = .ok (.aload_n 0, 1) := by decide +kernel
theorem dX8_goesBy_79 : decode cX8_goesBy 79 = .ok (.getfield 147, 3) := by decide +kernel
theorem dX8_goesBy_82 : decode cX8_goesBy 82 = .ok (.if_icmp .ge 128, 3) := by decide +kernel
theorem dX8_goesBy_85 : decode cX8_goesBy 85 = .ok (.aload_n 0, 1) := by decide +kernel
theorem dX8_goesBy_86 : decode cX8_goesBy 86 = .ok (.getfield 43, 3) := by decide +kernel
theorem dX8_goesBy_89 : decode cX8_goesBy 89 = .ok (.iload_n 2, 1) := by decide +kernel
theorem dX8_goesBy_90 : decode cX8_goesBy 90 = .ok (.iaload, 1) := by decide +kernel
theorem dX8_goesBy_91 : decode cX8_goesBy 91 = .ok (.iconst 0, 1) := by decide +kernel
theorem dX8_goesBy_92 : decode cX8_goesBy 92 = .ok (.aload_n 0, 1) := by decide +kernel
theorem dX8_goesBy_93 : decode cX8_goesBy 93 = .ok (.getfield 144, 3) := by decide +kernel
theorem dX8_goesBy_96 : decode cX8_goesBy 96 = .ok (.iconst 1, 1) := by decide +kernel
theorem dX8_goesBy_97 : decode cX8_goesBy 97 = .ok (.isub, 1) := by decide +kernel
theorem dX8_goesBy_98 : decode cX8_goesBy 98 = .ok (.invokestatic 125, 3) := by decide +kernel
theorem dX8_goesBy_101 : decode cX8_goesBy 101 = .ok (.istore_n 3, 1) := by decide +kernel
theorem dX8_goesBy_102 : decode cX8_goesBy 102 = .ok (.iload_n 3, 1) := by decide +kernel
theorem dX8_goesBy_103 : decode cX8_goesBy 103 = .ok (.ifCond .eq 15, 3) := by decide +kernel
theorem dX8_goesBy_106 : decode cX8_goesBy 106 = .ok (.aload_n 0, 1) := by decide +kernel
theorem dX8_goesBy_107 : decode cX8_goesBy 107 = .ok (.iload_n 2, 1) := by decide +kernel
theorem dX8_goesBy_108 : decode cX8_goesBy 108 = .ok (.invokevirtual 228, 3) := by decide +kernel
theorem dX8_goesBy_111 : decode cX8_goesBy 111 = .ok (.ifCond .eq 7, 3) := by decide +kernel
theorem dX8_goesBy_114 : decode cX8_goesBy 114 = .ok (.iconst 1, 1) := by decide +kernel
theorem dX8_goesBy_115 : decode cX8_goesBy 115 = .ok (.goto 4, 3) := by decide +kernel
theorem dX8_goesBy_118 : decode cX8_goesBy 118 = .ok (.iconst 0, 1) := by decide +kernel
theorem dX8_goesBy_119 : decode cX8_goesBy 119 = .ok (.istore 4, 2) := by decide +kernel
theorem dX8_goesBy_121 : decode cX8_goesBy 121 = .ok (.aload_n 0, 1) := by decide +kernel
theorem dX8_goesBy_122 : decode cX8_goesBy 122 = .ok (.getfield 83, 3) := by decide +kernel
theorem dX8_goesBy_125 : decode cX8_goesBy 125 = .ok (.bipush 8, 2) := by decide +kernel
theorem dX8_goesBy_127 : decode cX8_goesBy 127 = .ok (.iload_n 1, 1) := by decide +kernel
theorem dX8_goesBy_128 : decode cX8_goesBy 128 = .ok (.imul, 1) := by decide +kernel
theorem dX8_goesBy_129 : decode cX8_goesBy 129 = .ok (.iload_n 2, 1) := by decide +kernel
theorem dX8_goesBy_130 : decode cX8_goesBy 130 = .ok (.iadd, 1) := by decide +kernel
theorem dX8_goesBy_131 : decode cX8_goesBy 131 = .ok (.iload 4, 2) := by decide +kernel
theorem dX8_goesBy_133 : decode cX8_goesBy 133 = .ok (.bastore, 1) := by decide +kernel
theorem dX8_goesBy_134 : decode cX8_goesBy 134 = .ok (.iload_n 3, 1) := by decide +kernel
theorem dX8_goesBy_135 : decode cX8_goesBy 135 = .ok (.ifCond .eq 69, 3) := by decide +kernel
theorem dX8_goesBy_138 : decode cX8_goesBy 138 = .ok (.iload 4, 2) := by decide +kernel
theorem dX8_goesBy_140 : decode cX8_goesBy 140 = .ok (.ifCond .ne 64, 3) := by decide +kernel
theorem dX8_goesBy_143 : decode cX8_goesBy 143 = .ok (.aload_n 0, 1) := by decide +kernel
theorem dX8_goesBy_144 : decode cX8_goesBy 144 = .ok (.getfield 46, 3) := by decide +kernel
theorem dX8_goesBy_147 : decode cX8_goesBy 147 = .ok (.iload_n 2, 1) := by decide +kernel
theorem dX8_goesBy_148 : decode cX8_goesBy 148 = .ok (.aload_n 0, 1) := by decide +kernel
theorem dX8_goesBy_149 : decode cX8_goesBy 149 = .ok (.getfield 16, 3) := by decide +kernel
theorem dX8_goesBy_152 : decode cX8_goesBy 152 = .ok (.aload_n 0, 1) := by decide +kernel
theorem dX8_goesBy_153 : decode cX8_goesBy 153 = .ok (.getfield 43, 3) := by decide +kernel
theorem dX8_goesBy_156 : decode cX8_goesBy 156 = .ok (.iload_n 2, 1) := by decide +kernel
theorem dX8_goesBy_157 : decode cX8_goesBy 157 = .ok (.iaload, 1) := by decide +kernel
theorem dX8_goesBy_158 : decode cX8_goesBy 158 = .ok (.iaload, 1) := by decide +kernel
theorem dX8_goesBy_159 : decode cX8_goesBy 159 = .ok (.iconst 3, 1) := by decide +kernel
theorem dX8_goesBy_160 : decode cX8_goesBy 160 = .ok (.if_icmp .ne 25, 3) := by decide +kernel
theorem dX8_goesBy_163 : decode cX8_goesBy 163 = .ok (.aload_n 0, 1) := by decide +kernel
theorem dX8_goesBy_164 : decode cX8_goesBy 164 = .ok (.getfield 208, 3) := by decide +kernel
theorem dX8_goesBy_167 : decode cX8_goesBy 167 = .ok (.iload_n 1, 1) := by decide +kernel
theorem dX8_goesBy_168 : decode cX8_goesBy 168 = .ok (.invokestatic 196, 3) := by decide +kernel
theorem dX8_goesBy_171 : decode cX8_goesBy 171 = .ok (.ifCond .eq 14, 3) := by decide +kernel
theorem dX8_goesBy_174 : decode cX8_goesBy 174 = .ok (.aload_n 0, 1) := by decide +kernel
theorem dX8_goesBy_175 : decode cX8_goesBy 175 = .ok (.getfield 46, 3) := by decide +kernel
theorem dX8_goesBy_178 : decode cX8_goesBy 178 = .ok (.iload_n 2, 1) := by decide +kernel
theorem dX8_goesBy_179 : decode cX8_goesBy 179 = .ok (.iaload, 1) := by decide +kernel
theorem dX8_goesBy_180 : decode cX8_goesBy 180 = .ok (.iconst 2, 1) := by decide +kernel
theorem dX8_goesBy_181 : decode cX8_goesBy 181 = .ok (.idiv, 1) := by decide +kernel
theorem dX8_goesBy_182 : decode cX8_goesBy 182 = .ok (.goto 9, 3) := by decide +kernel
theorem dX8_goesBy_185 : decode cX8_goesBy 185 = .ok (.aload_n 0, 1) := by decide +kernel
theorem dX8_goesBy_186 : decode cX8_goesBy 186 = .ok (.getfield 46, 3) := by decide +kernel
theorem dX8_goesBy_189 : decode cX8_goesBy 189 = .ok (.iload_n 2, 1) := by decide +kernel
theorem dX8_goesBy_190 : decode cX8_goesBy 190 = .ok (.iaload, 1) := by decide +kernel
theorem dX8_goesBy_191 : decode cX8_goesBy 191 = .ok (.iastore, 1) := by decide +kernel
theorem dX8_goesBy_192 : decode cX8_goesBy 192 = .ok (.aload_n 0, 1) := by decide +kernel
theorem dX8_goesBy_193 : decode cX8_goesBy 193 = .ok (.iload_n 2, 1) := by decide +kernel
theorem dX8_goesBy_194 : decode cX8_goesBy 194 = .ok (.aload_n 0, 1) := by decide +kernel
theorem dX8_goesBy_195 : decode cX8_goesBy 195 = .ok (.getfield 43, 3) := by decide +kernel
theorem dX8_goesBy_198 : decode cX8_goesBy 198 = .ok (.iload_n 2, 1) := by decide +kernel
theorem dX8_goesBy_199 : decode cX8_goesBy 199 = .ok (.iaload, 1) := by decide +kernel
theorem dX8_goesBy_200 : decode cX8_goesBy 200 = .ok (.iload_n 1, 1) := by decide +kernel
theorem dX8_goesBy_201 : decode cX8_goesBy 201 = .ok (.invokevirtual 231, 3) := by decide +kernel
theorem dX8_goesBy_204 : decode cX8_goesBy 204 = .ok (.iinc 2 1, 3) := by decide +kernel
theorem dX8_goesBy_207 : decode cX8_goesBy 207 = .ok (.goto (-130), 3) := by decide +kernel
theorem dX8_goesBy_210 : decode cX8_goesBy 210 = .ok (.iconst 0, 1) := by decide +kernel
theorem dX8_goesBy_211 : decode cX8_goesBy 211 = .ok (.istore_n 2, 1) := by decide +kernel
theorem dX8_goesBy_212 : decode cX8_goesBy 212 = .ok (.iload_n 2, 1) := by decide +kernel
theorem dX8_goesBy_213 : decode cX8_goesBy 213 = .ok (.aload_n 0, 1) := by decide +kernel
theorem dX8_goesBy_214 : decode cX8_goesBy 214 = .ok (.getfield 147, 3) := by decide +kernel
theorem dX8_goesBy_217 : decode cX8_goesBy 217 = .ok (.if_icmp .ge 60, 3) := by decide +kernel
theorem dX8_goesBy_220 : decode cX8_goesBy 220 = .ok (.aload_n 0, 1) := by decide +kernel
theorem dX8_goesBy_221 : decode cX8_goesBy 221 = .ok (.getfield 74, 3) := by decide +kernel
theorem dX8_goesBy_224 : decode cX8_goesBy 224 = .ok (.bipush 8, 2) := by decide +kernel
theorem dX8_goesBy_226 : decode cX8_goesBy 226 = .ok (.iload_n 1, 1) := by decide +kernel
theorem dX8_goesBy_227 : decode cX8_goesBy 227 = .ok (.imul, 1) := by decide +kernel
theorem dX8_goesBy_228 : decode cX8_goesBy 228 = .ok (.iload_n 2, 1) := by decide +kernel
theorem dX8_goesBy_229 : decode cX8_goesBy 229 = .ok (.iadd, 1) := by decide +kernel
theorem dX8_goesBy_230 : decode cX8_goesBy 230 = .ok (.aload_n 0, 1) := by decide +kernel
theorem dX8_goesBy_231 : decode cX8_goesBy 231 = .ok (.getfield 43, 3) := by decide +kernel
theorem dX8_goesBy_234 : decode cX8_goesBy 234 = .ok (.iload_n 2, 1) := by decide +kernel
theorem dX8_goesBy_235 : decode cX8_goesBy 235 = .ok (.iaload, 1) := by decide +kernel
theorem dX8_goesBy_236 : decode cX8_goesBy 236 = .ok (.iastore, 1) := by decide +kernel
theorem dX8_goesBy_237 : decode cX8_goesBy 237 = .ok (.aload_n 0, 1) := by decide +kernel
theorem dX8_goesBy_238 : decode cX8_goesBy 238 = .ok (.getfield 77, 3) := by decide +kernel
theorem dX8_goesBy_241 : decode cX8_goesBy 241 = .ok (.bipush 8, 2) := by decide +kernel
theorem dX8_goesBy_243 : decode cX8_goesBy 243 = .ok (.iload_n 1, 1) := by decide +kernel
theorem dX8_goesBy_244 : decode cX8_goesBy 244 = .ok (.imul, 1) := by decide +kernel
theorem dX8_goesBy_245 : decode cX8_goesBy 245 = .ok (.iload_n 2, 1) := by decide +kernel
theorem dX8_goesBy_246 : decode cX8_goesBy 246 = .ok (.iadd, 1) := by decide +kernel
theorem dX8_goesBy_247 : decode cX8_goesBy 247 = .ok (.aload_n 0, 1) := by decide +kernel
theorem dX8_goesBy_248 : decode cX8_goesBy 248 = .ok (.getfield 46, 3) := by decide +kernel
theorem dX8_goesBy_251 : decode cX8_goesBy 251 = .ok (.iload_n 2, 1) := by decide +kernel
theorem dX8_goesBy_252 : decode cX8_goesBy 252 = .ok (.iaload, 1) := by decide +kernel
theorem dX8_goesBy_253 : decode cX8_goesBy 253 = .ok (.iastore, 1) := by decide +kernel
theorem dX8_goesBy_254 : decode cX8_goesBy 254 = .ok (.aload_n 0, 1) := by decide +kernel
theorem dX8_goesBy_255 : decode cX8_goesBy 255 = .ok (.getfield 80, 3) := by decide +kernel
theorem dX8_goesBy_258 : decode cX8_goesBy 258 = .ok (.bipush 8, 2) := by decide +kernel
theorem dX8_goesBy_260 : decode cX8_goesBy 260 = .ok (.iload_n 1, 1) := by decide +kernel
theorem dX8_goesBy_261 : decode cX8_goesBy 261 = .ok (.imul, 1) := by decide +kernel
theorem dX8_goesBy_262 : decode cX8_goesBy 262 = .ok (.iload_n 2, 1) := by decide +kernel
theorem dX8_goesBy_263 : decode cX8_goesBy 263 = .ok (.iadd, 1) := by decide +kernel
theorem dX8_goesBy_264 : decode cX8_goesBy 264 = .ok (.aload_n 0, 1) := by decide +kernel
theorem dX8_goesBy_265 : decode cX8_goesBy 265 = .ok (.getfield 49, 3) := by decide +kernel
theorem dX8_goesBy_268 : decode cX8_goesBy 268 = .ok (.iload_n 2, 1) := by decide +kernel
theorem dX8_goesBy_269 : decode cX8_goesBy 269 = .ok (.iaload, 1) := by decide +kernel
theorem dX8_goesBy_270 : decode cX8_goesBy 270 = .ok (.iastore, 1) := by decide +kernel
theorem dX8_goesBy_271 : decode cX8_goesBy 271 = .ok (.iinc 2 1, 3) := by decide +kernel
theorem dX8_goesBy_274 : decode cX8_goesBy 274 = .ok (.goto (-62), 3) := by decide +kernel
theorem dX8_goesBy_277 : decode cX8_goesBy 277 = .ok (.iconst 0, 1) := by decide +kernel
theorem dX8_goesBy_278 : decode cX8_goesBy 278 = .ok (.istore_n 2, 1) := by decide +kernel
theorem dX8_goesBy_279 : decode cX8_goesBy 279 = .ok (.iload_n 2, 1) := by decide +kernel
theorem dX8_goesBy_280 : decode cX8_goesBy 280 = .ok (.aload_n 0, 1) := by decide +kernel
theorem dX8_goesBy_281 : decode cX8_goesBy 281 = .ok (.getfield 147, 3) := by decide +kernel
theorem dX8_goesBy_284 : decode cX8_goesBy 284 = .ok (.if_icmp .ge 48, 3) := by decide +kernel
theorem dX8_goesBy_287 : decode cX8_goesBy 287 = .ok (.aload_n 0, 1) := by decide +kernel
theorem dX8_goesBy_288 : decode cX8_goesBy 288 = .ok (.getfield 43, 3) := by decide +kernel
theorem dX8_goesBy_291 : decode cX8_goesBy 291 = .ok (.iload_n 2, 1) := by decide +kernel
theorem dX8_goesBy_292 : decode cX8_goesBy 292 = .ok (.iaload, 1) := by decide +kernel
theorem dX8_goesBy_293 : decode cX8_goesBy 293 = .ok (.iconst 0, 1) := by decide +kernel
theorem dX8_goesBy_294 : decode cX8_goesBy 294 = .ok (.aload_n 0, 1) := by decide +kernel
theorem dX8_goesBy_295 : decode cX8_goesBy 295 = .ok (.getfield 144, 3) := by decide +kernel
theorem dX8_goesBy_298 : decode cX8_goesBy 298 = .ok (.iconst 1, 1) := by decide +kernel
theorem dX8_goesBy_299 : decode cX8_goesBy 299 = .ok (.isub, 1) := by decide +kernel
theorem dX8_goesBy_300 : decode cX8_goesBy 300 = .ok (.invokestatic 125, 3) := by decide +kernel
theorem dX8_goesBy_303 : decode cX8_goesBy 303 = .ok (.ifCond .eq 23, 3) := by decide +kernel
theorem dX8_goesBy_306 : decode cX8_goesBy 306 = .ok (.aload_n 0, 1) := by decide +kernel
theorem dX8_goesBy_307 : decode cX8_goesBy 307 = .ok (.getfield 83, 3) := by decide +kernel
theorem dX8_goesBy_310 : decode cX8_goesBy 310 = .ok (.bipush 8, 2) := by decide +kernel
theorem dX8_goesBy_312 : decode cX8_goesBy 312 = .ok (.iload_n 1, 1) := by decide +kernel
theorem dX8_goesBy_313 : decode cX8_goesBy 313 = .ok (.imul, 1) := by decide +kernel
theorem dX8_goesBy_314 : decode cX8_goesBy 314 = .ok (.iload_n 2, 1) := by decide +kernel
theorem dX8_goesBy_315 : decode cX8_goesBy 315 = .ok (.iadd, 1) := by decide +kernel
theorem dX8_goesBy_316 : decode cX8_goesBy 316 = .ok (.baload, 1) := by decide +kernel
theorem dX8_goesBy_317 : decode cX8_goesBy 317 = .ok (.ifCond .ne 9, 3) := by decide +kernel
theorem dX8_goesBy_320 : decode cX8_goesBy 320 = .ok (.aload_n 0, 1) := by decide +kernel
theorem dX8_goesBy_321 : decode cX8_goesBy 321 = .ok (.iload_n 2, 1) := by decide +kernel
theorem dX8_goesBy_322 : decode cX8_goesBy 322 = .ok (.iload_n 1, 1) := by decide +kernel
theorem dX8_goesBy_323 : decode cX8_goesBy 323 = .ok (.invokevirtual 235, 3) := by decide +kernel
theorem dX8_goesBy_326 : decode cX8_goesBy 326 = .ok (.iinc 2 1, 3) := by decide +kernel
theorem dX8_goesBy_329 : decode cX8_goesBy 329 = .ok (.goto (-50), 3) := by decide +kernel
theorem dX8_goesBy_332 : decode cX8_goesBy 332 = .ok (.return_, 1) := by decide +kernel
theorem dX8_runs_0 : decode cX8_runs 0 = .ok (.iconst 0, 1) := by decide +kernel
theorem dX8_runs_1 : decode cX8_runs 1 = .ok (.istore_n 1, 1) := by decide +kernel
theorem dX8_runs_2 : decode cX8_runs 2 = .ok (.iload_n 1, 1) := by decide +kernel
theorem dX8_runs_3 : decode cX8_runs 3 = .ok (.aload_n 0, 1) := by decide +kernel
theorem dX8_runs_4 : decode cX8_runs 4 = .ok (.getfield 147, 3) := by decide +kernel
theorem dX8_runs_7 : decode cX8_runs 7 = .ok (.if_icmp .ge 100, 3) := by decide +kernel
theorem dX8_runs_10 : decode cX8_runs 10 = .ok (.aload_n 0, 1) := by decide +kernel
theorem dX8_runs_11 : decode cX8_runs 11 = .ok (.getfield 43, 3) := by decide +kernel
theorem dX8_runs_14 : decode cX8_runs 14 = .ok (.iload_n 1, 1) := by decide +kernel
theorem dX8_runs_15 : decode cX8_runs 15 = .ok (.iconst (-1), 1) := by decide +kernel
theorem dX8_runs_16 : decode cX8_runs 16 = .ok (.iastore, 1) := by decide +kernel
theorem dX8_runs_17 : decode cX8_runs 17 = .ok (.aload_n 0, 1) := by decide +kernel
theorem dX8_runs_18 : decode cX8_runs 18 = .ok (.getfield 46, 3) := by decide +kernel
theorem dX8_runs_21 : decode cX8_runs 21 = .ok (.iload_n 1, 1) := by decide +kernel
theorem dX8_runs_22 : decode cX8_runs 22 = .ok (.aload_n 0, 1) := by decide +kernel
theorem dX8_runs_23 : decode cX8_runs 23 = .ok (.getfield 28, 3) := by decide +kernel
theorem dX8_runs_26 : decode cX8_runs 26 = .ok (.iload_n 1, 1) := by decide +kernel
theorem dX8_runs_27 : decode cX8_runs 27 = .ok (.iaload, 1) := by decide +kernel
theorem dX8_runs_28 : decode cX8_runs 28 = .ok (.iastore, 1) := by decide +kernel
theorem dX8_runs_29 : decode cX8_runs 29 = .ok (.aload_n 0, 1) := by decide +kernel
theorem dX8_runs_30 : decode cX8_runs 30 = .ok (.getfield 49, 3) := by decide +kernel
theorem dX8_runs_33 : decode cX8_runs 33 = .ok (.iload_n 1, 1) := by decide +kernel
theorem dX8_runs_34 : decode cX8_runs 34 = .ok (.aload_n 0, 1) := by decide +kernel
theorem dX8_runs_35 : decode cX8_runs 35 = .ok (.getfield 31, 3) := by decide +kernel
theorem dX8_runs_38 : decode cX8_runs 38 = .ok (.iload_n 1, 1) := by decide +kernel
theorem dX8_runs_39 : decode cX8_runs 39 = .ok (.iaload, 1) := by decide +kernel
theorem dX8_runs_40 : decode cX8_runs 40 = .ok (.iastore, 1) := by decide +kernel
theorem dX8_runs_41 : decode cX8_runs 41 = .ok (.aload_n 0, 1) := by decide +kernel
theorem dX8_runs_42 : decode cX8_runs 42 = .ok (.getfield 55, 3) := by decide +kernel
theorem dX8_runs_45 : decode cX8_runs 45 = .ok (.iload_n 1, 1) := by decide +kernel
theorem dX8_runs_46 : decode cX8_runs 46 = .ok (.iconst 0, 1) := by decide +kernel
theorem dX8_runs_47 : decode cX8_runs 47 = .ok (.bastore, 1) := by decide +kernel
theorem dX8_runs_48 : decode cX8_runs 48 = .ok (.aload_n 0, 1) := by decide +kernel
theorem dX8_runs_49 : decode cX8_runs 49 = .ok (.getfield 59, 3) := by decide +kernel
theorem dX8_runs_52 : decode cX8_runs 52 = .ok (.iload_n 1, 1) := by decide +kernel
theorem dX8_runs_53 : decode cX8_runs 53 = .ok (.iconst 0, 1) := by decide +kernel
theorem dX8_runs_54 : decode cX8_runs 54 = .ok (.iastore, 1) := by decide +kernel
theorem dX8_runs_55 : decode cX8_runs 55 = .ok (.aload_n 0, 1) := by decide +kernel
theorem dX8_runs_56 : decode cX8_runs 56 = .ok (.getfield 62, 3) := by decide +kernel
theorem dX8_runs_59 : decode cX8_runs 59 = .ok (.iload_n 1, 1) := by decide +kernel
theorem dX8_runs_60 : decode cX8_runs 60 = .ok (.iconst (-1), 1) := by decide +kernel
theorem dX8_runs_61 : decode cX8_runs 61 = .ok (.iastore, 1) := by decide +kernel
theorem dX8_runs_62 : decode cX8_runs 62 = .ok (.iconst 0, 1) := by decide +kernel
theorem dX8_runs_63 : decode cX8_runs 63 = .ok (.istore_n 2, 1) := by decide +kernel
theorem dX8_runs_64 : decode cX8_runs 64 = .ok (.iload_n 2, 1) := by decide +kernel
theorem dX8_runs_65 : decode cX8_runs 65 = .ok (.aload_n 0, 1) := by decide +kernel
theorem dX8_runs_66 : decode cX8_runs 66 = .ok (.getfield 31, 3) := by decide +kernel
theorem dX8_runs_69 : decode cX8_runs 69 = .ok (.iload_n 1, 1) := by decide +kernel
theorem dX8_runs_70 : decode cX8_runs 70 = .ok (.iaload, 1) := by decide +kernel
theorem dX8_runs_71 : decode cX8_runs 71 = .ok (.if_icmp .ge 30, 3) := by decide +kernel
theorem dX8_runs_74 : decode cX8_runs 74 = .ok (.aload_n 0, 1) := by decide +kernel
theorem dX8_runs_75 : decode cX8_runs 75 = .ok (.getfield 52, 3) := by decide +kernel
theorem dX8_runs_78 : decode cX8_runs 78 = .ok (.bipush 24, 2) := by decide +kernel
theorem dX8_runs_80 : decode cX8_runs 80 = .ok (.iload_n 1, 1) := by decide +kernel
theorem dX8_runs_81 : decode cX8_runs 81 = .ok (.imul, 1) := by decide +kernel
theorem dX8_runs_82 : decode cX8_runs 82 = .ok (.iload_n 2, 1) := by decide +kernel
theorem dX8_runs_83 : decode cX8_runs 83 = .ok (.iadd, 1) := by decide +kernel
theorem dX8_runs_84 : decode cX8_runs 84 = .ok (.aload_n 0, 1) := by decide +kernel
theorem dX8_runs_85 : decode cX8_runs 85 = .ok (.getfield 34, 3) := by decide +kernel
theorem dX8_runs_88 : decode cX8_runs 88 = .ok (.iconst 3, 1) := by decide +kernel
theorem dX8_runs_89 : decode cX8_runs 89 = .ok (.iload_n 1, 1) := by decide +kernel
theorem dX8_runs_90 : decode cX8_runs 90 = .ok (.imul, 1) := by decide +kernel
theorem dX8_runs_91 : decode cX8_runs 91 = .ok (.iload_n 2, 1) := by decide +kernel
theorem dX8_runs_92 : decode cX8_runs 92 = .ok (.iadd, 1) := by decide +kernel
theorem dX8_runs_93 : decode cX8_runs 93 = .ok (.iaload, 1) := by decide +kernel
theorem dX8_runs_94 : decode cX8_runs 94 = .ok (.iastore, 1) := by decide +kernel
theorem dX8_runs_95 : decode cX8_runs 95 = .ok (.iinc 2 1, 3) := by decide +kernel
theorem dX8_runs_98 : decode cX8_runs 98 = .ok (.goto (-34), 3) := by decide +kernel
theorem dX8_runs_101 : decode cX8_runs 101 = .ok (.iinc 1 1, 3) := by decide +kernel
theorem dX8_runs_104 : decode cX8_runs 104 = .ok (.goto (-102), 3) := by decide +kernel
theorem dX8_runs_107 : decode cX8_runs 107 = .ok (.iconst 0, 1) := by decide +kernel
theorem dX8_runs_108 : decode cX8_runs 108 = .ok (.istore_n 1, 1) := by decide +kernel
theorem dX8_runs_109 : decode cX8_runs 109 = .ok (.iload_n 1, 1) := by decide +kernel
theorem dX8_runs_110 : decode cX8_runs 110 = .ok (.aload_n 0, 1) := by decide +kernel
theorem dX8_runs_111 : decode cX8_runs 111 = .ok (.getfield 144, 3) := by decide +kernel
theorem dX8_runs_114 : decode cX8_runs 114 = .ok (.if_icmp .ge 30, 3) := by decide +kernel
theorem dX8_runs_117 : decode cX8_runs 117 = .ok (.aload_n 0, 1) := by decide +kernel
theorem dX8_runs_118 : decode cX8_runs 118 = .ok (.getfield 65, 3) := by decide +kernel
theorem dX8_runs_121 : decode cX8_runs 121 = .ok (.iload_n 1, 1) := by decide +kernel
theorem dX8_runs_122 : decode cX8_runs 122 = .ok (.iconst (-1), 1) := by decide +kernel
theorem dX8_runs_123 : decode cX8_runs 123 = .ok (.iastore, 1) := by decide +kernel
theorem dX8_runs_124 : decode cX8_runs 124 = .ok (.aload_n 0, 1) := by decide +kernel
theorem dX8_runs_125 : decode cX8_runs 125 = .ok (.getfield 68, 3) := by decide +kernel
theorem dX8_runs_128 : decode cX8_runs 128 = .ok (.iload_n 1, 1) := by decide +kernel
theorem dX8_runs_129 : decode cX8_runs 129 = .ok (.iconst 0, 1) := by decide +kernel
theorem dX8_runs_130 : decode cX8_runs 130 = .ok (.iastore, 1) := by decide +kernel
theorem dX8_runs_131 : decode cX8_runs 131 = .ok (.aload_n 0, 1) := by decide +kernel
theorem dX8_runs_132 : decode cX8_runs 132 = .ok (.getfield 71, 3) := by decide +kernel
theorem dX8_runs_135 : decode cX8_runs 135 = .ok (.iload_n 1, 1) := by decide +kernel
theorem dX8_runs_136 : decode cX8_runs 136 = .ok (.iconst 0, 1) := by decide +kernel
theorem dX8_runs_137 : decode cX8_runs 137 = .ok (.iastore, 1) := by decide +kernel
theorem dX8_runs_138 : decode cX8_runs 138 = .ok (.iinc 1 1, 3) := by decide +kernel
theorem dX8_runs_141 : decode cX8_runs 141 = .ok (.goto (-32), 3) := by decide +kernel
theorem dX8_runs_144 : decode cX8_runs 144 = .ok (.aload_n 0, 1) := by decide +kernel
theorem dX8_runs_145 : decode cX8_runs 145 = .ok (.iconst (-1), 1) := by decide +kernel
theorem dX8_runs_146 : decode cX8_runs 146 = .ok (.putfield 218, 3) := by decide +kernel
theorem dX8_runs_149 : decode cX8_runs 149 = .ok (.aload_n 0, 1) := by decide +kernel
theorem dX8_runs_150 : decode cX8_runs 150 = .ok (.iconst (-1), 1) := by decide +kernel
theorem dX8_runs_151 : decode cX8_runs 151 = .ok (.putfield 221, 3) := by decide +kernel
theorem dX8_runs_154 : decode cX8_runs 154 = .ok (.iconst 0, 1) := by decide +kernel
theorem dX8_runs_155 : decode cX8_runs 155 = .ok (.istore_n 1, 1) := by decide +kernel
theorem dX8_runs_156 : decode cX8_runs 156 = .ok (.iload_n 1, 1) := by decide +kernel
theorem dX8_runs_157 : decode cX8_runs 157 = .ok (.bipush 40, 2) := by decide +kernel
theorem dX8_runs_159 : decode cX8_runs 159 = .ok (.if_icmp .ge 14, 3) := by decide +kernel
theorem dX8_runs_162 : decode cX8_runs 162 = .ok (.aload_n 0, 1) := by decide +kernel
theorem dX8_runs_163 : decode cX8_runs 163 = .ok (.iload_n 1, 1) := by decide +kernel
theorem dX8_runs_164 : decode cX8_runs 164 = .ok (.invokevirtual 239, 3) := by decide +kernel
theorem dX8_runs_167 : decode cX8_runs 167 = .ok (.iinc 1 1, 3) := by decide +kernel
theorem dX8_runs_170 : decode cX8_runs 170 = .ok (.goto (-14), 3) := by decide +kernel
theorem dX8_runs_173 : decode cX8_runs 173 = .ok (.return_, 1) := by decide +kernel
theorem dX8_runsTold_0 : decode cX8_runsTold 0 = .ok (.aload_n 0, 1) := by decide +kernel
theorem dX8_runsTold_1 : decode cX8_runsTold 1 = .ok (.invokevirtual 242, 3) := by decide +kernel
theorem dX8_runsTold_4 : decode cX8_runsTold 4 = .ok (.aload_n 0, 1) := by decide +kernel
end
section
theorem dX8_runsTold_5 : decode cX8_runsTold 5 = .ok (.invokevirtual 245, 3) := by decide +kernel
theorem dX8_runsTold_8 : decode cX8_runsTold 8 = .ok (.return_, 1) := by decide +kernel
theorem dX8_atOf_0 : decode cX8_atOf 0 = .ok (.aload_n 0, 1) := by decide +kernel
theorem dX8_atOf_1 : decode cX8_atOf 1 = .ok (.invokevirtual 248, 3) := by decide +kernel
theorem dX8_atOf_4 : decode cX8_atOf 4 = .ok (.bipush 8, 2) := by decide +kernel
theorem dX8_atOf_6 : decode cX8_atOf 6 = .ok (.iload_n 1, 1) := by decide +kernel
theorem dX8_atOf_7 : decode cX8_atOf 7 = .ok (.imul, 1) := by decide +kernel
theorem dX8_atOf_8 : decode cX8_atOf 8 = .ok (.iload_n 2, 1) := by decide +kernel
theorem dX8_atOf_9 : decode cX8_atOf 9 = .ok (.iadd, 1) := by decide +kernel
theorem dX8_atOf_10 : decode cX8_atOf 10 = .ok (.istore 4, 2) := by decide +kernel
theorem dX8_atOf_12 : decode cX8_atOf 12 = .ok (.iload_n 3, 1) := by decide +kernel
theorem dX8_atOf_13 : decode cX8_atOf 13 = .ok (.ifCond .ne 13, 3) := by decide +kernel
theorem dX8_atOf_16 : decode cX8_atOf 16 = .ok (.aload_n 0, 1) := by decide +kernel
theorem dX8_atOf_17 : decode cX8_atOf 17 = .ok (.getfield 74, 3) := by decide +kernel
theorem dX8_atOf_20 : decode cX8_atOf 20 = .ok (.iload 4, 2) := by decide +kernel
theorem dX8_atOf_22 : decode cX8_atOf 22 = .ok (.iaload, 1) := by decide +kernel
theorem dX8_atOf_23 : decode cX8_atOf 23 = .ok (.goto 48, 3) := by decide +kernel
theorem dX8_atOf_26 : decode cX8_atOf 26 = .ok (.iload_n 3, 1) := by decide +kernel
theorem dX8_atOf_27 : decode cX8_atOf 27 = .ok (.iconst 1, 1) := by decide +kernel
theorem dX8_atOf_28 : decode cX8_atOf 28 = .ok (.if_icmp .ne 13, 3) := by decide +kernel
theorem dX8_atOf_31 : decode cX8_atOf 31 = .ok (.aload_n 0, 1) := by decide +kernel
theorem dX8_atOf_32 : decode cX8_atOf 32 = .ok (.getfield 77, 3) := by decide +kernel
theorem dX8_atOf_35 : decode cX8_atOf 35 = .ok (.iload 4, 2) := by decide +kernel
theorem dX8_atOf_37 : decode cX8_atOf 37 = .ok (.iaload, 1) := by decide +kernel
theorem dX8_atOf_38 : decode cX8_atOf 38 = .ok (.goto 33, 3) := by decide +kernel
theorem dX8_atOf_41 : decode cX8_atOf 41 = .ok (.iload_n 3, 1) := by decide +kernel
theorem dX8_atOf_42 : decode cX8_atOf 42 = .ok (.iconst 2, 1) := by decide +kernel
theorem dX8_atOf_43 : decode cX8_atOf 43 = .ok (.if_icmp .ne 13, 3) := by decide +kernel
theorem dX8_atOf_46 : decode cX8_atOf 46 = .ok (.aload_n 0, 1) := by decide +kernel
theorem dX8_atOf_47 : decode cX8_atOf 47 = .ok (.getfield 80, 3) := by decide +kernel
theorem dX8_atOf_50 : decode cX8_atOf 50 = .ok (.iload 4, 2) := by decide +kernel
theorem dX8_atOf_52 : decode cX8_atOf 52 = .ok (.iaload, 1) := by decide +kernel
theorem dX8_atOf_53 : decode cX8_atOf 53 = .ok (.goto 18, 3) := by decide +kernel
theorem dX8_atOf_56 : decode cX8_atOf 56 = .ok (.aload_n 0, 1) := by decide +kernel
theorem dX8_atOf_57 : decode cX8_atOf 57 = .ok (.getfield 83, 3) := by decide +kernel
theorem dX8_atOf_60 : decode cX8_atOf 60 = .ok (.iload 4, 2) := by decide +kernel
theorem dX8_atOf_62 : decode cX8_atOf 62 = .ok (.baload, 1) := by decide +kernel
theorem dX8_atOf_63 : decode cX8_atOf 63 = .ok (.ifCond .eq 7, 3) := by decide +kernel
theorem dX8_atOf_66 : decode cX8_atOf 66 = .ok (.iconst 1, 1) := by decide +kernel
theorem dX8_atOf_67 : decode cX8_atOf 67 = .ok (.goto 4, 3) := by decide +kernel
theorem dX8_atOf_70 : decode cX8_atOf 70 = .ok (.iconst 0, 1) := by decide +kernel
theorem dX8_atOf_71 : decode cX8_atOf 71 = .ok (.ireturn, 1) := by decide +kernel
theorem dX8_at_0 : decode cX8_at 0 = .ok (.iload_n 1, 1) := by decide +kernel
theorem dX8_at_1 : decode cX8_at 1 = .ok (.invokestatic 178, 3) := by decide +kernel
theorem dX8_at_4 : decode cX8_at 4 = .ok (.ifCond .eq 30, 3) := by decide +kernel
theorem dX8_at_7 : decode cX8_at 7 = .ok (.aload_n 0, 1) := by decide +kernel
theorem dX8_at_8 : decode cX8_at 8 = .ok (.iload_n 2, 1) := by decide +kernel
theorem dX8_at_9 : decode cX8_at 9 = .ok (.invokevirtual 172, 3) := by decide +kernel
theorem dX8_at_12 : decode cX8_at 12 = .ok (.ifCond .eq 22, 3) := by decide +kernel
theorem dX8_at_15 : decode cX8_at 15 = .ok (.iload_n 3, 1) := by decide +kernel
theorem dX8_at_16 : decode cX8_at 16 = .ok (.iconst 0, 1) := by decide +kernel
theorem dX8_at_17 : decode cX8_at 17 = .ok (.iconst 3, 1) := by decide +kernel
theorem dX8_at_18 : decode cX8_at 18 = .ok (.invokestatic 125, 3) := by decide +kernel
theorem dX8_at_21 : decode cX8_at 21 = .ok (.ifCond .eq 13, 3) := by decide +kernel
theorem dX8_at_24 : decode cX8_at 24 = .ok (.aload_n 0, 1) := by decide +kernel
theorem dX8_at_25 : decode cX8_at 25 = .ok (.iload_n 1, 1) := by decide +kernel
theorem dX8_at_26 : decode cX8_at 26 = .ok (.iload_n 2, 1) := by decide +kernel
theorem dX8_at_27 : decode cX8_at 27 = .ok (.iload_n 3, 1) := by decide +kernel
theorem dX8_at_28 : decode cX8_at 28 = .ok (.invokevirtual 251, 3) := by decide +kernel
theorem dX8_at_31 : decode cX8_at 31 = .ok (.goto 5, 3) := by decide +kernel
theorem dX8_at_34 : decode cX8_at 34 = .ok (.bipush (-2), 2) := by decide +kernel
theorem dX8_at_36 : decode cX8_at 36 = .ok (.ireturn, 1) := by decide +kernel
theorem dX8_noteOf_0 : decode cX8_noteOf 0 = .ok (.aload_n 0, 1) := by decide +kernel
theorem dX8_noteOf_1 : decode cX8_noteOf 1 = .ok (.invokevirtual 248, 3) := by decide +kernel
theorem dX8_noteOf_4 : decode cX8_noteOf 4 = .ok (.iload_n 2, 1) := by decide +kernel
theorem dX8_noteOf_5 : decode cX8_noteOf 5 = .ok (.aload_n 0, 1) := by decide +kernel
theorem dX8_noteOf_6 : decode cX8_noteOf 6 = .ok (.getfield 49, 3) := by decide +kernel
theorem dX8_noteOf_9 : decode cX8_noteOf 9 = .ok (.iload_n 1, 1) := by decide +kernel
theorem dX8_noteOf_10 : decode cX8_noteOf 10 = .ok (.iaload, 1) := by decide +kernel
theorem dX8_noteOf_11 : decode cX8_noteOf 11 = .ok (.if_icmp .ge 17, 3) := by decide +kernel
theorem dX8_noteOf_14 : decode cX8_noteOf 14 = .ok (.aload_n 0, 1) := by decide +kernel
theorem dX8_noteOf_15 : decode cX8_noteOf 15 = .ok (.getfield 52, 3) := by decide +kernel
theorem dX8_noteOf_18 : decode cX8_noteOf 18 = .ok (.bipush 24, 2) := by decide +kernel
theorem dX8_noteOf_20 : decode cX8_noteOf 20 = .ok (.iload_n 1, 1) := by decide +kernel
theorem dX8_noteOf_21 : decode cX8_noteOf 21 = .ok (.imul, 1) := by decide +kernel
theorem dX8_noteOf_22 : decode cX8_noteOf 22 = .ok (.iload_n 2, 1) := by decide +kernel
theorem dX8_noteOf_23 : decode cX8_noteOf 23 = .ok (.iadd, 1) := by decide +kernel
theorem dX8_noteOf_24 : decode cX8_noteOf 24 = .ok (.iaload, 1) := by decide +kernel
theorem dX8_noteOf_25 : decode cX8_noteOf 25 = .ok (.goto 4, 3) := by decide +kernel
theorem dX8_noteOf_28 : decode cX8_noteOf 28 = .ok (.iconst (-1), 1) := by decide +kernel
theorem dX8_noteOf_29 : decode cX8_noteOf 29 = .ok (.ireturn, 1) := by decide +kernel
theorem dX8_note_0 : decode cX8_note 0 = .ok (.aload_n 0, 1) := by decide +kernel
theorem dX8_note_1 : decode cX8_note 1 = .ok (.iload_n 1, 1) := by decide +kernel
theorem dX8_note_2 : decode cX8_note 2 = .ok (.invokevirtual 172, 3) := by decide +kernel
theorem dX8_note_5 : decode cX8_note 5 = .ok (.ifCond .eq 22, 3) := by decide +kernel
theorem dX8_note_8 : decode cX8_note 8 = .ok (.iload_n 2, 1) := by decide +kernel
theorem dX8_note_9 : decode cX8_note 9 = .ok (.iconst 0, 1) := by decide +kernel
theorem dX8_note_10 : decode cX8_note 10 = .ok (.bipush 11, 2) := by decide +kernel
theorem dX8_note_12 : decode cX8_note 12 = .ok (.invokestatic 125, 3) := by decide +kernel
theorem dX8_note_15 : decode cX8_note 15 = .ok (.ifCond .eq 12, 3) := by decide +kernel
theorem dX8_note_18 : decode cX8_note 18 = .ok (.aload_n 0, 1) := by decide +kernel
theorem dX8_note_19 : decode cX8_note 19 = .ok (.iload_n 1, 1) := by decide +kernel
theorem dX8_note_20 : decode cX8_note 20 = .ok (.iload_n 2, 1) := by decide +kernel
theorem dX8_note_21 : decode cX8_note 21 = .ok (.invokevirtual 255, 3) := by decide +kernel
theorem dX8_note_24 : decode cX8_note 24 = .ok (.goto 5, 3) := by decide +kernel
theorem dX8_note_27 : decode cX8_note 27 = .ok (.bipush (-2), 2) := by decide +kernel
theorem dX8_note_29 : decode cX8_note 29 = .ok (.ireturn, 1) := by decide +kernel
theorem dX8_comesOf_0 : decode cX8_comesOf 0 = .ok (.aload_n 0, 1) := by decide +kernel
theorem dX8_comesOf_1 : decode cX8_comesOf 1 = .ok (.invokevirtual 248, 3) := by decide +kernel
theorem dX8_comesOf_4 : decode cX8_comesOf 4 = .ok (.aload_n 0, 1) := by decide +kernel
theorem dX8_comesOf_5 : decode cX8_comesOf 5 = .ok (.getfield 62, 3) := by decide +kernel
theorem dX8_comesOf_8 : decode cX8_comesOf 8 = .ok (.iload_n 1, 1) := by decide +kernel
theorem dX8_comesOf_9 : decode cX8_comesOf 9 = .ok (.iaload, 1) := by decide +kernel
theorem dX8_comesOf_10 : decode cX8_comesOf 10 = .ok (.ireturn, 1) := by decide +kernel
theorem dX8_comes_0 : decode cX8_comes 0 = .ok (.aload_n 0, 1) := by decide +kernel
theorem dX8_comes_1 : decode cX8_comes 1 = .ok (.iload_n 1, 1) := by decide +kernel
theorem dX8_comes_2 : decode cX8_comes 2 = .ok (.invokevirtual 172, 3) := by decide +kernel
theorem dX8_comes_5 : decode cX8_comes 5 = .ok (.ifCond .eq 11, 3) := by decide +kernel
theorem dX8_comes_8 : decode cX8_comes 8 = .ok (.aload_n 0, 1) := by decide +kernel
theorem dX8_comes_9 : decode cX8_comes 9 = .ok (.iload_n 1, 1) := by decide +kernel
theorem dX8_comes_10 : decode cX8_comes 10 = .ok (.invokevirtual 258, 3) := by decide +kernel
theorem dX8_comes_13 : decode cX8_comes 13 = .ok (.goto 5, 3) := by decide +kernel
theorem dX8_comes_16 : decode cX8_comes 16 = .ok (.bipush (-2), 2) := by decide +kernel
theorem dX8_comes_18 : decode cX8_comes 18 = .ok (.ireturn, 1) := by decide +kernel
theorem dX8_bitesOf_0 : decode cX8_bitesOf 0 = .ok (.aload_n 0, 1) := by decide +kernel
theorem dX8_bitesOf_1 : decode cX8_bitesOf 1 = .ok (.invokevirtual 248, 3) := by decide +kernel
theorem dX8_bitesOf_4 : decode cX8_bitesOf 4 = .ok (.iload_n 2, 1) := by decide +kernel
theorem dX8_bitesOf_5 : decode cX8_bitesOf 5 = .ok (.ifCond .ne 12, 3) := by decide +kernel
theorem dX8_bitesOf_8 : decode cX8_bitesOf 8 = .ok (.aload_n 0, 1) := by decide +kernel
theorem dX8_bitesOf_9 : decode cX8_bitesOf 9 = .ok (.getfield 68, 3) := by decide +kernel
theorem dX8_bitesOf_12 : decode cX8_bitesOf 12 = .ok (.iload_n 1, 1) := by decide +kernel
theorem dX8_bitesOf_13 : decode cX8_bitesOf 13 = .ok (.iaload, 1) := by decide +kernel
theorem dX8_bitesOf_14 : decode cX8_bitesOf 14 = .ok (.goto 9, 3) := by decide +kernel
theorem dX8_bitesOf_17 : decode cX8_bitesOf 17 = .ok (.aload_n 0, 1) := by decide +kernel
theorem dX8_bitesOf_18 : decode cX8_bitesOf 18 = .ok (.getfield 71, 3) := by decide +kernel
theorem dX8_bitesOf_21 : decode cX8_bitesOf 21 = .ok (.iload_n 1, 1) := by decide +kernel
theorem dX8_bitesOf_22 : decode cX8_bitesOf 22 = .ok (.iaload, 1) := by decide +kernel
theorem dX8_bitesOf_23 : decode cX8_bitesOf 23 = .ok (.ireturn, 1) := by decide +kernel
theorem dX8_bites_0 : decode cX8_bites 0 = .ok (.aload_n 0, 1) := by decide +kernel
theorem dX8_bites_1 : decode cX8_bites 1 = .ok (.iload_n 1, 1) := by decide +kernel
theorem dX8_bites_2 : decode cX8_bites 2 = .ok (.invokevirtual 166, 3) := by decide +kernel
theorem dX8_bites_5 : decode cX8_bites 5 = .ok (.ifCond .eq 21, 3) := by decide +kernel
theorem dX8_bites_8 : decode cX8_bites 8 = .ok (.iload_n 2, 1) := by decide +kernel
theorem dX8_bites_9 : decode cX8_bites 9 = .ok (.iconst 0, 1) := by decide +kernel
theorem dX8_bites_10 : decode cX8_bites 10 = .ok (.iconst 1, 1) := by decide +kernel
theorem dX8_bites_11 : decode cX8_bites 11 = .ok (.invokestatic 125, 3) := by decide +kernel
theorem dX8_bites_14 : decode cX8_bites 14 = .ok (.ifCond .eq 12, 3) := by decide +kernel
theorem dX8_bites_17 : decode cX8_bites 17 = .ok (.aload_n 0, 1) := by decide +kernel
theorem dX8_bites_18 : decode cX8_bites 18 = .ok (.iload_n 1, 1) := by decide +kernel
theorem dX8_bites_19 : decode cX8_bites 19 = .ok (.iload_n 2, 1) := by decide +kernel
theorem dX8_bites_20 : decode cX8_bites 20 = .ok (.invokevirtual 261, 3) := by decide +kernel
theorem dX8_bites_23 : decode cX8_bites 23 = .ok (.goto 5, 3) := by decide +kernel
theorem dX8_bites_26 : decode cX8_bites 26 = .ok (.bipush (-2), 2) := by decide +kernel
theorem dX8_bites_28 : decode cX8_bites 28 = .ok (.ireturn, 1) := by decide +kernel
theorem dX8_upMuch_0 : decode cX8_upMuch 0 = .ok (.iconst 0, 1) := by decide +kernel
theorem dX8_upMuch_1 : decode cX8_upMuch 1 = .ok (.istore_n 1, 1) := by decide +kernel
theorem dX8_upMuch_2 : decode cX8_upMuch 2 = .ok (.iconst 0, 1) := by decide +kernel
theorem dX8_upMuch_3 : decode cX8_upMuch 3 = .ok (.istore_n 2, 1) := by decide +kernel
theorem dX8_upMuch_4 : decode cX8_upMuch 4 = .ok (.iload_n 2, 1) := by decide +kernel
theorem dX8_upMuch_5 : decode cX8_upMuch 5 = .ok (.aload_n 0, 1) := by decide +kernel
theorem dX8_upMuch_6 : decode cX8_upMuch 6 = .ok (.getfield 147, 3) := by decide +kernel
theorem dX8_upMuch_9 : decode cX8_upMuch 9 = .ok (.if_icmp .ge 32, 3) := by decide +kernel
theorem dX8_upMuch_12 : decode cX8_upMuch 12 = .ok (.iload_n 1, 1) := by decide +kernel
theorem dX8_upMuch_13 : decode cX8_upMuch 13 = .ok (.aload_n 0, 1) := by decide +kernel
theorem dX8_upMuch_14 : decode cX8_upMuch 14 = .ok (.getfield 62, 3) := by decide +kernel
theorem dX8_upMuch_17 : decode cX8_upMuch 17 = .ok (.iload_n 2, 1) := by decide +kernel
theorem dX8_upMuch_18 : decode cX8_upMuch 18 = .ok (.iaload, 1) := by decide +kernel
theorem dX8_upMuch_19 : decode cX8_upMuch 19 = .ok (.iconst (-1), 1) := by decide +kernel
theorem dX8_upMuch_20 : decode cX8_upMuch 20 = .ok (.if_icmp .ne 7, 3) := by decide +kernel
theorem dX8_upMuch_23 : decode cX8_upMuch 23 = .ok (.iconst 0, 1) := by decide +kernel
theorem dX8_upMuch_24 : decode cX8_upMuch 24 = .ok (.goto 9, 3) := by decide +kernel
theorem dX8_upMuch_27 : decode cX8_upMuch 27 = .ok (.aload_n 0, 1) := by decide +kernel
theorem dX8_upMuch_28 : decode cX8_upMuch 28 = .ok (.getfield 46, 3) := by decide +kernel
theorem dX8_upMuch_31 : decode cX8_upMuch 31 = .ok (.iload_n 2, 1) := by decide +kernel
theorem dX8_upMuch_32 : decode cX8_upMuch 32 = .ok (.iaload, 1) := by decide +kernel
theorem dX8_upMuch_33 : decode cX8_upMuch 33 = .ok (.iadd, 1) := by decide +kernel
theorem dX8_upMuch_34 : decode cX8_upMuch 34 = .ok (.istore_n 1, 1) := by decide +kernel
theorem dX8_upMuch_35 : decode cX8_upMuch 35 = .ok (.iinc 2 1, 3) := by decide +kernel
theorem dX8_upMuch_38 : decode cX8_upMuch 38 = .ok (.goto (-34), 3) := by decide +kernel
theorem dX8_upMuch_41 : decode cX8_upMuch 41 = .ok (.iload_n 1, 1) := by decide +kernel
theorem dX8_upMuch_42 : decode cX8_upMuch 42 = .ok (.ireturn, 1) := by decide +kernel
theorem dX8_famineNow_0 : decode cX8_famineNow 0 = .ok (.aload_n 0, 1) := by decide +kernel
theorem dX8_famineNow_1 : decode cX8_famineNow 1 = .ok (.invokevirtual 248, 3) := by decide +kernel
theorem dX8_famineNow_4 : decode cX8_famineNow 4 = .ok (.iconst 0, 1) := by decide +kernel
theorem dX8_famineNow_5 : decode cX8_famineNow 5 = .ok (.istore_n 1, 1) := by decide +kernel
theorem dX8_famineNow_6 : decode cX8_famineNow 6 = .ok (.iconst 0, 1) := by decide +kernel
theorem dX8_famineNow_7 : decode cX8_famineNow 7 = .ok (.istore_n 2, 1) := by decide +kernel
theorem dX8_famineNow_8 : decode cX8_famineNow 8 = .ok (.iload_n 2, 1) := by decide +kernel
theorem dX8_famineNow_9 : decode cX8_famineNow 9 = .ok (.aload_n 0, 1) := by decide +kernel
theorem dX8_famineNow_10 : decode cX8_famineNow 10 = .ok (.getfield 147, 3) := by decide +kernel
theorem dX8_famineNow_13 : decode cX8_famineNow 13 = .ok (.if_icmp .ge 18, 3) := by decide +kernel
theorem dX8_famineNow_16 : decode cX8_famineNow 16 = .ok (.iload_n 1, 1) := by decide +kernel
theorem dX8_famineNow_17 : decode cX8_famineNow 17 = .ok (.aload_n 0, 1) := by decide +kernel
theorem dX8_famineNow_18 : decode cX8_famineNow 18 = .ok (.getfield 28, 3) := by decide +kernel
theorem dX8_famineNow_21 : decode cX8_famineNow 21 = .ok (.iload_n 2, 1) := by decide +kernel
theorem dX8_famineNow_22 : decode cX8_famineNow 22 = .ok (.iaload, 1) := by decide +kernel
theorem dX8_famineNow_23 : decode cX8_famineNow 23 = .ok (.iadd, 1) := by decide +kernel
theorem dX8_famineNow_24 : decode cX8_famineNow 24 = .ok (.istore_n 1, 1) := by decide +kernel
theorem dX8_famineNow_25 : decode cX8_famineNow 25 = .ok (.iinc 2 1, 3) := by decide +kernel
theorem dX8_famineNow_28 : decode cX8_famineNow 28 = .ok (.goto (-20), 3) := by decide +kernel
theorem dX8_famineNow_31 : decode cX8_famineNow 31 = .ok (.iload_n 1, 1) := by decide +kernel
theorem dX8_famineNow_32 : decode cX8_famineNow 32 = .ok (.aload_n 0, 1) := by decide +kernel
theorem dX8_famineNow_33 : decode cX8_famineNow 33 = .ok (.invokevirtual 264, 3) := by decide +kernel
theorem dX8_famineNow_36 : decode cX8_famineNow 36 = .ok (.isub, 1) := by decide +kernel
theorem dX8_famineNow_37 : decode cX8_famineNow 37 = .ok (.ireturn, 1) := by decide +kernel
theorem dX8_famine_0 : decode cX8_famine 0 = .ok (.aload_n 0, 1) := by decide +kernel
theorem dX8_famine_1 : decode cX8_famine 1 = .ok (.invokevirtual 268, 3) := by decide +kernel
theorem dX8_famine_4 : decode cX8_famine 4 = .ok (.ireturn, 1) := by decide +kernel
theorem dX8_firstOf_0 : decode cX8_firstOf 0 = .ok (.aload_n 0, 1) := by decide +kernel
theorem dX8_firstOf_1 : decode cX8_firstOf 1 = .ok (.invokevirtual 248, 3) := by decide +kernel
theorem dX8_firstOf_4 : decode cX8_firstOf 4 = .ok (.iload_n 1, 1) := by decide +kernel
theorem dX8_firstOf_5 : decode cX8_firstOf 5 = .ok (.ifCond .ne 10, 3) := by decide +kernel
theorem dX8_firstOf_8 : decode cX8_firstOf 8 = .ok (.aload_n 0, 1) := by decide +kernel
theorem dX8_firstOf_9 : decode cX8_firstOf 9 = .ok (.getfield 218, 3) := by decide +kernel
theorem dX8_firstOf_12 : decode cX8_firstOf 12 = .ok (.goto 7, 3) := by decide +kernel
theorem dX8_firstOf_15 : decode cX8_firstOf 15 = .ok (.aload_n 0, 1) := by decide +kernel
theorem dX8_firstOf_16 : decode cX8_firstOf 16 = .ok (.getfield 221, 3) := by decide +kernel
theorem dX8_firstOf_19 : decode cX8_firstOf 19 = .ok (.ireturn, 1) := by decide +kernel
theorem dX8_first_0 : decode cX8_first 0 = .ok (.iload_n 1, 1) := by decide +kernel
theorem dX8_first_1 : decode cX8_first 1 = .ok (.iconst 0, 1) := by decide +kernel
theorem dX8_first_2 : decode cX8_first 2 = .ok (.iconst 1, 1) := by decide +kernel
theorem dX8_first_3 : decode cX8_first 3 = .ok (.invokestatic 125, 3) := by decide +kernel
theorem dX8_first_6 : decode cX8_first 6 = .ok (.ifCond .eq 11, 3) := by decide +kernel
theorem dX8_first_9 : decode cX8_first 9 = .ok (.aload_n 0, 1) := by decide +kernel
theorem dX8_first_10 : decode cX8_first 10 = .ok (.iload_n 1, 1) := by decide +kernel
theorem dX8_first_11 : decode cX8_first 11 = .ok (.invokevirtual 271, 3) := by decide +kernel
theorem dX8_first_14 : decode cX8_first 14 = .ok (.goto 5, 3) := by decide +kernel
theorem dX8_first_17 : decode cX8_first 17 = .ok (.bipush (-2), 2) := by decide +kernel
theorem dX8_first_19 : decode cX8_first 19 = .ok (.ireturn, 1) := by decide +kernel
theorem dX8_greedyNow_0 : decode cX8_greedyNow 0 = .ok (.aload_n 0, 1) := by decide +kernel
theorem dX8_greedyNow_1 : decode cX8_greedyNow 1 = .ok (.invokevirtual 248, 3) := by decide +kernel
theorem dX8_greedyNow_4 : decode cX8_greedyNow 4 = .ok (.iconst (-1), 1) := by decide +kernel
theorem dX8_greedyNow_5 : decode cX8_greedyNow 5 = .ok (.istore_n 1, 1) := by decide +kernel
theorem dX8_greedyNow_6 : decode cX8_greedyNow 6 = .ok (.iconst 0, 1) := by decide +kernel
theorem dX8_greedyNow_7 : decode cX8_greedyNow 7 = .ok (.istore_n 2, 1) := by decide +kernel
theorem dX8_greedyNow_8 : decode cX8_greedyNow 8 = .ok (.iload_n 2, 1) := by decide +kernel
theorem dX8_greedyNow_9 : decode cX8_greedyNow 9 = .ok (.aload_n 0, 1) := by decide +kernel
theorem dX8_greedyNow_10 : decode cX8_greedyNow 10 = .ok (.getfield 144, 3) := by decide +kernel
theorem dX8_greedyNow_13 : decode cX8_greedyNow 13 = .ok (.if_icmp .ge 35, 3) := by decide +kernel
theorem dX8_greedyNow_16 : decode cX8_greedyNow 16 = .ok (.iload_n 1, 1) := by decide +kernel
theorem dX8_greedyNow_17 : decode cX8_greedyNow 17 = .ok (.iconst (-1), 1) := by decide +kernel
theorem dX8_greedyNow_18 : decode cX8_greedyNow 18 = .ok (.if_icmp .eq 18, 3) := by decide +kernel
theorem dX8_greedyNow_21 : decode cX8_greedyNow 21 = .ok (.aload_n 0, 1) := by decide +kernel
theorem dX8_greedyNow_22 : decode cX8_greedyNow 22 = .ok (.getfield 71, 3) := by decide +kernel
theorem dX8_greedyNow_25 : decode cX8_greedyNow 25 = .ok (.iload_n 2, 1) := by decide +kernel
theorem dX8_greedyNow_26 : decode cX8_greedyNow 26 = .ok (.iaload, 1) := by decide +kernel
theorem dX8_greedyNow_27 : decode cX8_greedyNow 27 = .ok (.aload_n 0, 1) := by decide +kernel
theorem dX8_greedyNow_28 : decode cX8_greedyNow 28 = .ok (.getfield 71, 3) := by decide +kernel
theorem dX8_greedyNow_31 : decode cX8_greedyNow 31 = .ok (.iload_n 1, 1) := by decide +kernel
theorem dX8_greedyNow_32 : decode cX8_greedyNow 32 = .ok (.iaload, 1) := by decide +kernel
theorem dX8_greedyNow_33 : decode cX8_greedyNow 33 = .ok (.if_icmp .le 7, 3) := by decide +kernel
theorem dX8_greedyNow_36 : decode cX8_greedyNow 36 = .ok (.iload_n 2, 1) := by decide +kernel
theorem dX8_greedyNow_37 : decode cX8_greedyNow 37 = .ok (.goto 4, 3) := by decide +kernel
theorem dX8_greedyNow_40 : decode cX8_greedyNow 40 = .ok (.iload_n 1, 1) := by decide +kernel
theorem dX8_greedyNow_41 : decode cX8_greedyNow 41 = .ok (.istore_n 1, 1) := by decide +kernel
theorem dX8_greedyNow_42 : decode cX8_greedyNow 42 = .ok (.iinc 2 1, 3) := by decide +kernel
theorem dX8_greedyNow_45 : decode cX8_greedyNow 45 = .ok (.goto (-37), 3) := by decide +kernel
theorem dX8_greedyNow_48 : decode cX8_greedyNow 48 = .ok (.iload_n 1, 1) := by decide +kernel
theorem dX8_greedyNow_49 : decode cX8_greedyNow 49 = .ok (.ireturn, 1) := by decide +kernel
theorem dX8_greedy_0 : decode cX8_greedy 0 = .ok (.aload_n 0, 1) := by decide +kernel
theorem dX8_greedy_1 : decode cX8_greedy 1 = .ok (.invokevirtual 274, 3) := by decide +kernel
theorem dX8_greedy_4 : decode cX8_greedy 4 = .ok (.ireturn, 1) := by decide +kernel
theorem dX8_sendOf_0 : decode cX8_sendOf 0 = .ok (.aload_n 0, 1) := by decide +kernel
theorem dX8_sendOf_1 : decode cX8_sendOf 1 = .ok (.invokevirtual 242, 3) := by decide +kernel
theorem dX8_sendOf_4 : decode cX8_sendOf 4 = .ok (.aload_n 0, 1) := by decide +kernel
theorem dX8_sendOf_5 : decode cX8_sendOf 5 = .ok (.getfield 25, 3) := by decide +kernel
theorem dX8_sendOf_8 : decode cX8_sendOf 8 = .ok (.iload_n 1, 1) := by decide +kernel
theorem dX8_sendOf_9 : decode cX8_sendOf 9 = .ok (.iaload, 1) := by decide +kernel
theorem dX8_sendOf_10 : decode cX8_sendOf 10 = .ok (.istore_n 3, 1) := by decide +kernel
theorem dX8_sendOf_11 : decode cX8_sendOf 11 = .ok (.iconst (-1), 1) := by decide +kernel
theorem dX8_sendOf_12 : decode cX8_sendOf 12 = .ok (.istore 4, 2) := by decide +kernel
theorem dX8_sendOf_14 : decode cX8_sendOf 14 = .ok (.iconst (-1), 1) := by decide +kernel
theorem dX8_sendOf_15 : decode cX8_sendOf 15 = .ok (.istore 5, 2) := by decide +kernel
theorem dX8_sendOf_17 : decode cX8_sendOf 17 = .ok (.iconst 0, 1) := by decide +kernel
theorem dX8_sendOf_18 : decode cX8_sendOf 18 = .ok (.istore 6, 2) := by decide +kernel
theorem dX8_sendOf_20 : decode cX8_sendOf 20 = .ok (.iload 6, 2) := by decide +kernel
theorem dX8_sendOf_22 : decode cX8_sendOf 22 = .ok (.bipush 30, 2) := by decide +kernel
theorem dX8_sendOf_24 : decode cX8_sendOf 24 = .ok (.if_icmp .ge 59, 3) := by decide +kernel
theorem dX8_sendOf_27 : decode cX8_sendOf 27 = .ok (.aload_n 0, 1) := by decide +kernel
theorem dX8_sendOf_28 : decode cX8_sendOf 28 = .ok (.getfield 25, 3) := by decide +kernel
theorem dX8_sendOf_31 : decode cX8_sendOf 31 = .ok (.iload_n 1, 1) := by decide +kernel
theorem dX8_sendOf_32 : decode cX8_sendOf 32 = .ok (.iload 6, 2) := by decide +kernel
theorem dX8_sendOf_34 : decode cX8_sendOf 34 = .ok (.iastore, 1) := by decide +kernel
theorem dX8_sendOf_35 : decode cX8_sendOf 35 = .ok (.aload_n 0, 1) := by decide +kernel
theorem dX8_sendOf_36 : decode cX8_sendOf 36 = .ok (.invokevirtual 245, 3) := by decide +kernel
theorem dX8_sendOf_39 : decode cX8_sendOf 39 = .ok (.aload_n 0, 1) := by decide +kernel
theorem dX8_sendOf_40 : decode cX8_sendOf 40 = .ok (.invokevirtual 264, 3) := by decide +kernel
theorem dX8_sendOf_43 : decode cX8_sendOf 43 = .ok (.istore 7, 2) := by decide +kernel
theorem dX8_sendOf_45 : decode cX8_sendOf 45 = .ok (.iload 7, 2) := by decide +kernel
theorem dX8_sendOf_47 : decode cX8_sendOf 47 = .ok (.iload 5, 2) := by decide +kernel
theorem dX8_sendOf_49 : decode cX8_sendOf 49 = .ok (.if_icmp .le 8, 3) := by decide +kernel
theorem dX8_sendOf_52 : decode cX8_sendOf 52 = .ok (.iload 6, 2) := by decide +kernel
theorem dX8_sendOf_54 : decode cX8_sendOf 54 = .ok (.goto 5, 3) := by decide +kernel
theorem dX8_sendOf_57 : decode cX8_sendOf 57 = .ok (.iload 4, 2) := by decide +kernel
theorem dX8_sendOf_59 : decode cX8_sendOf 59 = .ok (.istore 4, 2) := by decide +kernel
theorem dX8_sendOf_61 : decode cX8_sendOf 61 = .ok (.iload 7, 2) := by decide +kernel
theorem dX8_sendOf_63 : decode cX8_sendOf 63 = .ok (.iload 5, 2) := by decide +kernel
theorem dX8_sendOf_65 : decode cX8_sendOf 65 = .ok (.if_icmp .le 8, 3) := by decide +kernel
theorem dX8_sendOf_68 : decode cX8_sendOf 68 = .ok (.iload 7, 2) := by decide +kernel
theorem dX8_sendOf_70 : decode cX8_sendOf 70 = .ok (.goto 5, 3) := by decide +kernel
theorem dX8_sendOf_73 : decode cX8_sendOf 73 = .ok (.iload 5, 2) := by decide +kernel
theorem dX8_sendOf_75 : decode cX8_sendOf 75 = .ok (.istore 5, 2) := by decide +kernel
theorem dX8_sendOf_77 : decode cX8_sendOf 77 = .ok (.iinc 6 1, 3) := by decide +kernel
theorem dX8_sendOf_80 : decode cX8_sendOf 80 = .ok (.goto (-60), 3) := by decide +kernel
theorem dX8_sendOf_83 : decode cX8_sendOf 83 = .ok (.aload_n 0, 1) := by decide +kernel
theorem dX8_sendOf_84 : decode cX8_sendOf 84 = .ok (.getfield 25, 3) := by decide +kernel
theorem dX8_sendOf_87 : decode cX8_sendOf 87 = .ok (.iload_n 1, 1) := by decide +kernel
theorem dX8_sendOf_88 : decode cX8_sendOf 88 = .ok (.iload_n 3, 1) := by decide +kernel
theorem dX8_sendOf_89 : decode cX8_sendOf 89 = .ok (.iastore, 1) := by decide +kernel
theorem dX8_sendOf_90 : decode cX8_sendOf 90 = .ok (.iload_n 2, 1) := by decide +kernel
theorem dX8_sendOf_91 : decode cX8_sendOf 91 = .ok (.ifCond .ne 8, 3) := by decide +kernel
theorem dX8_sendOf_94 : decode cX8_sendOf 94 = .ok (.iload 4, 2) := by decide +kernel
theorem dX8_sendOf_96 : decode cX8_sendOf 96 = .ok (.goto 5, 3) := by decide +kernel
theorem dX8_sendOf_99 : decode cX8_sendOf 99 = .ok (.iload 5, 2) := by decide +kernel
theorem dX8_sendOf_101 : decode cX8_sendOf 101 = .ok (.ireturn, 1) := by decide +kernel
theorem dX8_send_0 : decode cX8_send 0 = .ok (.aload_n 0, 1) := by decide +kernel
theorem dX8_send_1 : decode cX8_send 1 = .ok (.iload_n 1, 1) := by decide +kernel
theorem dX8_send_2 : decode cX8_send 2 = .ok (.invokevirtual 172, 3) := by decide +kernel
theorem dX8_send_5 : decode cX8_send 5 = .ok (.ifCond .eq 21, 3) := by decide +kernel
theorem dX8_send_8 : decode cX8_send 8 = .ok (.iload_n 2, 1) := by decide +kernel
theorem dX8_send_9 : decode cX8_send 9 = .ok (.iconst 0, 1) := by decide +kernel
theorem dX8_send_10 : decode cX8_send 10 = .ok (.iconst 1, 1) := by decide +kernel
theorem dX8_send_11 : decode cX8_send 11 = .ok (.invokestatic 125, 3) := by decide +kernel
theorem dX8_send_14 : decode cX8_send 14 = .ok (.ifCond .eq 12, 3) := by decide +kernel
theorem dX8_send_17 : decode cX8_send 17 = .ok (.aload_n 0, 1) := by decide +kernel
theorem dX8_send_18 : decode cX8_send 18 = .ok (.iload_n 1, 1) := by decide +kernel
theorem dX8_send_19 : decode cX8_send 19 = .ok (.iload_n 2, 1) := by decide +kernel
theorem dX8_send_20 : decode cX8_send 20 = .ok (.invokevirtual 277, 3) := by decide +kernel
theorem dX8_send_23 : decode cX8_send 23 = .ok (.goto 5, 3) := by decide +kernel
theorem dX8_send_26 : decode cX8_send 26 = .ok (.bipush (-2), 2) := by decide +kernel
theorem dX8_send_28 : decode cX8_send 28 = .ok (.ireturn, 1) := by decide +kernel
theorem dX8_loafOf_0 : decode cX8_loafOf 0 = .ok (.aload_n 0, 1) := by decide +kernel
theorem dX8_loafOf_1 : decode cX8_loafOf 1 = .ok (.invokevirtual 242, 3) := by decide +kernel
theorem dX8_loafOf_4 : decode cX8_loafOf 4 = .ok (.aload_n 0, 1) := by decide +kernel
theorem dX8_loafOf_5 : decode cX8_loafOf 5 = .ok (.getfield 28, 3) := by decide +kernel
theorem dX8_loafOf_8 : decode cX8_loafOf 8 = .ok (.iload_n 1, 1) := by decide +kernel
theorem dX8_loafOf_9 : decode cX8_loafOf 9 = .ok (.iaload, 1) := by decide +kernel
theorem dX8_loafOf_10 : decode cX8_loafOf 10 = .ok (.istore_n 3, 1) := by decide +kernel
theorem dX8_loafOf_11 : decode cX8_loafOf 11 = .ok (.iconst (-1), 1) := by decide +kernel
theorem dX8_loafOf_12 : decode cX8_loafOf 12 = .ok (.istore 4, 2) := by decide +kernel
theorem dX8_loafOf_14 : decode cX8_loafOf 14 = .ok (.iconst 0, 1) := by decide +kernel
theorem dX8_loafOf_15 : decode cX8_loafOf 15 = .ok (.istore 5, 2) := by decide +kernel
theorem dX8_loafOf_17 : decode cX8_loafOf 17 = .ok (.iload 5, 2) := by decide +kernel
theorem dX8_loafOf_19 : decode cX8_loafOf 19 = .ok (.bipush 100, 2) := by decide +kernel
theorem dX8_loafOf_21 : decode cX8_loafOf 21 = .ok (.if_icmp .ge 55, 3) := by decide +kernel
theorem dX8_loafOf_24 : decode cX8_loafOf 24 = .ok (.iload 4, 2) := by decide +kernel
theorem dX8_loafOf_26 : decode cX8_loafOf 26 = .ok (.iconst (-1), 1) := by decide +kernel
theorem dX8_loafOf_27 : decode cX8_loafOf 27 = .ok (.if_icmp .ne 49, 3) := by decide +kernel
theorem dX8_loafOf_30 : decode cX8_loafOf 30 = .ok (.aload_n 0, 1) := by decide +kernel
theorem dX8_loafOf_31 : decode cX8_loafOf 31 = .ok (.getfield 28, 3) := by decide +kernel
theorem dX8_loafOf_34 : decode cX8_loafOf 34 = .ok (.iload_n 1, 1) := by decide +kernel
theorem dX8_loafOf_35 : decode cX8_loafOf 35 = .ok (.iload 5, 2) := by decide +kernel
theorem dX8_loafOf_37 : decode cX8_loafOf 37 = .ok (.iastore, 1) := by decide +kernel
theorem dX8_loafOf_38 : decode cX8_loafOf 38 = .ok (.aload_n 0, 1) := by decide +kernel
theorem dX8_loafOf_39 : decode cX8_loafOf 39 = .ok (.invokevirtual 245, 3) := by decide +kernel
theorem dX8_loafOf_42 : decode cX8_loafOf 42 = .ok (.aload_n 0, 1) := by decide +kernel
theorem dX8_loafOf_43 : decode cX8_loafOf 43 = .ok (.getfield 62, 3) := by decide +kernel
theorem dX8_loafOf_46 : decode cX8_loafOf 46 = .ok (.iload_n 1, 1) := by decide +kernel
theorem dX8_loafOf_47 : decode cX8_loafOf 47 = .ok (.iaload, 1) := by decide +kernel
theorem dX8_loafOf_48 : decode cX8_loafOf 48 = .ok (.iconst (-1), 1) := by decide +kernel
theorem dX8_loafOf_49 : decode cX8_loafOf 49 = .ok (.if_icmp .eq 18, 3) := by decide +kernel
theorem dX8_loafOf_52 : decode cX8_loafOf 52 = .ok (.aload_n 0, 1) := by decide +kernel
theorem dX8_loafOf_53 : decode cX8_loafOf 53 = .ok (.getfield 46, 3) := by decide +kernel
theorem dX8_loafOf_56 : decode cX8_loafOf 56 = .ok (.iload_n 1, 1) := by decide +kernel
theorem dX8_loafOf_57 : decode cX8_loafOf 57 = .ok (.iaload, 1) := by decide +kernel
theorem dX8_loafOf_58 : decode cX8_loafOf 58 = .ok (.iload_n 2, 1) := by decide +kernel
theorem dX8_loafOf_59 : decode cX8_loafOf 59 = .ok (.if_icmp .lt 8, 3) := by decide +kernel
theorem dX8_loafOf_62 : decode cX8_loafOf 62 = .ok (.iload 5, 2) := by decide +kernel
theorem dX8_loafOf_64 : decode cX8_loafOf 64 = .ok (.goto 4, 3) := by decide +kernel
theorem dX8_loafOf_67 : decode cX8_loafOf 67 = .ok (.iconst (-1), 1) := by decide +kernel
theorem dX8_loafOf_68 : decode cX8_loafOf 68 = .ok (.istore 4, 2) := by decide +kernel
theorem dX8_loafOf_70 : decode cX8_loafOf 70 = .ok (.iinc 5 1, 3) := by decide +kernel
theorem dX8_loafOf_73 : decode cX8_loafOf 73 = .ok (.goto (-56), 3) := by decide +kernel
theorem dX8_loafOf_76 : decode cX8_loafOf 76 = .ok (.aload_n 0, 1) := by decide +kernel
theorem dX8_loafOf_77 : decode cX8_loafOf 77 = .ok (.getfield 28, 3) := by decide +kernel
theorem dX8_loafOf_80 : decode cX8_loafOf 80 = .ok (.iload_n 1, 1) := by decide +kernel
theorem dX8_loafOf_81 : decode cX8_loafOf 81 = .ok (.iload_n 3, 1) := by decide +kernel
theorem dX8_loafOf_82 : decode cX8_loafOf 82 = .ok (.iastore, 1) := by decide +kernel
theorem dX8_loafOf_83 : decode cX8_loafOf 83 = .ok (.iload 4, 2) := by decide +kernel
theorem dX8_loafOf_85 : decode cX8_loafOf 85 = .ok (.ireturn, 1) := by decide +kernel
theorem dX8_loaf_0 : decode cX8_loaf 0 = .ok (.aload_n 0, 1) := by decide +kernel
theorem dX8_loaf_1 : decode cX8_loaf 1 = .ok (.iload_n 1, 1) := by decide +kernel
theorem dX8_loaf_2 : decode cX8_loaf 2 = .ok (.invokevirtual 172, 3) := by decide +kernel
theorem dX8_loaf_5 : decode cX8_loaf 5 = .ok (.ifCond .eq 22, 3) := by decide +kernel
theorem dX8_loaf_8 : decode cX8_loaf 8 = .ok (.iload_n 2, 1) := by decide +kernel
theorem dX8_loaf_9 : decode cX8_loaf 9 = .ok (.iconst 0, 1) := by decide +kernel
theorem dX8_loaf_10 : decode cX8_loaf 10 = .ok (.bipush 99, 2) := by decide +kernel
theorem dX8_loaf_12 : decode cX8_loaf 12 = .ok (.invokestatic 125, 3) := by decide +kernel
theorem dX8_loaf_15 : decode cX8_loaf 15 = .ok (.ifCond .eq 12, 3) := by decide +kernel
theorem dX8_loaf_18 : decode cX8_loaf 18 = .ok (.aload_n 0, 1) := by decide +kernel
theorem dX8_loaf_19 : decode cX8_loaf 19 = .ok (.iload_n 1, 1) := by decide +kernel
theorem dX8_loaf_20 : decode cX8_loaf 20 = .ok (.iload_n 2, 1) := by decide +kernel
theorem dX8_loaf_21 : decode cX8_loaf 21 = .ok (.invokevirtual 280, 3) := by decide +kernel
theorem dX8_loaf_24 : decode cX8_loaf 24 = .ok (.goto 5, 3) := by decide +kernel
theorem dX8_loaf_27 : decode cX8_loaf 27 = .ok (.bipush (-2), 2) := by decide +kernel
theorem dX8_loaf_29 : decode cX8_loaf 29 = .ok (.ireturn, 1) := by decide +kernel
theorem dX8_isKept_0 : decode cX8_isKept 0 = .ok (.aload_n 0, 1) := by decide +kernel
theorem dX8_isKept_1 : decode cX8_isKept 1 = .ok (.iload_n 2, 1) := by decide +kernel
theorem dX8_isKept_2 : decode cX8_isKept 2 = .ok (.putfield 215, 3) := by decide +kernel
theorem dX8_isKept_5 : decode cX8_isKept 5 = .ok (.aload_n 0, 1) := by decide +kernel
theorem dX8_isKept_6 : decode cX8_isKept 6 = .ok (.invokevirtual 245, 3) := by decide +kernel
theorem dX8_isKept_9 : decode cX8_isKept 9 = .ok (.aload_n 0, 1) := by decide +kernel
theorem dX8_isKept_10 : decode cX8_isKept 10 = .ok (.getfield 62, 3) := by decide +kernel
theorem dX8_isKept_13 : decode cX8_isKept 13 = .ok (.iload_n 1, 1) := by decide +kernel
theorem dX8_isKept_14 : decode cX8_isKept 14 = .ok (.iaload, 1) := by decide +kernel
theorem dX8_isKept_15 : decode cX8_isKept 15 = .ok (.iconst (-1), 1) := by decide +kernel
theorem dX8_isKept_16 : decode cX8_isKept 16 = .ok (.if_icmp .eq 22, 3) := by decide +kernel
theorem dX8_isKept_19 : decode cX8_isKept 19 = .ok (.aload_n 0, 1) := by decide +kernel
theorem dX8_isKept_20 : decode cX8_isKept 20 = .ok (.getfield 49, 3) := by decide +kernel
theorem dX8_isKept_23 : decode cX8_isKept 23 = .ok (.iload_n 1, 1) := by decide +kernel
theorem dX8_isKept_24 : decode cX8_isKept 24 = .ok (.iaload, 1) := by decide +kernel
theorem dX8_isKept_25 : decode cX8_isKept 25 = .ok (.aload_n 0, 1) := by decide +kernel
theorem dX8_isKept_26 : decode cX8_isKept 26 = .ok (.getfield 31, 3) := by decide +kernel
theorem dX8_isKept_29 : decode cX8_isKept 29 = .ok (.iload_n 1, 1) := by decide +kernel
theorem dX8_isKept_30 : decode cX8_isKept 30 = .ok (.iaload, 1) := by decide +kernel
theorem dX8_isKept_31 : decode cX8_isKept 31 = .ok (.if_icmp .ne 7, 3) := by decide +kernel
theorem dX8_isKept_34 : decode cX8_isKept 34 = .ok (.iconst 1, 1) := by decide +kernel
theorem dX8_isKept_35 : decode cX8_isKept 35 = .ok (.goto 4, 3) := by decide +kernel
theorem dX8_isKept_38 : decode cX8_isKept 38 = .ok (.iconst 0, 1) := by decide +kernel
theorem dX8_isKept_39 : decode cX8_isKept 39 = .ok (.istore_n 3, 1) := by decide +kernel
theorem dX8_isKept_40 : decode cX8_isKept 40 = .ok (.iconst 0, 1) := by decide +kernel
theorem dX8_isKept_41 : decode cX8_isKept 41 = .ok (.istore 4, 2) := by decide +kernel
theorem dX8_isKept_43 : decode cX8_isKept 43 = .ok (.iload 4, 2) := by decide +kernel
theorem dX8_isKept_45 : decode cX8_isKept 45 = .ok (.aload_n 0, 1) := by decide +kernel
theorem dX8_isKept_46 : decode cX8_isKept 46 = .ok (.getfield 31, 3) := by decide +kernel
theorem dX8_isKept_49 : decode cX8_isKept 49 = .ok (.iload_n 1, 1) := by decide +kernel
theorem dX8_isKept_50 : decode cX8_isKept 50 = .ok (.iaload, 1) := by decide +kernel
theorem dX8_isKept_51 : decode cX8_isKept 51 = .ok (.if_icmp .ge 45, 3) := by decide +kernel
theorem dX8_isKept_54 : decode cX8_isKept 54 = .ok (.iload_n 3, 1) := by decide +kernel
theorem dX8_isKept_55 : decode cX8_isKept 55 = .ok (.ifCond .eq 33, 3) := by decide +kernel
theorem dX8_isKept_58 : decode cX8_isKept 58 = .ok (.aload_n 0, 1) := by decide +kernel
theorem dX8_isKept_59 : decode cX8_isKept 59 = .ok (.getfield 52, 3) := by decide +kernel
theorem dX8_isKept_62 : decode cX8_isKept 62 = .ok (.bipush 24, 2) := by decide +kernel
theorem dX8_isKept_64 : decode cX8_isKept 64 = .ok (.iload_n 1, 1) := by decide +kernel
theorem dX8_isKept_65 : decode cX8_isKept 65 = .ok (.imul, 1) := by decide +kernel
theorem dX8_isKept_66 : decode cX8_isKept 66 = .ok (.iload 4, 2) := by decide +kernel
theorem dX8_isKept_68 : decode cX8_isKept 68 = .ok (.iadd, 1) := by decide +kernel
theorem dX8_isKept_69 : decode cX8_isKept 69 = .ok (.iaload, 1) := by decide +kernel
theorem dX8_isKept_70 : decode cX8_isKept 70 = .ok (.aload_n 0, 1) := by decide +kernel
theorem dX8_isKept_71 : decode cX8_isKept 71 = .ok (.getfield 34, 3) := by decide +kernel
theorem dX8_isKept_74 : decode cX8_isKept 74 = .ok (.iconst 3, 1) := by decide +kernel
theorem dX8_isKept_75 : decode cX8_isKept 75 = .ok (.iload_n 1, 1) := by decide +kernel
theorem dX8_isKept_76 : decode cX8_isKept 76 = .ok (.imul, 1) := by decide +kernel
theorem dX8_isKept_77 : decode cX8_isKept 77 = .ok (.iload 4, 2) := by decide +kernel
theorem dX8_isKept_79 : decode cX8_isKept 79 = .ok (.iadd, 1) := by decide +kernel
theorem dX8_isKept_80 : decode cX8_isKept 80 = .ok (.iaload, 1) := by decide +kernel
theorem dX8_isKept_81 : decode cX8_isKept 81 = .ok (.if_icmp .ne 7, 3) := by decide +kernel
theorem dX8_isKept_84 : decode cX8_isKept 84 = .ok (.iconst 1, 1) := by decide +kernel
theorem dX8_isKept_85 : decode cX8_isKept 85 = .ok (.goto 4, 3) := by decide +kernel
theorem dX8_isKept_88 : decode cX8_isKept 88 = .ok (.iconst 0, 1) := by decide +kernel
theorem dX8_isKept_89 : decode cX8_isKept 89 = .ok (.istore_n 3, 1) := by decide +kernel
theorem dX8_isKept_90 : decode cX8_isKept 90 = .ok (.iinc 4 1, 3) := by decide +kernel
theorem dX8_isKept_93 : decode cX8_isKept 93 = .ok (.goto (-50), 3) := by decide +kernel
theorem dX8_isKept_96 : decode cX8_isKept 96 = .ok (.iload_n 3, 1) := by decide +kernel
theorem dX8_isKept_97 : decode cX8_isKept 97 = .ok (.ireturn, 1) := by decide +kernel
theorem dX8_feedBy_0 : decode cX8_feedBy 0 = .ok (.aload_n 0, 1) := by decide +kernel
theorem dX8_feedBy_1 : decode cX8_feedBy 1 = .ok (.invokevirtual 242, 3) := by decide +kernel
theorem dX8_feedBy_4 : decode cX8_feedBy 4 = .ok (.aload_n 0, 1) := by decide +kernel
theorem dX8_feedBy_5 : decode cX8_feedBy 5 = .ok (.iload_n 1, 1) := by decide +kernel
theorem dX8_feedBy_6 : decode cX8_feedBy 6 = .ok (.iconst 0, 1) := by decide +kernel
theorem dX8_feedBy_7 : decode cX8_feedBy 7 = .ok (.invokevirtual 283, 3) := by decide +kernel
theorem dX8_feedBy_10 : decode cX8_feedBy 10 = .ok (.ifCond .eq 5, 3) := by decide +kernel
theorem dX8_feedBy_13 : decode cX8_feedBy 13 = .ok (.iconst 0, 1) := by decide +kernel
theorem dX8_feedBy_14 : decode cX8_feedBy 14 = .ok (.ireturn, 1) := by decide +kernel
theorem dX8_feedBy_15 : decode cX8_feedBy 15 = .ok (.iconst 0, 1) := by decide +kernel
theorem dX8_feedBy_16 : decode cX8_feedBy 16 = .ok (.istore_n 2, 1) := by decide +kernel
theorem dX8_feedBy_17 : decode cX8_feedBy 17 = .ok (.iload_n 2, 1) := by decide +kernel
theorem dX8_feedBy_18 : decode cX8_feedBy 18 = .ok (.aload_n 0, 1) := by decide +kernel
theorem dX8_feedBy_19 : decode cX8_feedBy 19 = .ok (.getfield 144, 3) := by decide +kernel
theorem dX8_feedBy_22 : decode cX8_feedBy 22 = .ok (.if_icmp .ge 29, 3) := by decide +kernel
theorem dX8_feedBy_25 : decode cX8_feedBy 25 = .ok (.aload_n 0, 1) := by decide +kernel
theorem dX8_feedBy_26 : decode cX8_feedBy 26 = .ok (.getfield 86, 3) := by decide +kernel
theorem dX8_feedBy_29 : decode cX8_feedBy 29 = .ok (.iconst 0, 1) := by decide +kernel
theorem dX8_feedBy_30 : decode cX8_feedBy 30 = .ok (.iload_n 2, 1) := by decide +kernel
theorem dX8_feedBy_31 : decode cX8_feedBy 31 = .ok (.iastore, 1) := by decide +kernel
theorem dX8_feedBy_32 : decode cX8_feedBy 32 = .ok (.aload_n 0, 1) := by decide +kernel
theorem dX8_feedBy_33 : decode cX8_feedBy 33 = .ok (.iload_n 1, 1) := by decide +kernel
theorem dX8_feedBy_34 : decode cX8_feedBy 34 = .ok (.iconst 1, 1) := by decide +kernel
theorem dX8_feedBy_35 : decode cX8_feedBy 35 = .ok (.iload_n 2, 1) := by decide +kernel
theorem dX8_feedBy_36 : decode cX8_feedBy 36 = .ok (.ishl, 1) := by decide +kernel
theorem dX8_feedBy_37 : decode cX8_feedBy 37 = .ok (.invokevirtual 283, 3) := by decide +kernel
theorem dX8_feedBy_40 : decode cX8_feedBy 40 = .ok (.ifCond .eq 5, 3) := by decide +kernel
theorem dX8_feedBy_43 : decode cX8_feedBy 43 = .ok (.iconst 1, 1) := by decide +kernel
theorem dX8_feedBy_44 : decode cX8_feedBy 44 = .ok (.ireturn, 1) := by decide +kernel
theorem dX8_feedBy_45 : decode cX8_feedBy 45 = .ok (.iinc 2 1, 3) := by decide +kernel
theorem dX8_feedBy_48 : decode cX8_feedBy 48 = .ok (.goto (-31), 3) := by decide +kernel
theorem dX8_feedBy_51 : decode cX8_feedBy 51 = .ok (.iconst 0, 1) := by decide +kernel
theorem dX8_feedBy_52 : decode cX8_feedBy 52 = .ok (.istore_n 2, 1) := by decide +kernel
theorem dX8_feedBy_53 : decode cX8_feedBy 53 = .ok (.iload_n 2, 1) := by decide +kernel
theorem dX8_feedBy_54 : decode cX8_feedBy 54 = .ok (.aload_n 0, 1) := by decide +kernel
theorem dX8_feedBy_55 : decode cX8_feedBy 55 = .ok (.getfield 144, 3) := by decide +kernel
theorem dX8_feedBy_58 : decode cX8_feedBy 58 = .ok (.if_icmp .ge 58, 3) := by decide +kernel
theorem dX8_feedBy_61 : decode cX8_feedBy 61 = .ok (.iload_n 2, 1) := by decide +kernel
theorem dX8_feedBy_62 : decode cX8_feedBy 62 = .ok (.iconst 1, 1) := by decide +kernel
theorem dX8_feedBy_63 : decode cX8_feedBy 63 = .ok (.iadd, 1) := by decide +kernel
theorem dX8_feedBy_64 : decode cX8_feedBy 64 = .ok (.istore_n 3, 1) := by decide +kernel
theorem dX8_feedBy_65 : decode cX8_feedBy 65 = .ok (.iload_n 3, 1) := by decide +kernel
theorem dX8_feedBy_66 : decode cX8_feedBy 66 = .ok (.aload_n 0, 1) := by decide +kernel
theorem dX8_feedBy_67 : decode cX8_feedBy 67 = .ok (.getfield 144, 3) := by decide +kernel
theorem dX8_feedBy_70 : decode cX8_feedBy 70 = .ok (.if_icmp .ge 40, 3) := by decide +kernel
theorem dX8_feedBy_73 : decode cX8_feedBy 73 = .ok (.aload_n 0, 1) := by decide +kernel
theorem dX8_feedBy_74 : decode cX8_feedBy 74 = .ok (.getfield 86, 3) := by decide +kernel
theorem dX8_feedBy_77 : decode cX8_feedBy 77 = .ok (.iconst 0, 1) := by decide +kernel
theorem dX8_feedBy_78 : decode cX8_feedBy 78 = .ok (.iload_n 2, 1) := by decide +kernel
theorem dX8_feedBy_79 : decode cX8_feedBy 79 = .ok (.iastore, 1) := by decide +kernel
theorem dX8_feedBy_80 : decode cX8_feedBy 80 = .ok (.aload_n 0, 1) := by decide +kernel
theorem dX8_feedBy_81 : decode cX8_feedBy 81 = .ok (.getfield 86, 3) := by decide +kernel
theorem dX8_feedBy_84 : decode cX8_feedBy 84 = .ok (.iconst 1, 1) := by decide +kernel
theorem dX8_feedBy_85 : decode cX8_feedBy 85 = .ok (.iload_n 3, 1) := by decide +kernel
theorem dX8_feedBy_86 : decode cX8_feedBy 86 = .ok (.iastore, 1) := by decide +kernel
theorem dX8_feedBy_87 : decode cX8_feedBy 87 = .ok (.aload_n 0, 1) := by decide +kernel
theorem dX8_feedBy_88 : decode cX8_feedBy 88 = .ok (.iload_n 1, 1) := by decide +kernel
theorem dX8_feedBy_89 : decode cX8_feedBy 89 = .ok (.iconst 1, 1) := by decide +kernel
theorem dX8_feedBy_90 : decode cX8_feedBy 90 = .ok (.iload_n 2, 1) := by decide +kernel
theorem dX8_feedBy_91 : decode cX8_feedBy 91 = .ok (.ishl, 1) := by decide +kernel
theorem dX8_feedBy_92 : decode cX8_feedBy 92 = .ok (.iconst 1, 1) := by decide +kernel
theorem dX8_feedBy_93 : decode cX8_feedBy 93 = .ok (.iload_n 3, 1) := by decide +kernel
theorem dX8_feedBy_94 : decode cX8_feedBy 94 = .ok (.ishl, 1) := by decide +kernel
theorem dX8_feedBy_95 : decode cX8_feedBy 95 = .ok (.ior, 1) := by decide +kernel
theorem dX8_feedBy_96 : decode cX8_feedBy 96 = .ok (.invokevirtual 283, 3) := by decide +kernel
theorem dX8_feedBy_99 : decode cX8_feedBy 99 = .ok (.ifCond .eq 5, 3) := by decide +kernel
theorem dX8_feedBy_102 : decode cX8_feedBy 102 = .ok (.iconst 2, 1) := by decide +kernel
theorem dX8_feedBy_103 : decode cX8_feedBy 103 = .ok (.ireturn, 1) := by decide +kernel
theorem dX8_feedBy_104 : decode cX8_feedBy 104 = .ok (.iinc 3 1, 3) := by decide +kernel
theorem dX8_feedBy_107 : decode cX8_feedBy 107 = .ok (.goto (-42), 3) := by decide +kernel
theorem dX8_feedBy_110 : decode cX8_feedBy 110 = .ok (.iinc 2 1, 3) := by decide +kernel
theorem dX8_feedBy_113 : decode cX8_feedBy 113 = .ok (.goto (-60), 3) := by decide +kernel
theorem dX8_feedBy_116 : decode cX8_feedBy 116 = .ok (.iconst (-1), 1) := by decide +kernel
theorem dX8_feedBy_117 : decode cX8_feedBy 117 = .ok (.ireturn, 1) := by decide +kernel
theorem dX8_ofRow_0 : decode cX8_ofRow 0 = .ok (.iload_n 2, 1) := by decide +kernel
theorem dX8_ofRow_1 : decode cX8_ofRow 1 = .ok (.iconst (-1), 1) := by decide +kernel
theorem dX8_ofRow_2 : decode cX8_ofRow 2 = .ok (.if_icmp .ne 7, 3) := by decide +kernel
theorem dX8_ofRow_5 : decode cX8_ofRow 5 = .ok (.iload_n 1, 1) := by decide +kernel
theorem dX8_ofRow_6 : decode cX8_ofRow 6 = .ok (.goto 18, 3) := by decide +kernel
theorem dX8_ofRow_9 : decode cX8_ofRow 9 = .ok (.iload_n 2, 1) := by decide +kernel
theorem dX8_ofRow_10 : decode cX8_ofRow 10 = .ok (.iload_n 1, 1) := by decide +kernel
theorem dX8_ofRow_11 : decode cX8_ofRow 11 = .ok (.if_icmp .ge 12, 3) := by decide +kernel
theorem dX8_ofRow_14 : decode cX8_ofRow 14 = .ok (.aload_n 0, 1) := by decide +kernel
theorem dX8_ofRow_15 : decode cX8_ofRow 15 = .ok (.getfield 86, 3) := by decide +kernel
theorem dX8_ofRow_18 : decode cX8_ofRow 18 = .ok (.iload_n 2, 1) := by decide +kernel
theorem dX8_ofRow_19 : decode cX8_ofRow 19 = .ok (.iaload, 1) := by decide +kernel
theorem dX8_ofRow_20 : decode cX8_ofRow 20 = .ok (.goto 4, 3) := by decide +kernel
theorem dX8_ofRow_23 : decode cX8_ofRow 23 = .ok (.iconst (-1), 1) := by decide +kernel
theorem dX8_ofRow_24 : decode cX8_ofRow 24 = .ok (.ireturn, 1) := by decide +kernel
theorem dX8_feed_0 : decode cX8_feed 0 = .ok (.aload_n 0, 1) := by decide +kernel
theorem dX8_feed_1 : decode cX8_feed 1 = .ok (.iload_n 1, 1) := by decide +kernel
theorem dX8_feed_2 : decode cX8_feed 2 = .ok (.invokevirtual 172, 3) := by decide +kernel
theorem dX8_feed_5 : decode cX8_feed 5 = .ok (.ifCond .eq 25, 3) := by decide +kernel
theorem dX8_feed_8 : decode cX8_feed 8 = .ok (.iload_n 2, 1) := by decide +kernel
theorem dX8_feed_9 : decode cX8_feed 9 = .ok (.iconst (-1), 1) := by decide +kernel
theorem dX8_feed_10 : decode cX8_feed 10 = .ok (.iconst 1, 1) := by decide +kernel
theorem dX8_feed_11 : decode cX8_feed 11 = .ok (.invokestatic 125, 3) := by decide +kernel
theorem dX8_feed_14 : decode cX8_feed 14 = .ok (.ifCond .eq 16, 3) := by decide +kernel
theorem dX8_feed_17 : decode cX8_feed 17 = .ok (.aload_n 0, 1) := by decide +kernel
theorem dX8_feed_18 : decode cX8_feed 18 = .ok (.aload_n 0, 1) := by decide +kernel
theorem dX8_feed_19 : decode cX8_feed 19 = .ok (.iload_n 1, 1) := by decide +kernel
theorem dX8_feed_20 : decode cX8_feed 20 = .ok (.invokevirtual 286, 3) := by decide +kernel
theorem dX8_feed_23 : decode cX8_feed 23 = .ok (.iload_n 2, 1) := by decide +kernel
theorem dX8_feed_24 : decode cX8_feed 24 = .ok (.invokevirtual 289, 3) := by decide +kernel
theorem dX8_feed_27 : decode cX8_feed 27 = .ok (.goto 5, 3) := by decide +kernel
theorem dX8_feed_30 : decode cX8_feed 30 = .ok (.bipush (-2), 2) := by decide +kernel
theorem dX8_feed_32 : decode cX8_feed 32 = .ok (.ireturn, 1) := by decide +kernel
theorem dX8_stillOf_0 : decode cX8_stillOf 0 = .ok (.aload_n 0, 1) := by decide +kernel
theorem dX8_stillOf_1 : decode cX8_stillOf 1 = .ok (.invokevirtual 242, 3) := by decide +kernel
theorem dX8_stillOf_4 : decode cX8_stillOf 4 = .ok (.iconst (-1), 1) := by decide +kernel
theorem dX8_stillOf_5 : decode cX8_stillOf 5 = .ok (.istore_n 2, 1) := by decide +kernel
theorem dX8_stillOf_6 : decode cX8_stillOf 6 = .ok (.iconst (-1), 1) := by decide +kernel
theorem dX8_stillOf_7 : decode cX8_stillOf 7 = .ok (.istore_n 3, 1) := by decide +kernel
theorem dX8_stillOf_8 : decode cX8_stillOf 8 = .ok (.iconst 0, 1) := by decide +kernel
theorem dX8_stillOf_9 : decode cX8_stillOf 9 = .ok (.istore 4, 2) := by decide +kernel
theorem dX8_stillOf_11 : decode cX8_stillOf 11 = .ok (.iload 4, 2) := by decide +kernel
theorem dX8_stillOf_13 : decode cX8_stillOf 13 = .ok (.aload_n 0, 1) := by decide +kernel
theorem dX8_stillOf_14 : decode cX8_stillOf 14 = .ok (.getfield 181, 3) := by decide +kernel
theorem dX8_stillOf_17 : decode cX8_stillOf 17 = .ok (.if_icmp .ge 57, 3) := by decide +kernel
theorem dX8_stillOf_20 : decode cX8_stillOf 20 = .ok (.aload_n 0, 1) := by decide +kernel
theorem dX8_stillOf_21 : decode cX8_stillOf 21 = .ok (.aload_n 0, 1) := by decide +kernel
theorem dX8_stillOf_22 : decode cX8_stillOf 22 = .ok (.iconst 1, 1) := by decide +kernel
theorem dX8_stillOf_23 : decode cX8_stillOf 23 = .ok (.iload 4, 2) := by decide +kernel
theorem dX8_stillOf_25 : decode cX8_stillOf 25 = .ok (.ishl, 1) := by decide +kernel
theorem dX8_stillOf_26 : decode cX8_stillOf 26 = .ok (.invokevirtual 204, 3) := by decide +kernel
theorem dX8_stillOf_29 : decode cX8_stillOf 29 = .ok (.putfield 208, 3) := by decide +kernel
theorem dX8_stillOf_32 : decode cX8_stillOf 32 = .ok (.aload_n 0, 1) := by decide +kernel
theorem dX8_stillOf_33 : decode cX8_stillOf 33 = .ok (.invokevirtual 245, 3) := by decide +kernel
theorem dX8_stillOf_36 : decode cX8_stillOf 36 = .ok (.aload_n 0, 1) := by decide +kernel
theorem dX8_stillOf_37 : decode cX8_stillOf 37 = .ok (.invokevirtual 264, 3) := by decide +kernel
theorem dX8_stillOf_40 : decode cX8_stillOf 40 = .ok (.istore 5, 2) := by decide +kernel
theorem dX8_stillOf_42 : decode cX8_stillOf 42 = .ok (.iload 5, 2) := by decide +kernel
theorem dX8_stillOf_44 : decode cX8_stillOf 44 = .ok (.iload_n 3, 1) := by decide +kernel
theorem dX8_stillOf_45 : decode cX8_stillOf 45 = .ok (.if_icmp .le 8, 3) := by decide +kernel
theorem dX8_stillOf_48 : decode cX8_stillOf 48 = .ok (.iload 4, 2) := by decide +kernel
theorem dX8_stillOf_50 : decode cX8_stillOf 50 = .ok (.goto 4, 3) := by decide +kernel
theorem dX8_stillOf_53 : decode cX8_stillOf 53 = .ok (.iload_n 2, 1) := by decide +kernel
theorem dX8_stillOf_54 : decode cX8_stillOf 54 = .ok (.istore_n 2, 1) := by decide +kernel
theorem dX8_stillOf_55 : decode cX8_stillOf 55 = .ok (.iload 5, 2) := by decide +kernel
theorem dX8_stillOf_57 : decode cX8_stillOf 57 = .ok (.iload_n 3, 1) := by decide +kernel
theorem dX8_stillOf_58 : decode cX8_stillOf 58 = .ok (.if_icmp .le 8, 3) := by decide +kernel
theorem dX8_stillOf_61 : decode cX8_stillOf 61 = .ok (.iload 5, 2) := by decide +kernel
theorem dX8_stillOf_63 : decode cX8_stillOf 63 = .ok (.goto 4, 3) := by decide +kernel
theorem dX8_stillOf_66 : decode cX8_stillOf 66 = .ok (.iload_n 3, 1) := by decide +kernel
theorem dX8_stillOf_67 : decode cX8_stillOf 67 = .ok (.istore_n 3, 1) := by decide +kernel
theorem dX8_stillOf_68 : decode cX8_stillOf 68 = .ok (.iinc 4 1, 3) := by decide +kernel
theorem dX8_stillOf_71 : decode cX8_stillOf 71 = .ok (.goto (-60), 3) := by decide +kernel
theorem dX8_stillOf_74 : decode cX8_stillOf 74 = .ok (.iload_n 1, 1) := by decide +kernel
theorem dX8_stillOf_75 : decode cX8_stillOf 75 = .ok (.ifCond .ne 7, 3) := by decide +kernel
theorem dX8_stillOf_78 : decode cX8_stillOf 78 = .ok (.iload_n 2, 1) := by decide +kernel
theorem dX8_stillOf_79 : decode cX8_stillOf 79 = .ok (.goto 4, 3) := by decide +kernel
theorem dX8_stillOf_82 : decode cX8_stillOf 82 = .ok (.iload_n 3, 1) := by decide +kernel
theorem dX8_stillOf_83 : decode cX8_stillOf 83 = .ok (.ireturn, 1) := by decide +kernel
theorem dX8_still_0 : decode cX8_still 0 = .ok (.iload_n 1, 1) := by decide +kernel
theorem dX8_still_1 : decode cX8_still 1 = .ok (.iconst 0, 1) := by decide +kernel
theorem dX8_still_2 : decode cX8_still 2 = .ok (.iconst 1, 1) := by decide +kernel
theorem dX8_still_3 : decode cX8_still 3 = .ok (.invokestatic 125, 3) := by decide +kernel
theorem dX8_still_6 : decode cX8_still 6 = .ok (.ifCond .eq 11, 3) := by decide +kernel
theorem dX8_still_9 : decode cX8_still 9 = .ok (.aload_n 0, 1) := by decide +kernel
theorem dX8_still_10 : decode cX8_still 10 = .ok (.iload_n 1, 1) := by decide +kernel
theorem dX8_still_11 : decode cX8_still 11 = .ok (.invokevirtual 292, 3) := by decide +kernel
theorem dX8_still_14 : decode cX8_still 14 = .ok (.goto 5, 3) := by decide +kernel
theorem dX8_still_17 : decode cX8_still 17 = .ok (.bipush (-2), 2) := by decide +kernel
theorem dX8_still_19 : decode cX8_still 19 = .ok (.ireturn, 1) := by decide +kernel
theorem dX8_seen_0 : decode cX8_seen 0 = .ok (.iload_n 1, 1) := by decide +kernel
theorem dX8_seen_1 : decode cX8_seen 1 = .ok (.iconst 0, 1) := by decide +kernel
theorem dX8_seen_2 : decode cX8_seen 2 = .ok (.bipush 7, 2) := by decide +kernel
theorem dX8_seen_4 : decode cX8_seen 4 = .ok (.invokestatic 125, 3) := by decide +kernel
theorem dX8_seen_7 : decode cX8_seen 7 = .ok (.ifCond .eq 23, 3) := by decide +kernel
theorem dX8_seen_10 : decode cX8_seen 10 = .ok (.iload_n 2, 1) := by decide +kernel
theorem dX8_seen_11 : decode cX8_seen 11 = .ok (.iconst 0, 1) := by decide +kernel
theorem dX8_seen_12 : decode cX8_seen 12 = .ok (.bipush 11, 2) := by decide +kernel
theorem dX8_seen_14 : decode cX8_seen 14 = .ok (.invokestatic 125, 3) := by decide +kernel
theorem dX8_seen_17 : decode cX8_seen 17 = .ok (.ifCond .eq 13, 3) := by decide +kernel
theorem dX8_seen_20 : decode cX8_seen 20 = .ok (.iload_n 3, 1) := by decide +kernel
theorem dX8_seen_21 : decode cX8_seen 21 = .ok (.iconst 0, 1) := by decide +kernel
theorem dX8_seen_22 : decode cX8_seen 22 = .ok (.bipush 8, 2) := by decide +kernel
theorem dX8_seen_24 : decode cX8_seen 24 = .ok (.invokestatic 125, 3) := by decide +kernel
theorem dX8_seen_27 : decode cX8_seen 27 = .ok (.ifCond .ne 6, 3) := by decide +kernel
theorem dX8_seen_30 : decode cX8_seen 30 = .ok (.bipush (-2), 2) := by decide +kernel
theorem dX8_seen_32 : decode cX8_seen 32 = .ok (.ireturn, 1) := by decide +kernel
theorem dX8_seen_33 : decode cX8_seen 33 = .ok (.aload_n 0, 1) := by decide +kernel
theorem dX8_seen_34 : decode cX8_seen 34 = .ok (.getfield 295, 3) := by decide +kernel
theorem dX8_seen_37 : decode cX8_seen 37 = .ok (.bipush 8, 2) := by decide +kernel
theorem dX8_seen_39 : decode cX8_seen 39 = .ok (.if_icmp .ne 6, 3) := by decide +kernel
theorem dX8_seen_42 : decode cX8_seen 42 = .ok (.bipush (-4), 2) := by decide +kernel
theorem dX8_seen_44 : decode cX8_seen 44 = .ok (.ireturn, 1) := by decide +kernel
theorem dX8_seen_45 : decode cX8_seen 45 = .ok (.aload_n 0, 1) := by decide +kernel
theorem dX8_seen_46 : decode cX8_seen 46 = .ok (.getfield 89, 3) := by decide +kernel
theorem dX8_seen_49 : decode cX8_seen 49 = .ok (.aload_n 0, 1) := by decide +kernel
theorem dX8_seen_50 : decode cX8_seen 50 = .ok (.getfield 295, 3) := by decide +kernel
theorem dX8_seen_53 : decode cX8_seen 53 = .ok (.iload_n 1, 1) := by decide +kernel
theorem dX8_seen_54 : decode cX8_seen 54 = .ok (.iastore, 1) := by decide +kernel
theorem dX8_seen_55 : decode cX8_seen 55 = .ok (.aload_n 0, 1) := by decide +kernel
theorem dX8_seen_56 : decode cX8_seen 56 = .ok (.getfield 92, 3) := by decide +kernel
theorem dX8_seen_59 : decode cX8_seen 59 = .ok (.aload_n 0, 1) := by decide +kernel
theorem dX8_seen_60 : decode cX8_seen 60 = .ok (.getfield 295, 3) := by decide +kernel
theorem dX8_seen_63 : decode cX8_seen 63 = .ok (.iload_n 2, 1) := by decide +kernel
theorem dX8_seen_64 : decode cX8_seen 64 = .ok (.iastore, 1) := by decide +kernel
theorem dX8_seen_65 : decode cX8_seen 65 = .ok (.aload_n 0, 1) := by decide +kernel
theorem dX8_seen_66 : decode cX8_seen 66 = .ok (.getfield 95, 3) := by decide +kernel
theorem dX8_seen_69 : decode cX8_seen 69 = .ok (.aload_n 0, 1) := by decide +kernel
theorem dX8_seen_70 : decode cX8_seen 70 = .ok (.getfield 295, 3) := by decide +kernel
theorem dX8_seen_73 : decode cX8_seen 73 = .ok (.iload_n 3, 1) := by decide +kernel
theorem dX8_seen_74 : decode cX8_seen 74 = .ok (.iastore, 1) := by decide +kernel
theorem dX8_seen_75 : decode cX8_seen 75 = .ok (.aload_n 0, 1) := by decide +kernel
theorem dX8_seen_76 : decode cX8_seen 76 = .ok (.dup, 1) := by decide +kernel
theorem dX8_seen_77 : decode cX8_seen 77 = .ok (.getfield 295, 3) := by decide +kernel
theorem dX8_seen_80 : decode cX8_seen 80 = .ok (.iconst 1, 1) := by decide +kernel
theorem dX8_seen_81 : decode cX8_seen 81 = .ok (.iadd, 1) := by decide +kernel
theorem dX8_seen_82 : decode cX8_seen 82 = .ok (.putfield 295, 3) := by decide +kernel
theorem dX8_seen_85 : decode cX8_seen 85 = .ok (.aload_n 0, 1) := by decide +kernel
theorem dX8_seen_86 : decode cX8_seen 86 = .ok (.getfield 295, 3) := by decide +kernel
theorem dX8_seen_89 : decode cX8_seen 89 = .ok (.ireturn, 1) := by decide +kernel
theorem dX8_forget_0 : decode cX8_forget 0 = .ok (.aload_n 0, 1) := by decide +kernel
theorem dX8_forget_1 : decode cX8_forget 1 = .ok (.getfield 295, 3) := by decide +kernel
theorem dX8_forget_4 : decode cX8_forget 4 = .ok (.istore_n 1, 1) := by decide +kernel
theorem dX8_forget_5 : decode cX8_forget 5 = .ok (.aload_n 0, 1) := by decide +kernel
theorem dX8_forget_6 : decode cX8_forget 6 = .ok (.iconst 0, 1) := by decide +kernel
theorem dX8_forget_7 : decode cX8_forget 7 = .ok (.putfield 295, 3) := by decide +kernel
theorem dX8_forget_10 : decode cX8_forget 10 = .ok (.iload_n 1, 1) := by decide +kernel
theorem dX8_forget_11 : decode cX8_forget 11 = .ok (.ireturn, 1) := by decide +kernel
theorem dX8_isSeen_0 : decode cX8_isSeen 0 = .ok (.aload_n 0, 1) := by decide +kernel
theorem dX8_isSeen_1 : decode cX8_isSeen 1 = .ok (.invokevirtual 245, 3) := by decide +kernel
theorem dX8_isSeen_4 : decode cX8_isSeen 4 = .ok (.iconst 1, 1) := by decide +kernel
theorem dX8_isSeen_5 : decode cX8_isSeen 5 = .ok (.istore_n 1, 1) := by decide +kernel
theorem dX8_isSeen_6 : decode cX8_isSeen 6 = .ok (.iconst 0, 1) := by decide +kernel
theorem dX8_isSeen_7 : decode cX8_isSeen 7 = .ok (.istore_n 2, 1) := by decide +kernel
theorem dX8_isSeen_8 : decode cX8_isSeen 8 = .ok (.iload_n 2, 1) := by decide +kernel
theorem dX8_isSeen_9 : decode cX8_isSeen 9 = .ok (.aload_n 0, 1) := by decide +kernel
theorem dX8_isSeen_10 : decode cX8_isSeen 10 = .ok (.getfield 295, 3) := by decide +kernel
theorem dX8_isSeen_13 : decode cX8_isSeen 13 = .ok (.if_icmp .ge 79, 3) := by decide +kernel
theorem dX8_isSeen_16 : decode cX8_isSeen 16 = .ok (.iload_n 1, 1) := by decide +kernel
theorem dX8_isSeen_17 : decode cX8_isSeen 17 = .ok (.ifCond .eq 75, 3) := by decide +kernel
theorem dX8_isSeen_20 : decode cX8_isSeen 20 = .ok (.aload_n 0, 1) := by decide +kernel
theorem dX8_isSeen_21 : decode cX8_isSeen 21 = .ok (.getfield 89, 3) := by decide +kernel
theorem dX8_isSeen_24 : decode cX8_isSeen 24 = .ok (.iload_n 2, 1) := by decide +kernel
theorem dX8_isSeen_25 : decode cX8_isSeen 25 = .ok (.iaload, 1) := by decide +kernel
theorem dX8_isSeen_26 : decode cX8_isSeen 26 = .ok (.istore_n 3, 1) := by decide +kernel
theorem dX8_isSeen_27 : decode cX8_isSeen 27 = .ok (.aload_n 0, 1) := by decide +kernel
theorem dX8_isSeen_28 : decode cX8_isSeen 28 = .ok (.getfield 92, 3) := by decide +kernel
theorem dX8_isSeen_31 : decode cX8_isSeen 31 = .ok (.iload_n 2, 1) := by decide +kernel
theorem dX8_isSeen_32 : decode cX8_isSeen 32 = .ok (.iaload, 1) := by decide +kernel
theorem dX8_isSeen_33 : decode cX8_isSeen 33 = .ok (.istore 4, 2) := by decide +kernel
theorem dX8_isSeen_35 : decode cX8_isSeen 35 = .ok (.iload_n 3, 1) := by decide +kernel
theorem dX8_isSeen_36 : decode cX8_isSeen 36 = .ok (.aload_n 0, 1) := by decide +kernel
theorem dX8_isSeen_37 : decode cX8_isSeen 37 = .ok (.getfield 147, 3) := by decide +kernel
theorem dX8_isSeen_40 : decode cX8_isSeen 40 = .ok (.if_icmp .ge 44, 3) := by decide +kernel
theorem dX8_isSeen_43 : decode cX8_isSeen 43 = .ok (.iload 4, 2) := by decide +kernel
theorem dX8_isSeen_45 : decode cX8_isSeen 45 = .ok (.aload_n 0, 1) := by decide +kernel
theorem dX8_isSeen_46 : decode cX8_isSeen 46 = .ok (.getfield 49, 3) := by decide +kernel
theorem dX8_isSeen_49 : decode cX8_isSeen 49 = .ok (.iload_n 3, 1) := by decide +kernel
theorem dX8_isSeen_50 : decode cX8_isSeen 50 = .ok (.iaload, 1) := by decide +kernel
theorem dX8_isSeen_51 : decode cX8_isSeen 51 = .ok (.if_icmp .ge 18, 3) := by decide +kernel
theorem dX8_isSeen_54 : decode cX8_isSeen 54 = .ok (.aload_n 0, 1) := by decide +kernel
theorem dX8_isSeen_55 : decode cX8_isSeen 55 = .ok (.getfield 52, 3) := by decide +kernel
theorem dX8_isSeen_58 : decode cX8_isSeen 58 = .ok (.bipush 24, 2) := by decide +kernel
theorem dX8_isSeen_60 : decode cX8_isSeen 60 = .ok (.iload_n 3, 1) := by decide +kernel
theorem dX8_isSeen_61 : decode cX8_isSeen 61 = .ok (.imul, 1) := by decide +kernel
theorem dX8_isSeen_62 : decode cX8_isSeen 62 = .ok (.iload 4, 2) := by decide +kernel
theorem dX8_isSeen_64 : decode cX8_isSeen 64 = .ok (.iadd, 1) := by decide +kernel
theorem dX8_isSeen_65 : decode cX8_isSeen 65 = .ok (.iaload, 1) := by decide +kernel
theorem dX8_isSeen_66 : decode cX8_isSeen 66 = .ok (.goto 5, 3) := by decide +kernel
theorem dX8_isSeen_69 : decode cX8_isSeen 69 = .ok (.bipush 8, 2) := by decide +kernel
theorem dX8_isSeen_71 : decode cX8_isSeen 71 = .ok (.aload_n 0, 1) := by decide +kernel
theorem dX8_isSeen_72 : decode cX8_isSeen 72 = .ok (.getfield 95, 3) := by decide +kernel
theorem dX8_isSeen_75 : decode cX8_isSeen 75 = .ok (.iload_n 2, 1) := by decide +kernel
theorem dX8_isSeen_76 : decode cX8_isSeen 76 = .ok (.iaload, 1) := by decide +kernel
theorem dX8_isSeen_77 : decode cX8_isSeen 77 = .ok (.if_icmp .ne 7, 3) := by decide +kernel
theorem dX8_isSeen_80 : decode cX8_isSeen 80 = .ok (.iconst 1, 1) := by decide +kernel
theorem dX8_isSeen_81 : decode cX8_isSeen 81 = .ok (.goto 4, 3) := by decide +kernel
theorem dX8_isSeen_84 : decode cX8_isSeen 84 = .ok (.iconst 0, 1) := by decide +kernel
theorem dX8_isSeen_85 : decode cX8_isSeen 85 = .ok (.istore_n 1, 1) := by decide +kernel
theorem dX8_isSeen_86 : decode cX8_isSeen 86 = .ok (.iinc 2 1, 3) := by decide +kernel
theorem dX8_isSeen_89 : decode cX8_isSeen 89 = .ok (.goto (-81), 3) := by decide +kernel
theorem dX8_isSeen_92 : decode cX8_isSeen 92 = .ok (.iload_n 1, 1) := by decide +kernel
theorem dX8_isSeen_93 : decode cX8_isSeen 93 = .ok (.ireturn, 1) := by decide +kernel
theorem dX8_neverNow_0 : decode cX8_neverNow 0 = .ok (.aload_n 0, 1) := by decide +kernel
theorem dX8_neverNow_1 : decode cX8_neverNow 1 = .ok (.invokevirtual 242, 3) := by decide +kernel
theorem dX8_neverNow_4 : decode cX8_neverNow 4 = .ok (.iconst 0, 1) := by decide +kernel
theorem dX8_neverNow_5 : decode cX8_neverNow 5 = .ok (.istore_n 1, 1) := by decide +kernel
theorem dX8_neverNow_6 : decode cX8_neverNow 6 = .ok (.iconst 0, 1) := by decide +kernel
theorem dX8_neverNow_7 : decode cX8_neverNow 7 = .ok (.istore_n 2, 1) := by decide +kernel
theorem dX8_neverNow_8 : decode cX8_neverNow 8 = .ok (.iload_n 2, 1) := by decide +kernel
theorem dX8_neverNow_9 : decode cX8_neverNow 9 = .ok (.aload_n 0, 1) := by decide +kernel
theorem dX8_neverNow_10 : decode cX8_neverNow 10 = .ok (.getfield 181, 3) := by decide +kernel
theorem dX8_neverNow_13 : decode cX8_neverNow 13 = .ok (.if_icmp .ge 37, 3) := by decide +kernel
theorem dX8_neverNow_16 : decode cX8_neverNow 16 = .ok (.aload_n 0, 1) := by decide +kernel
theorem dX8_neverNow_17 : decode cX8_neverNow 17 = .ok (.aload_n 0, 1) := by decide +kernel
theorem dX8_neverNow_18 : decode cX8_neverNow 18 = .ok (.iconst 1, 1) := by decide +kernel
theorem dX8_neverNow_19 : decode cX8_neverNow 19 = .ok (.iload_n 2, 1) := by decide +kernel
theorem dX8_neverNow_20 : decode cX8_neverNow 20 = .ok (.ishl, 1) := by decide +kernel
theorem dX8_neverNow_21 : decode cX8_neverNow 21 = .ok (.invokevirtual 204, 3) := by decide +kernel
theorem dX8_neverNow_24 : decode cX8_neverNow 24 = .ok (.putfield 208, 3) := by decide +kernel
theorem dX8_neverNow_27 : decode cX8_neverNow 27 = .ok (.iload_n 1, 1) := by decide +kernel
theorem dX8_neverNow_28 : decode cX8_neverNow 28 = .ok (.aload_n 0, 1) := by decide +kernel
theorem dX8_neverNow_29 : decode cX8_neverNow 29 = .ok (.invokevirtual 298, 3) := by decide +kernel
theorem dX8_neverNow_32 : decode cX8_neverNow 32 = .ok (.ifCond .eq 9, 3) := by decide +kernel
theorem dX8_neverNow_35 : decode cX8_neverNow 35 = .ok (.iconst 1, 1) := by decide +kernel
theorem dX8_neverNow_36 : decode cX8_neverNow 36 = .ok (.iload_n 2, 1) := by decide +kernel
theorem dX8_neverNow_37 : decode cX8_neverNow 37 = .ok (.ishl, 1) := by decide +kernel
theorem dX8_neverNow_38 : decode cX8_neverNow 38 = .ok (.goto 4, 3) := by decide +kernel
theorem dX8_neverNow_41 : decode cX8_neverNow 41 = .ok (.iconst 0, 1) := by decide +kernel
theorem dX8_neverNow_42 : decode cX8_neverNow 42 = .ok (.ior, 1) := by decide +kernel
theorem dX8_neverNow_43 : decode cX8_neverNow 43 = .ok (.istore_n 1, 1) := by decide +kernel
theorem dX8_neverNow_44 : decode cX8_neverNow 44 = .ok (.iinc 2 1, 3) := by decide +kernel
theorem dX8_neverNow_47 : decode cX8_neverNow 47 = .ok (.goto (-39), 3) := by decide +kernel
theorem dX8_neverNow_50 : decode cX8_neverNow 50 = .ok (.iload_n 1, 1) := by decide +kernel
theorem dX8_neverNow_51 : decode cX8_neverNow 51 = .ok (.ireturn, 1) := by decide +kernel
theorem dX8_never_0 : decode cX8_never 0 = .ok (.aload_n 0, 1) := by decide +kernel
theorem dX8_never_1 : decode cX8_never 1 = .ok (.invokevirtual 302, 3) := by decide +kernel
theorem dX8_never_4 : decode cX8_never 4 = .ok (.ireturn, 1) := by decide +kernel
theorem dX8_wasOf_0 : decode cX8_wasOf 0 = .ok (.aload_n 0, 1) := by decide +kernel
theorem dX8_wasOf_1 : decode cX8_wasOf 1 = .ok (.invokevirtual 242, 3) := by decide +kernel
theorem dX8_wasOf_4 : decode cX8_wasOf 4 = .ok (.aload_n 0, 1) := by decide +kernel
theorem dX8_wasOf_5 : decode cX8_wasOf 5 = .ok (.getfield 19, 3) := by decide +kernel
theorem dX8_wasOf_8 : decode cX8_wasOf 8 = .ok (.iload_n 1, 1) := by decide +kernel
theorem dX8_wasOf_9 : decode cX8_wasOf 9 = .ok (.iaload, 1) := by decide +kernel
theorem dX8_wasOf_10 : decode cX8_wasOf 10 = .ok (.istore_n 3, 1) := by decide +kernel
theorem dX8_wasOf_11 : decode cX8_wasOf 11 = .ok (.aload_n 0, 1) := by decide +kernel
theorem dX8_wasOf_12 : decode cX8_wasOf 12 = .ok (.getfield 22, 3) := by decide +kernel
theorem dX8_wasOf_15 : decode cX8_wasOf 15 = .ok (.iload_n 1, 1) := by decide +kernel
theorem dX8_wasOf_16 : decode cX8_wasOf 16 = .ok (.iaload, 1) := by decide +kernel
theorem dX8_wasOf_17 : decode cX8_wasOf 17 = .ok (.istore 4, 2) := by decide +kernel
theorem dX8_wasOf_19 : decode cX8_wasOf 19 = .ok (.iconst 0, 1) := by decide +kernel
theorem dX8_wasOf_20 : decode cX8_wasOf 20 = .ok (.istore 5, 2) := by decide +kernel
theorem dX8_wasOf_22 : decode cX8_wasOf 22 = .ok (.iconst 0, 1) := by decide +kernel
theorem dX8_wasOf_23 : decode cX8_wasOf 23 = .ok (.istore 6, 2) := by decide +kernel
theorem dX8_wasOf_25 : decode cX8_wasOf 25 = .ok (.iload 6, 2) := by decide +kernel
theorem dX8_wasOf_27 : decode cX8_wasOf 27 = .ok (.iload_n 2, 1) := by decide +kernel
theorem dX8_wasOf_28 : decode cX8_wasOf 28 = .ok (.ifCond .ne 8, 3) := by decide +kernel
theorem dX8_wasOf_31 : decode cX8_wasOf 31 = .ok (.bipush 10, 2) := by decide +kernel
theorem dX8_wasOf_33 : decode cX8_wasOf 33 = .ok (.goto 5, 3) := by decide +kernel
theorem dX8_wasOf_36 : decode cX8_wasOf 36 = .ok (.bipush 8, 2) := by decide +kernel
theorem dX8_wasOf_38 : decode cX8_wasOf 38 = .ok (.if_icmp .ge 101, 3) := by decide +kernel
theorem dX8_wasOf_41 : decode cX8_wasOf 41 = .ok (.aload_n 0, 1) := by decide +kernel
theorem dX8_wasOf_42 : decode cX8_wasOf 42 = .ok (.getfield 19, 3) := by decide +kernel
theorem dX8_wasOf_45 : decode cX8_wasOf 45 = .ok (.iload_n 1, 1) := by decide +kernel
theorem dX8_wasOf_46 : decode cX8_wasOf 46 = .ok (.iload_n 2, 1) := by decide +kernel
theorem dX8_wasOf_47 : decode cX8_wasOf 47 = .ok (.ifCond .ne 8, 3) := by decide +kernel
theorem dX8_wasOf_50 : decode cX8_wasOf 50 = .ok (.iload 6, 2) := by decide +kernel
theorem dX8_wasOf_52 : decode cX8_wasOf 52 = .ok (.goto 4, 3) := by decide +kernel
theorem dX8_wasOf_55 : decode cX8_wasOf 55 = .ok (.iload_n 3, 1) := by decide +kernel
theorem dX8_wasOf_56 : decode cX8_wasOf 56 = .ok (.iastore, 1) := by decide +kernel
theorem dX8_wasOf_57 : decode cX8_wasOf 57 = .ok (.aload_n 0, 1) := by decide +kernel
theorem dX8_wasOf_58 : decode cX8_wasOf 58 = .ok (.getfield 22, 3) := by decide +kernel
theorem dX8_wasOf_61 : decode cX8_wasOf 61 = .ok (.iload_n 1, 1) := by decide +kernel
theorem dX8_wasOf_62 : decode cX8_wasOf 62 = .ok (.iload_n 2, 1) := by decide +kernel
theorem dX8_wasOf_63 : decode cX8_wasOf 63 = .ok (.iconst 1, 1) := by decide +kernel
theorem dX8_wasOf_64 : decode cX8_wasOf 64 = .ok (.if_icmp .ne 8, 3) := by decide +kernel
theorem dX8_wasOf_67 : decode cX8_wasOf 67 = .ok (.iload 6, 2) := by decide +kernel
theorem dX8_wasOf_69 : decode cX8_wasOf 69 = .ok (.goto 5, 3) := by decide +kernel
theorem dX8_wasOf_72 : decode cX8_wasOf 72 = .ok (.iload 4, 2) := by decide +kernel
theorem dX8_wasOf_74 : decode cX8_wasOf 74 = .ok (.iastore, 1) := by decide +kernel
theorem dX8_wasOf_75 : decode cX8_wasOf 75 = .ok (.iload 5, 2) := by decide +kernel
theorem dX8_wasOf_77 : decode cX8_wasOf 77 = .ok (.aload_n 0, 1) := by decide +kernel
theorem dX8_wasOf_78 : decode cX8_wasOf 78 = .ok (.invokevirtual 298, 3) := by decide +kernel
theorem dX8_wasOf_81 : decode cX8_wasOf 81 = .ok (.ifCond .eq 10, 3) := by decide +kernel
theorem dX8_wasOf_84 : decode cX8_wasOf 84 = .ok (.iconst 1, 1) := by decide +kernel
theorem dX8_wasOf_85 : decode cX8_wasOf 85 = .ok (.iload 6, 2) := by decide +kernel
theorem dX8_wasOf_87 : decode cX8_wasOf 87 = .ok (.ishl, 1) := by decide +kernel
theorem dX8_wasOf_88 : decode cX8_wasOf 88 = .ok (.goto 4, 3) := by decide +kernel
theorem dX8_wasOf_91 : decode cX8_wasOf 91 = .ok (.iconst 0, 1) := by decide +kernel
theorem dX8_wasOf_92 : decode cX8_wasOf 92 = .ok (.ior, 1) := by decide +kernel
theorem dX8_wasOf_93 : decode cX8_wasOf 93 = .ok (.istore 5, 2) := by decide +kernel
theorem dX8_wasOf_95 : decode cX8_wasOf 95 = .ok (.iconst 0, 1) := by decide +kernel
theorem dX8_wasOf_96 : decode cX8_wasOf 96 = .ok (.istore 7, 2) := by decide +kernel
theorem dX8_wasOf_98 : decode cX8_wasOf 98 = .ok (.iload 7, 2) := by decide +kernel
theorem dX8_wasOf_100 : decode cX8_wasOf 100 = .ok (.aload_n 0, 1) := by decide +kernel
theorem dX8_wasOf_101 : decode cX8_wasOf 101 = .ok (.getfield 147, 3) := by decide +kernel
theorem dX8_wasOf_104 : decode cX8_wasOf 104 = .ok (.if_icmp .ge 29, 3) := by decide +kernel
theorem dX8_wasOf_107 : decode cX8_wasOf 107 = .ok (.aload_n 0, 1) := by decide +kernel
theorem dX8_wasOf_108 : decode cX8_wasOf 108 = .ok (.getfield 98, 3) := by decide +kernel
theorem dX8_wasOf_111 : decode cX8_wasOf 111 = .ok (.bipush 8, 2) := by decide +kernel
theorem dX8_wasOf_113 : decode cX8_wasOf 113 = .ok (.iload 6, 2) := by decide +kernel
theorem dX8_wasOf_115 : decode cX8_wasOf 115 = .ok (.imul, 1) := by decide +kernel
theorem dX8_wasOf_116 : decode cX8_wasOf 116 = .ok (.iload 7, 2) := by decide +kernel
theorem dX8_wasOf_118 : decode cX8_wasOf 118 = .ok (.iadd, 1) := by decide +kernel
theorem dX8_wasOf_119 : decode cX8_wasOf 119 = .ok (.aload_n 0, 1) := by decide +kernel
theorem dX8_wasOf_120 : decode cX8_wasOf 120 = .ok (.getfield 46, 3) := by decide +kernel
theorem dX8_wasOf_123 : decode cX8_wasOf 123 = .ok (.iload 7, 2) := by decide +kernel
theorem dX8_wasOf_125 : decode cX8_wasOf 125 = .ok (.iaload, 1) := by decide +kernel
theorem dX8_wasOf_126 : decode cX8_wasOf 126 = .ok (.iastore, 1) := by decide +kernel
theorem dX8_wasOf_127 : decode cX8_wasOf 127 = .ok (.iinc 7 1, 3) := by decide +kernel
theorem dX8_wasOf_130 : decode cX8_wasOf 130 = .ok (.goto (-32), 3) := by decide +kernel
theorem dX8_wasOf_133 : decode cX8_wasOf 133 = .ok (.iinc 6 1, 3) := by decide +kernel
theorem dX8_wasOf_136 : decode cX8_wasOf 136 = .ok (.goto (-111), 3) := by decide +kernel
theorem dX8_wasOf_139 : decode cX8_wasOf 139 = .ok (.aload_n 0, 1) := by decide +kernel
theorem dX8_wasOf_140 : decode cX8_wasOf 140 = .ok (.getfield 19, 3) := by decide +kernel
theorem dX8_wasOf_143 : decode cX8_wasOf 143 = .ok (.iload_n 1, 1) := by decide +kernel
theorem dX8_wasOf_144 : decode cX8_wasOf 144 = .ok (.iload_n 3, 1) := by decide +kernel
theorem dX8_wasOf_145 : decode cX8_wasOf 145 = .ok (.iastore, 1) := by decide +kernel
theorem dX8_wasOf_146 : decode cX8_wasOf 146 = .ok (.aload_n 0, 1) := by decide +kernel
theorem dX8_wasOf_147 : decode cX8_wasOf 147 = .ok (.getfield 22, 3) := by decide +kernel
theorem dX8_wasOf_150 : decode cX8_wasOf 150 = .ok (.iload_n 1, 1) := by decide +kernel
theorem dX8_wasOf_151 : decode cX8_wasOf 151 = .ok (.iload 4, 2) := by decide +kernel
theorem dX8_wasOf_153 : decode cX8_wasOf 153 = .ok (.iastore, 1) := by decide +kernel
theorem dX8_wasOf_154 : decode cX8_wasOf 154 = .ok (.iload 5, 2) := by decide +kernel
theorem dX8_wasOf_156 : decode cX8_wasOf 156 = .ok (.ireturn, 1) := by decide +kernel
theorem dX8_was_0 : decode cX8_was 0 = .ok (.aload_n 0, 1) := by decide +kernel
theorem dX8_was_1 : decode cX8_was 1 = .ok (.iload_n 1, 1) := by decide +kernel
theorem dX8_was_2 : decode cX8_was 2 = .ok (.invokevirtual 166, 3) := by decide +kernel
theorem dX8_was_5 : decode cX8_was 5 = .ok (.ifCond .eq 21, 3) := by decide +kernel
theorem dX8_was_8 : decode cX8_was 8 = .ok (.iload_n 2, 1) := by decide +kernel
theorem dX8_was_9 : decode cX8_was 9 = .ok (.iconst 0, 1) := by decide +kernel
theorem dX8_was_10 : decode cX8_was 10 = .ok (.iconst 1, 1) := by decide +kernel
theorem dX8_was_11 : decode cX8_was 11 = .ok (.invokestatic 125, 3) := by decide +kernel
theorem dX8_was_14 : decode cX8_was 14 = .ok (.ifCond .eq 12, 3) := by decide +kernel
theorem dX8_was_17 : decode cX8_was 17 = .ok (.aload_n 0, 1) := by decide +kernel
theorem dX8_was_18 : decode cX8_was 18 = .ok (.iload_n 1, 1) := by decide +kernel
theorem dX8_was_19 : decode cX8_was 19 = .ok (.iload_n 2, 1) := by decide +kernel
theorem dX8_was_20 : decode cX8_was 20 = .ok (.invokevirtual 305, 3) := by decide +kernel
theorem dX8_was_23 : decode cX8_was 23 = .ok (.goto 5, 3) := by decide +kernel
theorem dX8_was_26 : decode cX8_was 26 = .ok (.bipush (-2), 2) := by decide +kernel
theorem dX8_was_28 : decode cX8_was 28 = .ok (.ireturn, 1) := by decide +kernel
theorem dX8_askOf_0 : decode cX8_askOf 0 = .ok (.aload_n 0, 1) := by decide +kernel
theorem dX8_askOf_1 : decode cX8_askOf 1 = .ok (.iload_n 1, 1) := by decide +kernel
theorem dX8_askOf_2 : decode cX8_askOf 2 = .ok (.iconst 0, 1) := by decide +kernel
theorem dX8_askOf_3 : decode cX8_askOf 3 = .ok (.invokevirtual 305, 3) := by decide +kernel
theorem dX8_askOf_6 : decode cX8_askOf 6 = .ok (.istore_n 2, 1) := by decide +kernel
theorem dX8_askOf_7 : decode cX8_askOf 7 = .ok (.iconst (-1), 1) := by decide +kernel
theorem dX8_askOf_8 : decode cX8_askOf 8 = .ok (.istore_n 3, 1) := by decide +kernel
theorem dX8_askOf_9 : decode cX8_askOf 9 = .ok (.iconst 0, 1) := by decide +kernel
theorem dX8_askOf_10 : decode cX8_askOf 10 = .ok (.istore 4, 2) := by decide +kernel
theorem dX8_askOf_12 : decode cX8_askOf 12 = .ok (.iconst 0, 1) := by decide +kernel
theorem dX8_askOf_13 : decode cX8_askOf 13 = .ok (.istore 5, 2) := by decide +kernel
theorem dX8_askOf_15 : decode cX8_askOf 15 = .ok (.iload 5, 2) := by decide +kernel
theorem dX8_askOf_17 : decode cX8_askOf 17 = .ok (.aload_n 0, 1) := by decide +kernel
theorem dX8_askOf_18 : decode cX8_askOf 18 = .ok (.getfield 147, 3) := by decide +kernel
theorem dX8_askOf_21 : decode cX8_askOf 21 = .ok (.if_icmp .ge 167, 3) := by decide +kernel
theorem dX8_askOf_24 : decode cX8_askOf 24 = .ok (.iconst 0, 1) := by decide +kernel
theorem dX8_askOf_25 : decode cX8_askOf 25 = .ok (.istore 6, 2) := by decide +kernel
theorem dX8_askOf_27 : decode cX8_askOf 27 = .ok (.iconst 0, 1) := by decide +kernel
theorem dX8_askOf_28 : decode cX8_askOf 28 = .ok (.istore 7, 2) := by decide +kernel
theorem dX8_askOf_30 : decode cX8_askOf 30 = .ok (.iload 7, 2) := by decide +kernel
theorem dX8_askOf_32 : decode cX8_askOf 32 = .ok (.bipush 10, 2) := by decide +kernel
theorem dX8_askOf_34 : decode cX8_askOf 34 = .ok (.if_icmp .ge 103, 3) := by decide +kernel
theorem dX8_askOf_37 : decode cX8_askOf 37 = .ok (.iconst 0, 1) := by decide +kernel
theorem dX8_askOf_38 : decode cX8_askOf 38 = .ok (.istore 8, 2) := by decide +kernel
theorem dX8_askOf_40 : decode cX8_askOf 40 = .ok (.iconst 0, 1) := by decide +kernel
theorem dX8_askOf_41 : decode cX8_askOf 41 = .ok (.istore 9, 2) := by decide +kernel
theorem dX8_askOf_43 : decode cX8_askOf 43 = .ok (.iload 9, 2) := by decide +kernel
theorem dX8_askOf_45 : decode cX8_askOf 45 = .ok (.bipush 10, 2) := by decide +kernel
theorem dX8_askOf_47 : decode cX8_askOf 47 = .ok (.if_icmp .ge 68, 3) := by decide +kernel
theorem dX8_askOf_50 : decode cX8_askOf 50 = .ok (.iload 8, 2) := by decide +kernel
theorem dX8_askOf_52 : decode cX8_askOf 52 = .ok (.iload_n 2, 1) := by decide +kernel
theorem dX8_askOf_53 : decode cX8_askOf 53 = .ok (.i2l, 1) := by decide +kernel
theorem dX8_askOf_54 : decode cX8_askOf 54 = .ok (.iload 7, 2) := by decide +kernel
theorem dX8_askOf_56 : decode cX8_askOf 56 = .ok (.invokestatic 196, 3) := by decide +kernel
theorem dX8_askOf_59 : decode cX8_askOf 59 = .ok (.ifCond .eq 46, 3) := by decide +kernel
theorem dX8_askOf_62 : decode cX8_askOf 62 = .ok (.iload_n 2, 1) := by decide +kernel
theorem dX8_askOf_63 : decode cX8_askOf 63 = .ok (.i2l, 1) := by decide +kernel
theorem dX8_askOf_64 : decode cX8_askOf 64 = .ok (.iload 9, 2) := by decide +kernel
theorem dX8_askOf_66 : decode cX8_askOf 66 = .ok (.invokestatic 196, 3) := by decide +kernel
theorem dX8_askOf_69 : decode cX8_askOf 69 = .ok (.ifCond .eq 36, 3) := by decide +kernel
theorem dX8_askOf_72 : decode cX8_askOf 72 = .ok (.aload_n 0, 1) := by decide +kernel
theorem dX8_askOf_73 : decode cX8_askOf 73 = .ok (.getfield 98, 3) := by decide +kernel
theorem dX8_askOf_76 : decode cX8_askOf 76 = .ok (.bipush 8, 2) := by decide +kernel
theorem dX8_askOf_78 : decode cX8_askOf 78 = .ok (.iload 7, 2) := by decide +kernel
theorem dX8_askOf_80 : decode cX8_askOf 80 = .ok (.imul, 1) := by decide +kernel
theorem dX8_askOf_81 : decode cX8_askOf 81 = .ok (.iload 5, 2) := by decide +kernel
theorem dX8_askOf_83 : decode cX8_askOf 83 = .ok (.iadd, 1) := by decide +kernel
theorem dX8_askOf_84 : decode cX8_askOf 84 = .ok (.iaload, 1) := by decide +kernel
theorem dX8_askOf_85 : decode cX8_askOf 85 = .ok (.aload_n 0, 1) := by decide +kernel
theorem dX8_askOf_86 : decode cX8_askOf 86 = .ok (.getfield 98, 3) := by decide +kernel
theorem dX8_askOf_89 : decode cX8_askOf 89 = .ok (.bipush 8, 2) := by decide +kernel
theorem dX8_askOf_91 : decode cX8_askOf 91 = .ok (.iload 9, 2) := by decide +kernel
theorem dX8_askOf_93 : decode cX8_askOf 93 = .ok (.imul, 1) := by decide +kernel
theorem dX8_askOf_94 : decode cX8_askOf 94 = .ok (.iload 5, 2) := by decide +kernel
theorem dX8_askOf_96 : decode cX8_askOf 96 = .ok (.iadd, 1) := by decide +kernel
theorem dX8_askOf_97 : decode cX8_askOf 97 = .ok (.iaload, 1) := by decide +kernel
theorem dX8_askOf_98 : decode cX8_askOf 98 = .ok (.if_icmp .ne 7, 3) := by decide +kernel
theorem dX8_askOf_101 : decode cX8_askOf 101 = .ok (.iconst 1, 1) := by decide +kernel
theorem dX8_askOf_102 : decode cX8_askOf 102 = .ok (.goto 4, 3) := by decide +kernel
theorem dX8_askOf_105 : decode cX8_askOf 105 = .ok (.iconst 0, 1) := by decide +kernel
theorem dX8_askOf_106 : decode cX8_askOf 106 = .ok (.iadd, 1) := by decide +kernel
theorem dX8_askOf_107 : decode cX8_askOf 107 = .ok (.istore 8, 2) := by decide +kernel
theorem dX8_askOf_109 : decode cX8_askOf 109 = .ok (.iinc 9 1, 3) := by decide +kernel
theorem dX8_askOf_112 : decode cX8_askOf 112 = .ok (.goto (-69), 3) := by decide +kernel
theorem dX8_askOf_115 : decode cX8_askOf 115 = .ok (.iload 8, 2) := by decide +kernel
theorem dX8_askOf_117 : decode cX8_askOf 117 = .ok (.iload 6, 2) := by decide +kernel
theorem dX8_askOf_119 : decode cX8_askOf 119 = .ok (.if_icmp .le 8, 3) := by decide +kernel
theorem dX8_askOf_122 : decode cX8_askOf 122 = .ok (.iload 8, 2) := by decide +kernel
theorem dX8_askOf_124 : decode cX8_askOf 124 = .ok (.goto 5, 3) := by decide +kernel
theorem dX8_askOf_127 : decode cX8_askOf 127 = .ok (.iload 6, 2) := by decide +kernel
theorem dX8_askOf_129 : decode cX8_askOf 129 = .ok (.istore 6, 2) := by decide +kernel
theorem dX8_askOf_131 : decode cX8_askOf 131 = .ok (.iinc 7 1, 3) := by decide +kernel
theorem dX8_askOf_134 : decode cX8_askOf 134 = .ok (.goto (-104), 3) := by decide +kernel
theorem dX8_askOf_137 : decode cX8_askOf 137 = .ok (.iload_n 3, 1) := by decide +kernel
theorem dX8_askOf_138 : decode cX8_askOf 138 = .ok (.iconst (-1), 1) := by decide +kernel
theorem dX8_askOf_139 : decode cX8_askOf 139 = .ok (.if_icmp .eq 10, 3) := by decide +kernel
theorem dX8_askOf_142 : decode cX8_askOf 142 = .ok (.iload 6, 2) := by decide +kernel
theorem dX8_askOf_144 : decode cX8_askOf 144 = .ok (.iload 4, 2) := by decide +kernel
theorem dX8_askOf_146 : decode cX8_askOf 146 = .ok (.if_icmp .ge 7, 3) := by decide +kernel
theorem dX8_askOf_149 : decode cX8_askOf 149 = .ok (.iconst 1, 1) := by decide +kernel
theorem dX8_askOf_150 : decode cX8_askOf 150 = .ok (.goto 4, 3) := by decide +kernel
theorem dX8_askOf_153 : decode cX8_askOf 153 = .ok (.iconst 0, 1) := by decide +kernel
theorem dX8_askOf_154 : decode cX8_askOf 154 = .ok (.istore 7, 2) := by decide +kernel
theorem dX8_askOf_156 : decode cX8_askOf 156 = .ok (.iload 7, 2) := by decide +kernel
theorem dX8_askOf_158 : decode cX8_askOf 158 = .ok (.ifCond .eq 8, 3) := by decide +kernel
theorem dX8_askOf_161 : decode cX8_askOf 161 = .ok (.iload 5, 2) := by decide +kernel
theorem dX8_askOf_163 : decode cX8_askOf 163 = .ok (.goto 4, 3) := by decide +kernel
theorem dX8_askOf_166 : decode cX8_askOf 166 = .ok (.iload_n 3, 1) := by decide +kernel
theorem dX8_askOf_167 : decode cX8_askOf 167 = .ok (.istore_n 3, 1) := by decide +kernel
theorem dX8_askOf_168 : decode cX8_askOf 168 = .ok (.iload 7, 2) := by decide +kernel
theorem dX8_askOf_170 : decode cX8_askOf 170 = .ok (.ifCond .eq 8, 3) := by decide +kernel
theorem dX8_askOf_173 : decode cX8_askOf 173 = .ok (.iload 6, 2) := by decide +kernel
theorem dX8_askOf_175 : decode cX8_askOf 175 = .ok (.goto 5, 3) := by decide +kernel
theorem dX8_askOf_178 : decode cX8_askOf 178 = .ok (.iload 4, 2) := by decide +kernel
theorem dX8_askOf_180 : decode cX8_askOf 180 = .ok (.istore 4, 2) := by decide +kernel
theorem dX8_askOf_182 : decode cX8_askOf 182 = .ok (.iinc 5 1, 3) := by decide +kernel
theorem dX8_askOf_185 : decode cX8_askOf 185 = .ok (.goto (-170), 3) := by decide +kernel
theorem dX8_askOf_188 : decode cX8_askOf 188 = .ok (.iload_n 3, 1) := by decide +kernel
theorem dX8_askOf_189 : decode cX8_askOf 189 = .ok (.ireturn, 1) := by decide +kernel
theorem dX8_ask_0 : decode cX8_ask 0 = .ok (.aload_n 0, 1) := by decide +kernel
theorem dX8_ask_1 : decode cX8_ask 1 = .ok (.iload_n 1, 1) := by decide +kernel
theorem dX8_ask_2 : decode cX8_ask 2 = .ok (.invokevirtual 166, 3) := by decide +kernel
theorem dX8_ask_5 : decode cX8_ask 5 = .ok (.ifCond .eq 11, 3) := by decide +kernel
theorem dX8_ask_8 : decode cX8_ask 8 = .ok (.aload_n 0, 1) := by decide +kernel
theorem dX8_ask_9 : decode cX8_ask 9 = .ok (.iload_n 1, 1) := by decide +kernel
theorem dX8_ask_10 : decode cX8_ask 10 = .ok (.invokevirtual 308, 3) := by decide +kernel
theorem dX8_ask_13 : decode cX8_ask 13 = .ok (.goto 5, 3) := by decide +kernel
theorem dX8_ask_16 : decode cX8_ask 16 = .ok (.bipush (-2), 2) := by decide +kernel
theorem dX8_ask_18 : decode cX8_ask 18 = .ok (.ireturn, 1) := by decide +kernel
theorem dX8_gustOf_0 : decode cX8_gustOf 0 = .ok (.aload_n 0, 1) := by decide +kernel
theorem dX8_gustOf_1 : decode cX8_gustOf 1 = .ok (.invokevirtual 242, 3) := by decide +kernel
theorem dX8_gustOf_4 : decode cX8_gustOf 4 = .ok (.lconst 0, 1) := by decide +kernel
theorem dX8_gustOf_5 : decode cX8_gustOf 5 = .ok (.lstore 5, 2) := by decide +kernel
theorem dX8_gustOf_7 : decode cX8_gustOf 7 = .ok (.iconst 0, 1) := by decide +kernel
theorem dX8_gustOf_8 : decode cX8_gustOf 8 = .ok (.istore 7, 2) := by decide +kernel
theorem dX8_gustOf_10 : decode cX8_gustOf 10 = .ok (.iload 7, 2) := by decide +kernel
theorem dX8_gustOf_12 : decode cX8_gustOf 12 = .ok (.iconst 1, 1) := by decide +kernel
theorem dX8_gustOf_13 : decode cX8_gustOf 13 = .ok (.aload_n 0, 1) := by decide +kernel
theorem dX8_gustOf_14 : decode cX8_gustOf 14 = .ok (.getfield 181, 3) := by decide +kernel
theorem dX8_gustOf_17 : decode cX8_gustOf 17 = .ok (.ishl, 1) := by decide +kernel
theorem dX8_gustOf_18 : decode cX8_gustOf 18 = .ok (.if_icmp .ge 101, 3) := by decide +kernel
theorem dX8_gustOf_21 : decode cX8_gustOf 21 = .ok (.lconst 1, 1) := by decide +kernel
theorem dX8_gustOf_22 : decode cX8_gustOf 22 = .ok (.lstore 8, 2) := by decide +kernel
theorem dX8_gustOf_24 : decode cX8_gustOf 24 = .ok (.iconst 0, 1) := by decide +kernel
theorem dX8_gustOf_25 : decode cX8_gustOf 25 = .ok (.istore 10, 2) := by decide +kernel
theorem dX8_gustOf_27 : decode cX8_gustOf 27 = .ok (.iload 10, 2) := by decide +kernel
theorem dX8_gustOf_29 : decode cX8_gustOf 29 = .ok (.aload_n 0, 1) := by decide +kernel
theorem dX8_gustOf_30 : decode cX8_gustOf 30 = .ok (.getfield 181, 3) := by decide +kernel
theorem dX8_gustOf_33 : decode cX8_gustOf 33 = .ok (.if_icmp .ge 35, 3) := by decide +kernel
theorem dX8_gustOf_36 : decode cX8_gustOf 36 = .ok (.lload 8, 2) := by decide +kernel
theorem dX8_gustOf_38 : decode cX8_gustOf 38 = .ok (.iload 7, 2) := by decide +kernel
theorem dX8_gustOf_40 : decode cX8_gustOf 40 = .ok (.i2l, 1) := by decide +kernel
theorem dX8_gustOf_41 : decode cX8_gustOf 41 = .ok (.iload 10, 2) := by decide +kernel
theorem dX8_gustOf_43 : decode cX8_gustOf 43 = .ok (.invokestatic 196, 3) := by decide +kernel
theorem dX8_gustOf_46 : decode cX8_gustOf 46 = .ok (.ifCond .eq 11, 3) := by decide +kernel
theorem dX8_gustOf_49 : decode cX8_gustOf 49 = .ok (.bipush 16, 2) := by decide +kernel
theorem dX8_gustOf_51 : decode cX8_gustOf 51 = .ok (.iload_n 1, 1) := by decide +kernel
theorem dX8_gustOf_52 : decode cX8_gustOf 52 = .ok (.isub, 1) := by decide +kernel
theorem dX8_gustOf_53 : decode cX8_gustOf 53 = .ok (.i2l, 1) := by decide +kernel
theorem dX8_gustOf_54 : decode cX8_gustOf 54 = .ok (.goto 5, 3) := by decide +kernel
theorem dX8_gustOf_57 : decode cX8_gustOf 57 = .ok (.iload_n 1, 1) := by decide +kernel
theorem dX8_gustOf_58 : decode cX8_gustOf 58 = .ok (.i2l, 1) := by decide +kernel
theorem dX8_gustOf_59 : decode cX8_gustOf 59 = .ok (.lmul, 1) := by decide +kernel
theorem dX8_gustOf_60 : decode cX8_gustOf 60 = .ok (.lstore 8, 2) := by decide +kernel
theorem dX8_gustOf_62 : decode cX8_gustOf 62 = .ok (.iinc 10 1, 3) := by decide +kernel
theorem dX8_gustOf_65 : decode cX8_gustOf 65 = .ok (.goto (-38), 3) := by decide +kernel
theorem dX8_gustOf_68 : decode cX8_gustOf 68 = .ok (.aload_n 0, 1) := by decide +kernel
theorem dX8_gustOf_69 : decode cX8_gustOf 69 = .ok (.aload_n 0, 1) := by decide +kernel
theorem dX8_gustOf_70 : decode cX8_gustOf 70 = .ok (.iload 7, 2) := by decide +kernel
theorem dX8_gustOf_72 : decode cX8_gustOf 72 = .ok (.invokevirtual 204, 3) := by decide +kernel
theorem dX8_gustOf_75 : decode cX8_gustOf 75 = .ok (.putfield 208, 3) := by decide +kernel
theorem dX8_gustOf_78 : decode cX8_gustOf 78 = .ok (.aload_n 0, 1) := by decide +kernel
theorem dX8_gustOf_79 : decode cX8_gustOf 79 = .ok (.invokevirtual 245, 3) := by decide +kernel
theorem dX8_gustOf_82 : decode cX8_gustOf 82 = .ok (.lload 5, 2) := by decide +kernel
theorem dX8_gustOf_84 : decode cX8_gustOf 84 = .ok (.aload_n 0, 1) := by decide +kernel
theorem dX8_gustOf_85 : decode cX8_gustOf 85 = .ok (.getfield 62, 3) := by decide +kernel
theorem dX8_gustOf_88 : decode cX8_gustOf 88 = .ok (.iload_n 2, 1) := by decide +kernel
theorem dX8_gustOf_89 : decode cX8_gustOf 89 = .ok (.iaload, 1) := by decide +kernel
theorem dX8_gustOf_90 : decode cX8_gustOf 90 = .ok (.iconst (-1), 1) := by decide +kernel
theorem dX8_gustOf_91 : decode cX8_gustOf 91 = .ok (.if_icmp .eq 18, 3) := by decide +kernel
theorem dX8_gustOf_94 : decode cX8_gustOf 94 = .ok (.aload_n 0, 1) := by decide +kernel
theorem dX8_gustOf_95 : decode cX8_gustOf 95 = .ok (.getfield 46, 3) := by decide +kernel
theorem dX8_gustOf_98 : decode cX8_gustOf 98 = .ok (.iload_n 2, 1) := by decide +kernel
theorem dX8_gustOf_99 : decode cX8_gustOf 99 = .ok (.iaload, 1) := by decide +kernel
theorem dX8_gustOf_100 : decode cX8_gustOf 100 = .ok (.iload_n 3, 1) := by decide +kernel
theorem dX8_gustOf_101 : decode cX8_gustOf 101 = .ok (.if_icmp .lt 8, 3) := by decide +kernel
theorem dX8_gustOf_104 : decode cX8_gustOf 104 = .ok (.lload 8, 2) := by decide +kernel
theorem dX8_gustOf_106 : decode cX8_gustOf 106 = .ok (.goto 4, 3) := by decide +kernel
theorem dX8_gustOf_109 : decode cX8_gustOf 109 = .ok (.lconst 0, 1) := by decide +kernel
theorem dX8_gustOf_110 : decode cX8_gustOf 110 = .ok (.ladd, 1) := by decide +kernel
theorem dX8_gustOf_111 : decode cX8_gustOf 111 = .ok (.lstore 5, 2) := by decide +kernel
theorem dX8_gustOf_113 : decode cX8_gustOf 113 = .ok (.iinc 7 1, 3) := by decide +kernel
theorem dX8_gustOf_116 : decode cX8_gustOf 116 = .ok (.goto (-106), 3) := by decide +kernel
theorem dX8_gustOf_119 : decode cX8_gustOf 119 = .ok (.lload 5, 2) := by decide +kernel
theorem dX8_gustOf_121 : decode cX8_gustOf 121 = .ok (.lconst 1, 1) := by decide +kernel
theorem dX8_gustOf_122 : decode cX8_gustOf 122 = .ok (.iconst 4, 1) := by decide +kernel
theorem dX8_gustOf_123 : decode cX8_gustOf 123 = .ok (.aload_n 0, 1) := by decide +kernel
theorem dX8_gustOf_124 : decode cX8_gustOf 124 = .ok (.getfield 181, 3) := by decide +kernel
theorem dX8_gustOf_127 : decode cX8_gustOf 127 = .ok (.imul, 1) := by decide +kernel
theorem dX8_gustOf_128 : decode cX8_gustOf 128 = .ok (.lshl, 1) := by decide +kernel
theorem dX8_gustOf_129 : decode cX8_gustOf 129 = .ok (.iload 4, 2) := by decide +kernel
theorem dX8_gustOf_131 : decode cX8_gustOf 131 = .ok (.invokestatic 311, 3) := by decide +kernel
theorem dX8_gustOf_134 : decode cX8_gustOf 134 = .ok (.lreturn, 1) := by decide +kernel
theorem dX8_gust_0 : decode cX8_gust 0 = .ok (.iload_n 1, 1) := by decide +kernel
theorem dX8_gust_1 : decode cX8_gust 1 = .ok (.iconst 0, 1) := by decide +kernel
theorem dX8_gust_2 : decode cX8_gust 2 = .ok (.bipush 16, 2) := by decide +kernel
theorem dX8_gust_4 : decode cX8_gust 4 = .ok (.invokestatic 125, 3) := by decide +kernel
theorem dX8_gust_7 : decode cX8_gust 7 = .ok (.ifCond .eq 43, 3) := by decide +kernel
theorem dX8_gust_10 : decode cX8_gust 10 = .ok (.aload_n 0, 1) := by decide +kernel
theorem dX8_gust_11 : decode cX8_gust 11 = .ok (.iload_n 2, 1) := by decide +kernel
theorem dX8_gust_12 : decode cX8_gust 12 = .ok (.invokevirtual 172, 3) := by decide +kernel
theorem dX8_gust_15 : decode cX8_gust 15 = .ok (.ifCond .eq 35, 3) := by decide +kernel
theorem dX8_gust_18 : decode cX8_gust 18 = .ok (.iload_n 3, 1) := by decide +kernel
theorem dX8_gust_19 : decode cX8_gust 19 = .ok (.iconst 0, 1) := by decide +kernel
theorem dX8_gust_20 : decode cX8_gust 20 = .ok (.bipush 99, 2) := by decide +kernel
theorem dX8_gust_22 : decode cX8_gust 22 = .ok (.invokestatic 125, 3) := by decide +kernel
theorem dX8_gust_25 : decode cX8_gust 25 = .ok (.ifCond .eq 25, 3) := by decide +kernel
theorem dX8_gust_28 : decode cX8_gust 28 = .ok (.iload 4, 2) := by decide +kernel
theorem dX8_gust_30 : decode cX8_gust 30 = .ok (.iconst 0, 1) := by decide +kernel
theorem dX8_gust_31 : decode cX8_gust 31 = .ok (.iconst 1, 1) := by decide +kernel
theorem dX8_gust_32 : decode cX8_gust 32 = .ok (.invokestatic 125, 3) := by decide +kernel
theorem dX8_gust_35 : decode cX8_gust 35 = .ok (.ifCond .eq 15, 3) := by decide +kernel
theorem dX8_gust_38 : decode cX8_gust 38 = .ok (.aload_n 0, 1) := by decide +kernel
theorem dX8_gust_39 : decode cX8_gust 39 = .ok (.iload_n 1, 1) := by decide +kernel
theorem dX8_gust_40 : decode cX8_gust 40 = .ok (.iload_n 2, 1) := by decide +kernel
theorem dX8_gust_41 : decode cX8_gust 41 = .ok (.iload_n 3, 1) := by decide +kernel
theorem dX8_gust_42 : decode cX8_gust 42 = .ok (.iload 4, 2) := by decide +kernel
theorem dX8_gust_44 : decode cX8_gust 44 = .ok (.invokevirtual 315, 3) := by decide +kernel
theorem dX8_gust_47 : decode cX8_gust 47 = .ok (.goto 8, 3) := by decide +kernel
theorem dX8_gust_50 : decode cX8_gust 50 = .ok (.bipush (-2), 2) := by decide +kernel
theorem dX8_gust_52 : decode cX8_gust 52 = .ok (.invokestatic 319, 3) := by decide +kernel
theorem dX8_gust_55 : decode cX8_gust 55 = .ok (.lreturn, 1) := by decide +kernel
theorem dX8_bitesAll_0 : decode cX8_bitesAll 0 = .ok (.iconst 0, 1) := by decide +kernel
theorem dX8_bitesAll_1 : decode cX8_bitesAll 1 = .ok (.istore_n 1, 1) := by decide +kernel
theorem dX8_bitesAll_2 : decode cX8_bitesAll 2 = .ok (.iconst 0, 1) := by decide +kernel
theorem dX8_bitesAll_3 : decode cX8_bitesAll 3 = .ok (.istore_n 2, 1) := by decide +kernel
theorem dX8_bitesAll_4 : decode cX8_bitesAll 4 = .ok (.iload_n 2, 1) := by decide +kernel
theorem dX8_bitesAll_5 : decode cX8_bitesAll 5 = .ok (.aload_n 0, 1) := by decide +kernel
theorem dX8_bitesAll_6 : decode cX8_bitesAll 6 = .ok (.getfield 144, 3) := by decide +kernel
theorem dX8_bitesAll_9 : decode cX8_bitesAll 9 = .ok (.if_icmp .ge 18, 3) := by decide +kernel
theorem dX8_bitesAll_12 : decode cX8_bitesAll 12 = .ok (.iload_n 1, 1) := by decide +kernel
theorem dX8_bitesAll_13 : decode cX8_bitesAll 13 = .ok (.aload_n 0, 1) := by decide +kernel
theorem dX8_bitesAll_14 : decode cX8_bitesAll 14 = .ok (.getfield 68, 3) := by decide +kernel
theorem dX8_bitesAll_17 : decode cX8_bitesAll 17 = .ok (.iload_n 2, 1) := by decide +kernel
theorem dX8_bitesAll_18 : decode cX8_bitesAll 18 = .ok (.iaload, 1) := by decide +kernel
theorem dX8_bitesAll_19 : decode cX8_bitesAll 19 = .ok (.iadd, 1) := by decide +kernel
theorem dX8_bitesAll_20 : decode cX8_bitesAll 20 = .ok (.istore_n 1, 1) := by decide +kernel
theorem dX8_bitesAll_21 : decode cX8_bitesAll 21 = .ok (.iinc 2 1, 3) := by decide +kernel
theorem dX8_bitesAll_24 : decode cX8_bitesAll 24 = .ok (.goto (-20), 3) := by decide +kernel
theorem dX8_bitesAll_27 : decode cX8_bitesAll 27 = .ok (.iload_n 1, 1) := by decide +kernel
theorem dX8_bitesAll_28 : decode cX8_bitesAll 28 = .ok (.ireturn, 1) := by decide +kernel
theorem dX8_weekOf_0 : decode cX8_weekOf 0 = .ok (.aload_n 0, 1) := by decide +kernel
theorem dX8_weekOf_1 : decode cX8_weekOf 1 = .ok (.invokevirtual 242, 3) := by decide +kernel
theorem dX8_weekOf_4 : decode cX8_weekOf 4 = .ok (.iload_n 1, 1) := by decide +kernel
theorem dX8_weekOf_5 : decode cX8_weekOf 5 = .ok (.istore 4, 2) := by decide +kernel
theorem dX8_weekOf_7 : decode cX8_weekOf 7 = .ok (.aload_n 0, 1) := by decide +kernel
theorem dX8_weekOf_8 : decode cX8_weekOf 8 = .ok (.lconst 0, 1) := by decide +kernel
theorem dX8_weekOf_9 : decode cX8_weekOf 9 = .ok (.putfield 212, 3) := by decide +kernel
theorem dX8_weekOf_12 : decode cX8_weekOf 12 = .ok (.iconst 0, 1) := by decide +kernel
theorem dX8_weekOf_13 : decode cX8_weekOf 13 = .ok (.istore 5, 2) := by decide +kernel
theorem dX8_weekOf_15 : decode cX8_weekOf 15 = .ok (.iload 5, 2) := by decide +kernel
theorem dX8_weekOf_17 : decode cX8_weekOf 17 = .ok (.iload_n 2, 1) := by decide +kernel
theorem dX8_weekOf_18 : decode cX8_weekOf 18 = .ok (.if_icmp .ge 40, 3) := by decide +kernel
theorem dX8_weekOf_21 : decode cX8_weekOf 21 = .ok (.ldc_w 322, 3) := by decide +kernel
theorem dX8_weekOf_24 : decode cX8_weekOf 24 = .ok (.iload 4, 2) := by decide +kernel
theorem dX8_weekOf_26 : decode cX8_weekOf 26 = .ok (.imul, 1) := by decide +kernel
theorem dX8_weekOf_27 : decode cX8_weekOf 27 = .ok (.sipush 12345, 3) := by decide +kernel
theorem dX8_weekOf_30 : decode cX8_weekOf 30 = .ok (.iadd, 1) := by decide +kernel
theorem dX8_weekOf_31 : decode cX8_weekOf 31 = .ok (.istore 4, 2) := by decide +kernel
theorem dX8_weekOf_33 : decode cX8_weekOf 33 = .ok (.aload_n 0, 1) := by decide +kernel
theorem dX8_weekOf_34 : decode cX8_weekOf 34 = .ok (.aload_n 0, 1) := by decide +kernel
theorem dX8_weekOf_35 : decode cX8_weekOf 35 = .ok (.getfield 212, 3) := by decide +kernel
theorem dX8_weekOf_38 : decode cX8_weekOf 38 = .ok (.iload 4, 2) := by decide +kernel
theorem dX8_weekOf_40 : decode cX8_weekOf 40 = .ok (.bipush 16, 2) := by decide +kernel
theorem dX8_weekOf_42 : decode cX8_weekOf 42 = .ok (.iushr, 1) := by decide +kernel
theorem dX8_weekOf_43 : decode cX8_weekOf 43 = .ok (.bipush 40, 2) := by decide +kernel
theorem dX8_weekOf_45 : decode cX8_weekOf 45 = .ok (.irem, 1) := by decide +kernel
theorem dX8_weekOf_46 : decode cX8_weekOf 46 = .ok (.invokestatic 200, 3) := by decide +kernel
theorem dX8_weekOf_49 : decode cX8_weekOf 49 = .ok (.putfield 212, 3) := by decide +kernel
theorem dX8_weekOf_52 : decode cX8_weekOf 52 = .ok (.iinc 5 1, 3) := by decide +kernel
theorem dX8_weekOf_55 : decode cX8_weekOf 55 = .ok (.goto (-40), 3) := by decide +kernel
theorem dX8_weekOf_58 : decode cX8_weekOf 58 = .ok (.aload_n 0, 1) := by decide +kernel
theorem dX8_weekOf_59 : decode cX8_weekOf 59 = .ok (.invokevirtual 245, 3) := by decide +kernel
theorem dX8_weekOf_62 : decode cX8_weekOf 62 = .ok (.iload_n 3, 1) := by decide +kernel
theorem dX8_weekOf_63 : decode cX8_weekOf 63 = .ok (.ifCond .ne 10, 3) := by decide +kernel
theorem dX8_weekOf_66 : decode cX8_weekOf 66 = .ok (.aload_n 0, 1) := by decide +kernel
theorem dX8_weekOf_67 : decode cX8_weekOf 67 = .ok (.invokevirtual 264, 3) := by decide +kernel
theorem dX8_weekOf_70 : decode cX8_weekOf 70 = .ok (.goto 7, 3) := by decide +kernel
theorem dX8_weekOf_73 : decode cX8_weekOf 73 = .ok (.aload_n 0, 1) := by decide +kernel
theorem dX8_weekOf_74 : decode cX8_weekOf 74 = .ok (.invokevirtual 323, 3) := by decide +kernel
theorem dX8_weekOf_77 : decode cX8_weekOf 77 = .ok (.ireturn, 1) := by decide +kernel
theorem dX8_week_0 : decode cX8_week 0 = .ok (.iload_n 2, 1) := by decide +kernel
theorem dX8_week_1 : decode cX8_week 1 = .ok (.iconst 0, 1) := by decide +kernel
theorem dX8_week_2 : decode cX8_week 2 = .ok (.bipush 6, 2) := by decide +kernel
theorem dX8_week_4 : decode cX8_week 4 = .ok (.invokestatic 125, 3) := by decide +kernel
theorem dX8_week_7 : decode cX8_week 7 = .ok (.ifCond .eq 22, 3) := by decide +kernel
theorem dX8_week_10 : decode cX8_week 10 = .ok (.iload_n 3, 1) := by decide +kernel
theorem dX8_week_11 : decode cX8_week 11 = .ok (.iconst 0, 1) := by decide +kernel
theorem dX8_week_12 : decode cX8_week 12 = .ok (.iconst 1, 1) := by decide +kernel
theorem dX8_week_13 : decode cX8_week 13 = .ok (.invokestatic 125, 3) := by decide +kernel
theorem dX8_week_16 : decode cX8_week 16 = .ok (.ifCond .eq 13, 3) := by decide +kernel
theorem dX8_week_19 : decode cX8_week 19 = .ok (.aload_n 0, 1) := by decide +kernel
theorem dX8_week_20 : decode cX8_week 20 = .ok (.iload_n 1, 1) := by decide +kernel
theorem dX8_week_21 : decode cX8_week 21 = .ok (.iload_n 2, 1) := by decide +kernel
theorem dX8_week_22 : decode cX8_week 22 = .ok (.iload_n 3, 1) := by decide +kernel
theorem dX8_week_23 : decode cX8_week 23 = .ok (.invokevirtual 326, 3) := by decide +kernel
theorem dX8_week_26 : decode cX8_week 26 = .ok (.goto 5, 3) := by decide +kernel
theorem dX8_week_29 : decode cX8_week 29 = .ok (.bipush (-2), 2) := by decide +kernel
theorem dX8_week_31 : decode cX8_week 31 = .ok (.ireturn, 1) := by decide +kernel
theorem dX8_meets_0 : decode cX8_meets 0 = .ok (.aload_n 0, 1) := by decide +kernel
theorem dX8_meets_1 : decode cX8_meets 1 = .ok (.iload_n 1, 1) := by decide +kernel
theorem dX8_meets_2 : decode cX8_meets 2 = .ok (.putfield 329, 3) := by decide +kernel
theorem dX8_meets_5 : decode cX8_meets 5 = .ok (.bipush (-10), 2) := by decide +kernel
theorem dX8_meets_7 : decode cX8_meets 7 = .ok (.iload_n 1, 1) := by decide +kernel
theorem dX8_meets_8 : decode cX8_meets 8 = .ok (.isub, 1) := by decide +kernel
theorem dX8_meets_9 : decode cX8_meets 9 = .ok (.ireturn, 1) := by decide +kernel
theorem dX8_isSheet_0 : decode cX8_isSheet 0 = .ok (.iload_n 0, 1) := by decide +kernel
theorem dX8_isSheet_1 : decode cX8_isSheet 1 = .ok (.iconst 0, 1) := by decide +kernel
theorem dX8_isSheet_2 : decode cX8_isSheet 2 = .ok (.iconst 3, 1) := by decide +kernel
theorem dX8_isSheet_3 : decode cX8_isSheet 3 = .ok (.invokestatic 125, 3) := by decide +kernel
theorem dX8_isSheet_6 : decode cX8_isSheet 6 = .ok (.ireturn, 1) := by decide +kernel
theorem dX8_sheet_0 : decode cX8_sheet 0 = .ok (.iload_n 1, 1) := by decide +kernel
theorem dX8_sheet_1 : decode cX8_sheet 1 = .ok (.invokestatic 187, 3) := by decide +kernel
theorem dX8_sheet_4 : decode cX8_sheet 4 = .ok (.ifCond .eq 18, 3) := by decide +kernel
theorem dX8_sheet_7 : decode cX8_sheet 7 = .ok (.iload_n 2, 1) := by decide +kernel
theorem dX8_sheet_8 : decode cX8_sheet 8 = .ok (.iconst 0, 1) := by decide +kernel
theorem dX8_sheet_9 : decode cX8_sheet 9 = .ok (.iconst 2, 1) := by decide +kernel
theorem dX8_sheet_10 : decode cX8_sheet 10 = .ok (.invokestatic 125, 3) := by decide +kernel
theorem dX8_sheet_13 : decode cX8_sheet 13 = .ok (.ifCond .eq 9, 3) := by decide +kernel
theorem dX8_sheet_16 : decode cX8_sheet 16 = .ok (.iload_n 3, 1) := by decide +kernel
theorem dX8_sheet_17 : decode cX8_sheet 17 = .ok (.bipush 60, 2) := by decide +kernel
theorem dX8_sheet_19 : decode cX8_sheet 19 = .ok (.if_icmp .le 6, 3) := by decide +kernel
theorem dX8_sheet_22 : decode cX8_sheet 22 = .ok (.bipush (-2), 2) := by decide +kernel
theorem dX8_sheet_24 : decode cX8_sheet 24 = .ok (.ireturn, 1) := by decide +kernel
theorem dX8_sheet_25 : decode cX8_sheet 25 = .ok (.iload_n 3, 1) := by decide +kernel
theorem dX8_sheet_26 : decode cX8_sheet 26 = .ok (.ifCond .ge 9, 3) := by decide +kernel
theorem dX8_sheet_29 : decode cX8_sheet 29 = .ok (.aload_n 0, 1) := by decide +kernel
theorem dX8_sheet_30 : decode cX8_sheet 30 = .ok (.iconst 5, 1) := by decide +kernel
theorem dX8_sheet_31 : decode cX8_sheet 31 = .ok (.invokevirtual 190, 3) := by decide +kernel
theorem dX8_sheet_34 : decode cX8_sheet 34 = .ok (.ireturn, 1) := by decide +kernel
theorem dX8_sheet_35 : decode cX8_sheet 35 = .ok (.aload_n 0, 1) := by decide +kernel
theorem dX8_sheet_36 : decode cX8_sheet 36 = .ok (.getfield 101, 3) := by decide +kernel
theorem dX8_sheet_39 : decode cX8_sheet 39 = .ok (.iload_n 1, 1) := by decide +kernel
theorem dX8_sheet_40 : decode cX8_sheet 40 = .ok (.iconst 1, 1) := by decide +kernel
theorem dX8_sheet_41 : decode cX8_sheet 41 = .ok (.bastore, 1) := by decide +kernel
theorem dX8_sheet_42 : decode cX8_sheet 42 = .ok (.aload_n 0, 1) := by decide +kernel
theorem dX8_sheet_43 : decode cX8_sheet 43 = .ok (.getfield 104, 3) := by decide +kernel
theorem dX8_sheet_46 : decode cX8_sheet 46 = .ok (.iload_n 1, 1) := by decide +kernel
theorem dX8_sheet_47 : decode cX8_sheet 47 = .ok (.iload_n 2, 1) := by decide +kernel
theorem dX8_sheet_48 : decode cX8_sheet 48 = .ok (.iastore, 1) := by decide +kernel
theorem dX8_sheet_49 : decode cX8_sheet 49 = .ok (.aload_n 0, 1) := by decide +kernel
theorem dX8_sheet_50 : decode cX8_sheet 50 = .ok (.getfield 107, 3) := by decide +kernel
theorem dX8_sheet_53 : decode cX8_sheet 53 = .ok (.iload_n 1, 1) := by decide +kernel
theorem dX8_sheet_54 : decode cX8_sheet 54 = .ok (.iload_n 3, 1) := by decide +kernel
theorem dX8_sheet_55 : decode cX8_sheet 55 = .ok (.iastore, 1) := by decide +kernel
theorem dX8_sheet_56 : decode cX8_sheet 56 = .ok (.iconst 0, 1) := by decide +kernel
theorem dX8_sheet_57 : decode cX8_sheet 57 = .ok (.istore 4, 2) := by decide +kernel
theorem dX8_sheet_59 : decode cX8_sheet 59 = .ok (.iload 4, 2) := by decide +kernel
theorem dX8_sheet_61 : decode cX8_sheet 61 = .ok (.bipush 60, 2) := by decide +kernel
theorem dX8_sheet_63 : decode cX8_sheet 63 = .ok (.if_icmp .ge 22, 3) := by decide +kernel
theorem dX8_sheet_66 : decode cX8_sheet 66 = .ok (.aload_n 0, 1) := by decide +kernel
theorem dX8_sheet_67 : decode cX8_sheet 67 = .ok (.getfield 110, 3) := by decide +kernel
theorem dX8_sheet_70 : decode cX8_sheet 70 = .ok (.bipush 60, 2) := by decide +kernel
theorem dX8_sheet_72 : decode cX8_sheet 72 = .ok (.iload_n 1, 1) := by decide +kernel
theorem dX8_sheet_73 : decode cX8_sheet 73 = .ok (.imul, 1) := by decide +kernel
theorem dX8_sheet_74 : decode cX8_sheet 74 = .ok (.iload 4, 2) := by decide +kernel
theorem dX8_sheet_76 : decode cX8_sheet 76 = .ok (.iadd, 1) := by decide +kernel
theorem dX8_sheet_77 : decode cX8_sheet 77 = .ok (.iconst 0, 1) := by decide +kernel
theorem dX8_sheet_78 : decode cX8_sheet 78 = .ok (.iastore, 1) := by decide +kernel
theorem dX8_sheet_79 : decode cX8_sheet 79 = .ok (.iinc 4 1, 3) := by decide +kernel
theorem dX8_sheet_82 : decode cX8_sheet 82 = .ok (.goto (-23), 3) := by decide +kernel
theorem dX8_sheet_85 : decode cX8_sheet 85 = .ok (.iload_n 3, 1) := by decide +kernel
theorem dX8_sheet_86 : decode cX8_sheet 86 = .ok (.ireturn, 1) := by decide +kernel
theorem dX8_lose_0 : decode cX8_lose 0 = .ok (.iload_n 1, 1) := by decide +kernel
theorem dX8_lose_1 : decode cX8_lose 1 = .ok (.invokestatic 187, 3) := by decide +kernel
theorem dX8_lose_4 : decode cX8_lose 4 = .ok (.ifCond .ne 6, 3) := by decide +kernel
theorem dX8_lose_7 : decode cX8_lose 7 = .ok (.bipush (-2), 2) := by decide +kernel
theorem dX8_lose_9 : decode cX8_lose 9 = .ok (.ireturn, 1) := by decide +kernel
theorem dX8_lose_10 : decode cX8_lose 10 = .ok (.aload_n 0, 1) := by decide +kernel
theorem dX8_lose_11 : decode cX8_lose 11 = .ok (.getfield 101, 3) := by decide +kernel
theorem dX8_lose_14 : decode cX8_lose 14 = .ok (.iload_n 1, 1) := by decide +kernel
theorem dX8_lose_15 : decode cX8_lose 15 = .ok (.baload, 1) := by decide +kernel
theorem dX8_lose_16 : decode cX8_lose 16 = .ok (.ifCond .ne 9, 3) := by decide +kernel
theorem dX8_lose_19 : decode cX8_lose 19 = .ok (.aload_n 0, 1) := by decide +kernel
theorem dX8_lose_20 : decode cX8_lose 20 = .ok (.iconst 1, 1) := by decide +kernel
theorem dX8_lose_21 : decode cX8_lose 21 = .ok (.invokevirtual 190, 3) := by decide +kernel
theorem dX8_lose_24 : decode cX8_lose 24 = .ok (.ireturn, 1) := by decide +kernel
theorem dX8_lose_25 : decode cX8_lose 25 = .ok (.aload_n 0, 1) := by decide +kernel
theorem dX8_lose_26 : decode cX8_lose 26 = .ok (.getfield 101, 3) := by decide +kernel
theorem dX8_lose_29 : decode cX8_lose 29 = .ok (.iload_n 1, 1) := by decide +kernel
theorem dX8_lose_30 : decode cX8_lose 30 = .ok (.iconst 0, 1) := by decide +kernel
theorem dX8_lose_31 : decode cX8_lose 31 = .ok (.bastore, 1) := by decide +kernel
theorem dX8_lose_32 : decode cX8_lose 32 = .ok (.aload_n 0, 1) := by decide +kernel
theorem dX8_lose_33 : decode cX8_lose 33 = .ok (.getfield 107, 3) := by decide +kernel
theorem dX8_lose_36 : decode cX8_lose 36 = .ok (.iload_n 1, 1) := by decide +kernel
theorem dX8_lose_37 : decode cX8_lose 37 = .ok (.iaload, 1) := by decide +kernel
theorem dX8_lose_38 : decode cX8_lose 38 = .ok (.ireturn, 1) := by decide +kernel
theorem dX8_lacks_0 : decode cX8_lacks 0 = .ok (.aload_n 0, 1) := by decide +kernel
theorem dX8_lacks_1 : decode cX8_lacks 1 = .ok (.getfield 101, 3) := by decide +kernel
theorem dX8_lacks_4 : decode cX8_lacks 4 = .ok (.iload_n 1, 1) := by decide +kernel
theorem dX8_lacks_5 : decode cX8_lacks 5 = .ok (.baload, 1) := by decide +kernel
theorem dX8_lacks_6 : decode cX8_lacks 6 = .ok (.ifCond .ne 7, 3) := by decide +kernel
theorem dX8_lacks_9 : decode cX8_lacks 9 = .ok (.iconst 1, 1) := by decide +kernel
theorem dX8_lacks_10 : decode cX8_lacks 10 = .ok (.goto 38, 3) := by decide +kernel
theorem dX8_lacks_13 : decode cX8_lacks 13 = .ok (.aload_n 0, 1) := by decide +kernel
theorem dX8_lacks_14 : decode cX8_lacks 14 = .ok (.getfield 104, 3) := by decide +kernel
theorem dX8_lacks_17 : decode cX8_lacks 17 = .ok (.iload_n 1, 1) := by decide +kernel
theorem dX8_lacks_18 : decode cX8_lacks 18 = .ok (.iaload, 1) := by decide +kernel
theorem dX8_lacks_19 : decode cX8_lacks 19 = .ok (.iload_n 2, 1) := by decide +kernel
theorem dX8_lacks_20 : decode cX8_lacks 20 = .ok (.if_icmp .eq 7, 3) := by decide +kernel
theorem dX8_lacks_23 : decode cX8_lacks 23 = .ok (.iconst 3, 1) := by decide +kernel
theorem dX8_lacks_24 : decode cX8_lacks 24 = .ok (.goto 24, 3) := by decide +kernel
theorem dX8_lacks_27 : decode cX8_lacks 27 = .ok (.iload_n 3, 1) := by decide +kernel
theorem dX8_lacks_28 : decode cX8_lacks 28 = .ok (.iconst 0, 1) := by decide +kernel
theorem dX8_lacks_29 : decode cX8_lacks 29 = .ok (.aload_n 0, 1) := by decide +kernel
theorem dX8_lacks_30 : decode cX8_lacks 30 = .ok (.getfield 107, 3) := by decide +kernel
theorem dX8_lacks_33 : decode cX8_lacks 33 = .ok (.iload_n 1, 1) := by decide +kernel
theorem dX8_lacks_34 : decode cX8_lacks 34 = .ok (.iaload, 1) := by decide +kernel
theorem dX8_lacks_35 : decode cX8_lacks 35 = .ok (.iconst 1, 1) := by decide +kernel
theorem dX8_lacks_36 : decode cX8_lacks 36 = .ok (.isub, 1) := by decide +kernel
theorem dX8_lacks_37 : decode cX8_lacks 37 = .ok (.invokestatic 125, 3) := by decide +kernel
theorem dX8_lacks_40 : decode cX8_lacks 40 = .ok (.ifCond .eq 7, 3) := by decide +kernel
theorem dX8_lacks_43 : decode cX8_lacks 43 = .ok (.iconst 0, 1) := by decide +kernel
theorem dX8_lacks_44 : decode cX8_lacks 44 = .ok (.goto 4, 3) := by decide +kernel
theorem dX8_lacks_47 : decode cX8_lacks 47 = .ok (.iconst 2, 1) := by decide +kernel
theorem dX8_lacks_48 : decode cX8_lacks 48 = .ok (.ireturn, 1) := by decide +kernel
theorem dX8_keep_0 : decode cX8_keep 0 = .ok (.aload_n 0, 1) := by decide +kernel
theorem dX8_keep_1 : decode cX8_keep 1 = .ok (.getfield 110, 3) := by decide +kernel
theorem dX8_keep_4 : decode cX8_keep 4 = .ok (.bipush 60, 2) := by decide +kernel
theorem dX8_keep_6 : decode cX8_keep 6 = .ok (.iload_n 1, 1) := by decide +kernel
theorem dX8_keep_7 : decode cX8_keep 7 = .ok (.imul, 1) := by decide +kernel
theorem dX8_keep_8 : decode cX8_keep 8 = .ok (.iload_n 2, 1) := by decide +kernel
theorem dX8_keep_9 : decode cX8_keep 9 = .ok (.iadd, 1) := by decide +kernel
theorem dX8_keep_10 : decode cX8_keep 10 = .ok (.aload_n 0, 1) := by decide +kernel
theorem dX8_keep_11 : decode cX8_keep 11 = .ok (.getfield 104, 3) := by decide +kernel
theorem dX8_keep_14 : decode cX8_keep 14 = .ok (.iload_n 1, 1) := by decide +kernel
theorem dX8_keep_15 : decode cX8_keep 15 = .ok (.iaload, 1) := by decide +kernel
theorem dX8_keep_16 : decode cX8_keep 16 = .ok (.ifCond .ne 8, 3) := by decide +kernel
theorem dX8_keep_19 : decode cX8_keep 19 = .ok (.iload_n 3, 1) := by decide +kernel
theorem dX8_keep_20 : decode cX8_keep 20 = .ok (.i2b, 1) := by decide +kernel
theorem dX8_keep_21 : decode cX8_keep 21 = .ok (.goto 19, 3) := by decide +kernel
theorem dX8_keep_24 : decode cX8_keep 24 = .ok (.aload_n 0, 1) := by decide +kernel
theorem dX8_keep_25 : decode cX8_keep 25 = .ok (.getfield 104, 3) := by decide +kernel
theorem dX8_keep_28 : decode cX8_keep 28 = .ok (.iload_n 1, 1) := by decide +kernel
theorem dX8_keep_29 : decode cX8_keep 29 = .ok (.iaload, 1) := by decide +kernel
theorem dX8_keep_30 : decode cX8_keep 30 = .ok (.iconst 1, 1) := by decide +kernel
theorem dX8_keep_31 : decode cX8_keep 31 = .ok (.if_icmp .ne 8, 3) := by decide +kernel
theorem dX8_keep_34 : decode cX8_keep 34 = .ok (.iload_n 3, 1) := by decide +kernel
theorem dX8_keep_35 : decode cX8_keep 35 = .ok (.i2s, 1) := by decide +kernel
theorem dX8_keep_36 : decode cX8_keep 36 = .ok (.goto 4, 3) := by decide +kernel
theorem dX8_keep_39 : decode cX8_keep 39 = .ok (.iload_n 3, 1) := by decide +kernel
theorem dX8_keep_40 : decode cX8_keep 40 = .ok (.iastore, 1) := by decide +kernel
theorem dX8_keep_41 : decode cX8_keep 41 = .ok (.return_, 1) := by decide +kernel
theorem dX8_put_0 : decode cX8_put 0 = .ok (.iload_n 1, 1) := by decide +kernel
theorem dX8_put_1 : decode cX8_put 1 = .ok (.invokestatic 187, 3) := by decide +kernel
theorem dX8_put_4 : decode cX8_put 4 = .ok (.ifCond .eq 12, 3) := by decide +kernel
theorem dX8_put_7 : decode cX8_put 7 = .ok (.iload_n 2, 1) := by decide +kernel
theorem dX8_put_8 : decode cX8_put 8 = .ok (.iconst 0, 1) := by decide +kernel
theorem dX8_put_9 : decode cX8_put 9 = .ok (.iconst 2, 1) := by decide +kernel
theorem dX8_put_10 : decode cX8_put 10 = .ok (.invokestatic 125, 3) := by decide +kernel
theorem dX8_put_13 : decode cX8_put 13 = .ok (.ifCond .ne 6, 3) := by decide +kernel
theorem dX8_put_16 : decode cX8_put 16 = .ok (.bipush (-2), 2) := by decide +kernel
theorem dX8_put_18 : decode cX8_put 18 = .ok (.ireturn, 1) := by decide +kernel
theorem dX8_put_19 : decode cX8_put 19 = .ok (.aload_n 0, 1) := by decide +kernel
theorem dX8_put_20 : decode cX8_put 20 = .ok (.iload_n 1, 1) := by decide +kernel
theorem dX8_put_21 : decode cX8_put 21 = .ok (.iload_n 2, 1) := by decide +kernel
theorem dX8_put_22 : decode cX8_put 22 = .ok (.iload_n 3, 1) := by decide +kernel
theorem dX8_put_23 : decode cX8_put 23 = .ok (.invokevirtual 332, 3) := by decide +kernel
theorem dX8_put_26 : decode cX8_put 26 = .ok (.istore 5, 2) := by decide +kernel
theorem dX8_put_28 : decode cX8_put 28 = .ok (.iload 5, 2) := by decide +kernel
theorem dX8_put_30 : decode cX8_put 30 = .ok (.ifCond .le 10, 3) := by decide +kernel
theorem dX8_put_33 : decode cX8_put 33 = .ok (.aload_n 0, 1) := by decide +kernel
theorem dX8_put_34 : decode cX8_put 34 = .ok (.iload 5, 2) := by decide +kernel
theorem dX8_put_36 : decode cX8_put 36 = .ok (.invokevirtual 190, 3) := by decide +kernel
theorem dX8_put_39 : decode cX8_put 39 = .ok (.ireturn, 1) := by decide +kernel
theorem dX8_put_40 : decode cX8_put 40 = .ok (.aload_n 0, 1) := by decide +kernel
theorem dX8_put_41 : decode cX8_put 41 = .ok (.iload_n 1, 1) := by decide +kernel
theorem dX8_put_42 : decode cX8_put 42 = .ok (.iload_n 3, 1) := by decide +kernel
theorem dX8_put_43 : decode cX8_put 43 = .ok (.iload 4, 2) := by decide +kernel
theorem dX8_put_45 : decode cX8_put 45 = .ok (.invokevirtual 335, 3) := by decide +kernel
theorem dX8_put_48 : decode cX8_put 48 = .ok (.iconst 1, 1) := by decide +kernel
theorem dX8_put_49 : decode cX8_put 49 = .ok (.ireturn, 1) := by decide +kernel
theorem dX8_get_0 : decode cX8_get 0 = .ok (.iload_n 1, 1) := by decide +kernel
theorem dX8_get_1 : decode cX8_get 1 = .ok (.invokestatic 187, 3) := by decide +kernel
theorem dX8_get_4 : decode cX8_get 4 = .ok (.ifCond .eq 12, 3) := by decide +kernel
theorem dX8_get_7 : decode cX8_get 7 = .ok (.iload_n 2, 1) := by decide +kernel
theorem dX8_get_8 : decode cX8_get 8 = .ok (.iconst 0, 1) := by decide +kernel
theorem dX8_get_9 : decode cX8_get 9 = .ok (.iconst 2, 1) := by decide +kernel
theorem dX8_get_10 : decode cX8_get 10 = .ok (.invokestatic 125, 3) := by decide +kernel
theorem dX8_get_13 : decode cX8_get 13 = .ok (.ifCond .ne 7, 3) := by decide +kernel
theorem dX8_get_16 : decode cX8_get 16 = .ok (.ldc_w 338, 3) := by decide +kernel
theorem dX8_get_19 : decode cX8_get 19 = .ok (.ireturn, 1) := by decide +kernel
theorem dX8_get_20 : decode cX8_get 20 = .ok (.aload_n 0, 1) := by decide +kernel
theorem dX8_get_21 : decode cX8_get 21 = .ok (.iload_n 1, 1) := by decide +kernel
theorem dX8_get_22 : decode cX8_get 22 = .ok (.iload_n 2, 1) := by decide +kernel
theorem dX8_get_23 : decode cX8_get 23 = .ok (.iload_n 3, 1) := by decide +kernel
theorem dX8_get_24 : decode cX8_get 24 = .ok (.invokevirtual 332, 3) := by decide +kernel
theorem dX8_get_27 : decode cX8_get 27 = .ok (.istore 4, 2) := by decide +kernel
theorem dX8_get_29 : decode cX8_get 29 = .ok (.iload 4, 2) := by decide +kernel
theorem dX8_get_31 : decode cX8_get 31 = .ok (.ifCond .le 13, 3) := by decide +kernel
theorem dX8_get_34 : decode cX8_get 34 = .ok (.aload_n 0, 1) := by decide +kernel
theorem dX8_get_35 : decode cX8_get 35 = .ok (.iload 4, 2) := by decide +kernel
theorem dX8_get_37 : decode cX8_get 37 = .ok (.putfield 329, 3) := by decide +kernel
theorem dX8_get_40 : decode cX8_get 40 = .ok (.ldc_w 338, 3) := by decide +kernel
theorem dX8_get_43 : decode cX8_get 43 = .ok (.ireturn, 1) := by decide +kernel
theorem dX8_get_44 : decode cX8_get 44 = .ok (.aload_n 0, 1) := by decide +kernel
theorem dX8_get_45 : decode cX8_get 45 = .ok (.getfield 110, 3) := by decide +kernel
theorem dX8_get_48 : decode cX8_get 48 = .ok (.bipush 60, 2) := by decide +kernel
theorem dX8_get_50 : decode cX8_get 50 = .ok (.iload_n 1, 1) := by decide +kernel
theorem dX8_get_51 : decode cX8_get 51 = .ok (.imul, 1) := by decide +kernel
theorem dX8_get_52 : decode cX8_get 52 = .ok (.iload_n 3, 1) := by decide +kernel
theorem dX8_get_53 : decode cX8_get 53 = .ok (.iadd, 1) := by decide +kernel
theorem dX8_get_54 : decode cX8_get 54 = .ok (.iaload, 1) := by decide +kernel
theorem dX8_get_55 : decode cX8_get 55 = .ok (.ireturn, 1) := by decide +kernel
theorem dX8_copy_0 : decode cX8_copy 0 = .ok (.iload_n 1, 1) := by decide +kernel
theorem dX8_copy_1 : decode cX8_copy 1 = .ok (.invokestatic 187, 3) := by decide +kernel
theorem dX8_copy_4 : decode cX8_copy 4 = .ok (.ifCond .eq 10, 3) := by decide +kernel
theorem dX8_copy_7 : decode cX8_copy 7 = .ok (.iload_n 3, 1) := by decide +kernel
theorem dX8_copy_8 : decode cX8_copy 8 = .ok (.invokestatic 187, 3) := by decide +kernel
theorem dX8_copy_11 : decode cX8_copy 11 = .ok (.ifCond .ne 6, 3) := by decide +kernel
theorem dX8_copy_14 : decode cX8_copy 14 = .ok (.bipush (-2), 2) := by decide +kernel
theorem dX8_copy_16 : decode cX8_copy 16 = .ok (.ireturn, 1) := by decide +kernel
theorem dX8_copy_17 : decode cX8_copy 17 = .ok (.aload_n 0, 1) := by decide +kernel
theorem dX8_copy_18 : decode cX8_copy 18 = .ok (.getfield 101, 3) := by decide +kernel
theorem dX8_copy_21 : decode cX8_copy 21 = .ok (.iload_n 1, 1) := by decide +kernel
theorem dX8_copy_22 : decode cX8_copy 22 = .ok (.baload, 1) := by decide +kernel
theorem dX8_copy_23 : decode cX8_copy 23 = .ok (.ifCond .eq 12, 3) := by decide +kernel
theorem dX8_copy_26 : decode cX8_copy 26 = .ok (.aload_n 0, 1) := by decide +kernel
theorem dX8_copy_27 : decode cX8_copy 27 = .ok (.getfield 101, 3) := by decide +kernel
theorem dX8_copy_30 : decode cX8_copy 30 = .ok (.iload_n 3, 1) := by decide +kernel
theorem dX8_copy_31 : decode cX8_copy 31 = .ok (.baload, 1) := by decide +kernel
theorem dX8_copy_32 : decode cX8_copy 32 = .ok (.ifCond .ne 9, 3) := by decide +kernel
theorem dX8_copy_35 : decode cX8_copy 35 = .ok (.aload_n 0, 1) := by decide +kernel
theorem dX8_copy_36 : decode cX8_copy 36 = .ok (.iconst 1, 1) := by decide +kernel
theorem dX8_copy_37 : decode cX8_copy 37 = .ok (.invokevirtual 190, 3) := by decide +kernel
theorem dX8_copy_40 : decode cX8_copy 40 = .ok (.ireturn, 1) := by decide +kernel
theorem dX8_copy_41 : decode cX8_copy 41 = .ok (.aload_n 0, 1) := by decide +kernel
theorem dX8_copy_42 : decode cX8_copy 42 = .ok (.getfield 104, 3) := by decide +kernel
theorem dX8_copy_45 : decode cX8_copy 45 = .ok (.iload_n 1, 1) := by decide +kernel
theorem dX8_copy_46 : decode cX8_copy 46 = .ok (.iaload, 1) := by decide +kernel
theorem dX8_copy_47 : decode cX8_copy 47 = .ok (.aload_n 0, 1) := by decide +kernel
theorem dX8_copy_48 : decode cX8_copy 48 = .ok (.getfield 104, 3) := by decide +kernel
theorem dX8_copy_51 : decode cX8_copy 51 = .ok (.iload_n 3, 1) := by decide +kernel
theorem dX8_copy_52 : decode cX8_copy 52 = .ok (.iaload, 1) := by decide +kernel
theorem dX8_copy_53 : decode cX8_copy 53 = .ok (.if_icmp .eq 9, 3) := by decide +kernel
theorem dX8_copy_56 : decode cX8_copy 56 = .ok (.aload_n 0, 1) := by decide +kernel
theorem dX8_copy_57 : decode cX8_copy 57 = .ok (.iconst 4, 1) := by decide +kernel
theorem dX8_copy_58 : decode cX8_copy 58 = .ok (.invokevirtual 190, 3) := by decide +kernel
theorem dX8_copy_61 : decode cX8_copy 61 = .ok (.ireturn, 1) := by decide +kernel
theorem dX8_copy_62 : decode cX8_copy 62 = .ok (.iload_n 2, 1) := by decide +kernel
theorem dX8_copy_63 : decode cX8_copy 63 = .ok (.ifCond .lt 48, 3) := by decide +kernel
theorem dX8_copy_66 : decode cX8_copy 66 = .ok (.iload 4, 2) := by decide +kernel
theorem dX8_copy_68 : decode cX8_copy 68 = .ok (.ifCond .lt 43, 3) := by decide +kernel
theorem dX8_copy_71 : decode cX8_copy 71 = .ok (.iload 5, 2) := by decide +kernel
theorem dX8_copy_73 : decode cX8_copy 73 = .ok (.ifCond .lt 38, 3) := by decide +kernel
theorem dX8_copy_76 : decode cX8_copy 76 = .ok (.iload_n 2, 1) := by decide +kernel
theorem dX8_copy_77 : decode cX8_copy 77 = .ok (.i2l, 1) := by decide +kernel
theorem dX8_copy_78 : decode cX8_copy 78 = .ok (.iload 5, 2) := by decide +kernel
theorem dX8_copy_80 : decode cX8_copy 80 = .ok (.i2l, 1) := by decide +kernel
theorem dX8_copy_81 : decode cX8_copy 81 = .ok (.ladd, 1) := by decide +kernel
theorem dX8_copy_82 : decode cX8_copy 82 = .ok (.aload_n 0, 1) := by decide +kernel
theorem dX8_copy_83 : decode cX8_copy 83 = .ok (.getfield 107, 3) := by decide +kernel
theorem dX8_copy_86 : decode cX8_copy 86 = .ok (.iload_n 1, 1) := by decide +kernel
theorem dX8_copy_87 : decode cX8_copy 87 = .ok (.iaload, 1) := by decide +kernel
theorem dX8_copy_88 : decode cX8_copy 88 = .ok (.i2l, 1) := by decide +kernel
theorem dX8_copy_89 : decode cX8_copy 89 = .ok (.lcmp, 1) := by decide +kernel
theorem dX8_copy_90 : decode cX8_copy 90 = .ok (.ifCond .gt 21, 3) := by decide +kernel
theorem dX8_copy_93 : decode cX8_copy 93 = .ok (.iload 4, 2) := by decide +kernel
theorem dX8_copy_95 : decode cX8_copy 95 = .ok (.i2l, 1) := by decide +kernel
theorem dX8_copy_96 : decode cX8_copy 96 = .ok (.iload 5, 2) := by decide +kernel
theorem dX8_copy_98 : decode cX8_copy 98 = .ok (.i2l, 1) := by decide +kernel
theorem dX8_copy_99 : decode cX8_copy 99 = .ok (.ladd, 1) := by decide +kernel
theorem dX8_copy_100 : decode cX8_copy 100 = .ok (.aload_n 0, 1) := by decide +kernel
theorem dX8_copy_101 : decode cX8_copy 101 = .ok (.getfield 107, 3) := by decide +kernel
theorem dX8_copy_104 : decode cX8_copy 104 = .ok (.iload_n 3, 1) := by decide +kernel
theorem dX8_copy_105 : decode cX8_copy 105 = .ok (.iaload, 1) := by decide +kernel
theorem dX8_copy_106 : decode cX8_copy 106 = .ok (.i2l, 1) := by decide +kernel
theorem dX8_copy_107 : decode cX8_copy 107 = .ok (.lcmp, 1) := by decide +kernel
theorem dX8_copy_108 : decode cX8_copy 108 = .ok (.ifCond .le 9, 3) := by decide +kernel
theorem dX8_copy_111 : decode cX8_copy 111 = .ok (.aload_n 0, 1) := by decide +kernel
theorem dX8_copy_112 : decode cX8_copy 112 = .ok (.iconst 2, 1) := by decide +kernel
theorem dX8_copy_113 : decode cX8_copy 113 = .ok (.invokevirtual 190, 3) := by decide +kernel
theorem dX8_copy_116 : decode cX8_copy 116 = .ok (.ireturn, 1) := by decide +kernel
theorem dX8_copy_117 : decode cX8_copy 117 = .ok (.iconst 0, 1) := by decide +kernel
theorem dX8_copy_118 : decode cX8_copy 118 = .ok (.istore 6, 2) := by decide +kernel
theorem dX8_copy_120 : decode cX8_copy 120 = .ok (.iload 6, 2) := by decide +kernel
theorem dX8_copy_122 : decode cX8_copy 122 = .ok (.iload 5, 2) := by decide +kernel
theorem dX8_copy_124 : decode cX8_copy 124 = .ok (.if_icmp .ge 30, 3) := by decide +kernel
theorem dX8_copy_127 : decode cX8_copy 127 = .ok (.aload_n 0, 1) := by decide +kernel
theorem dX8_copy_128 : decode cX8_copy 128 = .ok (.getfield 113, 3) := by decide +kernel
theorem dX8_copy_131 : decode cX8_copy 131 = .ok (.iload 6, 2) := by decide +kernel
theorem dX8_copy_133 : decode cX8_copy 133 = .ok (.aload_n 0, 1) := by decide +kernel
theorem dX8_copy_134 : decode cX8_copy 134 = .ok (.getfield 110, 3) := by decide +kernel
theorem dX8_copy_137 : decode cX8_copy 137 = .ok (.bipush 60, 2) := by decide +kernel
theorem dX8_copy_139 : decode cX8_copy 139 = .ok (.iload_n 1, 1) := by decide +kernel
theorem dX8_copy_140 : decode cX8_copy 140 = .ok (.imul, 1) := by decide +kernel
theorem dX8_copy_141 : decode cX8_copy 141 = .ok (.iload_n 2, 1) := by decide +kernel
theorem dX8_copy_142 : decode cX8_copy 142 = .ok (.iadd, 1) := by decide +kernel
theorem dX8_copy_143 : decode cX8_copy 143 = .ok (.iload 6, 2) := by decide +kernel
theorem dX8_copy_145 : decode cX8_copy 145 = .ok (.iadd, 1) := by decide +kernel
theorem dX8_copy_146 : decode cX8_copy 146 = .ok (.iaload, 1) := by decide +kernel
theorem dX8_copy_147 : decode cX8_copy 147 = .ok (.iastore, 1) := by decide +kernel
theorem dX8_copy_148 : decode cX8_copy 148 = .ok (.iinc 6 1, 3) := by decide +kernel
theorem dX8_copy_151 : decode cX8_copy 151 = .ok (.goto (-31), 3) := by decide +kernel
theorem dX8_copy_154 : decode cX8_copy 154 = .ok (.iconst 0, 1) := by decide +kernel
theorem dX8_copy_155 : decode cX8_copy 155 = .ok (.istore 6, 2) := by decide +kernel
theorem dX8_copy_157 : decode cX8_copy 157 = .ok (.iload 6, 2) := by decide +kernel
theorem dX8_copy_159 : decode cX8_copy 159 = .ok (.iload 5, 2) := by decide +kernel
theorem dX8_copy_161 : decode cX8_copy 161 = .ok (.if_icmp .ge 31, 3) := by decide +kernel
theorem dX8_copy_164 : decode cX8_copy 164 = .ok (.aload_n 0, 1) := by decide +kernel
theorem dX8_copy_165 : decode cX8_copy 165 = .ok (.getfield 110, 3) := by decide +kernel
theorem dX8_copy_168 : decode cX8_copy 168 = .ok (.bipush 60, 2) := by decide +kernel
theorem dX8_copy_170 : decode cX8_copy 170 = .ok (.iload_n 3, 1) := by decide +kernel
theorem dX8_copy_171 : decode cX8_copy 171 = .ok (.imul, 1) := by decide +kernel
theorem dX8_copy_172 : decode cX8_copy 172 = .ok (.iload 4, 2) := by decide +kernel
theorem dX8_copy_174 : decode cX8_copy 174 = .ok (.iadd, 1) := by decide +kernel
theorem dX8_copy_175 : decode cX8_copy 175 = .ok (.iload 6, 2) := by decide +kernel
theorem dX8_copy_177 : decode cX8_copy 177 = .ok (.iadd, 1) := by decide +kernel
theorem dX8_copy_178 : decode cX8_copy 178 = .ok (.aload_n 0, 1) := by decide +kernel
theorem dX8_copy_179 : decode cX8_copy 179 = .ok (.getfield 113, 3) := by decide +kernel
theorem dX8_copy_182 : decode cX8_copy 182 = .ok (.iload 6, 2) := by decide +kernel
theorem dX8_copy_184 : decode cX8_copy 184 = .ok (.iaload, 1) := by decide +kernel
theorem dX8_copy_185 : decode cX8_copy 185 = .ok (.iastore, 1) := by decide +kernel
theorem dX8_copy_186 : decode cX8_copy 186 = .ok (.iinc 6 1, 3) := by decide +kernel
theorem dX8_copy_189 : decode cX8_copy 189 = .ok (.goto (-32), 3) := by decide +kernel
theorem dX8_copy_192 : decode cX8_copy 192 = .ok (.iconst 1, 1) := by decide +kernel
theorem dX8_copy_193 : decode cX8_copy 193 = .ok (.ireturn, 1) := by decide +kernel
theorem dX8_write_0 : decode cX8_write 0 = .ok (.aload_n 0, 1) := by decide +kernel
theorem dX8_write_1 : decode cX8_write 1 = .ok (.iload_n 1, 1) := by decide +kernel
theorem dX8_write_2 : decode cX8_write 2 = .ok (.invokevirtual 172, 3) := by decide +kernel
theorem dX8_write_5 : decode cX8_write 5 = .ok (.ifCond .eq 10, 3) := by decide +kernel
theorem dX8_write_8 : decode cX8_write 8 = .ok (.iload_n 2, 1) := by decide +kernel
theorem dX8_write_9 : decode cX8_write 9 = .ok (.invokestatic 187, 3) := by decide +kernel
theorem dX8_write_12 : decode cX8_write 12 = .ok (.ifCond .ne 6, 3) := by decide +kernel
theorem dX8_write_15 : decode cX8_write 15 = .ok (.bipush (-2), 2) := by decide +kernel
theorem dX8_write_17 : decode cX8_write 17 = .ok (.ireturn, 1) := by decide +kernel
theorem dX8_write_18 : decode cX8_write 18 = .ok (.aload_n 0, 1) := by decide +kernel
theorem dX8_write_19 : decode cX8_write 19 = .ok (.getfield 101, 3) := by decide +kernel
theorem dX8_write_22 : decode cX8_write 22 = .ok (.iload_n 2, 1) := by decide +kernel
theorem dX8_write_23 : decode cX8_write 23 = .ok (.baload, 1) := by decide +kernel
theorem dX8_write_24 : decode cX8_write 24 = .ok (.ifCond .ne 9, 3) := by decide +kernel
theorem dX8_write_27 : decode cX8_write 27 = .ok (.aload_n 0, 1) := by decide +kernel
theorem dX8_write_28 : decode cX8_write 28 = .ok (.iconst 1, 1) := by decide +kernel
theorem dX8_write_29 : decode cX8_write 29 = .ok (.invokevirtual 190, 3) := by decide +kernel
theorem dX8_write_32 : decode cX8_write 32 = .ok (.ireturn, 1) := by decide +kernel
theorem dX8_write_33 : decode cX8_write 33 = .ok (.aload_n 0, 1) := by decide +kernel
theorem dX8_write_34 : decode cX8_write 34 = .ok (.invokevirtual 248, 3) := by decide +kernel
theorem dX8_write_37 : decode cX8_write 37 = .ok (.iconst 0, 1) := by decide +kernel
theorem dX8_write_38 : decode cX8_write 38 = .ok (.istore_n 3, 1) := by decide +kernel
theorem dX8_write_39 : decode cX8_write 39 = .ok (.iload_n 3, 1) := by decide +kernel
theorem dX8_write_40 : decode cX8_write 40 = .ok (.aload_n 0, 1) := by decide +kernel
theorem dX8_write_41 : decode cX8_write 41 = .ok (.getfield 107, 3) := by decide +kernel
theorem dX8_write_44 : decode cX8_write 44 = .ok (.iload_n 2, 1) := by decide +kernel
theorem dX8_write_45 : decode cX8_write 45 = .ok (.iaload, 1) := by decide +kernel
theorem dX8_write_46 : decode cX8_write 46 = .ok (.if_icmp .ge 36, 3) := by decide +kernel
theorem dX8_write_49 : decode cX8_write 49 = .ok (.iload_n 3, 1) := by decide +kernel
theorem dX8_write_50 : decode cX8_write 50 = .ok (.aload_n 0, 1) := by decide +kernel
theorem dX8_write_51 : decode cX8_write 51 = .ok (.getfield 49, 3) := by decide +kernel
theorem dX8_write_54 : decode cX8_write 54 = .ok (.iload_n 1, 1) := by decide +kernel
theorem dX8_write_55 : decode cX8_write 55 = .ok (.iaload, 1) := by decide +kernel
theorem dX8_write_56 : decode cX8_write 56 = .ok (.if_icmp .ge 26, 3) := by decide +kernel
theorem dX8_write_59 : decode cX8_write 59 = .ok (.aload_n 0, 1) := by decide +kernel
theorem dX8_write_60 : decode cX8_write 60 = .ok (.iload_n 2, 1) := by decide +kernel
theorem dX8_write_61 : decode cX8_write 61 = .ok (.iload_n 3, 1) := by decide +kernel
theorem dX8_write_62 : decode cX8_write 62 = .ok (.aload_n 0, 1) := by decide +kernel
theorem dX8_write_63 : decode cX8_write 63 = .ok (.getfield 52, 3) := by decide +kernel
theorem dX8_write_66 : decode cX8_write 66 = .ok (.bipush 24, 2) := by decide +kernel
theorem dX8_write_68 : decode cX8_write 68 = .ok (.iload_n 1, 1) := by decide +kernel
theorem dX8_write_69 : decode cX8_write 69 = .ok (.imul, 1) := by decide +kernel
theorem dX8_write_70 : decode cX8_write 70 = .ok (.iload_n 3, 1) := by decide +kernel
theorem dX8_write_71 : decode cX8_write 71 = .ok (.iadd, 1) := by decide +kernel
theorem dX8_write_72 : decode cX8_write 72 = .ok (.iaload, 1) := by decide +kernel
theorem dX8_write_73 : decode cX8_write 73 = .ok (.invokevirtual 335, 3) := by decide +kernel
theorem dX8_write_76 : decode cX8_write 76 = .ok (.iinc 3 1, 3) := by decide +kernel
theorem dX8_write_79 : decode cX8_write 79 = .ok (.goto (-40), 3) := by decide +kernel
theorem dX8_write_82 : decode cX8_write 82 = .ok (.iload_n 3, 1) := by decide +kernel
theorem dX8_write_83 : decode cX8_write 83 = .ok (.ireturn, 1) := by decide +kernel
theorem dX8_sumOf_0 : decode cX8_sumOf 0 = .ok (.aload_n 0, 1) := by decide +kernel
theorem dX8_sumOf_1 : decode cX8_sumOf 1 = .ok (.invokevirtual 248, 3) := by decide +kernel
theorem dX8_sumOf_4 : decode cX8_sumOf 4 = .ok (.iload_n 1, 1) := by decide +kernel
theorem dX8_sumOf_5 : decode cX8_sumOf 5 = .ok (.ifCond .ne 10, 3) := by decide +kernel
theorem dX8_sumOf_8 : decode cX8_sumOf 8 = .ok (.aload_n 0, 1) := by decide +kernel
theorem dX8_sumOf_9 : decode cX8_sumOf 9 = .ok (.getfield 144, 3) := by decide +kernel
theorem dX8_sumOf_12 : decode cX8_sumOf 12 = .ok (.goto 19, 3) := by decide +kernel
theorem dX8_sumOf_15 : decode cX8_sumOf 15 = .ok (.iload_n 1, 1) := by decide +kernel
theorem dX8_sumOf_16 : decode cX8_sumOf 16 = .ok (.iconst 1, 1) := by decide +kernel
theorem dX8_sumOf_17 : decode cX8_sumOf 17 = .ok (.if_icmp .ne 10, 3) := by decide +kernel
theorem dX8_sumOf_20 : decode cX8_sumOf 20 = .ok (.aload_n 0, 1) := by decide +kernel
theorem dX8_sumOf_21 : decode cX8_sumOf 21 = .ok (.getfield 147, 3) := by decide +kernel
theorem dX8_sumOf_24 : decode cX8_sumOf 24 = .ok (.goto 7, 3) := by decide +kernel
theorem dX8_sumOf_27 : decode cX8_sumOf 27 = .ok (.aload_n 0, 1) := by decide +kernel
theorem dX8_sumOf_28 : decode cX8_sumOf 28 = .ok (.invokevirtual 323, 3) := by decide +kernel
theorem dX8_sumOf_31 : decode cX8_sumOf 31 = .ok (.ireturn, 1) := by decide +kernel
theorem dX8_count_0 : decode cX8_count 0 = .ok (.iload_n 1, 1) := by decide +kernel
theorem dX8_count_1 : decode cX8_count 1 = .ok (.tableswitch 86 0 8 #[51, 51, 57, 57, 66, 71, 51, 76, 81], 51) := by decide +kernel
theorem dX8_count_52 : decode cX8_count 52 = .ok (.aload_n 0, 1) := by decide +kernel
theorem dX8_count_53 : decode cX8_count 53 = .ok (.iload_n 1, 1) := by decide +kernel
theorem dX8_count_54 : decode cX8_count 54 = .ok (.invokevirtual 339, 3) := by decide +kernel
theorem dX8_count_57 : decode cX8_count 57 = .ok (.ireturn, 1) := by decide +kernel
theorem dX8_count_58 : decode cX8_count 58 = .ok (.aload_n 0, 1) := by decide +kernel
theorem dX8_count_59 : decode cX8_count 59 = .ok (.getfield 7, 3) := by decide +kernel
theorem dX8_count_62 : decode cX8_count 62 = .ok (.iload_n 1, 1) := by decide +kernel
theorem dX8_count_63 : decode cX8_count 63 = .ok (.iconst 2, 1) := by decide +kernel
theorem dX8_count_64 : decode cX8_count 64 = .ok (.isub, 1) := by decide +kernel
theorem dX8_count_65 : decode cX8_count 65 = .ok (.iaload, 1) := by decide +kernel
theorem dX8_count_66 : decode cX8_count 66 = .ok (.ireturn, 1) := by decide +kernel
theorem dX8_count_67 : decode cX8_count 67 = .ok (.aload_n 0, 1) := by decide +kernel
theorem dX8_count_68 : decode cX8_count 68 = .ok (.getfield 181, 3) := by decide +kernel
theorem dX8_count_71 : decode cX8_count 71 = .ok (.ireturn, 1) := by decide +kernel
theorem dX8_count_72 : decode cX8_count 72 = .ok (.aload_n 0, 1) := by decide +kernel
theorem dX8_count_73 : decode cX8_count 73 = .ok (.getfield 184, 3) := by decide +kernel
theorem dX8_count_76 : decode cX8_count 76 = .ok (.ireturn, 1) := by decide +kernel
theorem dX8_count_77 : decode cX8_count 77 = .ok (.aload_n 0, 1) := by decide +kernel
theorem dX8_count_78 : decode cX8_count 78 = .ok (.getfield 295, 3) := by decide +kernel
theorem dX8_count_81 : decode cX8_count 81 = .ok (.ireturn, 1) := by decide +kernel
theorem dX8_count_82 : decode cX8_count 82 = .ok (.aload_n 0, 1) := by decide +kernel
theorem dX8_count_83 : decode cX8_count 83 = .ok (.getfield 329, 3) := by decide +kernel
theorem dX8_count_86 : decode cX8_count 86 = .ok (.ireturn, 1) := by decide +kernel
theorem dX8_count_87 : decode cX8_count 87 = .ok (.bipush (-2), 2) := by decide +kernel
theorem dX8_count_89 : decode cX8_count 89 = .ok (.ireturn, 1) := by decide +kernel
theorem dX8_floorDigest_0 : decode cX8_floorDigest 0 = .ok (.lload_n 1, 1) := by decide +kernel
theorem dX8_floorDigest_1 : decode cX8_floorDigest 1 = .ok (.lstore 4, 2) := by decide +kernel
theorem dX8_floorDigest_3 : decode cX8_floorDigest 3 = .ok (.iconst 0, 1) := by decide +kernel
theorem dX8_floorDigest_4 : decode cX8_floorDigest 4 = .ok (.istore 6, 2) := by decide +kernel
theorem dX8_floorDigest_6 : decode cX8_floorDigest 6 = .ok (.iload 6, 2) := by decide +kernel
theorem dX8_floorDigest_8 : decode cX8_floorDigest 8 = .ok (.iconst 3, 1) := by decide +kernel
theorem dX8_floorDigest_9 : decode cX8_floorDigest 9 = .ok (.if_icmp .ge 26, 3) := by decide +kernel
theorem dX8_floorDigest_12 : decode cX8_floorDigest 12 = .ok (.ldc2_w 342, 3) := by decide +kernel
theorem dX8_floorDigest_15 : decode cX8_floorDigest 15 = .ok (.lload 4, 2) := by decide +kernel
theorem dX8_floorDigest_17 : decode cX8_floorDigest 17 = .ok (.lmul, 1) := by decide +kernel
theorem dX8_floorDigest_18 : decode cX8_floorDigest 18 = .ok (.aload_n 0, 1) := by decide +kernel
theorem dX8_floorDigest_19 : decode cX8_floorDigest 19 = .ok (.iload_n 3, 1) := by decide +kernel
theorem dX8_floorDigest_20 : decode cX8_floorDigest 20 = .ok (.iload 6, 2) := by decide +kernel
theorem dX8_floorDigest_22 : decode cX8_floorDigest 22 = .ok (.invokevirtual 169, 3) := by decide +kernel
theorem dX8_floorDigest_25 : decode cX8_floorDigest 25 = .ok (.i2l, 1) := by decide +kernel
theorem dX8_floorDigest_26 : decode cX8_floorDigest 26 = .ok (.ladd, 1) := by decide +kernel
theorem dX8_floorDigest_27 : decode cX8_floorDigest 27 = .ok (.lstore 4, 2) := by decide +kernel
theorem dX8_floorDigest_29 : decode cX8_floorDigest 29 = .ok (.iinc 6 1, 3) := by decide +kernel
theorem dX8_floorDigest_32 : decode cX8_floorDigest 32 = .ok (.goto (-26), 3) := by decide +kernel
theorem dX8_floorDigest_35 : decode cX8_floorDigest 35 = .ok (.ldc2_w 342, 3) := by decide +kernel
theorem dX8_floorDigest_38 : decode cX8_floorDigest 38 = .ok (.lload 4, 2) := by decide +kernel
theorem dX8_floorDigest_40 : decode cX8_floorDigest 40 = .ok (.lmul, 1) := by decide +kernel
theorem dX8_floorDigest_41 : decode cX8_floorDigest 41 = .ok (.aload_n 0, 1) := by decide +kernel
theorem dX8_floorDigest_42 : decode cX8_floorDigest 42 = .ok (.iload_n 3, 1) := by decide +kernel
theorem dX8_floorDigest_43 : decode cX8_floorDigest 43 = .ok (.iconst 0, 1) := by decide +kernel
theorem dX8_floorDigest_44 : decode cX8_floorDigest 44 = .ok (.invokevirtual 261, 3) := by decide +kernel
theorem dX8_floorDigest_47 : decode cX8_floorDigest 47 = .ok (.i2l, 1) := by decide +kernel
theorem dX8_floorDigest_48 : decode cX8_floorDigest 48 = .ok (.ladd, 1) := by decide +kernel
theorem dX8_floorDigest_49 : decode cX8_floorDigest 49 = .ok (.lstore 4, 2) := by decide +kernel
theorem dX8_floorDigest_51 : decode cX8_floorDigest 51 = .ok (.ldc2_w 342, 3) := by decide +kernel
theorem dX8_floorDigest_54 : decode cX8_floorDigest 54 = .ok (.lload 4, 2) := by decide +kernel
theorem dX8_floorDigest_56 : decode cX8_floorDigest 56 = .ok (.lmul, 1) := by decide +kernel
theorem dX8_floorDigest_57 : decode cX8_floorDigest 57 = .ok (.aload_n 0, 1) := by decide +kernel
theorem dX8_floorDigest_58 : decode cX8_floorDigest 58 = .ok (.iload_n 3, 1) := by decide +kernel
theorem dX8_floorDigest_59 : decode cX8_floorDigest 59 = .ok (.iconst 1, 1) := by decide +kernel
theorem dX8_floorDigest_60 : decode cX8_floorDigest 60 = .ok (.invokevirtual 261, 3) := by decide +kernel
theorem dX8_floorDigest_63 : decode cX8_floorDigest 63 = .ok (.i2l, 1) := by decide +kernel
theorem dX8_floorDigest_64 : decode cX8_floorDigest 64 = .ok (.ladd, 1) := by decide +kernel
theorem dX8_floorDigest_65 : decode cX8_floorDigest 65 = .ok (.lstore 4, 2) := by decide +kernel
theorem dX8_floorDigest_67 : decode cX8_floorDigest 67 = .ok (.ldc2_w 342, 3) := by decide +kernel
theorem dX8_floorDigest_70 : decode cX8_floorDigest 70 = .ok (.lload 4, 2) := by decide +kernel
theorem dX8_floorDigest_72 : decode cX8_floorDigest 72 = .ok (.lmul, 1) := by decide +kernel
theorem dX8_floorDigest_73 : decode cX8_floorDigest 73 = .ok (.aload_n 0, 1) := by decide +kernel
theorem dX8_floorDigest_74 : decode cX8_floorDigest 74 = .ok (.iload_n 3, 1) := by decide +kernel
theorem dX8_floorDigest_75 : decode cX8_floorDigest 75 = .ok (.iconst 0, 1) := by decide +kernel
theorem dX8_floorDigest_76 : decode cX8_floorDigest 76 = .ok (.invokevirtual 305, 3) := by decide +kernel
theorem dX8_floorDigest_79 : decode cX8_floorDigest 79 = .ok (.i2l, 1) := by decide +kernel
theorem dX8_floorDigest_80 : decode cX8_floorDigest 80 = .ok (.ladd, 1) := by decide +kernel
theorem dX8_floorDigest_81 : decode cX8_floorDigest 81 = .ok (.lstore 4, 2) := by decide +kernel
theorem dX8_floorDigest_83 : decode cX8_floorDigest 83 = .ok (.ldc2_w 342, 3) := by decide +kernel
theorem dX8_floorDigest_86 : decode cX8_floorDigest 86 = .ok (.lload 4, 2) := by decide +kernel
theorem dX8_floorDigest_88 : decode cX8_floorDigest 88 = .ok (.lmul, 1) := by decide +kernel
theorem dX8_floorDigest_89 : decode cX8_floorDigest 89 = .ok (.aload_n 0, 1) := by decide +kernel
theorem dX8_floorDigest_90 : decode cX8_floorDigest 90 = .ok (.iload_n 3, 1) := by decide +kernel
theorem dX8_floorDigest_91 : decode cX8_floorDigest 91 = .ok (.iconst 1, 1) := by decide +kernel
theorem dX8_floorDigest_92 : decode cX8_floorDigest 92 = .ok (.invokevirtual 305, 3) := by decide +kernel
theorem dX8_floorDigest_95 : decode cX8_floorDigest 95 = .ok (.i2l, 1) := by decide +kernel
theorem dX8_floorDigest_96 : decode cX8_floorDigest 96 = .ok (.ladd, 1) := by decide +kernel
theorem dX8_floorDigest_97 : decode cX8_floorDigest 97 = .ok (.lstore 4, 2) := by decide +kernel
theorem dX8_floorDigest_99 : decode cX8_floorDigest 99 = .ok (.ldc2_w 342, 3) := by decide +kernel
theorem dX8_floorDigest_102 : decode cX8_floorDigest 102 = .ok (.lload 4, 2) := by decide +kernel
theorem dX8_floorDigest_104 : decode cX8_floorDigest 104 = .ok (.lmul, 1) := by decide +kernel
theorem dX8_floorDigest_105 : decode cX8_floorDigest 105 = .ok (.aload_n 0, 1) := by decide +kernel
theorem dX8_floorDigest_106 : decode cX8_floorDigest 106 = .ok (.iload_n 3, 1) := by decide +kernel
theorem dX8_floorDigest_107 : decode cX8_floorDigest 107 = .ok (.invokevirtual 308, 3) := by decide +kernel
theorem dX8_floorDigest_110 : decode cX8_floorDigest 110 = .ok (.i2l, 1) := by decide +kernel
theorem dX8_floorDigest_111 : decode cX8_floorDigest 111 = .ok (.ladd, 1) := by decide +kernel
theorem dX8_floorDigest_112 : decode cX8_floorDigest 112 = .ok (.lreturn, 1) := by decide +kernel
theorem dX8_hourDigest_0 : decode cX8_hourDigest 0 = .ok (.lload_n 1, 1) := by decide +kernel
theorem dX8_hourDigest_1 : decode cX8_hourDigest 1 = .ok (.lstore 5, 2) := by decide +kernel
theorem dX8_hourDigest_3 : decode cX8_hourDigest 3 = .ok (.iconst 0, 1) := by decide +kernel
theorem dX8_hourDigest_4 : decode cX8_hourDigest 4 = .ok (.istore 7, 2) := by decide +kernel
theorem dX8_hourDigest_6 : decode cX8_hourDigest 6 = .ok (.iload 7, 2) := by decide +kernel
theorem dX8_hourDigest_8 : decode cX8_hourDigest 8 = .ok (.iconst 4, 1) := by decide +kernel
theorem dX8_hourDigest_9 : decode cX8_hourDigest 9 = .ok (.if_icmp .ge 28, 3) := by decide +kernel
theorem dX8_hourDigest_12 : decode cX8_hourDigest 12 = .ok (.ldc2_w 342, 3) := by decide +kernel
theorem dX8_hourDigest_15 : decode cX8_hourDigest 15 = .ok (.lload 5, 2) := by decide +kernel
theorem dX8_hourDigest_17 : decode cX8_hourDigest 17 = .ok (.lmul, 1) := by decide +kernel
theorem dX8_hourDigest_18 : decode cX8_hourDigest 18 = .ok (.aload_n 0, 1) := by decide +kernel
theorem dX8_hourDigest_19 : decode cX8_hourDigest 19 = .ok (.iload_n 3, 1) := by decide +kernel
theorem dX8_hourDigest_20 : decode cX8_hourDigest 20 = .ok (.iload 4, 2) := by decide +kernel
theorem dX8_hourDigest_22 : decode cX8_hourDigest 22 = .ok (.iload 7, 2) := by decide +kernel
theorem dX8_hourDigest_24 : decode cX8_hourDigest 24 = .ok (.invokevirtual 251, 3) := by decide +kernel
theorem dX8_hourDigest_27 : decode cX8_hourDigest 27 = .ok (.i2l, 1) := by decide +kernel
theorem dX8_hourDigest_28 : decode cX8_hourDigest 28 = .ok (.ladd, 1) := by decide +kernel
theorem dX8_hourDigest_29 : decode cX8_hourDigest 29 = .ok (.lstore 5, 2) := by decide +kernel
theorem dX8_hourDigest_31 : decode cX8_hourDigest 31 = .ok (.iinc 7 1, 3) := by decide +kernel
theorem dX8_hourDigest_34 : decode cX8_hourDigest 34 = .ok (.goto (-28), 3) := by decide +kernel
theorem dX8_hourDigest_37 : decode cX8_hourDigest 37 = .ok (.lload 5, 2) := by decide +kernel
theorem dX8_hourDigest_39 : decode cX8_hourDigest 39 = .ok (.lreturn, 1) := by decide +kernel
theorem dX8_basketDigest_0 : decode cX8_basketDigest 0 = .ok (.lload_n 1, 1) := by decide +kernel
theorem dX8_basketDigest_1 : decode cX8_basketDigest 1 = .ok (.lstore 4, 2) := by decide +kernel
theorem dX8_basketDigest_3 : decode cX8_basketDigest 3 = .ok (.iconst 0, 1) := by decide +kernel
theorem dX8_basketDigest_4 : decode cX8_basketDigest 4 = .ok (.istore 6, 2) := by decide +kernel
theorem dX8_basketDigest_6 : decode cX8_basketDigest 6 = .ok (.iload 6, 2) := by decide +kernel
theorem dX8_basketDigest_8 : decode cX8_basketDigest 8 = .ok (.bipush 6, 2) := by decide +kernel
theorem dX8_basketDigest_10 : decode cX8_basketDigest 10 = .ok (.if_icmp .ge 26, 3) := by decide +kernel
theorem dX8_basketDigest_13 : decode cX8_basketDigest 13 = .ok (.ldc2_w 342, 3) := by decide +kernel
theorem dX8_basketDigest_16 : decode cX8_basketDigest 16 = .ok (.lload 4, 2) := by decide +kernel
theorem dX8_basketDigest_18 : decode cX8_basketDigest 18 = .ok (.lmul, 1) := by decide +kernel
theorem dX8_basketDigest_19 : decode cX8_basketDigest 19 = .ok (.aload_n 0, 1) := by decide +kernel
theorem dX8_basketDigest_20 : decode cX8_basketDigest 20 = .ok (.iload_n 3, 1) := by decide +kernel
theorem dX8_basketDigest_21 : decode cX8_basketDigest 21 = .ok (.iload 6, 2) := by decide +kernel
theorem dX8_basketDigest_23 : decode cX8_basketDigest 23 = .ok (.invokevirtual 175, 3) := by decide +kernel
theorem dX8_basketDigest_26 : decode cX8_basketDigest 26 = .ok (.i2l, 1) := by decide +kernel
theorem dX8_basketDigest_27 : decode cX8_basketDigest 27 = .ok (.ladd, 1) := by decide +kernel
theorem dX8_basketDigest_28 : decode cX8_basketDigest 28 = .ok (.lstore 4, 2) := by decide +kernel
theorem dX8_basketDigest_30 : decode cX8_basketDigest 30 = .ok (.iinc 6 1, 3) := by decide +kernel
theorem dX8_basketDigest_33 : decode cX8_basketDigest 33 = .ok (.goto (-27), 3) := by decide +kernel
theorem dX8_basketDigest_36 : decode cX8_basketDigest 36 = .ok (.aload_n 0, 1) := by decide +kernel
theorem dX8_basketDigest_37 : decode cX8_basketDigest 37 = .ok (.lload 4, 2) := by decide +kernel
theorem dX8_basketDigest_39 : decode cX8_basketDigest 39 = .ok (.iconst 0, 1) := by decide +kernel
theorem dX8_basketDigest_40 : decode cX8_basketDigest 40 = .ok (.iload_n 3, 1) := by decide +kernel
theorem dX8_basketDigest_41 : decode cX8_basketDigest 41 = .ok (.invokevirtual 344, 3) := by decide +kernel
theorem dX8_basketDigest_44 : decode cX8_basketDigest 44 = .ok (.lstore 4, 2) := by decide +kernel
theorem dX8_basketDigest_46 : decode cX8_basketDigest 46 = .ok (.aload_n 0, 1) := by decide +kernel
theorem dX8_basketDigest_47 : decode cX8_basketDigest 47 = .ok (.lload 4, 2) := by decide +kernel
theorem dX8_basketDigest_49 : decode cX8_basketDigest 49 = .ok (.iconst 5, 1) := by decide +kernel
theorem dX8_basketDigest_50 : decode cX8_basketDigest 50 = .ok (.iload_n 3, 1) := by decide +kernel
theorem dX8_basketDigest_51 : decode cX8_basketDigest 51 = .ok (.invokevirtual 344, 3) := by decide +kernel
theorem dX8_basketDigest_54 : decode cX8_basketDigest 54 = .ok (.lstore 4, 2) := by decide +kernel
theorem dX8_basketDigest_56 : decode cX8_basketDigest 56 = .ok (.aload_n 0, 1) := by decide +kernel
theorem dX8_basketDigest_57 : decode cX8_basketDigest 57 = .ok (.lload 4, 2) := by decide +kernel
theorem dX8_basketDigest_59 : decode cX8_basketDigest 59 = .ok (.bipush 12, 2) := by decide +kernel
theorem dX8_basketDigest_61 : decode cX8_basketDigest 61 = .ok (.iload_n 3, 1) := by decide +kernel
theorem dX8_basketDigest_62 : decode cX8_basketDigest 62 = .ok (.invokevirtual 344, 3) := by decide +kernel
theorem dX8_basketDigest_65 : decode cX8_basketDigest 65 = .ok (.lstore 4, 2) := by decide +kernel
theorem dX8_basketDigest_67 : decode cX8_basketDigest 67 = .ok (.aload_n 0, 1) := by decide +kernel
theorem dX8_basketDigest_68 : decode cX8_basketDigest 68 = .ok (.lload 4, 2) := by decide +kernel
theorem dX8_basketDigest_70 : decode cX8_basketDigest 70 = .ok (.bipush 39, 2) := by decide +kernel
theorem dX8_basketDigest_72 : decode cX8_basketDigest 72 = .ok (.iload_n 3, 1) := by decide +kernel
theorem dX8_basketDigest_73 : decode cX8_basketDigest 73 = .ok (.invokevirtual 344, 3) := by decide +kernel
theorem dX8_basketDigest_76 : decode cX8_basketDigest 76 = .ok (.lstore 4, 2) := by decide +kernel
theorem dX8_basketDigest_78 : decode cX8_basketDigest 78 = .ok (.ldc2_w 342, 3) := by decide +kernel
theorem dX8_basketDigest_81 : decode cX8_basketDigest 81 = .ok (.lload 4, 2) := by decide +kernel
theorem dX8_basketDigest_83 : decode cX8_basketDigest 83 = .ok (.lmul, 1) := by decide +kernel
theorem dX8_basketDigest_84 : decode cX8_basketDigest 84 = .ok (.aload_n 0, 1) := by decide +kernel
theorem dX8_basketDigest_85 : decode cX8_basketDigest 85 = .ok (.iload_n 3, 1) := by decide +kernel
theorem dX8_basketDigest_86 : decode cX8_basketDigest 86 = .ok (.invokevirtual 258, 3) := by decide +kernel
theorem dX8_basketDigest_89 : decode cX8_basketDigest 89 = .ok (.i2l, 1) := by decide +kernel
theorem dX8_basketDigest_90 : decode cX8_basketDigest 90 = .ok (.ladd, 1) := by decide +kernel
theorem dX8_basketDigest_91 : decode cX8_basketDigest 91 = .ok (.lstore 4, 2) := by decide +kernel
theorem dX8_basketDigest_93 : decode cX8_basketDigest 93 = .ok (.iconst 0, 1) := by decide +kernel
theorem dX8_basketDigest_94 : decode cX8_basketDigest 94 = .ok (.istore 6, 2) := by decide +kernel
theorem dX8_basketDigest_96 : decode cX8_basketDigest 96 = .ok (.iload 6, 2) := by decide +kernel
theorem dX8_basketDigest_98 : decode cX8_basketDigest 98 = .ok (.iconst 4, 1) := by decide +kernel
theorem dX8_basketDigest_99 : decode cX8_basketDigest 99 = .ok (.if_icmp .ge 26, 3) := by decide +kernel
theorem dX8_basketDigest_102 : decode cX8_basketDigest 102 = .ok (.ldc2_w 342, 3) := by decide +kernel
theorem dX8_basketDigest_105 : decode cX8_basketDigest 105 = .ok (.lload 4, 2) := by decide +kernel
theorem dX8_basketDigest_107 : decode cX8_basketDigest 107 = .ok (.lmul, 1) := by decide +kernel
theorem dX8_basketDigest_108 : decode cX8_basketDigest 108 = .ok (.aload_n 0, 1) := by decide +kernel
theorem dX8_basketDigest_109 : decode cX8_basketDigest 109 = .ok (.iload_n 3, 1) := by decide +kernel
theorem dX8_basketDigest_110 : decode cX8_basketDigest 110 = .ok (.iload 6, 2) := by decide +kernel
theorem dX8_basketDigest_112 : decode cX8_basketDigest 112 = .ok (.invokevirtual 255, 3) := by decide +kernel
theorem dX8_basketDigest_115 : decode cX8_basketDigest 115 = .ok (.i2l, 1) := by decide +kernel
theorem dX8_basketDigest_116 : decode cX8_basketDigest 116 = .ok (.ladd, 1) := by decide +kernel
theorem dX8_basketDigest_117 : decode cX8_basketDigest 117 = .ok (.lstore 4, 2) := by decide +kernel
theorem dX8_basketDigest_119 : decode cX8_basketDigest 119 = .ok (.iinc 6 1, 3) := by decide +kernel
theorem dX8_basketDigest_122 : decode cX8_basketDigest 122 = .ok (.goto (-26), 3) := by decide +kernel
theorem dX8_basketDigest_125 : decode cX8_basketDigest 125 = .ok (.ldc2_w 342, 3) := by decide +kernel
theorem dX8_basketDigest_128 : decode cX8_basketDigest 128 = .ok (.lload 4, 2) := by decide +kernel
theorem dX8_basketDigest_130 : decode cX8_basketDigest 130 = .ok (.lmul, 1) := by decide +kernel
theorem dX8_basketDigest_131 : decode cX8_basketDigest 131 = .ok (.aload_n 0, 1) := by decide +kernel
theorem dX8_basketDigest_132 : decode cX8_basketDigest 132 = .ok (.iload_n 3, 1) := by decide +kernel
theorem dX8_basketDigest_133 : decode cX8_basketDigest 133 = .ok (.iconst 0, 1) := by decide +kernel
theorem dX8_basketDigest_134 : decode cX8_basketDigest 134 = .ok (.invokevirtual 277, 3) := by decide +kernel
theorem dX8_basketDigest_137 : decode cX8_basketDigest 137 = .ok (.i2l, 1) := by decide +kernel
theorem dX8_basketDigest_138 : decode cX8_basketDigest 138 = .ok (.ladd, 1) := by decide +kernel
theorem dX8_basketDigest_139 : decode cX8_basketDigest 139 = .ok (.lstore 4, 2) := by decide +kernel
theorem dX8_basketDigest_141 : decode cX8_basketDigest 141 = .ok (.ldc2_w 342, 3) := by decide +kernel
theorem dX8_basketDigest_144 : decode cX8_basketDigest 144 = .ok (.lload 4, 2) := by decide +kernel
theorem dX8_basketDigest_146 : decode cX8_basketDigest 146 = .ok (.lmul, 1) := by decide +kernel
theorem dX8_basketDigest_147 : decode cX8_basketDigest 147 = .ok (.aload_n 0, 1) := by decide +kernel
theorem dX8_basketDigest_148 : decode cX8_basketDigest 148 = .ok (.iload_n 3, 1) := by decide +kernel
theorem dX8_basketDigest_149 : decode cX8_basketDigest 149 = .ok (.iconst 1, 1) := by decide +kernel
theorem dX8_basketDigest_150 : decode cX8_basketDigest 150 = .ok (.invokevirtual 277, 3) := by decide +kernel
theorem dX8_basketDigest_153 : decode cX8_basketDigest 153 = .ok (.i2l, 1) := by decide +kernel
theorem dX8_basketDigest_154 : decode cX8_basketDigest 154 = .ok (.ladd, 1) := by decide +kernel
theorem dX8_basketDigest_155 : decode cX8_basketDigest 155 = .ok (.lstore 4, 2) := by decide +kernel
theorem dX8_basketDigest_157 : decode cX8_basketDigest 157 = .ok (.ldc2_w 342, 3) := by decide +kernel
theorem dX8_basketDigest_160 : decode cX8_basketDigest 160 = .ok (.lload 4, 2) := by decide +kernel
theorem dX8_basketDigest_162 : decode cX8_basketDigest 162 = .ok (.lmul, 1) := by decide +kernel
theorem dX8_basketDigest_163 : decode cX8_basketDigest 163 = .ok (.aload_n 0, 1) := by decide +kernel
theorem dX8_basketDigest_164 : decode cX8_basketDigest 164 = .ok (.iload_n 3, 1) := by decide +kernel
theorem dX8_basketDigest_165 : decode cX8_basketDigest 165 = .ok (.iconst 5, 1) := by decide +kernel
theorem dX8_basketDigest_166 : decode cX8_basketDigest 166 = .ok (.invokevirtual 280, 3) := by decide +kernel
theorem dX8_basketDigest_169 : decode cX8_basketDigest 169 = .ok (.i2l, 1) := by decide +kernel
theorem dX8_basketDigest_170 : decode cX8_basketDigest 170 = .ok (.ladd, 1) := by decide +kernel
theorem dX8_basketDigest_171 : decode cX8_basketDigest 171 = .ok (.lstore 4, 2) := by decide +kernel
theorem dX8_basketDigest_173 : decode cX8_basketDigest 173 = .ok (.aload_n 0, 1) := by decide +kernel
theorem dX8_basketDigest_174 : decode cX8_basketDigest 174 = .ok (.iload_n 3, 1) := by decide +kernel
theorem dX8_basketDigest_175 : decode cX8_basketDigest 175 = .ok (.invokevirtual 286, 3) := by decide +kernel
theorem dX8_basketDigest_178 : decode cX8_basketDigest 178 = .ok (.istore 6, 2) := by decide +kernel
theorem dX8_basketDigest_180 : decode cX8_basketDigest 180 = .ok (.ldc2_w 342, 3) := by decide +kernel
theorem dX8_basketDigest_183 : decode cX8_basketDigest 183 = .ok (.lload 4, 2) := by decide +kernel
theorem dX8_basketDigest_185 : decode cX8_basketDigest 185 = .ok (.lmul, 1) := by decide +kernel
theorem dX8_basketDigest_186 : decode cX8_basketDigest 186 = .ok (.iload 6, 2) := by decide +kernel
theorem dX8_basketDigest_188 : decode cX8_basketDigest 188 = .ok (.i2l, 1) := by decide +kernel
theorem dX8_basketDigest_189 : decode cX8_basketDigest 189 = .ok (.ladd, 1) := by decide +kernel
theorem dX8_basketDigest_190 : decode cX8_basketDigest 190 = .ok (.lstore 4, 2) := by decide +kernel
theorem dX8_basketDigest_192 : decode cX8_basketDigest 192 = .ok (.ldc2_w 342, 3) := by decide +kernel
theorem dX8_basketDigest_195 : decode cX8_basketDigest 195 = .ok (.lload 4, 2) := by decide +kernel
theorem dX8_basketDigest_197 : decode cX8_basketDigest 197 = .ok (.lmul, 1) := by decide +kernel
theorem dX8_basketDigest_198 : decode cX8_basketDigest 198 = .ok (.aload_n 0, 1) := by decide +kernel
theorem dX8_basketDigest_199 : decode cX8_basketDigest 199 = .ok (.iload 6, 2) := by decide +kernel
theorem dX8_basketDigest_201 : decode cX8_basketDigest 201 = .ok (.iconst 0, 1) := by decide +kernel
theorem dX8_basketDigest_202 : decode cX8_basketDigest 202 = .ok (.invokevirtual 289, 3) := by decide +kernel
theorem dX8_basketDigest_205 : decode cX8_basketDigest 205 = .ok (.i2l, 1) := by decide +kernel
theorem dX8_basketDigest_206 : decode cX8_basketDigest 206 = .ok (.ladd, 1) := by decide +kernel
theorem dX8_basketDigest_207 : decode cX8_basketDigest 207 = .ok (.lstore 4, 2) := by decide +kernel
theorem dX8_basketDigest_209 : decode cX8_basketDigest 209 = .ok (.ldc2_w 342, 3) := by decide +kernel
theorem dX8_basketDigest_212 : decode cX8_basketDigest 212 = .ok (.lload 4, 2) := by decide +kernel
theorem dX8_basketDigest_214 : decode cX8_basketDigest 214 = .ok (.lmul, 1) := by decide +kernel
theorem dX8_basketDigest_215 : decode cX8_basketDigest 215 = .ok (.aload_n 0, 1) := by decide +kernel
theorem dX8_basketDigest_216 : decode cX8_basketDigest 216 = .ok (.iconst 5, 1) := by decide +kernel
theorem dX8_basketDigest_217 : decode cX8_basketDigest 217 = .ok (.iload_n 3, 1) := by decide +kernel
theorem dX8_basketDigest_218 : decode cX8_basketDigest 218 = .ok (.iconst 3, 1) := by decide +kernel
theorem dX8_basketDigest_219 : decode cX8_basketDigest 219 = .ok (.iconst 0, 1) := by decide +kernel
theorem dX8_basketDigest_220 : decode cX8_basketDigest 220 = .ok (.invokevirtual 315, 3) := by decide +kernel
theorem dX8_basketDigest_223 : decode cX8_basketDigest 223 = .ok (.ladd, 1) := by decide +kernel
theorem dX8_basketDigest_224 : decode cX8_basketDigest 224 = .ok (.lstore 4, 2) := by decide +kernel
theorem dX8_basketDigest_226 : decode cX8_basketDigest 226 = .ok (.ldc2_w 342, 3) := by decide +kernel
theorem dX8_basketDigest_229 : decode cX8_basketDigest 229 = .ok (.lload 4, 2) := by decide +kernel
theorem dX8_basketDigest_231 : decode cX8_basketDigest 231 = .ok (.lmul, 1) := by decide +kernel
theorem dX8_basketDigest_232 : decode cX8_basketDigest 232 = .ok (.aload_n 0, 1) := by decide +kernel
theorem dX8_basketDigest_233 : decode cX8_basketDigest 233 = .ok (.iconst 5, 1) := by decide +kernel
theorem dX8_basketDigest_234 : decode cX8_basketDigest 234 = .ok (.iload_n 3, 1) := by decide +kernel
theorem dX8_basketDigest_235 : decode cX8_basketDigest 235 = .ok (.iconst 3, 1) := by decide +kernel
theorem dX8_basketDigest_236 : decode cX8_basketDigest 236 = .ok (.iconst 1, 1) := by decide +kernel
theorem dX8_basketDigest_237 : decode cX8_basketDigest 237 = .ok (.invokevirtual 315, 3) := by decide +kernel
theorem dX8_basketDigest_240 : decode cX8_basketDigest 240 = .ok (.ladd, 1) := by decide +kernel
theorem dX8_basketDigest_241 : decode cX8_basketDigest 241 = .ok (.lreturn, 1) := by decide +kernel
theorem dX8_digest_0 : decode cX8_digest 0 = .ok (.ldc2_w 348, 3) := by decide +kernel
theorem dX8_digest_3 : decode cX8_digest 3 = .ok (.lstore_n 1, 1) := by decide +kernel
theorem dX8_digest_4 : decode cX8_digest 4 = .ok (.iconst 0, 1) := by decide +kernel
theorem dX8_digest_5 : decode cX8_digest 5 = .ok (.istore_n 3, 1) := by decide +kernel
theorem dX8_digest_6 : decode cX8_digest 6 = .ok (.iload_n 3, 1) := by decide +kernel
theorem dX8_digest_7 : decode cX8_digest 7 = .ok (.bipush 8, 2) := by decide +kernel
theorem dX8_digest_9 : decode cX8_digest 9 = .ok (.if_icmp .ge 22, 3) := by decide +kernel
theorem dX8_digest_12 : decode cX8_digest 12 = .ok (.ldc2_w 342, 3) := by decide +kernel
theorem dX8_digest_15 : decode cX8_digest 15 = .ok (.lload_n 1, 1) := by decide +kernel
theorem dX8_digest_16 : decode cX8_digest 16 = .ok (.lmul, 1) := by decide +kernel
theorem dX8_digest_17 : decode cX8_digest 17 = .ok (.aload_n 0, 1) := by decide +kernel
theorem dX8_digest_18 : decode cX8_digest 18 = .ok (.iload_n 3, 1) := by decide +kernel
theorem dX8_digest_19 : decode cX8_digest 19 = .ok (.invokevirtual 350, 3) := by decide +kernel
theorem dX8_digest_22 : decode cX8_digest 22 = .ok (.i2l, 1) := by decide +kernel
theorem dX8_digest_23 : decode cX8_digest 23 = .ok (.ladd, 1) := by decide +kernel
theorem dX8_digest_24 : decode cX8_digest 24 = .ok (.lstore_n 1, 1) := by decide +kernel
theorem dX8_digest_25 : decode cX8_digest 25 = .ok (.iinc 3 1, 3) := by decide +kernel
theorem dX8_digest_28 : decode cX8_digest 28 = .ok (.goto (-22), 3) := by decide +kernel
theorem dX8_digest_31 : decode cX8_digest 31 = .ok (.ldc2_w 342, 3) := by decide +kernel
theorem dX8_digest_34 : decode cX8_digest 34 = .ok (.lload_n 1, 1) := by decide +kernel
theorem dX8_digest_35 : decode cX8_digest 35 = .ok (.lmul, 1) := by decide +kernel
theorem dX8_digest_36 : decode cX8_digest 36 = .ok (.aload_n 0, 1) := by decide +kernel
theorem dX8_digest_37 : decode cX8_digest 37 = .ok (.iconst 0, 1) := by decide +kernel
theorem dX8_digest_38 : decode cX8_digest 38 = .ok (.invokevirtual 160, 3) := by decide +kernel
theorem dX8_digest_41 : decode cX8_digest 41 = .ok (.i2l, 1) := by decide +kernel
theorem dX8_digest_42 : decode cX8_digest 42 = .ok (.ladd, 1) := by decide +kernel
theorem dX8_digest_43 : decode cX8_digest 43 = .ok (.lstore_n 1, 1) := by decide +kernel
theorem dX8_digest_44 : decode cX8_digest 44 = .ok (.ldc2_w 342, 3) := by decide +kernel
theorem dX8_digest_47 : decode cX8_digest 47 = .ok (.lload_n 1, 1) := by decide +kernel
theorem dX8_digest_48 : decode cX8_digest 48 = .ok (.lmul, 1) := by decide +kernel
theorem dX8_digest_49 : decode cX8_digest 49 = .ok (.aload_n 0, 1) := by decide +kernel
theorem dX8_digest_50 : decode cX8_digest 50 = .ok (.iconst 1, 1) := by decide +kernel
theorem dX8_digest_51 : decode cX8_digest 51 = .ok (.invokevirtual 160, 3) := by decide +kernel
theorem dX8_digest_54 : decode cX8_digest 54 = .ok (.i2l, 1) := by decide +kernel
theorem dX8_digest_55 : decode cX8_digest 55 = .ok (.ladd, 1) := by decide +kernel
theorem dX8_digest_56 : decode cX8_digest 56 = .ok (.lstore_n 1, 1) := by decide +kernel
theorem dX8_digest_57 : decode cX8_digest 57 = .ok (.iconst 0, 1) := by decide +kernel
theorem dX8_digest_58 : decode cX8_digest 58 = .ok (.istore_n 3, 1) := by decide +kernel
theorem dX8_digest_59 : decode cX8_digest 59 = .ok (.iload_n 3, 1) := by decide +kernel
theorem dX8_digest_60 : decode cX8_digest 60 = .ok (.aload_n 0, 1) := by decide +kernel
theorem dX8_digest_61 : decode cX8_digest 61 = .ok (.getfield 144, 3) := by decide +kernel
theorem dX8_digest_64 : decode cX8_digest 64 = .ok (.if_icmp .ge 16, 3) := by decide +kernel
theorem dX8_digest_67 : decode cX8_digest 67 = .ok (.aload_n 0, 1) := by decide +kernel
theorem dX8_digest_68 : decode cX8_digest 68 = .ok (.lload_n 1, 1) := by decide +kernel
theorem dX8_digest_69 : decode cX8_digest 69 = .ok (.iload_n 3, 1) := by decide +kernel
theorem dX8_digest_70 : decode cX8_digest 70 = .ok (.invokevirtual 353, 3) := by decide +kernel
theorem dX8_digest_73 : decode cX8_digest 73 = .ok (.lstore_n 1, 1) := by decide +kernel
theorem dX8_digest_74 : decode cX8_digest 74 = .ok (.iinc 3 1, 3) := by decide +kernel
theorem dX8_digest_77 : decode cX8_digest 77 = .ok (.goto (-18), 3) := by decide +kernel
theorem dX8_digest_80 : decode cX8_digest 80 = .ok (.iconst 0, 1) := by decide +kernel
theorem dX8_digest_81 : decode cX8_digest 81 = .ok (.istore_n 3, 1) := by decide +kernel
theorem dX8_digest_82 : decode cX8_digest 82 = .ok (.iload_n 3, 1) := by decide +kernel
theorem dX8_digest_83 : decode cX8_digest 83 = .ok (.aload_n 0, 1) := by decide +kernel
theorem dX8_digest_84 : decode cX8_digest 84 = .ok (.getfield 147, 3) := by decide +kernel
theorem dX8_digest_87 : decode cX8_digest 87 = .ok (.if_icmp .ge 16, 3) := by decide +kernel
theorem dX8_digest_90 : decode cX8_digest 90 = .ok (.aload_n 0, 1) := by decide +kernel
theorem dX8_digest_91 : decode cX8_digest 91 = .ok (.lload_n 1, 1) := by decide +kernel
theorem dX8_digest_92 : decode cX8_digest 92 = .ok (.iload_n 3, 1) := by decide +kernel
theorem dX8_digest_93 : decode cX8_digest 93 = .ok (.invokevirtual 356, 3) := by decide +kernel
theorem dX8_digest_96 : decode cX8_digest 96 = .ok (.lstore_n 1, 1) := by decide +kernel
theorem dX8_digest_97 : decode cX8_digest 97 = .ok (.iinc 3 1, 3) := by decide +kernel
theorem dX8_digest_100 : decode cX8_digest 100 = .ok (.goto (-18), 3) := by decide +kernel
theorem dX8_digest_103 : decode cX8_digest 103 = .ok (.ldc2_w 342, 3) := by decide +kernel
theorem dX8_digest_106 : decode cX8_digest 106 = .ok (.lload_n 1, 1) := by decide +kernel
theorem dX8_digest_107 : decode cX8_digest 107 = .ok (.lmul, 1) := by decide +kernel
theorem dX8_digest_108 : decode cX8_digest 108 = .ok (.aload_n 0, 1) := by decide +kernel
theorem dX8_digest_109 : decode cX8_digest 109 = .ok (.invokevirtual 268, 3) := by decide +kernel
theorem dX8_digest_112 : decode cX8_digest 112 = .ok (.i2l, 1) := by decide +kernel
theorem dX8_digest_113 : decode cX8_digest 113 = .ok (.ladd, 1) := by decide +kernel
theorem dX8_digest_114 : decode cX8_digest 114 = .ok (.lstore_n 1, 1) := by decide +kernel
theorem dX8_digest_115 : decode cX8_digest 115 = .ok (.ldc2_w 342, 3) := by decide +kernel
theorem dX8_digest_118 : decode cX8_digest 118 = .ok (.lload_n 1, 1) := by decide +kernel
theorem dX8_digest_119 : decode cX8_digest 119 = .ok (.lmul, 1) := by decide +kernel
theorem dX8_digest_120 : decode cX8_digest 120 = .ok (.aload_n 0, 1) := by decide +kernel
theorem dX8_digest_121 : decode cX8_digest 121 = .ok (.iconst 0, 1) := by decide +kernel
theorem dX8_digest_122 : decode cX8_digest 122 = .ok (.invokevirtual 271, 3) := by decide +kernel
theorem dX8_digest_125 : decode cX8_digest 125 = .ok (.i2l, 1) := by decide +kernel
theorem dX8_digest_126 : decode cX8_digest 126 = .ok (.ladd, 1) := by decide +kernel
theorem dX8_digest_127 : decode cX8_digest 127 = .ok (.lstore_n 1, 1) := by decide +kernel
theorem dX8_digest_128 : decode cX8_digest 128 = .ok (.ldc2_w 342, 3) := by decide +kernel
theorem dX8_digest_131 : decode cX8_digest 131 = .ok (.lload_n 1, 1) := by decide +kernel
theorem dX8_digest_132 : decode cX8_digest 132 = .ok (.lmul, 1) := by decide +kernel
theorem dX8_digest_133 : decode cX8_digest 133 = .ok (.aload_n 0, 1) := by decide +kernel
theorem dX8_digest_134 : decode cX8_digest 134 = .ok (.iconst 1, 1) := by decide +kernel
theorem dX8_digest_135 : decode cX8_digest 135 = .ok (.invokevirtual 271, 3) := by decide +kernel
theorem dX8_digest_138 : decode cX8_digest 138 = .ok (.i2l, 1) := by decide +kernel
theorem dX8_digest_139 : decode cX8_digest 139 = .ok (.ladd, 1) := by decide +kernel
theorem dX8_digest_140 : decode cX8_digest 140 = .ok (.lstore_n 1, 1) := by decide +kernel
theorem dX8_digest_141 : decode cX8_digest 141 = .ok (.ldc2_w 342, 3) := by decide +kernel
theorem dX8_digest_144 : decode cX8_digest 144 = .ok (.lload_n 1, 1) := by decide +kernel
theorem dX8_digest_145 : decode cX8_digest 145 = .ok (.lmul, 1) := by decide +kernel
theorem dX8_digest_146 : decode cX8_digest 146 = .ok (.aload_n 0, 1) := by decide +kernel
theorem dX8_digest_147 : decode cX8_digest 147 = .ok (.invokevirtual 274, 3) := by decide +kernel
theorem dX8_digest_150 : decode cX8_digest 150 = .ok (.i2l, 1) := by decide +kernel
theorem dX8_digest_151 : decode cX8_digest 151 = .ok (.ladd, 1) := by decide +kernel
theorem dX8_digest_152 : decode cX8_digest 152 = .ok (.lstore_n 1, 1) := by decide +kernel
theorem dX8_digest_153 : decode cX8_digest 153 = .ok (.ldc2_w 342, 3) := by decide +kernel
theorem dX8_digest_156 : decode cX8_digest 156 = .ok (.lload_n 1, 1) := by decide +kernel
theorem dX8_digest_157 : decode cX8_digest 157 = .ok (.lmul, 1) := by decide +kernel
theorem dX8_digest_158 : decode cX8_digest 158 = .ok (.aload_n 0, 1) := by decide +kernel
theorem dX8_digest_159 : decode cX8_digest 159 = .ok (.iconst 0, 1) := by decide +kernel
theorem dX8_digest_160 : decode cX8_digest 160 = .ok (.invokevirtual 292, 3) := by decide +kernel
theorem dX8_digest_163 : decode cX8_digest 163 = .ok (.i2l, 1) := by decide +kernel
theorem dX8_digest_164 : decode cX8_digest 164 = .ok (.ladd, 1) := by decide +kernel
theorem dX8_digest_165 : decode cX8_digest 165 = .ok (.lstore_n 1, 1) := by decide +kernel
theorem dX8_digest_166 : decode cX8_digest 166 = .ok (.ldc2_w 342, 3) := by decide +kernel
theorem dX8_digest_169 : decode cX8_digest 169 = .ok (.lload_n 1, 1) := by decide +kernel
theorem dX8_digest_170 : decode cX8_digest 170 = .ok (.lmul, 1) := by decide +kernel
theorem dX8_digest_171 : decode cX8_digest 171 = .ok (.aload_n 0, 1) := by decide +kernel
theorem dX8_digest_172 : decode cX8_digest 172 = .ok (.iconst 1, 1) := by decide +kernel
theorem dX8_digest_173 : decode cX8_digest 173 = .ok (.invokevirtual 292, 3) := by decide +kernel
theorem dX8_digest_176 : decode cX8_digest 176 = .ok (.i2l, 1) := by decide +kernel
theorem dX8_digest_177 : decode cX8_digest 177 = .ok (.ladd, 1) := by decide +kernel
theorem dX8_digest_178 : decode cX8_digest 178 = .ok (.lstore_n 1, 1) := by decide +kernel
theorem dX8_digest_179 : decode cX8_digest 179 = .ok (.ldc2_w 342, 3) := by decide +kernel
theorem dX8_digest_182 : decode cX8_digest 182 = .ok (.lload_n 1, 1) := by decide +kernel
theorem dX8_digest_183 : decode cX8_digest 183 = .ok (.lmul, 1) := by decide +kernel
theorem dX8_digest_184 : decode cX8_digest 184 = .ok (.aload_n 0, 1) := by decide +kernel
theorem dX8_digest_185 : decode cX8_digest 185 = .ok (.invokevirtual 302, 3) := by decide +kernel
theorem dX8_digest_188 : decode cX8_digest 188 = .ok (.i2l, 1) := by decide +kernel
theorem dX8_digest_189 : decode cX8_digest 189 = .ok (.ladd, 1) := by decide +kernel
theorem dX8_digest_190 : decode cX8_digest 190 = .ok (.lstore_n 1, 1) := by decide +kernel
theorem dX8_digest_191 : decode cX8_digest 191 = .ok (.ldc2_w 342, 3) := by decide +kernel
theorem dX8_digest_194 : decode cX8_digest 194 = .ok (.lload_n 1, 1) := by decide +kernel
theorem dX8_digest_195 : decode cX8_digest 195 = .ok (.lmul, 1) := by decide +kernel
theorem dX8_digest_196 : decode cX8_digest 196 = .ok (.aload_n 0, 1) := by decide +kernel
theorem dX8_digest_197 : decode cX8_digest 197 = .ok (.bipush 7, 2) := by decide +kernel
theorem dX8_digest_199 : decode cX8_digest 199 = .ok (.iconst 5, 1) := by decide +kernel
theorem dX8_digest_200 : decode cX8_digest 200 = .ok (.iconst 0, 1) := by decide +kernel
theorem dX8_digest_201 : decode cX8_digest 201 = .ok (.invokevirtual 326, 3) := by decide +kernel
theorem dX8_digest_204 : decode cX8_digest 204 = .ok (.i2l, 1) := by decide +kernel
theorem dX8_digest_205 : decode cX8_digest 205 = .ok (.ladd, 1) := by decide +kernel
theorem dX8_digest_206 : decode cX8_digest 206 = .ok (.lstore_n 1, 1) := by decide +kernel
theorem dX8_digest_207 : decode cX8_digest 207 = .ok (.ldc2_w 342, 3) := by decide +kernel
theorem dX8_digest_210 : decode cX8_digest 210 = .ok (.lload_n 1, 1) := by decide +kernel
theorem dX8_digest_211 : decode cX8_digest 211 = .ok (.lmul, 1) := by decide +kernel
theorem dX8_digest_212 : decode cX8_digest 212 = .ok (.aload_n 0, 1) := by decide +kernel
theorem dX8_digest_213 : decode cX8_digest 213 = .ok (.bipush 7, 2) := by decide +kernel
theorem dX8_digest_215 : decode cX8_digest 215 = .ok (.iconst 5, 1) := by decide +kernel
theorem dX8_digest_216 : decode cX8_digest 216 = .ok (.iconst 1, 1) := by decide +kernel
theorem dX8_digest_217 : decode cX8_digest 217 = .ok (.invokevirtual 326, 3) := by decide +kernel
theorem dX8_digest_220 : decode cX8_digest 220 = .ok (.i2l, 1) := by decide +kernel
theorem dX8_digest_221 : decode cX8_digest 221 = .ok (.ladd, 1) := by decide +kernel
theorem dX8_digest_222 : decode cX8_digest 222 = .ok (.lreturn, 1) := by decide +kernel
end
section
/-! a judgement of my own over the kit's W: worlds of a fixed plan, their numbers as functions -/
/-- ints by cell and place, longs by cell and place -/
abbrev vMem : Type := (Nat → Nat → Int32) × (Nat → Nat → Int64)
/-- a plan: how many cells; of each its kind (0 ints, 1 booleans, ci + 2 an object of class ci) and length; its references (0 null, n + 1 cell n) -/
abbrev vCfg : Type := Nat × (Nat → Nat × Nat) × (Nat → Nat → Nat)
def vRef (ad : Nat → Nat) (r : Nat) : Value := match r with
  | 0 => .null
  | n + 1 => .ref (ad n)
def vFld (ad : Nat → Nat) (G : vCfg) (σ : vMem) (n j : Nat) (ty : FieldType) : Value := match ty with
  | .long => .long (σ.2 n j)
  | .int => .int (σ.1 n j)
  | .boolean => .int (σ.1 n j)
  | _ => vRef ad (G.2.2 n j)
def vCell (cI cZ : ClassId) (ad : Nat → Nat) (G : vCfg) (σ : vMem) (n : Nat) : va_E := match G.2.1 n with
  | (0, len) => .inl (cI, len, .inl (σ.1 n))
  | (1, len) => .inl (cZ, len, .inl (σ.1 n))
  | (k + 2, _) => .inr (k, (List.range (vN k)).map (fun j => vFld ad G σ n j (vTy k j)))
def vW (cI cZ : ClassId) (ad : Nat → Nat) (G : vCfg) (σ : vMem) : va_W := (List.range G.1).map (fun n => (ad n, vCell cI cZ ad G σ n))
abbrev vTys (cI cZ : ClassId) : List (ClassId × FieldType) := [(cI, .int), (cZ, .boolean)]
def vRm (d : Nat) : Room := { frames := d, cells := 0, slots := 0, locals := 40 * d }
def vLk (la : Array Slot) (n : Nat) (ls : List (Option Value)) : Prop := la.size = n ∧ lv_wf la ∧ ∀ (i : Nat) (v : Value), ls[i]? = some (some v) → la[i]? = some (.val v)
def vOK (mi : vMI) (p : Program) (s : State) (m : MethodId) (meth : Method) (c : Code) (args : Array Value) (D : va_G) (cI cZ : ClassId) : Prop :=
  p.tables.exec = Jvm.exec ∧ c.code = mi.2.1 ∧ c.maxLocals = mi.2.2.1 ∧ meth.sig.returnType = mi.2.2.2 ∧ (meth.locks = false ∧ vNst s) ∧ s.vm.findClass mi.1.cls = some m.cls ∧ (∀ w ∈ vTbl, w.before args s = true) ∧ va_K D classes (vTys cI cZ) s
def vQ (D : va_G) (cI cZ : ClassId) (ad : Nat → Nat) (G : vCfg) (A : Nat → Prop) (Q : Option Value → vMem → Prop) : Array Value → State → Outcome → State → Prop := fun _ st oc t =>
  ∃ (r : Option Value) (σ : vMem), oc = .returned r ∧ Q r σ ∧ va_P D classes (vW cI cZ ad G σ) t.heap ∧ va_F A st t
/-- from pc on, with these locals, this stack, this memory, the method ends, and Q holds of its answer and of the memory -/
def V (G : vCfg) (mi : vMI) (ad : Nat → Nat) (Q : Option Value → vMem → Prop) (d pc : Nat) (ls : List (Option Value)) (st : List Value) (σ : vMem) : Prop :=
  ∀ (p : Program) (l : Launch) (e : Env) (s : State) (m : MethodId) (args : Array Value) (below : List Frame) (meth : Method) (c : Code) (H : Heap) (locs : List Loc) (A : Nat → Prop) (D : va_G) (cI cZ : ClassId) (la : Array Slot),
    vOK mi p s m meth c args D cI cZ → vLk la mi.2.2.1 ls → va_P D classes (vW cI cZ ad G σ) H → va_D A (vW cI cZ ad G σ) → va_S A s.heap H locs → (∀ q, s.heap.size ≤ q → A q) →
      W p l e (vRm d) s m args below meth c H locs 0 0 (MQ below (vQ D cI cZ ad G A Q) args s 0 0 A) (F0 m pc la st)
/-! the world's rows -/
theorem vW_get (cI cZ : ClassId) (ad : Nat → Nat) (G : vCfg) (σ : vMem) {n : Nat} (hn : n < G.1) : (vW cI cZ ad G σ)[n]? = some (ad n, vCell cI cZ ad G σ n) := by
  simp [vW, List.getElem?_map, List.getElem?_range hn]
theorem vMap_set {α : Type} {N n : Nat} {f g : Nat → α} {y : α} (hn : n < N) (h1 : g n = y) (h2 : ∀ a, a ≠ n → g a = f a) : ((List.range N).map f).set n y = (List.range N).map g := by
  apply List.ext_getElem?
  intro k
  rw [List.getElem?_set]
  by_cases hk : n = k
  · subst hk
    simp [hn, h1]
  · rw [if_neg hk, List.getElem?_map, List.getElem?_map]
    by_cases hkN : k < N
    · rw [List.getElem?_range hkN]
      simp [h2 k (fun q => hk q.symm)]
    · rw [List.getElem?_eq_none (by simpa using hkN)]
      rfl
theorem vW_len (cI cZ : ClassId) (ad : Nat → Nat) (G : vCfg) (σ : vMem) : (vW cI cZ ad G σ).length = G.1 := by simp [vW]
/-- an int changes -/
def vup (σ : vMem) (n k : Nat) (x : Int32) : vMem := (fun a => if a = n then upd (σ.1 n) k x else σ.1 a, σ.2)
/-- a long changes -/
def vupL (σ : vMem) (n k : Nat) (x : Int64) : vMem := (σ.1, fun a => if a = n then (fun j => if j = k then x else σ.2 n j) else σ.2 a)
/-- a row is copied -/
def vcp (σ : vMem) (a0 a1 sp dp n : Nat) : vMem := (fun a => if a = a1 then va_cpy (σ.1 a0) (σ.1 a1) sp dp n else σ.1 a, σ.2)
theorem vCell_ne (cI cZ : ClassId) (ad : Nat → Nat) (G : vCfg) {σ τ : vMem} {n : Nat} (h1 : σ.1 n = τ.1 n) (h2 : σ.2 n = τ.2 n) : vCell cI cZ ad G σ n = vCell cI cZ ad G τ n := by
  unfold vCell
  split
  · rw [h1]
  · rw [h1]
  · congr 2
    refine List.map_congr_left fun j _ => ?_
    unfold vFld
    split
    · rw [h2]
    · rw [h1]
    · rw [h1]
    · rfl
theorem vup_ne (σ : vMem) {n k : Nat} (x : Int32) {a : Nat} (h : a ≠ n) : (vup σ n k x).1 a = σ.1 a := by simp [vup, h]
theorem vup_eq (σ : vMem) (n k : Nat) (x : Int32) : (vup σ n k x).1 n = upd (σ.1 n) k x := by simp [vup]
theorem vupL_ne (σ : vMem) {n k : Nat} (x : Int64) {a : Nat} (h : a ≠ n) : (vupL σ n k x).2 a = σ.2 a := by simp [vupL, h]
/-- a row of ints, or of booleans, has another one -/
theorem vW_arr (cI cZ : ClassId) (ad : Nat → Nat) (G : vCfg) {σ τ : vMem} {n : Nat} (hn : n < G.1) (hne : ∀ a, a ≠ n → τ.1 a = σ.1 a) (hL : τ.2 = σ.2) :
    (vW cI cZ ad G σ).set n (ad n, vCell cI cZ ad G τ n) = vW cI cZ ad G τ := by
  refine vMap_set hn rfl fun a ha => ?_
  rw [vCell_ne cI cZ ad G (hne a ha) (by rw [hL])]
theorem vW_obj (cI cZ : ClassId) (ad : Nat → Nat) (G : vCfg) {σ τ : vMem} {n ci k z : Nat} {v : Value} (hn : n < G.1) (hg : G.2.1 n = (ci + 2, z)) (hk : k < vN ci) (hv : vFld ad G τ n k (vTy ci k) = v)
    (hne : ∀ a, a ≠ n → τ.1 a = σ.1 a) (hneL : ∀ a, a ≠ n → τ.2 a = σ.2 a) (hq : ∀ j, j ≠ k → τ.1 n j = σ.1 n j) (hqL : ∀ j, j ≠ k → τ.2 n j = σ.2 n j) :
    (vW cI cZ ad G σ).set n (ad n, .inr (ci, ((List.range (vN ci)).map (fun j => vFld ad G σ n j (vTy ci j))).set k v)) = vW cI cZ ad G τ := by
  refine vMap_set hn ?_ fun a ha => ?_
  · have e : ((List.range (vN ci)).map (fun j => vFld ad G σ n j (vTy ci j))).set k v = (List.range (vN ci)).map (fun j => vFld ad G τ n j (vTy ci j)) := by
      refine vMap_set (g := fun j => vFld ad G τ n j (vTy ci j)) hk hv fun j hj => ?_
      show vFld ad G τ n j (vTy ci j) = vFld ad G σ n j (vTy ci j)
      unfold vFld
      split
      · rw [hqL j hj]
      · rw [hq j hj]
      · rw [hq j hj]
      · rfl
    rw [e]
    unfold vCell
    rw [hg]
  · rw [vCell_ne cI cZ ad G (hne a ha) (hneL a ha)]
theorem vW_addr (cI cZ : ClassId) (ad : Nat → Nat) (G : vCfg) (σ τ : vMem) {k : Nat} {q : Nat × va_E} (h : (vW cI cZ ad G σ)[k]? = some q) : ∃ e, (vW cI cZ ad G τ)[k]? = some (q.1, e) := by
  by_cases hk : k < G.1
  · rw [vW_get _ _ _ _ _ hk] at h
    cases h
    exact ⟨_, vW_get _ _ _ _ _ hk⟩
  · rw [List.getElem?_eq_none (by rw [vW_len]; omega)] at h
    cases h
theorem vW_D {cI cZ : ClassId} {ad : Nat → Nat} {G : vCfg} {σ : vMem} (τ : vMem) {A : Nat → Prop} (h : va_D A (vW cI cZ ad G σ)) : va_D A (vW cI cZ ad G τ) := by
  refine ⟨fun i j p q hp hq e => ?_, fun k q hq => ?_⟩
  · obtain ⟨e1, h1⟩ := vW_addr cI cZ ad G τ σ hp
    obtain ⟨e2, h2⟩ := vW_addr cI cZ ad G τ σ hq
    exact h.1 i j _ _ h1 h2 e
  · obtain ⟨e1, h1⟩ := vW_addr cI cZ ad G τ σ hq
    exact h.2 k (q.1, e1) h1
theorem vA_eq {cI cZ : ClassId} {ad : Nat → Nat} {G : vCfg} {σ : vMem} (τ : vMem) {sz q : Nat} (h : va_A (vW cI cZ ad G σ) sz q) : va_A (vW cI cZ ad G τ) sz q := by
  rcases h with ⟨k, e, h⟩ | h
  · obtain ⟨e1, h1⟩ := vW_addr cI cZ ad G σ τ h
    exact Or.inl ⟨k, e1, h1⟩
  · exact Or.inr h
end
section
section VR
variable {G : vCfg} {mi : vMI} {ad : Nat → Nat} {Q : Option Value → vMem → Prop} {d pc : Nat} {ls : List (Option Value)} {st : List Value} {σ : vMem}
theorem V.iconst {n : Int} {v : Int32} (hv : Int32.ofInt n = v) (hd : decode mi.2.1 pc = .ok (.iconst n, 1)) (k : V G mi ad Q d (pc + 1) ls (.int v :: st) σ) : V G mi ad Q d pc ls (st) σ := by
  intro p l e s m args below meth c H locs A D cI cZ la O L P Dd S hA
  exact lv_iconst O.1 O.2.1 hd hv (k p l e s m args below meth c H locs A D cI cZ la O L P Dd S hA)
theorem V.bipush {n : Int} {v : Int32} (hv : (Int8.ofInt n).toInt32 = v) (hd : decode mi.2.1 pc = .ok (.bipush n, 2)) (k : V G mi ad Q d (pc + 2) ls (.int v :: st) σ) : V G mi ad Q d pc ls (st) σ := by
  intro p l e s m args below meth c H locs A D cI cZ la O L P Dd S hA
  exact lv_bipush O.1 O.2.1 hd hv (k p l e s m args below meth c H locs A D cI cZ la O L P Dd S hA)
theorem V.sipush {n : Int} {v : Int32} (hv : (Int16.ofInt n).toInt32 = v) (hd : decode mi.2.1 pc = .ok (.sipush n, 3)) (k : V G mi ad Q d (pc + 3) ls (.int v :: st) σ) : V G mi ad Q d pc ls (st) σ := by
  intro p l e s m args below meth c H locs A D cI cZ la O L P Dd S hA
  exact lv_sipush O.1 O.2.1 hd hv (k p l e s m args below meth c H locs A D cI cZ la O L P Dd S hA)
theorem V.lconst {n : Fin 2} {v : Int64} (hv : Int64.ofNat (n : Nat) = v) (hd : decode mi.2.1 pc = .ok (.lconst n, 1)) (k : V G mi ad Q d (pc + 1) ls (.long v :: st) σ) : V G mi ad Q d pc ls (st) σ := by
  intro p l e s m args below meth c H locs A D cI cZ la O L P Dd S hA
  exact lv_lconst O.1 O.2.1 hd hv (k p l e s m args below meth c H locs A D cI cZ la O L P Dd S hA)
theorem V.ldcw {idx : Nat} {v : Int32} (hd : decode mi.2.1 pc = .ok (.ldc_w idx, 3)) (hw : Cond.constant mi.1.cls idx v ∈ vTbl) (k : V G mi ad Q d (pc + 3) ls (.int v :: st) σ) : V G mi ad Q d pc ls st σ := by
  intro p l e s m args below meth c H locs A D cI cZ la O L P Dd S hA
  exact lv_ldcw O.1 O.2.1 O.2.2.2.2.2.1 (O.2.2.2.2.2.2.1 _ hw) hd (k p l e s m args below meth c H locs A D cI cZ la O L P Dd S hA)
theorem V.ldc {idx : Nat} {v : Int32} (hd : decode mi.2.1 pc = .ok (.ldc idx, 2)) (hw : Cond.constant mi.1.cls idx v ∈ vTbl) (k : V G mi ad Q d (pc + 2) ls (.int v :: st) σ) : V G mi ad Q d pc ls st σ := by
  intro p l e s m args below meth c H locs A D cI cZ la O L P Dd S hA
  exact lv_ldc O.1 O.2.1 O.2.2.2.2.2.1 (O.2.2.2.2.2.2.1 _ hw) hd (k p l e s m args below meth c H locs A D cI cZ la O L P Dd S hA)
theorem V.ldc2 {idx : Nat} {v : Int64} (hd : decode mi.2.1 pc = .ok (.ldc2_w idx, 3)) (hw : Cond.constantLong mi.1.cls idx v ∈ vTbl) (k : V G mi ad Q d (pc + 3) ls (.long v :: st) σ) : V G mi ad Q d pc ls st σ := by
  intro p l e s m args below meth c H locs A D cI cZ la O L P Dd S hA
  exact lv_ldc2 O.1 O.2.1 O.2.2.2.2.2.1 (O.2.2.2.2.2.2.1 _ hw) hd (k p l e s m args below meth c H locs A D cI cZ la O L P Dd S hA)
theorem V.iload_n {j : Fin 4} {x : Int32} (hd : decode mi.2.1 pc = .ok (.iload_n j, 1)) (hl : ls[(j : Nat)]? = some (some (.int x))) (k : V G mi ad Q d (pc + 1) ls (.int x :: st) σ) : V G mi ad Q d pc ls st σ := by
  intro p l e s m args below meth c H locs A D cI cZ la O L P Dd S hA
  exact lv_iload_n O.1 O.2.1 hd rfl (L.2.2 _ _ hl) (k p l e s m args below meth c H locs A D cI cZ la O L P Dd S hA)
theorem V.iload {i : Nat} {x : Int32} (hd : decode mi.2.1 pc = .ok (.iload i, 2)) (hl : ls[i]? = some (some (.int x))) (k : V G mi ad Q d (pc + 2) ls (.int x :: st) σ) : V G mi ad Q d pc ls st σ := by
  intro p l e s m args below meth c H locs A D cI cZ la O L P Dd S hA
  exact lv_iload O.1 O.2.1 hd (L.2.2 _ _ hl) (k p l e s m args below meth c H locs A D cI cZ la O L P Dd S hA)
theorem V.lload_n {j : Fin 4} {x : Int64} (hd : decode mi.2.1 pc = .ok (.lload_n j, 1)) (hl : ls[(j : Nat)]? = some (some (.long x))) (k : V G mi ad Q d (pc + 1) ls (.long x :: st) σ) : V G mi ad Q d pc ls st σ := by
  intro p l e s m args below meth c H locs A D cI cZ la O L P Dd S hA
  exact lv_lload_n O.1 O.2.1 hd rfl (L.2.2 _ _ hl) (k p l e s m args below meth c H locs A D cI cZ la O L P Dd S hA)
theorem V.lload {i : Nat} {x : Int64} (hd : decode mi.2.1 pc = .ok (.lload i, 2)) (hl : ls[i]? = some (some (.long x))) (k : V G mi ad Q d (pc + 2) ls (.long x :: st) σ) : V G mi ad Q d pc ls st σ := by
  intro p l e s m args below meth c H locs A D cI cZ la O L P Dd S hA
  exact lv_lload O.1 O.2.1 hd (L.2.2 _ _ hl) (k p l e s m args below meth c H locs A D cI cZ la O L P Dd S hA)
theorem V.aload_n {j : Fin 4} {x : Nat} (hd : decode mi.2.1 pc = .ok (.aload_n j, 1)) (hl : ls[(j : Nat)]? = some (some (.ref x))) (k : V G mi ad Q d (pc + 1) ls (.ref x :: st) σ) : V G mi ad Q d pc ls st σ := by
  intro p l e s m args below meth c H locs A D cI cZ la O L P Dd S hA
  exact lv_aload_n O.1 O.2.1 hd rfl (L.2.2 _ _ hl) (k p l e s m args below meth c H locs A D cI cZ la O L P Dd S hA)
theorem V.aload {i : Nat} {x : Nat} (hd : decode mi.2.1 pc = .ok (.aload i, 2)) (hl : ls[i]? = some (some (.ref x))) (k : V G mi ad Q d (pc + 2) ls (.ref x :: st) σ) : V G mi ad Q d pc ls st σ := by
  intro p l e s m args below meth c H locs A D cI cZ la O L P Dd S hA
  exact lv_aload O.1 O.2.1 hd (L.2.2 _ _ hl) (k p l e s m args below meth c H locs A D cI cZ la O L P Dd S hA)
/-- the values that are known, with their places -/
def vPrs : Nat → List (Option Value) → List (Nat × Value)
  | _, [] => []
  | i, none :: r => vPrs (i + 1) r
  | i, some v :: r => (i, v) :: vPrs (i + 1) r
theorem vPrs_mem : ∀ (l : List (Option Value)) (i : Nat) (q : Nat × Value), q ∈ vPrs i l ↔ i ≤ q.1 ∧ l[q.1 - i]? = some (some q.2)
  | [], i, q => by simp [vPrs]
  | none :: r, i, q => by
    rw [vPrs, vPrs_mem r (i + 1) q]
    constructor
    · rintro ⟨h1, h2⟩
      refine ⟨by omega, ?_⟩
      rw [show q.1 - i = (q.1 - (i + 1)) + 1 by omega]
      simpa using h2
    · rintro ⟨h1, h2⟩
      rcases Nat.eq_or_lt_of_le h1 with e | e
      · rw [show q.1 - i = 0 by omega] at h2
        simp at h2
      · refine ⟨e, ?_⟩
        rw [show q.1 - i = (q.1 - (i + 1)) + 1 by omega] at h2
        simpa using h2
  | some v :: r, i, q => by
    rw [vPrs, List.mem_cons, vPrs_mem r (i + 1) q]
    constructor
    · rintro (h | ⟨h1, h2⟩)
      · subst h
        simp
      · refine ⟨by omega, ?_⟩
        rw [show q.1 - i = (q.1 - (i + 1)) + 1 by omega]
        simpa using h2
    · rintro ⟨h1, h2⟩
      rcases Nat.eq_or_lt_of_le h1 with e | e
      · rw [show q.1 - i = 0 by omega] at h2
        left
        have : v = q.2 := by simpa using h2
        rw [this, e]
      · right
        refine ⟨e, ?_⟩
        rw [show q.1 - i = (q.1 - (i + 1)) + 1 by omega] at h2
        simpa using h2
theorem vLk_has {la : Array Slot} {n : Nat} {ls : List (Option Value)} (h : vLk la n ls) : lv_has la n (vPrs 0 ls) := ⟨h.1, h.2.1, fun q hq => h.2.2 q.1 q.2 (by simpa using ((vPrs_mem ls 0 q).mp hq).2)⟩
/-- the value ahead of place i is no long -/
def vNo2 (ls : List (Option Value)) (i : Nat) : Bool := match i with
  | 0 => true
  | j + 1 => match ls[j]? with
    | some (some v) => !(v.category == 2)
    | _ => true
theorem vLk_set1 {la : Array Slot} {n : Nat} {ls : List (Option Value)} {i : Nat} {v : Value} (h0 : vNo2 ls i = true) (h : lv_has la n ((i, v) :: (vPrs 0 ls).filter (fun q => !(q.1 == i) && !(q.1 + 1 == i && q.2.category == 2)))) : vLk la n (ls.set i (some v)) := by
  refine ⟨h.1, h.2.1, fun j w hj => ?_⟩
  by_cases e : i = j
  · subst e
    rw [List.getElem?_set] at hj
    simp only [if_true] at hj
    split at hj
    · have : v = w := by simpa using hj
      subst this
      exact h.2.2 (i, v) List.mem_cons_self
    · cases hj
  · rw [List.getElem?_set, if_neg e] at hj
    refine h.2.2 (j, w) (List.mem_cons_of_mem _ (List.mem_filter.mpr ⟨(vPrs_mem ls 0 (j, w)).mpr ⟨Nat.zero_le _, by simpa using hj⟩, ?_⟩))
    have e2 : ¬ j = i := fun q => e q.symm
    simp only [Bool.and_eq_true, Bool.not_eq_true', beq_eq_false_iff_ne, ne_eq, Bool.and_eq_false_iff, e2, not_false_eq_true, true_and]
    by_cases e3 : j + 1 = i
    · right
      subst e3
      simp only [vNo2, hj] at h0
      simpa using h0
    · left; exact e3
theorem vLk_set2 {la : Array Slot} {n : Nat} {ls : List (Option Value)} {i : Nat} {v : Value} (h0 : vNo2 ls i = true) (h : lv_has la n ((i, v) :: (vPrs 0 ls).filter (fun q => !(q.1 == i) && (!(q.1 == i + 1) && !(q.1 + 1 == i && q.2.category == 2))))) : vLk la n ((ls.set i (some v)).set (i + 1) none) := by
  refine ⟨h.1, h.2.1, fun j w hj => ?_⟩
  rw [List.getElem?_set] at hj
  by_cases e1 : i + 1 = j
  · subst e1
    simp only [if_true] at hj
    split at hj <;> cases hj
  rw [if_neg e1] at hj
  by_cases e : i = j
  · subst e
    rw [List.getElem?_set] at hj
    simp only [if_true] at hj
    split at hj
    · have : v = w := by simpa using hj
      subst this
      exact h.2.2 (i, v) List.mem_cons_self
    · cases hj
  · rw [List.getElem?_set, if_neg e] at hj
    refine h.2.2 (j, w) (List.mem_cons_of_mem _ (List.mem_filter.mpr ⟨(vPrs_mem ls 0 (j, w)).mpr ⟨Nat.zero_le _, by simpa using hj⟩, ?_⟩))
    have e2 : ¬ j = i := fun q => e q.symm
    have e4 : ¬ j = i + 1 := fun q => e1 q.symm
    simp only [Bool.and_eq_true, Bool.not_eq_true', beq_eq_false_iff_ne, ne_eq, Bool.and_eq_false_iff, e2, e4, not_false_eq_true, true_and]
    by_cases e3 : j + 1 = i
    · right
      subst e3
      simp only [vNo2, hj] at h0
      simpa using h0
    · left; exact e3
theorem V.istore_n {j : Fin 4} {x : Int32} (hd : decode mi.2.1 pc = .ok (.istore_n j, 1)) (hn : (j : Nat) < mi.2.2.1) (h0 : vNo2 ls j = true) (k : V G mi ad Q d (pc + 1) (ls.set j (some (.int x))) st σ) : V G mi ad Q d pc ls (.int x :: st) σ := by
  intro p l e s m args below meth c H locs A D cI cZ la O L P Dd S hA
  exact lv_istore_n O.1 O.2.1 hd rfl (vLk_has L) hn rfl (fun la h => k p l e s m args below meth c H locs A D cI cZ la O (vLk_set1 h0 h) P Dd S hA)
theorem V.istore {i : Nat} {x : Int32} (hd : decode mi.2.1 pc = .ok (.istore i, 2)) (hn : i < mi.2.2.1) (h0 : vNo2 ls i = true) (k : V G mi ad Q d (pc + 2) (ls.set i (some (.int x))) st σ) : V G mi ad Q d pc ls (.int x :: st) σ := by
  intro p l e s m args below meth c H locs A D cI cZ la O L P Dd S hA
  exact lv_istore O.1 O.2.1 hd (vLk_has L) hn rfl (fun la h => k p l e s m args below meth c H locs A D cI cZ la O (vLk_set1 h0 h) P Dd S hA)
theorem V.astore_n {j : Fin 4} {x : Nat} (hd : decode mi.2.1 pc = .ok (.astore_n j, 1)) (hn : (j : Nat) < mi.2.2.1) (h0 : vNo2 ls j = true) (k : V G mi ad Q d (pc + 1) (ls.set j (some (.ref x))) st σ) : V G mi ad Q d pc ls (.ref x :: st) σ := by
  intro p l e s m args below meth c H locs A D cI cZ la O L P Dd S hA
  exact lv_astore_n O.1 O.2.1 hd rfl (vLk_has L) hn rfl (fun la h => k p l e s m args below meth c H locs A D cI cZ la O (vLk_set1 h0 h) P Dd S hA)
theorem V.astore {i : Nat} {x : Nat} (hd : decode mi.2.1 pc = .ok (.astore i, 2)) (hn : i < mi.2.2.1) (h0 : vNo2 ls i = true) (k : V G mi ad Q d (pc + 2) (ls.set i (some (.ref x))) st σ) : V G mi ad Q d pc ls (.ref x :: st) σ := by
  intro p l e s m args below meth c H locs A D cI cZ la O L P Dd S hA
  exact lv_astore O.1 O.2.1 hd (vLk_has L) hn rfl (fun la h => k p l e s m args below meth c H locs A D cI cZ la O (vLk_set1 h0 h) P Dd S hA)
theorem V.lstore_n {j : Fin 4} {x : Int64} (hd : decode mi.2.1 pc = .ok (.lstore_n j, 1)) (hn : (j : Nat) + 1 < mi.2.2.1) (h0 : vNo2 ls j = true) (k : V G mi ad Q d (pc + 1) ((ls.set j (some (.long x))).set (j + 1) none) st σ) : V G mi ad Q d pc ls (.long x :: st) σ := by
  intro p l e s m args below meth c H locs A D cI cZ la O L P Dd S hA
  exact lv_lstore_n O.1 O.2.1 hd rfl (vLk_has L) hn rfl (fun la h => k p l e s m args below meth c H locs A D cI cZ la O (vLk_set2 h0 h) P Dd S hA)
theorem V.lstore {i : Nat} {x : Int64} (hd : decode mi.2.1 pc = .ok (.lstore i, 2)) (hn : i + 1 < mi.2.2.1) (h0 : vNo2 ls i = true) (k : V G mi ad Q d (pc + 2) ((ls.set i (some (.long x))).set (i + 1) none) st σ) : V G mi ad Q d pc ls (.long x :: st) σ := by
  intro p l e s m args below meth c H locs A D cI cZ la O L P Dd S hA
  exact lv_lstore O.1 O.2.1 hd (vLk_has L) hn rfl (fun la h => k p l e s m args below meth c H locs A D cI cZ la O (vLk_set2 h0 h) P Dd S hA)
theorem V.iinc {i : Nat} {n : Int} {x v : Int32} (hd : decode mi.2.1 pc = .ok (.iinc i n, 3)) (hl : ls[i]? = some (some (.int x))) (hv : x + Int32.ofInt n = v) (hn : i < mi.2.2.1) (h0 : vNo2 ls i = true) (k : V G mi ad Q d (pc + 3) (ls.set i (some (.int v))) st σ) : V G mi ad Q d pc ls st σ := by
  intro p l e s m args below meth c H locs A D cI cZ la O L P Dd S hA
  have hm : (i, Value.int x) ∈ vPrs 0 ls := (vPrs_mem ls 0 (i, .int x)).mpr ⟨Nat.zero_le _, by simpa using hl⟩
  obtain ⟨q, hq⟩ := List.getElem?_of_mem hm
  exact lv_iinc O.1 O.2.1 hd (vLk_has L) hq hv hn rfl (fun la h => k p l e s m args below meth c H locs A D cI cZ la O (vLk_set1 h0 h) P Dd S hA)
theorem V.iadd {x y : Int32} (hd : decode mi.2.1 pc = .ok (.iadd, 1)) (k : V G mi ad Q d (pc + 1) ls (.int (x + y) :: st) σ) : V G mi ad Q d pc ls (.int y :: .int x :: st) σ := by
  intro p l e s m args below meth c H locs A D cI cZ la O L P Dd S hA
  exact lv_iadd O.1 O.2.1 hd (k p l e s m args below meth c H locs A D cI cZ la O L P Dd S hA)
theorem V.isub {x y : Int32} (hd : decode mi.2.1 pc = .ok (.isub, 1)) (k : V G mi ad Q d (pc + 1) ls (.int (x - y) :: st) σ) : V G mi ad Q d pc ls (.int y :: .int x :: st) σ := by
  intro p l e s m args below meth c H locs A D cI cZ la O L P Dd S hA
  exact lv_isub O.1 O.2.1 hd (k p l e s m args below meth c H locs A D cI cZ la O L P Dd S hA)
theorem V.imul {x y : Int32} (hd : decode mi.2.1 pc = .ok (.imul, 1)) (k : V G mi ad Q d (pc + 1) ls (.int (x * y) :: st) σ) : V G mi ad Q d pc ls (.int y :: .int x :: st) σ := by
  intro p l e s m args below meth c H locs A D cI cZ la O L P Dd S hA
  exact lv_imul O.1 O.2.1 hd (k p l e s m args below meth c H locs A D cI cZ la O L P Dd S hA)
theorem V.iand {x y : Int32} (hd : decode mi.2.1 pc = .ok (.iand, 1)) (k : V G mi ad Q d (pc + 1) ls (.int (x &&& y) :: st) σ) : V G mi ad Q d pc ls (.int y :: .int x :: st) σ := by
  intro p l e s m args below meth c H locs A D cI cZ la O L P Dd S hA
  exact lv_iand O.1 O.2.1 hd (k p l e s m args below meth c H locs A D cI cZ la O L P Dd S hA)
theorem V.ior {x y : Int32} (hd : decode mi.2.1 pc = .ok (.ior, 1)) (k : V G mi ad Q d (pc + 1) ls (.int (x ||| y) :: st) σ) : V G mi ad Q d pc ls (.int y :: .int x :: st) σ := by
  intro p l e s m args below meth c H locs A D cI cZ la O L P Dd S hA
  exact lv_ior O.1 O.2.1 hd (k p l e s m args below meth c H locs A D cI cZ la O L P Dd S hA)
theorem V.ixor {x y : Int32} (hd : decode mi.2.1 pc = .ok (.ixor, 1)) (k : V G mi ad Q d (pc + 1) ls (.int (x ^^^ y) :: st) σ) : V G mi ad Q d pc ls (.int y :: .int x :: st) σ := by
  intro p l e s m args below meth c H locs A D cI cZ la O L P Dd S hA
  exact lv_ixor O.1 O.2.1 hd (k p l e s m args below meth c H locs A D cI cZ la O L P Dd S hA)
theorem V.ishl {x y : Int32} (hd : decode mi.2.1 pc = .ok (.ishl, 1)) (k : V G mi ad Q d (pc + 1) ls (.int (x <<< (y &&& 31)) :: st) σ) : V G mi ad Q d pc ls (.int y :: .int x :: st) σ := by
  intro p l e s m args below meth c H locs A D cI cZ la O L P Dd S hA
  exact lv_ishl O.1 O.2.1 hd (k p l e s m args below meth c H locs A D cI cZ la O L P Dd S hA)
theorem V.ishr {x y : Int32} (hd : decode mi.2.1 pc = .ok (.ishr, 1)) (k : V G mi ad Q d (pc + 1) ls (.int (x >>> (y &&& 31)) :: st) σ) : V G mi ad Q d pc ls (.int y :: .int x :: st) σ := by
  intro p l e s m args below meth c H locs A D cI cZ la O L P Dd S hA
  exact lv_ishr O.1 O.2.1 hd (k p l e s m args below meth c H locs A D cI cZ la O L P Dd S hA)
theorem V.ladd {x y : Int64} (hd : decode mi.2.1 pc = .ok (.ladd, 1)) (k : V G mi ad Q d (pc + 1) ls (.long (x + y) :: st) σ) : V G mi ad Q d pc ls (.long y :: .long x :: st) σ := by
  intro p l e s m args below meth c H locs A D cI cZ la O L P Dd S hA
  exact lv_ladd O.1 O.2.1 hd (k p l e s m args below meth c H locs A D cI cZ la O L P Dd S hA)
theorem V.lsub {x y : Int64} (hd : decode mi.2.1 pc = .ok (.lsub, 1)) (k : V G mi ad Q d (pc + 1) ls (.long (x - y) :: st) σ) : V G mi ad Q d pc ls (.long y :: .long x :: st) σ := by
  intro p l e s m args below meth c H locs A D cI cZ la O L P Dd S hA
  exact lv_lsub O.1 O.2.1 hd (k p l e s m args below meth c H locs A D cI cZ la O L P Dd S hA)
theorem V.lmul {x y : Int64} (hd : decode mi.2.1 pc = .ok (.lmul, 1)) (k : V G mi ad Q d (pc + 1) ls (.long (x * y) :: st) σ) : V G mi ad Q d pc ls (.long y :: .long x :: st) σ := by
  intro p l e s m args below meth c H locs A D cI cZ la O L P Dd S hA
  exact lv_lmul O.1 O.2.1 hd (k p l e s m args below meth c H locs A D cI cZ la O L P Dd S hA)
theorem V.land {x y : Int64} (hd : decode mi.2.1 pc = .ok (.land, 1)) (k : V G mi ad Q d (pc + 1) ls (.long (x &&& y) :: st) σ) : V G mi ad Q d pc ls (.long y :: .long x :: st) σ := by
  intro p l e s m args below meth c H locs A D cI cZ la O L P Dd S hA
  exact lv_land O.1 O.2.1 hd (k p l e s m args below meth c H locs A D cI cZ la O L P Dd S hA)
theorem V.lor {x y : Int64} (hd : decode mi.2.1 pc = .ok (.lor, 1)) (k : V G mi ad Q d (pc + 1) ls (.long (x ||| y) :: st) σ) : V G mi ad Q d pc ls (.long y :: .long x :: st) σ := by
  intro p l e s m args below meth c H locs A D cI cZ la O L P Dd S hA
  exact lv_lor O.1 O.2.1 hd (k p l e s m args below meth c H locs A D cI cZ la O L P Dd S hA)
theorem V.idiv {x y : Int32} (hne : ¬ y = 0) (hd : decode mi.2.1 pc = .ok (.idiv, 1)) (k : V G mi ad Q d (pc + 1) ls (.int (x / y) :: st) σ) : V G mi ad Q d pc ls (.int y :: .int x :: st) σ := by
  intro p l e s m args below meth c H locs A D cI cZ la O L P Dd S hA
  exact lv_idiv O.1 O.2.1 hd hne (k p l e s m args below meth c H locs A D cI cZ la O L P Dd S hA)
theorem V.irem {x y : Int32} (hne : ¬ y = 0) (hd : decode mi.2.1 pc = .ok (.irem, 1)) (k : V G mi ad Q d (pc + 1) ls (.int (x - x / y * y) :: st) σ) : V G mi ad Q d pc ls (.int y :: .int x :: st) σ := by
  intro p l e s m args below meth c H locs A D cI cZ la O L P Dd S hA
  exact lv_irem O.1 O.2.1 hd hne (k p l e s m args below meth c H locs A D cI cZ la O L P Dd S hA)
theorem V.ldiv {x y : Int64} (hne : ¬ y = 0) (hd : decode mi.2.1 pc = .ok (.ldiv, 1)) (k : V G mi ad Q d (pc + 1) ls (.long (x / y) :: st) σ) : V G mi ad Q d pc ls (.long y :: .long x :: st) σ := by
  intro p l e s m args below meth c H locs A D cI cZ la O L P Dd S hA
  exact lv_ldiv O.1 O.2.1 hd hne (k p l e s m args below meth c H locs A D cI cZ la O L P Dd S hA)
theorem V.lrem {x y : Int64} (hne : ¬ y = 0) (hd : decode mi.2.1 pc = .ok (.lrem, 1)) (k : V G mi ad Q d (pc + 1) ls (.long (x - x / y * y) :: st) σ) : V G mi ad Q d pc ls (.long y :: .long x :: st) σ := by
  intro p l e s m args below meth c H locs A D cI cZ la O L P Dd S hA
  exact lv_lrem O.1 O.2.1 hd hne (k p l e s m args below meth c H locs A D cI cZ la O L P Dd S hA)
theorem V.ineg {x : Int32} (hd : decode mi.2.1 pc = .ok (.ineg, 1)) (k : V G mi ad Q d (pc + 1) ls (.int (-x) :: st) σ) : V G mi ad Q d pc ls (.int x :: st) σ := by
  intro p l e s m args below meth c H locs A D cI cZ la O L P Dd S hA
  exact lv_ineg O.1 O.2.1 hd (k p l e s m args below meth c H locs A D cI cZ la O L P Dd S hA)
theorem V.i2l {x : Int32} (hd : decode mi.2.1 pc = .ok (.i2l, 1)) (k : V G mi ad Q d (pc + 1) ls (.long x.toInt64 :: st) σ) : V G mi ad Q d pc ls (.int x :: st) σ := by
  intro p l e s m args below meth c H locs A D cI cZ la O L P Dd S hA
  exact lv_i2l O.1 O.2.1 hd rfl (k p l e s m args below meth c H locs A D cI cZ la O L P Dd S hA)
theorem V.i2b {x : Int32} (hd : decode mi.2.1 pc = .ok (.i2b, 1)) (k : V G mi ad Q d (pc + 1) ls (.int x.toInt8.toInt32 :: st) σ) : V G mi ad Q d pc ls (.int x :: st) σ := by
  intro p l e s m args below meth c H locs A D cI cZ la O L P Dd S hA
  exact lv_i2b O.1 O.2.1 hd rfl (k p l e s m args below meth c H locs A D cI cZ la O L P Dd S hA)
theorem V.i2s {x : Int32} (hd : decode mi.2.1 pc = .ok (.i2s, 1)) (k : V G mi ad Q d (pc + 1) ls (.int x.toInt16.toInt32 :: st) σ) : V G mi ad Q d pc ls (.int x :: st) σ := by
  intro p l e s m args below meth c H locs A D cI cZ la O L P Dd S hA
  exact lv_i2s O.1 O.2.1 hd rfl (k p l e s m args below meth c H locs A D cI cZ la O L P Dd S hA)
theorem V.iushr {x y : Int32} (hd : decode mi.2.1 pc = .ok (.iushr, 1)) (k : V G mi ad Q d (pc + 1) ls (.int (x.toUInt32 >>> (y.toUInt32 &&& Int32.toUInt32 31)).toInt32 :: st) σ) : V G mi ad Q d pc ls (.int y :: .int x :: st) σ := by
  intro p l e s m args below meth c H locs A D cI cZ la O L P Dd S hA
  exact lv_iushr O.1 O.2.1 hd rfl (k p l e s m args below meth c H locs A D cI cZ la O L P Dd S hA)
theorem V.lshl {x : Int64} {y : Int32} (hd : decode mi.2.1 pc = .ok (.lshl, 1)) (k : V G mi ad Q d (pc + 1) ls (.long (x <<< (y.toInt64 &&& 63)) :: st) σ) : V G mi ad Q d pc ls (.int y :: .long x :: st) σ := by
  intro p l e s m args below meth c H locs A D cI cZ la O L P Dd S hA
  exact lv_lshl O.1 O.2.1 hd rfl (k p l e s m args below meth c H locs A D cI cZ la O L P Dd S hA)
theorem V.lshr {x : Int64} {y : Int32} (hd : decode mi.2.1 pc = .ok (.lshr, 1)) (k : V G mi ad Q d (pc + 1) ls (.long (x >>> (y.toInt64 &&& 63)) :: st) σ) : V G mi ad Q d pc ls (.int y :: .long x :: st) σ := by
  intro p l e s m args below meth c H locs A D cI cZ la O L P Dd S hA
  exact lv_lshr O.1 O.2.1 hd rfl (k p l e s m args below meth c H locs A D cI cZ la O L P Dd S hA)
theorem V.lcmp {x y : Int64} (hd : decode mi.2.1 pc = .ok (.lcmp, 1)) (k : V G mi ad Q d (pc + 1) ls (.int (lg_cmp x y) :: st) σ) : V G mi ad Q d pc ls (.long y :: .long x :: st) σ := by
  intro p l e s m args below meth c H locs A D cI cZ la O L P Dd S hA
  exact W.lcmp O.1 O.2.1 hd (k p l e s m args below meth c H locs A D cI cZ la O L P Dd S hA)
theorem V.dup {x : Value} (h1 : x.category = 1) (hd : decode mi.2.1 pc = .ok (.dup, 1)) (k : V G mi ad Q d (pc + 1) ls (x :: x :: st) σ) : V G mi ad Q d pc ls (x :: st) σ := by
  intro p l e s m args below meth c H locs A D cI cZ la O L P Dd S hA
  exact lv_dup O.1 O.2.1 hd h1 (k p l e s m args below meth c H locs A D cI cZ la O L P Dd S hA)
theorem V.pop {x : Value} (h1 : x.category = 1) (hd : decode mi.2.1 pc = .ok (.pop, 1)) (k : V G mi ad Q d (pc + 1) ls (st) σ) : V G mi ad Q d pc ls (x :: st) σ := by
  intro p l e s m args below meth c H locs A D cI cZ la O L P Dd S hA
  exact lv_pop O.1 O.2.1 hd h1 (k p l e s m args below meth c H locs A D cI cZ la O L P Dd S hA)
theorem V.dup2 {x y : Value} (h1 : x.category = 1) (h2 : y.category = 1) (hd : decode mi.2.1 pc = .ok (.dup2, 1)) (k : V G mi ad Q d (pc + 1) ls (x :: y :: x :: y :: st) σ) : V G mi ad Q d pc ls (x :: y :: st) σ := by
  intro p l e s m args below meth c H locs A D cI cZ la O L P Dd S hA
  exact lv_dup2_11 O.1 O.2.1 hd h1 h2 (k p l e s m args below meth c H locs A D cI cZ la O L P Dd S hA)
theorem V.if_eq {x : Int32} {off : Int} {tgt : Nat} (hd : decode mi.2.1 pc = .ok (.ifCond .eq off, 3)) (ht : (pc : Int) + off = (tgt : Int)) (kt : x = 0 → V G mi ad Q d tgt ls st σ) (kf : ¬ x = 0 → V G mi ad Q d (pc + 3) ls st σ) : V G mi ad Q d pc ls (.int x :: st) σ := by
  intro p l e s m args below meth c H locs A D cI cZ la O L P Dd S hA
  exact lv_if_eq O.1 O.2.1 hd ht (fun h => kt h p l e s m args below meth c H locs A D cI cZ la O L P Dd S hA) (fun h => kf h p l e s m args below meth c H locs A D cI cZ la O L P Dd S hA)
theorem V.icmp_eq {x y : Int32} {off : Int} {tgt : Nat} (hd : decode mi.2.1 pc = .ok (.if_icmp .eq off, 3)) (ht : (pc : Int) + off = (tgt : Int)) (kt : x = y → V G mi ad Q d tgt ls st σ) (kf : ¬ x = y → V G mi ad Q d (pc + 3) ls st σ) : V G mi ad Q d pc ls (.int y :: .int x :: st) σ := by
  intro p l e s m args below meth c H locs A D cI cZ la O L P Dd S hA
  exact lv_icmp_eq O.1 O.2.1 hd ht (fun h => kt h p l e s m args below meth c H locs A D cI cZ la O L P Dd S hA) (fun h => kf h p l e s m args below meth c H locs A D cI cZ la O L P Dd S hA)
theorem V.if_ne {x : Int32} {off : Int} {tgt : Nat} (hd : decode mi.2.1 pc = .ok (.ifCond .ne off, 3)) (ht : (pc : Int) + off = (tgt : Int)) (kt : ¬ x = 0 → V G mi ad Q d tgt ls st σ) (kf : x = 0 → V G mi ad Q d (pc + 3) ls st σ) : V G mi ad Q d pc ls (.int x :: st) σ := by
  intro p l e s m args below meth c H locs A D cI cZ la O L P Dd S hA
  exact lv_if_ne O.1 O.2.1 hd ht (fun h => kt h p l e s m args below meth c H locs A D cI cZ la O L P Dd S hA) (fun h => kf h p l e s m args below meth c H locs A D cI cZ la O L P Dd S hA)
theorem V.icmp_ne {x y : Int32} {off : Int} {tgt : Nat} (hd : decode mi.2.1 pc = .ok (.if_icmp .ne off, 3)) (ht : (pc : Int) + off = (tgt : Int)) (kt : ¬ x = y → V G mi ad Q d tgt ls st σ) (kf : x = y → V G mi ad Q d (pc + 3) ls st σ) : V G mi ad Q d pc ls (.int y :: .int x :: st) σ := by
  intro p l e s m args below meth c H locs A D cI cZ la O L P Dd S hA
  exact lv_icmp_ne O.1 O.2.1 hd ht (fun h => kt h p l e s m args below meth c H locs A D cI cZ la O L P Dd S hA) (fun h => kf h p l e s m args below meth c H locs A D cI cZ la O L P Dd S hA)
theorem V.if_lt {x : Int32} {off : Int} {tgt : Nat} (hd : decode mi.2.1 pc = .ok (.ifCond .lt off, 3)) (ht : (pc : Int) + off = (tgt : Int)) (kt : x < 0 → V G mi ad Q d tgt ls st σ) (kf : ¬ x < 0 → V G mi ad Q d (pc + 3) ls st σ) : V G mi ad Q d pc ls (.int x :: st) σ := by
  intro p l e s m args below meth c H locs A D cI cZ la O L P Dd S hA
  exact lv_if_lt O.1 O.2.1 hd ht (fun h => kt h p l e s m args below meth c H locs A D cI cZ la O L P Dd S hA) (fun h => kf h p l e s m args below meth c H locs A D cI cZ la O L P Dd S hA)
theorem V.icmp_lt {x y : Int32} {off : Int} {tgt : Nat} (hd : decode mi.2.1 pc = .ok (.if_icmp .lt off, 3)) (ht : (pc : Int) + off = (tgt : Int)) (kt : x < y → V G mi ad Q d tgt ls st σ) (kf : ¬ x < y → V G mi ad Q d (pc + 3) ls st σ) : V G mi ad Q d pc ls (.int y :: .int x :: st) σ := by
  intro p l e s m args below meth c H locs A D cI cZ la O L P Dd S hA
  exact lv_icmp_lt O.1 O.2.1 hd ht (fun h => kt h p l e s m args below meth c H locs A D cI cZ la O L P Dd S hA) (fun h => kf h p l e s m args below meth c H locs A D cI cZ la O L P Dd S hA)
theorem V.if_ge {x : Int32} {off : Int} {tgt : Nat} (hd : decode mi.2.1 pc = .ok (.ifCond .ge off, 3)) (ht : (pc : Int) + off = (tgt : Int)) (kt : 0 ≤ x → V G mi ad Q d tgt ls st σ) (kf : ¬ 0 ≤ x → V G mi ad Q d (pc + 3) ls st σ) : V G mi ad Q d pc ls (.int x :: st) σ := by
  intro p l e s m args below meth c H locs A D cI cZ la O L P Dd S hA
  exact lv_if_ge O.1 O.2.1 hd ht (fun h => kt h p l e s m args below meth c H locs A D cI cZ la O L P Dd S hA) (fun h => kf h p l e s m args below meth c H locs A D cI cZ la O L P Dd S hA)
theorem V.icmp_ge {x y : Int32} {off : Int} {tgt : Nat} (hd : decode mi.2.1 pc = .ok (.if_icmp .ge off, 3)) (ht : (pc : Int) + off = (tgt : Int)) (kt : y ≤ x → V G mi ad Q d tgt ls st σ) (kf : ¬ y ≤ x → V G mi ad Q d (pc + 3) ls st σ) : V G mi ad Q d pc ls (.int y :: .int x :: st) σ := by
  intro p l e s m args below meth c H locs A D cI cZ la O L P Dd S hA
  exact lv_icmp_ge O.1 O.2.1 hd ht (fun h => kt h p l e s m args below meth c H locs A D cI cZ la O L P Dd S hA) (fun h => kf h p l e s m args below meth c H locs A D cI cZ la O L P Dd S hA)
theorem V.if_gt {x : Int32} {off : Int} {tgt : Nat} (hd : decode mi.2.1 pc = .ok (.ifCond .gt off, 3)) (ht : (pc : Int) + off = (tgt : Int)) (kt : 0 < x → V G mi ad Q d tgt ls st σ) (kf : ¬ 0 < x → V G mi ad Q d (pc + 3) ls st σ) : V G mi ad Q d pc ls (.int x :: st) σ := by
  intro p l e s m args below meth c H locs A D cI cZ la O L P Dd S hA
  exact lv_if_gt O.1 O.2.1 hd ht (fun h => kt h p l e s m args below meth c H locs A D cI cZ la O L P Dd S hA) (fun h => kf h p l e s m args below meth c H locs A D cI cZ la O L P Dd S hA)
theorem V.icmp_gt {x y : Int32} {off : Int} {tgt : Nat} (hd : decode mi.2.1 pc = .ok (.if_icmp .gt off, 3)) (ht : (pc : Int) + off = (tgt : Int)) (kt : y < x → V G mi ad Q d tgt ls st σ) (kf : ¬ y < x → V G mi ad Q d (pc + 3) ls st σ) : V G mi ad Q d pc ls (.int y :: .int x :: st) σ := by
  intro p l e s m args below meth c H locs A D cI cZ la O L P Dd S hA
  exact lv_icmp_gt O.1 O.2.1 hd ht (fun h => kt h p l e s m args below meth c H locs A D cI cZ la O L P Dd S hA) (fun h => kf h p l e s m args below meth c H locs A D cI cZ la O L P Dd S hA)
theorem V.if_le {x : Int32} {off : Int} {tgt : Nat} (hd : decode mi.2.1 pc = .ok (.ifCond .le off, 3)) (ht : (pc : Int) + off = (tgt : Int)) (kt : x ≤ 0 → V G mi ad Q d tgt ls st σ) (kf : ¬ x ≤ 0 → V G mi ad Q d (pc + 3) ls st σ) : V G mi ad Q d pc ls (.int x :: st) σ := by
  intro p l e s m args below meth c H locs A D cI cZ la O L P Dd S hA
  exact lv_if_le O.1 O.2.1 hd ht (fun h => kt h p l e s m args below meth c H locs A D cI cZ la O L P Dd S hA) (fun h => kf h p l e s m args below meth c H locs A D cI cZ la O L P Dd S hA)
theorem V.icmp_le {x y : Int32} {off : Int} {tgt : Nat} (hd : decode mi.2.1 pc = .ok (.if_icmp .le off, 3)) (ht : (pc : Int) + off = (tgt : Int)) (kt : x ≤ y → V G mi ad Q d tgt ls st σ) (kf : ¬ x ≤ y → V G mi ad Q d (pc + 3) ls st σ) : V G mi ad Q d pc ls (.int y :: .int x :: st) σ := by
  intro p l e s m args below meth c H locs A D cI cZ la O L P Dd S hA
  exact lv_icmp_le O.1 O.2.1 hd ht (fun h => kt h p l e s m args below meth c H locs A D cI cZ la O L P Dd S hA) (fun h => kf h p l e s m args below meth c H locs A D cI cZ la O L P Dd S hA)
theorem V.goto {off : Int} {tgt : Nat} (hd : decode mi.2.1 pc = .ok (.goto off, 3)) (ht : (pc : Int) + off = (tgt : Int)) (k : V G mi ad Q d tgt ls st σ) : V G mi ad Q d pc ls st σ := by
  intro p l e s m args below meth c H locs A D cI cZ la O L P Dd S hA
  exact lv_goto O.1 O.2.1 hd ht (k p l e s m args below meth c H locs A D cI cZ la O L P Dd S hA)
theorem V.lookup {dflt : Int} {ps : Array (Int × Int)} {len : Nat} {x : Int32} {off : Int} {tgt : Nat} (hd : decode mi.2.1 pc = .ok (.lookupswitch dflt ps, len)) (hp : (ps.toList.zip (ps.toList.drop 1)).all (fun (a, next) => a.1 < next.1) = true) (ho : Op.lookupswitch.offset ps.toList dflt x.toInt = off) (ht : (pc : Int) + off = (tgt : Int)) (k : V G mi ad Q d tgt ls st σ) : V G mi ad Q d pc ls (.int x :: st) σ := by
  intro p l e s m args below meth c H locs A D cI cZ la O L P Dd S hA
  exact lv_lookup O.1 O.2.1 hd hp ho ht (k p l e s m args below meth c H locs A D cI cZ la O L P Dd S hA)
theorem V.tableOut {dflt lo hi : Int} {offs : Array Int} {len : Nat} {x : Int32} {tgt : Nat} (hd : decode mi.2.1 pc = .ok (.tableswitch dflt lo hi offs, len)) (h : x.toInt < lo ∨ hi < x.toInt) (ht : (pc : Int) + dflt = (tgt : Int)) (k : V G mi ad Q d tgt ls st σ) : V G mi ad Q d pc ls (.int x :: st) σ := by
  intro p l e s m args below meth c H locs A D cI cZ la O L P Dd S hA
  exact lv_tableOut O.1 O.2.1 hd h ht (k p l e s m args below meth c H locs A D cI cZ la O L P Dd S hA)
theorem V.tableIn {dflt lo hi : Int} {offs : Array Int} {len : Nat} {x : Int32} {off : Int} {tgt : Nat} (hd : decode mi.2.1 pc = .ok (.tableswitch dflt lo hi offs, len)) (h1 : ¬ x.toInt < lo) (h2 : ¬ hi < x.toInt) (ho : offs[(x.toInt - lo).toNat]? = some off) (ht : (pc : Int) + off = (tgt : Int)) (k : V G mi ad Q d tgt ls st σ) : V G mi ad Q d pc ls (.int x :: st) σ := by
  intro p l e s m args below meth c H locs A D cI cZ la O L P Dd S hA
  exact lv_tableIn O.1 O.2.1 hd h1 h2 ho ht (k p l e s m args below meth c H locs A D cI cZ la O L P Dd S hA)
theorem V.iret {x : Int32} (hd : decode mi.2.1 pc = .ok (.ireturn, 1)) (hr : mi.2.2.2 = some .int) (hq : Q (some (.int x)) σ) : V G mi ad Q d pc ls [.int x] σ := by
  intro p l e s m args below meth c H locs A D cI cZ la O L P Dd S hA
  exact W.iret O.1 O.2.1 (O.2.2.2.1.trans hr) (fun t ht _ => ⟨_, σ, rfl, hq, by rw [ht]; exact P, S.F ht⟩) S.2.2 hd (hlocks := O.2.2.2.2.1.1)
theorem V.lret {x : Int64} (hd : decode mi.2.1 pc = .ok (.lreturn, 1)) (hr : mi.2.2.2 = some .long) (hq : Q (some (.long x)) σ) : V G mi ad Q d pc ls [.long x] σ := by
  intro p l e s m args below meth c H locs A D cI cZ la O L P Dd S hA
  exact W.lret O.1 O.2.1 (O.2.2.2.1.trans hr) (fun t ht _ => ⟨_, σ, rfl, hq, by rw [ht]; exact P, S.F ht⟩) S.2.2 hd (hlocks := O.2.2.2.2.1.1)
theorem V.vret (hd : decode mi.2.1 pc = .ok (.return_, 1)) (hr : mi.2.2.2 = none) (hq : Q (none) σ) : V G mi ad Q d pc ls [] σ := by
  intro p l e s m args below meth c H locs A D cI cZ la O L P Dd S hA
  exact W.vret O.1 O.2.1 (O.2.2.2.1.trans hr) (fun t ht _ => ⟨_, σ, rfl, hq, by rw [ht]; exact P, S.F ht⟩) S.2.2 hd (hlocks := O.2.2.2.2.1.1)
theorem vNarZ {x : Int32} (h : x = 0 ∨ x = 1) : narrow .boolean (.int x) = .int x := by rcases h with rfl | rfl <;> rfl
theorem V.zret {x : Int32} (hd : decode mi.2.1 pc = .ok (.ireturn, 1)) (hr : mi.2.2.2 = some .boolean) (hz : x = 0 ∨ x = 1) (hq : Q (some (.int x)) σ) : V G mi ad Q d pc ls [.int x] σ := by
  intro p l e s m args below meth c H locs A D cI cZ la O L P Dd S hA
  exact W.zret O.1 O.2.1 (O.2.2.2.1.trans hr) (vNarZ hz) (fun t ht _ => ⟨_, σ, rfl, hq, by rw [ht]; exact P, S.F ht⟩) S.2.2 hd (hlocks := O.2.2.2.2.1.1)
theorem V.aret {a : Nat} {n : String} (hd : decode mi.2.1 pc = .ok (.areturn, 1)) (hr : mi.2.2.2 = some (.object n)) (hq : Q (some (.ref a)) σ) : V G mi ad Q d pc ls [.ref a] σ := by
  intro p l e s m args below meth c H locs A D cI cZ la O L P Dd S hA
  exact W.aret O.1 O.2.1 (O.2.2.2.1.trans hr) (Or.inl ⟨n, rfl⟩) (Or.inr ⟨a, rfl⟩) (fun t ht _ => ⟨_, σ, rfl, hq, by rw [ht]; exact P, S.F ht⟩) S.2.2 hd (hlocks := O.2.2.2.2.1.1)
theorem vCl {ci k : Nat} (hk : ci < 9) : ∃ (C : String) (T : u_T), classes[ci]? = some (C, T, vN ci) := by
  match ci, hk with
  | 0, _ => exact ⟨_, _, rfl⟩
  | 1, _ => exact ⟨_, _, rfl⟩
  | 2, _ => exact ⟨_, _, rfl⟩
  | 3, _ => exact ⟨_, _, rfl⟩
  | 4, _ => exact ⟨_, _, rfl⟩
  | 5, _ => exact ⟨_, _, rfl⟩
  | 6, _ => exact ⟨_, _, rfl⟩
  | 7, _ => exact ⟨_, _, rfl⟩
  | 8, _ => exact ⟨_, _, rfl⟩
theorem vCell_obj {cI cZ : ClassId} {G : vCfg} {n ci z : Nat} (hg : G.2.1 n = (ci + 2, z)) : vCell cI cZ ad G σ n = .inr (ci, (List.range (vN ci)).map (fun j => vFld ad G σ n j (vTy ci j))) := by
  unfold vCell
  rw [hg]
theorem V.get {n ci k idx z : Nat} {v : Value} (hd : decode mi.2.1 pc = .ok (.getfield idx, 3)) (hf : vFL mi.1.cls idx ci k) (hn : n < G.1) (hg : G.2.1 n = (ci + 2, z)) (hc9 : ci < 9) (hv : vFld ad G σ n k (vTy ci k) = v) (kk : V G mi ad Q d (pc + 3) ls (v :: st) σ) : V G mi ad Q d pc ls (.ref (ad n) :: st) σ := by
  intro p l e s m args below meth c H locs A D cI cZ la O L P Dd S hA
  obtain ⟨C, T, hc⟩ := vCl (ci := ci) (k := k) hc9
  obtain ⟨hk, hl⟩ := hf C T _ hc
  have hw : (vW cI cZ ad G σ)[n]? = some (ad n, .inr (ci, (List.range (vN ci)).map (fun j => vFld ad G σ n j (vTy ci j)))) := by rw [vW_get _ _ _ _ _ hn, vCell_obj hg]
  have hfs : ((List.range (vN ci)).map (fun j => vFld ad G σ n j (vTy ci j)))[k]? = some v := by simp [hk, hv]
  rcases hl with hl | ⟨host, hl⟩
  · exact va_get O.1 O.2.1 O.2.2.2.2.2.2.1 (vIn hc) O.2.2.2.2.2.1 O.2.2.2.2.2.2.2 P n hw hc k hk (O.2.2.2.2.2.2.1 _ hl) (fun _ h => h) hfs hd (kk p l e s m args below meth c H locs A D cI cZ la O L P Dd S hA)
  · exact va_getN O.1 O.2.1 O.2.2.2.2.2.2.1 (vIn hc) O.2.2.2.2.2.1 O.2.2.2.2.2.2.2 P n hw hc k hk (va_Nw.use rfl (hl s O.2.2.2.2.1.2)) (fun _ h => h) hfs hd (kk p l e s m args below meth c H locs A D cI cZ la O L P Dd S hA)
theorem V.put {n ci k idx z : Nat} {v : Value} {τ : vMem} (hd : decode mi.2.1 pc = .ok (.putfield idx, 3)) (hf : vFP mi.1.cls idx ci k) (hn : n < G.1) (hg : G.2.1 n = (ci + 2, z)) (hc9 : ci < 9) (hnar : narrow (vTy ci k) v = v) (hfit : fits (vTy ci k) v = true) (hv : vFld ad G τ n k (vTy ci k) = v)
    (hne : ∀ a, a ≠ n → τ.1 a = σ.1 a) (hneL : ∀ a, a ≠ n → τ.2 a = σ.2 a) (hq : ∀ j, j ≠ k → τ.1 n j = σ.1 n j) (hqL : ∀ j, j ≠ k → τ.2 n j = σ.2 n j) (kk : V G mi ad Q d (pc + 3) ls st τ) : V G mi ad Q d pc ls (v :: .ref (ad n) :: st) σ := by
  intro p l e s m args below meth c H locs A D cI cZ la O L P Dd S hA
  obtain ⟨C, T, hc⟩ := vCl (ci := ci) (k := k) hc9
  obtain ⟨hk, hfin, hl⟩ := hf C T _ hc
  have hw : (vW cI cZ ad G σ)[n]? = some (ad n, .inr (ci, (List.range (vN ci)).map (fun j => vFld ad G σ n j (vTy ci j)))) := by rw [vW_get _ _ _ _ _ hn, vCell_obj hg]
  refine va_put O.1 O.2.1 O.2.2.2.2.2.2.1 (vIn hc) (vTy ci) (vTy_ok hc) (vNm hc) O.2.2.2.2.2.1 O.2.2.2.2.2.2.2 P Dd S n hw hc k hk (O.2.2.2.2.2.2.1 _ hl) (fun _ h => h) hfin (vTy_ok hc k hk) hnar hfit (by simpa using hk) hd (fun H1 locs1 hP hD hS => ?_)
  rw [vW_obj cI cZ ad G hn hg hk hv hne hneL hq hqL] at hP hD
  exact kk p l e s m args below meth c H1 locs1 A D cI cZ la O L hP hD hS hA
theorem upd_ne {f : Nat → Int32} {k j : Nat} {x : Int32} (h : j ≠ k) : upd f k x j = f j := by simp [upd, h]
theorem upd_eq {f : Nat → Int32} {k : Nat} {x : Int32} : upd f k x k = x := by simp [upd]
theorem V.putI {n ci k idx z : Nat} {x : Int32} (hd : decode mi.2.1 pc = .ok (.putfield idx, 3)) (hf : vFP mi.1.cls idx ci k) (hn : n < G.1) (hg : G.2.1 n = (ci + 2, z)) (hc9 : ci < 9) (ht : vTy ci k = .int) (kk : V G mi ad Q d (pc + 3) ls st (vup σ n k x)) : V G mi ad Q d pc ls (.int x :: .ref (ad n) :: st) σ :=
  V.put hd hf hn hg hc9 (by rw [ht]; rfl) (by rw [ht]; rfl) (by rw [ht]; show Value.int _ = _; rw [vup_eq, upd_eq]) (fun a h => vup_ne σ x h) (fun _ _ => rfl) (fun j h => by rw [vup_eq, upd_ne h]) (fun _ _ => rfl) kk
theorem V.putZ {n ci k idx z : Nat} {x : Int32} (hd : decode mi.2.1 pc = .ok (.putfield idx, 3)) (hf : vFP mi.1.cls idx ci k) (hn : n < G.1) (hg : G.2.1 n = (ci + 2, z)) (hc9 : ci < 9) (ht : vTy ci k = .boolean) (hx : x = 0 ∨ x = 1) (kk : V G mi ad Q d (pc + 3) ls st (vup σ n k x)) : V G mi ad Q d pc ls (.int x :: .ref (ad n) :: st) σ :=
  V.put hd hf hn hg hc9 (by rw [ht]; exact vNarZ hx) (by rw [ht]; rcases hx with rfl | rfl <;> rfl) (by rw [ht]; show Value.int _ = _; rw [vup_eq, upd_eq]) (fun a h => vup_ne σ x h) (fun _ _ => rfl) (fun j h => by rw [vup_eq, upd_ne h]) (fun _ _ => rfl) kk
theorem V.putL {n ci k idx z : Nat} {x : Int64} (hd : decode mi.2.1 pc = .ok (.putfield idx, 3)) (hf : vFP mi.1.cls idx ci k) (hn : n < G.1) (hg : G.2.1 n = (ci + 2, z)) (hc9 : ci < 9) (ht : vTy ci k = .long) (kk : V G mi ad Q d (pc + 3) ls st (vupL σ n k x)) : V G mi ad Q d pc ls (.long x :: .ref (ad n) :: st) σ :=
  V.put (τ := vupL σ n k x) hd hf hn hg hc9 (by rw [ht]; rfl) (by rw [ht]; rfl) (by rw [ht]; show Value.long _ = _; simp [vupL]) (fun _ _ => rfl) (fun a h => vupL_ne σ x h) (fun _ _ => rfl) (fun j h => by simp [vupL, h]) kk
theorem vCell_int {cI cZ : ClassId} {G : vCfg} {n len : Nat} (hg : G.2.1 n = (0, len)) : vCell cI cZ ad G σ n = .inl (cI, len, .inl (σ.1 n)) := by
  unfold vCell
  rw [hg]
theorem vCell_boo {cI cZ : ClassId} {G : vCfg} {n len : Nat} (hg : G.2.1 n = (1, len)) : vCell cI cZ ad G σ n = .inl (cZ, len, .inl (σ.1 n)) := by
  unfold vCell
  rw [hg]
theorem V.iald {n len : Nat} {i : Int32} (hd : decode mi.2.1 pc = .ok (.iaload, 1)) (hn : n < G.1) (hg : G.2.1 n = (0, len)) (hi : vp_in i len) (kk : V G mi ad Q d (pc + 1) ls (.int (σ.1 n i.toNatClampNeg) :: st) σ) : V G mi ad Q d pc ls (.int i :: .ref (ad n) :: st) σ := by
  intro p l e s m args below meth c H locs A D cI cZ la O L P Dd S hA
  exact va_iald O.1 O.2.1 O.2.2.2.2.2.2.2 P n 0 (by rw [vW_get _ _ _ _ _ hn, vCell_int hg]) rfl hi hd (kk p l e s m args below meth c H locs A D cI cZ la O L P Dd S hA)
theorem V.zald {n len : Nat} {i : Int32} (hd : decode mi.2.1 pc = .ok (.baload, 1)) (hn : n < G.1) (hg : G.2.1 n = (1, len)) (hi : vp_in i len) (kk : V G mi ad Q d (pc + 1) ls (.int (σ.1 n i.toNatClampNeg) :: st) σ) : V G mi ad Q d pc ls (.int i :: .ref (ad n) :: st) σ := by
  intro p l e s m args below meth c H locs A D cI cZ la O L P Dd S hA
  exact va_zald O.1 O.2.1 O.2.2.2.2.2.2.2 P n 1 (by rw [vW_get _ _ _ _ _ hn, vCell_boo hg]) rfl hi hd (kk p l e s m args below meth c H locs A D cI cZ la O L P Dd S hA)
theorem V.iast {n len : Nat} {i x : Int32} (hd : decode mi.2.1 pc = .ok (.iastore, 1)) (hn : n < G.1) (hg : G.2.1 n = (0, len)) (hi : vp_in i len) (kk : V G mi ad Q d (pc + 1) ls st (vup σ n i.toNatClampNeg x)) : V G mi ad Q d pc ls (.int x :: .int i :: .ref (ad n) :: st) σ := by
  intro p l e s m args below meth c H locs A D cI cZ la O L P Dd S hA
  refine va_iast O.1 O.2.1 O.2.2.2.2.2.2.2 P Dd S n 0 (by rw [vW_get _ _ _ _ _ hn, vCell_int hg]) rfl hi hd (fun H1 locs1 hP hD hS => ?_)
  rw [← vup_eq, ← vCell_int (cZ := cZ) (ad := ad) hg, vW_arr cI cZ ad G hn (fun a h => vup_ne σ x h) rfl] at hP hD
  exact kk p l e s m args below meth c H1 locs1 A D cI cZ la O L hP hD hS hA
theorem vp_narZ {x : Int32} (h : x = 0 ∨ x = 1) : vp_nar .boolean x = x := by rcases h with rfl | rfl <;> rfl
theorem V.zast {n len : Nat} {i x : Int32} (hd : decode mi.2.1 pc = .ok (.bastore, 1)) (hn : n < G.1) (hg : G.2.1 n = (1, len)) (hi : vp_in i len) (hx : x = 0 ∨ x = 1) (kk : V G mi ad Q d (pc + 1) ls st (vup σ n i.toNatClampNeg x)) : V G mi ad Q d pc ls (.int x :: .int i :: .ref (ad n) :: st) σ := by
  intro p l e s m args below meth c H locs A D cI cZ la O L P Dd S hA
  refine va_zast O.1 O.2.1 O.2.2.2.2.2.2.2 P Dd S n 1 (by rw [vW_get _ _ _ _ _ hn, vCell_boo hg]) rfl hi hd (fun H1 locs1 hP hD hS => ?_)
  rw [vp_narZ hx, ← vup_eq, ← vCell_boo (cI := cI) (ad := ad) hg, vW_arr cI cZ ad G hn (fun a h => vup_ne σ x h) rfl] at hP hD
  exact kk p l e s m args below meth c H1 locs1 A D cI cZ la O L hP hD hS hA
theorem V.alen {n len : Nat} {v : Int32} (hd : decode mi.2.1 pc = .ok (.arraylength, 1)) (hn : n < G.1) (hg : G.2.1 n = (0, len)) (hv : Int32.ofNat len = v) (kk : V G mi ad Q d (pc + 1) ls (.int v :: st) σ) : V G mi ad Q d pc ls (.ref (ad n) :: st) σ := by
  intro p l e s m args below meth c H locs A D cI cZ la O L P Dd S hA
  exact va_alen O.1 O.2.1 O.2.2.2.2.2.2.2 P n 0 (by rw [vW_get _ _ _ _ _ hn, vCell_int hg]) rfl hv hd (kk p l e s m args below meth c H locs A D cI cZ la O L P Dd S hA)
theorem V.copy {n0 n1 l0 l1 idx : Nat} {sp dp n : Int32} (hd : decode mi.2.1 pc = .ok (.invokestatic idx, 3)) (hlk : Cond.methodLink mi.1.cls idx arraycopyName ∈ vTbl) (hnat : Cond.native arraycopyName ∈ vTbl) (hsta : Cond.static arraycopyName ∈ vTbl) (hini : Cond.initialized "java/lang/System" ∈ vTbl)
    (hn0 : n0 < G.1) (hg0 : G.2.1 n0 = (0, l0)) (hn1 : n1 < G.1) (hg1 : G.2.1 n1 = (0, l1)) (h1 : ¬ sp < 0) (h2 : ¬ dp < 0) (h3 : ¬ n < 0) (h4 : sp.toNatClampNeg + n.toNatClampNeg ≤ l0) (h5 : dp.toNatClampNeg + n.toNatClampNeg ≤ l1) (hfr : 1 ≤ d) (hlo : (st.map fun v => v.category).sum + (nativeFrameWords "java/lang/System" "arraycopy" 5 + 11) ≤ 40 * d)
    (kk : V G mi ad Q d (pc + 3) ls st (vcp σ n0 n1 sp.toNatClampNeg dp.toNatClampNeg n.toNatClampNeg)) : V G mi ad Q d pc ls (.int n :: .int dp :: .ref (ad n1) :: .int sp :: .ref (ad n0) :: st) σ := by
  intro p l e s m args below meth c H locs A D cI cZ la O L P Dd S hA
  refine va_copyi (ty := .int) O.1 O.2.1 (O.2.2.1.trans L.1.symm) O.2.2.2.2.2.1 (O.2.2.2.2.2.2.1 _ hlk) (O.2.2.2.2.2.2.1 _ hnat) (O.2.2.2.2.2.2.1 _ hsta) (O.2.2.2.2.2.2.1 _ hini) O.2.2.2.2.2.2.2 P Dd S n0 n1 0 0 (by rw [vW_get _ _ _ _ _ hn0, vCell_int hg0]) (by rw [vW_get _ _ _ _ _ hn1, vCell_int hg1]) rfl rfl rfl h1 h2 h3 h4 h5 (fun _ _ => rfl) hfr hlo hd (fun H1 locs1 hP hD hS => ?_)
  have ec : va_cpy (σ.1 n0) (σ.1 n1) sp.toNatClampNeg dp.toNatClampNeg n.toNatClampNeg = (vcp σ n0 n1 sp.toNatClampNeg dp.toNatClampNeg n.toNatClampNeg).1 n1 := by simp [vcp]
  rw [ec, ← vCell_int (cZ := cZ) (ad := ad) hg1, vW_arr (σ := σ) (τ := vcp σ n0 n1 sp.toNatClampNeg dp.toNatClampNeg n.toNatClampNeg) cI cZ ad G hn1 (fun a h => by simp [vcp, h]) rfl] at hP hD
  exact kk p l e s m args below meth c H1 locs1 A D cI cZ la O L hP hD hS hA
theorem V.mono {Q2 : Option Value → vMem → Prop} (h : V G mi ad Q d pc ls st σ) (hq : ∀ r τ, Q r τ → Q2 r τ) : V G mi ad Q2 d pc ls st σ := by
  intro p l e s m args below meth c H locs A D cI cZ la O L P Dd S hA
  intro T hT X
  obtain ⟨t, a, o, b1, b2, ⟨r, τ, c1, c2, c3, c4⟩, b4⟩ := h p l e s m args below meth c H locs A D cI cZ la O L P Dd S hA T hT X
  exact ⟨t, a, o, b1, b2, ⟨r, τ, c1, hq r τ c2, c3, c4⟩, b4⟩
theorem V.mmax {idx : Nat} {x y : Int32} (hd : decode mi.2.1 pc = .ok (.invokestatic idx, 3)) (hl : Cond.methodLink mi.1.cls idx Lib.Math.max.name ∈ vTbl) (hs : Cond.static Lib.Math.max.name ∈ vTbl) (hi : Cond.initialized "java/lang/Math" ∈ vTbl) (hc : Cond.code Lib.Math.max.name Lib.Math.max.code 2 (some .int) ∈ vTbl) (hfr : 1 ≤ d) (hst : (st.map fun v => v.category).sum ≤ 8) (k : V G mi ad Q d (pc + 3) ls (.int (if x < y then y else x) :: st) σ) : V G mi ad Q d pc ls (.int y :: .int x :: st) σ := by
  intro p l e s m args below meth c H locs A D cI cZ la O L P Dd S hA
  exact va_mmax O.1 O.2.1 (O.2.2.1.trans L.1.symm) O.2.2.2.2.2.1 (O.2.2.2.2.2.2.1 _ hl) (O.2.2.2.2.2.2.1 _ hs) (O.2.2.2.2.2.2.1 _ hi) (O.2.2.2.2.2.2.1 _ hc) hfr (by show _ ≤ 40 * d; omega) (Nat.zero_le _) (Nat.zero_le _) hd (k p l e s m args below meth c H locs A D cI cZ la O L P Dd S hA)
theorem V.mmin {idx : Nat} {x y : Int32} (hd : decode mi.2.1 pc = .ok (.invokestatic idx, 3)) (hl : Cond.methodLink mi.1.cls idx Lib.Math.min.name ∈ vTbl) (hs : Cond.static Lib.Math.min.name ∈ vTbl) (hi : Cond.initialized "java/lang/Math" ∈ vTbl) (hc : Cond.code Lib.Math.min.name Lib.Math.min.code 2 (some .int) ∈ vTbl) (hfr : 1 ≤ d) (hst : (st.map fun v => v.category).sum ≤ 8) (k : V G mi ad Q d (pc + 3) ls (.int (if y < x then y else x) :: st) σ) : V G mi ad Q d pc ls (.int y :: .int x :: st) σ := by
  intro p l e s m args below meth c H locs A D cI cZ la O L P Dd S hA
  exact va_mmin O.1 O.2.1 (O.2.2.1.trans L.1.symm) O.2.2.2.2.2.1 (O.2.2.2.2.2.2.1 _ hl) (O.2.2.2.2.2.2.1 _ hs) (O.2.2.2.2.2.2.1 _ hi) (O.2.2.2.2.2.2.1 _ hc) hfr (by show _ ≤ 40 * d; omega) (Nat.zero_le _) (Nat.zero_le _) hd (k p l e s m args below meth c H locs A D cI cZ la O L P Dd S hA)
end VR
end
section
/-- the locals with which a method begins -/
def vLs : List Value → List (Option Value)
  | [] => []
  | v :: vs => if v.category = 2 then some v :: none :: vLs vs else some v :: vLs vs
def vEn (vs : List Value) (n : Nat) : List (Option Value) := vLs vs ++ List.replicate (n - (vLs vs).length) none
theorem vLs_args : ∀ (vs : List Value) (i : Nat) (j : Nat) (v : Value), (vLs vs)[j]? = some (some v) → (i + j, v) ∈ lv_args i vs
  | [], i, j, v, h => by simp [vLs] at h
  | w :: vs, i, j, v, h => by
    unfold vLs at h
    unfold lv_args
    by_cases hw : w.category = 2
    · rw [if_pos hw] at h ⊢
      match j, h with
      | 0, h =>
        have : w = v := by simpa using h
        subst this
        exact List.mem_cons_self
      | 1, h => simp at h
      | j + 2, h =>
        have := vLs_args vs (i + 2) j v (by simpa using h)
        rw [show i + (j + 2) = i + 2 + j by omega]
        exact List.mem_cons_of_mem _ this
    · rw [if_neg hw] at h ⊢
      match j, h with
      | 0, h =>
        have : w = v := by simpa using h
        subst this
        exact List.mem_cons_self
      | j + 1, h =>
        have := vLs_args vs (i + 1) j v (by simpa using h)
        rw [show i + (j + 1) = i + 1 + j by omega]
        exact List.mem_cons_of_mem _ this
theorem vEn_args {vs : List Value} {n j : Nat} {v : Value} (h : (vEn vs n)[j]? = some (some v)) : (j, v) ∈ lv_args 0 vs := by
  unfold vEn at h
  rcases Nat.lt_or_ge j (vLs vs).length with q | q
  · rw [List.getElem?_append_left q] at h
    simpa using vLs_args vs 0 j v h
  · rw [List.getElem?_append_right q, List.getElem?_replicate] at h
    split at h <;> cases h
def vPre (D : va_G) (cI cZ : ClassId) (ad : Nat → Nat) (G : vCfg) (σ : vMem) (sz : Nat) (U : State) : Prop := U.heap.size = sz ∧ va_P D classes (vW cI cZ ad G σ) U.heap ∧ va_K D classes (vTys cI cZ) U ∧ va_D (fun _ => True) (vW cI cZ ad G σ) ∧ vNst U
abbrev vWs (mi : vMI) : List Cond := .code mi.1 mi.2.1 mi.2.2.1 mi.2.2.2 :: vTbl
/-- V at a method's beginning is its contract -/
theorem V.met {G : vCfg} {mi : vMI} {ad : Nat → Nat} {Q : Option Value → vMem → Prop} {d : Nat} {σ : vMem} {vs : List Value} (hp : plainName mi.1.cls = true) (hlen : (lg_sl vs).length ≤ mi.2.2.1) (h : V G mi ad Q d 0 (vEn vs mi.2.2.1) [] σ) (l : Launch) (D : va_G) (cI cZ : ClassId) (sz : Nat) :
    Met l mi.1 (vWs mi) (vRm d) (va_Pc vs (vPre D cI cZ ad G σ sz)) (vQ D cI cZ ad G (va_A (vW cI cZ ad G σ) sz) Q) 0 0 (va_A (vW cI cZ ad G σ) sz) := by
  refine Met.ofW (cc := mi.2.1) (maxL := mi.2.2.1) (ret := mi.2.2.2) hp rfl ?_
  intro p e s m args below meth c s₁ B hml hv
  obtain ⟨rfl, hsz, hP, hK, hD0, hNs⟩ := hv
  have hts := atoms_spec (ws := vWs mi) B.pre
  have hown : s.vm.findClass mi.1.cls = some m.cls := findClass_of_methodNamed B.named
  subst hsz
  have hl := lv_entry vs (n := mi.2.2.1) hlen
  rw [lg_entry_eq]
  exact h p l e s m vs.toArray below meth c s.heap [] (va_A (vW cI cZ ad G σ) s.heap.size) D cI cZ _ ⟨B.exec, B.bytes, hml, B.returns, ⟨B.notSynchronized, hNs⟩, hown, fun w hw => hts w (List.mem_cons_of_mem _ hw), hK⟩ ⟨hl.1, hl.2.1, fun i v hi => hl.2.2 (i, v) (vEn_args hi)⟩ hP hD0.self va_S.rf (fun q h => Or.inr h)
theorem vPre_blind {D : va_G} {cI cZ : ClassId} {ad : Nat → Nat} {G : vCfg} {σ : vMem} {sz : Nat} {vs : List Value} : FrameBlind (va_Pc vs (vPre D cI cZ ad G σ sz)) := fun a U g mk q => by
  obtain ⟨q0, q1, qP, qK, qD, qN⟩ := q
  exact ⟨q0, q1, qP, va_K.moved (u := U) (U := U.calling g mk a) (Vm.Alike.refl U.vm) qK, qD, vNst.same (u := U) (U := U.calling g mk a) rfl qN⟩
/-- what comes back from a call -/
def vPv (r : Option Value) (st : List Value) : List Value := match r with
  | none => st
  | some v => v :: st
section VC
variable {G : vCfg} {mi mc : vMI} {ad : Nat → Nat} {Q : Option Value → vMem → Prop} {d d' pc : Nat} {ls : List (Option Value)} {st : List Value} {σ : vMem}
theorem vGoodWs (hc : Cond.code mc.1 mc.2.1 mc.2.2.1 mc.2.2.2 ∈ vTbl) : GoodIn vTbl (vWs mc) := fun w hw => (List.mem_cons.mp hw).elim (fun e => e ▸ ⟨hc, Or.inl rfl⟩) (fun h => vGood vTbl (fun _ h => h) w h)
theorem vRm_le (h : d' < d) (h21 : mc.2.2.1 ≤ 21) : (vRm d').frames + 1 ≤ (vRm d).frames ∧ 8 + (mc.2.2.1 + 11) + (vRm d').locals ≤ (vRm d).locals := by
  refine ⟨h, ?_⟩
  show 8 + (mc.2.2.1 + 11) + 40 * d' ≤ 40 * d
  omega
/-- behind a call: the world as the callee left it -/
theorem vAfter {p : Program} {l : Launch} {e : Env} {s : State} {m : MethodId} {args : Array Value} {below : List Frame} {meth : Method} {c : Code} {H : Heap} {locs : List Loc} {A : Nat → Prop} {D : va_G} {cI cZ : ClassId} {la : Array Slot} {st0 : List Value} {a : Array Value}
    (O : vOK mi p s m meth c args D cI cZ) (L : vLk la mi.2.2.1 ls) (P : va_P D classes (vW cI cZ ad G σ) H) (Dd : va_D A (vW cI cZ ad G σ)) (S : va_S A s.heap H locs) (hA : ∀ q, s.heap.size ≤ q → A q)
    (hr : va_Run p l e (vRm d) s m args below meth c H locs 0 0 0 0 (F0 m pc la st0) st (vQ D cI cZ ad G (va_A (vW cI cZ ad G σ) H.size) (fun r τ => V G mi ad Q d (pc + 3) ls (vPv r st) τ) a) (va_A (vW cI cZ ad G σ) H.size)) :
    W p l e (vRm d) s m args below meth c H locs 0 0 (MQ below (vQ D cI cZ ad G A Q) args s 0 0 A) (F0 m pc la st0) := by
  intro T hT X
  obtain ⟨v, st₀, t, T', L1, h0, X', hL, e1, e2, ⟨r, τ, hv, hp, hb, hz, hk⟩, stp⟩ := hr T hT X
  cases hv
  rw [h0] at hz hk
  have hF : ∀ q, va_A (vW cI cZ ad G σ) H.size q → A q := fun q h => by
    rcases h with ⟨k, x, h⟩ | h
    · exact Dd.2 k _ h
    · exact hA q (Nat.le_trans S.1 h)
  have S1 : va_S A s.heap T'.heap (locs ++ L1) := ⟨Nat.le_trans S.1 (by rw [e1]; exact hz), fun q h1 h2 => by
      rw [e1, hk q (Nat.lt_of_lt_of_le h1 S.1) (fun z => h2 (hF q z))]
      exact S.2.1 q h1 h2, fun q hq => by
      rcases List.mem_append.mp hq with h | h
      · exact S.2.2 q h
      · exact hF _ (hL q h)⟩
  obtain ⟨t2, a1, b1⟩ := hp p l e s m args below meth c T'.heap (locs ++ L1) A D cI cZ la O L (by rw [e1]; exact hb) (vW_D τ Dd) S1 hA T' rfl X'
  refine ⟨t2, stp t2 ?_, b1⟩
  cases v <;> exact a1

theorem V.callV0 {b ci z idx : Nat} (hd : decode mi.2.1 pc = .ok (.invokevirtual idx, 3)) (hl : Cond.methodLink mi.1.cls idx mc.1 ∈ vTbl) (hf : vMfV mc 0) (hb : b < G.1) (hg : G.2.1 b = (ci + 2, z)) (hcl : classes[ci]? = some (mc.1.cls, (classes.getD ci ("", TX0, 0)).2.1, vN ci)) (hdd : d' < d) (hlen : (lg_sl (.ref (ad b) :: [])).length ≤ mc.2.2.1) (hst : (st.map fun v => v.category).sum ≤ 8)
    (k : V G mc ad (fun r τ => V G mi ad Q d (pc + 3) ls (vPv r st) τ) d' 0 (vEn (.ref (ad b) :: []) mc.2.2.1) [] σ) : V G mi ad Q d pc ls (.ref (ad b) :: st) σ := by
  intro p l e s m args below meth c H locs A D cI cZ la O L P Dd S hA
  obtain ⟨⟨hpl, hco, hin, hds, h21⟩, hins, hsel⟩ := hf
  have hts := O.2.2.2.2.2.2.1
  have cw : CallW (vRm d) s args mi.1.cls mc.1.cls idx mc.1 mc.2.1 mc.2.2.1 mc.2.2.2 (vWs mc) (vRm d') 0 0 0 := ⟨callB_of 0 hts (vGoodWs hco) rfl rfl rfl (hts _ hin) (hts _ hl) hds (vRm_le hdd h21), hts _ hins, hts _ hsel⟩
  have hcell : ∃ cellB : Cell, H[ad b]? = some cellB ∧ cellB.vm.isStatics = false ∧ s.vm.findClass mc.1.cls = some cellB.cls := by
    obtain ⟨r, h1, cell, q1, q2, q3, q4⟩ := P b _ (by rw [vW_get _ _ _ _ _ hb, vCell_obj hg])
    have hr := Option.some.inj (h1.symm.trans hcl)
    subst hr
    exact ⟨cell, q1, by rw [q3]; rfl, by rw [q2]; exact (O.2.2.2.2.2.2.2.1 ci _ hcl).2.1⟩
  exact vAfter O L P Dd S hA (va_runV (As := []) (rest := st) ⟨O.1, O.2.1, O.2.2.1, O.2.2.2.2.2.1, hts⟩ (V.met hpl hlen k l D cI cZ H.size) cw ⟨vPre_blind, hcell, fun U hU hW => ⟨rfl, by rw [hU], by rw [hU]; exact P, va_K.moved hW.alike O.2.2.2.2.2.2.2, Dd.weaken (fun _ _ _ _ => trivial), vNst.warm hW O.2.2.2.2.1.2⟩⟩ rfl rfl L.1 rfl (lv_room hst) hd ⟨Nat.le_refl 0, Nat.le_refl 0⟩)
theorem V.callV1 {b ci z idx : Nat} {x1 : Value} (hd : decode mi.2.1 pc = .ok (.invokevirtual idx, 3)) (hl : Cond.methodLink mi.1.cls idx mc.1 ∈ vTbl) (hf : vMfV mc 1) (hb : b < G.1) (hg : G.2.1 b = (ci + 2, z)) (hcl : classes[ci]? = some (mc.1.cls, (classes.getD ci ("", TX0, 0)).2.1, vN ci)) (hdd : d' < d) (hlen : (lg_sl (.ref (ad b) :: [x1])).length ≤ mc.2.2.1) (hst : (st.map fun v => v.category).sum ≤ 8)
    (k : V G mc ad (fun r τ => V G mi ad Q d (pc + 3) ls (vPv r st) τ) d' 0 (vEn (.ref (ad b) :: [x1]) mc.2.2.1) [] σ) : V G mi ad Q d pc ls (x1 :: .ref (ad b) :: st) σ := by
  intro p l e s m args below meth c H locs A D cI cZ la O L P Dd S hA
  obtain ⟨⟨hpl, hco, hin, hds, h21⟩, hins, hsel⟩ := hf
  have hts := O.2.2.2.2.2.2.1
  have cw : CallW (vRm d) s args mi.1.cls mc.1.cls idx mc.1 mc.2.1 mc.2.2.1 mc.2.2.2 (vWs mc) (vRm d') 0 0 1 := ⟨callB_of 1 hts (vGoodWs hco) rfl rfl rfl (hts _ hin) (hts _ hl) hds (vRm_le hdd h21), hts _ hins, hts _ hsel⟩
  have hcell : ∃ cellB : Cell, H[ad b]? = some cellB ∧ cellB.vm.isStatics = false ∧ s.vm.findClass mc.1.cls = some cellB.cls := by
    obtain ⟨r, h1, cell, q1, q2, q3, q4⟩ := P b _ (by rw [vW_get _ _ _ _ _ hb, vCell_obj hg])
    have hr := Option.some.inj (h1.symm.trans hcl)
    subst hr
    exact ⟨cell, q1, by rw [q3]; rfl, by rw [q2]; exact (O.2.2.2.2.2.2.2.1 ci _ hcl).2.1⟩
  exact vAfter O L P Dd S hA (va_runV (As := [x1]) (rest := st) ⟨O.1, O.2.1, O.2.2.1, O.2.2.2.2.2.1, hts⟩ (V.met hpl hlen k l D cI cZ H.size) cw ⟨vPre_blind, hcell, fun U hU hW => ⟨rfl, by rw [hU], by rw [hU]; exact P, va_K.moved hW.alike O.2.2.2.2.2.2.2, Dd.weaken (fun _ _ _ _ => trivial), vNst.warm hW O.2.2.2.2.1.2⟩⟩ rfl rfl L.1 rfl (lv_room hst) hd ⟨Nat.le_refl 0, Nat.le_refl 0⟩)
theorem V.callV2 {b ci z idx : Nat} {x1 x2 : Value} (hd : decode mi.2.1 pc = .ok (.invokevirtual idx, 3)) (hl : Cond.methodLink mi.1.cls idx mc.1 ∈ vTbl) (hf : vMfV mc 2) (hb : b < G.1) (hg : G.2.1 b = (ci + 2, z)) (hcl : classes[ci]? = some (mc.1.cls, (classes.getD ci ("", TX0, 0)).2.1, vN ci)) (hdd : d' < d) (hlen : (lg_sl (.ref (ad b) :: [x1, x2])).length ≤ mc.2.2.1) (hst : (st.map fun v => v.category).sum ≤ 8)
    (k : V G mc ad (fun r τ => V G mi ad Q d (pc + 3) ls (vPv r st) τ) d' 0 (vEn (.ref (ad b) :: [x1, x2]) mc.2.2.1) [] σ) : V G mi ad Q d pc ls (x2 :: x1 :: .ref (ad b) :: st) σ := by
  intro p l e s m args below meth c H locs A D cI cZ la O L P Dd S hA
  obtain ⟨⟨hpl, hco, hin, hds, h21⟩, hins, hsel⟩ := hf
  have hts := O.2.2.2.2.2.2.1
  have cw : CallW (vRm d) s args mi.1.cls mc.1.cls idx mc.1 mc.2.1 mc.2.2.1 mc.2.2.2 (vWs mc) (vRm d') 0 0 2 := ⟨callB_of 2 hts (vGoodWs hco) rfl rfl rfl (hts _ hin) (hts _ hl) hds (vRm_le hdd h21), hts _ hins, hts _ hsel⟩
  have hcell : ∃ cellB : Cell, H[ad b]? = some cellB ∧ cellB.vm.isStatics = false ∧ s.vm.findClass mc.1.cls = some cellB.cls := by
    obtain ⟨r, h1, cell, q1, q2, q3, q4⟩ := P b _ (by rw [vW_get _ _ _ _ _ hb, vCell_obj hg])
    have hr := Option.some.inj (h1.symm.trans hcl)
    subst hr
    exact ⟨cell, q1, by rw [q3]; rfl, by rw [q2]; exact (O.2.2.2.2.2.2.2.1 ci _ hcl).2.1⟩
  exact vAfter O L P Dd S hA (va_runV (As := [x1, x2]) (rest := st) ⟨O.1, O.2.1, O.2.2.1, O.2.2.2.2.2.1, hts⟩ (V.met hpl hlen k l D cI cZ H.size) cw ⟨vPre_blind, hcell, fun U hU hW => ⟨rfl, by rw [hU], by rw [hU]; exact P, va_K.moved hW.alike O.2.2.2.2.2.2.2, Dd.weaken (fun _ _ _ _ => trivial), vNst.warm hW O.2.2.2.2.1.2⟩⟩ rfl rfl L.1 rfl (lv_room hst) hd ⟨Nat.le_refl 0, Nat.le_refl 0⟩)
theorem V.callV3 {b ci z idx : Nat} {x1 x2 x3 : Value} (hd : decode mi.2.1 pc = .ok (.invokevirtual idx, 3)) (hl : Cond.methodLink mi.1.cls idx mc.1 ∈ vTbl) (hf : vMfV mc 3) (hb : b < G.1) (hg : G.2.1 b = (ci + 2, z)) (hcl : classes[ci]? = some (mc.1.cls, (classes.getD ci ("", TX0, 0)).2.1, vN ci)) (hdd : d' < d) (hlen : (lg_sl (.ref (ad b) :: [x1, x2, x3])).length ≤ mc.2.2.1) (hst : (st.map fun v => v.category).sum ≤ 8)
    (k : V G mc ad (fun r τ => V G mi ad Q d (pc + 3) ls (vPv r st) τ) d' 0 (vEn (.ref (ad b) :: [x1, x2, x3]) mc.2.2.1) [] σ) : V G mi ad Q d pc ls (x3 :: x2 :: x1 :: .ref (ad b) :: st) σ := by
  intro p l e s m args below meth c H locs A D cI cZ la O L P Dd S hA
  obtain ⟨⟨hpl, hco, hin, hds, h21⟩, hins, hsel⟩ := hf
  have hts := O.2.2.2.2.2.2.1
  have cw : CallW (vRm d) s args mi.1.cls mc.1.cls idx mc.1 mc.2.1 mc.2.2.1 mc.2.2.2 (vWs mc) (vRm d') 0 0 3 := ⟨callB_of 3 hts (vGoodWs hco) rfl rfl rfl (hts _ hin) (hts _ hl) hds (vRm_le hdd h21), hts _ hins, hts _ hsel⟩
  have hcell : ∃ cellB : Cell, H[ad b]? = some cellB ∧ cellB.vm.isStatics = false ∧ s.vm.findClass mc.1.cls = some cellB.cls := by
    obtain ⟨r, h1, cell, q1, q2, q3, q4⟩ := P b _ (by rw [vW_get _ _ _ _ _ hb, vCell_obj hg])
    have hr := Option.some.inj (h1.symm.trans hcl)
    subst hr
    exact ⟨cell, q1, by rw [q3]; rfl, by rw [q2]; exact (O.2.2.2.2.2.2.2.1 ci _ hcl).2.1⟩
  exact vAfter O L P Dd S hA (va_runV (As := [x1, x2, x3]) (rest := st) ⟨O.1, O.2.1, O.2.2.1, O.2.2.2.2.2.1, hts⟩ (V.met hpl hlen k l D cI cZ H.size) cw ⟨vPre_blind, hcell, fun U hU hW => ⟨rfl, by rw [hU], by rw [hU]; exact P, va_K.moved hW.alike O.2.2.2.2.2.2.2, Dd.weaken (fun _ _ _ _ => trivial), vNst.warm hW O.2.2.2.2.1.2⟩⟩ rfl rfl L.1 rfl (lv_room hst) hd ⟨Nat.le_refl 0, Nat.le_refl 0⟩)
theorem V.callV4 {b ci z idx : Nat} {x1 x2 x3 x4 : Value} (hd : decode mi.2.1 pc = .ok (.invokevirtual idx, 3)) (hl : Cond.methodLink mi.1.cls idx mc.1 ∈ vTbl) (hf : vMfV mc 4) (hb : b < G.1) (hg : G.2.1 b = (ci + 2, z)) (hcl : classes[ci]? = some (mc.1.cls, (classes.getD ci ("", TX0, 0)).2.1, vN ci)) (hdd : d' < d) (hlen : (lg_sl (.ref (ad b) :: [x1, x2, x3, x4])).length ≤ mc.2.2.1) (hst : (st.map fun v => v.category).sum ≤ 8)
    (k : V G mc ad (fun r τ => V G mi ad Q d (pc + 3) ls (vPv r st) τ) d' 0 (vEn (.ref (ad b) :: [x1, x2, x3, x4]) mc.2.2.1) [] σ) : V G mi ad Q d pc ls (x4 :: x3 :: x2 :: x1 :: .ref (ad b) :: st) σ := by
  intro p l e s m args below meth c H locs A D cI cZ la O L P Dd S hA
  obtain ⟨⟨hpl, hco, hin, hds, h21⟩, hins, hsel⟩ := hf
  have hts := O.2.2.2.2.2.2.1
  have cw : CallW (vRm d) s args mi.1.cls mc.1.cls idx mc.1 mc.2.1 mc.2.2.1 mc.2.2.2 (vWs mc) (vRm d') 0 0 4 := ⟨callB_of 4 hts (vGoodWs hco) rfl rfl rfl (hts _ hin) (hts _ hl) hds (vRm_le hdd h21), hts _ hins, hts _ hsel⟩
  have hcell : ∃ cellB : Cell, H[ad b]? = some cellB ∧ cellB.vm.isStatics = false ∧ s.vm.findClass mc.1.cls = some cellB.cls := by
    obtain ⟨r, h1, cell, q1, q2, q3, q4⟩ := P b _ (by rw [vW_get _ _ _ _ _ hb, vCell_obj hg])
    have hr := Option.some.inj (h1.symm.trans hcl)
    subst hr
    exact ⟨cell, q1, by rw [q3]; rfl, by rw [q2]; exact (O.2.2.2.2.2.2.2.1 ci _ hcl).2.1⟩
  exact vAfter O L P Dd S hA (va_runV (As := [x1, x2, x3, x4]) (rest := st) ⟨O.1, O.2.1, O.2.2.1, O.2.2.2.2.2.1, hts⟩ (V.met hpl hlen k l D cI cZ H.size) cw ⟨vPre_blind, hcell, fun U hU hW => ⟨rfl, by rw [hU], by rw [hU]; exact P, va_K.moved hW.alike O.2.2.2.2.2.2.2, Dd.weaken (fun _ _ _ _ => trivial), vNst.warm hW O.2.2.2.2.1.2⟩⟩ rfl rfl L.1 rfl (lv_room hst) hd ⟨Nat.le_refl 0, Nat.le_refl 0⟩)
theorem V.callV5 {b ci z idx : Nat} {x1 x2 x3 x4 x5 : Value} (hd : decode mi.2.1 pc = .ok (.invokevirtual idx, 3)) (hl : Cond.methodLink mi.1.cls idx mc.1 ∈ vTbl) (hf : vMfV mc 5) (hb : b < G.1) (hg : G.2.1 b = (ci + 2, z)) (hcl : classes[ci]? = some (mc.1.cls, (classes.getD ci ("", TX0, 0)).2.1, vN ci)) (hdd : d' < d) (hlen : (lg_sl (.ref (ad b) :: [x1, x2, x3, x4, x5])).length ≤ mc.2.2.1) (hst : (st.map fun v => v.category).sum ≤ 8)
    (k : V G mc ad (fun r τ => V G mi ad Q d (pc + 3) ls (vPv r st) τ) d' 0 (vEn (.ref (ad b) :: [x1, x2, x3, x4, x5]) mc.2.2.1) [] σ) : V G mi ad Q d pc ls (x5 :: x4 :: x3 :: x2 :: x1 :: .ref (ad b) :: st) σ := by
  intro p l e s m args below meth c H locs A D cI cZ la O L P Dd S hA
  obtain ⟨⟨hpl, hco, hin, hds, h21⟩, hins, hsel⟩ := hf
  have hts := O.2.2.2.2.2.2.1
  have cw : CallW (vRm d) s args mi.1.cls mc.1.cls idx mc.1 mc.2.1 mc.2.2.1 mc.2.2.2 (vWs mc) (vRm d') 0 0 5 := ⟨callB_of 5 hts (vGoodWs hco) rfl rfl rfl (hts _ hin) (hts _ hl) hds (vRm_le hdd h21), hts _ hins, hts _ hsel⟩
  have hcell : ∃ cellB : Cell, H[ad b]? = some cellB ∧ cellB.vm.isStatics = false ∧ s.vm.findClass mc.1.cls = some cellB.cls := by
    obtain ⟨r, h1, cell, q1, q2, q3, q4⟩ := P b _ (by rw [vW_get _ _ _ _ _ hb, vCell_obj hg])
    have hr := Option.some.inj (h1.symm.trans hcl)
    subst hr
    exact ⟨cell, q1, by rw [q3]; rfl, by rw [q2]; exact (O.2.2.2.2.2.2.2.1 ci _ hcl).2.1⟩
  exact vAfter O L P Dd S hA (va_runV (As := [x1, x2, x3, x4, x5]) (rest := st) ⟨O.1, O.2.1, O.2.2.1, O.2.2.2.2.2.1, hts⟩ (V.met hpl hlen k l D cI cZ H.size) cw ⟨vPre_blind, hcell, fun U hU hW => ⟨rfl, by rw [hU], by rw [hU]; exact P, va_K.moved hW.alike O.2.2.2.2.2.2.2, Dd.weaken (fun _ _ _ _ => trivial), vNst.warm hW O.2.2.2.2.1.2⟩⟩ rfl rfl L.1 rfl (lv_room hst) hd ⟨Nat.le_refl 0, Nat.le_refl 0⟩)
theorem V.callS0 {idx : Nat} (hd : decode mi.2.1 pc = .ok (.invokestatic idx, 3)) (hl : Cond.methodLink mi.1.cls idx mc.1 ∈ vTbl) (hf : vMfS mc 0) (hdd : d' < d) (hlen : (lg_sl []).length ≤ mc.2.2.1) (hst : (st.map fun v => v.category).sum ≤ 8)
    (k : V G mc ad (fun r τ => V G mi ad Q d (pc + 3) ls (vPv r st) τ) d' 0 (vEn [] mc.2.2.1) [] σ) : V G mi ad Q d pc ls (st) σ := by
  intro p l e s m args below meth c H locs A D cI cZ la O L P Dd S hA
  obtain ⟨⟨hpl, hco, hin, hds, h21⟩, hsta⟩ := hf
  have hts := O.2.2.2.2.2.2.1
  have cw : CallB (vRm d) s args mi.1.cls idx mc.1 mc.2.1 mc.2.2.1 mc.2.2.2 (vWs mc) (vRm d') 0 0 0 ∧ (Cond.static mc.1).before args s = true := ⟨callB_of 0 hts (vGoodWs hco) rfl rfl rfl (hts _ hin) (hts _ hl) hds (vRm_le hdd h21), hts _ hsta⟩
  exact vAfter O L P Dd S hA (va_runS (As := []) (rest := st) ⟨O.1, O.2.1, O.2.2.1, O.2.2.2.2.2.1, hts⟩ (V.met hpl hlen k l D cI cZ H.size) cw ⟨vPre_blind, fun U hU hW => ⟨rfl, by rw [hU], by rw [hU]; exact P, va_K.moved hW.alike O.2.2.2.2.2.2.2, Dd.weaken (fun _ _ _ _ => trivial), vNst.warm hW O.2.2.2.2.1.2⟩⟩ rfl rfl L.1 rfl (lv_room hst) hd ⟨Nat.le_refl 0, Nat.le_refl 0⟩)
theorem V.callS1 {idx : Nat} {x1 : Value} (hd : decode mi.2.1 pc = .ok (.invokestatic idx, 3)) (hl : Cond.methodLink mi.1.cls idx mc.1 ∈ vTbl) (hf : vMfS mc 1) (hdd : d' < d) (hlen : (lg_sl [x1]).length ≤ mc.2.2.1) (hst : (st.map fun v => v.category).sum ≤ 8)
    (k : V G mc ad (fun r τ => V G mi ad Q d (pc + 3) ls (vPv r st) τ) d' 0 (vEn [x1] mc.2.2.1) [] σ) : V G mi ad Q d pc ls (x1 :: st) σ := by
  intro p l e s m args below meth c H locs A D cI cZ la O L P Dd S hA
  obtain ⟨⟨hpl, hco, hin, hds, h21⟩, hsta⟩ := hf
  have hts := O.2.2.2.2.2.2.1
  have cw : CallB (vRm d) s args mi.1.cls idx mc.1 mc.2.1 mc.2.2.1 mc.2.2.2 (vWs mc) (vRm d') 0 0 1 ∧ (Cond.static mc.1).before args s = true := ⟨callB_of 1 hts (vGoodWs hco) rfl rfl rfl (hts _ hin) (hts _ hl) hds (vRm_le hdd h21), hts _ hsta⟩
  exact vAfter O L P Dd S hA (va_runS (As := [x1]) (rest := st) ⟨O.1, O.2.1, O.2.2.1, O.2.2.2.2.2.1, hts⟩ (V.met hpl hlen k l D cI cZ H.size) cw ⟨vPre_blind, fun U hU hW => ⟨rfl, by rw [hU], by rw [hU]; exact P, va_K.moved hW.alike O.2.2.2.2.2.2.2, Dd.weaken (fun _ _ _ _ => trivial), vNst.warm hW O.2.2.2.2.1.2⟩⟩ rfl rfl L.1 rfl (lv_room hst) hd ⟨Nat.le_refl 0, Nat.le_refl 0⟩)
theorem V.callS2 {idx : Nat} {x1 x2 : Value} (hd : decode mi.2.1 pc = .ok (.invokestatic idx, 3)) (hl : Cond.methodLink mi.1.cls idx mc.1 ∈ vTbl) (hf : vMfS mc 2) (hdd : d' < d) (hlen : (lg_sl [x1, x2]).length ≤ mc.2.2.1) (hst : (st.map fun v => v.category).sum ≤ 8)
    (k : V G mc ad (fun r τ => V G mi ad Q d (pc + 3) ls (vPv r st) τ) d' 0 (vEn [x1, x2] mc.2.2.1) [] σ) : V G mi ad Q d pc ls (x2 :: x1 :: st) σ := by
  intro p l e s m args below meth c H locs A D cI cZ la O L P Dd S hA
  obtain ⟨⟨hpl, hco, hin, hds, h21⟩, hsta⟩ := hf
  have hts := O.2.2.2.2.2.2.1
  have cw : CallB (vRm d) s args mi.1.cls idx mc.1 mc.2.1 mc.2.2.1 mc.2.2.2 (vWs mc) (vRm d') 0 0 2 ∧ (Cond.static mc.1).before args s = true := ⟨callB_of 2 hts (vGoodWs hco) rfl rfl rfl (hts _ hin) (hts _ hl) hds (vRm_le hdd h21), hts _ hsta⟩
  exact vAfter O L P Dd S hA (va_runS (As := [x1, x2]) (rest := st) ⟨O.1, O.2.1, O.2.2.1, O.2.2.2.2.2.1, hts⟩ (V.met hpl hlen k l D cI cZ H.size) cw ⟨vPre_blind, fun U hU hW => ⟨rfl, by rw [hU], by rw [hU]; exact P, va_K.moved hW.alike O.2.2.2.2.2.2.2, Dd.weaken (fun _ _ _ _ => trivial), vNst.warm hW O.2.2.2.2.1.2⟩⟩ rfl rfl L.1 rfl (lv_room hst) hd ⟨Nat.le_refl 0, Nat.le_refl 0⟩)
theorem V.callS3 {idx : Nat} {x1 x2 x3 : Value} (hd : decode mi.2.1 pc = .ok (.invokestatic idx, 3)) (hl : Cond.methodLink mi.1.cls idx mc.1 ∈ vTbl) (hf : vMfS mc 3) (hdd : d' < d) (hlen : (lg_sl [x1, x2, x3]).length ≤ mc.2.2.1) (hst : (st.map fun v => v.category).sum ≤ 8)
    (k : V G mc ad (fun r τ => V G mi ad Q d (pc + 3) ls (vPv r st) τ) d' 0 (vEn [x1, x2, x3] mc.2.2.1) [] σ) : V G mi ad Q d pc ls (x3 :: x2 :: x1 :: st) σ := by
  intro p l e s m args below meth c H locs A D cI cZ la O L P Dd S hA
  obtain ⟨⟨hpl, hco, hin, hds, h21⟩, hsta⟩ := hf
  have hts := O.2.2.2.2.2.2.1
  have cw : CallB (vRm d) s args mi.1.cls idx mc.1 mc.2.1 mc.2.2.1 mc.2.2.2 (vWs mc) (vRm d') 0 0 3 ∧ (Cond.static mc.1).before args s = true := ⟨callB_of 3 hts (vGoodWs hco) rfl rfl rfl (hts _ hin) (hts _ hl) hds (vRm_le hdd h21), hts _ hsta⟩
  exact vAfter O L P Dd S hA (va_runS (As := [x1, x2, x3]) (rest := st) ⟨O.1, O.2.1, O.2.2.1, O.2.2.2.2.2.1, hts⟩ (V.met hpl hlen k l D cI cZ H.size) cw ⟨vPre_blind, fun U hU hW => ⟨rfl, by rw [hU], by rw [hU]; exact P, va_K.moved hW.alike O.2.2.2.2.2.2.2, Dd.weaken (fun _ _ _ _ => trivial), vNst.warm hW O.2.2.2.2.1.2⟩⟩ rfl rfl L.1 rfl (lv_room hst) hd ⟨Nat.le_refl 0, Nat.le_refl 0⟩)
theorem V.callS4 {idx : Nat} {x1 x2 x3 x4 : Value} (hd : decode mi.2.1 pc = .ok (.invokestatic idx, 3)) (hl : Cond.methodLink mi.1.cls idx mc.1 ∈ vTbl) (hf : vMfS mc 4) (hdd : d' < d) (hlen : (lg_sl [x1, x2, x3, x4]).length ≤ mc.2.2.1) (hst : (st.map fun v => v.category).sum ≤ 8)
    (k : V G mc ad (fun r τ => V G mi ad Q d (pc + 3) ls (vPv r st) τ) d' 0 (vEn [x1, x2, x3, x4] mc.2.2.1) [] σ) : V G mi ad Q d pc ls (x4 :: x3 :: x2 :: x1 :: st) σ := by
  intro p l e s m args below meth c H locs A D cI cZ la O L P Dd S hA
  obtain ⟨⟨hpl, hco, hin, hds, h21⟩, hsta⟩ := hf
  have hts := O.2.2.2.2.2.2.1
  have cw : CallB (vRm d) s args mi.1.cls idx mc.1 mc.2.1 mc.2.2.1 mc.2.2.2 (vWs mc) (vRm d') 0 0 4 ∧ (Cond.static mc.1).before args s = true := ⟨callB_of 4 hts (vGoodWs hco) rfl rfl rfl (hts _ hin) (hts _ hl) hds (vRm_le hdd h21), hts _ hsta⟩
  exact vAfter O L P Dd S hA (va_runS (As := [x1, x2, x3, x4]) (rest := st) ⟨O.1, O.2.1, O.2.2.1, O.2.2.2.2.2.1, hts⟩ (V.met hpl hlen k l D cI cZ H.size) cw ⟨vPre_blind, fun U hU hW => ⟨rfl, by rw [hU], by rw [hU]; exact P, va_K.moved hW.alike O.2.2.2.2.2.2.2, Dd.weaken (fun _ _ _ _ => trivial), vNst.warm hW O.2.2.2.2.1.2⟩⟩ rfl rfl L.1 rfl (lv_room hst) hd ⟨Nat.le_refl 0, Nat.le_refl 0⟩)
theorem V.callS5 {idx : Nat} {x1 x2 x3 x4 x5 : Value} (hd : decode mi.2.1 pc = .ok (.invokestatic idx, 3)) (hl : Cond.methodLink mi.1.cls idx mc.1 ∈ vTbl) (hf : vMfS mc 5) (hdd : d' < d) (hlen : (lg_sl [x1, x2, x3, x4, x5]).length ≤ mc.2.2.1) (hst : (st.map fun v => v.category).sum ≤ 8)
    (k : V G mc ad (fun r τ => V G mi ad Q d (pc + 3) ls (vPv r st) τ) d' 0 (vEn [x1, x2, x3, x4, x5] mc.2.2.1) [] σ) : V G mi ad Q d pc ls (x5 :: x4 :: x3 :: x2 :: x1 :: st) σ := by
  intro p l e s m args below meth c H locs A D cI cZ la O L P Dd S hA
  obtain ⟨⟨hpl, hco, hin, hds, h21⟩, hsta⟩ := hf
  have hts := O.2.2.2.2.2.2.1
  have cw : CallB (vRm d) s args mi.1.cls idx mc.1 mc.2.1 mc.2.2.1 mc.2.2.2 (vWs mc) (vRm d') 0 0 5 ∧ (Cond.static mc.1).before args s = true := ⟨callB_of 5 hts (vGoodWs hco) rfl rfl rfl (hts _ hin) (hts _ hl) hds (vRm_le hdd h21), hts _ hsta⟩
  exact vAfter O L P Dd S hA (va_runS (As := [x1, x2, x3, x4, x5]) (rest := st) ⟨O.1, O.2.1, O.2.2.1, O.2.2.2.2.2.1, hts⟩ (V.met hpl hlen k l D cI cZ H.size) cw ⟨vPre_blind, fun U hU hW => ⟨rfl, by rw [hU], by rw [hU]; exact P, va_K.moved hW.alike O.2.2.2.2.2.2.2, Dd.weaken (fun _ _ _ _ => trivial), vNst.warm hW O.2.2.2.2.1.2⟩⟩ rfl rfl L.1 rfl (lv_room hst) hd ⟨Nat.le_refl 0, Nat.le_refl 0⟩)
end VC
end
