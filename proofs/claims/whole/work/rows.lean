section
-- ===== PART A: goes FIRST, ahead of the names: the tables' words, and 'selects' of the private methods out of them =====
/-- a private method of a class that the tables say can be made, by its rows of tables_1 -/
def lw_okq (q : MethodName × Nat) : Prop := (q.1.cls ≠ "java/lang/invoke/MethodHandle" ∧ q.1.cls ≠ "java/lang/invoke/VarHandle") ∧ Cond.instantiable q.1.cls q.2 ∈ tables_1 ∧ Cond.privateMethod q.1 ∈ tables_1 ∧ Cond.instanceMethod q.1 ∈ tables_1
theorem lw_p0 : lw_okq (⟨"BreadString", "textOf", "(I)LBreadString$Text;"⟩, 15) := ⟨⟨by decide +kernel, by decide +kernel⟩, List.mem_of_getElem? (i := 13) (by decide +kernel), List.mem_of_getElem? (i := 300) (by decide +kernel), List.mem_of_getElem? (i := 301) (by decide +kernel)⟩
theorem lw_p1 : lw_okq (⟨"BreadString", "reread", "(I)I"⟩, 15) := ⟨⟨by decide +kernel, by decide +kernel⟩, List.mem_of_getElem? (i := 13) (by decide +kernel), List.mem_of_getElem? (i := 308) (by decide +kernel), List.mem_of_getElem? (i := 309) (by decide +kernel)⟩
theorem lw_p2 : lw_okq (⟨"BreadString$Tower", "takeFloors", "(LBreadString$Text;)I"⟩, 13) := ⟨⟨by decide +kernel, by decide +kernel⟩, List.mem_of_getElem? (i := 38) (by decide +kernel), List.mem_of_getElem? (i := 316) (by decide +kernel), List.mem_of_getElem? (i := 317) (by decide +kernel)⟩
theorem lw_p3 : lw_okq (⟨"BreadString$Tower", "takeBaskets", "(LBreadString$Text;)I"⟩, 13) := ⟨⟨by decide +kernel, by decide +kernel⟩, List.mem_of_getElem? (i := 38) (by decide +kernel), List.mem_of_getElem? (i := 333) (by decide +kernel), List.mem_of_getElem? (i := 334) (by decide +kernel)⟩
theorem lw_p4 : lw_okq (⟨"BreadString$Tower", "basketTakes", "(II)Z"⟩, 13) := ⟨⟨by decide +kernel, by decide +kernel⟩, List.mem_of_getElem? (i := 38) (by decide +kernel), List.mem_of_getElem? (i := 337) (by decide +kernel), List.mem_of_getElem? (i := 338) (by decide +kernel)⟩
theorem lw_p5 : lw_okq (⟨"BreadString$Tower", "keepBasketByte", "(II)V"⟩, 13) := ⟨⟨by decide +kernel, by decide +kernel⟩, List.mem_of_getElem? (i := 38) (by decide +kernel), List.mem_of_getElem? (i := 341) (by decide +kernel), List.mem_of_getElem? (i := 342) (by decide +kernel)⟩
theorem lw_p6 : lw_okq (⟨"BreadString", "isFloor", "(I)Z"⟩, 15) := ⟨⟨by decide +kernel, by decide +kernel⟩, List.mem_of_getElem? (i := 13) (by decide +kernel), List.mem_of_getElem? (i := 361) (by decide +kernel), List.mem_of_getElem? (i := 362) (by decide +kernel)⟩
theorem lw_p7 : lw_okq (⟨"BreadString", "isBasket", "(I)Z"⟩, 15) := ⟨⟨by decide +kernel, by decide +kernel⟩, List.mem_of_getElem? (i := 13) (by decide +kernel), List.mem_of_getElem? (i := 369) (by decide +kernel), List.mem_of_getElem? (i := 370) (by decide +kernel)⟩
theorem lw_p8 : lw_okq (⟨"BreadString", "found", "(I)I"⟩, 15) := ⟨⟨by decide +kernel, by decide +kernel⟩, List.mem_of_getElem? (i := 13) (by decide +kernel), List.mem_of_getElem? (i := 414) (by decide +kernel), List.mem_of_getElem? (i := 415) (by decide +kernel)⟩
theorem lw_p9 : lw_okq (⟨"BreadString$Trip", "begin", "()V"⟩, 18) := ⟨⟨by decide +kernel, by decide +kernel⟩, List.mem_of_getElem? (i := 108) (by decide +kernel), List.mem_of_getElem? (i := 438) (by decide +kernel), List.mem_of_getElem? (i := 439) (by decide +kernel)⟩
theorem lw_p10 : lw_okq (⟨"BreadString$Trip", "arrive", "(I)V"⟩, 18) := ⟨⟨by decide +kernel, by decide +kernel⟩, List.mem_of_getElem? (i := 108) (by decide +kernel), List.mem_of_getElem? (i := 445) (by decide +kernel), List.mem_of_getElem? (i := 446) (by decide +kernel)⟩
theorem lw_p11 : lw_okq (⟨"BreadString$Trip", "serve", "(I)V"⟩, 18) := ⟨⟨by decide +kernel, by decide +kernel⟩, List.mem_of_getElem? (i := 108) (by decide +kernel), List.mem_of_getElem? (i := 449) (by decide +kernel), List.mem_of_getElem? (i := 450) (by decide +kernel)⟩
theorem lw_p12 : lw_okq (⟨"BreadString$Trip", "wantsBite", "(II)Z"⟩, 18) := ⟨⟨by decide +kernel, by decide +kernel⟩, List.mem_of_getElem? (i := 108) (by decide +kernel), List.mem_of_getElem? (i := 453) (by decide +kernel), List.mem_of_getElem? (i := 454) (by decide +kernel)⟩
theorem lw_p13 : lw_okq (⟨"BreadString$Trip", "bite", "(III)V"⟩, 18) := ⟨⟨by decide +kernel, by decide +kernel⟩, List.mem_of_getElem? (i := 108) (by decide +kernel), List.mem_of_getElem? (i := 457) (by decide +kernel), List.mem_of_getElem? (i := 458) (by decide +kernel)⟩
theorem lw_p14 : lw_okq (⟨"BreadString$Trip", "climb", "(I)V"⟩, 18) := ⟨⟨by decide +kernel, by decide +kernel⟩, List.mem_of_getElem? (i := 108) (by decide +kernel), List.mem_of_getElem? (i := 461) (by decide +kernel), List.mem_of_getElem? (i := 462) (by decide +kernel)⟩
theorem lw_p15 : lw_okq (⟨"BreadString$Trip", "leave", "(II)V"⟩, 18) := ⟨⟨by decide +kernel, by decide +kernel⟩, List.mem_of_getElem? (i := 108) (by decide +kernel), List.mem_of_getElem? (i := 465) (by decide +kernel), List.mem_of_getElem? (i := 466) (by decide +kernel)⟩
def lw_privs_1 : List (MethodName × Nat) := [(⟨"BreadString", "textOf", "(I)LBreadString$Text;"⟩, 15), (⟨"BreadString", "reread", "(I)I"⟩, 15), (⟨"BreadString$Tower", "takeFloors", "(LBreadString$Text;)I"⟩, 13), (⟨"BreadString$Tower", "takeBaskets", "(LBreadString$Text;)I"⟩, 13), (⟨"BreadString$Tower", "basketTakes", "(II)Z"⟩, 13), (⟨"BreadString$Tower", "keepBasketByte", "(II)V"⟩, 13), (⟨"BreadString", "isFloor", "(I)Z"⟩, 15), (⟨"BreadString", "isBasket", "(I)Z"⟩, 15), (⟨"BreadString", "found", "(I)I"⟩, 15), (⟨"BreadString$Trip", "begin", "()V"⟩, 18), (⟨"BreadString$Trip", "arrive", "(I)V"⟩, 18), (⟨"BreadString$Trip", "serve", "(I)V"⟩, 18), (⟨"BreadString$Trip", "wantsBite", "(II)Z"⟩, 18), (⟨"BreadString$Trip", "bite", "(III)V"⟩, 18), (⟨"BreadString$Trip", "climb", "(I)V"⟩, 18), (⟨"BreadString$Trip", "leave", "(II)V"⟩, 18)]
theorem lw_r1 : ∀ q ∈ lw_privs_1, lw_okq q := List.forall_mem_cons.mpr ⟨lw_p0, List.forall_mem_cons.mpr ⟨lw_p1, List.forall_mem_cons.mpr ⟨lw_p2, List.forall_mem_cons.mpr ⟨lw_p3, List.forall_mem_cons.mpr ⟨lw_p4, List.forall_mem_cons.mpr ⟨lw_p5, List.forall_mem_cons.mpr ⟨lw_p6, List.forall_mem_cons.mpr ⟨lw_p7, List.forall_mem_cons.mpr ⟨lw_p8, List.forall_mem_cons.mpr ⟨lw_p9, List.forall_mem_cons.mpr ⟨lw_p10, List.forall_mem_cons.mpr ⟨lw_p11, List.forall_mem_cons.mpr ⟨lw_p12, List.forall_mem_cons.mpr ⟨lw_p13, List.forall_mem_cons.mpr ⟨lw_p14, List.forall_mem_cons.mpr ⟨lw_p15, fun _ h => absurd h List.not_mem_nil⟩⟩⟩⟩⟩⟩⟩⟩⟩⟩⟩⟩⟩⟩⟩⟩
theorem lw_p16 : lw_okq (⟨"BreadString", "goAsTold", "()V"⟩, 15) := ⟨⟨by decide +kernel, by decide +kernel⟩, List.mem_of_getElem? (i := 13) (by decide +kernel), List.mem_of_getElem? (i := 477) (by decide +kernel), List.mem_of_getElem? (i := 478) (by decide +kernel)⟩
theorem lw_p17 : lw_okq (⟨"BreadString", "findHour", "(I)V"⟩, 15) := ⟨⟨by decide +kernel, by decide +kernel⟩, List.mem_of_getElem? (i := 13) (by decide +kernel), List.mem_of_getElem? (i := 526) (by decide +kernel), List.mem_of_getElem? (i := 527) (by decide +kernel)⟩
theorem lw_p18 : lw_okq (⟨"BreadString", "findFed", "(I)V"⟩, 15) := ⟨⟨by decide +kernel, by decide +kernel⟩, List.mem_of_getElem? (i := 13) (by decide +kernel), List.mem_of_getElem? (i := 545) (by decide +kernel), List.mem_of_getElem? (i := 546) (by decide +kernel)⟩
theorem lw_p19 : lw_okq (⟨"BreadString", "staysWhole", "(III)Z"⟩, 15) := ⟨⟨by decide +kernel, by decide +kernel⟩, List.mem_of_getElem? (i := 13) (by decide +kernel), List.mem_of_getElem? (i := 549) (by decide +kernel), List.mem_of_getElem? (i := 550) (by decide +kernel)⟩
theorem lw_p20 : lw_okq (⟨"BreadString", "keepFed", "(III)V"⟩, 15) := ⟨⟨by decide +kernel, by decide +kernel⟩, List.mem_of_getElem? (i := 13) (by decide +kernel), List.mem_of_getElem? (i := 563) (by decide +kernel), List.mem_of_getElem? (i := 564) (by decide +kernel)⟩
theorem lw_p21 : lw_okq (⟨"BreadString", "fedAt", "(I)I"⟩, 15) := ⟨⟨by decide +kernel, by decide +kernel⟩, List.mem_of_getElem? (i := 13) (by decide +kernel), List.mem_of_getElem? (i := 567) (by decide +kernel), List.mem_of_getElem? (i := 568) (by decide +kernel)⟩
theorem lw_p22 : lw_okq (⟨"BreadString", "findStill", "()V"⟩, 15) := ⟨⟨by decide +kernel, by decide +kernel⟩, List.mem_of_getElem? (i := 13) (by decide +kernel), List.mem_of_getElem? (i := 575) (by decide +kernel), List.mem_of_getElem? (i := 576) (by decide +kernel)⟩
theorem lw_p23 : lw_okq (⟨"BreadString", "fittingBites", "(I)I"⟩, 15) := ⟨⟨by decide +kernel, by decide +kernel⟩, List.mem_of_getElem? (i := 13) (by decide +kernel), List.mem_of_getElem? (i := 608) (by decide +kernel), List.mem_of_getElem? (i := 609) (by decide +kernel)⟩
theorem lw_p24 : lw_okq (⟨"BreadString", "fittingWords", "(I)I"⟩, 15) := ⟨⟨by decide +kernel, by decide +kernel⟩, List.mem_of_getElem? (i := 13) (by decide +kernel), List.mem_of_getElem? (i := 613) (by decide +kernel), List.mem_of_getElem? (i := 614) (by decide +kernel)⟩
theorem lw_p25 : lw_okq (⟨"BreadString", "greatestHeap", "(II)I"⟩, 15) := ⟨⟨by decide +kernel, by decide +kernel⟩, List.mem_of_getElem? (i := 13) (by decide +kernel), List.mem_of_getElem? (i := 621) (by decide +kernel), List.mem_of_getElem? (i := 622) (by decide +kernel)⟩
theorem lw_p26 : lw_okq (⟨"BreadString", "findChance", "(III)V"⟩, 15) := ⟨⟨by decide +kernel, by decide +kernel⟩, List.mem_of_getElem? (i := 13) (by decide +kernel), List.mem_of_getElem? (i := 633) (by decide +kernel), List.mem_of_getElem? (i := 634) (by decide +kernel)⟩
theorem lw_p27 : lw_okq (⟨"BreadString", "mixedFloor", "(JI)J"⟩, 15) := ⟨⟨by decide +kernel, by decide +kernel⟩, List.mem_of_getElem? (i := 13) (by decide +kernel), List.mem_of_getElem? (i := 711) (by decide +kernel), List.mem_of_getElem? (i := 712) (by decide +kernel)⟩
theorem lw_p28 : lw_okq (⟨"BreadString", "mixedWay", "(JI)J"⟩, 15) := ⟨⟨by decide +kernel, by decide +kernel⟩, List.mem_of_getElem? (i := 13) (by decide +kernel), List.mem_of_getElem? (i := 719) (by decide +kernel), List.mem_of_getElem? (i := 720) (by decide +kernel)⟩
theorem lw_p29 : lw_okq (⟨"BreadString", "mixedHour", "(JII)J"⟩, 15) := ⟨⟨by decide +kernel, by decide +kernel⟩, List.mem_of_getElem? (i := 13) (by decide +kernel), List.mem_of_getElem? (i := 724) (by decide +kernel), List.mem_of_getElem? (i := 725) (by decide +kernel)⟩
theorem lw_p30 : lw_okq (⟨"BreadString", "mixedPlans", "(JI)J"⟩, 15) := ⟨⟨by decide +kernel, by decide +kernel⟩, List.mem_of_getElem? (i := 13) (by decide +kernel), List.mem_of_getElem? (i := 731) (by decide +kernel), List.mem_of_getElem? (i := 732) (by decide +kernel)⟩
theorem lw_p31 : lw_okq (⟨"BreadStringModel", "faultOf", "(I)I"⟩, 48) := ⟨⟨by decide +kernel, by decide +kernel⟩, List.mem_of_getElem? (i := 741) (by decide +kernel), List.mem_of_getElem? (i := 915) (by decide +kernel), List.mem_of_getElem? (i := 916) (by decide +kernel)⟩
def lw_privs_2 : List (MethodName × Nat) := [(⟨"BreadString", "goAsTold", "()V"⟩, 15), (⟨"BreadString", "findHour", "(I)V"⟩, 15), (⟨"BreadString", "findFed", "(I)V"⟩, 15), (⟨"BreadString", "staysWhole", "(III)Z"⟩, 15), (⟨"BreadString", "keepFed", "(III)V"⟩, 15), (⟨"BreadString", "fedAt", "(I)I"⟩, 15), (⟨"BreadString", "findStill", "()V"⟩, 15), (⟨"BreadString", "fittingBites", "(I)I"⟩, 15), (⟨"BreadString", "fittingWords", "(I)I"⟩, 15), (⟨"BreadString", "greatestHeap", "(II)I"⟩, 15), (⟨"BreadString", "findChance", "(III)V"⟩, 15), (⟨"BreadString", "mixedFloor", "(JI)J"⟩, 15), (⟨"BreadString", "mixedWay", "(JI)J"⟩, 15), (⟨"BreadString", "mixedHour", "(JII)J"⟩, 15), (⟨"BreadString", "mixedPlans", "(JI)J"⟩, 15), (⟨"BreadStringModel", "faultOf", "(I)I"⟩, 48)]
theorem lw_r2 : ∀ q ∈ lw_privs_2, lw_okq q := List.forall_mem_cons.mpr ⟨lw_p16, List.forall_mem_cons.mpr ⟨lw_p17, List.forall_mem_cons.mpr ⟨lw_p18, List.forall_mem_cons.mpr ⟨lw_p19, List.forall_mem_cons.mpr ⟨lw_p20, List.forall_mem_cons.mpr ⟨lw_p21, List.forall_mem_cons.mpr ⟨lw_p22, List.forall_mem_cons.mpr ⟨lw_p23, List.forall_mem_cons.mpr ⟨lw_p24, List.forall_mem_cons.mpr ⟨lw_p25, List.forall_mem_cons.mpr ⟨lw_p26, List.forall_mem_cons.mpr ⟨lw_p27, List.forall_mem_cons.mpr ⟨lw_p28, List.forall_mem_cons.mpr ⟨lw_p29, List.forall_mem_cons.mpr ⟨lw_p30, List.forall_mem_cons.mpr ⟨lw_p31, fun _ h => absurd h List.not_mem_nil⟩⟩⟩⟩⟩⟩⟩⟩⟩⟩⟩⟩⟩⟩⟩⟩
theorem lw_p32 : lw_okq (⟨"BreadStringModel", "readsParts", "(I)I"⟩, 48) := ⟨⟨by decide +kernel, by decide +kernel⟩, List.mem_of_getElem? (i := 741) (by decide +kernel), List.mem_of_getElem? (i := 919) (by decide +kernel), List.mem_of_getElem? (i := 920) (by decide +kernel)⟩
theorem lw_p33 : lw_okq (⟨"BreadStringModel", "readsFloor", "(II)I"⟩, 48) := ⟨⟨by decide +kernel, by decide +kernel⟩, List.mem_of_getElem? (i := 741) (by decide +kernel), List.mem_of_getElem? (i := 923) (by decide +kernel), List.mem_of_getElem? (i := 924) (by decide +kernel)⟩
theorem lw_p34 : lw_okq (⟨"BreadStringModel", "byteAt", "(II)I"⟩, 48) := ⟨⟨by decide +kernel, by decide +kernel⟩, List.mem_of_getElem? (i := 741) (by decide +kernel), List.mem_of_getElem? (i := 927) (by decide +kernel), List.mem_of_getElem? (i := 928) (by decide +kernel)⟩
theorem lw_p35 : lw_okq (⟨"BreadStringModel", "isFigure", "(III)Z"⟩, 48) := ⟨⟨by decide +kernel, by decide +kernel⟩, List.mem_of_getElem? (i := 741) (by decide +kernel), List.mem_of_getElem? (i := 931) (by decide +kernel), List.mem_of_getElem? (i := 932) (by decide +kernel)⟩
theorem lw_p36 : lw_okq (⟨"BreadStringModel", "isLetter", "(II)Z"⟩, 48) := ⟨⟨by decide +kernel, by decide +kernel⟩, List.mem_of_getElem? (i := 741) (by decide +kernel), List.mem_of_getElem? (i := 935) (by decide +kernel), List.mem_of_getElem? (i := 936) (by decide +kernel)⟩
theorem lw_p37 : lw_okq (⟨"BreadStringModel", "readsBasket", "(II)I"⟩, 48) := ⟨⟨by decide +kernel, by decide +kernel⟩, List.mem_of_getElem? (i := 741) (by decide +kernel), List.mem_of_getElem? (i := 939) (by decide +kernel), List.mem_of_getElem? (i := 940) (by decide +kernel)⟩
theorem lw_p38 : lw_okq (⟨"BreadStringModel", "isFloor", "(I)Z"⟩, 48) := ⟨⟨by decide +kernel, by decide +kernel⟩, List.mem_of_getElem? (i := 741) (by decide +kernel), List.mem_of_getElem? (i := 947) (by decide +kernel), List.mem_of_getElem? (i := 948) (by decide +kernel)⟩
theorem lw_p39 : lw_okq (⟨"BreadStringModel", "reads", "()V"⟩, 48) := ⟨⟨by decide +kernel, by decide +kernel⟩, List.mem_of_getElem? (i := 741) (by decide +kernel), List.mem_of_getElem? (i := 951) (by decide +kernel), List.mem_of_getElem? (i := 952) (by decide +kernel)⟩
theorem lw_p40 : lw_okq (⟨"BreadStringModel", "floorOf", "(II)I"⟩, 48) := ⟨⟨by decide +kernel, by decide +kernel⟩, List.mem_of_getElem? (i := 741) (by decide +kernel), List.mem_of_getElem? (i := 955) (by decide +kernel), List.mem_of_getElem? (i := 956) (by decide +kernel)⟩
theorem lw_p41 : lw_okq (⟨"BreadStringModel", "isBasket", "(I)Z"⟩, 48) := ⟨⟨by decide +kernel, by decide +kernel⟩, List.mem_of_getElem? (i := 741) (by decide +kernel), List.mem_of_getElem? (i := 963) (by decide +kernel), List.mem_of_getElem? (i := 964) (by decide +kernel)⟩
theorem lw_p42 : lw_okq (⟨"BreadStringModel", "basketOf", "(II)I"⟩, 48) := ⟨⟨by decide +kernel, by decide +kernel⟩, List.mem_of_getElem? (i := 741) (by decide +kernel), List.mem_of_getElem? (i := 967) (by decide +kernel), List.mem_of_getElem? (i := 968) (by decide +kernel)⟩
theorem lw_p43 : lw_okq (⟨"BreadStringModel", "meets", "(I)I"⟩, 48) := ⟨⟨by decide +kernel, by decide +kernel⟩, List.mem_of_getElem? (i := 741) (by decide +kernel), List.mem_of_getElem? (i := 997) (by decide +kernel), List.mem_of_getElem? (i := 998) (by decide +kernel)⟩
theorem lw_p44 : lw_okq (⟨"BreadStringModel", "atOf", "(III)I"⟩, 48) := ⟨⟨by decide +kernel, by decide +kernel⟩, List.mem_of_getElem? (i := 741) (by decide +kernel), List.mem_of_getElem? (i := 1006) (by decide +kernel), List.mem_of_getElem? (i := 1007) (by decide +kernel)⟩
theorem lw_p45 : lw_okq (⟨"BreadStringModel", "runsTold", "()V"⟩, 48) := ⟨⟨by decide +kernel, by decide +kernel⟩, List.mem_of_getElem? (i := 741) (by decide +kernel), List.mem_of_getElem? (i := 1010) (by decide +kernel), List.mem_of_getElem? (i := 1011) (by decide +kernel)⟩
theorem lw_p46 : lw_okq (⟨"BreadStringModel", "asTold", "()V"⟩, 48) := ⟨⟨by decide +kernel, by decide +kernel⟩, List.mem_of_getElem? (i := 741) (by decide +kernel), List.mem_of_getElem? (i := 1014) (by decide +kernel), List.mem_of_getElem? (i := 1015) (by decide +kernel)⟩
theorem lw_p47 : lw_okq (⟨"BreadStringModel", "windsBut", "(I)J"⟩, 48) := ⟨⟨by decide +kernel, by decide +kernel⟩, List.mem_of_getElem? (i := 741) (by decide +kernel), List.mem_of_getElem? (i := 1018) (by decide +kernel), List.mem_of_getElem? (i := 1019) (by decide +kernel)⟩
def lw_privs_3 : List (MethodName × Nat) := [(⟨"BreadStringModel", "readsParts", "(I)I"⟩, 48), (⟨"BreadStringModel", "readsFloor", "(II)I"⟩, 48), (⟨"BreadStringModel", "byteAt", "(II)I"⟩, 48), (⟨"BreadStringModel", "isFigure", "(III)Z"⟩, 48), (⟨"BreadStringModel", "isLetter", "(II)Z"⟩, 48), (⟨"BreadStringModel", "readsBasket", "(II)I"⟩, 48), (⟨"BreadStringModel", "isFloor", "(I)Z"⟩, 48), (⟨"BreadStringModel", "reads", "()V"⟩, 48), (⟨"BreadStringModel", "floorOf", "(II)I"⟩, 48), (⟨"BreadStringModel", "isBasket", "(I)Z"⟩, 48), (⟨"BreadStringModel", "basketOf", "(II)I"⟩, 48), (⟨"BreadStringModel", "meets", "(I)I"⟩, 48), (⟨"BreadStringModel", "atOf", "(III)I"⟩, 48), (⟨"BreadStringModel", "runsTold", "()V"⟩, 48), (⟨"BreadStringModel", "asTold", "()V"⟩, 48), (⟨"BreadStringModel", "windsBut", "(I)J"⟩, 48)]
theorem lw_r3 : ∀ q ∈ lw_privs_3, lw_okq q := List.forall_mem_cons.mpr ⟨lw_p32, List.forall_mem_cons.mpr ⟨lw_p33, List.forall_mem_cons.mpr ⟨lw_p34, List.forall_mem_cons.mpr ⟨lw_p35, List.forall_mem_cons.mpr ⟨lw_p36, List.forall_mem_cons.mpr ⟨lw_p37, List.forall_mem_cons.mpr ⟨lw_p38, List.forall_mem_cons.mpr ⟨lw_p39, List.forall_mem_cons.mpr ⟨lw_p40, List.forall_mem_cons.mpr ⟨lw_p41, List.forall_mem_cons.mpr ⟨lw_p42, List.forall_mem_cons.mpr ⟨lw_p43, List.forall_mem_cons.mpr ⟨lw_p44, List.forall_mem_cons.mpr ⟨lw_p45, List.forall_mem_cons.mpr ⟨lw_p46, List.forall_mem_cons.mpr ⟨lw_p47, fun _ h => absurd h List.not_mem_nil⟩⟩⟩⟩⟩⟩⟩⟩⟩⟩⟩⟩⟩⟩⟩⟩
theorem lw_p48 : lw_okq (⟨"BreadStringModel", "runs", "()V"⟩, 48) := ⟨⟨by decide +kernel, by decide +kernel⟩, List.mem_of_getElem? (i := 741) (by decide +kernel), List.mem_of_getElem? (i := 1028) (by decide +kernel), List.mem_of_getElem? (i := 1029) (by decide +kernel)⟩
theorem lw_p49 : lw_okq (⟨"BreadStringModel", "goesBy", "(I)V"⟩, 48) := ⟨⟨by decide +kernel, by decide +kernel⟩, List.mem_of_getElem? (i := 741) (by decide +kernel), List.mem_of_getElem? (i := 1032) (by decide +kernel), List.mem_of_getElem? (i := 1033) (by decide +kernel)⟩
theorem lw_p50 : lw_okq (⟨"BreadStringModel", "isTangled", "(I)Z"⟩, 48) := ⟨⟨by decide +kernel, by decide +kernel⟩, List.mem_of_getElem? (i := 741) (by decide +kernel), List.mem_of_getElem? (i := 1036) (by decide +kernel), List.mem_of_getElem? (i := 1037) (by decide +kernel)⟩
theorem lw_p51 : lw_okq (⟨"BreadStringModel", "takes", "(III)V"⟩, 48) := ⟨⟨by decide +kernel, by decide +kernel⟩, List.mem_of_getElem? (i := 741) (by decide +kernel), List.mem_of_getElem? (i := 1040) (by decide +kernel), List.mem_of_getElem? (i := 1041) (by decide +kernel)⟩
theorem lw_p52 : lw_okq (⟨"BreadStringModel", "goesUp", "(II)V"⟩, 48) := ⟨⟨by decide +kernel, by decide +kernel⟩, List.mem_of_getElem? (i := 741) (by decide +kernel), List.mem_of_getElem? (i := 1044) (by decide +kernel), List.mem_of_getElem? (i := 1045) (by decide +kernel)⟩
theorem lw_p53 : lw_okq (⟨"BreadStringModel", "wears", "(I)V"⟩, 48) := ⟨⟨by decide +kernel, by decide +kernel⟩, List.mem_of_getElem? (i := 741) (by decide +kernel), List.mem_of_getElem? (i := 1048) (by decide +kernel), List.mem_of_getElem? (i := 1049) (by decide +kernel)⟩
theorem lw_p54 : lw_okq (⟨"BreadStringModel", "noteOf", "(II)I"⟩, 48) := ⟨⟨by decide +kernel, by decide +kernel⟩, List.mem_of_getElem? (i := 741) (by decide +kernel), List.mem_of_getElem? (i := 1056) (by decide +kernel), List.mem_of_getElem? (i := 1057) (by decide +kernel)⟩
theorem lw_p55 : lw_okq (⟨"BreadStringModel", "comesOf", "(I)I"⟩, 48) := ⟨⟨by decide +kernel, by decide +kernel⟩, List.mem_of_getElem? (i := 741) (by decide +kernel), List.mem_of_getElem? (i := 1064) (by decide +kernel), List.mem_of_getElem? (i := 1065) (by decide +kernel)⟩
theorem lw_p56 : lw_okq (⟨"BreadStringModel", "bitesOf", "(II)I"⟩, 48) := ⟨⟨by decide +kernel, by decide +kernel⟩, List.mem_of_getElem? (i := 741) (by decide +kernel), List.mem_of_getElem? (i := 1072) (by decide +kernel), List.mem_of_getElem? (i := 1073) (by decide +kernel)⟩
theorem lw_p57 : lw_okq (⟨"BreadStringModel", "famineNow", "()I"⟩, 48) := ⟨⟨by decide +kernel, by decide +kernel⟩, List.mem_of_getElem? (i := 741) (by decide +kernel), List.mem_of_getElem? (i := 1080) (by decide +kernel), List.mem_of_getElem? (i := 1081) (by decide +kernel)⟩
theorem lw_p58 : lw_okq (⟨"BreadStringModel", "upMuch", "()I"⟩, 48) := ⟨⟨by decide +kernel, by decide +kernel⟩, List.mem_of_getElem? (i := 741) (by decide +kernel), List.mem_of_getElem? (i := 1084) (by decide +kernel), List.mem_of_getElem? (i := 1085) (by decide +kernel)⟩
theorem lw_p59 : lw_okq (⟨"BreadStringModel", "firstOf", "(I)I"⟩, 48) := ⟨⟨by decide +kernel, by decide +kernel⟩, List.mem_of_getElem? (i := 741) (by decide +kernel), List.mem_of_getElem? (i := 1092) (by decide +kernel), List.mem_of_getElem? (i := 1093) (by decide +kernel)⟩
theorem lw_p60 : lw_okq (⟨"BreadStringModel", "greedyNow", "()I"⟩, 48) := ⟨⟨by decide +kernel, by decide +kernel⟩, List.mem_of_getElem? (i := 741) (by decide +kernel), List.mem_of_getElem? (i := 1100) (by decide +kernel), List.mem_of_getElem? (i := 1101) (by decide +kernel)⟩
theorem lw_p61 : lw_okq (⟨"BreadStringModel", "sendOf", "(II)I"⟩, 48) := ⟨⟨by decide +kernel, by decide +kernel⟩, List.mem_of_getElem? (i := 741) (by decide +kernel), List.mem_of_getElem? (i := 1108) (by decide +kernel), List.mem_of_getElem? (i := 1109) (by decide +kernel)⟩
theorem lw_p62 : lw_okq (⟨"BreadStringModel", "loafOf", "(II)I"⟩, 48) := ⟨⟨by decide +kernel, by decide +kernel⟩, List.mem_of_getElem? (i := 741) (by decide +kernel), List.mem_of_getElem? (i := 1116) (by decide +kernel), List.mem_of_getElem? (i := 1117) (by decide +kernel)⟩
theorem lw_p63 : lw_okq (⟨"BreadStringModel", "feedBy", "(I)I"⟩, 48) := ⟨⟨by decide +kernel, by decide +kernel⟩, List.mem_of_getElem? (i := 741) (by decide +kernel), List.mem_of_getElem? (i := 1124) (by decide +kernel), List.mem_of_getElem? (i := 1125) (by decide +kernel)⟩
def lw_privs_4 : List (MethodName × Nat) := [(⟨"BreadStringModel", "runs", "()V"⟩, 48), (⟨"BreadStringModel", "goesBy", "(I)V"⟩, 48), (⟨"BreadStringModel", "isTangled", "(I)Z"⟩, 48), (⟨"BreadStringModel", "takes", "(III)V"⟩, 48), (⟨"BreadStringModel", "goesUp", "(II)V"⟩, 48), (⟨"BreadStringModel", "wears", "(I)V"⟩, 48), (⟨"BreadStringModel", "noteOf", "(II)I"⟩, 48), (⟨"BreadStringModel", "comesOf", "(I)I"⟩, 48), (⟨"BreadStringModel", "bitesOf", "(II)I"⟩, 48), (⟨"BreadStringModel", "famineNow", "()I"⟩, 48), (⟨"BreadStringModel", "upMuch", "()I"⟩, 48), (⟨"BreadStringModel", "firstOf", "(I)I"⟩, 48), (⟨"BreadStringModel", "greedyNow", "()I"⟩, 48), (⟨"BreadStringModel", "sendOf", "(II)I"⟩, 48), (⟨"BreadStringModel", "loafOf", "(II)I"⟩, 48), (⟨"BreadStringModel", "feedBy", "(I)I"⟩, 48)]
theorem lw_r4 : ∀ q ∈ lw_privs_4, lw_okq q := List.forall_mem_cons.mpr ⟨lw_p48, List.forall_mem_cons.mpr ⟨lw_p49, List.forall_mem_cons.mpr ⟨lw_p50, List.forall_mem_cons.mpr ⟨lw_p51, List.forall_mem_cons.mpr ⟨lw_p52, List.forall_mem_cons.mpr ⟨lw_p53, List.forall_mem_cons.mpr ⟨lw_p54, List.forall_mem_cons.mpr ⟨lw_p55, List.forall_mem_cons.mpr ⟨lw_p56, List.forall_mem_cons.mpr ⟨lw_p57, List.forall_mem_cons.mpr ⟨lw_p58, List.forall_mem_cons.mpr ⟨lw_p59, List.forall_mem_cons.mpr ⟨lw_p60, List.forall_mem_cons.mpr ⟨lw_p61, List.forall_mem_cons.mpr ⟨lw_p62, List.forall_mem_cons.mpr ⟨lw_p63, fun _ h => absurd h List.not_mem_nil⟩⟩⟩⟩⟩⟩⟩⟩⟩⟩⟩⟩⟩⟩⟩⟩
theorem lw_p64 : lw_okq (⟨"BreadStringModel", "isKept", "(II)Z"⟩, 48) := ⟨⟨by decide +kernel, by decide +kernel⟩, List.mem_of_getElem? (i := 741) (by decide +kernel), List.mem_of_getElem? (i := 1128) (by decide +kernel), List.mem_of_getElem? (i := 1129) (by decide +kernel)⟩
theorem lw_p65 : lw_okq (⟨"BreadStringModel", "ofRow", "(II)I"⟩, 48) := ⟨⟨by decide +kernel, by decide +kernel⟩, List.mem_of_getElem? (i := 741) (by decide +kernel), List.mem_of_getElem? (i := 1132) (by decide +kernel), List.mem_of_getElem? (i := 1133) (by decide +kernel)⟩
theorem lw_p66 : lw_okq (⟨"BreadStringModel", "stillOf", "(I)I"⟩, 48) := ⟨⟨by decide +kernel, by decide +kernel⟩, List.mem_of_getElem? (i := 741) (by decide +kernel), List.mem_of_getElem? (i := 1140) (by decide +kernel), List.mem_of_getElem? (i := 1141) (by decide +kernel)⟩
theorem lw_p67 : lw_okq (⟨"BreadStringModel", "neverNow", "()I"⟩, 48) := ⟨⟨by decide +kernel, by decide +kernel⟩, List.mem_of_getElem? (i := 741) (by decide +kernel), List.mem_of_getElem? (i := 1156) (by decide +kernel), List.mem_of_getElem? (i := 1157) (by decide +kernel)⟩
theorem lw_p68 : lw_okq (⟨"BreadStringModel", "isSeen", "()Z"⟩, 48) := ⟨⟨by decide +kernel, by decide +kernel⟩, List.mem_of_getElem? (i := 741) (by decide +kernel), List.mem_of_getElem? (i := 1160) (by decide +kernel), List.mem_of_getElem? (i := 1161) (by decide +kernel)⟩
theorem lw_p69 : lw_okq (⟨"BreadStringModel", "wasOf", "(II)I"⟩, 48) := ⟨⟨by decide +kernel, by decide +kernel⟩, List.mem_of_getElem? (i := 741) (by decide +kernel), List.mem_of_getElem? (i := 1168) (by decide +kernel), List.mem_of_getElem? (i := 1169) (by decide +kernel)⟩
theorem lw_p70 : lw_okq (⟨"BreadStringModel", "askOf", "(I)I"⟩, 48) := ⟨⟨by decide +kernel, by decide +kernel⟩, List.mem_of_getElem? (i := 741) (by decide +kernel), List.mem_of_getElem? (i := 1176) (by decide +kernel), List.mem_of_getElem? (i := 1177) (by decide +kernel)⟩
theorem lw_p71 : lw_okq (⟨"BreadStringModel", "gustOf", "(IIII)J"⟩, 48) := ⟨⟨by decide +kernel, by decide +kernel⟩, List.mem_of_getElem? (i := 741) (by decide +kernel), List.mem_of_getElem? (i := 1184) (by decide +kernel), List.mem_of_getElem? (i := 1185) (by decide +kernel)⟩
theorem lw_p72 : lw_okq (⟨"BreadStringModel", "weekOf", "(III)I"⟩, 48) := ⟨⟨by decide +kernel, by decide +kernel⟩, List.mem_of_getElem? (i := 741) (by decide +kernel), List.mem_of_getElem? (i := 1199) (by decide +kernel), List.mem_of_getElem? (i := 1200) (by decide +kernel)⟩
theorem lw_p73 : lw_okq (⟨"BreadStringModel", "bitesAll", "()I"⟩, 48) := ⟨⟨by decide +kernel, by decide +kernel⟩, List.mem_of_getElem? (i := 741) (by decide +kernel), List.mem_of_getElem? (i := 1204) (by decide +kernel), List.mem_of_getElem? (i := 1205) (by decide +kernel)⟩
theorem lw_p74 : lw_okq (⟨"BreadStringModel", "lacks", "(III)I"⟩, 48) := ⟨⟨by decide +kernel, by decide +kernel⟩, List.mem_of_getElem? (i := 741) (by decide +kernel), List.mem_of_getElem? (i := 1220) (by decide +kernel), List.mem_of_getElem? (i := 1221) (by decide +kernel)⟩
theorem lw_p75 : lw_okq (⟨"BreadStringModel", "keep", "(III)V"⟩, 48) := ⟨⟨by decide +kernel, by decide +kernel⟩, List.mem_of_getElem? (i := 741) (by decide +kernel), List.mem_of_getElem? (i := 1224) (by decide +kernel), List.mem_of_getElem? (i := 1225) (by decide +kernel)⟩
theorem lw_p76 : lw_okq (⟨"BreadStringModel", "sumOf", "(I)I"⟩, 48) := ⟨⟨by decide +kernel, by decide +kernel⟩, List.mem_of_getElem? (i := 741) (by decide +kernel), List.mem_of_getElem? (i := 1245) (by decide +kernel), List.mem_of_getElem? (i := 1246) (by decide +kernel)⟩
theorem lw_p77 : lw_okq (⟨"BreadStringModel", "floorDigest", "(JI)J"⟩, 48) := ⟨⟨by decide +kernel, by decide +kernel⟩, List.mem_of_getElem? (i := 741) (by decide +kernel), List.mem_of_getElem? (i := 1256) (by decide +kernel), List.mem_of_getElem? (i := 1257) (by decide +kernel)⟩
theorem lw_p78 : lw_okq (⟨"BreadStringModel", "basketDigest", "(JI)J"⟩, 48) := ⟨⟨by decide +kernel, by decide +kernel⟩, List.mem_of_getElem? (i := 741) (by decide +kernel), List.mem_of_getElem? (i := 1260) (by decide +kernel), List.mem_of_getElem? (i := 1261) (by decide +kernel)⟩
theorem lw_p79 : lw_okq (⟨"BreadStringModel", "hourDigest", "(JII)J"⟩, 48) := ⟨⟨by decide +kernel, by decide +kernel⟩, List.mem_of_getElem? (i := 741) (by decide +kernel), List.mem_of_getElem? (i := 1264) (by decide +kernel), List.mem_of_getElem? (i := 1265) (by decide +kernel)⟩
def lw_privs_5 : List (MethodName × Nat) := [(⟨"BreadStringModel", "isKept", "(II)Z"⟩, 48), (⟨"BreadStringModel", "ofRow", "(II)I"⟩, 48), (⟨"BreadStringModel", "stillOf", "(I)I"⟩, 48), (⟨"BreadStringModel", "neverNow", "()I"⟩, 48), (⟨"BreadStringModel", "isSeen", "()Z"⟩, 48), (⟨"BreadStringModel", "wasOf", "(II)I"⟩, 48), (⟨"BreadStringModel", "askOf", "(I)I"⟩, 48), (⟨"BreadStringModel", "gustOf", "(IIII)J"⟩, 48), (⟨"BreadStringModel", "weekOf", "(III)I"⟩, 48), (⟨"BreadStringModel", "bitesAll", "()I"⟩, 48), (⟨"BreadStringModel", "lacks", "(III)I"⟩, 48), (⟨"BreadStringModel", "keep", "(III)V"⟩, 48), (⟨"BreadStringModel", "sumOf", "(I)I"⟩, 48), (⟨"BreadStringModel", "floorDigest", "(JI)J"⟩, 48), (⟨"BreadStringModel", "basketDigest", "(JI)J"⟩, 48), (⟨"BreadStringModel", "hourDigest", "(JII)J"⟩, 48)]
theorem lw_r5 : ∀ q ∈ lw_privs_5, lw_okq q := List.forall_mem_cons.mpr ⟨lw_p64, List.forall_mem_cons.mpr ⟨lw_p65, List.forall_mem_cons.mpr ⟨lw_p66, List.forall_mem_cons.mpr ⟨lw_p67, List.forall_mem_cons.mpr ⟨lw_p68, List.forall_mem_cons.mpr ⟨lw_p69, List.forall_mem_cons.mpr ⟨lw_p70, List.forall_mem_cons.mpr ⟨lw_p71, List.forall_mem_cons.mpr ⟨lw_p72, List.forall_mem_cons.mpr ⟨lw_p73, List.forall_mem_cons.mpr ⟨lw_p74, List.forall_mem_cons.mpr ⟨lw_p75, List.forall_mem_cons.mpr ⟨lw_p76, List.forall_mem_cons.mpr ⟨lw_p77, List.forall_mem_cons.mpr ⟨lw_p78, List.forall_mem_cons.mpr ⟨lw_p79, fun _ h => absurd h List.not_mem_nil⟩⟩⟩⟩⟩⟩⟩⟩⟩⟩⟩⟩⟩⟩⟩⟩
def lw_privs : List (MethodName × Nat) := lw_privs_1 ++ (lw_privs_2 ++ (lw_privs_3 ++ (lw_privs_4 ++ (lw_privs_5))))
def lw_tbl : List Cond := k2_sels lw_privs ++ tables_1
theorem lw_privs_ok : ∀ q ∈ lw_privs, lw_okq q := by
  show ∀ q ∈ lw_privs_1 ++ (lw_privs_2 ++ (lw_privs_3 ++ (lw_privs_4 ++ (lw_privs_5)))), lw_okq q
  exact List.forall_mem_append.mpr ⟨lw_r1, List.forall_mem_append.mpr ⟨lw_r2, List.forall_mem_append.mpr ⟨lw_r3, List.forall_mem_append.mpr ⟨lw_r4, lw_r5⟩⟩⟩⟩

def RX0 : String := "BreadString$Best"
def TX0 : u_T := fun k => match k with
  | 0 => ("BreadString$Best", "which", "I", false)
  | _ => ("BreadString$Best", "much", "I", false)
def tyX0 : Nat → FieldType := fun k => match k with
  | 0 => .int
  | _ => .int
theorem nmX0 : ∀ a, a < 2 → ∀ b, b < 2 → a ≠ b → (TX0 a).2.1 ≠ (TX0 b).2.1 := by decide +kernel
theorem tyX0_ok : ∀ k, k < 2 → parseFieldDescriptor (TX0 k).2.2.1 = some (tyX0 k) := by decide +kernel
def RX1 : String := "BreadString$Marks"
def TX1 : u_T := fun k => match k with
  | 0 => ("BreadString$Marks", "hours", "[I", true)
  | _ => ("BreadString$Marks", "size", "I", false)
def tyX1 : Nat → FieldType := fun k => match k with
  | 0 => .array .int
  | _ => .int
theorem nmX1 : ∀ a, a < 2 → ∀ b, b < 2 → a ≠ b → (TX1 a).2.1 ≠ (TX1 b).2.1 := by decide +kernel
theorem tyX1_ok : ∀ k, k < 2 → parseFieldDescriptor (TX1 k).2.2.1 = some (tyX1 k) := by decide +kernel
def RX2 : String := "BreadString$Sheets"
def TX2 : u_T := fun k => match k with
  | 0 => ("BreadString$Sheets", "form", "[I", true)
  | 1 => ("BreadString$Sheets", "size", "[I", true)
  | _ => ("BreadString$Sheets", "items", "[I", true)
def tyX2 : Nat → FieldType := fun k => match k with
  | 0 => .array .int
  | 1 => .array .int
  | _ => .array .int
theorem nmX2 : ∀ a, a < 3 → ∀ b, b < 3 → a ≠ b → (TX2 a).2.1 ≠ (TX2 b).2.1 := by decide +kernel
theorem tyX2_ok : ∀ k, k < 3 → parseFieldDescriptor (TX2 k).2.2.1 = some (tyX2 k) := by decide +kernel
def RX3 : String := "BreadString$Sightings"
def TX3 : u_T := fun k => match k with
  | 0 => ("BreadString$Sightings", "basket", "[I", true)
  | 1 => ("BreadString$Sightings", "place", "[I", true)
  | 2 => ("BreadString$Sightings", "letter", "[I", true)
  | _ => ("BreadString$Sightings", "size", "I", false)
def tyX3 : Nat → FieldType := fun k => match k with
  | 0 => .array .int
  | 1 => .array .int
  | 2 => .array .int
  | _ => .int
theorem nmX3 : ∀ a, a < 4 → ∀ b, b < 4 → a ≠ b → (TX3 a).2.1 ≠ (TX3 b).2.1 := by decide +kernel
theorem tyX3_ok : ∀ k, k < 4 → parseFieldDescriptor (TX3 k).2.2.1 = some (tyX3 k) := by decide +kernel
def RX4 : String := "BreadString$Text"
def TX4 : u_T := fun k => match k with
  | 0 => ("BreadString$Text", "bytes", "[I", true)
  | _ => ("BreadString$Text", "size", "I", false)
def tyX4 : Nat → FieldType := fun k => match k with
  | 0 => .array .int
  | _ => .int
theorem nmX4 : ∀ a, a < 2 → ∀ b, b < 2 → a ≠ b → (TX4 a).2.1 ≠ (TX4 b).2.1 := by decide +kernel
theorem tyX4_ok : ∀ k, k < 2 → parseFieldDescriptor (TX4 k).2.2.1 = some (tyX4 k) := by decide +kernel
def RX5 : String := "BreadString$Tower"
def TX5 : u_T := fun k => match k with
  | 0 => ("BreadString$Tower", "floors", "I", false)
  | 1 => ("BreadString$Tower", "floorFault", "I", false)
  | 2 => ("BreadString$Tower", "sort", "[I", true)
  | 3 => ("BreadString$Tower", "bite", "[I", true)
  | 4 => ("BreadString$Tower", "word", "[I", true)
  | 5 => ("BreadString$Tower", "baskets", "I", false)
  | 6 => ("BreadString$Tower", "basketFault", "I", false)
  | 7 => ("BreadString$Tower", "hour", "[I", true)
  | 8 => ("BreadString$Tower", "load", "[I", true)
  | 9 => ("BreadString$Tower", "letters", "[I", true)
  | 10 => ("BreadString$Tower", "told", "[I", true)
  | 11 => ("BreadString$Tower", "hunger", "I", false)
  | _ => ("BreadString$Tower", "wear", "I", false)
def tyX5 : Nat → FieldType := fun k => match k with
  | 0 => .int
  | 1 => .int
  | 2 => .array .int
  | 3 => .array .int
  | 4 => .array .int
  | 5 => .int
  | 6 => .int
  | 7 => .array .int
  | 8 => .array .int
  | 9 => .array .int
  | 10 => .array .int
  | 11 => .int
  | _ => .int
theorem nmX5 : ∀ a, a < 13 → ∀ b, b < 13 → a ≠ b → (TX5 a).2.1 ≠ (TX5 b).2.1 := by decide +kernel
theorem tyX5_ok : ∀ k, k < 13 → parseFieldDescriptor (TX5 k).2.2.1 = some (tyX5 k) := by decide +kernel
def RX6 : String := "BreadString$Trip"
def TX6 : u_T := fun k => match k with
  | 0 => ("BreadString$Trip", "tower", "LBreadString$Tower;", true)
  | 1 => ("BreadString$Trip", "windy", "Z", false)
  | 2 => ("BreadString$Trip", "holy", "Z", false)
  | 3 => ("BreadString$Trip", "floor", "[I", true)
  | 4 => ("BreadString$Trip", "load", "[I", true)
  | 5 => ("BreadString$Trip", "tangled", "[I", true)
  | 6 => ("BreadString$Trip", "up", "[I", true)
  | 7 => ("BreadString$Trip", "held", "[I", true)
  | 8 => ("BreadString$Trip", "notes", "[I", true)
  | 9 => ("BreadString$Trip", "start", "[I", true)
  | 10 => ("BreadString$Trip", "end", "[I", true)
  | 11 => ("BreadString$Trip", "last", "[I", true)
  | 12 => ("BreadString$Trip", "often", "[I", true)
  | 13 => ("BreadString$Trip", "eaten", "[I", true)
  | 14 => ("BreadString$Trip", "notUp", "I", false)
  | 15 => ("BreadString$Trip", "bites", "I", false)
  | 16 => ("BreadString$Trip", "firstHour", "I", false)
  | _ => ("BreadString$Trip", "firstFloor", "I", false)
def tyX6 : Nat → FieldType := fun k => match k with
  | 0 => .object "BreadString$Tower"
  | 1 => .boolean
  | 2 => .boolean
  | 3 => .array .int
  | 4 => .array .int
  | 5 => .array .int
  | 6 => .array .int
  | 7 => .array .int
  | 8 => .array .int
  | 9 => .array .int
  | 10 => .array .int
  | 11 => .array .int
  | 12 => .array .int
  | 13 => .array .int
  | 14 => .int
  | 15 => .int
  | 16 => .int
  | _ => .int
theorem nmX6 : ∀ a, a < 18 → ∀ b, b < 18 → a ≠ b → (TX6 a).2.1 ≠ (TX6 b).2.1 := by decide +kernel
theorem tyX6_ok : ∀ k, k < 18 → parseFieldDescriptor (TX6 k).2.2.1 = some (tyX6 k) := by decide +kernel
def RX7 : String := "BreadString"
def TX7 : u_T := fun k => match k with
  | 0 => ("BreadString", "floorText", "LBreadString$Text;", true)
  | 1 => ("BreadString", "basketText", "LBreadString$Text;", true)
  | 2 => ("BreadString", "tower", "LBreadString$Tower;", true)
  | 3 => ("BreadString", "trip", "LBreadString$Trip;", true)
  | 4 => ("BreadString", "winds", "LBreadString$Marks;", true)
  | 5 => ("BreadString", "sundays", "LBreadString$Marks;", true)
  | 6 => ("BreadString", "sightings", "LBreadString$Sightings;", true)
  | 7 => ("BreadString", "sheets", "LBreadString$Sheets;", true)
  | 8 => ("BreadString", "best", "LBreadString$Best;", true)
  | 9 => ("BreadString", "fed", "[I", true)
  | 10 => ("BreadString", "fedCount", "I", false)
  | 11 => ("BreadString", "leftLoads", "[I", true)
  | 12 => ("BreadString", "above", "J", false)
  | 13 => ("BreadString", "below", "J", false)
  | _ => ("BreadString", "finding", "I", false)
def tyX7 : Nat → FieldType := fun k => match k with
  | 0 => .object "BreadString$Text"
  | 1 => .object "BreadString$Text"
  | 2 => .object "BreadString$Tower"
  | 3 => .object "BreadString$Trip"
  | 4 => .object "BreadString$Marks"
  | 5 => .object "BreadString$Marks"
  | 6 => .object "BreadString$Sightings"
  | 7 => .object "BreadString$Sheets"
  | 8 => .object "BreadString$Best"
  | 9 => .array .int
  | 10 => .int
  | 11 => .array .int
  | 12 => .long
  | 13 => .long
  | _ => .int
theorem nmX7 : ∀ a, a < 15 → ∀ b, b < 15 → a ≠ b → (TX7 a).2.1 ≠ (TX7 b).2.1 := by decide +kernel
theorem tyX7_ok : ∀ k, k < 15 → parseFieldDescriptor (TX7 k).2.2.1 = some (tyX7 k) := by decide +kernel
def RX8 : String := "BreadStringModel"
def TX8 : u_T := fun k => match k with
  | 0 => ("BreadStringModel", "typed", "[I", true)
  | 1 => ("BreadStringModel", "texts", "[I", true)
  | 2 => ("BreadStringModel", "floors", "I", false)
  | 3 => ("BreadStringModel", "sorts", "[I", true)
  | 4 => ("BreadStringModel", "bitesTold", "[I", true)
  | 5 => ("BreadStringModel", "words", "[I", true)
  | 6 => ("BreadStringModel", "baskets", "I", false)
  | 7 => ("BreadStringModel", "hours", "[I", true)
  | 8 => ("BreadStringModel", "loads", "[I", true)
  | 9 => ("BreadStringModel", "sizesTold", "[I", true)
  | 10 => ("BreadStringModel", "letters", "[I", true)
  | 11 => ("BreadStringModel", "hungerTold", "I", false)
  | 12 => ("BreadStringModel", "wearTold", "I", false)
  | 13 => ("BreadStringModel", "winds", "I", false)
  | 14 => ("BreadStringModel", "windHour", "[I", true)
  | 15 => ("BreadStringModel", "sundays", "I", false)
  | 16 => ("BreadStringModel", "sundayHour", "[I", true)
  | 17 => ("BreadStringModel", "windBits", "J", false)
  | 18 => ("BreadStringModel", "sundayBits", "J", false)
  | 19 => ("BreadStringModel", "fed", "I", false)
  | 20 => ("BreadStringModel", "place", "[I", true)
  | 21 => ("BreadStringModel", "load", "[I", true)
  | 22 => ("BreadStringModel", "noteSize", "[I", true)
  | 23 => ("BreadStringModel", "notes", "[I", true)
  | 24 => ("BreadStringModel", "isHeld", "[Z", true)
  | 25 => ("BreadStringModel", "leftMany", "[I", true)
  | 26 => ("BreadStringModel", "upAt", "[I", true)
  | 27 => ("BreadStringModel", "lastBite", "[I", true)
  | 28 => ("BreadStringModel", "bitMany", "[I", true)
  | 29 => ("BreadStringModel", "bitMuch", "[I", true)
  | 30 => ("BreadStringModel", "firstHour", "I", false)
  | 31 => ("BreadStringModel", "firstFloor", "I", false)
  | 32 => ("BreadStringModel", "placeAt", "[I", true)
  | 33 => ("BreadStringModel", "loadAt", "[I", true)
  | 34 => ("BreadStringModel", "sizeAt", "[I", true)
  | 35 => ("BreadStringModel", "tangledAt", "[Z", true)
  | 36 => ("BreadStringModel", "planRow", "[I", true)
  | 37 => ("BreadStringModel", "seens", "I", false)
  | 38 => ("BreadStringModel", "seenBasket", "[I", true)
  | 39 => ("BreadStringModel", "seenPlace", "[I", true)
  | 40 => ("BreadStringModel", "seenLetter", "[I", true)
  | 41 => ("BreadStringModel", "loadBy", "[I", true)
  | 42 => ("BreadStringModel", "isThere", "[Z", true)
  | 43 => ("BreadStringModel", "forms", "[I", true)
  | 44 => ("BreadStringModel", "sizes", "[I", true)
  | 45 => ("BreadStringModel", "items", "[I", true)
  | 46 => ("BreadStringModel", "moved", "[I", true)
  | _ => ("BreadStringModel", "finding", "I", false)
def tyX8 : Nat → FieldType := fun k => match k with
  | 0 => .array .int
  | 1 => .array .int
  | 2 => .int
  | 3 => .array .int
  | 4 => .array .int
  | 5 => .array .int
  | 6 => .int
  | 7 => .array .int
  | 8 => .array .int
  | 9 => .array .int
  | 10 => .array .int
  | 11 => .int
  | 12 => .int
  | 13 => .int
  | 14 => .array .int
  | 15 => .int
  | 16 => .array .int
  | 17 => .long
  | 18 => .long
  | 19 => .int
  | 20 => .array .int
  | 21 => .array .int
  | 22 => .array .int
  | 23 => .array .int
  | 24 => .array .boolean
  | 25 => .array .int
  | 26 => .array .int
  | 27 => .array .int
  | 28 => .array .int
  | 29 => .array .int
  | 30 => .int
  | 31 => .int
  | 32 => .array .int
  | 33 => .array .int
  | 34 => .array .int
  | 35 => .array .boolean
  | 36 => .array .int
  | 37 => .int
  | 38 => .array .int
  | 39 => .array .int
  | 40 => .array .int
  | 41 => .array .int
  | 42 => .array .boolean
  | 43 => .array .int
  | 44 => .array .int
  | 45 => .array .int
  | 46 => .array .int
  | _ => .int
theorem nmX8 : ∀ a, a < 48 → ∀ b, b < 48 → a ≠ b → (TX8 a).2.1 ≠ (TX8 b).2.1 := by decide +kernel
theorem tyX8_ok : ∀ k, k < 48 → parseFieldDescriptor (TX8 k).2.2.1 = some (tyX8 k) := by decide +kernel
/-- the words of the tables that stay true -/
def vTbl : List Cond := lw_tbl.filter goodWord
theorem vTm {w : Cond} (h : w ∈ lw_tbl) (hg : goodWord w = true) : w ∈ vTbl := List.mem_filter.mpr ⟨h, hg⟩
abbrev classes : List vw_C := [(RX0, TX0, 2), (RX1, TX1, 2), (RX2, TX2, 3), (RX3, TX3, 4), (RX4, TX4, 2), (RX5, TX5, 13), (RX6, TX6, 18), (RX7, TX7, 15), (RX8, TX8, 48)]
/-- the type of field k of class ci -/
def vTy (ci : Nat) : Nat → FieldType := match ci with
  | 0 => tyX0
  | 1 => tyX1
  | 2 => tyX2
  | 3 => tyX3
  | 4 => tyX4
  | 5 => tyX5
  | 6 => tyX6
  | 7 => tyX7
  | _ => tyX8
def vN (ci : Nat) : Nat := match ci with
  | 0 => 2
  | 1 => 2
  | 2 => 3
  | 3 => 4
  | 4 => 2
  | 5 => 13
  | 6 => 18
  | 7 => 15
  | _ => 48
set_option maxRecDepth 100000 in
theorem vIn0 : ∀ w ∈ u_ws RX0 TX0 2, w ∈ vTbl := by decide +kernel
set_option maxRecDepth 100000 in
theorem vIn1 : ∀ w ∈ u_ws RX1 TX1 2, w ∈ vTbl := by decide +kernel
set_option maxRecDepth 100000 in
theorem vIn2 : ∀ w ∈ u_ws RX2 TX2 3, w ∈ vTbl := by decide +kernel
set_option maxRecDepth 100000 in
theorem vIn3 : ∀ w ∈ u_ws RX3 TX3 4, w ∈ vTbl := by decide +kernel
set_option maxRecDepth 100000 in
theorem vIn4 : ∀ w ∈ u_ws RX4 TX4 2, w ∈ vTbl := by decide +kernel
set_option maxRecDepth 100000 in
theorem vIn5 : ∀ w ∈ u_ws RX5 TX5 13, w ∈ vTbl := by decide +kernel
set_option maxRecDepth 100000 in
theorem vIn6 : ∀ w ∈ u_ws RX6 TX6 18, w ∈ vTbl := by decide +kernel
set_option maxRecDepth 100000 in
theorem vIn7 : ∀ w ∈ u_ws RX7 TX7 15, w ∈ vTbl := by decide +kernel
set_option maxRecDepth 100000 in
theorem vIn8 : ∀ w ∈ u_ws RX8 TX8 48, w ∈ vTbl := by decide +kernel
theorem vIn {ci N : Nat} {C : String} {T : u_T} (hc : classes[ci]? = some (C, T, N)) : ∀ w ∈ u_ws C T N, w ∈ vTbl :=
  match ci, hc with
  | 0, hc => by
    cases hc
    exact vIn0
  | 1, hc => by
    cases hc
    exact vIn1
  | 2, hc => by
    cases hc
    exact vIn2
  | 3, hc => by
    cases hc
    exact vIn3
  | 4, hc => by
    cases hc
    exact vIn4
  | 5, hc => by
    cases hc
    exact vIn5
  | 6, hc => by
    cases hc
    exact vIn6
  | 7, hc => by
    cases hc
    exact vIn7
  | 8, hc => by
    cases hc
    exact vIn8
  | (_ + 9), hc => by cases hc

theorem vTy_ok {ci N : Nat} {C : String} {T : u_T} (hc : classes[ci]? = some (C, T, N)) : ∀ k, k < N → parseFieldDescriptor (T k).2.2.1 = some (vTy ci k) :=
  match ci, hc with
  | 0, hc => by
    cases hc
    exact tyX0_ok
  | 1, hc => by
    cases hc
    exact tyX1_ok
  | 2, hc => by
    cases hc
    exact tyX2_ok
  | 3, hc => by
    cases hc
    exact tyX3_ok
  | 4, hc => by
    cases hc
    exact tyX4_ok
  | 5, hc => by
    cases hc
    exact tyX5_ok
  | 6, hc => by
    cases hc
    exact tyX6_ok
  | 7, hc => by
    cases hc
    exact tyX7_ok
  | 8, hc => by
    cases hc
    exact tyX8_ok
  | (_ + 9), hc => by cases hc

theorem vNm {ci N : Nat} {C : String} {T : u_T} (hc : classes[ci]? = some (C, T, N)) : ∀ a, a < N → ∀ b, b < N → a ≠ b → (T a).2.1 ≠ (T b).2.1 :=
  match ci, hc with
  | 0, hc => by
    cases hc
    exact nmX0
  | 1, hc => by
    cases hc
    exact nmX1
  | 2, hc => by
    cases hc
    exact nmX2
  | 3, hc => by
    cases hc
    exact nmX3
  | 4, hc => by
    cases hc
    exact nmX4
  | 5, hc => by
    cases hc
    exact nmX5
  | 6, hc => by
    cases hc
    exact nmX6
  | 7, hc => by
    cases hc
    exact nmX7
  | 8, hc => by
    cases hc
    exact nmX8
  | (_ + 9), hc => by cases hc

theorem vN_eq {ci N : Nat} {C : String} {T : u_T} (hc : classes[ci]? = some (C, T, N)) : N = vN ci :=
  match ci, hc with
  | 0, hc => by
    cases hc
    exact rfl
  | 1, hc => by
    cases hc
    exact rfl
  | 2, hc => by
    cases hc
    exact rfl
  | 3, hc => by
    cases hc
    exact rfl
  | 4, hc => by
    cases hc
    exact rfl
  | 5, hc => by
    cases hc
    exact rfl
  | 6, hc => by
    cases hc
    exact rfl
  | 7, hc => by
    cases hc
    exact rfl
  | 8, hc => by
    cases hc
    exact rfl
  | (_ + 9), hc => by cases hc

theorem vGood (big : List Cond) (h : ∀ w ∈ vTbl, w ∈ big) : GoodIn big vTbl := fun w hw => ⟨h w hw, good_of_word (List.mem_filter.mp hw).2⟩
end
section
/-! a judgement of my own over the kit's W: worlds of a fixed plan, their numbers as functions -/
/-- ints by cell and place, longs by cell and place -/
abbrev vMem : Type := (Nat → Nat → Int32) × (Nat → Nat → Int64)
/-- a plan: how many cells; of each its kind (0 ints, 1 booleans, ci + 2 an object of class ci) and length; its references (0 null, n + 1 cell n) -/
abbrev vCfg : Type := Nat × (Nat → Nat × Nat) × (Nat → Nat → Nat)
/-- a method: its name, code, locals, answer -/
abbrev vMI : Type := MethodName × ByteArray × Nat × Option FieldType
def vRef (ad : Nat → Nat) (r : Nat) : Value := match r with
  | 0 => .null
  | n + 1 => .ref (ad n)
def vFld (ad : Nat → Nat) (G : vCfg) (σ : vMem) (n j : Nat) (ty : FieldType) : Value := match ty with
  | .long => .long (σ.2 n j)
  | .int => .int (σ.1 n j)
  | .boolean => .int (σ.1 n j)
  | _ => vRef ad (G.2.2 n j)
def vCell (cI cZ : ClassId) (ad : Nat → Nat) (G : vCfg) (σ : vMem) (n : Nat) : va_E := match G.2.1 n with
  | (0, len) => .inl (cI, len, .inl (σ.1 n))
  | (1, len) => .inl (cZ, len, .inl (σ.1 n))
  | (k + 2, _) => .inr (k, (List.range (vN k)).map (fun j => vFld ad G σ n j (vTy k j)))
def vW (cI cZ : ClassId) (ad : Nat → Nat) (G : vCfg) (σ : vMem) : va_W := (List.range G.1).map (fun n => (ad n, vCell cI cZ ad G σ n))
abbrev vTys (cI cZ : ClassId) : List (ClassId × FieldType) := [(cI, .int), (cZ, .boolean)]
def vRm (d : Nat) : Room := { frames := d, cells := 0, slots := 0, locals := 40 * d }
def vLk (la : Array Slot) (n : Nat) (ls : List (Option Value)) : Prop := la.size = n ∧ lv_wf la ∧ ∀ (i : Nat) (v : Value), ls[i]? = some (some v) → la[i]? = some (.val v)
def vOK (mi : vMI) (p : Program) (s : State) (m : MethodId) (meth : Method) (c : Code) (args : Array Value) (D : va_G) (cI cZ : ClassId) : Prop :=
  p.tables.exec = Jvm.exec ∧ c.code = mi.2.1 ∧ c.maxLocals = mi.2.2.1 ∧ meth.sig.returnType = mi.2.2.2 ∧ meth.locks = false ∧ s.vm.findClass mi.1.cls = some m.cls ∧ (∀ w ∈ vTbl, w.before args s = true) ∧ va_K D classes (vTys cI cZ) s
def vQ (D : va_G) (cI cZ : ClassId) (ad : Nat → Nat) (G : vCfg) (A : Nat → Prop) (Q : Option Value → vMem → Prop) : Array Value → State → Outcome → State → Prop := fun _ st oc t =>
  ∃ (r : Option Value) (σ : vMem), oc = .returned r ∧ Q r σ ∧ va_P D classes (vW cI cZ ad G σ) t.heap ∧ va_F A st t
/-- from pc on, with these locals, this stack, this memory, the method ends, and Q holds of its answer and of the memory -/
def V (G : vCfg) (mi : vMI) (ad : Nat → Nat) (Q : Option Value → vMem → Prop) (d pc : Nat) (ls : List (Option Value)) (st : List Value) (σ : vMem) : Prop :=
  ∀ (p : Program) (l : Launch) (e : Env) (s : State) (m : MethodId) (args : Array Value) (below : List Frame) (meth : Method) (c : Code) (H : Heap) (locs : List Loc) (A : Nat → Prop) (D : va_G) (cI cZ : ClassId) (la : Array Slot),
    vOK mi p s m meth c args D cI cZ → vLk la mi.2.2.1 ls → va_P D classes (vW cI cZ ad G σ) H → va_D A (vW cI cZ ad G σ) → va_S A s.heap H locs →
      W p l e (vRm d) s m args below meth c H locs 0 0 (MQ below (vQ D cI cZ ad G A Q) args s 0 0 A) (F0 m pc la st)
/-! the world's rows -/
theorem vW_get (cI cZ : ClassId) (ad : Nat → Nat) (G : vCfg) (σ : vMem) {n : Nat} (hn : n < G.1) : (vW cI cZ ad G σ)[n]? = some (ad n, vCell cI cZ ad G σ n) := by
  simp [vW, List.getElem?_map, List.getElem?_range hn]
theorem vMap_set {α : Type} {N n : Nat} {f g : Nat → α} {y : α} (hn : n < N) (h1 : g n = y) (h2 : ∀ a, a ≠ n → g a = f a) : ((List.range N).map f).set n y = (List.range N).map g := by
  apply List.ext_getElem?
  intro k
  rw [List.getElem?_set]
  by_cases hk : n = k
  · subst hk
    simp [hn, h1]
  · rw [if_neg hk, List.getElem?_map, List.getElem?_map]
    by_cases hkN : k < N
    · rw [List.getElem?_range hkN]
      simp [h2 k (fun q => hk q.symm)]
    · rw [List.getElem?_eq_none (by simpa using hkN)]
      rfl
theorem vW_len (cI cZ : ClassId) (ad : Nat → Nat) (G : vCfg) (σ : vMem) : (vW cI cZ ad G σ).length = G.1 := by simp [vW]
/-- an int changes -/
def vup (σ : vMem) (n k : Nat) (x : Int32) : vMem := (fun a => if a = n then upd (σ.1 n) k x else σ.1 a, σ.2)
/-- a long changes -/
def vupL (σ : vMem) (n k : Nat) (x : Int64) : vMem := (σ.1, fun a => if a = n then (fun j => if j = k then x else σ.2 n j) else σ.2 a)
/-- a row is copied -/
def vcp (σ : vMem) (a0 a1 sp dp n : Nat) : vMem := (fun a => if a = a1 then va_cpy (σ.1 a0) (σ.1 a1) sp dp n else σ.1 a, σ.2)
theorem vCell_ne (cI cZ : ClassId) (ad : Nat → Nat) (G : vCfg) {σ τ : vMem} {n : Nat} (h1 : σ.1 n = τ.1 n) (h2 : σ.2 n = τ.2 n) : vCell cI cZ ad G σ n = vCell cI cZ ad G τ n := by
  unfold vCell
  split
  · rw [h1]
  · rw [h1]
  · congr 2
    refine List.map_congr_left fun j _ => ?_
    unfold vFld
    split
    · rw [h2]
    · rw [h1]
    · rw [h1]
    · rfl
theorem vup_ne (σ : vMem) {n k : Nat} (x : Int32) {a : Nat} (h : a ≠ n) : (vup σ n k x).1 a = σ.1 a := by simp [vup, h]
theorem vup_eq (σ : vMem) (n k : Nat) (x : Int32) : (vup σ n k x).1 n = upd (σ.1 n) k x := by simp [vup]
theorem vupL_ne (σ : vMem) {n k : Nat} (x : Int64) {a : Nat} (h : a ≠ n) : (vupL σ n k x).2 a = σ.2 a := by simp [vupL, h]
/-- a row of ints, or of booleans, has another one -/
theorem vW_arr (cI cZ : ClassId) (ad : Nat → Nat) (G : vCfg) {σ τ : vMem} {n : Nat} (hn : n < G.1) (hne : ∀ a, a ≠ n → τ.1 a = σ.1 a) (hL : τ.2 = σ.2) :
    (vW cI cZ ad G σ).set n (ad n, vCell cI cZ ad G τ n) = vW cI cZ ad G τ := by
  refine vMap_set hn rfl fun a ha => ?_
  rw [vCell_ne cI cZ ad G (hne a ha) (by rw [hL])]
theorem vW_obj (cI cZ : ClassId) (ad : Nat → Nat) (G : vCfg) {σ τ : vMem} {n ci k z : Nat} {v : Value} (hn : n < G.1) (hg : G.2.1 n = (ci + 2, z)) (hk : k < vN ci) (hv : vFld ad G τ n k (vTy ci k) = v)
    (hne : ∀ a, a ≠ n → τ.1 a = σ.1 a) (hneL : ∀ a, a ≠ n → τ.2 a = σ.2 a) (hq : ∀ j, j ≠ k → τ.1 n j = σ.1 n j) (hqL : ∀ j, j ≠ k → τ.2 n j = σ.2 n j) :
    (vW cI cZ ad G σ).set n (ad n, .inr (ci, ((List.range (vN ci)).map (fun j => vFld ad G σ n j (vTy ci j))).set k v)) = vW cI cZ ad G τ := by
  refine vMap_set hn ?_ fun a ha => ?_
  · have e : ((List.range (vN ci)).map (fun j => vFld ad G σ n j (vTy ci j))).set k v = (List.range (vN ci)).map (fun j => vFld ad G τ n j (vTy ci j)) := by
      refine vMap_set (g := fun j => vFld ad G τ n j (vTy ci j)) hk hv fun j hj => ?_
      show vFld ad G τ n j (vTy ci j) = vFld ad G σ n j (vTy ci j)
      unfold vFld
      split
      · rw [hqL j hj]
      · rw [hq j hj]
      · rw [hq j hj]
      · rfl
    rw [e]
    unfold vCell
    rw [hg]
  · rw [vCell_ne cI cZ ad G (hne a ha) (hneL a ha)]
theorem vW_addr (cI cZ : ClassId) (ad : Nat → Nat) (G : vCfg) (σ τ : vMem) {k : Nat} {q : Nat × va_E} (h : (vW cI cZ ad G σ)[k]? = some q) : ∃ e, (vW cI cZ ad G τ)[k]? = some (q.1, e) := by
  by_cases hk : k < G.1
  · rw [vW_get _ _ _ _ _ hk] at h
    cases h
    exact ⟨_, vW_get _ _ _ _ _ hk⟩
  · rw [List.getElem?_eq_none (by rw [vW_len]; omega)] at h
    cases h
theorem vW_D {cI cZ : ClassId} {ad : Nat → Nat} {G : vCfg} {σ : vMem} (τ : vMem) {A : Nat → Prop} (h : va_D A (vW cI cZ ad G σ)) : va_D A (vW cI cZ ad G τ) := by
  refine ⟨fun i j p q hp hq e => ?_, fun k q hq => ?_⟩
  · obtain ⟨e1, h1⟩ := vW_addr cI cZ ad G τ σ hp
    obtain ⟨e2, h2⟩ := vW_addr cI cZ ad G τ σ hq
    exact h.1 i j _ _ h1 h2 e
  · obtain ⟨e1, h1⟩ := vW_addr cI cZ ad G τ σ hq
    exact h.2 k (q.1, e1) h1
theorem vA_eq {cI cZ : ClassId} {ad : Nat → Nat} {G : vCfg} {σ : vMem} (τ : vMem) {sz q : Nat} (h : va_A (vW cI cZ ad G σ) sz q) : va_A (vW cI cZ ad G τ) sz q := by
  rcases h with ⟨k, e, h⟩ | h
  · obtain ⟨e1, h1⟩ := vW_addr cI cZ ad G σ τ h
    exact Or.inl ⟨k, e1, h1⟩
  · exact Or.inr h
end
