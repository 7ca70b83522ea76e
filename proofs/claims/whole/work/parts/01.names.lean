-- ===== PART A: goes FIRST, ahead of the names: the tables' words, and 'selects' of the private methods out of them =====
/-- a private method of a class that the tables say can be made, by its rows of tables_1 -/
def lw_okq (q : MethodName × Nat) : Prop := (q.1.cls ≠ "java/lang/invoke/MethodHandle" ∧ q.1.cls ≠ "java/lang/invoke/VarHandle") ∧ Cond.instantiable q.1.cls q.2 ∈ tables_1 ∧ Cond.privateMethod q.1 ∈ tables_1 ∧ Cond.instanceMethod q.1 ∈ tables_1
theorem lw_p0 : lw_okq (⟨"TallTales", "faulty", "(I)I"⟩, 9) := ⟨⟨by decide +kernel, by decide +kernel⟩, List.mem_of_getElem? (i := 13) (by decide +kernel), List.mem_of_getElem? (i := 256) (by decide +kernel), List.mem_of_getElem? (i := 257) (by decide +kernel)⟩
theorem lw_p1 : lw_okq (⟨"TallTales", "bestReply", "(IIZ)I"⟩, 9) := ⟨⟨by decide +kernel, by decide +kernel⟩, List.mem_of_getElem? (i := 13) (by decide +kernel), List.mem_of_getElem? (i := 406) (by decide +kernel), List.mem_of_getElem? (i := 407) (by decide +kernel)⟩
theorem lw_p2 : lw_okq (⟨"TallTales", "isBetterReply", "(III)Z"⟩, 9) := ⟨⟨by decide +kernel, by decide +kernel⟩, List.mem_of_getElem? (i := 13) (by decide +kernel), List.mem_of_getElem? (i := 415) (by decide +kernel), List.mem_of_getElem? (i := 416) (by decide +kernel)⟩
theorem lw_p3 : lw_okq (⟨"TallTales", "canHaveTold", "(II)I"⟩, 9) := ⟨⟨by decide +kernel, by decide +kernel⟩, List.mem_of_getElem? (i := 13) (by decide +kernel), List.mem_of_getElem? (i := 514) (by decide +kernel), List.mem_of_getElem? (i := 515) (by decide +kernel)⟩
theorem lw_p4 : lw_okq (⟨"TallTales", "tellAsGrown", "(I)I"⟩, 9) := ⟨⟨by decide +kernel, by decide +kernel⟩, List.mem_of_getElem? (i := 13) (by decide +kernel), List.mem_of_getElem? (i := 585) (by decide +kernel), List.mem_of_getElem? (i := 586) (by decide +kernel)⟩
theorem lw_p5 : lw_okq (⟨"TallTales", "leaveTrace", "(I)V"⟩, 9) := ⟨⟨by decide +kernel, by decide +kernel⟩, List.mem_of_getElem? (i := 13) (by decide +kernel), List.mem_of_getElem? (i := 589) (by decide +kernel), List.mem_of_getElem? (i := 590) (by decide +kernel)⟩
theorem lw_p6 : lw_okq (⟨"TallTales", "tellAsTale", "(I)I"⟩, 9) := ⟨⟨by decide +kernel, by decide +kernel⟩, List.mem_of_getElem? (i := 13) (by decide +kernel), List.mem_of_getElem? (i := 593) (by decide +kernel), List.mem_of_getElem? (i := 594) (by decide +kernel)⟩
theorem lw_p7 : lw_okq (⟨"TallTales", "tellAsTrue", "(I)I"⟩, 9) := ⟨⟨by decide +kernel, by decide +kernel⟩, List.mem_of_getElem? (i := 13) (by decide +kernel), List.mem_of_getElem? (i := 597) (by decide +kernel), List.mem_of_getElem? (i := 598) (by decide +kernel)⟩
theorem lw_p8 : lw_okq (⟨"TallTalesModel", "against", "(IIII)I"⟩, 31) := ⟨⟨by decide +kernel, by decide +kernel⟩, List.mem_of_getElem? (i := 621) (by decide +kernel), List.mem_of_getElem? (i := 734) (by decide +kernel), List.mem_of_getElem? (i := 735) (by decide +kernel)⟩
theorem lw_p9 : lw_okq (⟨"TallTalesModel", "fails", "(I)I"⟩, 31) := ⟨⟨by decide +kernel, by decide +kernel⟩, List.mem_of_getElem? (i := 621) (by decide +kernel), List.mem_of_getElem? (i := 738) (by decide +kernel), List.mem_of_getElem? (i := 739) (by decide +kernel)⟩
theorem lw_p10 : lw_okq (⟨"TallTalesModel", "readInn", "(I)Z"⟩, 31) := ⟨⟨by decide +kernel, by decide +kernel⟩, List.mem_of_getElem? (i := 621) (by decide +kernel), List.mem_of_getElem? (i := 742) (by decide +kernel), List.mem_of_getElem? (i := 743) (by decide +kernel)⟩
theorem lw_p11 : lw_okq (⟨"TallTalesModel", "digitAt", "(II)I"⟩, 31) := ⟨⟨by decide +kernel, by decide +kernel⟩, List.mem_of_getElem? (i := 621) (by decide +kernel), List.mem_of_getElem? (i := 746) (by decide +kernel), List.mem_of_getElem? (i := 747) (by decide +kernel)⟩
theorem lw_p12 : lw_okq (⟨"TallTalesModel", "readTale", "(I)Z"⟩, 31) := ⟨⟨by decide +kernel, by decide +kernel⟩, List.mem_of_getElem? (i := 621) (by decide +kernel), List.mem_of_getElem? (i := 750) (by decide +kernel), List.mem_of_getElem? (i := 751) (by decide +kernel)⟩
theorem lw_p13 : lw_okq (⟨"TallTalesModel", "countTold", "()V"⟩, 31) := ⟨⟨by decide +kernel, by decide +kernel⟩, List.mem_of_getElem? (i := 621) (by decide +kernel), List.mem_of_getElem? (i := 754) (by decide +kernel), List.mem_of_getElem? (i := 755) (by decide +kernel)⟩
theorem lw_p14 : lw_okq (⟨"TallTalesModel", "chooseNone", "()V"⟩, 31) := ⟨⟨by decide +kernel, by decide +kernel⟩, List.mem_of_getElem? (i := 621) (by decide +kernel), List.mem_of_getElem? (i := 758) (by decide +kernel), List.mem_of_getElem? (i := 759) (by decide +kernel)⟩
theorem lw_p15 : lw_okq (⟨"TallTalesModel", "isTale", "(I)Z"⟩, 31) := ⟨⟨by decide +kernel, by decide +kernel⟩, List.mem_of_getElem? (i := 621) (by decide +kernel), List.mem_of_getElem? (i := 766) (by decide +kernel), List.mem_of_getElem? (i := 767) (by decide +kernel)⟩
def lw_privs_1 : List (MethodName × Nat) := [(⟨"TallTales", "faulty", "(I)I"⟩, 9), (⟨"TallTales", "bestReply", "(IIZ)I"⟩, 9), (⟨"TallTales", "isBetterReply", "(III)Z"⟩, 9), (⟨"TallTales", "canHaveTold", "(II)I"⟩, 9), (⟨"TallTales", "tellAsGrown", "(I)I"⟩, 9), (⟨"TallTales", "leaveTrace", "(I)V"⟩, 9), (⟨"TallTales", "tellAsTale", "(I)I"⟩, 9), (⟨"TallTales", "tellAsTrue", "(I)I"⟩, 9), (⟨"TallTalesModel", "against", "(IIII)I"⟩, 31), (⟨"TallTalesModel", "fails", "(I)I"⟩, 31), (⟨"TallTalesModel", "readInn", "(I)Z"⟩, 31), (⟨"TallTalesModel", "digitAt", "(II)I"⟩, 31), (⟨"TallTalesModel", "readTale", "(I)Z"⟩, 31), (⟨"TallTalesModel", "countTold", "()V"⟩, 31), (⟨"TallTalesModel", "chooseNone", "()V"⟩, 31), (⟨"TallTalesModel", "isTale", "(I)Z"⟩, 31)]
theorem lw_r1 : ∀ q ∈ lw_privs_1, lw_okq q := List.forall_mem_cons.mpr ⟨lw_p0, List.forall_mem_cons.mpr ⟨lw_p1, List.forall_mem_cons.mpr ⟨lw_p2, List.forall_mem_cons.mpr ⟨lw_p3, List.forall_mem_cons.mpr ⟨lw_p4, List.forall_mem_cons.mpr ⟨lw_p5, List.forall_mem_cons.mpr ⟨lw_p6, List.forall_mem_cons.mpr ⟨lw_p7, List.forall_mem_cons.mpr ⟨lw_p8, List.forall_mem_cons.mpr ⟨lw_p9, List.forall_mem_cons.mpr ⟨lw_p10, List.forall_mem_cons.mpr ⟨lw_p11, List.forall_mem_cons.mpr ⟨lw_p12, List.forall_mem_cons.mpr ⟨lw_p13, List.forall_mem_cons.mpr ⟨lw_p14, List.forall_mem_cons.mpr ⟨lw_p15, fun _ h => absurd h List.not_mem_nil⟩⟩⟩⟩⟩⟩⟩⟩⟩⟩⟩⟩⟩⟩⟩⟩
theorem lw_p16 : lw_okq (⟨"TallTalesModel", "mayNow", "(I)Z"⟩, 31) := ⟨⟨by decide +kernel, by decide +kernel⟩, List.mem_of_getElem? (i := 621) (by decide +kernel), List.mem_of_getElem? (i := 770) (by decide +kernel), List.mem_of_getElem? (i := 771) (by decide +kernel)⟩
theorem lw_p17 : lw_okq (⟨"TallTalesModel", "mayBe", "(IIII)Z"⟩, 31) := ⟨⟨by decide +kernel, by decide +kernel⟩, List.mem_of_getElem? (i := 621) (by decide +kernel), List.mem_of_getElem? (i := 774) (by decide +kernel), List.mem_of_getElem? (i := 775) (by decide +kernel)⟩
theorem lw_p18 : lw_okq (⟨"TallTalesModel", "tallNow", "(I)I"⟩, 31) := ⟨⟨by decide +kernel, by decide +kernel⟩, List.mem_of_getElem? (i := 621) (by decide +kernel), List.mem_of_getElem? (i := 778) (by decide +kernel), List.mem_of_getElem? (i := 779) (by decide +kernel)⟩
theorem lw_p19 : lw_okq (⟨"TallTalesModel", "tallBy", "(II)I"⟩, 31) := ⟨⟨by decide +kernel, by decide +kernel⟩, List.mem_of_getElem? (i := 621) (by decide +kernel), List.mem_of_getElem? (i := 782) (by decide +kernel), List.mem_of_getElem? (i := 783) (by decide +kernel)⟩
theorem lw_p20 : lw_okq (⟨"TallTalesModel", "isGuest", "(I)Z"⟩, 31) := ⟨⟨by decide +kernel, by decide +kernel⟩, List.mem_of_getElem? (i := 621) (by decide +kernel), List.mem_of_getElem? (i := 794) (by decide +kernel), List.mem_of_getElem? (i := 795) (by decide +kernel)⟩
theorem lw_p21 : lw_okq (⟨"TallTalesModel", "layTall", "()V"⟩, 31) := ⟨⟨by decide +kernel, by decide +kernel⟩, List.mem_of_getElem? (i := 621) (by decide +kernel), List.mem_of_getElem? (i := 802) (by decide +kernel), List.mem_of_getElem? (i := 803) (by decide +kernel)⟩
theorem lw_p22 : lw_okq (⟨"TallTalesModel", "inBed", "()I"⟩, 31) := ⟨⟨by decide +kernel, by decide +kernel⟩, List.mem_of_getElem? (i := 621) (by decide +kernel), List.mem_of_getElem? (i := 806) (by decide +kernel), List.mem_of_getElem? (i := 807) (by decide +kernel)⟩
theorem lw_p23 : lw_okq (⟨"TallTalesModel", "placeOf", "(I)I"⟩, 31) := ⟨⟨by decide +kernel, by decide +kernel⟩, List.mem_of_getElem? (i := 621) (by decide +kernel), List.mem_of_getElem? (i := 810) (by decide +kernel), List.mem_of_getElem? (i := 811) (by decide +kernel)⟩
theorem lw_p24 : lw_okq (⟨"TallTalesModel", "isNight", "(I)Z"⟩, 31) := ⟨⟨by decide +kernel, by decide +kernel⟩, List.mem_of_getElem? (i := 621) (by decide +kernel), List.mem_of_getElem? (i := 818) (by decide +kernel), List.mem_of_getElem? (i := 819) (by decide +kernel)⟩
theorem lw_p25 : lw_okq (⟨"TallTalesModel", "layNight", "(I)V"⟩, 31) := ⟨⟨by decide +kernel, by decide +kernel⟩, List.mem_of_getElem? (i := 621) (by decide +kernel), List.mem_of_getElem? (i := 822) (by decide +kernel), List.mem_of_getElem? (i := 823) (by decide +kernel)⟩
theorem lw_p26 : lw_okq (⟨"TallTalesModel", "need", "(I)I"⟩, 31) := ⟨⟨by decide +kernel, by decide +kernel⟩, List.mem_of_getElem? (i := 621) (by decide +kernel), List.mem_of_getElem? (i := 838) (by decide +kernel), List.mem_of_getElem? (i := 839) (by decide +kernel)⟩
theorem lw_p27 : lw_okq (⟨"TallTalesModel", "offer", "(II)V"⟩, 31) := ⟨⟨by decide +kernel, by decide +kernel⟩, List.mem_of_getElem? (i := 621) (by decide +kernel), List.mem_of_getElem? (i := 846) (by decide +kernel), List.mem_of_getElem? (i := 847) (by decide +kernel)⟩
theorem lw_p28 : lw_okq (⟨"TallTalesModel", "found", "(I)I"⟩, 31) := ⟨⟨by decide +kernel, by decide +kernel⟩, List.mem_of_getElem? (i := 621) (by decide +kernel), List.mem_of_getElem? (i := 850) (by decide +kernel), List.mem_of_getElem? (i := 851) (by decide +kernel)⟩
theorem lw_p29 : lw_okq (⟨"TallTalesModel", "isChosen", "(I)Z"⟩, 31) := ⟨⟨by decide +kernel, by decide +kernel⟩, List.mem_of_getElem? (i := 621) (by decide +kernel), List.mem_of_getElem? (i := 858) (by decide +kernel), List.mem_of_getElem? (i := 859) (by decide +kernel)⟩
theorem lw_p30 : lw_okq (⟨"TallTalesModel", "findRests", "()I"⟩, 31) := ⟨⟨by decide +kernel, by decide +kernel⟩, List.mem_of_getElem? (i := 621) (by decide +kernel), List.mem_of_getElem? (i := 870) (by decide +kernel), List.mem_of_getElem? (i := 871) (by decide +kernel)⟩
theorem lw_p31 : lw_okq (⟨"TallTalesModel", "nextOwn", "(II)I"⟩, 31) := ⟨⟨by decide +kernel, by decide +kernel⟩, List.mem_of_getElem? (i := 621) (by decide +kernel), List.mem_of_getElem? (i := 874) (by decide +kernel), List.mem_of_getElem? (i := 875) (by decide +kernel)⟩
def lw_privs_2 : List (MethodName × Nat) := [(⟨"TallTalesModel", "mayNow", "(I)Z"⟩, 31), (⟨"TallTalesModel", "mayBe", "(IIII)Z"⟩, 31), (⟨"TallTalesModel", "tallNow", "(I)I"⟩, 31), (⟨"TallTalesModel", "tallBy", "(II)I"⟩, 31), (⟨"TallTalesModel", "isGuest", "(I)Z"⟩, 31), (⟨"TallTalesModel", "layTall", "()V"⟩, 31), (⟨"TallTalesModel", "inBed", "()I"⟩, 31), (⟨"TallTalesModel", "placeOf", "(I)I"⟩, 31), (⟨"TallTalesModel", "isNight", "(I)Z"⟩, 31), (⟨"TallTalesModel", "layNight", "(I)V"⟩, 31), (⟨"TallTalesModel", "need", "(I)I"⟩, 31), (⟨"TallTalesModel", "offer", "(II)V"⟩, 31), (⟨"TallTalesModel", "found", "(I)I"⟩, 31), (⟨"TallTalesModel", "isChosen", "(I)Z"⟩, 31), (⟨"TallTalesModel", "findRests", "()I"⟩, 31), (⟨"TallTalesModel", "nextOwn", "(II)I"⟩, 31)]
theorem lw_r2 : ∀ q ∈ lw_privs_2, lw_okq q := List.forall_mem_cons.mpr ⟨lw_p16, List.forall_mem_cons.mpr ⟨lw_p17, List.forall_mem_cons.mpr ⟨lw_p18, List.forall_mem_cons.mpr ⟨lw_p19, List.forall_mem_cons.mpr ⟨lw_p20, List.forall_mem_cons.mpr ⟨lw_p21, List.forall_mem_cons.mpr ⟨lw_p22, List.forall_mem_cons.mpr ⟨lw_p23, List.forall_mem_cons.mpr ⟨lw_p24, List.forall_mem_cons.mpr ⟨lw_p25, List.forall_mem_cons.mpr ⟨lw_p26, List.forall_mem_cons.mpr ⟨lw_p27, List.forall_mem_cons.mpr ⟨lw_p28, List.forall_mem_cons.mpr ⟨lw_p29, List.forall_mem_cons.mpr ⟨lw_p30, List.forall_mem_cons.mpr ⟨lw_p31, fun _ h => absurd h List.not_mem_nil⟩⟩⟩⟩⟩⟩⟩⟩⟩⟩⟩⟩⟩⟩⟩⟩
theorem lw_p32 : lw_okq (⟨"TallTalesModel", "isRest", "()Z"⟩, 31) := ⟨⟨by decide +kernel, by decide +kernel⟩, List.mem_of_getElem? (i := 621) (by decide +kernel), List.mem_of_getElem? (i := 878) (by decide +kernel), List.mem_of_getElem? (i := 879) (by decide +kernel)⟩
theorem lw_p33 : lw_okq (⟨"TallTalesModel", "layTells", "()V"⟩, 31) := ⟨⟨by decide +kernel, by decide +kernel⟩, List.mem_of_getElem? (i := 621) (by decide +kernel), List.mem_of_getElem? (i := 882) (by decide +kernel), List.mem_of_getElem? (i := 883) (by decide +kernel)⟩
theorem lw_p34 : lw_okq (⟨"TallTalesModel", "nextTells", "()Z"⟩, 31) := ⟨⟨by decide +kernel, by decide +kernel⟩, List.mem_of_getElem? (i := 621) (by decide +kernel), List.mem_of_getElem? (i := 886) (by decide +kernel), List.mem_of_getElem? (i := 887) (by decide +kernel)⟩
theorem lw_p35 : lw_okq (⟨"TallTalesModel", "findWinter", "(III)I"⟩, 31) := ⟨⟨by decide +kernel, by decide +kernel⟩, List.mem_of_getElem? (i := 621) (by decide +kernel), List.mem_of_getElem? (i := 894) (by decide +kernel), List.mem_of_getElem? (i := 895) (by decide +kernel)⟩
theorem lw_p36 : lw_okq (⟨"TallTalesModel", "mayWinter", "(IIII)Z"⟩, 31) := ⟨⟨by decide +kernel, by decide +kernel⟩, List.mem_of_getElem? (i := 621) (by decide +kernel), List.mem_of_getElem? (i := 898) (by decide +kernel), List.mem_of_getElem? (i := 899) (by decide +kernel)⟩
theorem lw_p37 : lw_okq (⟨"TallTalesModel", "strong", "(I)I"⟩, 31) := ⟨⟨by decide +kernel, by decide +kernel⟩, List.mem_of_getElem? (i := 621) (by decide +kernel), List.mem_of_getElem? (i := 909) (by decide +kernel), List.mem_of_getElem? (i := 910) (by decide +kernel)⟩
theorem lw_p38 : lw_okq (⟨"TallTalesModel", "areAllGuests", "(I)Z"⟩, 31) := ⟨⟨by decide +kernel, by decide +kernel⟩, List.mem_of_getElem? (i := 621) (by decide +kernel), List.mem_of_getElem? (i := 917) (by decide +kernel), List.mem_of_getElem? (i := 918) (by decide +kernel)⟩
theorem lw_p39 : lw_okq (⟨"TallTalesModel", "timesBefore", "(II)I"⟩, 31) := ⟨⟨by decide +kernel, by decide +kernel⟩, List.mem_of_getElem? (i := 621) (by decide +kernel), List.mem_of_getElem? (i := 921) (by decide +kernel), List.mem_of_getElem? (i := 922) (by decide +kernel)⟩
theorem lw_p40 : lw_okq (⟨"TallTalesModel", "doLie", "(I)Z"⟩, 31) := ⟨⟨by decide +kernel, by decide +kernel⟩, List.mem_of_getElem? (i := 621) (by decide +kernel), List.mem_of_getElem? (i := 925) (by decide +kernel), List.mem_of_getElem? (i := 926) (by decide +kernel)⟩
theorem lw_p41 : lw_okq (⟨"TallTalesModel", "lost", "(I)J"⟩, 31) := ⟨⟨by decide +kernel, by decide +kernel⟩, List.mem_of_getElem? (i := 621) (by decide +kernel), List.mem_of_getElem? (i := 946) (by decide +kernel), List.mem_of_getElem? (i := 947) (by decide +kernel)⟩
theorem lw_p42 : lw_okq (⟨"TallTalesModel", "begins", "(I)V"⟩, 31) := ⟨⟨by decide +kernel, by decide +kernel⟩, List.mem_of_getElem? (i := 621) (by decide +kernel), List.mem_of_getElem? (i := 958) (by decide +kernel), List.mem_of_getElem? (i := 959) (by decide +kernel)⟩
def lw_privs_3 : List (MethodName × Nat) := [(⟨"TallTalesModel", "isRest", "()Z"⟩, 31), (⟨"TallTalesModel", "layTells", "()V"⟩, 31), (⟨"TallTalesModel", "nextTells", "()Z"⟩, 31), (⟨"TallTalesModel", "findWinter", "(III)I"⟩, 31), (⟨"TallTalesModel", "mayWinter", "(IIII)Z"⟩, 31), (⟨"TallTalesModel", "strong", "(I)I"⟩, 31), (⟨"TallTalesModel", "areAllGuests", "(I)Z"⟩, 31), (⟨"TallTalesModel", "timesBefore", "(II)I"⟩, 31), (⟨"TallTalesModel", "doLie", "(I)Z"⟩, 31), (⟨"TallTalesModel", "lost", "(I)J"⟩, 31), (⟨"TallTalesModel", "begins", "(I)V"⟩, 31)]
theorem lw_r3 : ∀ q ∈ lw_privs_3, lw_okq q := List.forall_mem_cons.mpr ⟨lw_p32, List.forall_mem_cons.mpr ⟨lw_p33, List.forall_mem_cons.mpr ⟨lw_p34, List.forall_mem_cons.mpr ⟨lw_p35, List.forall_mem_cons.mpr ⟨lw_p36, List.forall_mem_cons.mpr ⟨lw_p37, List.forall_mem_cons.mpr ⟨lw_p38, List.forall_mem_cons.mpr ⟨lw_p39, List.forall_mem_cons.mpr ⟨lw_p40, List.forall_mem_cons.mpr ⟨lw_p41, List.forall_mem_cons.mpr ⟨lw_p42, fun _ h => absurd h List.not_mem_nil⟩⟩⟩⟩⟩⟩⟩⟩⟩⟩⟩
def lw_privs : List (MethodName × Nat) := lw_privs_1 ++ (lw_privs_2 ++ (lw_privs_3))
def lw_tbl : List Cond := k2_sels lw_privs ++ tables_1
theorem lw_privs_ok : ∀ q ∈ lw_privs, lw_okq q := by
  show ∀ q ∈ lw_privs_1 ++ (lw_privs_2 ++ (lw_privs_3)), lw_okq q
  exact List.forall_mem_append.mpr ⟨lw_r1, List.forall_mem_append.mpr ⟨lw_r2, lw_r3⟩⟩

theorem goodIn_r {big : List Cond} (ws : List Cond) (ps : List Nat) (hp : ws = ps.filterMap (fun i => big[i]?)) (h : ws.all goodWord = true) : GoodIn big ws := by
  intro w hw
  have h1 := List.all_eq_true.mp h w hw
  rw [hp] at hw
  obtain ⟨i, -, hi⟩ := List.mem_filterMap.mp hw
  have hm : w ∈ big := by first | exact List.mem_of_getElem? hi | exact List.getElem?_mem hi
  exact ⟨hm, good_of_word h1⟩
theorem goodIn_app {big a b : List Cond} (ha : GoodIn big a) (hb : GoodIn big b) : GoodIn big (a ++ b) := fun w h => (List.mem_append.mp h).elim (ha w) (hb w)
theorem goodIn_ca {big a b : List Cond} {c : Cond} (ha : GoodIn big (c :: a)) (hb : GoodIn big b) : GoodIn big (c :: (a ++ b)) := fun w h => (List.mem_cons.mp h).elim (fun e => ha w (List.mem_cons.mpr (Or.inl e))) (fun h => (List.mem_append.mp h).elim (fun h => ha w (List.mem_cons.mpr (Or.inr h))) (hb w))
theorem goodIn_sub {big ws : List Cond} (hm : ∀ w ∈ ws, w ∈ big) (h : ws.all goodWord = true) : GoodIn big ws := fun w hw => ⟨hm w hw, good_of_word (List.all_eq_true.mp h w hw)⟩
def RX0 : String := "TallTales$House"
def TX0 : u_T := fun k => match k with
  | 0 => ("TallTales$House", "guests", "I", false)
  | 1 => ("TallTales$House", "tales", "I", false)
  | 2 => ("TallTales$House", "memory", "I", false)
  | 3 => ("TallTales$House", "nights", "I", false)
  | 4 => ("TallTales$House", "kinds", "[I", true)
  | 5 => ("TallTales$House", "owners", "[I", true)
  | 6 => ("TallTales$House", "heights", "[I", true)
  | 7 => ("TallTales$House", "told", "[I", true)
  | 8 => ("TallTales$House", "last", "[I", true)
  | 9 => ("TallTales$House", "chosen", "[I", true)
  | 10 => ("TallTales$House", "nightTale", "[I", true)
  | 11 => ("TallTales$House", "nightPlace", "[I", true)
  | _ => ("TallTales$House", "nightTall", "[I", true)
def tyX0 : Nat → FieldType := fun k => match k with
  | 0 => .int
  | 1 => .int
  | 2 => .int
  | 3 => .int
  | 4 => .array .int
  | 5 => .array .int
  | 6 => .array .int
  | 7 => .array .int
  | 8 => .array .int
  | 9 => .array .int
  | 10 => .array .int
  | 11 => .array .int
  | _ => .array .int
abbrev wsX00 : List Cond := u_ws RX0 TX0 13
theorem nmX0 : ∀ a, a < 13 → ∀ b, b < 13 → a ≠ b → (TX0 a).2.1 ≠ (TX0 b).2.1 := by decide +kernel
theorem tyX0_ok : ∀ k, k < 13 → parseFieldDescriptor (TX0 k).2.2.1 = some (tyX0 k) := by decide +kernel
abbrev cX0_init : ByteArray := prog_2_method_1_code
def yX0_init : MethodName := ⟨RX0, "<init>", "()V"⟩
abbrev cX0_open : ByteArray := prog_2_method_2_code
def yX0_open : MethodName := ⟨RX0, "open", "(LTallTales$Text;)V"⟩
abbrev cX0_isOpen : ByteArray := prog_2_method_3_code
def yX0_isOpen : MethodName := ⟨RX0, "isOpen", "()Z"⟩
abbrev cX0_hasGuest : ByteArray := prog_2_method_4_code
def yX0_hasGuest : MethodName := ⟨RX0, "hasGuest", "(I)Z"⟩
abbrev cX0_hasTale : ByteArray := prog_2_method_5_code
def yX0_hasTale : MethodName := ⟨RX0, "hasTale", "(I)Z"⟩
abbrev cX0_hasNight : ByteArray := prog_2_method_6_code
def yX0_hasNight : MethodName := ⟨RX0, "hasNight", "(I)Z"⟩
abbrev cX0_mayBeTold : ByteArray := prog_2_method_7_code
def yX0_mayBeTold : MethodName := ⟨RX0, "mayBeTold", "(IIII)Z"⟩
abbrev cX0_isTellable : ByteArray := prog_2_method_8_code
def yX0_isTellable : MethodName := ⟨RX0, "isTellable", "(I)Z"⟩
abbrev cX0_tallWhenTold : ByteArray := prog_2_method_9_code
def yX0_tallWhenTold : MethodName := ⟨RX0, "tallWhenTold", "(II)I"⟩
abbrev cX0_tallOf : ByteArray := prog_2_method_10_code
def yX0_tallOf : MethodName := ⟨RX0, "tallOf", "(I)I"⟩
abbrev cX0_isOffered : ByteArray := prog_2_method_11_code
def yX0_isOffered : MethodName := ⟨RX0, "isOffered", "(IIZ)Z"⟩
abbrev cX0_tallsAsChosen : ByteArray := prog_2_method_12_code
def yX0_tallsAsChosen : MethodName := ⟨RX0, "tallsAsChosen", "(LTallTales$Talls;)V"⟩
abbrev cX0_tallsOfNight : ByteArray := prog_2_method_13_code
def yX0_tallsOfNight : MethodName := ⟨RX0, "tallsOfNight", "(ILTallTales$Talls;)V"⟩
abbrev cX0_goBy : ByteArray := prog_2_method_14_code
def yX0_goBy : MethodName := ⟨RX0, "goBy", "(LTallTales$Talls;)I"⟩
abbrev cX0_keepTold : ByteArray := prog_2_method_15_code
def yX0_keepTold : MethodName := ⟨RX0, "keepTold", "(II)V"⟩
abbrev cX0_goBack : ByteArray := prog_2_method_16_code
def yX0_goBack : MethodName := ⟨RX0, "goBack", "(I)V"⟩
abbrev cX0_nightsAt : ByteArray := prog_2_method_17_code
def yX0_nightsAt : MethodName := ⟨RX0, "nightsAt", "(II)I"⟩
abbrev cX0_timesToldBefore : ByteArray := prog_2_method_18_code
def yX0_timesToldBefore : MethodName := ⟨RX0, "timesToldBefore", "(II)I"⟩
abbrev cX0_ownerAfter : ByteArray := prog_2_method_19_code
def yX0_ownerAfter : MethodName := ⟨RX0, "ownerAfter", "(III)I"⟩
abbrev cX0_strongAfter : ByteArray := prog_2_method_20_code
def yX0_strongAfter : MethodName := ⟨RX0, "strongAfter", "(III)I"⟩
abbrev cX0_isRowOfAll : ByteArray := prog_2_method_21_code
def yX0_isRowOfAll : MethodName := ⟨RX0, "isRowOfAll", "([I)Z"⟩
def RX1 : String := "TallTales$Rests"
def TX1 : u_T := fun k => match k with
  | 0 => ("TallTales$Rests", "house", "LTallTales$House;", true)
  | 1 => ("TallTales$Rests", "talls", "LTallTales$Talls;", true)
  | 2 => ("TallTales$Rests", "picks", "[I", true)
  | 3 => ("TallTales$Rests", "first", "[I", true)
  | _ => ("TallTales$Rests", "count", "I", false)
def tyX1 : Nat → FieldType := fun k => match k with
  | 0 => .object "TallTales$House"
  | 1 => .object "TallTales$Talls"
  | 2 => .array .int
  | 3 => .array .int
  | _ => .int
abbrev wsX10 : List Cond := u_ws RX1 TX1 5
theorem nmX1 : ∀ a, a < 5 → ∀ b, b < 5 → a ≠ b → (TX1 a).2.1 ≠ (TX1 b).2.1 := by decide +kernel
theorem tyX1_ok : ∀ k, k < 5 → parseFieldDescriptor (TX1 k).2.2.1 = some (tyX1 k) := by decide +kernel
abbrev cX1_init : ByteArray := prog_3_method_1_code
def yX1_init : MethodName := ⟨RX1, "<init>", "(LTallTales$House;LTallTales$Talls;)V"⟩
abbrev cX1_find : ByteArray := prog_3_method_2_code
def yX1_find : MethodName := ⟨RX1, "find", "()V"⟩
abbrev cX1_keepRest : ByteArray := prog_3_method_3_code
def yX1_keepRest : MethodName := ⟨RX1, "keepRest", "()V"⟩
abbrev cX1_ownAfter : ByteArray := prog_3_method_4_code
def yX1_ownAfter : MethodName := ⟨RX1, "ownAfter", "(II)I"⟩
abbrev cX1_goOn : ByteArray := prog_3_method_5_code
def yX1_goOn : MethodName := ⟨RX1, "goOn", "()Z"⟩
abbrev cX1_isRest : ByteArray := prog_3_method_6_code
def yX1_isRest : MethodName := ⟨RX1, "isRest", "()Z"⟩
abbrev cX1_canDoBetter : ByteArray := prog_3_method_7_code
def yX1_canDoBetter : MethodName := ⟨RX1, "canDoBetter", "(I)Z"⟩
def RX2 : String := "TallTales$Sheets"
def TX2 : u_T := fun k => match k with
  | 0 => ("TallTales$Sheets", "cells", "[I", true)
  | 1 => ("TallTales$Sheets", "sorts", "[I", true)
  | _ => ("TallTales$Sheets", "lengths", "[I", true)
def tyX2 : Nat → FieldType := fun k => match k with
  | 0 => .array .int
  | 1 => .array .int
  | _ => .array .int
abbrev wsX20 : List Cond := u_ws RX2 TX2 3
theorem nmX2 : ∀ a, a < 3 → ∀ b, b < 3 → a ≠ b → (TX2 a).2.1 ≠ (TX2 b).2.1 := by decide +kernel
theorem tyX2_ok : ∀ k, k < 3 → parseFieldDescriptor (TX2 k).2.2.1 = some (tyX2 k) := by decide +kernel
abbrev cX2_init : ByteArray := prog_4_method_1_code
def yX2_init : MethodName := ⟨RX2, "<init>", "()V"⟩
abbrev cX2_hasRow : ByteArray := prog_4_method_2_code
def yX2_hasRow : MethodName := ⟨RX2, "hasRow", "(I)Z"⟩
abbrev cX2_hasCells : ByteArray := prog_4_method_3_code
def yX2_hasCells : MethodName := ⟨RX2, "hasCells", "(III)Z"⟩
abbrev cX2_faultOf : ByteArray := prog_4_method_4_code
def yX2_faultOf : MethodName := ⟨RX2, "faultOf", "(IIII)I"⟩
abbrev cX2_makeRow : ByteArray := prog_4_method_5_code
def yX2_makeRow : MethodName := ⟨RX2, "makeRow", "(III)V"⟩
abbrev cX2_dropRow : ByteArray := prog_4_method_6_code
def yX2_dropRow : MethodName := ⟨RX2, "dropRow", "(I)Z"⟩
abbrev cX2_read : ByteArray := prog_4_method_7_code
def yX2_read : MethodName := ⟨RX2, "read", "(II)I"⟩
abbrev cX2_write : ByteArray := prog_4_method_8_code
def yX2_write : MethodName := ⟨RX2, "write", "(III)V"⟩
abbrev cX2_take : ByteArray := prog_4_method_9_code
def yX2_take : MethodName := ⟨RX2, "take", "(III[I)V"⟩
abbrev cX2_move : ByteArray := prog_4_method_10_code
def yX2_move : MethodName := ⟨RX2, "move", "(IIIII)V"⟩
def RX3 : String := "TallTales$Talls"
def TX3 : u_T := fun k => match k with
  | 0 => ("TallTales$Talls", "of", "[I", true)
  | _ => ("TallTales$Talls", "guests", "I", false)
def tyX3 : Nat → FieldType := fun k => match k with
  | 0 => .array .int
  | _ => .int
abbrev wsX30 : List Cond := u_ws RX3 TX3 2
theorem nmX3 : ∀ a, a < 2 → ∀ b, b < 2 → a ≠ b → (TX3 a).2.1 ≠ (TX3 b).2.1 := by decide +kernel
theorem tyX3_ok : ∀ k, k < 2 → parseFieldDescriptor (TX3 k).2.2.1 = some (tyX3 k) := by decide +kernel
abbrev cX3_init : ByteArray := prog_5_method_1_code
def yX3_init : MethodName := ⟨RX3, "<init>", "()V"⟩
abbrev cX3_placeOf : ByteArray := prog_5_method_2_code
def yX3_placeOf : MethodName := ⟨RX3, "placeOf", "(II)I"⟩
abbrev cX3_needOf : ByteArray := prog_5_method_3_code
def yX3_needOf : MethodName := ⟨RX3, "needOf", "(I)I"⟩
abbrev cX3_noLessThan : ByteArray := prog_5_method_4_code
def yX3_noLessThan : MethodName := ⟨RX3, "noLessThan", "(I)I"⟩
abbrev cX3_layAs : ByteArray := prog_5_method_5_code
def yX3_layAs : MethodName := ⟨RX3, "layAs", "([I)Z"⟩
def RX4 : String := "TallTales$Text"
def TX4 : u_T := fun k => match k with
  | 0 => ("TallTales$Text", "codes", "[I", true)
  | _ => ("TallTales$Text", "length", "I", false)
def tyX4 : Nat → FieldType := fun k => match k with
  | 0 => .array .int
  | _ => .int
abbrev wsX40 : List Cond := u_ws RX4 TX4 2
theorem nmX4 : ∀ a, a < 2 → ∀ b, b < 2 → a ≠ b → (TX4 a).2.1 ≠ (TX4 b).2.1 := by decide +kernel
theorem tyX4_ok : ∀ k, k < 2 → parseFieldDescriptor (TX4 k).2.2.1 = some (tyX4 k) := by decide +kernel
abbrev cX4_init : ByteArray := prog_6_method_1_code
def yX4_init : MethodName := ⟨RX4, "<init>", "()V"⟩
abbrev cX4_firstFault : ByteArray := prog_6_method_2_code
def yX4_firstFault : MethodName := ⟨RX4, "firstFault", "()I"⟩
abbrev cX4_goesOn : ByteArray := prog_6_method_3_code
def yX4_goesOn : MethodName := ⟨RX4, "goesOn", "(I)Z"⟩
abbrev cX4_isDigit : ByteArray := prog_6_method_4_code
def yX4_isDigit : MethodName := ⟨RX4, "isDigit", "(I)Z"⟩
abbrev cX4_guests : ByteArray := prog_6_method_5_code
def yX4_guests : MethodName := ⟨RX4, "guests", "()I"⟩
abbrev cX4_tales : ByteArray := prog_6_method_6_code
def yX4_tales : MethodName := ⟨RX4, "tales", "()I"⟩
abbrev cX4_kindOf : ByteArray := prog_6_method_7_code
def yX4_kindOf : MethodName := ⟨RX4, "kindOf", "(I)I"⟩
abbrev cX4_ownerOf : ByteArray := prog_6_method_8_code
def yX4_ownerOf : MethodName := ⟨RX4, "ownerOf", "(I)I"⟩
abbrev cX4_heightOf : ByteArray := prog_6_method_9_code
def yX4_heightOf : MethodName := ⟨RX4, "heightOf", "(I)I"⟩
def RX5 : String := "TallTales$Winter"
def TX5 : u_T := fun k => match k with
  | 0 => ("TallTales$Winter", "house", "LTallTales$House;", true)
  | 1 => ("TallTales$Winter", "numbers", "[I", true)
  | 2 => ("TallTales$Winter", "ahead", "[I", true)
  | 3 => ("TallTales$Winter", "told", "[I", true)
  | 4 => ("TallTales$Winter", "last", "[I", true)
  | 5 => ("TallTales$Winter", "row", "[I", true)
  | 6 => ("TallTales$Winter", "first", "[I", true)
  | 7 => ("TallTales$Winter", "guest", "I", false)
  | 8 => ("TallTales$Winter", "length", "I", false)
  | _ => ("TallTales$Winter", "most", "I", false)
def tyX5 : Nat → FieldType := fun k => match k with
  | 0 => .object "TallTales$House"
  | 1 => .array .int
  | 2 => .array .int
  | 3 => .array .int
  | 4 => .array .int
  | 5 => .array .int
  | 6 => .array .int
  | 7 => .int
  | 8 => .int
  | _ => .int
abbrev wsX50 : List Cond := u_ws RX5 TX5 10
theorem nmX5 : ∀ a, a < 10 → ∀ b, b < 10 → a ≠ b → (TX5 a).2.1 ≠ (TX5 b).2.1 := by decide +kernel
theorem tyX5_ok : ∀ k, k < 10 → parseFieldDescriptor (TX5 k).2.2.1 = some (tyX5 k) := by decide +kernel
abbrev cX5_init : ByteArray := prog_7_method_1_code
def yX5_init : MethodName := ⟨RX5, "<init>", "(LTallTales$House;)V"⟩
abbrev cX5_find : ByteArray := prog_7_method_2_code
def yX5_find : MethodName := ⟨RX5, "find", "(II)V"⟩
abbrev cX5_isWithinReach : ByteArray := prog_7_method_3_code
def yX5_isWithinReach : MethodName := ⟨RX5, "isWithinReach", "(I)Z"⟩
abbrev cX5_wins : ByteArray := prog_7_method_4_code
def yX5_wins : MethodName := ⟨RX5, "wins", "(II)Z"⟩
abbrev cX5_keep : ByteArray := prog_7_method_5_code
def yX5_keep : MethodName := ⟨RX5, "keep", "(I)V"⟩
abbrev cX5_search : ByteArray := prog_7_method_6_code
def yX5_search : MethodName := ⟨RX5, "search", "(LTallTales$Winter;II)V"⟩
def RX6 : String := "TallTales"
def TX6 : u_T := fun k => match k with
  | 0 => ("TallTales", "sheets", "LTallTales$Sheets;", true)
  | 1 => ("TallTales", "text", "LTallTales$Text;", true)
  | 2 => ("TallTales", "house", "LTallTales$House;", true)
  | 3 => ("TallTales", "talls", "LTallTales$Talls;", true)
  | 4 => ("TallTales", "rests", "LTallTales$Rests;", true)
  | 5 => ("TallTales", "winter", "LTallTales$Winter;", true)
  | 6 => ("TallTales", "lying", "[I", true)
  | 7 => ("TallTales", "trace", "I", false)
  | _ => ("TallTales", "fault", "I", false)
def tyX6 : Nat → FieldType := fun k => match k with
  | 0 => .object "TallTales$Sheets"
  | 1 => .object "TallTales$Text"
  | 2 => .object "TallTales$House"
  | 3 => .object "TallTales$Talls"
  | 4 => .object "TallTales$Rests"
  | 5 => .object "TallTales$Winter"
  | 6 => .array .int
  | 7 => .int
  | _ => .int
abbrev wsX60 : List Cond := u_ws RX6 TX6 9
theorem nmX6 : ∀ a, a < 9 → ∀ b, b < 9 → a ≠ b → (TX6 a).2.1 ≠ (TX6 b).2.1 := by decide +kernel
theorem tyX6_ok : ∀ k, k < 9 → parseFieldDescriptor (TX6 k).2.2.1 = some (tyX6 k) := by decide +kernel
abbrev cX6_init : ByteArray := prog_1_method_1_code
def yX6_init : MethodName := ⟨RX6, "<init>", "()V"⟩
abbrev cX6_inn : ByteArray := prog_1_method_2_code
def yX6_inn : MethodName := ⟨RX6, "inn", "(IIII)I"⟩
abbrev cX6_ofTale : ByteArray := prog_1_method_3_code
def yX6_ofTale : MethodName := ⟨RX6, "ofTale", "(II)I"⟩
abbrev cX6_memory : ByteArray := prog_1_method_4_code
def yX6_memory : MethodName := ⟨RX6, "memory", "(I)I"⟩
abbrev cX6_choose : ByteArray := prog_1_method_5_code
def yX6_choose : MethodName := ⟨RX6, "choose", "(II)I"⟩
abbrev cX6_night : ByteArray := prog_1_method_6_code
def yX6_night : MethodName := ⟨RX6, "night", "()I"⟩
abbrev cX6_ofNight : ByteArray := prog_1_method_7_code
def yX6_ofNight : MethodName := ⟨RX6, "ofNight", "(III)I"⟩
abbrev cX6_undo : ByteArray := prog_1_method_8_code
def yX6_undo : MethodName := ⟨RX6, "undo", "(I)I"⟩
abbrev cX6_lay : ByteArray := prog_1_method_9_code
def yX6_lay : MethodName := ⟨RX6, "lay", "(II)I"⟩
abbrev cX6_tonight : ByteArray := prog_1_method_10_code
def yX6_tonight : MethodName := ⟨RX6, "tonight", "(II)I"⟩
abbrev cX6_answer : ByteArray := prog_1_method_11_code
def yX6_answer : MethodName := ⟨RX6, "answer", "(II)I"⟩
abbrev cX6_borrowed : ByteArray := prog_1_method_12_code
def yX6_borrowed : MethodName := ⟨RX6, "borrowed", "(II)I"⟩
abbrev cX6_bishop : ByteArray := prog_1_method_13_code
def yX6_bishop : MethodName := ⟨RX6, "bishop", "(I)I"⟩
abbrev cX6_rests : ByteArray := prog_1_method_14_code
def yX6_rests : MethodName := ⟨RX6, "rests", "(I)I"⟩
abbrev cX6_winter : ByteArray := prog_1_method_15_code
def yX6_winter : MethodName := ⟨RX6, "winter", "(IIIIII)I"⟩
abbrev cX6_trade : ByteArray := prog_1_method_16_code
def yX6_trade : MethodName := ⟨RX6, "trade", "(II)I"⟩
abbrev cX6_toldBy : ByteArray := prog_1_method_17_code
def yX6_toldBy : MethodName := ⟨RX6, "toldBy", "(IIIII)I"⟩
abbrev cX6_sheet : ByteArray := prog_1_method_18_code
def yX6_sheet : MethodName := ⟨RX6, "sheet", "(III)I"⟩
abbrev cX6_lose : ByteArray := prog_1_method_19_code
def yX6_lose : MethodName := ⟨RX6, "lose", "(I)I"⟩
abbrev cX6_put : ByteArray := prog_1_method_20_code
def yX6_put : MethodName := ⟨RX6, "put", "(III)I"⟩
abbrev cX6_cell : ByteArray := prog_1_method_21_code
def yX6_cell : MethodName := ⟨RX6, "cell", "(III)J"⟩
abbrev cX6_copy : ByteArray := prog_1_method_22_code
def yX6_copy : MethodName := ⟨RX6, "copy", "(IIIII)I"⟩
abbrev cX6_tell : ByteArray := prog_1_method_23_code
def yX6_tell : MethodName := ⟨RX6, "tell", "(I)I"⟩
abbrev cX6_swear : ByteArray := prog_1_method_24_code
def yX6_swear : MethodName := ⟨RX6, "swear", "(I)I"⟩
abbrev cX6_as : ByteArray := prog_1_method_25_code
def yX6_as : MethodName := ⟨RX6, "as", "(II)I"⟩
abbrev cX6_trace : ByteArray := prog_1_method_26_code
def yX6_trace : MethodName := ⟨RX6, "trace", "()I"⟩
abbrev cX6_fault : ByteArray := prog_1_method_27_code
def yX6_fault : MethodName := ⟨RX6, "fault", "()I"⟩
abbrev cX6_many : ByteArray := prog_1_method_28_code
def yX6_many : MethodName := ⟨RX6, "many", "(I)I"⟩
abbrev cX6_isSheet : ByteArray := prog_1_method_29_code
def yX6_isSheet : MethodName := ⟨RX6, "isSheet", "(I)Z"⟩
abbrev cX6_isSort : ByteArray := prog_1_method_30_code
def yX6_isSort : MethodName := ⟨RX6, "isSort", "(I)Z"⟩
abbrev cX6_faulty : ByteArray := prog_1_method_31_code
def yX6_faulty : MethodName := ⟨RX6, "faulty", "(I)I"⟩
abbrev cX6_bestReply : ByteArray := prog_1_method_32_code
def yX6_bestReply : MethodName := ⟨RX6, "bestReply", "(IIZ)I"⟩
abbrev cX6_isBetterReply : ByteArray := prog_1_method_33_code
def yX6_isBetterReply : MethodName := ⟨RX6, "isBetterReply", "(III)Z"⟩
abbrev cX6_canHaveTold : ByteArray := prog_1_method_34_code
def yX6_canHaveTold : MethodName := ⟨RX6, "canHaveTold", "(II)I"⟩
abbrev cX6_leaveTrace : ByteArray := prog_1_method_35_code
def yX6_leaveTrace : MethodName := ⟨RX6, "leaveTrace", "(I)V"⟩
abbrev cX6_tellAsTale : ByteArray := prog_1_method_36_code
def yX6_tellAsTale : MethodName := ⟨RX6, "tellAsTale", "(I)I"⟩
abbrev cX6_tellAsGrown : ByteArray := prog_1_method_37_code
def yX6_tellAsGrown : MethodName := ⟨RX6, "tellAsGrown", "(I)I"⟩
abbrev cX6_tellAsTrue : ByteArray := prog_1_method_38_code
def yX6_tellAsTrue : MethodName := ⟨RX6, "tellAsTrue", "(I)I"⟩
def RX7 : String := "TallTalesModel"
def TX7 : u_T := fun k => match k with
  | 0 => ("TallTalesModel", "fault", "I", false)
  | 1 => ("TallTalesModel", "trace", "I", false)
  | 2 => ("TallTalesModel", "sorts", "[I", true)
  | 3 => ("TallTalesModel", "sheetLong", "[I", true)
  | 4 => ("TallTalesModel", "cells", "[I", true)
  | 5 => ("TallTalesModel", "guests", "I", false)
  | 6 => ("TallTalesModel", "tales", "I", false)
  | 7 => ("TallTalesModel", "memory", "I", false)
  | 8 => ("TallTalesModel", "kind", "[I", true)
  | 9 => ("TallTalesModel", "whose", "[I", true)
  | 10 => ("TallTalesModel", "high", "[I", true)
  | 11 => ("TallTalesModel", "at", "I", false)
  | 12 => ("TallTalesModel", "readGuests", "I", false)
  | 13 => ("TallTalesModel", "readTales", "I", false)
  | 14 => ("TallTalesModel", "readKind", "[I", true)
  | 15 => ("TallTalesModel", "readWhose", "[I", true)
  | 16 => ("TallTalesModel", "readHigh", "[I", true)
  | 17 => ("TallTalesModel", "over", "I", false)
  | 18 => ("TallTalesModel", "nightTold", "[I", true)
  | 19 => ("TallTalesModel", "nightTall", "[I", true)
  | 20 => ("TallTalesModel", "chosen", "[I", true)
  | 21 => ("TallTalesModel", "times", "[I", true)
  | 22 => ("TallTalesModel", "last", "[I", true)
  | 23 => ("TallTalesModel", "tall", "[I", true)
  | 24 => ("TallTalesModel", "bestTale", "I", false)
  | 25 => ("TallTalesModel", "bestPlace", "I", false)
  | 26 => ("TallTalesModel", "bestTall", "I", false)
  | 27 => ("TallTalesModel", "tells", "[I", true)
  | 28 => ("TallTalesModel", "firstRest", "[I", true)
  | 29 => ("TallTalesModel", "winterTells", "[I", true)
  | _ => ("TallTalesModel", "winterBest", "[I", true)
def tyX7 : Nat → FieldType := fun k => match k with
  | 0 => .int
  | 1 => .int
  | 2 => .array .int
  | 3 => .array .int
  | 4 => .array .int
  | 5 => .int
  | 6 => .int
  | 7 => .int
  | 8 => .array .int
  | 9 => .array .int
  | 10 => .array .int
  | 11 => .int
  | 12 => .int
  | 13 => .int
  | 14 => .array .int
  | 15 => .array .int
  | 16 => .array .int
  | 17 => .int
  | 18 => .array .int
  | 19 => .array .int
  | 20 => .array .int
  | 21 => .array .int
  | 22 => .array .int
  | 23 => .array .int
  | 24 => .int
  | 25 => .int
  | 26 => .int
  | 27 => .array .int
  | 28 => .array .int
  | 29 => .array .int
  | _ => .array .int
abbrev wsX70 : List Cond := u_ws RX7 TX7 31
theorem nmX7 : ∀ a, a < 31 → ∀ b, b < 31 → a ≠ b → (TX7 a).2.1 ≠ (TX7 b).2.1 := by decide +kernel
theorem tyX7_ok : ∀ k, k < 31 → parseFieldDescriptor (TX7 k).2.2.1 = some (tyX7 k) := by decide +kernel
abbrev cX7_init : ByteArray := prog_9_method_1_code
def yX7_init : MethodName := ⟨RX7, "<init>", "()V"⟩
abbrev cX7_fails : ByteArray := prog_9_method_3_code
def yX7_fails : MethodName := ⟨RX7, "fails", "(I)I"⟩
abbrev cX7_lost : ByteArray := prog_9_method_4_code
def yX7_lost : MethodName := ⟨RX7, "lost", "(I)J"⟩
abbrev cX7_within : ByteArray := prog_9_method_5_code
def yX7_within : MethodName := ⟨RX7, "within", "(III)Z"⟩
abbrev cX7_isSheet : ByteArray := prog_9_method_6_code
def yX7_isSheet : MethodName := ⟨RX7, "isSheet", "(I)Z"⟩
abbrev cX7_isSort : ByteArray := prog_9_method_7_code
def yX7_isSort : MethodName := ⟨RX7, "isSort", "(I)Z"⟩
abbrev cX7_against : ByteArray := prog_9_method_8_code
def yX7_against : MethodName := ⟨RX7, "against", "(IIII)I"⟩
abbrev cX7_isGuest : ByteArray := prog_9_method_9_code
def yX7_isGuest : MethodName := ⟨RX7, "isGuest", "(I)Z"⟩
abbrev cX7_isTale : ByteArray := prog_9_method_10_code
def yX7_isTale : MethodName := ⟨RX7, "isTale", "(I)Z"⟩
abbrev cX7_digitAt : ByteArray := prog_9_method_11_code
def yX7_digitAt : MethodName := ⟨RX7, "digitAt", "(II)I"⟩
abbrev cX7_inn : ByteArray := prog_9_method_12_code
def yX7_inn : MethodName := ⟨RX7, "inn", "(IIII)I"⟩
abbrev cX7_readInn : ByteArray := prog_9_method_13_code
def yX7_readInn : MethodName := ⟨RX7, "readInn", "(I)Z"⟩
abbrev cX7_readTale : ByteArray := prog_9_method_14_code
def yX7_readTale : MethodName := ⟨RX7, "readTale", "(I)Z"⟩
abbrev cX7_chooseNone : ByteArray := prog_9_method_15_code
def yX7_chooseNone : MethodName := ⟨RX7, "chooseNone", "()V"⟩
abbrev cX7_countTold : ByteArray := prog_9_method_16_code
def yX7_countTold : MethodName := ⟨RX7, "countTold", "()V"⟩
abbrev cX7_mayBe : ByteArray := prog_9_method_17_code
def yX7_mayBe : MethodName := ⟨RX7, "mayBe", "(IIII)Z"⟩
abbrev cX7_mayNow : ByteArray := prog_9_method_18_code
def yX7_mayNow : MethodName := ⟨RX7, "mayNow", "(I)Z"⟩
abbrev cX7_tallBy : ByteArray := prog_9_method_19_code
def yX7_tallBy : MethodName := ⟨RX7, "tallBy", "(II)I"⟩
abbrev cX7_tallNow : ByteArray := prog_9_method_20_code
def yX7_tallNow : MethodName := ⟨RX7, "tallNow", "(I)I"⟩
abbrev cX7_ofTale : ByteArray := prog_9_method_21_code
def yX7_ofTale : MethodName := ⟨RX7, "ofTale", "(II)I"⟩
abbrev cX7_memory : ByteArray := prog_9_method_22_code
def yX7_memory : MethodName := ⟨RX7, "memory", "(I)I"⟩
abbrev cX7_choose : ByteArray := prog_9_method_23_code
def yX7_choose : MethodName := ⟨RX7, "choose", "(II)I"⟩
abbrev cX7_layTall : ByteArray := prog_9_method_24_code
def yX7_layTall : MethodName := ⟨RX7, "layTall", "()V"⟩
abbrev cX7_placeOf : ByteArray := prog_9_method_25_code
def yX7_placeOf : MethodName := ⟨RX7, "placeOf", "(I)I"⟩
abbrev cX7_inBed : ByteArray := prog_9_method_26_code
def yX7_inBed : MethodName := ⟨RX7, "inBed", "()I"⟩
abbrev cX7_night : ByteArray := prog_9_method_27_code
def yX7_night : MethodName := ⟨RX7, "night", "()I"⟩
abbrev cX7_isNight : ByteArray := prog_9_method_28_code
def yX7_isNight : MethodName := ⟨RX7, "isNight", "(I)Z"⟩
abbrev cX7_layNight : ByteArray := prog_9_method_29_code
def yX7_layNight : MethodName := ⟨RX7, "layNight", "(I)V"⟩
abbrev cX7_ofNight : ByteArray := prog_9_method_30_code
def yX7_ofNight : MethodName := ⟨RX7, "ofNight", "(III)I"⟩
abbrev cX7_undo : ByteArray := prog_9_method_31_code
def yX7_undo : MethodName := ⟨RX7, "undo", "(I)I"⟩
abbrev cX7_lay : ByteArray := prog_9_method_32_code
def yX7_lay : MethodName := ⟨RX7, "lay", "(II)I"⟩
abbrev cX7_need : ByteArray := prog_9_method_33_code
def yX7_need : MethodName := ⟨RX7, "need", "(I)I"⟩
abbrev cX7_tonight : ByteArray := prog_9_method_34_code
def yX7_tonight : MethodName := ⟨RX7, "tonight", "(II)I"⟩
abbrev cX7_offer : ByteArray := prog_9_method_35_code
def yX7_offer : MethodName := ⟨RX7, "offer", "(II)V"⟩
abbrev cX7_isChosen : ByteArray := prog_9_method_36_code
def yX7_isChosen : MethodName := ⟨RX7, "isChosen", "(I)Z"⟩
abbrev cX7_found : ByteArray := prog_9_method_37_code
def yX7_found : MethodName := ⟨RX7, "found", "(I)I"⟩
abbrev cX7_answer : ByteArray := prog_9_method_38_code
def yX7_answer : MethodName := ⟨RX7, "answer", "(II)I"⟩
abbrev cX7_borrowed : ByteArray := prog_9_method_39_code
def yX7_borrowed : MethodName := ⟨RX7, "borrowed", "(II)I"⟩
abbrev cX7_bishop : ByteArray := prog_9_method_40_code
def yX7_bishop : MethodName := ⟨RX7, "bishop", "(I)I"⟩
abbrev cX7_nextOwn : ByteArray := prog_9_method_41_code
def yX7_nextOwn : MethodName := ⟨RX7, "nextOwn", "(II)I"⟩
abbrev cX7_layTells : ByteArray := prog_9_method_42_code
def yX7_layTells : MethodName := ⟨RX7, "layTells", "()V"⟩
abbrev cX7_isRest : ByteArray := prog_9_method_43_code
def yX7_isRest : MethodName := ⟨RX7, "isRest", "()Z"⟩
abbrev cX7_nextTells : ByteArray := prog_9_method_44_code
def yX7_nextTells : MethodName := ⟨RX7, "nextTells", "()Z"⟩
abbrev cX7_findRests : ByteArray := prog_9_method_45_code
def yX7_findRests : MethodName := ⟨RX7, "findRests", "()I"⟩
abbrev cX7_rests : ByteArray := prog_9_method_46_code
def yX7_rests : MethodName := ⟨RX7, "rests", "(I)I"⟩
abbrev cX7_mayWinter : ByteArray := prog_9_method_47_code
def yX7_mayWinter : MethodName := ⟨RX7, "mayWinter", "(IIII)Z"⟩
abbrev cX7_nightsOf : ByteArray := prog_9_method_48_code
def yX7_nightsOf : MethodName := ⟨RX7, "nightsOf", "([II)I"⟩
abbrev cX7_findWinter : ByteArray := prog_9_method_49_code
def yX7_findWinter : MethodName := ⟨RX7, "findWinter", "(III)I"⟩
abbrev cX7_winter : ByteArray := prog_9_method_50_code
def yX7_winter : MethodName := ⟨RX7, "winter", "(IIIIII)I"⟩
abbrev cX7_strong : ByteArray := prog_9_method_51_code
def yX7_strong : MethodName := ⟨RX7, "strong", "(I)I"⟩
abbrev cX7_trade : ByteArray := prog_9_method_52_code
def yX7_trade : MethodName := ⟨RX7, "trade", "(II)I"⟩
abbrev cX7_areAllGuests : ByteArray := prog_9_method_53_code
def yX7_areAllGuests : MethodName := ⟨RX7, "areAllGuests", "(I)Z"⟩
abbrev cX7_doLie : ByteArray := prog_9_method_54_code
def yX7_doLie : MethodName := ⟨RX7, "doLie", "(I)Z"⟩
abbrev cX7_timesBefore : ByteArray := prog_9_method_55_code
def yX7_timesBefore : MethodName := ⟨RX7, "timesBefore", "(II)I"⟩
abbrev cX7_toldBy : ByteArray := prog_9_method_56_code
def yX7_toldBy : MethodName := ⟨RX7, "toldBy", "(IIIII)I"⟩
abbrev cX7_sheet : ByteArray := prog_9_method_57_code
def yX7_sheet : MethodName := ⟨RX7, "sheet", "(III)I"⟩
abbrev cX7_lose : ByteArray := prog_9_method_58_code
def yX7_lose : MethodName := ⟨RX7, "lose", "(I)I"⟩
abbrev cX7_put : ByteArray := prog_9_method_59_code
def yX7_put : MethodName := ⟨RX7, "put", "(III)I"⟩
abbrev cX7_cell : ByteArray := prog_9_method_60_code
def yX7_cell : MethodName := ⟨RX7, "cell", "(III)J"⟩
abbrev cX7_copy : ByteArray := prog_9_method_61_code
def yX7_copy : MethodName := ⟨RX7, "copy", "(IIIII)I"⟩
abbrev cX7_begins : ByteArray := prog_9_method_62_code
def yX7_begins : MethodName := ⟨RX7, "begins", "(I)V"⟩
abbrev cX7_tell : ByteArray := prog_9_method_63_code
def yX7_tell : MethodName := ⟨RX7, "tell", "(I)I"⟩
abbrev cX7_swear : ByteArray := prog_9_method_64_code
def yX7_swear : MethodName := ⟨RX7, "swear", "(I)I"⟩
abbrev cX7_as : ByteArray := prog_9_method_65_code
def yX7_as : MethodName := ⟨RX7, "as", "(II)I"⟩
abbrev cX7_trace : ByteArray := prog_9_method_66_code
def yX7_trace : MethodName := ⟨RX7, "trace", "()I"⟩
abbrev cX7_fault : ByteArray := prog_9_method_67_code
def yX7_fault : MethodName := ⟨RX7, "fault", "()I"⟩
abbrev cX7_many : ByteArray := prog_9_method_68_code
def yX7_many : MethodName := ⟨RX7, "many", "(I)I"⟩
def RJ9 : String := "java/lang/Math"
def TJ9 : u_T := fun k => match k with
  | _ => ("", "", "", false)
def tyJ9 : Nat → FieldType := fun k => match k with
  | _ => .int
abbrev wsJ90 : List Cond := u_ws RJ9 TJ9 0
theorem nmJ9 : ∀ a, a < 0 → ∀ b, b < 0 → a ≠ b → (TJ9 a).2.1 ≠ (TJ9 b).2.1 := by decide +kernel
theorem tyJ9_ok : ∀ k, k < 0 → parseFieldDescriptor (TJ9 k).2.2.1 = some (tyJ9 k) := by decide +kernel
abbrev cJ9_max_7cf53 : ByteArray := prog_10_method_65_code
def yJ9_max_7cf53 : MethodName := ⟨RJ9, "max", "(II)I"⟩
def RJ10 : String := "java/lang/System"
def TJ10 : u_T := fun k => match k with
  | _ => ("", "", "", false)
def tyJ10 : Nat → FieldType := fun k => match k with
  | _ => .int
abbrev wsJ100 : List Cond := u_ws RJ10 TJ10 0
theorem nmJ10 : ∀ a, a < 0 → ∀ b, b < 0 → a ≠ b → (TJ10 a).2.1 ≠ (TJ10 b).2.1 := by decide +kernel
theorem tyJ10_ok : ∀ k, k < 0 → parseFieldDescriptor (TJ10 k).2.2.1 = some (tyJ10 k) := by decide +kernel
def RJ7 : String := "java/util/Arrays"
def TJ7 : u_T := fun k => match k with
  | _ => ("", "", "", false)
def tyJ7 : Nat → FieldType := fun k => match k with
  | _ => .int
abbrev wsJ70 : List Cond := u_ws RJ7 TJ7 0
theorem nmJ7 : ∀ a, a < 0 → ∀ b, b < 0 → a ≠ b → (TJ7 a).2.1 ≠ (TJ7 b).2.1 := by decide +kernel
theorem tyJ7_ok : ∀ k, k < 0 → parseFieldDescriptor (TJ7 k).2.2.1 = some (tyJ7 k) := by decide +kernel
abbrev cJ7_rangeCheck_23922 : ByteArray := prog_12_method_30_code
def yJ7_rangeCheck_23922 : MethodName := ⟨RJ7, "rangeCheck", "(III)V"⟩
abbrev cJ7_fill_53178 : ByteArray := prog_12_method_103_code
def yJ7_fill_53178 : MethodName := ⟨RJ7, "fill", "([II)V"⟩
abbrev cJ7_fill_fda19 : ByteArray := prog_12_method_104_code
def yJ7_fill_fda19 : MethodName := ⟨RJ7, "fill", "([IIII)V"⟩
def RL : String := "TallTalesLaw"
abbrev cL_law : ByteArray := code
def yL_law : MethodName := ⟨RL, "law", "([I)Z"⟩
abbrev vwCl : List vw_C := [(RX0, TX0, 13), (RX1, TX1, 5), (RX2, TX2, 3), (RX3, TX3, 2), (RX4, TX4, 2), (RX5, TX5, 10), (RX6, TX6, 9), (RX7, TX7, 31)]
