section
-- ===== PART A: goes FIRST, ahead of the names: the tables' words, and 'selects' of the private methods out of them =====
/-- a private method of a class that the tables say can be made, by its rows of tables_1 -/
def lw_okq (q : MethodName × Nat) : Prop := (q.1.cls ≠ "java/lang/invoke/MethodHandle" ∧ q.1.cls ≠ "java/lang/invoke/VarHandle") ∧ Cond.instantiable q.1.cls q.2 ∈ tables_1 ∧ Cond.privateMethod q.1 ∈ tables_1 ∧ Cond.instanceMethod q.1 ∈ tables_1
theorem lw_p0 : lw_okq (⟨"TallTales", "faulty", "(I)I"⟩, 9) := ⟨⟨by decide +kernel, by decide +kernel⟩, List.mem_of_getElem? (i := 13) (by decide +kernel), List.mem_of_getElem? (i := 256) (by decide +kernel), List.mem_of_getElem? (i := 257) (by decide +kernel)⟩
theorem lw_p1 : lw_okq (⟨"TallTales", "bestReply", "(IIZ)I"⟩, 9) := ⟨⟨by decide +kernel, by decide +kernel⟩, List.mem_of_getElem? (i := 13) (by decide +kernel), List.mem_of_getElem? (i := 406) (by decide +kernel), List.mem_of_getElem? (i := 407) (by decide +kernel)⟩
theorem lw_p2 : lw_okq (⟨"TallTales", "isBetterReply", "(III)Z"⟩, 9) := ⟨⟨by decide +kernel, by decide +kernel⟩, List.mem_of_getElem? (i := 13) (by decide +kernel), List.mem_of_getElem? (i := 415) (by decide +kernel), List.mem_of_getElem? (i := 416) (by decide +kernel)⟩
theorem lw_p3 : lw_okq (⟨"TallTales", "canHaveTold", "(II)I"⟩, 9) := ⟨⟨by decide +kernel, by decide +kernel⟩, List.mem_of_getElem? (i := 13) (by decide +kernel), List.mem_of_getElem? (i := 510) (by decide +kernel), List.mem_of_getElem? (i := 511) (by decide +kernel)⟩
theorem lw_p4 : lw_okq (⟨"TallTales", "tellAsGrown", "(I)I"⟩, 9) := ⟨⟨by decide +kernel, by decide +kernel⟩, List.mem_of_getElem? (i := 13) (by decide +kernel), List.mem_of_getElem? (i := 581) (by decide +kernel), List.mem_of_getElem? (i := 582) (by decide +kernel)⟩
theorem lw_p5 : lw_okq (⟨"TallTales", "leaveTrace", "(I)V"⟩, 9) := ⟨⟨by decide +kernel, by decide +kernel⟩, List.mem_of_getElem? (i := 13) (by decide +kernel), List.mem_of_getElem? (i := 585) (by decide +kernel), List.mem_of_getElem? (i := 586) (by decide +kernel)⟩
theorem lw_p6 : lw_okq (⟨"TallTales", "tellAsTale", "(I)I"⟩, 9) := ⟨⟨by decide +kernel, by decide +kernel⟩, List.mem_of_getElem? (i := 13) (by decide +kernel), List.mem_of_getElem? (i := 589) (by decide +kernel), List.mem_of_getElem? (i := 590) (by decide +kernel)⟩
theorem lw_p7 : lw_okq (⟨"TallTales", "tellAsTrue", "(I)I"⟩, 9) := ⟨⟨by decide +kernel, by decide +kernel⟩, List.mem_of_getElem? (i := 13) (by decide +kernel), List.mem_of_getElem? (i := 593) (by decide +kernel), List.mem_of_getElem? (i := 594) (by decide +kernel)⟩
theorem lw_p8 : lw_okq (⟨"TallTalesModel", "against", "(IIII)I"⟩, 31) := ⟨⟨by decide +kernel, by decide +kernel⟩, List.mem_of_getElem? (i := 617) (by decide +kernel), List.mem_of_getElem? (i := 730) (by decide +kernel), List.mem_of_getElem? (i := 731) (by decide +kernel)⟩
theorem lw_p9 : lw_okq (⟨"TallTalesModel", "fails", "(I)I"⟩, 31) := ⟨⟨by decide +kernel, by decide +kernel⟩, List.mem_of_getElem? (i := 617) (by decide +kernel), List.mem_of_getElem? (i := 734) (by decide +kernel), List.mem_of_getElem? (i := 735) (by decide +kernel)⟩
theorem lw_p10 : lw_okq (⟨"TallTalesModel", "readInn", "(I)Z"⟩, 31) := ⟨⟨by decide +kernel, by decide +kernel⟩, List.mem_of_getElem? (i := 617) (by decide +kernel), List.mem_of_getElem? (i := 738) (by decide +kernel), List.mem_of_getElem? (i := 739) (by decide +kernel)⟩
theorem lw_p11 : lw_okq (⟨"TallTalesModel", "digitAt", "(II)I"⟩, 31) := ⟨⟨by decide +kernel, by decide +kernel⟩, List.mem_of_getElem? (i := 617) (by decide +kernel), List.mem_of_getElem? (i := 742) (by decide +kernel), List.mem_of_getElem? (i := 743) (by decide +kernel)⟩
theorem lw_p12 : lw_okq (⟨"TallTalesModel", "readTale", "(I)Z"⟩, 31) := ⟨⟨by decide +kernel, by decide +kernel⟩, List.mem_of_getElem? (i := 617) (by decide +kernel), List.mem_of_getElem? (i := 746) (by decide +kernel), List.mem_of_getElem? (i := 747) (by decide +kernel)⟩
theorem lw_p13 : lw_okq (⟨"TallTalesModel", "countTold", "()V"⟩, 31) := ⟨⟨by decide +kernel, by decide +kernel⟩, List.mem_of_getElem? (i := 617) (by decide +kernel), List.mem_of_getElem? (i := 750) (by decide +kernel), List.mem_of_getElem? (i := 751) (by decide +kernel)⟩
theorem lw_p14 : lw_okq (⟨"TallTalesModel", "chooseNone", "()V"⟩, 31) := ⟨⟨by decide +kernel, by decide +kernel⟩, List.mem_of_getElem? (i := 617) (by decide +kernel), List.mem_of_getElem? (i := 754) (by decide +kernel), List.mem_of_getElem? (i := 755) (by decide +kernel)⟩
theorem lw_p15 : lw_okq (⟨"TallTalesModel", "isTale", "(I)Z"⟩, 31) := ⟨⟨by decide +kernel, by decide +kernel⟩, List.mem_of_getElem? (i := 617) (by decide +kernel), List.mem_of_getElem? (i := 762) (by decide +kernel), List.mem_of_getElem? (i := 763) (by decide +kernel)⟩
def lw_privs_1 : List (MethodName × Nat) := [(⟨"TallTales", "faulty", "(I)I"⟩, 9), (⟨"TallTales", "bestReply", "(IIZ)I"⟩, 9), (⟨"TallTales", "isBetterReply", "(III)Z"⟩, 9), (⟨"TallTales", "canHaveTold", "(II)I"⟩, 9), (⟨"TallTales", "tellAsGrown", "(I)I"⟩, 9), (⟨"TallTales", "leaveTrace", "(I)V"⟩, 9), (⟨"TallTales", "tellAsTale", "(I)I"⟩, 9), (⟨"TallTales", "tellAsTrue", "(I)I"⟩, 9), (⟨"TallTalesModel", "against", "(IIII)I"⟩, 31), (⟨"TallTalesModel", "fails", "(I)I"⟩, 31), (⟨"TallTalesModel", "readInn", "(I)Z"⟩, 31), (⟨"TallTalesModel", "digitAt", "(II)I"⟩, 31), (⟨"TallTalesModel", "readTale", "(I)Z"⟩, 31), (⟨"TallTalesModel", "countTold", "()V"⟩, 31), (⟨"TallTalesModel", "chooseNone", "()V"⟩, 31), (⟨"TallTalesModel", "isTale", "(I)Z"⟩, 31)]
theorem lw_r1 : ∀ q ∈ lw_privs_1, lw_okq q := List.forall_mem_cons.mpr ⟨lw_p0, List.forall_mem_cons.mpr ⟨lw_p1, List.forall_mem_cons.mpr ⟨lw_p2, List.forall_mem_cons.mpr ⟨lw_p3, List.forall_mem_cons.mpr ⟨lw_p4, List.forall_mem_cons.mpr ⟨lw_p5, List.forall_mem_cons.mpr ⟨lw_p6, List.forall_mem_cons.mpr ⟨lw_p7, List.forall_mem_cons.mpr ⟨lw_p8, List.forall_mem_cons.mpr ⟨lw_p9, List.forall_mem_cons.mpr ⟨lw_p10, List.forall_mem_cons.mpr ⟨lw_p11, List.forall_mem_cons.mpr ⟨lw_p12, List.forall_mem_cons.mpr ⟨lw_p13, List.forall_mem_cons.mpr ⟨lw_p14, List.forall_mem_cons.mpr ⟨lw_p15, fun _ h => absurd h List.not_mem_nil⟩⟩⟩⟩⟩⟩⟩⟩⟩⟩⟩⟩⟩⟩⟩⟩
theorem lw_p16 : lw_okq (⟨"TallTalesModel", "mayNow", "(I)Z"⟩, 31) := ⟨⟨by decide +kernel, by decide +kernel⟩, List.mem_of_getElem? (i := 617) (by decide +kernel), List.mem_of_getElem? (i := 766) (by decide +kernel), List.mem_of_getElem? (i := 767) (by decide +kernel)⟩
theorem lw_p17 : lw_okq (⟨"TallTalesModel", "mayBe", "(IIII)Z"⟩, 31) := ⟨⟨by decide +kernel, by decide +kernel⟩, List.mem_of_getElem? (i := 617) (by decide +kernel), List.mem_of_getElem? (i := 770) (by decide +kernel), List.mem_of_getElem? (i := 771) (by decide +kernel)⟩
theorem lw_p18 : lw_okq (⟨"TallTalesModel", "tallNow", "(I)I"⟩, 31) := ⟨⟨by decide +kernel, by decide +kernel⟩, List.mem_of_getElem? (i := 617) (by decide +kernel), List.mem_of_getElem? (i := 774) (by decide +kernel), List.mem_of_getElem? (i := 775) (by decide +kernel)⟩
theorem lw_p19 : lw_okq (⟨"TallTalesModel", "tallBy", "(II)I"⟩, 31) := ⟨⟨by decide +kernel, by decide +kernel⟩, List.mem_of_getElem? (i := 617) (by decide +kernel), List.mem_of_getElem? (i := 778) (by decide +kernel), List.mem_of_getElem? (i := 779) (by decide +kernel)⟩
theorem lw_p20 : lw_okq (⟨"TallTalesModel", "isGuest", "(I)Z"⟩, 31) := ⟨⟨by decide +kernel, by decide +kernel⟩, List.mem_of_getElem? (i := 617) (by decide +kernel), List.mem_of_getElem? (i := 790) (by decide +kernel), List.mem_of_getElem? (i := 791) (by decide +kernel)⟩
theorem lw_p21 : lw_okq (⟨"TallTalesModel", "layTall", "()V"⟩, 31) := ⟨⟨by decide +kernel, by decide +kernel⟩, List.mem_of_getElem? (i := 617) (by decide +kernel), List.mem_of_getElem? (i := 798) (by decide +kernel), List.mem_of_getElem? (i := 799) (by decide +kernel)⟩
theorem lw_p22 : lw_okq (⟨"TallTalesModel", "inBed", "()I"⟩, 31) := ⟨⟨by decide +kernel, by decide +kernel⟩, List.mem_of_getElem? (i := 617) (by decide +kernel), List.mem_of_getElem? (i := 802) (by decide +kernel), List.mem_of_getElem? (i := 803) (by decide +kernel)⟩
theorem lw_p23 : lw_okq (⟨"TallTalesModel", "placeOf", "(I)I"⟩, 31) := ⟨⟨by decide +kernel, by decide +kernel⟩, List.mem_of_getElem? (i := 617) (by decide +kernel), List.mem_of_getElem? (i := 806) (by decide +kernel), List.mem_of_getElem? (i := 807) (by decide +kernel)⟩
theorem lw_p24 : lw_okq (⟨"TallTalesModel", "isNight", "(I)Z"⟩, 31) := ⟨⟨by decide +kernel, by decide +kernel⟩, List.mem_of_getElem? (i := 617) (by decide +kernel), List.mem_of_getElem? (i := 814) (by decide +kernel), List.mem_of_getElem? (i := 815) (by decide +kernel)⟩
theorem lw_p25 : lw_okq (⟨"TallTalesModel", "layNight", "(I)V"⟩, 31) := ⟨⟨by decide +kernel, by decide +kernel⟩, List.mem_of_getElem? (i := 617) (by decide +kernel), List.mem_of_getElem? (i := 818) (by decide +kernel), List.mem_of_getElem? (i := 819) (by decide +kernel)⟩
theorem lw_p26 : lw_okq (⟨"TallTalesModel", "need", "(I)I"⟩, 31) := ⟨⟨by decide +kernel, by decide +kernel⟩, List.mem_of_getElem? (i := 617) (by decide +kernel), List.mem_of_getElem? (i := 834) (by decide +kernel), List.mem_of_getElem? (i := 835) (by decide +kernel)⟩
theorem lw_p27 : lw_okq (⟨"TallTalesModel", "offer", "(II)V"⟩, 31) := ⟨⟨by decide +kernel, by decide +kernel⟩, List.mem_of_getElem? (i := 617) (by decide +kernel), List.mem_of_getElem? (i := 842) (by decide +kernel), List.mem_of_getElem? (i := 843) (by decide +kernel)⟩
theorem lw_p28 : lw_okq (⟨"TallTalesModel", "found", "(I)I"⟩, 31) := ⟨⟨by decide +kernel, by decide +kernel⟩, List.mem_of_getElem? (i := 617) (by decide +kernel), List.mem_of_getElem? (i := 846) (by decide +kernel), List.mem_of_getElem? (i := 847) (by decide +kernel)⟩
theorem lw_p29 : lw_okq (⟨"TallTalesModel", "isChosen", "(I)Z"⟩, 31) := ⟨⟨by decide +kernel, by decide +kernel⟩, List.mem_of_getElem? (i := 617) (by decide +kernel), List.mem_of_getElem? (i := 854) (by decide +kernel), List.mem_of_getElem? (i := 855) (by decide +kernel)⟩
theorem lw_p30 : lw_okq (⟨"TallTalesModel", "findRests", "()I"⟩, 31) := ⟨⟨by decide +kernel, by decide +kernel⟩, List.mem_of_getElem? (i := 617) (by decide +kernel), List.mem_of_getElem? (i := 866) (by decide +kernel), List.mem_of_getElem? (i := 867) (by decide +kernel)⟩
theorem lw_p31 : lw_okq (⟨"TallTalesModel", "nextOwn", "(II)I"⟩, 31) := ⟨⟨by decide +kernel, by decide +kernel⟩, List.mem_of_getElem? (i := 617) (by decide +kernel), List.mem_of_getElem? (i := 870) (by decide +kernel), List.mem_of_getElem? (i := 871) (by decide +kernel)⟩
def lw_privs_2 : List (MethodName × Nat) := [(⟨"TallTalesModel", "mayNow", "(I)Z"⟩, 31), (⟨"TallTalesModel", "mayBe", "(IIII)Z"⟩, 31), (⟨"TallTalesModel", "tallNow", "(I)I"⟩, 31), (⟨"TallTalesModel", "tallBy", "(II)I"⟩, 31), (⟨"TallTalesModel", "isGuest", "(I)Z"⟩, 31), (⟨"TallTalesModel", "layTall", "()V"⟩, 31), (⟨"TallTalesModel", "inBed", "()I"⟩, 31), (⟨"TallTalesModel", "placeOf", "(I)I"⟩, 31), (⟨"TallTalesModel", "isNight", "(I)Z"⟩, 31), (⟨"TallTalesModel", "layNight", "(I)V"⟩, 31), (⟨"TallTalesModel", "need", "(I)I"⟩, 31), (⟨"TallTalesModel", "offer", "(II)V"⟩, 31), (⟨"TallTalesModel", "found", "(I)I"⟩, 31), (⟨"TallTalesModel", "isChosen", "(I)Z"⟩, 31), (⟨"TallTalesModel", "findRests", "()I"⟩, 31), (⟨"TallTalesModel", "nextOwn", "(II)I"⟩, 31)]
theorem lw_r2 : ∀ q ∈ lw_privs_2, lw_okq q := List.forall_mem_cons.mpr ⟨lw_p16, List.forall_mem_cons.mpr ⟨lw_p17, List.forall_mem_cons.mpr ⟨lw_p18, List.forall_mem_cons.mpr ⟨lw_p19, List.forall_mem_cons.mpr ⟨lw_p20, List.forall_mem_cons.mpr ⟨lw_p21, List.forall_mem_cons.mpr ⟨lw_p22, List.forall_mem_cons.mpr ⟨lw_p23, List.forall_mem_cons.mpr ⟨lw_p24, List.forall_mem_cons.mpr ⟨lw_p25, List.forall_mem_cons.mpr ⟨lw_p26, List.forall_mem_cons.mpr ⟨lw_p27, List.forall_mem_cons.mpr ⟨lw_p28, List.forall_mem_cons.mpr ⟨lw_p29, List.forall_mem_cons.mpr ⟨lw_p30, List.forall_mem_cons.mpr ⟨lw_p31, fun _ h => absurd h List.not_mem_nil⟩⟩⟩⟩⟩⟩⟩⟩⟩⟩⟩⟩⟩⟩⟩⟩
theorem lw_p32 : lw_okq (⟨"TallTalesModel", "isRest", "()Z"⟩, 31) := ⟨⟨by decide +kernel, by decide +kernel⟩, List.mem_of_getElem? (i := 617) (by decide +kernel), List.mem_of_getElem? (i := 874) (by decide +kernel), List.mem_of_getElem? (i := 875) (by decide +kernel)⟩
theorem lw_p33 : lw_okq (⟨"TallTalesModel", "layTells", "()V"⟩, 31) := ⟨⟨by decide +kernel, by decide +kernel⟩, List.mem_of_getElem? (i := 617) (by decide +kernel), List.mem_of_getElem? (i := 878) (by decide +kernel), List.mem_of_getElem? (i := 879) (by decide +kernel)⟩
theorem lw_p34 : lw_okq (⟨"TallTalesModel", "nextTells", "()Z"⟩, 31) := ⟨⟨by decide +kernel, by decide +kernel⟩, List.mem_of_getElem? (i := 617) (by decide +kernel), List.mem_of_getElem? (i := 882) (by decide +kernel), List.mem_of_getElem? (i := 883) (by decide +kernel)⟩
theorem lw_p35 : lw_okq (⟨"TallTalesModel", "findWinter", "(III)I"⟩, 31) := ⟨⟨by decide +kernel, by decide +kernel⟩, List.mem_of_getElem? (i := 617) (by decide +kernel), List.mem_of_getElem? (i := 890) (by decide +kernel), List.mem_of_getElem? (i := 891) (by decide +kernel)⟩
theorem lw_p36 : lw_okq (⟨"TallTalesModel", "mayWinter", "(IIII)Z"⟩, 31) := ⟨⟨by decide +kernel, by decide +kernel⟩, List.mem_of_getElem? (i := 617) (by decide +kernel), List.mem_of_getElem? (i := 894) (by decide +kernel), List.mem_of_getElem? (i := 895) (by decide +kernel)⟩
theorem lw_p37 : lw_okq (⟨"TallTalesModel", "strong", "(I)I"⟩, 31) := ⟨⟨by decide +kernel, by decide +kernel⟩, List.mem_of_getElem? (i := 617) (by decide +kernel), List.mem_of_getElem? (i := 905) (by decide +kernel), List.mem_of_getElem? (i := 906) (by decide +kernel)⟩
theorem lw_p38 : lw_okq (⟨"TallTalesModel", "areAllGuests", "(I)Z"⟩, 31) := ⟨⟨by decide +kernel, by decide +kernel⟩, List.mem_of_getElem? (i := 617) (by decide +kernel), List.mem_of_getElem? (i := 913) (by decide +kernel), List.mem_of_getElem? (i := 914) (by decide +kernel)⟩
theorem lw_p39 : lw_okq (⟨"TallTalesModel", "timesBefore", "(II)I"⟩, 31) := ⟨⟨by decide +kernel, by decide +kernel⟩, List.mem_of_getElem? (i := 617) (by decide +kernel), List.mem_of_getElem? (i := 917) (by decide +kernel), List.mem_of_getElem? (i := 918) (by decide +kernel)⟩
theorem lw_p40 : lw_okq (⟨"TallTalesModel", "doLie", "(I)Z"⟩, 31) := ⟨⟨by decide +kernel, by decide +kernel⟩, List.mem_of_getElem? (i := 617) (by decide +kernel), List.mem_of_getElem? (i := 921) (by decide +kernel), List.mem_of_getElem? (i := 922) (by decide +kernel)⟩
theorem lw_p41 : lw_okq (⟨"TallTalesModel", "lost", "(I)J"⟩, 31) := ⟨⟨by decide +kernel, by decide +kernel⟩, List.mem_of_getElem? (i := 617) (by decide +kernel), List.mem_of_getElem? (i := 942) (by decide +kernel), List.mem_of_getElem? (i := 943) (by decide +kernel)⟩
theorem lw_p42 : lw_okq (⟨"TallTalesModel", "begins", "(I)V"⟩, 31) := ⟨⟨by decide +kernel, by decide +kernel⟩, List.mem_of_getElem? (i := 617) (by decide +kernel), List.mem_of_getElem? (i := 954) (by decide +kernel), List.mem_of_getElem? (i := 955) (by decide +kernel)⟩
def lw_privs_3 : List (MethodName × Nat) := [(⟨"TallTalesModel", "isRest", "()Z"⟩, 31), (⟨"TallTalesModel", "layTells", "()V"⟩, 31), (⟨"TallTalesModel", "nextTells", "()Z"⟩, 31), (⟨"TallTalesModel", "findWinter", "(III)I"⟩, 31), (⟨"TallTalesModel", "mayWinter", "(IIII)Z"⟩, 31), (⟨"TallTalesModel", "strong", "(I)I"⟩, 31), (⟨"TallTalesModel", "areAllGuests", "(I)Z"⟩, 31), (⟨"TallTalesModel", "timesBefore", "(II)I"⟩, 31), (⟨"TallTalesModel", "doLie", "(I)Z"⟩, 31), (⟨"TallTalesModel", "lost", "(I)J"⟩, 31), (⟨"TallTalesModel", "begins", "(I)V"⟩, 31)]
theorem lw_r3 : ∀ q ∈ lw_privs_3, lw_okq q := List.forall_mem_cons.mpr ⟨lw_p32, List.forall_mem_cons.mpr ⟨lw_p33, List.forall_mem_cons.mpr ⟨lw_p34, List.forall_mem_cons.mpr ⟨lw_p35, List.forall_mem_cons.mpr ⟨lw_p36, List.forall_mem_cons.mpr ⟨lw_p37, List.forall_mem_cons.mpr ⟨lw_p38, List.forall_mem_cons.mpr ⟨lw_p39, List.forall_mem_cons.mpr ⟨lw_p40, List.forall_mem_cons.mpr ⟨lw_p41, List.forall_mem_cons.mpr ⟨lw_p42, fun _ h => absurd h List.not_mem_nil⟩⟩⟩⟩⟩⟩⟩⟩⟩⟩⟩
def lw_privs : List (MethodName × Nat) := lw_privs_1 ++ (lw_privs_2 ++ (lw_privs_3))
def lw_tbl : List Cond := k2_sels lw_privs ++ tables_1
theorem lw_privs_ok : ∀ q ∈ lw_privs, lw_okq q := by
  show ∀ q ∈ lw_privs_1 ++ (lw_privs_2 ++ (lw_privs_3)), lw_okq q
  exact List.forall_mem_append.mpr ⟨lw_r1, List.forall_mem_append.mpr ⟨lw_r2, lw_r3⟩⟩

theorem goodIn_r {big : List Cond} (ws : List Cond) (ps : List Nat) (hp : ws = ps.filterMap (fun i => big[i]?)) (h : ws.all goodWord = true) : GoodIn big ws := by
  intro w hw
  have h1 := List.all_eq_true.mp h w hw
  rw [hp] at hw
  obtain ⟨i, -, hi⟩ := List.mem_filterMap.mp hw
  have hm : w ∈ big := by first | exact List.mem_of_getElem? hi | exact List.getElem?_mem hi
  exact ⟨hm, good_of_word h1⟩
theorem goodIn_app {big a b : List Cond} (ha : GoodIn big a) (hb : GoodIn big b) : GoodIn big (a ++ b) := fun w h => (List.mem_append.mp h).elim (ha w) (hb w)
theorem goodIn_ca {big a b : List Cond} {c : Cond} (ha : GoodIn big (c :: a)) (hb : GoodIn big b) : GoodIn big (c :: (a ++ b)) := fun w h => (List.mem_cons.mp h).elim (fun e => ha w (List.mem_cons.mpr (Or.inl e))) (fun h => (List.mem_append.mp h).elim (fun h => ha w (List.mem_cons.mpr (Or.inr h))) (hb w))
theorem goodIn_sub {big ws : List Cond} (hm : ∀ w ∈ ws, w ∈ big) (h : ws.all goodWord = true) : GoodIn big ws := fun w hw => ⟨hm w hw, good_of_word (List.all_eq_true.mp h w hw)⟩
def RX0 : String := "TallTales$House"
def TX0 : u_T := fun k => match k with
  | 0 => ("TallTales$House", "guests", "I", false)
  | 1 => ("TallTales$House", "tales", "I", false)
  | 2 => ("TallTales$House", "memory", "I", false)
  | 3 => ("TallTales$House", "nights", "I", false)
  | 4 => ("TallTales$House", "kinds", "[I", true)
  | 5 => ("TallTales$House", "owners", "[I", true)
  | 6 => ("TallTales$House", "heights", "[I", true)
  | 7 => ("TallTales$House", "told", "[I", true)
  | 8 => ("TallTales$House", "last", "[I", true)
  | 9 => ("TallTales$House", "chosen", "[I", true)
  | 10 => ("TallTales$House", "nightTale", "[I", true)
  | 11 => ("TallTales$House", "nightPlace", "[I", true)
  | _ => ("TallTales$House", "nightTall", "[I", true)
def tyX0 : Nat → FieldType := fun k => match k with
  | 0 => .int
  | 1 => .int
  | 2 => .int
  | 3 => .int
  | 4 => .array .int
  | 5 => .array .int
  | 6 => .array .int
  | 7 => .array .int
  | 8 => .array .int
  | 9 => .array .int
  | 10 => .array .int
  | 11 => .array .int
  | _ => .array .int
abbrev wsX00 : List Cond := u_ws RX0 TX0 13
theorem nmX0 : ∀ a, a < 13 → ∀ b, b < 13 → a ≠ b → (TX0 a).2.1 ≠ (TX0 b).2.1 := by decide +kernel
theorem tyX0_ok : ∀ k, k < 13 → parseFieldDescriptor (TX0 k).2.2.1 = some (tyX0 k) := by decide +kernel
abbrev cX0_init : ByteArray := prog_2_method_1_code
def yX0_init : MethodName := ⟨RX0, "<init>", "()V"⟩
abbrev cX0_open : ByteArray := prog_2_method_2_code
def yX0_open : MethodName := ⟨RX0, "open", "(LTallTales$Text;)V"⟩
abbrev cX0_isOpen : ByteArray := prog_2_method_3_code
def yX0_isOpen : MethodName := ⟨RX0, "isOpen", "()Z"⟩
abbrev cX0_hasGuest : ByteArray := prog_2_method_4_code
def yX0_hasGuest : MethodName := ⟨RX0, "hasGuest", "(I)Z"⟩
abbrev cX0_hasTale : ByteArray := prog_2_method_5_code
def yX0_hasTale : MethodName := ⟨RX0, "hasTale", "(I)Z"⟩
abbrev cX0_hasNight : ByteArray := prog_2_method_6_code
def yX0_hasNight : MethodName := ⟨RX0, "hasNight", "(I)Z"⟩
abbrev cX0_mayBeTold : ByteArray := prog_2_method_7_code
def yX0_mayBeTold : MethodName := ⟨RX0, "mayBeTold", "(IIII)Z"⟩
abbrev cX0_isTellable : ByteArray := prog_2_method_8_code
def yX0_isTellable : MethodName := ⟨RX0, "isTellable", "(I)Z"⟩
abbrev cX0_tallWhenTold : ByteArray := prog_2_method_9_code
def yX0_tallWhenTold : MethodName := ⟨RX0, "tallWhenTold", "(II)I"⟩
abbrev cX0_tallOf : ByteArray := prog_2_method_10_code
def yX0_tallOf : MethodName := ⟨RX0, "tallOf", "(I)I"⟩
abbrev cX0_isOffered : ByteArray := prog_2_method_11_code
def yX0_isOffered : MethodName := ⟨RX0, "isOffered", "(IIZ)Z"⟩
abbrev cX0_tallsAsChosen : ByteArray := prog_2_method_12_code
def yX0_tallsAsChosen : MethodName := ⟨RX0, "tallsAsChosen", "(LTallTales$Talls;)V"⟩
abbrev cX0_tallsOfNight : ByteArray := prog_2_method_13_code
def yX0_tallsOfNight : MethodName := ⟨RX0, "tallsOfNight", "(ILTallTales$Talls;)V"⟩
abbrev cX0_goBy : ByteArray := prog_2_method_14_code
def yX0_goBy : MethodName := ⟨RX0, "goBy", "(LTallTales$Talls;)I"⟩
abbrev cX0_keepTold : ByteArray := prog_2_method_15_code
def yX0_keepTold : MethodName := ⟨RX0, "keepTold", "(II)V"⟩
abbrev cX0_goBack : ByteArray := prog_2_method_16_code
def yX0_goBack : MethodName := ⟨RX0, "goBack", "(I)V"⟩
abbrev cX0_nightsAt : ByteArray := prog_2_method_17_code
def yX0_nightsAt : MethodName := ⟨RX0, "nightsAt", "(II)I"⟩
abbrev cX0_timesToldBefore : ByteArray := prog_2_method_18_code
def yX0_timesToldBefore : MethodName := ⟨RX0, "timesToldBefore", "(II)I"⟩
abbrev cX0_ownerAfter : ByteArray := prog_2_method_19_code
def yX0_ownerAfter : MethodName := ⟨RX0, "ownerAfter", "(III)I"⟩
abbrev cX0_strongAfter : ByteArray := prog_2_method_20_code
def yX0_strongAfter : MethodName := ⟨RX0, "strongAfter", "(III)I"⟩
abbrev cX0_isRowOfAll : ByteArray := prog_2_method_21_code
def yX0_isRowOfAll : MethodName := ⟨RX0, "isRowOfAll", "([I)Z"⟩
def RX1 : String := "TallTales$Rests"
def TX1 : u_T := fun k => match k with
  | 0 => ("TallTales$Rests", "house", "LTallTales$House;", true)
  | 1 => ("TallTales$Rests", "talls", "LTallTales$Talls;", true)
  | 2 => ("TallTales$Rests", "picks", "[I", true)
  | 3 => ("TallTales$Rests", "first", "[I", true)
  | _ => ("TallTales$Rests", "count", "I", false)
def tyX1 : Nat → FieldType := fun k => match k with
  | 0 => .object "TallTales$House"
  | 1 => .object "TallTales$Talls"
  | 2 => .array .int
  | 3 => .array .int
  | _ => .int
abbrev wsX10 : List Cond := u_ws RX1 TX1 5
theorem nmX1 : ∀ a, a < 5 → ∀ b, b < 5 → a ≠ b → (TX1 a).2.1 ≠ (TX1 b).2.1 := by decide +kernel
theorem tyX1_ok : ∀ k, k < 5 → parseFieldDescriptor (TX1 k).2.2.1 = some (tyX1 k) := by decide +kernel
abbrev cX1_init : ByteArray := prog_3_method_1_code
def yX1_init : MethodName := ⟨RX1, "<init>", "(LTallTales$House;LTallTales$Talls;)V"⟩
abbrev cX1_find : ByteArray := prog_3_method_2_code
def yX1_find : MethodName := ⟨RX1, "find", "()V"⟩
abbrev cX1_keepRest : ByteArray := prog_3_method_3_code
def yX1_keepRest : MethodName := ⟨RX1, "keepRest", "()V"⟩
abbrev cX1_ownAfter : ByteArray := prog_3_method_4_code
def yX1_ownAfter : MethodName := ⟨RX1, "ownAfter", "(II)I"⟩
abbrev cX1_goOn : ByteArray := prog_3_method_5_code
def yX1_goOn : MethodName := ⟨RX1, "goOn", "()Z"⟩
abbrev cX1_isRest : ByteArray := prog_3_method_6_code
def yX1_isRest : MethodName := ⟨RX1, "isRest", "()Z"⟩
abbrev cX1_canDoBetter : ByteArray := prog_3_method_7_code
def yX1_canDoBetter : MethodName := ⟨RX1, "canDoBetter", "(I)Z"⟩
def RX2 : String := "TallTales$Sheets"
def TX2 : u_T := fun k => match k with
  | 0 => ("TallTales$Sheets", "cells", "[I", true)
  | 1 => ("TallTales$Sheets", "sorts", "[I", true)
  | _ => ("TallTales$Sheets", "lengths", "[I", true)
def tyX2 : Nat → FieldType := fun k => match k with
  | 0 => .array .int
  | 1 => .array .int
  | _ => .array .int
abbrev wsX20 : List Cond := u_ws RX2 TX2 3
theorem nmX2 : ∀ a, a < 3 → ∀ b, b < 3 → a ≠ b → (TX2 a).2.1 ≠ (TX2 b).2.1 := by decide +kernel
theorem tyX2_ok : ∀ k, k < 3 → parseFieldDescriptor (TX2 k).2.2.1 = some (tyX2 k) := by decide +kernel
abbrev cX2_init : ByteArray := prog_4_method_1_code
def yX2_init : MethodName := ⟨RX2, "<init>", "()V"⟩
abbrev cX2_hasRow : ByteArray := prog_4_method_2_code
def yX2_hasRow : MethodName := ⟨RX2, "hasRow", "(I)Z"⟩
abbrev cX2_hasCells : ByteArray := prog_4_method_3_code
def yX2_hasCells : MethodName := ⟨RX2, "hasCells", "(III)Z"⟩
abbrev cX2_faultOf : ByteArray := prog_4_method_4_code
def yX2_faultOf : MethodName := ⟨RX2, "faultOf", "(IIII)I"⟩
abbrev cX2_makeRow : ByteArray := prog_4_method_5_code
def yX2_makeRow : MethodName := ⟨RX2, "makeRow", "(III)V"⟩
abbrev cX2_dropRow : ByteArray := prog_4_method_6_code
def yX2_dropRow : MethodName := ⟨RX2, "dropRow", "(I)Z"⟩
abbrev cX2_read : ByteArray := prog_4_method_7_code
def yX2_read : MethodName := ⟨RX2, "read", "(II)I"⟩
abbrev cX2_write : ByteArray := prog_4_method_8_code
def yX2_write : MethodName := ⟨RX2, "write", "(III)V"⟩
abbrev cX2_take : ByteArray := prog_4_method_9_code
def yX2_take : MethodName := ⟨RX2, "take", "(III[I)V"⟩
abbrev cX2_move : ByteArray := prog_4_method_10_code
def yX2_move : MethodName := ⟨RX2, "move", "(IIIII)V"⟩
def RX3 : String := "TallTales$Talls"
def TX3 : u_T := fun k => match k with
  | 0 => ("TallTales$Talls", "of", "[I", true)
  | _ => ("TallTales$Talls", "guests", "I", false)
def tyX3 : Nat → FieldType := fun k => match k with
  | 0 => .array .int
  | _ => .int
abbrev wsX30 : List Cond := u_ws RX3 TX3 2
theorem nmX3 : ∀ a, a < 2 → ∀ b, b < 2 → a ≠ b → (TX3 a).2.1 ≠ (TX3 b).2.1 := by decide +kernel
theorem tyX3_ok : ∀ k, k < 2 → parseFieldDescriptor (TX3 k).2.2.1 = some (tyX3 k) := by decide +kernel
abbrev cX3_init : ByteArray := prog_5_method_1_code
def yX3_init : MethodName := ⟨RX3, "<init>", "()V"⟩
abbrev cX3_placeOf : ByteArray := prog_5_method_2_code
def yX3_placeOf : MethodName := ⟨RX3, "placeOf", "(II)I"⟩
abbrev cX3_needOf : ByteArray := prog_5_method_3_code
def yX3_needOf : MethodName := ⟨RX3, "needOf", "(I)I"⟩
abbrev cX3_noLessThan : ByteArray := prog_5_method_4_code
def yX3_noLessThan : MethodName := ⟨RX3, "noLessThan", "(I)I"⟩
abbrev cX3_layAs : ByteArray := prog_5_method_5_code
def yX3_layAs : MethodName := ⟨RX3, "layAs", "([I)Z"⟩
def RX4 : String := "TallTales$Text"
def TX4 : u_T := fun k => match k with
  | 0 => ("TallTales$Text", "codes", "[I", true)
  | _ => ("TallTales$Text", "length", "I", false)
def tyX4 : Nat → FieldType := fun k => match k with
  | 0 => .array .int
  | _ => .int
abbrev wsX40 : List Cond := u_ws RX4 TX4 2
theorem nmX4 : ∀ a, a < 2 → ∀ b, b < 2 → a ≠ b → (TX4 a).2.1 ≠ (TX4 b).2.1 := by decide +kernel
theorem tyX4_ok : ∀ k, k < 2 → parseFieldDescriptor (TX4 k).2.2.1 = some (tyX4 k) := by decide +kernel
abbrev cX4_init : ByteArray := prog_6_method_1_code
def yX4_init : MethodName := ⟨RX4, "<init>", "()V"⟩
abbrev cX4_firstFault : ByteArray := prog_6_method_2_code
def yX4_firstFault : MethodName := ⟨RX4, "firstFault", "()I"⟩
abbrev cX4_goesOn : ByteArray := prog_6_method_3_code
def yX4_goesOn : MethodName := ⟨RX4, "goesOn", "(I)Z"⟩
abbrev cX4_isDigit : ByteArray := prog_6_method_4_code
def yX4_isDigit : MethodName := ⟨RX4, "isDigit", "(I)Z"⟩
abbrev cX4_guests : ByteArray := prog_6_method_5_code
def yX4_guests : MethodName := ⟨RX4, "guests", "()I"⟩
abbrev cX4_tales : ByteArray := prog_6_method_6_code
def yX4_tales : MethodName := ⟨RX4, "tales", "()I"⟩
abbrev cX4_kindOf : ByteArray := prog_6_method_7_code
def yX4_kindOf : MethodName := ⟨RX4, "kindOf", "(I)I"⟩
abbrev cX4_ownerOf : ByteArray := prog_6_method_8_code
def yX4_ownerOf : MethodName := ⟨RX4, "ownerOf", "(I)I"⟩
abbrev cX4_heightOf : ByteArray := prog_6_method_9_code
def yX4_heightOf : MethodName := ⟨RX4, "heightOf", "(I)I"⟩
def RX5 : String := "TallTales$Winter"
def TX5 : u_T := fun k => match k with
  | 0 => ("TallTales$Winter", "house", "LTallTales$House;", true)
  | 1 => ("TallTales$Winter", "numbers", "[I", true)
  | 2 => ("TallTales$Winter", "ahead", "[I", true)
  | 3 => ("TallTales$Winter", "told", "[I", true)
  | 4 => ("TallTales$Winter", "last", "[I", true)
  | 5 => ("TallTales$Winter", "row", "[I", true)
  | 6 => ("TallTales$Winter", "first", "[I", true)
  | 7 => ("TallTales$Winter", "guest", "I", false)
  | 8 => ("TallTales$Winter", "length", "I", false)
  | _ => ("TallTales$Winter", "most", "I", false)
def tyX5 : Nat → FieldType := fun k => match k with
  | 0 => .object "TallTales$House"
  | 1 => .array .int
  | 2 => .array .int
  | 3 => .array .int
  | 4 => .array .int
  | 5 => .array .int
  | 6 => .array .int
  | 7 => .int
  | 8 => .int
  | _ => .int
abbrev wsX50 : List Cond := u_ws RX5 TX5 10
theorem nmX5 : ∀ a, a < 10 → ∀ b, b < 10 → a ≠ b → (TX5 a).2.1 ≠ (TX5 b).2.1 := by decide +kernel
theorem tyX5_ok : ∀ k, k < 10 → parseFieldDescriptor (TX5 k).2.2.1 = some (tyX5 k) := by decide +kernel
abbrev cX5_init : ByteArray := prog_7_method_1_code
def yX5_init : MethodName := ⟨RX5, "<init>", "(LTallTales$House;)V"⟩
abbrev cX5_find : ByteArray := prog_7_method_2_code
def yX5_find : MethodName := ⟨RX5, "find", "(II)V"⟩
abbrev cX5_isWithinReach : ByteArray := prog_7_method_3_code
def yX5_isWithinReach : MethodName := ⟨RX5, "isWithinReach", "(I)Z"⟩
abbrev cX5_wins : ByteArray := prog_7_method_4_code
def yX5_wins : MethodName := ⟨RX5, "wins", "(II)Z"⟩
abbrev cX5_search : ByteArray := prog_7_method_5_code
def yX5_search : MethodName := ⟨RX5, "search", "(LTallTales$Winter;II)V"⟩
def RX6 : String := "TallTales"
def TX6 : u_T := fun k => match k with
  | 0 => ("TallTales", "sheets", "LTallTales$Sheets;", true)
  | 1 => ("TallTales", "text", "LTallTales$Text;", true)
  | 2 => ("TallTales", "house", "LTallTales$House;", true)
  | 3 => ("TallTales", "talls", "LTallTales$Talls;", true)
  | 4 => ("TallTales", "rests", "LTallTales$Rests;", true)
  | 5 => ("TallTales", "winter", "LTallTales$Winter;", true)
  | 6 => ("TallTales", "lying", "[I", true)
  | 7 => ("TallTales", "trace", "I", false)
  | _ => ("TallTales", "fault", "I", false)
def tyX6 : Nat → FieldType := fun k => match k with
  | 0 => .object "TallTales$Sheets"
  | 1 => .object "TallTales$Text"
  | 2 => .object "TallTales$House"
  | 3 => .object "TallTales$Talls"
  | 4 => .object "TallTales$Rests"
  | 5 => .object "TallTales$Winter"
  | 6 => .array .int
  | 7 => .int
  | _ => .int
abbrev wsX60 : List Cond := u_ws RX6 TX6 9
theorem nmX6 : ∀ a, a < 9 → ∀ b, b < 9 → a ≠ b → (TX6 a).2.1 ≠ (TX6 b).2.1 := by decide +kernel
theorem tyX6_ok : ∀ k, k < 9 → parseFieldDescriptor (TX6 k).2.2.1 = some (tyX6 k) := by decide +kernel
abbrev cX6_init : ByteArray := prog_1_method_1_code
def yX6_init : MethodName := ⟨RX6, "<init>", "()V"⟩
abbrev cX6_inn : ByteArray := prog_1_method_2_code
def yX6_inn : MethodName := ⟨RX6, "inn", "(IIII)I"⟩
abbrev cX6_ofTale : ByteArray := prog_1_method_3_code
def yX6_ofTale : MethodName := ⟨RX6, "ofTale", "(II)I"⟩
abbrev cX6_memory : ByteArray := prog_1_method_4_code
def yX6_memory : MethodName := ⟨RX6, "memory", "(I)I"⟩
abbrev cX6_choose : ByteArray := prog_1_method_5_code
def yX6_choose : MethodName := ⟨RX6, "choose", "(II)I"⟩
abbrev cX6_night : ByteArray := prog_1_method_6_code
def yX6_night : MethodName := ⟨RX6, "night", "()I"⟩
abbrev cX6_ofNight : ByteArray := prog_1_method_7_code
def yX6_ofNight : MethodName := ⟨RX6, "ofNight", "(III)I"⟩
abbrev cX6_undo : ByteArray := prog_1_method_8_code
def yX6_undo : MethodName := ⟨RX6, "undo", "(I)I"⟩
abbrev cX6_lay : ByteArray := prog_1_method_9_code
def yX6_lay : MethodName := ⟨RX6, "lay", "(II)I"⟩
abbrev cX6_tonight : ByteArray := prog_1_method_10_code
def yX6_tonight : MethodName := ⟨RX6, "tonight", "(II)I"⟩
abbrev cX6_answer : ByteArray := prog_1_method_11_code
def yX6_answer : MethodName := ⟨RX6, "answer", "(II)I"⟩
abbrev cX6_borrowed : ByteArray := prog_1_method_12_code
def yX6_borrowed : MethodName := ⟨RX6, "borrowed", "(II)I"⟩
abbrev cX6_bishop : ByteArray := prog_1_method_13_code
def yX6_bishop : MethodName := ⟨RX6, "bishop", "(I)I"⟩
abbrev cX6_rests : ByteArray := prog_1_method_14_code
def yX6_rests : MethodName := ⟨RX6, "rests", "(I)I"⟩
abbrev cX6_winter : ByteArray := prog_1_method_15_code
def yX6_winter : MethodName := ⟨RX6, "winter", "(IIIIII)I"⟩
abbrev cX6_trade : ByteArray := prog_1_method_16_code
def yX6_trade : MethodName := ⟨RX6, "trade", "(II)I"⟩
abbrev cX6_toldBy : ByteArray := prog_1_method_17_code
def yX6_toldBy : MethodName := ⟨RX6, "toldBy", "(IIIII)I"⟩
abbrev cX6_sheet : ByteArray := prog_1_method_18_code
def yX6_sheet : MethodName := ⟨RX6, "sheet", "(III)I"⟩
abbrev cX6_lose : ByteArray := prog_1_method_19_code
def yX6_lose : MethodName := ⟨RX6, "lose", "(I)I"⟩
abbrev cX6_put : ByteArray := prog_1_method_20_code
def yX6_put : MethodName := ⟨RX6, "put", "(III)I"⟩
abbrev cX6_cell : ByteArray := prog_1_method_21_code
def yX6_cell : MethodName := ⟨RX6, "cell", "(III)J"⟩
abbrev cX6_copy : ByteArray := prog_1_method_22_code
def yX6_copy : MethodName := ⟨RX6, "copy", "(IIIII)I"⟩
abbrev cX6_tell : ByteArray := prog_1_method_23_code
def yX6_tell : MethodName := ⟨RX6, "tell", "(I)I"⟩
abbrev cX6_swear : ByteArray := prog_1_method_24_code
def yX6_swear : MethodName := ⟨RX6, "swear", "(I)I"⟩
abbrev cX6_as : ByteArray := prog_1_method_25_code
def yX6_as : MethodName := ⟨RX6, "as", "(II)I"⟩
abbrev cX6_trace : ByteArray := prog_1_method_26_code
def yX6_trace : MethodName := ⟨RX6, "trace", "()I"⟩
abbrev cX6_fault : ByteArray := prog_1_method_27_code
def yX6_fault : MethodName := ⟨RX6, "fault", "()I"⟩
abbrev cX6_many : ByteArray := prog_1_method_28_code
def yX6_many : MethodName := ⟨RX6, "many", "(I)I"⟩
abbrev cX6_isSheet : ByteArray := prog_1_method_29_code
def yX6_isSheet : MethodName := ⟨RX6, "isSheet", "(I)Z"⟩
abbrev cX6_isSort : ByteArray := prog_1_method_30_code
def yX6_isSort : MethodName := ⟨RX6, "isSort", "(I)Z"⟩
abbrev cX6_faulty : ByteArray := prog_1_method_31_code
def yX6_faulty : MethodName := ⟨RX6, "faulty", "(I)I"⟩
abbrev cX6_bestReply : ByteArray := prog_1_method_32_code
def yX6_bestReply : MethodName := ⟨RX6, "bestReply", "(IIZ)I"⟩
abbrev cX6_isBetterReply : ByteArray := prog_1_method_33_code
def yX6_isBetterReply : MethodName := ⟨RX6, "isBetterReply", "(III)Z"⟩
abbrev cX6_canHaveTold : ByteArray := prog_1_method_34_code
def yX6_canHaveTold : MethodName := ⟨RX6, "canHaveTold", "(II)I"⟩
abbrev cX6_leaveTrace : ByteArray := prog_1_method_35_code
def yX6_leaveTrace : MethodName := ⟨RX6, "leaveTrace", "(I)V"⟩
abbrev cX6_tellAsTale : ByteArray := prog_1_method_36_code
def yX6_tellAsTale : MethodName := ⟨RX6, "tellAsTale", "(I)I"⟩
abbrev cX6_tellAsGrown : ByteArray := prog_1_method_37_code
def yX6_tellAsGrown : MethodName := ⟨RX6, "tellAsGrown", "(I)I"⟩
abbrev cX6_tellAsTrue : ByteArray := prog_1_method_38_code
def yX6_tellAsTrue : MethodName := ⟨RX6, "tellAsTrue", "(I)I"⟩
def RX7 : String := "TallTalesModel"
def TX7 : u_T := fun k => match k with
  | 0 => ("TallTalesModel", "fault", "I", false)
  | 1 => ("TallTalesModel", "trace", "I", false)
  | 2 => ("TallTalesModel", "sorts", "[I", true)
  | 3 => ("TallTalesModel", "sheetLong", "[I", true)
  | 4 => ("TallTalesModel", "cells", "[I", true)
  | 5 => ("TallTalesModel", "guests", "I", false)
  | 6 => ("TallTalesModel", "tales", "I", false)
  | 7 => ("TallTalesModel", "memory", "I", false)
  | 8 => ("TallTalesModel", "kind", "[I", true)
  | 9 => ("TallTalesModel", "whose", "[I", true)
  | 10 => ("TallTalesModel", "high", "[I", true)
  | 11 => ("TallTalesModel", "at", "I", false)
  | 12 => ("TallTalesModel", "readGuests", "I", false)
  | 13 => ("TallTalesModel", "readTales", "I", false)
  | 14 => ("TallTalesModel", "readKind", "[I", true)
  | 15 => ("TallTalesModel", "readWhose", "[I", true)
  | 16 => ("TallTalesModel", "readHigh", "[I", true)
  | 17 => ("TallTalesModel", "over", "I", false)
  | 18 => ("TallTalesModel", "nightTold", "[I", true)
  | 19 => ("TallTalesModel", "nightTall", "[I", true)
  | 20 => ("TallTalesModel", "chosen", "[I", true)
  | 21 => ("TallTalesModel", "times", "[I", true)
  | 22 => ("TallTalesModel", "last", "[I", true)
  | 23 => ("TallTalesModel", "tall", "[I", true)
  | 24 => ("TallTalesModel", "bestTale", "I", false)
  | 25 => ("TallTalesModel", "bestPlace", "I", false)
  | 26 => ("TallTalesModel", "bestTall", "I", false)
  | 27 => ("TallTalesModel", "tells", "[I", true)
  | 28 => ("TallTalesModel", "firstRest", "[I", true)
  | 29 => ("TallTalesModel", "winterTells", "[I", true)
  | _ => ("TallTalesModel", "winterBest", "[I", true)
def tyX7 : Nat → FieldType := fun k => match k with
  | 0 => .int
  | 1 => .int
  | 2 => .array .int
  | 3 => .array .int
  | 4 => .array .int
  | 5 => .int
  | 6 => .int
  | 7 => .int
  | 8 => .array .int
  | 9 => .array .int
  | 10 => .array .int
  | 11 => .int
  | 12 => .int
  | 13 => .int
  | 14 => .array .int
  | 15 => .array .int
  | 16 => .array .int
  | 17 => .int
  | 18 => .array .int
  | 19 => .array .int
  | 20 => .array .int
  | 21 => .array .int
  | 22 => .array .int
  | 23 => .array .int
  | 24 => .int
  | 25 => .int
  | 26 => .int
  | 27 => .array .int
  | 28 => .array .int
  | 29 => .array .int
  | _ => .array .int
abbrev wsX70 : List Cond := u_ws RX7 TX7 31
theorem nmX7 : ∀ a, a < 31 → ∀ b, b < 31 → a ≠ b → (TX7 a).2.1 ≠ (TX7 b).2.1 := by decide +kernel
theorem tyX7_ok : ∀ k, k < 31 → parseFieldDescriptor (TX7 k).2.2.1 = some (tyX7 k) := by decide +kernel
abbrev cX7_init : ByteArray := prog_9_method_1_code
def yX7_init : MethodName := ⟨RX7, "<init>", "()V"⟩
abbrev cX7_fails : ByteArray := prog_9_method_3_code
def yX7_fails : MethodName := ⟨RX7, "fails", "(I)I"⟩
abbrev cX7_lost : ByteArray := prog_9_method_4_code
def yX7_lost : MethodName := ⟨RX7, "lost", "(I)J"⟩
abbrev cX7_within : ByteArray := prog_9_method_5_code
def yX7_within : MethodName := ⟨RX7, "within", "(III)Z"⟩
abbrev cX7_isSheet : ByteArray := prog_9_method_6_code
def yX7_isSheet : MethodName := ⟨RX7, "isSheet", "(I)Z"⟩
abbrev cX7_isSort : ByteArray := prog_9_method_7_code
def yX7_isSort : MethodName := ⟨RX7, "isSort", "(I)Z"⟩
abbrev cX7_against : ByteArray := prog_9_method_8_code
def yX7_against : MethodName := ⟨RX7, "against", "(IIII)I"⟩
abbrev cX7_isGuest : ByteArray := prog_9_method_9_code
def yX7_isGuest : MethodName := ⟨RX7, "isGuest", "(I)Z"⟩
abbrev cX7_isTale : ByteArray := prog_9_method_10_code
def yX7_isTale : MethodName := ⟨RX7, "isTale", "(I)Z"⟩
abbrev cX7_digitAt : ByteArray := prog_9_method_11_code
def yX7_digitAt : MethodName := ⟨RX7, "digitAt", "(II)I"⟩
abbrev cX7_inn : ByteArray := prog_9_method_12_code
def yX7_inn : MethodName := ⟨RX7, "inn", "(IIII)I"⟩
abbrev cX7_readInn : ByteArray := prog_9_method_13_code
def yX7_readInn : MethodName := ⟨RX7, "readInn", "(I)Z"⟩
abbrev cX7_readTale : ByteArray := prog_9_method_14_code
def yX7_readTale : MethodName := ⟨RX7, "readTale", "(I)Z"⟩
abbrev cX7_chooseNone : ByteArray := prog_9_method_15_code
def yX7_chooseNone : MethodName := ⟨RX7, "chooseNone", "()V"⟩
abbrev cX7_countTold : ByteArray := prog_9_method_16_code
def yX7_countTold : MethodName := ⟨RX7, "countTold", "()V"⟩
abbrev cX7_mayBe : ByteArray := prog_9_method_17_code
def yX7_mayBe : MethodName := ⟨RX7, "mayBe", "(IIII)Z"⟩
abbrev cX7_mayNow : ByteArray := prog_9_method_18_code
def yX7_mayNow : MethodName := ⟨RX7, "mayNow", "(I)Z"⟩
abbrev cX7_tallBy : ByteArray := prog_9_method_19_code
def yX7_tallBy : MethodName := ⟨RX7, "tallBy", "(II)I"⟩
abbrev cX7_tallNow : ByteArray := prog_9_method_20_code
def yX7_tallNow : MethodName := ⟨RX7, "tallNow", "(I)I"⟩
abbrev cX7_ofTale : ByteArray := prog_9_method_21_code
def yX7_ofTale : MethodName := ⟨RX7, "ofTale", "(II)I"⟩
abbrev cX7_memory : ByteArray := prog_9_method_22_code
def yX7_memory : MethodName := ⟨RX7, "memory", "(I)I"⟩
abbrev cX7_choose : ByteArray := prog_9_method_23_code
def yX7_choose : MethodName := ⟨RX7, "choose", "(II)I"⟩
abbrev cX7_layTall : ByteArray := prog_9_method_24_code
def yX7_layTall : MethodName := ⟨RX7, "layTall", "()V"⟩
abbrev cX7_placeOf : ByteArray := prog_9_method_25_code
def yX7_placeOf : MethodName := ⟨RX7, "placeOf", "(I)I"⟩
abbrev cX7_inBed : ByteArray := prog_9_method_26_code
def yX7_inBed : MethodName := ⟨RX7, "inBed", "()I"⟩
abbrev cX7_night : ByteArray := prog_9_method_27_code
def yX7_night : MethodName := ⟨RX7, "night", "()I"⟩
abbrev cX7_isNight : ByteArray := prog_9_method_28_code
def yX7_isNight : MethodName := ⟨RX7, "isNight", "(I)Z"⟩
abbrev cX7_layNight : ByteArray := prog_9_method_29_code
def yX7_layNight : MethodName := ⟨RX7, "layNight", "(I)V"⟩
abbrev cX7_ofNight : ByteArray := prog_9_method_30_code
def yX7_ofNight : MethodName := ⟨RX7, "ofNight", "(III)I"⟩
abbrev cX7_undo : ByteArray := prog_9_method_31_code
def yX7_undo : MethodName := ⟨RX7, "undo", "(I)I"⟩
abbrev cX7_lay : ByteArray := prog_9_method_32_code
def yX7_lay : MethodName := ⟨RX7, "lay", "(II)I"⟩
abbrev cX7_need : ByteArray := prog_9_method_33_code
def yX7_need : MethodName := ⟨RX7, "need", "(I)I"⟩
abbrev cX7_tonight : ByteArray := prog_9_method_34_code
def yX7_tonight : MethodName := ⟨RX7, "tonight", "(II)I"⟩
abbrev cX7_offer : ByteArray := prog_9_method_35_code
def yX7_offer : MethodName := ⟨RX7, "offer", "(II)V"⟩
abbrev cX7_isChosen : ByteArray := prog_9_method_36_code
def yX7_isChosen : MethodName := ⟨RX7, "isChosen", "(I)Z"⟩
abbrev cX7_found : ByteArray := prog_9_method_37_code
def yX7_found : MethodName := ⟨RX7, "found", "(I)I"⟩
abbrev cX7_answer : ByteArray := prog_9_method_38_code
def yX7_answer : MethodName := ⟨RX7, "answer", "(II)I"⟩
abbrev cX7_borrowed : ByteArray := prog_9_method_39_code
def yX7_borrowed : MethodName := ⟨RX7, "borrowed", "(II)I"⟩
abbrev cX7_bishop : ByteArray := prog_9_method_40_code
def yX7_bishop : MethodName := ⟨RX7, "bishop", "(I)I"⟩
abbrev cX7_nextOwn : ByteArray := prog_9_method_41_code
def yX7_nextOwn : MethodName := ⟨RX7, "nextOwn", "(II)I"⟩
abbrev cX7_layTells : ByteArray := prog_9_method_42_code
def yX7_layTells : MethodName := ⟨RX7, "layTells", "()V"⟩
abbrev cX7_isRest : ByteArray := prog_9_method_43_code
def yX7_isRest : MethodName := ⟨RX7, "isRest", "()Z"⟩
abbrev cX7_nextTells : ByteArray := prog_9_method_44_code
def yX7_nextTells : MethodName := ⟨RX7, "nextTells", "()Z"⟩
abbrev cX7_findRests : ByteArray := prog_9_method_45_code
def yX7_findRests : MethodName := ⟨RX7, "findRests", "()I"⟩
abbrev cX7_rests : ByteArray := prog_9_method_46_code
def yX7_rests : MethodName := ⟨RX7, "rests", "(I)I"⟩
abbrev cX7_mayWinter : ByteArray := prog_9_method_47_code
def yX7_mayWinter : MethodName := ⟨RX7, "mayWinter", "(IIII)Z"⟩
abbrev cX7_nightsOf : ByteArray := prog_9_method_48_code
def yX7_nightsOf : MethodName := ⟨RX7, "nightsOf", "([II)I"⟩
abbrev cX7_findWinter : ByteArray := prog_9_method_49_code
def yX7_findWinter : MethodName := ⟨RX7, "findWinter", "(III)I"⟩
abbrev cX7_winter : ByteArray := prog_9_method_50_code
def yX7_winter : MethodName := ⟨RX7, "winter", "(IIIIII)I"⟩
abbrev cX7_strong : ByteArray := prog_9_method_51_code
def yX7_strong : MethodName := ⟨RX7, "strong", "(I)I"⟩
abbrev cX7_trade : ByteArray := prog_9_method_52_code
def yX7_trade : MethodName := ⟨RX7, "trade", "(II)I"⟩
abbrev cX7_areAllGuests : ByteArray := prog_9_method_53_code
def yX7_areAllGuests : MethodName := ⟨RX7, "areAllGuests", "(I)Z"⟩
abbrev cX7_doLie : ByteArray := prog_9_method_54_code
def yX7_doLie : MethodName := ⟨RX7, "doLie", "(I)Z"⟩
abbrev cX7_timesBefore : ByteArray := prog_9_method_55_code
def yX7_timesBefore : MethodName := ⟨RX7, "timesBefore", "(II)I"⟩
abbrev cX7_toldBy : ByteArray := prog_9_method_56_code
def yX7_toldBy : MethodName := ⟨RX7, "toldBy", "(IIIII)I"⟩
abbrev cX7_sheet : ByteArray := prog_9_method_57_code
def yX7_sheet : MethodName := ⟨RX7, "sheet", "(III)I"⟩
abbrev cX7_lose : ByteArray := prog_9_method_58_code
def yX7_lose : MethodName := ⟨RX7, "lose", "(I)I"⟩
abbrev cX7_put : ByteArray := prog_9_method_59_code
def yX7_put : MethodName := ⟨RX7, "put", "(III)I"⟩
abbrev cX7_cell : ByteArray := prog_9_method_60_code
def yX7_cell : MethodName := ⟨RX7, "cell", "(III)J"⟩
abbrev cX7_copy : ByteArray := prog_9_method_61_code
def yX7_copy : MethodName := ⟨RX7, "copy", "(IIIII)I"⟩
abbrev cX7_begins : ByteArray := prog_9_method_62_code
def yX7_begins : MethodName := ⟨RX7, "begins", "(I)V"⟩
abbrev cX7_tell : ByteArray := prog_9_method_63_code
def yX7_tell : MethodName := ⟨RX7, "tell", "(I)I"⟩
abbrev cX7_swear : ByteArray := prog_9_method_64_code
def yX7_swear : MethodName := ⟨RX7, "swear", "(I)I"⟩
abbrev cX7_as : ByteArray := prog_9_method_65_code
def yX7_as : MethodName := ⟨RX7, "as", "(II)I"⟩
abbrev cX7_trace : ByteArray := prog_9_method_66_code
def yX7_trace : MethodName := ⟨RX7, "trace", "()I"⟩
abbrev cX7_fault : ByteArray := prog_9_method_67_code
def yX7_fault : MethodName := ⟨RX7, "fault", "()I"⟩
abbrev cX7_many : ByteArray := prog_9_method_68_code
def yX7_many : MethodName := ⟨RX7, "many", "(I)I"⟩
def RJ9 : String := "java/lang/Math"
def TJ9 : u_T := fun k => match k with
  | _ => ("", "", "", false)
def tyJ9 : Nat → FieldType := fun k => match k with
  | _ => .int
abbrev wsJ90 : List Cond := u_ws RJ9 TJ9 0
theorem nmJ9 : ∀ a, a < 0 → ∀ b, b < 0 → a ≠ b → (TJ9 a).2.1 ≠ (TJ9 b).2.1 := by decide +kernel
theorem tyJ9_ok : ∀ k, k < 0 → parseFieldDescriptor (TJ9 k).2.2.1 = some (tyJ9 k) := by decide +kernel
abbrev cJ9_max_7cf53 : ByteArray := prog_10_method_65_code
def yJ9_max_7cf53 : MethodName := ⟨RJ9, "max", "(II)I"⟩
def RJ10 : String := "java/lang/System"
def TJ10 : u_T := fun k => match k with
  | _ => ("", "", "", false)
def tyJ10 : Nat → FieldType := fun k => match k with
  | _ => .int
abbrev wsJ100 : List Cond := u_ws RJ10 TJ10 0
theorem nmJ10 : ∀ a, a < 0 → ∀ b, b < 0 → a ≠ b → (TJ10 a).2.1 ≠ (TJ10 b).2.1 := by decide +kernel
theorem tyJ10_ok : ∀ k, k < 0 → parseFieldDescriptor (TJ10 k).2.2.1 = some (tyJ10 k) := by decide +kernel
def RJ7 : String := "java/util/Arrays"
def TJ7 : u_T := fun k => match k with
  | _ => ("", "", "", false)
def tyJ7 : Nat → FieldType := fun k => match k with
  | _ => .int
abbrev wsJ70 : List Cond := u_ws RJ7 TJ7 0
theorem nmJ7 : ∀ a, a < 0 → ∀ b, b < 0 → a ≠ b → (TJ7 a).2.1 ≠ (TJ7 b).2.1 := by decide +kernel
theorem tyJ7_ok : ∀ k, k < 0 → parseFieldDescriptor (TJ7 k).2.2.1 = some (tyJ7 k) := by decide +kernel
abbrev cJ7_rangeCheck_23922 : ByteArray := prog_12_method_30_code
def yJ7_rangeCheck_23922 : MethodName := ⟨RJ7, "rangeCheck", "(III)V"⟩
abbrev cJ7_fill_53178 : ByteArray := prog_12_method_103_code
def yJ7_fill_53178 : MethodName := ⟨RJ7, "fill", "([II)V"⟩
abbrev cJ7_fill_fda19 : ByteArray := prog_12_method_104_code
def yJ7_fill_fda19 : MethodName := ⟨RJ7, "fill", "([IIII)V"⟩
def RL : String := "TallTalesLaw"
abbrev cL_law : ByteArray := code
def yL_law : MethodName := ⟨RL, "law", "([I)Z"⟩
abbrev vwCl : List vw_C := [(RX0, TX0, 13), (RX1, TX1, 5), (RX2, TX2, 3), (RX3, TX3, 2), (RX4, TX4, 2), (RX5, TX5, 10), (RX6, TX6, 9), (RX7, TX7, 31)]
end
section
/-! ===== words: each by its place in the tables (by program: wip/gen/words.py) ===== -/
def k_ws : List Cond := lw_tbl.filter goodWord
theorem k_in {w : Cond} (h : w ∈ lw_tbl) (g : goodWord w = true) : w ∈ k_ws := List.mem_filter.mpr ⟨h, g⟩
theorem k_good {w : Cond} (h : w ∈ k_ws) : w ∈ lw_tbl ∧ goodWord w = true := List.mem_filter.mp h
theorem k_lay {ws : List Cond} (h : GoodIn lw_tbl ws) : ∀ w ∈ ws, w ∈ k_ws := fun w hw => k_in (h w hw).1 (by rcases (h w hw).2 with q | ⟨ty, rfl⟩ <;> first | rfl | (cases w <;> first | rfl | exact q))
theorem k_in0 (i : Nat) {w : Cond} (h : (k2_sels lw_privs)[i]? = some w) (g : goodWord w = true) : w ∈ k_ws := k_in (List.mem_append_left _ (List.mem_of_getElem? h)) g
theorem k_in1 (i : Nat) {w : Cond} (h : tables_1_1[i]? = some w) (g : goodWord w = true) : w ∈ k_ws := k_in (List.mem_append_right _ (List.mem_append_left _ (List.mem_of_getElem? h))) g
theorem k_in2 (i : Nat) {w : Cond} (h : tables_1_2[i]? = some w) (g : goodWord w = true) : w ∈ k_ws := k_in (List.mem_append_right _ (List.mem_append_right _ (List.mem_append_left _ (List.mem_of_getElem? h)))) g
theorem k_in3 (i : Nat) {w : Cond} (h : tables_1_3[i]? = some w) (g : goodWord w = true) : w ∈ k_ws := k_in (List.mem_append_right _ (List.mem_append_right _ (List.mem_append_right _ (List.mem_append_left _ (List.mem_of_getElem? h))))) g
theorem k_in4 (i : Nat) {w : Cond} (h : tables_1_4[i]? = some w) (g : goodWord w = true) : w ∈ k_ws := k_in (List.mem_append_right _ (List.mem_append_right _ (List.mem_append_right _ (List.mem_append_right _ (List.mem_append_left _ (List.mem_of_getElem? h)))))) g
theorem k_in5 (i : Nat) {w : Cond} (h : tables_1_5[i]? = some w) (g : goodWord w = true) : w ∈ k_ws := k_in (List.mem_append_right _ (List.mem_append_right _ (List.mem_append_right _ (List.mem_append_right _ (List.mem_append_right _ (List.mem_of_getElem? h)))))) g
theorem kwn_L : Cond.initialized RL ∈ k_ws := k_in1 0 (by decide +kernel) (by decide +kernel)
theorem kwn_X6 : Cond.initialized RX6 ∈ k_ws := k_in1 1 (by decide +kernel) (by decide +kernel)
theorem kwn_X2 : Cond.initialized RX2 ∈ k_ws := k_in1 2 (by decide +kernel) (by decide +kernel)
theorem kwn_J7 : Cond.initialized RJ7 ∈ k_ws := k_in1 3 (by decide +kernel) (by decide +kernel)
theorem kwn_X4 : Cond.initialized RX4 ∈ k_ws := k_in1 4 (by decide +kernel) (by decide +kernel)
theorem kwn_X0 : Cond.initialized RX0 ∈ k_ws := k_in1 5 (by decide +kernel) (by decide +kernel)
theorem kwn_X3 : Cond.initialized RX3 ∈ k_ws := k_in1 6 (by decide +kernel) (by decide +kernel)
theorem kwn_X1 : Cond.initialized RX1 ∈ k_ws := k_in1 7 (by decide +kernel) (by decide +kernel)
theorem kwn_X5 : Cond.initialized RX5 ∈ k_ws := k_in1 8 (by decide +kernel) (by decide +kernel)
theorem kwn_X7 : Cond.initialized RX7 ∈ k_ws := k_in1 9 (by decide +kernel) (by decide +kernel)
theorem kwn_J10 : Cond.initialized RJ10 ∈ k_ws := k_in1 10 (by decide +kernel) (by decide +kernel)
theorem kwn_J9 : Cond.initialized RJ9 ∈ k_ws := k_in1 11 (by decide +kernel) (by decide +kernel)
theorem kwc_L_7 : Cond.classLink RL 7 RX6 ∈ k_ws := k_in1 12 (by decide +kernel) (by decide +kernel)
theorem kwx_X6 : Cond.instantiable RX6 9 ∈ k_ws := k_in1 13 (by decide +kernel) (by decide +kernel)
theorem kwm_L_9 : Cond.methodLink RL 9 yX6_init ∈ k_ws := k_in1 14 (by decide +kernel) (by decide +kernel)
theorem kwi_X6_init : Cond.instanceMethod yX6_init ∈ k_ws := k_in1 15 (by decide +kernel) (by decide +kernel)
theorem kwk_X6_init : Cond.code yX6_init cX6_init 1 .none ∈ k_ws := k_in1 16 (by decide +kernel) (by decide +kernel)
theorem kwm_X6_3 : Cond.methodLink RX6 3 objectInit ∈ k_ws := k_in1 17 (by decide +kernel) (by decide +kernel)
theorem kwi_objectInit : Cond.instanceMethod objectInit ∈ k_ws := k_in1 18 (by decide +kernel) (by decide +kernel)
theorem kwk_objectInit : Cond.code objectInit ⟨#[0xb1]⟩ 1 none ∈ k_ws := k_in1 19 (by decide +kernel) (by decide +kernel)
theorem kwc_X6_9 : Cond.classLink RX6 9 RX2 ∈ k_ws := k_in1 20 (by decide +kernel) (by decide +kernel)
theorem kwx_X2 : Cond.instantiable RX2 3 ∈ k_ws := k_in1 21 (by decide +kernel) (by decide +kernel)
theorem kwm_X6_11 : Cond.methodLink RX6 11 yX2_init ∈ k_ws := k_in1 22 (by decide +kernel) (by decide +kernel)
theorem kwi_X2_init : Cond.instanceMethod yX2_init ∈ k_ws := k_in1 23 (by decide +kernel) (by decide +kernel)
theorem kwk_X2_init : Cond.code yX2_init cX2_init 1 .none ∈ k_ws := k_in1 24 (by decide +kernel) (by decide +kernel)
theorem kwm_X2_3 : Cond.methodLink RX2 3 objectInit ∈ k_ws := k_in1 25 (by decide +kernel) (by decide +kernel)
theorem kwm_X2_21 : Cond.methodLink RX2 21 yJ7_fill_53178 ∈ k_ws := k_in1 26 (by decide +kernel) (by decide +kernel)
theorem kws_J7_fill_53178 : Cond.static yJ7_fill_53178 ∈ k_ws := k_in1 27 (by decide +kernel) (by decide +kernel)
theorem kwk_J7_fill_53178 : Cond.code yJ7_fill_53178 cJ7_fill_53178 4 .none ∈ k_ws := k_in1 28 (by decide +kernel) (by decide +kernel)
theorem kwf_X2_9 : Cond.fieldLink RX2 9 "TallTales$Sheets" "cells" "[I" ∈ k_ws := k_in1 29 (by decide +kernel) (by decide +kernel)
theorem kwf_X2_15 : Cond.fieldLink RX2 15 "TallTales$Sheets" "sorts" "[I" ∈ k_ws := k_in1 30 (by decide +kernel) (by decide +kernel)
theorem kwf_X6_240 : Cond.fieldLink RX6 240 "TallTales$Sheets" "sorts" "[I" ∈ k_ws := k_in1 31 (by decide +kernel) (by decide +kernel)
theorem kwf_X2_18 : Cond.fieldLink RX2 18 "TallTales$Sheets" "lengths" "[I" ∈ k_ws := k_in1 32 (by decide +kernel) (by decide +kernel)
theorem kwa_int : Cond.arrayClass Jvm.ClassFile.FieldType.int ∈ k_ws := k_in1 40 (by decide +kernel) (by decide +kernel)
theorem kwc_X6_18 : Cond.classLink RX6 18 RX4 ∈ k_ws := k_in1 41 (by decide +kernel) (by decide +kernel)
theorem kwx_X4 : Cond.instantiable RX4 2 ∈ k_ws := k_in1 42 (by decide +kernel) (by decide +kernel)
theorem kwm_X6_20 : Cond.methodLink RX6 20 yX4_init ∈ k_ws := k_in1 43 (by decide +kernel) (by decide +kernel)
theorem kwi_X4_init : Cond.instanceMethod yX4_init ∈ k_ws := k_in1 44 (by decide +kernel) (by decide +kernel)
theorem kwk_X4_init : Cond.code yX4_init cX4_init 1 .none ∈ k_ws := k_in1 45 (by decide +kernel) (by decide +kernel)
theorem kwm_X4_3 : Cond.methodLink RX4 3 objectInit ∈ k_ws := k_in1 46 (by decide +kernel) (by decide +kernel)
theorem kwf_X4_9 : Cond.fieldLink RX4 9 "TallTales$Text" "codes" "[I" ∈ k_ws := k_in1 47 (by decide +kernel) (by decide +kernel)
theorem kwf_X6_83 : Cond.fieldLink RX6 83 "TallTales$Text" "codes" "[I" ∈ k_ws := k_in1 48 (by decide +kernel) (by decide +kernel)
theorem kwf_X4_15 : Cond.fieldLink RX4 15 "TallTales$Text" "length" "I" ∈ k_ws := k_in1 49 (by decide +kernel) (by decide +kernel)
theorem kwf_X6_80 : Cond.fieldLink RX6 80 "TallTales$Text" "length" "I" ∈ k_ws := k_in1 50 (by decide +kernel) (by decide +kernel)
theorem kwc_X6_25 : Cond.classLink RX6 25 RX0 ∈ k_ws := k_in1 56 (by decide +kernel) (by decide +kernel)
theorem kwx_X0 : Cond.instantiable RX0 13 ∈ k_ws := k_in1 57 (by decide +kernel) (by decide +kernel)
theorem kwm_X6_27 : Cond.methodLink RX6 27 yX0_init ∈ k_ws := k_in1 58 (by decide +kernel) (by decide +kernel)
theorem kwi_X0_init : Cond.instanceMethod yX0_init ∈ k_ws := k_in1 59 (by decide +kernel) (by decide +kernel)
theorem kwk_X0_init : Cond.code yX0_init cX0_init 1 .none ∈ k_ws := k_in1 60 (by decide +kernel) (by decide +kernel)
theorem kwm_X0_3 : Cond.methodLink RX0 3 objectInit ∈ k_ws := k_in1 61 (by decide +kernel) (by decide +kernel)
theorem kwf_X0_45 : Cond.fieldLink RX0 45 "TallTales$House" "guests" "I" ∈ k_ws := k_in1 62 (by decide +kernel) (by decide +kernel)
theorem kwf_X1_30 : Cond.fieldLink RX1 30 "TallTales$House" "guests" "I" ∈ k_ws := k_in1 63 (by decide +kernel) (by decide +kernel)
theorem kwf_X6_208 : Cond.fieldLink RX6 208 "TallTales$House" "guests" "I" ∈ k_ws := k_in1 64 (by decide +kernel) (by decide +kernel)
theorem kwf_X0_51 : Cond.fieldLink RX0 51 "TallTales$House" "tales" "I" ∈ k_ws := k_in1 65 (by decide +kernel) (by decide +kernel)
theorem kwf_X6_98 : Cond.fieldLink RX6 98 "TallTales$House" "tales" "I" ∈ k_ws := k_in1 66 (by decide +kernel) (by decide +kernel)
theorem kwf_X5_62 : Cond.fieldLink RX5 62 "TallTales$House" "tales" "I" ∈ k_ws := k_in1 67 (by decide +kernel) (by decide +kernel)
theorem kwf_X1_60 : Cond.fieldLink RX1 60 "TallTales$House" "tales" "I" ∈ k_ws := k_in1 68 (by decide +kernel) (by decide +kernel)
theorem kwf_X0_63 : Cond.fieldLink RX0 63 "TallTales$House" "memory" "I" ∈ k_ws := k_in1 69 (by decide +kernel) (by decide +kernel)
theorem kwf_X6_129 : Cond.fieldLink RX6 129 "TallTales$House" "memory" "I" ∈ k_ws := k_in1 70 (by decide +kernel) (by decide +kernel)
theorem kwf_X0_66 : Cond.fieldLink RX0 66 "TallTales$House" "nights" "I" ∈ k_ws := k_in1 71 (by decide +kernel) (by decide +kernel)
theorem kwf_X5_72 : Cond.fieldLink RX5 72 "TallTales$House" "nights" "I" ∈ k_ws := k_in1 72 (by decide +kernel) (by decide +kernel)
theorem kwf_X6_138 : Cond.fieldLink RX6 138 "TallTales$House" "nights" "I" ∈ k_ws := k_in1 73 (by decide +kernel) (by decide +kernel)
theorem kwf_X0_9 : Cond.fieldLink RX0 9 "TallTales$House" "kinds" "[I" ∈ k_ws := k_in1 74 (by decide +kernel) (by decide +kernel)
theorem kwf_X6_104 : Cond.fieldLink RX6 104 "TallTales$House" "kinds" "[I" ∈ k_ws := k_in1 75 (by decide +kernel) (by decide +kernel)
theorem kwf_X0_15 : Cond.fieldLink RX0 15 "TallTales$House" "owners" "[I" ∈ k_ws := k_in1 76 (by decide +kernel) (by decide +kernel)
theorem kwf_X5_65 : Cond.fieldLink RX5 65 "TallTales$House" "owners" "[I" ∈ k_ws := k_in1 77 (by decide +kernel) (by decide +kernel)
theorem kwf_X6_107 : Cond.fieldLink RX6 107 "TallTales$House" "owners" "[I" ∈ k_ws := k_in1 78 (by decide +kernel) (by decide +kernel)
theorem kwf_X1_63 : Cond.fieldLink RX1 63 "TallTales$House" "owners" "[I" ∈ k_ws := k_in1 79 (by decide +kernel) (by decide +kernel)
theorem kwf_X0_18 : Cond.fieldLink RX0 18 "TallTales$House" "heights" "[I" ∈ k_ws := k_in1 80 (by decide +kernel) (by decide +kernel)
theorem kwf_X6_110 : Cond.fieldLink RX6 110 "TallTales$House" "heights" "[I" ∈ k_ws := k_in1 81 (by decide +kernel) (by decide +kernel)
theorem kwf_X0_21 : Cond.fieldLink RX0 21 "TallTales$House" "told" "[I" ∈ k_ws := k_in1 82 (by decide +kernel) (by decide +kernel)
theorem kwf_X5_44 : Cond.fieldLink RX5 44 "TallTales$House" "told" "[I" ∈ k_ws := k_in1 83 (by decide +kernel) (by decide +kernel)
theorem kwf_X6_113 : Cond.fieldLink RX6 113 "TallTales$House" "told" "[I" ∈ k_ws := k_in1 84 (by decide +kernel) (by decide +kernel)
theorem kwf_X0_24 : Cond.fieldLink RX0 24 "TallTales$House" "last" "[I" ∈ k_ws := k_in1 85 (by decide +kernel) (by decide +kernel)
theorem kwf_X5_53 : Cond.fieldLink RX5 53 "TallTales$House" "last" "[I" ∈ k_ws := k_in1 86 (by decide +kernel) (by decide +kernel)
theorem kwf_X6_116 : Cond.fieldLink RX6 116 "TallTales$House" "last" "[I" ∈ k_ws := k_in1 87 (by decide +kernel) (by decide +kernel)
theorem kwf_X0_27 : Cond.fieldLink RX0 27 "TallTales$House" "chosen" "[I" ∈ k_ws := k_in1 88 (by decide +kernel) (by decide +kernel)
theorem kwf_X6_135 : Cond.fieldLink RX6 135 "TallTales$House" "chosen" "[I" ∈ k_ws := k_in1 89 (by decide +kernel) (by decide +kernel)
theorem kwf_X0_30 : Cond.fieldLink RX0 30 "TallTales$House" "nightTale" "[I" ∈ k_ws := k_in1 90 (by decide +kernel) (by decide +kernel)
theorem kwf_X6_152 : Cond.fieldLink RX6 152 "TallTales$House" "nightTale" "[I" ∈ k_ws := k_in1 91 (by decide +kernel) (by decide +kernel)
theorem kwf_X0_33 : Cond.fieldLink RX0 33 "TallTales$House" "nightPlace" "[I" ∈ k_ws := k_in1 92 (by decide +kernel) (by decide +kernel)
theorem kwf_X6_155 : Cond.fieldLink RX6 155 "TallTales$House" "nightPlace" "[I" ∈ k_ws := k_in1 93 (by decide +kernel) (by decide +kernel)
theorem kwf_X0_36 : Cond.fieldLink RX0 36 "TallTales$House" "nightTall" "[I" ∈ k_ws := k_in1 94 (by decide +kernel) (by decide +kernel)
theorem kwf_X6_158 : Cond.fieldLink RX6 158 "TallTales$House" "nightTall" "[I" ∈ k_ws := k_in1 95 (by decide +kernel) (by decide +kernel)
theorem kwc_X6_32 : Cond.classLink RX6 32 RX3 ∈ k_ws := k_in1 123 (by decide +kernel) (by decide +kernel)
theorem kwx_X3 : Cond.instantiable RX3 2 ∈ k_ws := k_in1 124 (by decide +kernel) (by decide +kernel)
theorem kwm_X6_34 : Cond.methodLink RX6 34 yX3_init ∈ k_ws := k_in1 125 (by decide +kernel) (by decide +kernel)
theorem kwi_X3_init : Cond.instanceMethod yX3_init ∈ k_ws := k_in1 126 (by decide +kernel) (by decide +kernel)
theorem kwk_X3_init : Cond.code yX3_init cX3_init 1 .none ∈ k_ws := k_in1 127 (by decide +kernel) (by decide +kernel)
theorem kwm_X3_3 : Cond.methodLink RX3 3 objectInit ∈ k_ws := k_in1 128 (by decide +kernel) (by decide +kernel)
theorem kwf_X3_9 : Cond.fieldLink RX3 9 "TallTales$Talls" "of" "[I" ∈ k_ws := k_in1 129 (by decide +kernel) (by decide +kernel)
theorem kwf_X1_73 : Cond.fieldLink RX1 73 "TallTales$Talls" "of" "[I" ∈ k_ws := k_in1 130 (by decide +kernel) (by decide +kernel)
theorem kwf_X6_169 : Cond.fieldLink RX6 169 "TallTales$Talls" "of" "[I" ∈ k_ws := k_in1 131 (by decide +kernel) (by decide +kernel)
theorem kwf_X0_88 : Cond.fieldLink RX0 88 "TallTales$Talls" "of" "[I" ∈ k_ws := k_in1 132 (by decide +kernel) (by decide +kernel)
theorem kwf_X3_15 : Cond.fieldLink RX3 15 "TallTales$Talls" "guests" "I" ∈ k_ws := k_in1 133 (by decide +kernel) (by decide +kernel)
theorem kwf_X1_70 : Cond.fieldLink RX1 70 "TallTales$Talls" "guests" "I" ∈ k_ws := k_in1 134 (by decide +kernel) (by decide +kernel)
theorem kwf_X0_85 : Cond.fieldLink RX0 85 "TallTales$Talls" "guests" "I" ∈ k_ws := k_in1 135 (by decide +kernel) (by decide +kernel)
theorem kwc_X6_39 : Cond.classLink RX6 39 RX1 ∈ k_ws := k_in1 141 (by decide +kernel) (by decide +kernel)
theorem kwx_X1 : Cond.instantiable RX1 5 ∈ k_ws := k_in1 142 (by decide +kernel) (by decide +kernel)
theorem kwm_X6_41 : Cond.methodLink RX6 41 yX1_init ∈ k_ws := k_in1 143 (by decide +kernel) (by decide +kernel)
theorem kwi_X1_init : Cond.instanceMethod yX1_init ∈ k_ws := k_in1 144 (by decide +kernel) (by decide +kernel)
theorem kwk_X1_init : Cond.code yX1_init cX1_init 3 .none ∈ k_ws := k_in1 145 (by decide +kernel) (by decide +kernel)
theorem kwm_X1_3 : Cond.methodLink RX1 3 objectInit ∈ k_ws := k_in1 146 (by decide +kernel) (by decide +kernel)
theorem kwf_X1_18 : Cond.fieldLink RX1 18 "TallTales$Rests" "house" "LTallTales$House;" ∈ k_ws := k_in1 147 (by decide +kernel) (by decide +kernel)
theorem kwf_X1_22 : Cond.fieldLink RX1 22 "TallTales$Rests" "talls" "LTallTales$Talls;" ∈ k_ws := k_in1 148 (by decide +kernel) (by decide +kernel)
theorem kwf_X1_9 : Cond.fieldLink RX1 9 "TallTales$Rests" "picks" "[I" ∈ k_ws := k_in1 149 (by decide +kernel) (by decide +kernel)
theorem kwf_X1_15 : Cond.fieldLink RX1 15 "TallTales$Rests" "first" "[I" ∈ k_ws := k_in1 150 (by decide +kernel) (by decide +kernel)
theorem kwf_X6_191 : Cond.fieldLink RX6 191 "TallTales$Rests" "first" "[I" ∈ k_ws := k_in1 151 (by decide +kernel) (by decide +kernel)
theorem kwf_X1_26 : Cond.fieldLink RX1 26 "TallTales$Rests" "count" "I" ∈ k_ws := k_in1 152 (by decide +kernel) (by decide +kernel)
theorem kwf_X6_188 : Cond.fieldLink RX6 188 "TallTales$Rests" "count" "I" ∈ k_ws := k_in1 153 (by decide +kernel) (by decide +kernel)
theorem kwc_X6_48 : Cond.classLink RX6 48 RX5 ∈ k_ws := k_in1 165 (by decide +kernel) (by decide +kernel)
theorem kwx_X5 : Cond.instantiable RX5 10 ∈ k_ws := k_in1 166 (by decide +kernel) (by decide +kernel)
theorem kwm_X6_50 : Cond.methodLink RX6 50 yX5_init ∈ k_ws := k_in1 167 (by decide +kernel) (by decide +kernel)
theorem kwi_X5_init : Cond.instanceMethod yX5_init ∈ k_ws := k_in1 168 (by decide +kernel) (by decide +kernel)
theorem kwk_X5_init : Cond.code yX5_init cX5_init 2 .none ∈ k_ws := k_in1 169 (by decide +kernel) (by decide +kernel)
theorem kwm_X5_3 : Cond.methodLink RX5 3 objectInit ∈ k_ws := k_in1 170 (by decide +kernel) (by decide +kernel)
theorem kwf_X5_30 : Cond.fieldLink RX5 30 "TallTales$Winter" "house" "LTallTales$House;" ∈ k_ws := k_in1 171 (by decide +kernel) (by decide +kernel)
theorem kwf_X5_9 : Cond.fieldLink RX5 9 "TallTales$Winter" "numbers" "[I" ∈ k_ws := k_in1 172 (by decide +kernel) (by decide +kernel)
theorem kwf_X6_194 : Cond.fieldLink RX6 194 "TallTales$Winter" "numbers" "[I" ∈ k_ws := k_in1 173 (by decide +kernel) (by decide +kernel)
theorem kwf_X5_15 : Cond.fieldLink RX5 15 "TallTales$Winter" "ahead" "[I" ∈ k_ws := k_in1 174 (by decide +kernel) (by decide +kernel)
theorem kwf_X5_18 : Cond.fieldLink RX5 18 "TallTales$Winter" "told" "[I" ∈ k_ws := k_in1 175 (by decide +kernel) (by decide +kernel)
theorem kwf_X5_21 : Cond.fieldLink RX5 21 "TallTales$Winter" "last" "[I" ∈ k_ws := k_in1 176 (by decide +kernel) (by decide +kernel)
theorem kwf_X5_24 : Cond.fieldLink RX5 24 "TallTales$Winter" "row" "[I" ∈ k_ws := k_in1 177 (by decide +kernel) (by decide +kernel)
theorem kwf_X5_27 : Cond.fieldLink RX5 27 "TallTales$Winter" "first" "[I" ∈ k_ws := k_in1 178 (by decide +kernel) (by decide +kernel)
theorem kwf_X6_203 : Cond.fieldLink RX6 203 "TallTales$Winter" "first" "[I" ∈ k_ws := k_in1 179 (by decide +kernel) (by decide +kernel)
theorem kwf_X5_34 : Cond.fieldLink RX5 34 "TallTales$Winter" "guest" "I" ∈ k_ws := k_in1 180 (by decide +kernel) (by decide +kernel)
theorem kwf_X5_38 : Cond.fieldLink RX5 38 "TallTales$Winter" "length" "I" ∈ k_ws := k_in1 181 (by decide +kernel) (by decide +kernel)
theorem kwf_X5_41 : Cond.fieldLink RX5 41 "TallTales$Winter" "most" "I" ∈ k_ws := k_in1 182 (by decide +kernel) (by decide +kernel)
theorem kwf_X6_200 : Cond.fieldLink RX6 200 "TallTales$Winter" "most" "I" ∈ k_ws := k_in1 183 (by decide +kernel) (by decide +kernel)
theorem kwf_X6_12 : Cond.fieldLink RX6 12 "TallTales" "sheets" "LTallTales$Sheets;" ∈ k_ws := k_in1 205 (by decide +kernel) (by decide +kernel)
theorem kwf_X6_21 : Cond.fieldLink RX6 21 "TallTales" "text" "LTallTales$Text;" ∈ k_ws := k_in1 206 (by decide +kernel) (by decide +kernel)
theorem kwf_X6_28 : Cond.fieldLink RX6 28 "TallTales" "house" "LTallTales$House;" ∈ k_ws := k_in1 207 (by decide +kernel) (by decide +kernel)
theorem kwf_X6_35 : Cond.fieldLink RX6 35 "TallTales" "talls" "LTallTales$Talls;" ∈ k_ws := k_in1 208 (by decide +kernel) (by decide +kernel)
theorem kwf_X6_44 : Cond.fieldLink RX6 44 "TallTales" "rests" "LTallTales$Rests;" ∈ k_ws := k_in1 209 (by decide +kernel) (by decide +kernel)
theorem kwf_X6_53 : Cond.fieldLink RX6 53 "TallTales" "winter" "LTallTales$Winter;" ∈ k_ws := k_in1 210 (by decide +kernel) (by decide +kernel)
theorem kwf_X6_57 : Cond.fieldLink RX6 57 "TallTales" "lying" "[I" ∈ k_ws := k_in1 211 (by decide +kernel) (by decide +kernel)
theorem kwf_X6_259 : Cond.fieldLink RX6 259 "TallTales" "trace" "I" ∈ k_ws := k_in1 212 (by decide +kernel) (by decide +kernel)
theorem kwf_X6_61 : Cond.fieldLink RX6 61 "TallTales" "fault" "I" ∈ k_ws := k_in1 213 (by decide +kernel) (by decide +kernel)
theorem kwm_L_13 : Cond.methodLink RL 13 yX6_inn ∈ k_ws := k_in1 233 (by decide +kernel) (by decide +kernel)
theorem kwi_X6_inn : Cond.instanceMethod yX6_inn ∈ k_ws := k_in1 234 (by decide +kernel) (by decide +kernel)
theorem kwv_X6_inn : Cond.selects RX6 yX6_inn yX6_inn ∈ k_ws := k_in1 235 (by decide +kernel) (by decide +kernel)
theorem kwk_X6_inn : Cond.code yX6_inn cX6_inn 7 (.some .int) ∈ k_ws := k_in1 236 (by decide +kernel) (by decide +kernel)
theorem kwm_X6_65 : Cond.methodLink RX6 65 yX6_isSheet ∈ k_ws := k_in1 237 (by decide +kernel) (by decide +kernel)
theorem kws_X6_isSheet : Cond.static yX6_isSheet ∈ k_ws := k_in1 238 (by decide +kernel) (by decide +kernel)
theorem kwk_X6_isSheet : Cond.code yX6_isSheet cX6_isSheet 1 (.some .boolean) ∈ k_ws := k_in1 239 (by decide +kernel) (by decide +kernel)
theorem kwm_X6_69 : Cond.methodLink RX6 69 yX6_isSort ∈ k_ws := k_in2 0 (by decide +kernel) (by decide +kernel)
theorem kws_X6_isSort : Cond.static yX6_isSort ∈ k_ws := k_in2 1 (by decide +kernel) (by decide +kernel)
theorem kwk_X6_isSort : Cond.code yX6_isSort cX6_isSort 1 (.some .boolean) ∈ k_ws := k_in2 2 (by decide +kernel) (by decide +kernel)
theorem kwm_X6_72 : Cond.methodLink RX6 72 yX2_faultOf ∈ k_ws := k_in2 3 (by decide +kernel) (by decide +kernel)
theorem kwi_X2_faultOf : Cond.instanceMethod yX2_faultOf ∈ k_ws := k_in2 4 (by decide +kernel) (by decide +kernel)
theorem kwv_X2_faultOf : Cond.selects RX2 yX2_faultOf yX2_faultOf ∈ k_ws := k_in2 5 (by decide +kernel) (by decide +kernel)
theorem kwk_X2_faultOf : Cond.code yX2_faultOf cX2_faultOf 5 (.some .int) ∈ k_ws := k_in2 6 (by decide +kernel) (by decide +kernel)
theorem kwm_X2_27 : Cond.methodLink RX2 27 yX2_hasRow ∈ k_ws := k_in2 7 (by decide +kernel) (by decide +kernel)
theorem kwi_X2_hasRow : Cond.instanceMethod yX2_hasRow ∈ k_ws := k_in2 8 (by decide +kernel) (by decide +kernel)
theorem kwv_X2_hasRow : Cond.selects RX2 yX2_hasRow yX2_hasRow ∈ k_ws := k_in2 9 (by decide +kernel) (by decide +kernel)
theorem kwk_X2_hasRow : Cond.code yX2_hasRow cX2_hasRow 2 (.some .boolean) ∈ k_ws := k_in2 10 (by decide +kernel) (by decide +kernel)
theorem kwm_X2_31 : Cond.methodLink RX2 31 yX2_hasCells ∈ k_ws := k_in2 11 (by decide +kernel) (by decide +kernel)
theorem kwi_X2_hasCells : Cond.instanceMethod yX2_hasCells ∈ k_ws := k_in2 12 (by decide +kernel) (by decide +kernel)
theorem kwv_X2_hasCells : Cond.selects RX2 yX2_hasCells yX2_hasCells ∈ k_ws := k_in2 13 (by decide +kernel) (by decide +kernel)
theorem kwk_X2_hasCells : Cond.code yX2_hasCells cX2_hasCells 4 (.some .boolean) ∈ k_ws := k_in2 14 (by decide +kernel) (by decide +kernel)
theorem kwm_X6_76 : Cond.methodLink RX6 76 yX6_faulty ∈ k_ws := k_in2 15 (by decide +kernel) (by decide +kernel)
theorem kwi_X6_faulty : Cond.instanceMethod yX6_faulty ∈ k_ws := k_in2 17 (by decide +kernel) (by decide +kernel)
theorem kwk_X6_faulty : Cond.code yX6_faulty cX6_faulty 2 (.some .int) ∈ k_ws := k_in2 18 (by decide +kernel) (by decide +kernel)
theorem kwm_X6_86 : Cond.methodLink RX6 86 yX2_take ∈ k_ws := k_in2 19 (by decide +kernel) (by decide +kernel)
theorem kwi_X2_take : Cond.instanceMethod yX2_take ∈ k_ws := k_in2 20 (by decide +kernel) (by decide +kernel)
theorem kwv_X2_take : Cond.selects RX2 yX2_take yX2_take ∈ k_ws := k_in2 21 (by decide +kernel) (by decide +kernel)
theorem kwk_X2_take : Cond.code yX2_take cX2_take 5 .none ∈ k_ws := k_in2 22 (by decide +kernel) (by decide +kernel)
theorem kwm_X2_38 : Cond.methodLink RX2 38 arraycopyName ∈ k_ws := k_in2 23 (by decide +kernel) (by decide +kernel)
theorem kws_arraycopy : Cond.static arraycopyName ∈ k_ws := k_in2 24 (by decide +kernel) (by decide +kernel)
theorem kwt_arraycopy : Cond.native arraycopyName ∈ k_ws := k_in2 25 (by decide +kernel) (by decide +kernel)
theorem kwm_X6_90 : Cond.methodLink RX6 90 yX4_firstFault ∈ k_ws := k_in2 26 (by decide +kernel) (by decide +kernel)
theorem kwi_X4_firstFault : Cond.instanceMethod yX4_firstFault ∈ k_ws := k_in2 27 (by decide +kernel) (by decide +kernel)
theorem kwv_X4_firstFault : Cond.selects RX4 yX4_firstFault yX4_firstFault ∈ k_ws := k_in2 28 (by decide +kernel) (by decide +kernel)
theorem kwk_X4_firstFault : Cond.code yX4_firstFault cX4_firstFault 2 (.some .int) ∈ k_ws := k_in2 29 (by decide +kernel) (by decide +kernel)
theorem kwm_X4_19 : Cond.methodLink RX4 19 yX4_goesOn ∈ k_ws := k_in2 30 (by decide +kernel) (by decide +kernel)
theorem kwi_X4_goesOn : Cond.instanceMethod yX4_goesOn ∈ k_ws := k_in2 31 (by decide +kernel) (by decide +kernel)
theorem kwv_X4_goesOn : Cond.selects RX4 yX4_goesOn yX4_goesOn ∈ k_ws := k_in2 32 (by decide +kernel) (by decide +kernel)
theorem kwk_X4_goesOn : Cond.code yX4_goesOn cX4_goesOn 3 (.some .boolean) ∈ k_ws := k_in2 33 (by decide +kernel) (by decide +kernel)
theorem kwm_X4_23 : Cond.methodLink RX4 23 yX4_isDigit ∈ k_ws := k_in2 34 (by decide +kernel) (by decide +kernel)
theorem kws_X4_isDigit : Cond.static yX4_isDigit ∈ k_ws := k_in2 35 (by decide +kernel) (by decide +kernel)
theorem kwk_X4_isDigit : Cond.code yX4_isDigit cX4_isDigit 1 (.some .boolean) ∈ k_ws := k_in2 36 (by decide +kernel) (by decide +kernel)
theorem kwm_X6_94 : Cond.methodLink RX6 94 yX0_open ∈ k_ws := k_in2 37 (by decide +kernel) (by decide +kernel)
theorem kwi_X0_open : Cond.instanceMethod yX0_open ∈ k_ws := k_in2 38 (by decide +kernel) (by decide +kernel)
theorem kwv_X0_open : Cond.selects RX0 yX0_open yX0_open ∈ k_ws := k_in2 39 (by decide +kernel) (by decide +kernel)
theorem kwk_X0_open : Cond.code yX0_open cX0_open 3 .none ∈ k_ws := k_in2 40 (by decide +kernel) (by decide +kernel)
theorem kwm_X0_39 : Cond.methodLink RX0 39 yX4_guests ∈ k_ws := k_in2 41 (by decide +kernel) (by decide +kernel)
theorem kwi_X4_guests : Cond.instanceMethod yX4_guests ∈ k_ws := k_in2 42 (by decide +kernel) (by decide +kernel)
theorem kwv_X4_guests : Cond.selects RX4 yX4_guests yX4_guests ∈ k_ws := k_in2 43 (by decide +kernel) (by decide +kernel)
theorem kwk_X4_guests : Cond.code yX4_guests cX4_guests 1 (.some .int) ∈ k_ws := k_in2 44 (by decide +kernel) (by decide +kernel)
theorem kwm_X0_48 : Cond.methodLink RX0 48 yX4_tales ∈ k_ws := k_in2 45 (by decide +kernel) (by decide +kernel)
theorem kwi_X4_tales : Cond.instanceMethod yX4_tales ∈ k_ws := k_in2 46 (by decide +kernel) (by decide +kernel)
theorem kwv_X4_tales : Cond.selects RX4 yX4_tales yX4_tales ∈ k_ws := k_in2 47 (by decide +kernel) (by decide +kernel)
theorem kwk_X4_tales : Cond.code yX4_tales cX4_tales 1 (.some .int) ∈ k_ws := k_in2 48 (by decide +kernel) (by decide +kernel)
theorem kwm_X0_53 : Cond.methodLink RX0 53 yX4_kindOf ∈ k_ws := k_in2 49 (by decide +kernel) (by decide +kernel)
theorem kwi_X4_kindOf : Cond.instanceMethod yX4_kindOf ∈ k_ws := k_in2 50 (by decide +kernel) (by decide +kernel)
theorem kwv_X4_kindOf : Cond.selects RX4 yX4_kindOf yX4_kindOf ∈ k_ws := k_in2 51 (by decide +kernel) (by decide +kernel)
theorem kwk_X4_kindOf : Cond.code yX4_kindOf cX4_kindOf 3 (.some .int) ∈ k_ws := k_in2 52 (by decide +kernel) (by decide +kernel)
theorem kwm_X0_57 : Cond.methodLink RX0 57 yX4_ownerOf ∈ k_ws := k_in2 53 (by decide +kernel) (by decide +kernel)
theorem kwi_X4_ownerOf : Cond.instanceMethod yX4_ownerOf ∈ k_ws := k_in2 54 (by decide +kernel) (by decide +kernel)
theorem kwv_X4_ownerOf : Cond.selects RX4 yX4_ownerOf yX4_ownerOf ∈ k_ws := k_in2 55 (by decide +kernel) (by decide +kernel)
theorem kwk_X4_ownerOf : Cond.code yX4_ownerOf cX4_ownerOf 2 (.some .int) ∈ k_ws := k_in2 56 (by decide +kernel) (by decide +kernel)
theorem kwm_X0_60 : Cond.methodLink RX0 60 yX4_heightOf ∈ k_ws := k_in2 57 (by decide +kernel) (by decide +kernel)
theorem kwi_X4_heightOf : Cond.instanceMethod yX4_heightOf ∈ k_ws := k_in2 58 (by decide +kernel) (by decide +kernel)
theorem kwv_X4_heightOf : Cond.selects RX4 yX4_heightOf yX4_heightOf ∈ k_ws := k_in2 59 (by decide +kernel) (by decide +kernel)
theorem kwk_X4_heightOf : Cond.code yX4_heightOf cX4_heightOf 3 (.some .int) ∈ k_ws := k_in2 60 (by decide +kernel) (by decide +kernel)
theorem kwm_X0_69 : Cond.methodLink RX0 69 yX0_goBack ∈ k_ws := k_in2 61 (by decide +kernel) (by decide +kernel)
theorem kwi_X0_goBack : Cond.instanceMethod yX0_goBack ∈ k_ws := k_in2 62 (by decide +kernel) (by decide +kernel)
theorem kwv_X0_goBack : Cond.selects RX0 yX0_goBack yX0_goBack ∈ k_ws := k_in2 63 (by decide +kernel) (by decide +kernel)
theorem kwk_X0_goBack : Cond.code yX0_goBack cX0_goBack 4 .none ∈ k_ws := k_in2 64 (by decide +kernel) (by decide +kernel)
theorem kwm_X0_104 : Cond.methodLink RX0 104 yJ7_fill_53178 ∈ k_ws := k_in2 65 (by decide +kernel) (by decide +kernel)
theorem kwm_X0_100 : Cond.methodLink RX0 100 yX0_keepTold ∈ k_ws := k_in2 66 (by decide +kernel) (by decide +kernel)
theorem kwi_X0_keepTold : Cond.instanceMethod yX0_keepTold ∈ k_ws := k_in2 67 (by decide +kernel) (by decide +kernel)
theorem kwv_X0_keepTold : Cond.selects RX0 yX0_keepTold yX0_keepTold ∈ k_ws := k_in2 68 (by decide +kernel) (by decide +kernel)
theorem kwk_X0_keepTold : Cond.code yX0_keepTold cX0_keepTold 3 .none ∈ k_ws := k_in2 69 (by decide +kernel) (by decide +kernel)
theorem kwm_X0_91 : Cond.methodLink RX0 91 yX0_hasTale ∈ k_ws := k_in2 70 (by decide +kernel) (by decide +kernel)
theorem kwi_X0_hasTale : Cond.instanceMethod yX0_hasTale ∈ k_ws := k_in2 71 (by decide +kernel) (by decide +kernel)
theorem kwv_X0_hasTale : Cond.selects RX0 yX0_hasTale yX0_hasTale ∈ k_ws := k_in2 72 (by decide +kernel) (by decide +kernel)
theorem kwk_X0_hasTale : Cond.code yX0_hasTale cX0_hasTale 2 (.some .boolean) ∈ k_ws := k_in2 73 (by decide +kernel) (by decide +kernel)
theorem kwm_L_18 : Cond.methodLink RL 18 yX6_ofTale ∈ k_ws := k_in2 74 (by decide +kernel) (by decide +kernel)
theorem kwi_X6_ofTale : Cond.instanceMethod yX6_ofTale ∈ k_ws := k_in2 75 (by decide +kernel) (by decide +kernel)
theorem kwv_X6_ofTale : Cond.selects RX6 yX6_ofTale yX6_ofTale ∈ k_ws := k_in2 76 (by decide +kernel) (by decide +kernel)
theorem kwk_X6_ofTale : Cond.code yX6_ofTale cX6_ofTale 3 (.some .int) ∈ k_ws := k_in2 77 (by decide +kernel) (by decide +kernel)
theorem kwm_X6_101 : Cond.methodLink RX6 101 yX0_hasTale ∈ k_ws := k_in2 78 (by decide +kernel) (by decide +kernel)
theorem kwm_X6_119 : Cond.methodLink RX6 119 yX0_isTellable ∈ k_ws := k_in2 79 (by decide +kernel) (by decide +kernel)
theorem kwi_X0_isTellable : Cond.instanceMethod yX0_isTellable ∈ k_ws := k_in2 80 (by decide +kernel) (by decide +kernel)
theorem kwv_X0_isTellable : Cond.selects RX0 yX0_isTellable yX0_isTellable ∈ k_ws := k_in2 81 (by decide +kernel) (by decide +kernel)
theorem kwk_X0_isTellable : Cond.code yX0_isTellable cX0_isTellable 2 (.some .boolean) ∈ k_ws := k_in2 82 (by decide +kernel) (by decide +kernel)
theorem kwm_X0_73 : Cond.methodLink RX0 73 yX0_mayBeTold ∈ k_ws := k_in2 83 (by decide +kernel) (by decide +kernel)
theorem kwi_X0_mayBeTold : Cond.instanceMethod yX0_mayBeTold ∈ k_ws := k_in2 84 (by decide +kernel) (by decide +kernel)
theorem kwv_X0_mayBeTold : Cond.selects RX0 yX0_mayBeTold yX0_mayBeTold ∈ k_ws := k_in2 85 (by decide +kernel) (by decide +kernel)
theorem kwk_X0_mayBeTold : Cond.code yX0_mayBeTold cX0_mayBeTold 5 (.some .boolean) ∈ k_ws := k_in2 86 (by decide +kernel) (by decide +kernel)
theorem kwm_X6_122 : Cond.methodLink RX6 122 yX0_tallOf ∈ k_ws := k_in2 87 (by decide +kernel) (by decide +kernel)
theorem kwi_X0_tallOf : Cond.instanceMethod yX0_tallOf ∈ k_ws := k_in2 88 (by decide +kernel) (by decide +kernel)
theorem kwv_X0_tallOf : Cond.selects RX0 yX0_tallOf yX0_tallOf ∈ k_ws := k_in2 89 (by decide +kernel) (by decide +kernel)
theorem kwk_X0_tallOf : Cond.code yX0_tallOf cX0_tallOf 2 (.some .int) ∈ k_ws := k_in2 90 (by decide +kernel) (by decide +kernel)
theorem kwm_X0_77 : Cond.methodLink RX0 77 yX0_tallWhenTold ∈ k_ws := k_in2 91 (by decide +kernel) (by decide +kernel)
theorem kwi_X0_tallWhenTold : Cond.instanceMethod yX0_tallWhenTold ∈ k_ws := k_in2 92 (by decide +kernel) (by decide +kernel)
theorem kwv_X0_tallWhenTold : Cond.selects RX0 yX0_tallWhenTold yX0_tallWhenTold ∈ k_ws := k_in2 93 (by decide +kernel) (by decide +kernel)
theorem kwk_X0_tallWhenTold : Cond.code yX0_tallWhenTold cX0_tallWhenTold 3 (.some .int) ∈ k_ws := k_in2 94 (by decide +kernel) (by decide +kernel)
theorem kwm_L_23 : Cond.methodLink RL 23 yX6_memory ∈ k_ws := k_in2 95 (by decide +kernel) (by decide +kernel)
theorem kwi_X6_memory : Cond.instanceMethod yX6_memory ∈ k_ws := k_in2 96 (by decide +kernel) (by decide +kernel)
theorem kwv_X6_memory : Cond.selects RX6 yX6_memory yX6_memory ∈ k_ws := k_in2 97 (by decide +kernel) (by decide +kernel)
theorem kwk_X6_memory : Cond.code yX6_memory cX6_memory 3 (.some .int) ∈ k_ws := k_in2 98 (by decide +kernel) (by decide +kernel)
theorem kwm_X6_125 : Cond.methodLink RX6 125 yX0_isOpen ∈ k_ws := k_in2 99 (by decide +kernel) (by decide +kernel)
theorem kwi_X0_isOpen : Cond.instanceMethod yX0_isOpen ∈ k_ws := k_in2 100 (by decide +kernel) (by decide +kernel)
theorem kwv_X0_isOpen : Cond.selects RX0 yX0_isOpen yX0_isOpen ∈ k_ws := k_in2 101 (by decide +kernel) (by decide +kernel)
theorem kwk_X0_isOpen : Cond.code yX0_isOpen cX0_isOpen 1 (.some .boolean) ∈ k_ws := k_in2 102 (by decide +kernel) (by decide +kernel)
theorem kwm_L_28 : Cond.methodLink RL 28 yX6_choose ∈ k_ws := k_in2 103 (by decide +kernel) (by decide +kernel)
theorem kwi_X6_choose : Cond.instanceMethod yX6_choose ∈ k_ws := k_in2 104 (by decide +kernel) (by decide +kernel)
theorem kwv_X6_choose : Cond.selects RX6 yX6_choose yX6_choose ∈ k_ws := k_in2 105 (by decide +kernel) (by decide +kernel)
theorem kwk_X6_choose : Cond.code yX6_choose cX6_choose 4 (.some .int) ∈ k_ws := k_in2 106 (by decide +kernel) (by decide +kernel)
theorem kwm_X6_132 : Cond.methodLink RX6 132 yX0_hasGuest ∈ k_ws := k_in2 107 (by decide +kernel) (by decide +kernel)
theorem kwi_X0_hasGuest : Cond.instanceMethod yX0_hasGuest ∈ k_ws := k_in2 108 (by decide +kernel) (by decide +kernel)
theorem kwv_X0_hasGuest : Cond.selects RX0 yX0_hasGuest yX0_hasGuest ∈ k_ws := k_in2 109 (by decide +kernel) (by decide +kernel)
theorem kwk_X0_hasGuest : Cond.code yX0_hasGuest cX0_hasGuest 2 (.some .boolean) ∈ k_ws := k_in2 110 (by decide +kernel) (by decide +kernel)
theorem kwm_L_32 : Cond.methodLink RL 32 yX6_night ∈ k_ws := k_in2 111 (by decide +kernel) (by decide +kernel)
theorem kwi_X6_night : Cond.instanceMethod yX6_night ∈ k_ws := k_in2 112 (by decide +kernel) (by decide +kernel)
theorem kwv_X6_night : Cond.selects RX6 yX6_night yX6_night ∈ k_ws := k_in2 113 (by decide +kernel) (by decide +kernel)
theorem kwk_X6_night : Cond.code yX6_night cX6_night 1 (.some .int) ∈ k_ws := k_in2 114 (by decide +kernel) (by decide +kernel)
theorem kwm_X6_141 : Cond.methodLink RX6 141 yX0_tallsAsChosen ∈ k_ws := k_in2 115 (by decide +kernel) (by decide +kernel)
theorem kwi_X0_tallsAsChosen : Cond.instanceMethod yX0_tallsAsChosen ∈ k_ws := k_in2 116 (by decide +kernel) (by decide +kernel)
theorem kwv_X0_tallsAsChosen : Cond.selects RX0 yX0_tallsAsChosen yX0_tallsAsChosen ∈ k_ws := k_in2 117 (by decide +kernel) (by decide +kernel)
theorem kwk_X0_tallsAsChosen : Cond.code yX0_tallsAsChosen cX0_tallsAsChosen 3 .none ∈ k_ws := k_in2 118 (by decide +kernel) (by decide +kernel)
theorem kwm_X0_94 : Cond.methodLink RX0 94 yX0_tallOf ∈ k_ws := k_in2 119 (by decide +kernel) (by decide +kernel)
theorem kwm_X6_145 : Cond.methodLink RX6 145 yX0_goBy ∈ k_ws := k_in2 120 (by decide +kernel) (by decide +kernel)
theorem kwi_X0_goBy : Cond.instanceMethod yX0_goBy ∈ k_ws := k_in2 121 (by decide +kernel) (by decide +kernel)
theorem kwv_X0_goBy : Cond.selects RX0 yX0_goBy yX0_goBy ∈ k_ws := k_in2 122 (by decide +kernel) (by decide +kernel)
theorem kwk_X0_goBy : Cond.code yX0_goBy cX0_goBy 5 (.some .int) ∈ k_ws := k_in2 123 (by decide +kernel) (by decide +kernel)
theorem kwm_X0_97 : Cond.methodLink RX0 97 yX3_placeOf ∈ k_ws := k_in2 124 (by decide +kernel) (by decide +kernel)
theorem kwi_X3_placeOf : Cond.instanceMethod yX3_placeOf ∈ k_ws := k_in2 125 (by decide +kernel) (by decide +kernel)
theorem kwv_X3_placeOf : Cond.selects RX3 yX3_placeOf yX3_placeOf ∈ k_ws := k_in2 126 (by decide +kernel) (by decide +kernel)
theorem kwk_X3_placeOf : Cond.code yX3_placeOf cX3_placeOf 5 (.some .int) ∈ k_ws := k_in2 127 (by decide +kernel) (by decide +kernel)
theorem kwm_L_37 : Cond.methodLink RL 37 yX6_ofNight ∈ k_ws := k_in2 128 (by decide +kernel) (by decide +kernel)
theorem kwi_X6_ofNight : Cond.instanceMethod yX6_ofNight ∈ k_ws := k_in2 129 (by decide +kernel) (by decide +kernel)
theorem kwv_X6_ofNight : Cond.selects RX6 yX6_ofNight yX6_ofNight ∈ k_ws := k_in2 130 (by decide +kernel) (by decide +kernel)
theorem kwk_X6_ofNight : Cond.code yX6_ofNight cX6_ofNight 5 (.some .int) ∈ k_ws := k_in2 131 (by decide +kernel) (by decide +kernel)
theorem kwm_X6_149 : Cond.methodLink RX6 149 yX0_hasNight ∈ k_ws := k_in2 132 (by decide +kernel) (by decide +kernel)
theorem kwi_X0_hasNight : Cond.instanceMethod yX0_hasNight ∈ k_ws := k_in2 133 (by decide +kernel) (by decide +kernel)
theorem kwv_X0_hasNight : Cond.selects RX0 yX0_hasNight yX0_hasNight ∈ k_ws := k_in2 134 (by decide +kernel) (by decide +kernel)
theorem kwk_X0_hasNight : Cond.code yX0_hasNight cX0_hasNight 2 (.some .boolean) ∈ k_ws := k_in2 135 (by decide +kernel) (by decide +kernel)
theorem kwm_L_42 : Cond.methodLink RL 42 yX6_undo ∈ k_ws := k_in2 136 (by decide +kernel) (by decide +kernel)
theorem kwi_X6_undo : Cond.instanceMethod yX6_undo ∈ k_ws := k_in2 137 (by decide +kernel) (by decide +kernel)
theorem kwv_X6_undo : Cond.selects RX6 yX6_undo yX6_undo ∈ k_ws := k_in2 138 (by decide +kernel) (by decide +kernel)
theorem kwk_X6_undo : Cond.code yX6_undo cX6_undo 2 (.some .int) ∈ k_ws := k_in2 139 (by decide +kernel) (by decide +kernel)
theorem kwm_X6_161 : Cond.methodLink RX6 161 yX0_goBack ∈ k_ws := k_in2 140 (by decide +kernel) (by decide +kernel)
theorem kwm_L_46 : Cond.methodLink RL 46 yX6_lay ∈ k_ws := k_in2 141 (by decide +kernel) (by decide +kernel)
theorem kwi_X6_lay : Cond.instanceMethod yX6_lay ∈ k_ws := k_in2 142 (by decide +kernel) (by decide +kernel)
theorem kwv_X6_lay : Cond.selects RX6 yX6_lay yX6_lay ∈ k_ws := k_in2 143 (by decide +kernel) (by decide +kernel)
theorem kwk_X6_lay : Cond.code yX6_lay cX6_lay 3 (.some .int) ∈ k_ws := k_in2 144 (by decide +kernel) (by decide +kernel)
theorem kwm_X6_165 : Cond.methodLink RX6 165 yX0_nightsAt ∈ k_ws := k_in2 145 (by decide +kernel) (by decide +kernel)
theorem kwi_X0_nightsAt : Cond.instanceMethod yX0_nightsAt ∈ k_ws := k_in2 146 (by decide +kernel) (by decide +kernel)
theorem kwv_X0_nightsAt : Cond.selects RX0 yX0_nightsAt yX0_nightsAt ∈ k_ws := k_in2 147 (by decide +kernel) (by decide +kernel)
theorem kwk_X0_nightsAt : Cond.code yX0_nightsAt cX0_nightsAt 5 (.some .int) ∈ k_ws := k_in2 148 (by decide +kernel) (by decide +kernel)
theorem kwm_L_50 : Cond.methodLink RL 50 yX6_tonight ∈ k_ws := k_in2 149 (by decide +kernel) (by decide +kernel)
theorem kwi_X6_tonight : Cond.instanceMethod yX6_tonight ∈ k_ws := k_in2 150 (by decide +kernel) (by decide +kernel)
theorem kwv_X6_tonight : Cond.selects RX6 yX6_tonight yX6_tonight ∈ k_ws := k_in2 151 (by decide +kernel) (by decide +kernel)
theorem kwk_X6_tonight : Cond.code yX6_tonight cX6_tonight 3 (.some .int) ∈ k_ws := k_in2 152 (by decide +kernel) (by decide +kernel)
theorem kwm_X6_172 : Cond.methodLink RX6 172 yX3_placeOf ∈ k_ws := k_in2 153 (by decide +kernel) (by decide +kernel)
theorem kwm_X6_175 : Cond.methodLink RX6 175 yX3_needOf ∈ k_ws := k_in2 154 (by decide +kernel) (by decide +kernel)
theorem kwi_X3_needOf : Cond.instanceMethod yX3_needOf ∈ k_ws := k_in2 155 (by decide +kernel) (by decide +kernel)
theorem kwv_X3_needOf : Cond.selects RX3 yX3_needOf yX3_needOf ∈ k_ws := k_in2 156 (by decide +kernel) (by decide +kernel)
theorem kwk_X3_needOf : Cond.code yX3_needOf cX3_needOf 4 (.some .int) ∈ k_ws := k_in2 157 (by decide +kernel) (by decide +kernel)
theorem kwm_X3_19 : Cond.methodLink RX3 19 Lib.Math.max.name ∈ k_ws := k_in2 158 (by decide +kernel) (by decide +kernel)
theorem kws_max : Cond.static Lib.Math.max.name ∈ k_ws := k_in2 159 (by decide +kernel) (by decide +kernel)
theorem kwk_max : Cond.code Lib.Math.max.name Lib.Math.max.code 2 (some .int) ∈ k_ws := k_in2 160 (by decide +kernel) (by decide +kernel)
theorem kwm_L_54 : Cond.methodLink RL 54 yX6_answer ∈ k_ws := k_in2 161 (by decide +kernel) (by decide +kernel)
theorem kwi_X6_answer : Cond.instanceMethod yX6_answer ∈ k_ws := k_in2 162 (by decide +kernel) (by decide +kernel)
theorem kwv_X6_answer : Cond.selects RX6 yX6_answer yX6_answer ∈ k_ws := k_in2 163 (by decide +kernel) (by decide +kernel)
theorem kwk_X6_answer : Cond.code yX6_answer cX6_answer 3 (.some .int) ∈ k_ws := k_in2 164 (by decide +kernel) (by decide +kernel)
theorem kwm_X6_178 : Cond.methodLink RX6 178 yX6_bestReply ∈ k_ws := k_in2 165 (by decide +kernel) (by decide +kernel)
theorem kwi_X6_bestReply : Cond.instanceMethod yX6_bestReply ∈ k_ws := k_in2 167 (by decide +kernel) (by decide +kernel)
theorem kwk_X6_bestReply : Cond.code yX6_bestReply cX6_bestReply 6 (.some .int) ∈ k_ws := k_in2 168 (by decide +kernel) (by decide +kernel)
theorem kwm_X6_262 : Cond.methodLink RX6 262 yX0_isOffered ∈ k_ws := k_in2 169 (by decide +kernel) (by decide +kernel)
theorem kwi_X0_isOffered : Cond.instanceMethod yX0_isOffered ∈ k_ws := k_in2 170 (by decide +kernel) (by decide +kernel)
theorem kwv_X0_isOffered : Cond.selects RX0 yX0_isOffered yX0_isOffered ∈ k_ws := k_in2 171 (by decide +kernel) (by decide +kernel)
theorem kwk_X0_isOffered : Cond.code yX0_isOffered cX0_isOffered 5 (.some .boolean) ∈ k_ws := k_in2 172 (by decide +kernel) (by decide +kernel)
theorem kwm_X0_81 : Cond.methodLink RX0 81 yX0_isTellable ∈ k_ws := k_in2 173 (by decide +kernel) (by decide +kernel)
theorem kwm_X6_266 : Cond.methodLink RX6 266 yX6_isBetterReply ∈ k_ws := k_in2 174 (by decide +kernel) (by decide +kernel)
theorem kwi_X6_isBetterReply : Cond.instanceMethod yX6_isBetterReply ∈ k_ws := k_in2 176 (by decide +kernel) (by decide +kernel)
theorem kwk_X6_isBetterReply : Cond.code yX6_isBetterReply cX6_isBetterReply 8 (.some .boolean) ∈ k_ws := k_in2 177 (by decide +kernel) (by decide +kernel)
theorem kwm_L_58 : Cond.methodLink RL 58 yX6_borrowed ∈ k_ws := k_in2 178 (by decide +kernel) (by decide +kernel)
theorem kwi_X6_borrowed : Cond.instanceMethod yX6_borrowed ∈ k_ws := k_in2 179 (by decide +kernel) (by decide +kernel)
theorem kwv_X6_borrowed : Cond.selects RX6 yX6_borrowed yX6_borrowed ∈ k_ws := k_in2 180 (by decide +kernel) (by decide +kernel)
theorem kwk_X6_borrowed : Cond.code yX6_borrowed cX6_borrowed 3 (.some .int) ∈ k_ws := k_in2 181 (by decide +kernel) (by decide +kernel)
theorem kwm_L_62 : Cond.methodLink RL 62 yX6_bishop ∈ k_ws := k_in2 182 (by decide +kernel) (by decide +kernel)
theorem kwi_X6_bishop : Cond.instanceMethod yX6_bishop ∈ k_ws := k_in2 183 (by decide +kernel) (by decide +kernel)
theorem kwv_X6_bishop : Cond.selects RX6 yX6_bishop yX6_bishop ∈ k_ws := k_in2 184 (by decide +kernel) (by decide +kernel)
theorem kwk_X6_bishop : Cond.code yX6_bishop cX6_bishop 2 (.some .int) ∈ k_ws := k_in2 185 (by decide +kernel) (by decide +kernel)
theorem kwm_X6_182 : Cond.methodLink RX6 182 yX3_noLessThan ∈ k_ws := k_in2 186 (by decide +kernel) (by decide +kernel)
theorem kwi_X3_noLessThan : Cond.instanceMethod yX3_noLessThan ∈ k_ws := k_in2 187 (by decide +kernel) (by decide +kernel)
theorem kwv_X3_noLessThan : Cond.selects RX3 yX3_noLessThan yX3_noLessThan ∈ k_ws := k_in2 188 (by decide +kernel) (by decide +kernel)
theorem kwk_X3_noLessThan : Cond.code yX3_noLessThan cX3_noLessThan 4 (.some .int) ∈ k_ws := k_in2 189 (by decide +kernel) (by decide +kernel)
theorem kwm_L_66 : Cond.methodLink RL 66 yX6_rests ∈ k_ws := k_in2 190 (by decide +kernel) (by decide +kernel)
theorem kwi_X6_rests : Cond.instanceMethod yX6_rests ∈ k_ws := k_in2 191 (by decide +kernel) (by decide +kernel)
theorem kwv_X6_rests : Cond.selects RX6 yX6_rests yX6_rests ∈ k_ws := k_in2 192 (by decide +kernel) (by decide +kernel)
theorem kwk_X6_rests : Cond.code yX6_rests cX6_rests 2 (.some .int) ∈ k_ws := k_in2 193 (by decide +kernel) (by decide +kernel)
theorem kwm_X6_185 : Cond.methodLink RX6 185 yX1_find ∈ k_ws := k_in2 194 (by decide +kernel) (by decide +kernel)
theorem kwi_X1_find : Cond.instanceMethod yX1_find ∈ k_ws := k_in2 195 (by decide +kernel) (by decide +kernel)
theorem kwv_X1_find : Cond.selects RX1 yX1_find yX1_find ∈ k_ws := k_in2 196 (by decide +kernel) (by decide +kernel)
theorem kwk_X1_find : Cond.code yX1_find cX1_find 3 .none ∈ k_ws := k_in2 197 (by decide +kernel) (by decide +kernel)
theorem kwm_X1_35 : Cond.methodLink RX1 35 yX1_ownAfter ∈ k_ws := k_in2 198 (by decide +kernel) (by decide +kernel)
theorem kwi_X1_ownAfter : Cond.instanceMethod yX1_ownAfter ∈ k_ws := k_in2 199 (by decide +kernel) (by decide +kernel)
theorem kwv_X1_ownAfter : Cond.selects RX1 yX1_ownAfter yX1_ownAfter ∈ k_ws := k_in2 200 (by decide +kernel) (by decide +kernel)
theorem kwk_X1_ownAfter : Cond.code yX1_ownAfter cX1_ownAfter 4 (.some .int) ∈ k_ws := k_in2 201 (by decide +kernel) (by decide +kernel)
theorem kwm_X1_55 : Cond.methodLink RX1 55 Lib.Math.max.name ∈ k_ws := k_in2 202 (by decide +kernel) (by decide +kernel)
theorem kwm_X1_66 : Cond.methodLink RX1 66 yX0_isTellable ∈ k_ws := k_in2 203 (by decide +kernel) (by decide +kernel)
theorem kwm_X1_39 : Cond.methodLink RX1 39 yX1_isRest ∈ k_ws := k_in2 204 (by decide +kernel) (by decide +kernel)
theorem kwi_X1_isRest : Cond.instanceMethod yX1_isRest ∈ k_ws := k_in2 205 (by decide +kernel) (by decide +kernel)
theorem kwv_X1_isRest : Cond.selects RX1 yX1_isRest yX1_isRest ∈ k_ws := k_in2 206 (by decide +kernel) (by decide +kernel)
theorem kwk_X1_isRest : Cond.code yX1_isRest cX1_isRest 2 (.some .boolean) ∈ k_ws := k_in2 207 (by decide +kernel) (by decide +kernel)
theorem kwm_X1_76 : Cond.methodLink RX1 76 yX0_hasTale ∈ k_ws := k_in2 208 (by decide +kernel) (by decide +kernel)
theorem kwm_X1_79 : Cond.methodLink RX1 79 yX0_tallOf ∈ k_ws := k_in2 209 (by decide +kernel) (by decide +kernel)
theorem kwm_X1_83 : Cond.methodLink RX1 83 yX1_canDoBetter ∈ k_ws := k_in2 210 (by decide +kernel) (by decide +kernel)
theorem kwi_X1_canDoBetter : Cond.instanceMethod yX1_canDoBetter ∈ k_ws := k_in2 211 (by decide +kernel) (by decide +kernel)
theorem kwv_X1_canDoBetter : Cond.selects RX1 yX1_canDoBetter yX1_canDoBetter ∈ k_ws := k_in2 212 (by decide +kernel) (by decide +kernel)
theorem kwk_X1_canDoBetter : Cond.code yX1_canDoBetter cX1_canDoBetter 4 (.some .boolean) ∈ k_ws := k_in2 213 (by decide +kernel) (by decide +kernel)
theorem kwm_X1_86 : Cond.methodLink RX1 86 yX3_placeOf ∈ k_ws := k_in2 214 (by decide +kernel) (by decide +kernel)
theorem kwm_X1_89 : Cond.methodLink RX1 89 yX0_isOffered ∈ k_ws := k_in2 215 (by decide +kernel) (by decide +kernel)
theorem kwm_X1_43 : Cond.methodLink RX1 43 yX1_keepRest ∈ k_ws := k_in2 216 (by decide +kernel) (by decide +kernel)
theorem kwi_X1_keepRest : Cond.instanceMethod yX1_keepRest ∈ k_ws := k_in2 217 (by decide +kernel) (by decide +kernel)
theorem kwv_X1_keepRest : Cond.selects RX1 yX1_keepRest yX1_keepRest ∈ k_ws := k_in2 218 (by decide +kernel) (by decide +kernel)
theorem kwk_X1_keepRest : Cond.code yX1_keepRest cX1_keepRest 1 .none ∈ k_ws := k_in2 219 (by decide +kernel) (by decide +kernel)
theorem kwm_X1_49 : Cond.methodLink RX1 49 arraycopyName ∈ k_ws := k_in2 220 (by decide +kernel) (by decide +kernel)
theorem kwm_X1_46 : Cond.methodLink RX1 46 yX1_goOn ∈ k_ws := k_in2 221 (by decide +kernel) (by decide +kernel)
theorem kwi_X1_goOn : Cond.instanceMethod yX1_goOn ∈ k_ws := k_in2 222 (by decide +kernel) (by decide +kernel)
theorem kwv_X1_goOn : Cond.selects RX1 yX1_goOn yX1_goOn ∈ k_ws := k_in2 223 (by decide +kernel) (by decide +kernel)
theorem kwk_X1_goOn : Cond.code yX1_goOn cX1_goOn 3 (.some .boolean) ∈ k_ws := k_in2 224 (by decide +kernel) (by decide +kernel)
theorem kwm_L_70 : Cond.methodLink RL 70 yX6_winter ∈ k_ws := k_in2 225 (by decide +kernel) (by decide +kernel)
theorem kwi_X6_winter : Cond.instanceMethod yX6_winter ∈ k_ws := k_in2 226 (by decide +kernel) (by decide +kernel)
theorem kwv_X6_winter : Cond.selects RX6 yX6_winter yX6_winter ∈ k_ws := k_in2 227 (by decide +kernel) (by decide +kernel)
theorem kwk_X6_winter : Cond.code yX6_winter cX6_winter 8 (.some .int) ∈ k_ws := k_in2 228 (by decide +kernel) (by decide +kernel)
theorem kwm_X6_197 : Cond.methodLink RX6 197 yX5_find ∈ k_ws := k_in2 229 (by decide +kernel) (by decide +kernel)
theorem kwi_X5_find : Cond.instanceMethod yX5_find ∈ k_ws := k_in2 230 (by decide +kernel) (by decide +kernel)
theorem kwv_X5_find : Cond.selects RX5 yX5_find yX5_find ∈ k_ws := k_in2 231 (by decide +kernel) (by decide +kernel)
theorem kwk_X5_find : Cond.code yX5_find cX5_find 4 .none ∈ k_ws := k_in2 232 (by decide +kernel) (by decide +kernel)
theorem kwm_X5_47 : Cond.methodLink RX5 47 arraycopyName ∈ k_ws := k_in2 233 (by decide +kernel) (by decide +kernel)
theorem kwm_X5_54 : Cond.methodLink RX5 54 yX5_isWithinReach ∈ k_ws := k_in2 234 (by decide +kernel) (by decide +kernel)
theorem kwi_X5_isWithinReach : Cond.instanceMethod yX5_isWithinReach ∈ k_ws := k_in2 235 (by decide +kernel) (by decide +kernel)
theorem kwv_X5_isWithinReach : Cond.selects RX5 yX5_isWithinReach yX5_isWithinReach ∈ k_ws := k_in2 236 (by decide +kernel) (by decide +kernel)
theorem kwk_X5_isWithinReach : Cond.code yX5_isWithinReach cX5_isWithinReach 3 (.some .boolean) ∈ k_ws := k_in2 237 (by decide +kernel) (by decide +kernel)
theorem kwm_X5_68 : Cond.methodLink RX5 68 yX0_tallWhenTold ∈ k_ws := k_in2 238 (by decide +kernel) (by decide +kernel)
theorem kwm_X5_58 : Cond.methodLink RX5 58 yX5_search ∈ k_ws := k_in2 239 (by decide +kernel) (by decide +kernel)
theorem kws_X5_search : Cond.static yX5_search ∈ k_ws := k_in3 0 (by decide +kernel) (by decide +kernel)
theorem kwk_X5_search : Cond.code yX5_search cX5_search 5 .none ∈ k_ws := k_in3 1 (by decide +kernel) (by decide +kernel)
theorem kwm_X5_79 : Cond.methodLink RX5 79 yX5_wins ∈ k_ws := k_in3 2 (by decide +kernel) (by decide +kernel)
theorem kwi_X5_wins : Cond.instanceMethod yX5_wins ∈ k_ws := k_in3 3 (by decide +kernel) (by decide +kernel)
theorem kwv_X5_wins : Cond.selects RX5 yX5_wins yX5_wins ∈ k_ws := k_in3 4 (by decide +kernel) (by decide +kernel)
theorem kwk_X5_wins : Cond.code yX5_wins cX5_wins 3 (.some .boolean) ∈ k_ws := k_in3 5 (by decide +kernel) (by decide +kernel)
theorem kwm_X5_75 : Cond.methodLink RX5 75 yX0_mayBeTold ∈ k_ws := k_in3 6 (by decide +kernel) (by decide +kernel)
theorem kwm_L_75 : Cond.methodLink RL 75 yX6_trade ∈ k_ws := k_in3 7 (by decide +kernel) (by decide +kernel)
theorem kwi_X6_trade : Cond.instanceMethod yX6_trade ∈ k_ws := k_in3 8 (by decide +kernel) (by decide +kernel)
theorem kwv_X6_trade : Cond.selects RX6 yX6_trade yX6_trade ∈ k_ws := k_in3 9 (by decide +kernel) (by decide +kernel)
theorem kwk_X6_trade : Cond.code yX6_trade cX6_trade 4 (.some .int) ∈ k_ws := k_in3 10 (by decide +kernel) (by decide +kernel)
theorem kwm_X6_204 : Cond.methodLink RX6 204 yX0_strongAfter ∈ k_ws := k_in3 11 (by decide +kernel) (by decide +kernel)
theorem kwi_X0_strongAfter : Cond.instanceMethod yX0_strongAfter ∈ k_ws := k_in3 12 (by decide +kernel) (by decide +kernel)
theorem kwv_X0_strongAfter : Cond.selects RX0 yX0_strongAfter yX0_strongAfter ∈ k_ws := k_in3 13 (by decide +kernel) (by decide +kernel)
theorem kwk_X0_strongAfter : Cond.code yX0_strongAfter cX0_strongAfter 7 (.some .int) ∈ k_ws := k_in3 14 (by decide +kernel) (by decide +kernel)
theorem kwm_X0_110 : Cond.methodLink RX0 110 yX0_ownerAfter ∈ k_ws := k_in3 15 (by decide +kernel) (by decide +kernel)
theorem kwi_X0_ownerAfter : Cond.instanceMethod yX0_ownerAfter ∈ k_ws := k_in3 16 (by decide +kernel) (by decide +kernel)
theorem kwv_X0_ownerAfter : Cond.selects RX0 yX0_ownerAfter yX0_ownerAfter ∈ k_ws := k_in3 17 (by decide +kernel) (by decide +kernel)
theorem kwk_X0_ownerAfter : Cond.code yX0_ownerAfter cX0_ownerAfter 4 (.some .int) ∈ k_ws := k_in3 18 (by decide +kernel) (by decide +kernel)
theorem kwm_X0_114 : Cond.methodLink RX0 114 Lib.Math.max.name ∈ k_ws := k_in3 19 (by decide +kernel) (by decide +kernel)
theorem kwm_L_79 : Cond.methodLink RL 79 yX6_toldBy ∈ k_ws := k_in3 20 (by decide +kernel) (by decide +kernel)
theorem kwi_X6_toldBy : Cond.instanceMethod yX6_toldBy ∈ k_ws := k_in3 21 (by decide +kernel) (by decide +kernel)
theorem kwv_X6_toldBy : Cond.selects RX6 yX6_toldBy yX6_toldBy ∈ k_ws := k_in3 22 (by decide +kernel) (by decide +kernel)
theorem kwk_X6_toldBy : Cond.code yX6_toldBy cX6_toldBy 7 (.some .int) ∈ k_ws := k_in3 23 (by decide +kernel) (by decide +kernel)
theorem kwm_X6_211 : Cond.methodLink RX6 211 yX0_isRowOfAll ∈ k_ws := k_in3 24 (by decide +kernel) (by decide +kernel)
theorem kwi_X0_isRowOfAll : Cond.instanceMethod yX0_isRowOfAll ∈ k_ws := k_in3 25 (by decide +kernel) (by decide +kernel)
theorem kwv_X0_isRowOfAll : Cond.selects RX0 yX0_isRowOfAll yX0_isRowOfAll ∈ k_ws := k_in3 26 (by decide +kernel) (by decide +kernel)
theorem kwk_X0_isRowOfAll : Cond.code yX0_isRowOfAll cX0_isRowOfAll 4 (.some .boolean) ∈ k_ws := k_in3 27 (by decide +kernel) (by decide +kernel)
theorem kwm_X0_119 : Cond.methodLink RX0 119 yX0_hasGuest ∈ k_ws := k_in3 28 (by decide +kernel) (by decide +kernel)
theorem kwm_X6_215 : Cond.methodLink RX6 215 yX6_canHaveTold ∈ k_ws := k_in3 29 (by decide +kernel) (by decide +kernel)
theorem kwi_X6_canHaveTold : Cond.instanceMethod yX6_canHaveTold ∈ k_ws := k_in3 31 (by decide +kernel) (by decide +kernel)
theorem kwk_X6_canHaveTold : Cond.code yX6_canHaveTold cX6_canHaveTold 5 (.some .int) ∈ k_ws := k_in3 32 (by decide +kernel) (by decide +kernel)
theorem kwm_X6_269 : Cond.methodLink RX6 269 yX0_tallsOfNight ∈ k_ws := k_in3 33 (by decide +kernel) (by decide +kernel)
theorem kwi_X0_tallsOfNight : Cond.instanceMethod yX0_tallsOfNight ∈ k_ws := k_in3 34 (by decide +kernel) (by decide +kernel)
theorem kwv_X0_tallsOfNight : Cond.selects RX0 yX0_tallsOfNight yX0_tallsOfNight ∈ k_ws := k_in3 35 (by decide +kernel) (by decide +kernel)
theorem kwk_X0_tallsOfNight : Cond.code yX0_tallsOfNight cX0_tallsOfNight 4 .none ∈ k_ws := k_in3 36 (by decide +kernel) (by decide +kernel)
theorem kwm_X6_273 : Cond.methodLink RX6 273 yX0_timesToldBefore ∈ k_ws := k_in3 37 (by decide +kernel) (by decide +kernel)
theorem kwi_X0_timesToldBefore : Cond.instanceMethod yX0_timesToldBefore ∈ k_ws := k_in3 38 (by decide +kernel) (by decide +kernel)
theorem kwv_X0_timesToldBefore : Cond.selects RX0 yX0_timesToldBefore yX0_timesToldBefore ∈ k_ws := k_in3 39 (by decide +kernel) (by decide +kernel)
theorem kwk_X0_timesToldBefore : Cond.code yX0_timesToldBefore cX0_timesToldBefore 5 (.some .int) ∈ k_ws := k_in3 40 (by decide +kernel) (by decide +kernel)
theorem kwm_X6_276 : Cond.methodLink RX6 276 yX0_tallWhenTold ∈ k_ws := k_in3 41 (by decide +kernel) (by decide +kernel)
theorem kwm_X6_279 : Cond.methodLink RX6 279 yX3_layAs ∈ k_ws := k_in3 42 (by decide +kernel) (by decide +kernel)
theorem kwi_X3_layAs : Cond.instanceMethod yX3_layAs ∈ k_ws := k_in3 43 (by decide +kernel) (by decide +kernel)
theorem kwv_X3_layAs : Cond.selects RX3 yX3_layAs yX3_layAs ∈ k_ws := k_in3 44 (by decide +kernel) (by decide +kernel)
theorem kwk_X3_layAs : Cond.code yX3_layAs cX3_layAs 4 (.some .boolean) ∈ k_ws := k_in3 45 (by decide +kernel) (by decide +kernel)
theorem kwm_X3_25 : Cond.methodLink RX3 25 yX3_placeOf ∈ k_ws := k_in3 46 (by decide +kernel) (by decide +kernel)
theorem kwm_L_84 : Cond.methodLink RL 84 yX6_sheet ∈ k_ws := k_in3 47 (by decide +kernel) (by decide +kernel)
theorem kwi_X6_sheet : Cond.instanceMethod yX6_sheet ∈ k_ws := k_in3 48 (by decide +kernel) (by decide +kernel)
theorem kwv_X6_sheet : Cond.selects RX6 yX6_sheet yX6_sheet ∈ k_ws := k_in3 49 (by decide +kernel) (by decide +kernel)
theorem kwk_X6_sheet : Cond.code yX6_sheet cX6_sheet 4 (.some .int) ∈ k_ws := k_in3 50 (by decide +kernel) (by decide +kernel)
theorem kwm_X6_218 : Cond.methodLink RX6 218 yX2_makeRow ∈ k_ws := k_in3 51 (by decide +kernel) (by decide +kernel)
theorem kwi_X2_makeRow : Cond.instanceMethod yX2_makeRow ∈ k_ws := k_in3 52 (by decide +kernel) (by decide +kernel)
theorem kwv_X2_makeRow : Cond.selects RX2 yX2_makeRow yX2_makeRow ∈ k_ws := k_in3 53 (by decide +kernel) (by decide +kernel)
theorem kwk_X2_makeRow : Cond.code yX2_makeRow cX2_makeRow 4 .none ∈ k_ws := k_in3 54 (by decide +kernel) (by decide +kernel)
theorem kwm_X2_35 : Cond.methodLink RX2 35 yJ7_fill_fda19 ∈ k_ws := k_in3 55 (by decide +kernel) (by decide +kernel)
theorem kws_J7_fill_fda19 : Cond.static yJ7_fill_fda19 ∈ k_ws := k_in3 56 (by decide +kernel) (by decide +kernel)
theorem kwk_J7_fill_fda19 : Cond.code yJ7_fill_fda19 cJ7_fill_fda19 5 .none ∈ k_ws := k_in3 57 (by decide +kernel) (by decide +kernel)
theorem kwm_J7_13 : Cond.methodLink RJ7 13 yJ7_rangeCheck_23922 ∈ k_ws := k_in3 58 (by decide +kernel) (by decide +kernel)
theorem kws_J7_rangeCheck_23922 : Cond.static yJ7_rangeCheck_23922 ∈ k_ws := k_in3 59 (by decide +kernel) (by decide +kernel)
theorem kwk_J7_rangeCheck_23922 : Cond.code yJ7_rangeCheck_23922 cJ7_rangeCheck_23922 3 .none ∈ k_ws := k_in3 60 (by decide +kernel) (by decide +kernel)
theorem kwm_L_88 : Cond.methodLink RL 88 yX6_lose ∈ k_ws := k_in3 61 (by decide +kernel) (by decide +kernel)
theorem kwi_X6_lose : Cond.instanceMethod yX6_lose ∈ k_ws := k_in3 62 (by decide +kernel) (by decide +kernel)
theorem kwv_X6_lose : Cond.selects RX6 yX6_lose yX6_lose ∈ k_ws := k_in3 63 (by decide +kernel) (by decide +kernel)
theorem kwk_X6_lose : Cond.code yX6_lose cX6_lose 2 (.some .int) ∈ k_ws := k_in3 64 (by decide +kernel) (by decide +kernel)
theorem kwm_X6_222 : Cond.methodLink RX6 222 yX2_dropRow ∈ k_ws := k_in3 65 (by decide +kernel) (by decide +kernel)
theorem kwi_X2_dropRow : Cond.instanceMethod yX2_dropRow ∈ k_ws := k_in3 66 (by decide +kernel) (by decide +kernel)
theorem kwv_X2_dropRow : Cond.selects RX2 yX2_dropRow yX2_dropRow ∈ k_ws := k_in3 67 (by decide +kernel) (by decide +kernel)
theorem kwk_X2_dropRow : Cond.code yX2_dropRow cX2_dropRow 3 (.some .boolean) ∈ k_ws := k_in3 68 (by decide +kernel) (by decide +kernel)
theorem kwm_L_92 : Cond.methodLink RL 92 yX6_put ∈ k_ws := k_in3 69 (by decide +kernel) (by decide +kernel)
theorem kwi_X6_put : Cond.instanceMethod yX6_put ∈ k_ws := k_in3 70 (by decide +kernel) (by decide +kernel)
theorem kwv_X6_put : Cond.selects RX6 yX6_put yX6_put ∈ k_ws := k_in3 71 (by decide +kernel) (by decide +kernel)
theorem kwk_X6_put : Cond.code yX6_put cX6_put 4 (.some .int) ∈ k_ws := k_in3 72 (by decide +kernel) (by decide +kernel)
theorem kwm_X6_225 : Cond.methodLink RX6 225 yX2_hasRow ∈ k_ws := k_in3 73 (by decide +kernel) (by decide +kernel)
theorem kwm_X6_228 : Cond.methodLink RX6 228 yX2_hasCells ∈ k_ws := k_in3 74 (by decide +kernel) (by decide +kernel)
theorem kwm_X6_232 : Cond.methodLink RX6 232 yX2_write ∈ k_ws := k_in3 75 (by decide +kernel) (by decide +kernel)
theorem kwi_X2_write : Cond.instanceMethod yX2_write ∈ k_ws := k_in3 76 (by decide +kernel) (by decide +kernel)
theorem kwv_X2_write : Cond.selects RX2 yX2_write yX2_write ∈ k_ws := k_in3 77 (by decide +kernel) (by decide +kernel)
theorem kwk_X2_write : Cond.code yX2_write cX2_write 5 .none ∈ k_ws := k_in3 78 (by decide +kernel) (by decide +kernel)
theorem kwm_L_96 : Cond.methodLink RL 96 yX6_cell ∈ k_ws := k_in3 79 (by decide +kernel) (by decide +kernel)
theorem kwi_X6_cell : Cond.instanceMethod yX6_cell ∈ k_ws := k_in3 80 (by decide +kernel) (by decide +kernel)
theorem kwv_X6_cell : Cond.selects RX6 yX6_cell yX6_cell ∈ k_ws := k_in3 81 (by decide +kernel) (by decide +kernel)
theorem kwk_X6_cell : Cond.code yX6_cell cX6_cell 5 (.some .long) ∈ k_ws := k_in3 82 (by decide +kernel) (by decide +kernel)
theorem kwl_X6_235 : Cond.constantLong RX6 235 (-9223372036854775808 : Int64) ∈ k_ws := k_in3 83 (by decide +kernel) (by decide +kernel)
theorem kwm_X6_237 : Cond.methodLink RX6 237 yX2_read ∈ k_ws := k_in3 84 (by decide +kernel) (by decide +kernel)
theorem kwi_X2_read : Cond.instanceMethod yX2_read ∈ k_ws := k_in3 85 (by decide +kernel) (by decide +kernel)
theorem kwv_X2_read : Cond.selects RX2 yX2_read yX2_read ∈ k_ws := k_in3 86 (by decide +kernel) (by decide +kernel)
theorem kwk_X2_read : Cond.code yX2_read cX2_read 3 (.some .int) ∈ k_ws := k_in3 87 (by decide +kernel) (by decide +kernel)
theorem kwm_L_101 : Cond.methodLink RL 101 yX6_copy ∈ k_ws := k_in3 88 (by decide +kernel) (by decide +kernel)
theorem kwi_X6_copy : Cond.instanceMethod yX6_copy ∈ k_ws := k_in3 89 (by decide +kernel) (by decide +kernel)
theorem kwv_X6_copy : Cond.selects RX6 yX6_copy yX6_copy ∈ k_ws := k_in3 90 (by decide +kernel) (by decide +kernel)
theorem kwk_X6_copy : Cond.code yX6_copy cX6_copy 6 (.some .int) ∈ k_ws := k_in3 91 (by decide +kernel) (by decide +kernel)
theorem kwm_X6_243 : Cond.methodLink RX6 243 yX2_move ∈ k_ws := k_in3 92 (by decide +kernel) (by decide +kernel)
theorem kwi_X2_move : Cond.instanceMethod yX2_move ∈ k_ws := k_in3 93 (by decide +kernel) (by decide +kernel)
theorem kwv_X2_move : Cond.selects RX2 yX2_move yX2_move ∈ k_ws := k_in3 94 (by decide +kernel) (by decide +kernel)
theorem kwk_X2_move : Cond.code yX2_move cX2_move 6 .none ∈ k_ws := k_in3 95 (by decide +kernel) (by decide +kernel)
theorem kwm_L_105 : Cond.methodLink RL 105 yX6_tell ∈ k_ws := k_in3 96 (by decide +kernel) (by decide +kernel)
theorem kwi_X6_tell : Cond.instanceMethod yX6_tell ∈ k_ws := k_in3 97 (by decide +kernel) (by decide +kernel)
theorem kwv_X6_tell : Cond.selects RX6 yX6_tell yX6_tell ∈ k_ws := k_in3 98 (by decide +kernel) (by decide +kernel)
theorem kwk_X6_tell : Cond.code yX6_tell cX6_tell 2 (.some .int) ∈ k_ws := k_in3 99 (by decide +kernel) (by decide +kernel)
theorem kwm_X6_247 : Cond.methodLink RX6 247 yX6_tellAsGrown ∈ k_ws := k_in3 100 (by decide +kernel) (by decide +kernel)
theorem kwi_X6_tellAsGrown : Cond.instanceMethod yX6_tellAsGrown ∈ k_ws := k_in3 102 (by decide +kernel) (by decide +kernel)
theorem kwk_X6_tellAsGrown : Cond.code yX6_tellAsGrown cX6_tellAsGrown 2 (.some .int) ∈ k_ws := k_in3 103 (by decide +kernel) (by decide +kernel)
theorem kwm_X6_256 : Cond.methodLink RX6 256 yX6_leaveTrace ∈ k_ws := k_in3 104 (by decide +kernel) (by decide +kernel)
theorem kwi_X6_leaveTrace : Cond.instanceMethod yX6_leaveTrace ∈ k_ws := k_in3 106 (by decide +kernel) (by decide +kernel)
theorem kwk_X6_leaveTrace : Cond.code yX6_leaveTrace cX6_leaveTrace 2 .none ∈ k_ws := k_in3 107 (by decide +kernel) (by decide +kernel)
theorem kwm_X6_253 : Cond.methodLink RX6 253 yX6_tellAsTale ∈ k_ws := k_in3 108 (by decide +kernel) (by decide +kernel)
theorem kwi_X6_tellAsTale : Cond.instanceMethod yX6_tellAsTale ∈ k_ws := k_in3 110 (by decide +kernel) (by decide +kernel)
theorem kwk_X6_tellAsTale : Cond.code yX6_tellAsTale cX6_tellAsTale 2 (.some .int) ∈ k_ws := k_in3 111 (by decide +kernel) (by decide +kernel)
theorem kwm_X6_250 : Cond.methodLink RX6 250 yX6_tellAsTrue ∈ k_ws := k_in3 112 (by decide +kernel) (by decide +kernel)
theorem kwi_X6_tellAsTrue : Cond.instanceMethod yX6_tellAsTrue ∈ k_ws := k_in3 114 (by decide +kernel) (by decide +kernel)
theorem kwk_X6_tellAsTrue : Cond.code yX6_tellAsTrue cX6_tellAsTrue 3 (.some .int) ∈ k_ws := k_in3 115 (by decide +kernel) (by decide +kernel)
theorem kwm_L_109 : Cond.methodLink RL 109 yX6_swear ∈ k_ws := k_in3 116 (by decide +kernel) (by decide +kernel)
theorem kwi_X6_swear : Cond.instanceMethod yX6_swear ∈ k_ws := k_in3 117 (by decide +kernel) (by decide +kernel)
theorem kwv_X6_swear : Cond.selects RX6 yX6_swear yX6_swear ∈ k_ws := k_in3 118 (by decide +kernel) (by decide +kernel)
theorem kwk_X6_swear : Cond.code yX6_swear cX6_swear 2 (.some .int) ∈ k_ws := k_in3 119 (by decide +kernel) (by decide +kernel)
theorem kwm_L_113 : Cond.methodLink RL 113 yX6_as ∈ k_ws := k_in3 120 (by decide +kernel) (by decide +kernel)
theorem kwi_X6_as : Cond.instanceMethod yX6_as ∈ k_ws := k_in3 121 (by decide +kernel) (by decide +kernel)
theorem kwv_X6_as : Cond.selects RX6 yX6_as yX6_as ∈ k_ws := k_in3 122 (by decide +kernel) (by decide +kernel)
theorem kwk_X6_as : Cond.code yX6_as cX6_as 3 (.some .int) ∈ k_ws := k_in3 123 (by decide +kernel) (by decide +kernel)
theorem kwm_L_117 : Cond.methodLink RL 117 yX6_trace ∈ k_ws := k_in3 124 (by decide +kernel) (by decide +kernel)
theorem kwi_X6_trace : Cond.instanceMethod yX6_trace ∈ k_ws := k_in3 125 (by decide +kernel) (by decide +kernel)
theorem kwv_X6_trace : Cond.selects RX6 yX6_trace yX6_trace ∈ k_ws := k_in3 126 (by decide +kernel) (by decide +kernel)
theorem kwk_X6_trace : Cond.code yX6_trace cX6_trace 1 (.some .int) ∈ k_ws := k_in3 127 (by decide +kernel) (by decide +kernel)
theorem kwm_L_121 : Cond.methodLink RL 121 yX6_fault ∈ k_ws := k_in3 128 (by decide +kernel) (by decide +kernel)
theorem kwi_X6_fault : Cond.instanceMethod yX6_fault ∈ k_ws := k_in3 129 (by decide +kernel) (by decide +kernel)
theorem kwv_X6_fault : Cond.selects RX6 yX6_fault yX6_fault ∈ k_ws := k_in3 130 (by decide +kernel) (by decide +kernel)
theorem kwk_X6_fault : Cond.code yX6_fault cX6_fault 1 (.some .int) ∈ k_ws := k_in3 131 (by decide +kernel) (by decide +kernel)
theorem kwm_L_125 : Cond.methodLink RL 125 yX6_many ∈ k_ws := k_in3 132 (by decide +kernel) (by decide +kernel)
theorem kwi_X6_many : Cond.instanceMethod yX6_many ∈ k_ws := k_in3 133 (by decide +kernel) (by decide +kernel)
theorem kwv_X6_many : Cond.selects RX6 yX6_many yX6_many ∈ k_ws := k_in3 134 (by decide +kernel) (by decide +kernel)
theorem kwk_X6_many : Cond.code yX6_many cX6_many 2 (.some .int) ∈ k_ws := k_in3 135 (by decide +kernel) (by decide +kernel)
theorem kwc_L_10 : Cond.classLink RL 10 RX7 ∈ k_ws := k_in3 136 (by decide +kernel) (by decide +kernel)
theorem kwx_X7 : Cond.instantiable RX7 31 ∈ k_ws := k_in3 137 (by decide +kernel) (by decide +kernel)
theorem kwm_L_12 : Cond.methodLink RL 12 yX7_init ∈ k_ws := k_in3 138 (by decide +kernel) (by decide +kernel)
theorem kwi_X7_init : Cond.instanceMethod yX7_init ∈ k_ws := k_in3 139 (by decide +kernel) (by decide +kernel)
theorem kwk_X7_init : Cond.code yX7_init cX7_init 1 .none ∈ k_ws := k_in3 140 (by decide +kernel) (by decide +kernel)
theorem kwm_X7_1 : Cond.methodLink RX7 1 objectInit ∈ k_ws := k_in3 141 (by decide +kernel) (by decide +kernel)
theorem kwf_X7_67 : Cond.fieldLink RX7 67 "TallTalesModel" "fault" "I" ∈ k_ws := k_in3 142 (by decide +kernel) (by decide +kernel)
theorem kwf_X7_230 : Cond.fieldLink RX7 230 "TallTalesModel" "trace" "I" ∈ k_ws := k_in3 143 (by decide +kernel) (by decide +kernel)
theorem kwf_X7_9 : Cond.fieldLink RX7 9 "TallTalesModel" "sorts" "[I" ∈ k_ws := k_in3 144 (by decide +kernel) (by decide +kernel)
theorem kwf_X7_13 : Cond.fieldLink RX7 13 "TallTalesModel" "sheetLong" "[I" ∈ k_ws := k_in3 145 (by decide +kernel) (by decide +kernel)
theorem kwf_X7_16 : Cond.fieldLink RX7 16 "TallTalesModel" "cells" "[I" ∈ k_ws := k_in3 146 (by decide +kernel) (by decide +kernel)
theorem kwf_X7_77 : Cond.fieldLink RX7 77 "TallTalesModel" "guests" "I" ∈ k_ws := k_in3 147 (by decide +kernel) (by decide +kernel)
theorem kwf_X7_80 : Cond.fieldLink RX7 80 "TallTalesModel" "tales" "I" ∈ k_ws := k_in3 148 (by decide +kernel) (by decide +kernel)
theorem kwf_X7_110 : Cond.fieldLink RX7 110 "TallTalesModel" "memory" "I" ∈ k_ws := k_in3 149 (by decide +kernel) (by decide +kernel)
theorem kwf_X7_19 : Cond.fieldLink RX7 19 "TallTalesModel" "kind" "[I" ∈ k_ws := k_in3 150 (by decide +kernel) (by decide +kernel)
theorem kwf_X7_22 : Cond.fieldLink RX7 22 "TallTalesModel" "whose" "[I" ∈ k_ws := k_in3 151 (by decide +kernel) (by decide +kernel)
theorem kwf_X7_25 : Cond.fieldLink RX7 25 "TallTalesModel" "high" "[I" ∈ k_ws := k_in3 152 (by decide +kernel) (by decide +kernel)
theorem kwf_X7_98 : Cond.fieldLink RX7 98 "TallTalesModel" "at" "I" ∈ k_ws := k_in3 153 (by decide +kernel) (by decide +kernel)
theorem kwf_X7_104 : Cond.fieldLink RX7 104 "TallTalesModel" "readGuests" "I" ∈ k_ws := k_in3 154 (by decide +kernel) (by decide +kernel)
theorem kwf_X7_107 : Cond.fieldLink RX7 107 "TallTalesModel" "readTales" "I" ∈ k_ws := k_in3 155 (by decide +kernel) (by decide +kernel)
theorem kwf_X7_28 : Cond.fieldLink RX7 28 "TallTalesModel" "readKind" "[I" ∈ k_ws := k_in3 156 (by decide +kernel) (by decide +kernel)
theorem kwf_X7_31 : Cond.fieldLink RX7 31 "TallTalesModel" "readWhose" "[I" ∈ k_ws := k_in3 157 (by decide +kernel) (by decide +kernel)
theorem kwf_X7_34 : Cond.fieldLink RX7 34 "TallTalesModel" "readHigh" "[I" ∈ k_ws := k_in3 158 (by decide +kernel) (by decide +kernel)
theorem kwf_X7_113 : Cond.fieldLink RX7 113 "TallTalesModel" "over" "I" ∈ k_ws := k_in3 159 (by decide +kernel) (by decide +kernel)
theorem kwf_X7_37 : Cond.fieldLink RX7 37 "TallTalesModel" "nightTold" "[I" ∈ k_ws := k_in3 160 (by decide +kernel) (by decide +kernel)
theorem kwf_X7_40 : Cond.fieldLink RX7 40 "TallTalesModel" "nightTall" "[I" ∈ k_ws := k_in3 161 (by decide +kernel) (by decide +kernel)
theorem kwf_X7_43 : Cond.fieldLink RX7 43 "TallTalesModel" "chosen" "[I" ∈ k_ws := k_in3 162 (by decide +kernel) (by decide +kernel)
theorem kwf_X7_46 : Cond.fieldLink RX7 46 "TallTalesModel" "times" "[I" ∈ k_ws := k_in3 163 (by decide +kernel) (by decide +kernel)
theorem kwf_X7_49 : Cond.fieldLink RX7 49 "TallTalesModel" "last" "[I" ∈ k_ws := k_in3 164 (by decide +kernel) (by decide +kernel)
theorem kwf_X7_52 : Cond.fieldLink RX7 52 "TallTalesModel" "tall" "[I" ∈ k_ws := k_in3 165 (by decide +kernel) (by decide +kernel)
theorem kwf_X7_168 : Cond.fieldLink RX7 168 "TallTalesModel" "bestTale" "I" ∈ k_ws := k_in3 166 (by decide +kernel) (by decide +kernel)
theorem kwf_X7_171 : Cond.fieldLink RX7 171 "TallTalesModel" "bestPlace" "I" ∈ k_ws := k_in3 167 (by decide +kernel) (by decide +kernel)
theorem kwf_X7_174 : Cond.fieldLink RX7 174 "TallTalesModel" "bestTall" "I" ∈ k_ws := k_in3 168 (by decide +kernel) (by decide +kernel)
theorem kwf_X7_55 : Cond.fieldLink RX7 55 "TallTalesModel" "tells" "[I" ∈ k_ws := k_in3 169 (by decide +kernel) (by decide +kernel)
theorem kwf_X7_58 : Cond.fieldLink RX7 58 "TallTalesModel" "firstRest" "[I" ∈ k_ws := k_in3 170 (by decide +kernel) (by decide +kernel)
theorem kwf_X7_61 : Cond.fieldLink RX7 61 "TallTalesModel" "winterTells" "[I" ∈ k_ws := k_in3 171 (by decide +kernel) (by decide +kernel)
theorem kwf_X7_64 : Cond.fieldLink RX7 64 "TallTalesModel" "winterBest" "[I" ∈ k_ws := k_in3 172 (by decide +kernel) (by decide +kernel)
theorem kwm_L_17 : Cond.methodLink RL 17 yX7_inn ∈ k_ws := k_in3 236 (by decide +kernel) (by decide +kernel)
theorem kwi_X7_inn : Cond.instanceMethod yX7_inn ∈ k_ws := k_in3 237 (by decide +kernel) (by decide +kernel)
theorem kwv_X7_inn : Cond.selects RX7 yX7_inn yX7_inn ∈ k_ws := k_in3 238 (by decide +kernel) (by decide +kernel)
theorem kwk_X7_inn : Cond.code yX7_inn cX7_inn 8 (.some .int) ∈ k_ws := k_in3 239 (by decide +kernel) (by decide +kernel)
theorem kwm_X7_83 : Cond.methodLink RX7 83 yX7_isSheet ∈ k_ws := k_in4 0 (by decide +kernel) (by decide +kernel)
theorem kws_X7_isSheet : Cond.static yX7_isSheet ∈ k_ws := k_in4 1 (by decide +kernel) (by decide +kernel)
theorem kwk_X7_isSheet : Cond.code yX7_isSheet cX7_isSheet 1 (.some .boolean) ∈ k_ws := k_in4 2 (by decide +kernel) (by decide +kernel)
theorem kwm_X7_73 : Cond.methodLink RX7 73 yX7_within ∈ k_ws := k_in4 3 (by decide +kernel) (by decide +kernel)
theorem kws_X7_within : Cond.static yX7_within ∈ k_ws := k_in4 4 (by decide +kernel) (by decide +kernel)
theorem kwk_X7_within : Cond.code yX7_within cX7_within 3 (.some .boolean) ∈ k_ws := k_in4 5 (by decide +kernel) (by decide +kernel)
theorem kwm_X7_87 : Cond.methodLink RX7 87 yX7_isSort ∈ k_ws := k_in4 6 (by decide +kernel) (by decide +kernel)
theorem kws_X7_isSort : Cond.static yX7_isSort ∈ k_ws := k_in4 7 (by decide +kernel) (by decide +kernel)
theorem kwk_X7_isSort : Cond.code yX7_isSort cX7_isSort 1 (.some .boolean) ∈ k_ws := k_in4 8 (by decide +kernel) (by decide +kernel)
theorem kwm_X7_90 : Cond.methodLink RX7 90 yX7_against ∈ k_ws := k_in4 9 (by decide +kernel) (by decide +kernel)
theorem kwi_X7_against : Cond.instanceMethod yX7_against ∈ k_ws := k_in4 11 (by decide +kernel) (by decide +kernel)
theorem kwk_X7_against : Cond.code yX7_against cX7_against 5 (.some .int) ∈ k_ws := k_in4 12 (by decide +kernel) (by decide +kernel)
theorem kwm_X7_94 : Cond.methodLink RX7 94 yX7_fails ∈ k_ws := k_in4 13 (by decide +kernel) (by decide +kernel)
theorem kwi_X7_fails : Cond.instanceMethod yX7_fails ∈ k_ws := k_in4 15 (by decide +kernel) (by decide +kernel)
theorem kwk_X7_fails : Cond.code yX7_fails cX7_fails 2 (.some .int) ∈ k_ws := k_in4 16 (by decide +kernel) (by decide +kernel)
theorem kwm_X7_101 : Cond.methodLink RX7 101 yX7_readInn ∈ k_ws := k_in4 17 (by decide +kernel) (by decide +kernel)
theorem kwi_X7_readInn : Cond.instanceMethod yX7_readInn ∈ k_ws := k_in4 19 (by decide +kernel) (by decide +kernel)
theorem kwk_X7_readInn : Cond.code yX7_readInn cX7_readInn 2 (.some .boolean) ∈ k_ws := k_in4 20 (by decide +kernel) (by decide +kernel)
theorem kwm_X7_122 : Cond.methodLink RX7 122 yX7_digitAt ∈ k_ws := k_in4 21 (by decide +kernel) (by decide +kernel)
theorem kwi_X7_digitAt : Cond.instanceMethod yX7_digitAt ∈ k_ws := k_in4 23 (by decide +kernel) (by decide +kernel)
theorem kwk_X7_digitAt : Cond.code yX7_digitAt cX7_digitAt 3 (.some .int) ∈ k_ws := k_in4 24 (by decide +kernel) (by decide +kernel)
theorem kwm_X7_126 : Cond.methodLink RX7 126 yX7_readTale ∈ k_ws := k_in4 25 (by decide +kernel) (by decide +kernel)
theorem kwi_X7_readTale : Cond.instanceMethod yX7_readTale ∈ k_ws := k_in4 27 (by decide +kernel) (by decide +kernel)
theorem kwk_X7_readTale : Cond.code yX7_readTale cX7_readTale 6 (.some .boolean) ∈ k_ws := k_in4 28 (by decide +kernel) (by decide +kernel)
theorem kwm_X7_116 : Cond.methodLink RX7 116 yX7_countTold ∈ k_ws := k_in4 29 (by decide +kernel) (by decide +kernel)
theorem kwi_X7_countTold : Cond.instanceMethod yX7_countTold ∈ k_ws := k_in4 31 (by decide +kernel) (by decide +kernel)
theorem kwk_X7_countTold : Cond.code yX7_countTold cX7_countTold 2 .none ∈ k_ws := k_in4 32 (by decide +kernel) (by decide +kernel)
theorem kwm_X7_119 : Cond.methodLink RX7 119 yX7_chooseNone ∈ k_ws := k_in4 33 (by decide +kernel) (by decide +kernel)
theorem kwi_X7_chooseNone : Cond.instanceMethod yX7_chooseNone ∈ k_ws := k_in4 35 (by decide +kernel) (by decide +kernel)
theorem kwk_X7_chooseNone : Cond.code yX7_chooseNone cX7_chooseNone 2 .none ∈ k_ws := k_in4 36 (by decide +kernel) (by decide +kernel)
theorem kwm_L_22 : Cond.methodLink RL 22 yX7_ofTale ∈ k_ws := k_in4 37 (by decide +kernel) (by decide +kernel)
theorem kwi_X7_ofTale : Cond.instanceMethod yX7_ofTale ∈ k_ws := k_in4 38 (by decide +kernel) (by decide +kernel)
theorem kwv_X7_ofTale : Cond.selects RX7 yX7_ofTale yX7_ofTale ∈ k_ws := k_in4 39 (by decide +kernel) (by decide +kernel)
theorem kwk_X7_ofTale : Cond.code yX7_ofTale cX7_ofTale 3 (.some .int) ∈ k_ws := k_in4 40 (by decide +kernel) (by decide +kernel)
theorem kwm_X7_136 : Cond.methodLink RX7 136 yX7_isTale ∈ k_ws := k_in4 41 (by decide +kernel) (by decide +kernel)
theorem kwi_X7_isTale : Cond.instanceMethod yX7_isTale ∈ k_ws := k_in4 43 (by decide +kernel) (by decide +kernel)
theorem kwk_X7_isTale : Cond.code yX7_isTale cX7_isTale 2 (.some .boolean) ∈ k_ws := k_in4 44 (by decide +kernel) (by decide +kernel)
theorem kwm_X7_139 : Cond.methodLink RX7 139 yX7_mayNow ∈ k_ws := k_in4 45 (by decide +kernel) (by decide +kernel)
theorem kwi_X7_mayNow : Cond.instanceMethod yX7_mayNow ∈ k_ws := k_in4 47 (by decide +kernel) (by decide +kernel)
theorem kwk_X7_mayNow : Cond.code yX7_mayNow cX7_mayNow 2 (.some .boolean) ∈ k_ws := k_in4 48 (by decide +kernel) (by decide +kernel)
theorem kwm_X7_129 : Cond.methodLink RX7 129 yX7_mayBe ∈ k_ws := k_in4 49 (by decide +kernel) (by decide +kernel)
theorem kwi_X7_mayBe : Cond.instanceMethod yX7_mayBe ∈ k_ws := k_in4 51 (by decide +kernel) (by decide +kernel)
theorem kwk_X7_mayBe : Cond.code yX7_mayBe cX7_mayBe 5 (.some .boolean) ∈ k_ws := k_in4 52 (by decide +kernel) (by decide +kernel)
theorem kwm_X7_142 : Cond.methodLink RX7 142 yX7_tallNow ∈ k_ws := k_in4 53 (by decide +kernel) (by decide +kernel)
theorem kwi_X7_tallNow : Cond.instanceMethod yX7_tallNow ∈ k_ws := k_in4 55 (by decide +kernel) (by decide +kernel)
theorem kwk_X7_tallNow : Cond.code yX7_tallNow cX7_tallNow 2 (.some .int) ∈ k_ws := k_in4 56 (by decide +kernel) (by decide +kernel)
theorem kwm_X7_133 : Cond.methodLink RX7 133 yX7_tallBy ∈ k_ws := k_in4 57 (by decide +kernel) (by decide +kernel)
theorem kwi_X7_tallBy : Cond.instanceMethod yX7_tallBy ∈ k_ws := k_in4 59 (by decide +kernel) (by decide +kernel)
theorem kwk_X7_tallBy : Cond.code yX7_tallBy cX7_tallBy 3 (.some .int) ∈ k_ws := k_in4 60 (by decide +kernel) (by decide +kernel)
theorem kwm_L_27 : Cond.methodLink RL 27 yX7_memory ∈ k_ws := k_in4 61 (by decide +kernel) (by decide +kernel)
theorem kwi_X7_memory : Cond.instanceMethod yX7_memory ∈ k_ws := k_in4 62 (by decide +kernel) (by decide +kernel)
theorem kwv_X7_memory : Cond.selects RX7 yX7_memory yX7_memory ∈ k_ws := k_in4 63 (by decide +kernel) (by decide +kernel)
theorem kwk_X7_memory : Cond.code yX7_memory cX7_memory 3 (.some .int) ∈ k_ws := k_in4 64 (by decide +kernel) (by decide +kernel)
theorem kwm_L_31 : Cond.methodLink RL 31 yX7_choose ∈ k_ws := k_in4 65 (by decide +kernel) (by decide +kernel)
theorem kwi_X7_choose : Cond.instanceMethod yX7_choose ∈ k_ws := k_in4 66 (by decide +kernel) (by decide +kernel)
theorem kwv_X7_choose : Cond.selects RX7 yX7_choose yX7_choose ∈ k_ws := k_in4 67 (by decide +kernel) (by decide +kernel)
theorem kwk_X7_choose : Cond.code yX7_choose cX7_choose 4 (.some .int) ∈ k_ws := k_in4 68 (by decide +kernel) (by decide +kernel)
theorem kwm_X7_145 : Cond.methodLink RX7 145 yX7_isGuest ∈ k_ws := k_in4 69 (by decide +kernel) (by decide +kernel)
theorem kwi_X7_isGuest : Cond.instanceMethod yX7_isGuest ∈ k_ws := k_in4 71 (by decide +kernel) (by decide +kernel)
theorem kwk_X7_isGuest : Cond.code yX7_isGuest cX7_isGuest 2 (.some .boolean) ∈ k_ws := k_in4 72 (by decide +kernel) (by decide +kernel)
theorem kwm_L_36 : Cond.methodLink RL 36 yX7_night ∈ k_ws := k_in4 73 (by decide +kernel) (by decide +kernel)
theorem kwi_X7_night : Cond.instanceMethod yX7_night ∈ k_ws := k_in4 74 (by decide +kernel) (by decide +kernel)
theorem kwv_X7_night : Cond.selects RX7 yX7_night yX7_night ∈ k_ws := k_in4 75 (by decide +kernel) (by decide +kernel)
theorem kwk_X7_night : Cond.code yX7_night cX7_night 2 (.some .int) ∈ k_ws := k_in4 76 (by decide +kernel) (by decide +kernel)
theorem kwm_X7_151 : Cond.methodLink RX7 151 yX7_layTall ∈ k_ws := k_in4 77 (by decide +kernel) (by decide +kernel)
theorem kwi_X7_layTall : Cond.instanceMethod yX7_layTall ∈ k_ws := k_in4 79 (by decide +kernel) (by decide +kernel)
theorem kwk_X7_layTall : Cond.code yX7_layTall cX7_layTall 2 .none ∈ k_ws := k_in4 80 (by decide +kernel) (by decide +kernel)
theorem kwm_X7_154 : Cond.methodLink RX7 154 yX7_inBed ∈ k_ws := k_in4 81 (by decide +kernel) (by decide +kernel)
theorem kwi_X7_inBed : Cond.instanceMethod yX7_inBed ∈ k_ws := k_in4 83 (by decide +kernel) (by decide +kernel)
theorem kwk_X7_inBed : Cond.code yX7_inBed cX7_inBed 2 (.some .int) ∈ k_ws := k_in4 84 (by decide +kernel) (by decide +kernel)
theorem kwm_X7_148 : Cond.methodLink RX7 148 yX7_placeOf ∈ k_ws := k_in4 85 (by decide +kernel) (by decide +kernel)
theorem kwi_X7_placeOf : Cond.instanceMethod yX7_placeOf ∈ k_ws := k_in4 87 (by decide +kernel) (by decide +kernel)
theorem kwk_X7_placeOf : Cond.code yX7_placeOf cX7_placeOf 4 (.some .int) ∈ k_ws := k_in4 88 (by decide +kernel) (by decide +kernel)
theorem kwm_L_41 : Cond.methodLink RL 41 yX7_ofNight ∈ k_ws := k_in4 89 (by decide +kernel) (by decide +kernel)
theorem kwi_X7_ofNight : Cond.instanceMethod yX7_ofNight ∈ k_ws := k_in4 90 (by decide +kernel) (by decide +kernel)
theorem kwv_X7_ofNight : Cond.selects RX7 yX7_ofNight yX7_ofNight ∈ k_ws := k_in4 91 (by decide +kernel) (by decide +kernel)
theorem kwk_X7_ofNight : Cond.code yX7_ofNight cX7_ofNight 4 (.some .int) ∈ k_ws := k_in4 92 (by decide +kernel) (by decide +kernel)
theorem kwm_X7_158 : Cond.methodLink RX7 158 yX7_isNight ∈ k_ws := k_in4 93 (by decide +kernel) (by decide +kernel)
theorem kwi_X7_isNight : Cond.instanceMethod yX7_isNight ∈ k_ws := k_in4 95 (by decide +kernel) (by decide +kernel)
theorem kwk_X7_isNight : Cond.code yX7_isNight cX7_isNight 2 (.some .boolean) ∈ k_ws := k_in4 96 (by decide +kernel) (by decide +kernel)
theorem kwm_X7_161 : Cond.methodLink RX7 161 yX7_layNight ∈ k_ws := k_in4 97 (by decide +kernel) (by decide +kernel)
theorem kwi_X7_layNight : Cond.instanceMethod yX7_layNight ∈ k_ws := k_in4 99 (by decide +kernel) (by decide +kernel)
theorem kwk_X7_layNight : Cond.code yX7_layNight cX7_layNight 3 .none ∈ k_ws := k_in4 100 (by decide +kernel) (by decide +kernel)
theorem kwm_L_45 : Cond.methodLink RL 45 yX7_undo ∈ k_ws := k_in4 101 (by decide +kernel) (by decide +kernel)
theorem kwi_X7_undo : Cond.instanceMethod yX7_undo ∈ k_ws := k_in4 102 (by decide +kernel) (by decide +kernel)
theorem kwv_X7_undo : Cond.selects RX7 yX7_undo yX7_undo ∈ k_ws := k_in4 103 (by decide +kernel) (by decide +kernel)
theorem kwk_X7_undo : Cond.code yX7_undo cX7_undo 2 (.some .int) ∈ k_ws := k_in4 104 (by decide +kernel) (by decide +kernel)
theorem kwm_L_49 : Cond.methodLink RL 49 yX7_lay ∈ k_ws := k_in4 105 (by decide +kernel) (by decide +kernel)
theorem kwi_X7_lay : Cond.instanceMethod yX7_lay ∈ k_ws := k_in4 106 (by decide +kernel) (by decide +kernel)
theorem kwv_X7_lay : Cond.selects RX7 yX7_lay yX7_lay ∈ k_ws := k_in4 107 (by decide +kernel) (by decide +kernel)
theorem kwk_X7_lay : Cond.code yX7_lay cX7_lay 5 (.some .int) ∈ k_ws := k_in4 108 (by decide +kernel) (by decide +kernel)
theorem kwm_L_53 : Cond.methodLink RL 53 yX7_tonight ∈ k_ws := k_in4 109 (by decide +kernel) (by decide +kernel)
theorem kwi_X7_tonight : Cond.instanceMethod yX7_tonight ∈ k_ws := k_in4 110 (by decide +kernel) (by decide +kernel)
theorem kwv_X7_tonight : Cond.selects RX7 yX7_tonight yX7_tonight ∈ k_ws := k_in4 111 (by decide +kernel) (by decide +kernel)
theorem kwk_X7_tonight : Cond.code yX7_tonight cX7_tonight 3 (.some .int) ∈ k_ws := k_in4 112 (by decide +kernel) (by decide +kernel)
theorem kwm_X7_165 : Cond.methodLink RX7 165 yX7_need ∈ k_ws := k_in4 113 (by decide +kernel) (by decide +kernel)
theorem kwi_X7_need : Cond.instanceMethod yX7_need ∈ k_ws := k_in4 115 (by decide +kernel) (by decide +kernel)
theorem kwk_X7_need : Cond.code yX7_need cX7_need 5 (.some .int) ∈ k_ws := k_in4 116 (by decide +kernel) (by decide +kernel)
theorem kwm_L_57 : Cond.methodLink RL 57 yX7_answer ∈ k_ws := k_in4 117 (by decide +kernel) (by decide +kernel)
theorem kwi_X7_answer : Cond.instanceMethod yX7_answer ∈ k_ws := k_in4 118 (by decide +kernel) (by decide +kernel)
theorem kwv_X7_answer : Cond.selects RX7 yX7_answer yX7_answer ∈ k_ws := k_in4 119 (by decide +kernel) (by decide +kernel)
theorem kwk_X7_answer : Cond.code yX7_answer cX7_answer 4 (.some .int) ∈ k_ws := k_in4 120 (by decide +kernel) (by decide +kernel)
theorem kwm_X7_177 : Cond.methodLink RX7 177 yX7_offer ∈ k_ws := k_in4 121 (by decide +kernel) (by decide +kernel)
theorem kwi_X7_offer : Cond.instanceMethod yX7_offer ∈ k_ws := k_in4 123 (by decide +kernel) (by decide +kernel)
theorem kwk_X7_offer : Cond.code yX7_offer cX7_offer 5 .none ∈ k_ws := k_in4 124 (by decide +kernel) (by decide +kernel)
theorem kwm_X7_181 : Cond.methodLink RX7 181 yX7_found ∈ k_ws := k_in4 125 (by decide +kernel) (by decide +kernel)
theorem kwi_X7_found : Cond.instanceMethod yX7_found ∈ k_ws := k_in4 127 (by decide +kernel) (by decide +kernel)
theorem kwk_X7_found : Cond.code yX7_found cX7_found 2 (.some .int) ∈ k_ws := k_in4 128 (by decide +kernel) (by decide +kernel)
theorem kwm_L_61 : Cond.methodLink RL 61 yX7_borrowed ∈ k_ws := k_in4 129 (by decide +kernel) (by decide +kernel)
theorem kwi_X7_borrowed : Cond.instanceMethod yX7_borrowed ∈ k_ws := k_in4 130 (by decide +kernel) (by decide +kernel)
theorem kwv_X7_borrowed : Cond.selects RX7 yX7_borrowed yX7_borrowed ∈ k_ws := k_in4 131 (by decide +kernel) (by decide +kernel)
theorem kwk_X7_borrowed : Cond.code yX7_borrowed cX7_borrowed 4 (.some .int) ∈ k_ws := k_in4 132 (by decide +kernel) (by decide +kernel)
theorem kwm_X7_184 : Cond.methodLink RX7 184 yX7_isChosen ∈ k_ws := k_in4 133 (by decide +kernel) (by decide +kernel)
theorem kwi_X7_isChosen : Cond.instanceMethod yX7_isChosen ∈ k_ws := k_in4 135 (by decide +kernel) (by decide +kernel)
theorem kwk_X7_isChosen : Cond.code yX7_isChosen cX7_isChosen 3 (.some .boolean) ∈ k_ws := k_in4 136 (by decide +kernel) (by decide +kernel)
theorem kwm_L_65 : Cond.methodLink RL 65 yX7_bishop ∈ k_ws := k_in4 137 (by decide +kernel) (by decide +kernel)
theorem kwi_X7_bishop : Cond.instanceMethod yX7_bishop ∈ k_ws := k_in4 138 (by decide +kernel) (by decide +kernel)
theorem kwv_X7_bishop : Cond.selects RX7 yX7_bishop yX7_bishop ∈ k_ws := k_in4 139 (by decide +kernel) (by decide +kernel)
theorem kwk_X7_bishop : Cond.code yX7_bishop cX7_bishop 4 (.some .int) ∈ k_ws := k_in4 140 (by decide +kernel) (by decide +kernel)
theorem kwm_L_69 : Cond.methodLink RL 69 yX7_rests ∈ k_ws := k_in4 141 (by decide +kernel) (by decide +kernel)
theorem kwi_X7_rests : Cond.instanceMethod yX7_rests ∈ k_ws := k_in4 142 (by decide +kernel) (by decide +kernel)
theorem kwv_X7_rests : Cond.selects RX7 yX7_rests yX7_rests ∈ k_ws := k_in4 143 (by decide +kernel) (by decide +kernel)
theorem kwk_X7_rests : Cond.code yX7_rests cX7_rests 3 (.some .int) ∈ k_ws := k_in4 144 (by decide +kernel) (by decide +kernel)
theorem kwm_X7_200 : Cond.methodLink RX7 200 yX7_findRests ∈ k_ws := k_in4 145 (by decide +kernel) (by decide +kernel)
theorem kwi_X7_findRests : Cond.instanceMethod yX7_findRests ∈ k_ws := k_in4 147 (by decide +kernel) (by decide +kernel)
theorem kwk_X7_findRests : Cond.code yX7_findRests cX7_findRests 4 (.some .int) ∈ k_ws := k_in4 148 (by decide +kernel) (by decide +kernel)
theorem kwm_X7_190 : Cond.methodLink RX7 190 yX7_nextOwn ∈ k_ws := k_in4 149 (by decide +kernel) (by decide +kernel)
theorem kwi_X7_nextOwn : Cond.instanceMethod yX7_nextOwn ∈ k_ws := k_in4 151 (by decide +kernel) (by decide +kernel)
theorem kwk_X7_nextOwn : Cond.code yX7_nextOwn cX7_nextOwn 4 (.some .int) ∈ k_ws := k_in4 152 (by decide +kernel) (by decide +kernel)
theorem kwm_X7_193 : Cond.methodLink RX7 193 yX7_isRest ∈ k_ws := k_in4 153 (by decide +kernel) (by decide +kernel)
theorem kwi_X7_isRest : Cond.instanceMethod yX7_isRest ∈ k_ws := k_in4 155 (by decide +kernel) (by decide +kernel)
theorem kwk_X7_isRest : Cond.code yX7_isRest cX7_isRest 4 (.some .boolean) ∈ k_ws := k_in4 156 (by decide +kernel) (by decide +kernel)
theorem kwm_X7_187 : Cond.methodLink RX7 187 yX7_layTells ∈ k_ws := k_in4 157 (by decide +kernel) (by decide +kernel)
theorem kwi_X7_layTells : Cond.instanceMethod yX7_layTells ∈ k_ws := k_in4 159 (by decide +kernel) (by decide +kernel)
theorem kwk_X7_layTells : Cond.code yX7_layTells cX7_layTells 2 .none ∈ k_ws := k_in4 160 (by decide +kernel) (by decide +kernel)
theorem kwm_X7_197 : Cond.methodLink RX7 197 yX7_nextTells ∈ k_ws := k_in4 161 (by decide +kernel) (by decide +kernel)
theorem kwi_X7_nextTells : Cond.instanceMethod yX7_nextTells ∈ k_ws := k_in4 163 (by decide +kernel) (by decide +kernel)
theorem kwk_X7_nextTells : Cond.code yX7_nextTells cX7_nextTells 3 (.some .boolean) ∈ k_ws := k_in4 164 (by decide +kernel) (by decide +kernel)
theorem kwm_L_74 : Cond.methodLink RL 74 yX7_winter ∈ k_ws := k_in4 165 (by decide +kernel) (by decide +kernel)
theorem kwi_X7_winter : Cond.instanceMethod yX7_winter ∈ k_ws := k_in4 166 (by decide +kernel) (by decide +kernel)
theorem kwv_X7_winter : Cond.selects RX7 yX7_winter yX7_winter ∈ k_ws := k_in4 167 (by decide +kernel) (by decide +kernel)
theorem kwk_X7_winter : Cond.code yX7_winter cX7_winter 9 (.some .int) ∈ k_ws := k_in4 168 (by decide +kernel) (by decide +kernel)
theorem kwm_X7_210 : Cond.methodLink RX7 210 yX7_findWinter ∈ k_ws := k_in4 169 (by decide +kernel) (by decide +kernel)
theorem kwi_X7_findWinter : Cond.instanceMethod yX7_findWinter ∈ k_ws := k_in4 171 (by decide +kernel) (by decide +kernel)
theorem kwk_X7_findWinter : Cond.code yX7_findWinter cX7_findWinter 8 (.some .int) ∈ k_ws := k_in4 172 (by decide +kernel) (by decide +kernel)
theorem kwm_X7_203 : Cond.methodLink RX7 203 yX7_mayWinter ∈ k_ws := k_in4 173 (by decide +kernel) (by decide +kernel)
theorem kwi_X7_mayWinter : Cond.instanceMethod yX7_mayWinter ∈ k_ws := k_in4 175 (by decide +kernel) (by decide +kernel)
theorem kwk_X7_mayWinter : Cond.code yX7_mayWinter cX7_mayWinter 8 (.some .boolean) ∈ k_ws := k_in4 176 (by decide +kernel) (by decide +kernel)
theorem kwm_X7_206 : Cond.methodLink RX7 206 yX7_nightsOf ∈ k_ws := k_in4 177 (by decide +kernel) (by decide +kernel)
theorem kws_X7_nightsOf : Cond.static yX7_nightsOf ∈ k_ws := k_in4 178 (by decide +kernel) (by decide +kernel)
theorem kwk_X7_nightsOf : Cond.code yX7_nightsOf cX7_nightsOf 4 (.some .int) ∈ k_ws := k_in4 179 (by decide +kernel) (by decide +kernel)
theorem kwm_L_78 : Cond.methodLink RL 78 yX7_trade ∈ k_ws := k_in4 180 (by decide +kernel) (by decide +kernel)
theorem kwi_X7_trade : Cond.instanceMethod yX7_trade ∈ k_ws := k_in4 181 (by decide +kernel) (by decide +kernel)
theorem kwv_X7_trade : Cond.selects RX7 yX7_trade yX7_trade ∈ k_ws := k_in4 182 (by decide +kernel) (by decide +kernel)
theorem kwk_X7_trade : Cond.code yX7_trade cX7_trade 7 (.some .int) ∈ k_ws := k_in4 183 (by decide +kernel) (by decide +kernel)
theorem kwm_X7_214 : Cond.methodLink RX7 214 yX7_strong ∈ k_ws := k_in4 184 (by decide +kernel) (by decide +kernel)
theorem kwi_X7_strong : Cond.instanceMethod yX7_strong ∈ k_ws := k_in4 186 (by decide +kernel) (by decide +kernel)
theorem kwk_X7_strong : Cond.code yX7_strong cX7_strong 5 (.some .int) ∈ k_ws := k_in4 187 (by decide +kernel) (by decide +kernel)
theorem kwm_L_83 : Cond.methodLink RL 83 yX7_toldBy ∈ k_ws := k_in4 188 (by decide +kernel) (by decide +kernel)
theorem kwi_X7_toldBy : Cond.instanceMethod yX7_toldBy ∈ k_ws := k_in4 189 (by decide +kernel) (by decide +kernel)
theorem kwv_X7_toldBy : Cond.selects RX7 yX7_toldBy yX7_toldBy ∈ k_ws := k_in4 190 (by decide +kernel) (by decide +kernel)
theorem kwk_X7_toldBy : Cond.code yX7_toldBy cX7_toldBy 10 (.some .int) ∈ k_ws := k_in4 191 (by decide +kernel) (by decide +kernel)
theorem kwm_X7_217 : Cond.methodLink RX7 217 yX7_areAllGuests ∈ k_ws := k_in4 192 (by decide +kernel) (by decide +kernel)
theorem kwi_X7_areAllGuests : Cond.instanceMethod yX7_areAllGuests ∈ k_ws := k_in4 194 (by decide +kernel) (by decide +kernel)
theorem kwk_X7_areAllGuests : Cond.code yX7_areAllGuests cX7_areAllGuests 4 (.some .boolean) ∈ k_ws := k_in4 195 (by decide +kernel) (by decide +kernel)
theorem kwm_X7_220 : Cond.methodLink RX7 220 yX7_timesBefore ∈ k_ws := k_in4 196 (by decide +kernel) (by decide +kernel)
theorem kwi_X7_timesBefore : Cond.instanceMethod yX7_timesBefore ∈ k_ws := k_in4 198 (by decide +kernel) (by decide +kernel)
theorem kwk_X7_timesBefore : Cond.code yX7_timesBefore cX7_timesBefore 5 (.some .int) ∈ k_ws := k_in4 199 (by decide +kernel) (by decide +kernel)
theorem kwm_X7_223 : Cond.methodLink RX7 223 yX7_doLie ∈ k_ws := k_in4 200 (by decide +kernel) (by decide +kernel)
theorem kwi_X7_doLie : Cond.instanceMethod yX7_doLie ∈ k_ws := k_in4 202 (by decide +kernel) (by decide +kernel)
theorem kwk_X7_doLie : Cond.code yX7_doLie cX7_doLie 3 (.some .boolean) ∈ k_ws := k_in4 203 (by decide +kernel) (by decide +kernel)
theorem kwm_L_87 : Cond.methodLink RL 87 yX7_sheet ∈ k_ws := k_in4 204 (by decide +kernel) (by decide +kernel)
theorem kwi_X7_sheet : Cond.instanceMethod yX7_sheet ∈ k_ws := k_in4 205 (by decide +kernel) (by decide +kernel)
theorem kwv_X7_sheet : Cond.selects RX7 yX7_sheet yX7_sheet ∈ k_ws := k_in4 206 (by decide +kernel) (by decide +kernel)
theorem kwk_X7_sheet : Cond.code yX7_sheet cX7_sheet 5 (.some .int) ∈ k_ws := k_in4 207 (by decide +kernel) (by decide +kernel)
theorem kwm_L_91 : Cond.methodLink RL 91 yX7_lose ∈ k_ws := k_in4 208 (by decide +kernel) (by decide +kernel)
theorem kwi_X7_lose : Cond.instanceMethod yX7_lose ∈ k_ws := k_in4 209 (by decide +kernel) (by decide +kernel)
theorem kwv_X7_lose : Cond.selects RX7 yX7_lose yX7_lose ∈ k_ws := k_in4 210 (by decide +kernel) (by decide +kernel)
theorem kwk_X7_lose : Cond.code yX7_lose cX7_lose 3 (.some .int) ∈ k_ws := k_in4 211 (by decide +kernel) (by decide +kernel)
theorem kwm_L_95 : Cond.methodLink RL 95 yX7_put ∈ k_ws := k_in4 212 (by decide +kernel) (by decide +kernel)
theorem kwi_X7_put : Cond.instanceMethod yX7_put ∈ k_ws := k_in4 213 (by decide +kernel) (by decide +kernel)
theorem kwv_X7_put : Cond.selects RX7 yX7_put yX7_put ∈ k_ws := k_in4 214 (by decide +kernel) (by decide +kernel)
theorem kwk_X7_put : Cond.code yX7_put cX7_put 4 (.some .int) ∈ k_ws := k_in4 215 (by decide +kernel) (by decide +kernel)
theorem kwm_L_100 : Cond.methodLink RL 100 yX7_cell ∈ k_ws := k_in4 216 (by decide +kernel) (by decide +kernel)
theorem kwi_X7_cell : Cond.instanceMethod yX7_cell ∈ k_ws := k_in4 217 (by decide +kernel) (by decide +kernel)
theorem kwv_X7_cell : Cond.selects RX7 yX7_cell yX7_cell ∈ k_ws := k_in4 218 (by decide +kernel) (by decide +kernel)
theorem kwk_X7_cell : Cond.code yX7_cell cX7_cell 4 (.some .long) ∈ k_ws := k_in4 219 (by decide +kernel) (by decide +kernel)
theorem kwl_X7_71 : Cond.constantLong RX7 71 (-9223372036854775808 : Int64) ∈ k_ws := k_in4 220 (by decide +kernel) (by decide +kernel)
theorem kwm_X7_226 : Cond.methodLink RX7 226 yX7_lost ∈ k_ws := k_in4 221 (by decide +kernel) (by decide +kernel)
theorem kwi_X7_lost : Cond.instanceMethod yX7_lost ∈ k_ws := k_in4 223 (by decide +kernel) (by decide +kernel)
theorem kwk_X7_lost : Cond.code yX7_lost cX7_lost 2 (.some .long) ∈ k_ws := k_in4 224 (by decide +kernel) (by decide +kernel)
theorem kwm_L_104 : Cond.methodLink RL 104 yX7_copy ∈ k_ws := k_in4 225 (by decide +kernel) (by decide +kernel)
theorem kwi_X7_copy : Cond.instanceMethod yX7_copy ∈ k_ws := k_in4 226 (by decide +kernel) (by decide +kernel)
theorem kwv_X7_copy : Cond.selects RX7 yX7_copy yX7_copy ∈ k_ws := k_in4 227 (by decide +kernel) (by decide +kernel)
theorem kwk_X7_copy : Cond.code yX7_copy cX7_copy 10 (.some .int) ∈ k_ws := k_in4 228 (by decide +kernel) (by decide +kernel)
theorem kwm_L_108 : Cond.methodLink RL 108 yX7_tell ∈ k_ws := k_in4 229 (by decide +kernel) (by decide +kernel)
theorem kwi_X7_tell : Cond.instanceMethod yX7_tell ∈ k_ws := k_in4 230 (by decide +kernel) (by decide +kernel)
theorem kwv_X7_tell : Cond.selects RX7 yX7_tell yX7_tell ∈ k_ws := k_in4 231 (by decide +kernel) (by decide +kernel)
theorem kwk_X7_tell : Cond.code yX7_tell cX7_tell 3 (.some .int) ∈ k_ws := k_in4 232 (by decide +kernel) (by decide +kernel)
theorem kwm_X7_233 : Cond.methodLink RX7 233 yX7_begins ∈ k_ws := k_in4 233 (by decide +kernel) (by decide +kernel)
theorem kwi_X7_begins : Cond.instanceMethod yX7_begins ∈ k_ws := k_in4 235 (by decide +kernel) (by decide +kernel)
theorem kwk_X7_begins : Cond.code yX7_begins cX7_begins 2 .none ∈ k_ws := k_in4 236 (by decide +kernel) (by decide +kernel)
theorem kwm_L_112 : Cond.methodLink RL 112 yX7_swear ∈ k_ws := k_in4 237 (by decide +kernel) (by decide +kernel)
theorem kwi_X7_swear : Cond.instanceMethod yX7_swear ∈ k_ws := k_in4 238 (by decide +kernel) (by decide +kernel)
theorem kwv_X7_swear : Cond.selects RX7 yX7_swear yX7_swear ∈ k_ws := k_in4 239 (by decide +kernel) (by decide +kernel)
theorem kwk_X7_swear : Cond.code yX7_swear cX7_swear 2 (.some .int) ∈ k_ws := k_in5 0 (by decide +kernel) (by decide +kernel)
theorem kwm_L_116 : Cond.methodLink RL 116 yX7_as ∈ k_ws := k_in5 1 (by decide +kernel) (by decide +kernel)
theorem kwi_X7_as : Cond.instanceMethod yX7_as ∈ k_ws := k_in5 2 (by decide +kernel) (by decide +kernel)
theorem kwv_X7_as : Cond.selects RX7 yX7_as yX7_as ∈ k_ws := k_in5 3 (by decide +kernel) (by decide +kernel)
theorem kwk_X7_as : Cond.code yX7_as cX7_as 3 (.some .int) ∈ k_ws := k_in5 4 (by decide +kernel) (by decide +kernel)
theorem kwm_L_120 : Cond.methodLink RL 120 yX7_trace ∈ k_ws := k_in5 5 (by decide +kernel) (by decide +kernel)
theorem kwi_X7_trace : Cond.instanceMethod yX7_trace ∈ k_ws := k_in5 6 (by decide +kernel) (by decide +kernel)
theorem kwv_X7_trace : Cond.selects RX7 yX7_trace yX7_trace ∈ k_ws := k_in5 7 (by decide +kernel) (by decide +kernel)
theorem kwk_X7_trace : Cond.code yX7_trace cX7_trace 1 (.some .int) ∈ k_ws := k_in5 8 (by decide +kernel) (by decide +kernel)
theorem kwm_L_124 : Cond.methodLink RL 124 yX7_fault ∈ k_ws := k_in5 9 (by decide +kernel) (by decide +kernel)
theorem kwi_X7_fault : Cond.instanceMethod yX7_fault ∈ k_ws := k_in5 10 (by decide +kernel) (by decide +kernel)
theorem kwv_X7_fault : Cond.selects RX7 yX7_fault yX7_fault ∈ k_ws := k_in5 11 (by decide +kernel) (by decide +kernel)
theorem kwk_X7_fault : Cond.code yX7_fault cX7_fault 1 (.some .int) ∈ k_ws := k_in5 12 (by decide +kernel) (by decide +kernel)
theorem kwm_L_128 : Cond.methodLink RL 128 yX7_many ∈ k_ws := k_in5 13 (by decide +kernel) (by decide +kernel)
theorem kwi_X7_many : Cond.instanceMethod yX7_many ∈ k_ws := k_in5 14 (by decide +kernel) (by decide +kernel)
theorem kwv_X7_many : Cond.selects RX7 yX7_many yX7_many ∈ k_ws := k_in5 15 (by decide +kernel) (by decide +kernel)
theorem kwk_X7_many : Cond.code yX7_many cX7_many 2 (.some .int) ∈ k_ws := k_in5 16 (by decide +kernel) (by decide +kernel)
theorem kwv_X6_faulty : Cond.selects RX6 yX6_faulty yX6_faulty ∈ k_ws := k_in0 0 (by decide +kernel) (by decide +kernel)
theorem kwv_X6_bestReply : Cond.selects RX6 yX6_bestReply yX6_bestReply ∈ k_ws := k_in0 1 (by decide +kernel) (by decide +kernel)
theorem kwv_X6_isBetterReply : Cond.selects RX6 yX6_isBetterReply yX6_isBetterReply ∈ k_ws := k_in0 2 (by decide +kernel) (by decide +kernel)
theorem kwv_X6_canHaveTold : Cond.selects RX6 yX6_canHaveTold yX6_canHaveTold ∈ k_ws := k_in0 3 (by decide +kernel) (by decide +kernel)
theorem kwv_X6_tellAsGrown : Cond.selects RX6 yX6_tellAsGrown yX6_tellAsGrown ∈ k_ws := k_in0 4 (by decide +kernel) (by decide +kernel)
theorem kwv_X6_leaveTrace : Cond.selects RX6 yX6_leaveTrace yX6_leaveTrace ∈ k_ws := k_in0 5 (by decide +kernel) (by decide +kernel)
theorem kwv_X6_tellAsTale : Cond.selects RX6 yX6_tellAsTale yX6_tellAsTale ∈ k_ws := k_in0 6 (by decide +kernel) (by decide +kernel)
theorem kwv_X6_tellAsTrue : Cond.selects RX6 yX6_tellAsTrue yX6_tellAsTrue ∈ k_ws := k_in0 7 (by decide +kernel) (by decide +kernel)
theorem kwv_X7_against : Cond.selects RX7 yX7_against yX7_against ∈ k_ws := k_in0 8 (by decide +kernel) (by decide +kernel)
theorem kwv_X7_fails : Cond.selects RX7 yX7_fails yX7_fails ∈ k_ws := k_in0 9 (by decide +kernel) (by decide +kernel)
theorem kwv_X7_readInn : Cond.selects RX7 yX7_readInn yX7_readInn ∈ k_ws := k_in0 10 (by decide +kernel) (by decide +kernel)
theorem kwv_X7_digitAt : Cond.selects RX7 yX7_digitAt yX7_digitAt ∈ k_ws := k_in0 11 (by decide +kernel) (by decide +kernel)
theorem kwv_X7_readTale : Cond.selects RX7 yX7_readTale yX7_readTale ∈ k_ws := k_in0 12 (by decide +kernel) (by decide +kernel)
theorem kwv_X7_countTold : Cond.selects RX7 yX7_countTold yX7_countTold ∈ k_ws := k_in0 13 (by decide +kernel) (by decide +kernel)
theorem kwv_X7_chooseNone : Cond.selects RX7 yX7_chooseNone yX7_chooseNone ∈ k_ws := k_in0 14 (by decide +kernel) (by decide +kernel)
theorem kwv_X7_isTale : Cond.selects RX7 yX7_isTale yX7_isTale ∈ k_ws := k_in0 15 (by decide +kernel) (by decide +kernel)
theorem kwv_X7_mayNow : Cond.selects RX7 yX7_mayNow yX7_mayNow ∈ k_ws := k_in0 16 (by decide +kernel) (by decide +kernel)
theorem kwv_X7_mayBe : Cond.selects RX7 yX7_mayBe yX7_mayBe ∈ k_ws := k_in0 17 (by decide +kernel) (by decide +kernel)
theorem kwv_X7_tallNow : Cond.selects RX7 yX7_tallNow yX7_tallNow ∈ k_ws := k_in0 18 (by decide +kernel) (by decide +kernel)
theorem kwv_X7_tallBy : Cond.selects RX7 yX7_tallBy yX7_tallBy ∈ k_ws := k_in0 19 (by decide +kernel) (by decide +kernel)
theorem kwv_X7_isGuest : Cond.selects RX7 yX7_isGuest yX7_isGuest ∈ k_ws := k_in0 20 (by decide +kernel) (by decide +kernel)
theorem kwv_X7_layTall : Cond.selects RX7 yX7_layTall yX7_layTall ∈ k_ws := k_in0 21 (by decide +kernel) (by decide +kernel)
theorem kwv_X7_inBed : Cond.selects RX7 yX7_inBed yX7_inBed ∈ k_ws := k_in0 22 (by decide +kernel) (by decide +kernel)
theorem kwv_X7_placeOf : Cond.selects RX7 yX7_placeOf yX7_placeOf ∈ k_ws := k_in0 23 (by decide +kernel) (by decide +kernel)
theorem kwv_X7_isNight : Cond.selects RX7 yX7_isNight yX7_isNight ∈ k_ws := k_in0 24 (by decide +kernel) (by decide +kernel)
theorem kwv_X7_layNight : Cond.selects RX7 yX7_layNight yX7_layNight ∈ k_ws := k_in0 25 (by decide +kernel) (by decide +kernel)
theorem kwv_X7_need : Cond.selects RX7 yX7_need yX7_need ∈ k_ws := k_in0 26 (by decide +kernel) (by decide +kernel)
theorem kwv_X7_offer : Cond.selects RX7 yX7_offer yX7_offer ∈ k_ws := k_in0 27 (by decide +kernel) (by decide +kernel)
theorem kwv_X7_found : Cond.selects RX7 yX7_found yX7_found ∈ k_ws := k_in0 28 (by decide +kernel) (by decide +kernel)
theorem kwv_X7_isChosen : Cond.selects RX7 yX7_isChosen yX7_isChosen ∈ k_ws := k_in0 29 (by decide +kernel) (by decide +kernel)
theorem kwv_X7_findRests : Cond.selects RX7 yX7_findRests yX7_findRests ∈ k_ws := k_in0 30 (by decide +kernel) (by decide +kernel)
theorem kwv_X7_nextOwn : Cond.selects RX7 yX7_nextOwn yX7_nextOwn ∈ k_ws := k_in0 31 (by decide +kernel) (by decide +kernel)
theorem kwv_X7_isRest : Cond.selects RX7 yX7_isRest yX7_isRest ∈ k_ws := k_in0 32 (by decide +kernel) (by decide +kernel)
theorem kwv_X7_layTells : Cond.selects RX7 yX7_layTells yX7_layTells ∈ k_ws := k_in0 33 (by decide +kernel) (by decide +kernel)
theorem kwv_X7_nextTells : Cond.selects RX7 yX7_nextTells yX7_nextTells ∈ k_ws := k_in0 34 (by decide +kernel) (by decide +kernel)
theorem kwv_X7_findWinter : Cond.selects RX7 yX7_findWinter yX7_findWinter ∈ k_ws := k_in0 35 (by decide +kernel) (by decide +kernel)
theorem kwv_X7_mayWinter : Cond.selects RX7 yX7_mayWinter yX7_mayWinter ∈ k_ws := k_in0 36 (by decide +kernel) (by decide +kernel)
theorem kwv_X7_strong : Cond.selects RX7 yX7_strong yX7_strong ∈ k_ws := k_in0 37 (by decide +kernel) (by decide +kernel)
theorem kwv_X7_areAllGuests : Cond.selects RX7 yX7_areAllGuests yX7_areAllGuests ∈ k_ws := k_in0 38 (by decide +kernel) (by decide +kernel)
theorem kwv_X7_timesBefore : Cond.selects RX7 yX7_timesBefore yX7_timesBefore ∈ k_ws := k_in0 39 (by decide +kernel) (by decide +kernel)
theorem kwv_X7_doLie : Cond.selects RX7 yX7_doLie yX7_doLie ∈ k_ws := k_in0 40 (by decide +kernel) (by decide +kernel)
theorem kwv_X7_lost : Cond.selects RX7 yX7_lost yX7_lost ∈ k_ws := k_in0 41 (by decide +kernel) (by decide +kernel)
theorem kwv_X7_begins : Cond.selects RX7 yX7_begins yX7_begins ∈ k_ws := k_in0 42 (by decide +kernel) (by decide +kernel)
theorem kinX0 : ∀ w ∈ wsX00, w ∈ k_ws := k_lay (goodIn_r (big := lw_tbl) _ [139, 141, 143, 145, 147, 149, 151, 153, 155, 157, 159, 161, 163] (by decide +kernel) (by decide +kernel))
theorem kinX1 : ∀ w ∈ wsX10, w ∈ k_ws := k_lay (goodIn_r (big := lw_tbl) _ [197, 199, 201, 203, 205] (by decide +kernel) (by decide +kernel))
theorem kinX2 : ∀ w ∈ wsX20, w ∈ k_ws := k_lay (goodIn_r (big := lw_tbl) _ [76, 78, 80] (by decide +kernel) (by decide +kernel))
theorem kinX3 : ∀ w ∈ wsX30, w ∈ k_ws := k_lay (goodIn_r (big := lw_tbl) _ [179, 181] (by decide +kernel) (by decide +kernel))
theorem kinX4 : ∀ w ∈ wsX40, w ∈ k_ws := k_lay (goodIn_r (big := lw_tbl) _ [94, 96] (by decide +kernel) (by decide +kernel))
theorem kinX5 : ∀ w ∈ wsX50, w ∈ k_ws := k_lay (goodIn_r (big := lw_tbl) _ [227, 229, 231, 233, 235, 237, 239, 241, 243, 245] (by decide +kernel) (by decide +kernel))
theorem kinX6 : ∀ w ∈ wsX60, w ∈ k_ws := k_lay (goodIn_r (big := lw_tbl) _ [257, 259, 261, 263, 265, 267, 269, 271, 273] (by decide +kernel) (by decide +kernel))
theorem kinX7 : ∀ w ∈ wsX70, w ∈ k_ws := k_lay (goodIn_r (big := lw_tbl) _ [696, 698, 700, 702, 704, 706, 708, 710, 712, 714, 716, 718, 720, 722, 724, 726, 728, 730, 732, 734, 736, 738, 740, 742, 744, 746, 748, 750, 752, 754, 756] (by decide +kernel) (by decide +kernel))
end
section
/-! ===== k: a layer of own rows. 'KO .. pc L st σ o': from the machine state (pc, locals L, stack st, world σ) the method ends as o says, if o says anything ===== -/
-- pure words
def k_gd {α : Type} (i : Int32) (n : Nat) (o : Option α) : Option α := if i < 0 ∨ n ≤ i.toNatClampNeg then none else o
def k_bn {α β : Type} (x : α) (k : α → β) : β := k x
def k_ob {α β γ : Type} (o : Option (α × β)) (k : α → β → Option γ) : Option γ := match o with | none => none | some a => k a.1 a.2
def k_mx (x y : Int32) : Int32 := if x < y then y else x
def k_z {α : Type} (x : Int32) (o : Option α) : Option α := if x = 0 then o else if x = 1 then o else none
def k_gc {α : Type} (sp dp n : Int32) (n0 n1 : Nat) (o : Option α) : Option α := if sp < 0 ∨ dp < 0 ∨ n < 0 ∨ n0 < sp.toNatClampNeg + n.toNatClampNeg ∨ n1 < dp.toNatClampNeg + n.toNatClampNeg then none else o
-- one room for numbers: fields by number, arrays by number
abbrev k_S : Type := (Nat → Int32) × (Nat → Nat → Int32)
def k_up {α : Type} (f : Nat → α) (k : Nat) (v : α) : Nat → α := fun j => if j = k then v else f j
def k_sf (σ : k_S) (k : Nat) (v : Int32) : k_S := (k_up σ.1 k v, σ.2)
def k_sA (σ : k_S) (a : Nat) (g : Nat → Int32) : k_S := (σ.1, k_up σ.2 a g)
def k_sa (σ : k_S) (a : Nat) (i v : Int32) : k_S := k_sA σ a (upd (σ.2 a) i.toNatClampNeg v)
def k_sc (σ : k_S) (a0 a1 : Nat) (sp dp n : Int32) : k_S := k_sA σ a1 (va_cpy (σ.2 a0) (σ.2 a1) sp.toNatClampNeg dp.toNatClampNeg n.toNatClampNeg)
-- the run of a method: all that stays the same while it runs
abbrev k_C : Type := (Program × Launch × Env × State × MethodId × Array Value) × (List Frame × Method × Code × va_G × ClassId × (Nat → Prop)) × Room
def k_p (X : k_C) : Program := X.1.1
def k_l (X : k_C) : Launch := X.1.2.1
def k_e (X : k_C) : Env := X.1.2.2.1
def k_s (X : k_C) : State := X.1.2.2.2.1
def k_m (X : k_C) : MethodId := X.1.2.2.2.2.1
def k_a (X : k_C) : Array Value := X.1.2.2.2.2.2
def k_b (X : k_C) : List Frame := X.2.1.1
def k_M (X : k_C) : Method := X.2.1.2.1
def k_c (X : k_C) : Code := X.2.1.2.2.1
def k_D (X : k_C) : va_G := X.2.1.2.2.2.1
def k_I (X : k_C) : ClassId := X.2.1.2.2.2.2.1
def k_A (X : k_C) : Nat → Prop := X.2.1.2.2.2.2.2
def k_R (X : k_C) : Room := X.2.2
-- a method: its room, code, number of locals, class, answer's type
abbrev k_Y : Type := Room × ByteArray × Nat × String × Option FieldType
def k_W (X : k_C) (H : Heap) (locs : List Loc) (kc ks : Nat) (Q : State → Prop) (g : JFrame) : Prop := W (k_p X) (k_l X) (k_e X) (k_R X) (k_s X) (k_m X) (k_a X) (k_b X) (k_M X) (k_c X) H locs kc ks Q g
-- the locals: what is held at each place, of one word each
def k_L (ls : Array Slot) (nL : Nat) (L : List (Option Value)) : Prop := ls.size = nL ∧ lv_wf ls ∧ ∀ (i : Nat) (v : Value), L[i]? = some (some v) → ls[i]? = some (.val v) ∧ v.category = 1
def k_same {S : Type} (cw : S → va_W) : Prop := ∀ (σ τ : S) (k : Nat) (q : Nat × va_E), (cw σ)[k]? = some q → ∃ e : va_E, (cw τ)[k]? = some (q.1, e)
def k_G {S : Type} (X : k_C) (Y : k_Y) (cw : S → va_W) : Prop :=
  (k_p X).tables.exec = Jvm.exec ∧ (k_c X).code = Y.2.1 ∧ (k_c X).maxLocals = Y.2.2.1 ∧ (k_s X).vm.findClass Y.2.2.2.1 = some (k_m X).cls ∧ (∀ w ∈ k_ws, w.before (k_a X) (k_s X) = true) ∧ va_K (k_D X) vwCl [(k_I X, .int)] (k_s X) ∧ (∀ q, (k_s X).heap.size ≤ q → k_A X q) ∧ (∀ σ, va_D (k_A X) (cw σ)) ∧ k_R X = Y.1 ∧ (k_M X).locks = false ∧ (k_M X).sig.returnType = Y.2.2.2.2
def KO {S Rt : Type} (X : k_C) (Y : k_Y) (cw : S → va_W) (kc ks : Nat) (Q : Rt → S → State → Prop) (pc : Nat) (L : List (Option Value)) (st : List Value) (σ : S) (o : Option (Rt × S)) : Prop :=
  k_G X Y cw → ∀ (r : Rt) (σ' : S), o = some (r, σ') → ∀ (H : Heap) (locs : List Loc) (ls : Array Slot), va_P (k_D X) vwCl (cw σ) H → va_S (k_A X) (k_s X).heap H locs → k_L ls Y.2.2.1 L → k_W X H locs kc ks (Q r σ') (F0 (k_m X) pc ls st)
def k_Q {S Rt : Type} (emb : Rt → Option Value) (X : k_C) (cw : S → va_W) (r : Rt) (σ' : S) : State → Prop :=
  MQ (k_b X) (fun _ st oc t => (oc = .returned (emb r) ∧ va_P (k_D X) vwCl (cw σ') t.heap) ∧ va_F (k_A X) st t) (k_a X) (k_s X) 0 0 (k_A X)
abbrev k_ei : Int32 → Option Value := fun r => some (.int r)
abbrev k_ev : Unit → Option Value := fun _ => none
abbrev k_el : Int64 → Option Value := fun r => some (.long r)
-- locals
theorem k_L.at {ls : Array Slot} {nL : Nat} {L : List (Option Value)} (h : k_L ls nL L) {i : Nat} {v : Value} (hi : L[i]? = some (some v)) : ls[i]? = some (.val v) := (h.2.2 i v hi).1
theorem k_pairs (L : List (Option Value)) (q : Nat × Value) : q ∈ (List.range L.length).filterMap (fun j => (L[j]?.join).map (fun v => (j, v))) ↔ L[q.1]? = some (some q.2) := by
  constructor
  · intro hq
    obtain ⟨j, -, hj⟩ := List.mem_filterMap.mp hq
    cases hL : L[j]? with
    | none => rw [hL] at hj; cases hj
    | some o =>
      rw [hL] at hj
      cases o with
      | none => cases hj
      | some v => cases hj; exact hL
  · intro hj
    exact List.mem_filterMap.mpr ⟨q.1, List.mem_range.mpr (List.getElem?_eq_some_iff.mp hj).1, by rw [hj]; rfl⟩
theorem k_L.of_has {ls ls' : Array Slot} {nL : Nat} {L : List (Option Value)} (h : k_L ls nL L) {i : Nat} {v : Value} (h2 : lv_has ls' nL ((i, v) :: ((List.range L.length).filterMap (fun j => (L[j]?.join).map (fun v => (j, v)))).filter (fun q => !(q.1 == i) && !(q.1 + 1 == i && q.2.category == 2)))) (hc : v.category = 1) : k_L ls' nL (L.set i (some v)) := by
  refine ⟨h2.1, h2.2.1, fun j w hj => ?_⟩
  by_cases hji : j = i
  · subst hji
    have hw : w = v := by
      rw [List.getElem?_set] at hj
      by_cases hlt : j < L.length
      · simp [hlt] at hj; exact hj.symm
      · simp [hlt] at hj
    subst hw
    exact ⟨h2.2.2 (j, w) List.mem_cons_self, hc⟩
  · rw [List.getElem?_set_ne (Ne.symm hji)] at hj
    have hcw := (h.2.2 j w hj).2
    refine ⟨h2.2.2 (j, w) (List.mem_cons_of_mem _ (List.mem_filter.mpr ⟨(k_pairs L (j, w)).mpr hj, ?_⟩)), hcw⟩
    simp [hji, hcw]
theorem k_L.fg {ls : Array Slot} {nL : Nat} {L : List (Option Value)} (i : Nat) (h : k_L ls nL L) : k_L ls nL (L.set i none) := by
  refine ⟨h.1, h.2.1, fun j w hj => h.2.2 j w ?_⟩
  by_cases hji : j = i
  · subst hji
    rw [List.getElem?_set] at hj
    by_cases hlt : j < L.length <;> simp [hlt] at hj
  · rwa [List.getElem?_set_ne (Ne.symm hji)] at hj
theorem k_L.entry (vs : List Value) {n : Nat} (h : vs.length ≤ n) (hc : ∀ v ∈ vs, v.category = 1) : k_L ((lg_sl vs ++ List.replicate (n - (lg_sl vs).length) Slot.unset).toArray) n (vs.map some ++ List.replicate (n - vs.length) none) := by
  have hsl : ∀ us : List Value, (∀ v ∈ us, v.category = 1) → lg_sl us = us.map Slot.val := by
    intro us
    induction us with
    | nil => intro _; rfl
    | cons u us ih =>
      intro hu
      have h1 : ¬ u.category = 2 := by rw [hu u List.mem_cons_self]; decide
      have h2 := ih (fun v hv => hu v (List.mem_cons_of_mem _ hv))
      show (if u.category = 2 then [Slot.val u, .second] else [.val u]) ++ lg_sl us = _
      rw [if_neg h1, h2]; rfl
  have e := hsl vs hc
  have hlen : (lg_sl vs).length = vs.length := by rw [e, List.length_map]
  have h0 := lv_entry vs (n := n) (by rw [hlen]; exact h)
  refine ⟨h0.1, h0.2.1, fun i v hi => ?_⟩
  have hlt : i < vs.length := by
    rcases Nat.lt_or_ge i vs.length with q | q
    · exact q
    · rw [List.getElem?_append_right (by simpa using q)] at hi
      simp [List.getElem?_replicate] at hi
  rw [List.getElem?_append_left (by simpa using hlt), List.getElem?_map] at hi
  cases hv : vs[i]? with
  | none => rw [hv] at hi; cases hi
  | some u =>
    rw [hv] at hi
    cases hi
    refine ⟨?_, hc v (List.mem_of_getElem? hv)⟩
    rw [e]
    rw [List.getElem?_toArray, List.getElem?_append_left (by simpa using hlt), List.getElem?_map, hv]
    rfl
section KR
variable {S Rt : Type} {X : k_C} {Y : k_Y} {cw : S → va_W} {kc ks : Nat} {Q : Rt → S → State → Prop} {pc pc' : Nat} {L L' : List (Option Value)} {st st' : List Value} {σ : S} {o o1 o2 : Option (Rt × S)}
theorem KO.lift (h : k_G X Y cw → ∀ (H : Heap) (locs : List Loc) (ls : Array Slot) (Q' : State → Prop), va_P (k_D X) vwCl (cw σ) H → va_S (k_A X) (k_s X).heap H locs → k_L ls Y.2.2.1 L → k_W X H locs kc ks Q' (F0 (k_m X) pc' ls st') → k_W X H locs kc ks Q' (F0 (k_m X) pc ls st)) (kk : KO X Y cw kc ks Q pc' L st' σ o) : KO X Y cw kc ks Q pc L st σ o :=
  fun g r σ' ho H locs ls hP hS hL => h g H locs ls _ hP hS hL (kk g r σ' ho H locs ls hP hS hL)
theorem KO.nil : KO X Y cw kc ks Q pc L st σ Option.none := fun _ _ _ ho => by cases ho
theorem KO.at (h : pc' = pc) (kk : KO X Y cw kc ks Q pc L st σ o) : KO X Y cw kc ks Q pc' L st σ o := h ▸ kk
theorem KO.fg (i : Nat) (kk : KO X Y cw kc ks Q pc (L.set i none) st σ o) : KO X Y cw kc ks Q pc L st σ o := fun g r σ' ho H locs ls hP hS hL => kk g r σ' ho H locs ls hP hS (hL.fg i)
theorem KO.ite {c : Prop} [Decidable c] (k1 : c → KO X Y cw kc ks Q pc L st σ o1) (k2 : ¬ c → KO X Y cw kc ks Q pc L st σ o2) : KO X Y cw kc ks Q pc L st σ (if c then o1 else o2) := by
  by_cases h : c
  · rw [if_pos h]; exact k1 h
  · rw [if_neg h]; exact k2 h
theorem k_iconst {n : Int} {v : Int32} (hd : decode Y.2.1 pc = .ok (.iconst n, 1)) (hv : Int32.ofInt n = v) (kk : KO X Y cw kc ks Q (pc + 1) L (.int v :: st) σ o) : KO X Y cw kc ks Q pc L st σ o :=
  kk.lift fun g _ _ _ _ _ _ _ k => lv_iconst g.1 g.2.1 hd hv k
theorem k_bipush {n : Int} {v : Int32} (hd : decode Y.2.1 pc = .ok (.bipush n, 2)) (hv : (Int8.ofInt n).toInt32 = v) (kk : KO X Y cw kc ks Q (pc + 2) L (.int v :: st) σ o) : KO X Y cw kc ks Q pc L st σ o :=
  kk.lift fun g _ _ _ _ _ _ _ k => lv_bipush g.1 g.2.1 hd hv k
theorem k_sipush {n : Int} {v : Int32} (hd : decode Y.2.1 pc = .ok (.sipush n, 3)) (hv : (Int16.ofInt n).toInt32 = v) (kk : KO X Y cw kc ks Q (pc + 3) L (.int v :: st) σ o) : KO X Y cw kc ks Q pc L st σ o :=
  kk.lift fun g _ _ _ _ _ _ _ k => lv_sipush g.1 g.2.1 hd hv k
theorem k_ldc2 {index : Nat} {v : Int64} (hw : Cond.constantLong Y.2.2.2.1 index v ∈ k_ws) (hd : decode Y.2.1 pc = .ok (.ldc2_w index, 3)) (kk : KO X Y cw kc ks Q (pc + 3) L (.long v :: st) σ o) : KO X Y cw kc ks Q pc L st σ o :=
  kk.lift fun g _ _ _ _ _ _ _ k => lv_ldc2 g.1 g.2.1 g.2.2.2.1 (g.2.2.2.2.1 _ hw) hd k
theorem k_iload_n {i : Fin 4} {x : Int32} (hd : decode Y.2.1 pc = .ok (.iload_n i, 1)) (hL : L[(i : Nat)]? = some (some (.int x))) (kk : KO X Y cw kc ks Q (pc + 1) L (.int x :: st) σ o) : KO X Y cw kc ks Q pc L st σ o :=
  kk.lift fun g _ _ _ _ _ _ h k => lv_iload_n g.1 g.2.1 hd rfl (h.at hL) k
theorem k_iload {i : Nat} {x : Int32} (hd : decode Y.2.1 pc = .ok (.iload i, 2)) (hL : L[i]? = some (some (.int x))) (kk : KO X Y cw kc ks Q (pc + 2) L (.int x :: st) σ o) : KO X Y cw kc ks Q pc L st σ o :=
  kk.lift fun g _ _ _ _ _ _ h k => lv_iload g.1 g.2.1 hd (h.at hL) k
theorem k_aload_n {i : Fin 4} {x : Nat} (hd : decode Y.2.1 pc = .ok (.aload_n i, 1)) (hL : L[(i : Nat)]? = some (some (.ref x))) (kk : KO X Y cw kc ks Q (pc + 1) L (.ref x :: st) σ o) : KO X Y cw kc ks Q pc L st σ o :=
  kk.lift fun g _ _ _ _ _ _ h k => lv_aload_n g.1 g.2.1 hd rfl (h.at hL) k
theorem k_aload {i : Nat} {x : Nat} (hd : decode Y.2.1 pc = .ok (.aload i, 2)) (hL : L[i]? = some (some (.ref x))) (kk : KO X Y cw kc ks Q (pc + 2) L (.ref x :: st) σ o) : KO X Y cw kc ks Q pc L st σ o :=
  kk.lift fun g _ _ _ _ _ _ h k => lv_aload g.1 g.2.1 hd (h.at hL) k
theorem k_iadd {x y : Int32} (hd : decode Y.2.1 pc = .ok (.iadd, 1)) (kk : KO X Y cw kc ks Q (pc + 1) L (.int (x + y) :: st) σ o) : KO X Y cw kc ks Q pc L (.int y :: .int x :: st) σ o :=
  kk.lift fun g _ _ _ _ _ _ _ k => lv_iadd g.1 g.2.1 hd k
theorem k_isub {x y : Int32} (hd : decode Y.2.1 pc = .ok (.isub, 1)) (kk : KO X Y cw kc ks Q (pc + 1) L (.int (x - y) :: st) σ o) : KO X Y cw kc ks Q pc L (.int y :: .int x :: st) σ o :=
  kk.lift fun g _ _ _ _ _ _ _ k => lv_isub g.1 g.2.1 hd k
theorem k_imul {x y : Int32} (hd : decode Y.2.1 pc = .ok (.imul, 1)) (kk : KO X Y cw kc ks Q (pc + 1) L (.int (x * y) :: st) σ o) : KO X Y cw kc ks Q pc L (.int y :: .int x :: st) σ o :=
  kk.lift fun g _ _ _ _ _ _ _ k => lv_imul g.1 g.2.1 hd k
theorem k_iand {x y : Int32} (hd : decode Y.2.1 pc = .ok (.iand, 1)) (kk : KO X Y cw kc ks Q (pc + 1) L (.int (x &&& y) :: st) σ o) : KO X Y cw kc ks Q pc L (.int y :: .int x :: st) σ o :=
  kk.lift fun g _ _ _ _ _ _ _ k => lv_iand g.1 g.2.1 hd k
theorem k_ior {x y : Int32} (hd : decode Y.2.1 pc = .ok (.ior, 1)) (kk : KO X Y cw kc ks Q (pc + 1) L (.int (x ||| y) :: st) σ o) : KO X Y cw kc ks Q pc L (.int y :: .int x :: st) σ o :=
  kk.lift fun g _ _ _ _ _ _ _ k => lv_ior g.1 g.2.1 hd k
theorem k_ishl {x y : Int32} (hd : decode Y.2.1 pc = .ok (.ishl, 1)) (kk : KO X Y cw kc ks Q (pc + 1) L (.int (x <<< (y &&& 31)) :: st) σ o) : KO X Y cw kc ks Q pc L (.int y :: .int x :: st) σ o :=
  kk.lift fun g _ _ _ _ _ _ _ k => lv_ishl g.1 g.2.1 hd k
theorem k_idiv {x y : Int32} (hd : decode Y.2.1 pc = .ok (.idiv, 1)) (hne : ¬ y = 0) (kk : KO X Y cw kc ks Q (pc + 1) L (.int (x / y) :: st) σ o) : KO X Y cw kc ks Q pc L (.int y :: .int x :: st) σ o :=
  kk.lift fun g _ _ _ _ _ _ _ k => lv_idiv g.1 g.2.1 hd hne k
theorem k_irem {x y : Int32} (hd : decode Y.2.1 pc = .ok (.irem, 1)) (hne : ¬ y = 0) (kk : KO X Y cw kc ks Q (pc + 1) L (.int (x - x / y * y) :: st) σ o) : KO X Y cw kc ks Q pc L (.int y :: .int x :: st) σ o :=
  kk.lift fun g _ _ _ _ _ _ _ k => lv_irem g.1 g.2.1 hd hne k
theorem k_i2l {x : Int32} (hd : decode Y.2.1 pc = .ok (.i2l, 1)) (kk : KO X Y cw kc ks Q (pc + 1) L (.long x.toInt64 :: st) σ o) : KO X Y cw kc ks Q pc L (.int x :: st) σ o :=
  kk.lift fun g _ _ _ _ _ _ _ k => lv_i2l g.1 g.2.1 hd rfl k
theorem k_i2b {x : Int32} (hd : decode Y.2.1 pc = .ok (.i2b, 1)) (kk : KO X Y cw kc ks Q (pc + 1) L (.int x.toInt8.toInt32 :: st) σ o) : KO X Y cw kc ks Q pc L (.int x :: st) σ o :=
  kk.lift fun g _ _ _ _ _ _ _ k => lv_i2b g.1 g.2.1 hd rfl k
theorem k_i2s {x : Int32} (hd : decode Y.2.1 pc = .ok (.i2s, 1)) (kk : KO X Y cw kc ks Q (pc + 1) L (.int x.toInt16.toInt32 :: st) σ o) : KO X Y cw kc ks Q pc L (.int x :: st) σ o :=
  kk.lift fun g _ _ _ _ _ _ _ k => lv_i2s g.1 g.2.1 hd rfl k
theorem k_dup {a : Value} (hd : decode Y.2.1 pc = .ok (.dup, 1)) (hc : a.category = 1) (kk : KO X Y cw kc ks Q (pc + 1) L (a :: a :: st) σ o) : KO X Y cw kc ks Q pc L (a :: st) σ o :=
  kk.lift fun g _ _ _ _ _ _ _ k => lv_dup g.1 g.2.1 hd hc k
theorem k_dup2 {a b : Value} (hd : decode Y.2.1 pc = .ok (.dup2, 1)) (hc : a.category = 1) (hc2 : b.category = 1) (kk : KO X Y cw kc ks Q (pc + 1) L (a :: b :: a :: b :: st) σ o) : KO X Y cw kc ks Q pc L (a :: b :: st) σ o :=
  kk.lift fun g _ _ _ _ _ _ _ k => lv_dup2_11 g.1 g.2.1 hd hc hc2 k
theorem k_lcmp {x y : Int64} (hd : decode Y.2.1 pc = .ok (.lcmp, 1)) (kk : KO X Y cw kc ks Q (pc + 1) L (.int (lg_cmp x y) :: st) σ o) : KO X Y cw kc ks Q pc L (.long y :: .long x :: st) σ o :=
  kk.lift fun g _ _ _ _ _ _ _ k => W.lcmp g.1 g.2.1 hd k
theorem k_goto {off : Int} (tgt : Nat) (hd : decode Y.2.1 pc = .ok (.goto off, 3)) (ht : (pc : Int) + off = (tgt : Int)) (kk : KO X Y cw kc ks Q tgt L st σ o) : KO X Y cw kc ks Q pc L st σ o :=
  kk.lift fun g _ _ _ _ _ _ _ k => lv_goto g.1 g.2.1 hd ht k
end KR
end
section
/-! ===== k, second part: branches, stores, fields, arrays, ends (by program: wip/gen/k2.py) ===== -/
section KR2
variable {S Rt : Type} {X : k_C} {Y : k_Y} {cw : S → va_W} {kc ks : Nat} {Q : Rt → S → State → Prop} {pc pc' : Nat} {L L' : List (Option Value)} {st st' : List Value} {σ : S} {o o1 o2 : Option (Rt × S)}
theorem k_if_eq {x : Int32} {off : Int} (tgt : Nat) (hd : decode Y.2.1 pc = .ok (.ifCond .eq off, 3)) (ht : (pc : Int) + off = (tgt : Int)) (kt : KO X Y cw kc ks Q tgt L st σ o1) (kf : KO X Y cw kc ks Q (pc + 3) L st σ o2) : KO X Y cw kc ks Q pc L (.int x :: st) σ (if x = 0 then o1 else o2) := by
  intro g r σ' ho H locs ls hP hS hL
  by_cases hc : x = 0
  · rw [if_pos hc] at ho
    exact lv_if_eq g.1 g.2.1 hd ht (fun _ => kt g r σ' ho H locs ls hP hS hL) (fun q => absurd hc q)
  · rw [if_neg hc] at ho
    exact lv_if_eq g.1 g.2.1 hd ht (fun q => absurd q hc) (fun _ => kf g r σ' ho H locs ls hP hS hL)
theorem k_if_ne {x : Int32} {off : Int} (tgt : Nat) (hd : decode Y.2.1 pc = .ok (.ifCond .ne off, 3)) (ht : (pc : Int) + off = (tgt : Int)) (kt : KO X Y cw kc ks Q tgt L st σ o1) (kf : KO X Y cw kc ks Q (pc + 3) L st σ o2) : KO X Y cw kc ks Q pc L (.int x :: st) σ (if x = 0 then o2 else o1) := by
  intro g r σ' ho H locs ls hP hS hL
  by_cases hc : x = 0
  · rw [if_pos hc] at ho
    exact lv_if_ne g.1 g.2.1 hd ht (fun q => absurd hc q) (fun _ => kf g r σ' ho H locs ls hP hS hL)
  · rw [if_neg hc] at ho
    exact lv_if_ne g.1 g.2.1 hd ht (fun _ => kt g r σ' ho H locs ls hP hS hL) (fun q => absurd q hc)
theorem k_if_lt {x : Int32} {off : Int} (tgt : Nat) (hd : decode Y.2.1 pc = .ok (.ifCond .lt off, 3)) (ht : (pc : Int) + off = (tgt : Int)) (kt : KO X Y cw kc ks Q tgt L st σ o1) (kf : KO X Y cw kc ks Q (pc + 3) L st σ o2) : KO X Y cw kc ks Q pc L (.int x :: st) σ (if x < 0 then o1 else o2) := by
  intro g r σ' ho H locs ls hP hS hL
  by_cases hc : x < 0
  · rw [if_pos hc] at ho
    exact lv_if_lt g.1 g.2.1 hd ht (fun _ => kt g r σ' ho H locs ls hP hS hL) (fun q => absurd hc q)
  · rw [if_neg hc] at ho
    exact lv_if_lt g.1 g.2.1 hd ht (fun q => absurd q hc) (fun _ => kf g r σ' ho H locs ls hP hS hL)
theorem k_if_ge {x : Int32} {off : Int} (tgt : Nat) (hd : decode Y.2.1 pc = .ok (.ifCond .ge off, 3)) (ht : (pc : Int) + off = (tgt : Int)) (kt : KO X Y cw kc ks Q tgt L st σ o1) (kf : KO X Y cw kc ks Q (pc + 3) L st σ o2) : KO X Y cw kc ks Q pc L (.int x :: st) σ (if x < 0 then o2 else o1) := by
  intro g r σ' ho H locs ls hP hS hL
  by_cases hc : x < 0
  · rw [if_pos hc] at ho
    exact lv_if_ge g.1 g.2.1 hd ht (fun q => absurd hc (Int32.not_lt.mpr q)) (fun _ => kf g r σ' ho H locs ls hP hS hL)
  · rw [if_neg hc] at ho
    exact lv_if_ge g.1 g.2.1 hd ht (fun _ => kt g r σ' ho H locs ls hP hS hL) (fun q => absurd (Int32.not_le.mp q) hc)
theorem k_if_gt {x : Int32} {off : Int} (tgt : Nat) (hd : decode Y.2.1 pc = .ok (.ifCond .gt off, 3)) (ht : (pc : Int) + off = (tgt : Int)) (kt : KO X Y cw kc ks Q tgt L st σ o1) (kf : KO X Y cw kc ks Q (pc + 3) L st σ o2) : KO X Y cw kc ks Q pc L (.int x :: st) σ (if 0 < x then o1 else o2) := by
  intro g r σ' ho H locs ls hP hS hL
  by_cases hc : 0 < x
  · rw [if_pos hc] at ho
    exact lv_if_gt g.1 g.2.1 hd ht (fun _ => kt g r σ' ho H locs ls hP hS hL) (fun q => absurd hc q)
  · rw [if_neg hc] at ho
    exact lv_if_gt g.1 g.2.1 hd ht (fun q => absurd q hc) (fun _ => kf g r σ' ho H locs ls hP hS hL)
theorem k_if_le {x : Int32} {off : Int} (tgt : Nat) (hd : decode Y.2.1 pc = .ok (.ifCond .le off, 3)) (ht : (pc : Int) + off = (tgt : Int)) (kt : KO X Y cw kc ks Q tgt L st σ o1) (kf : KO X Y cw kc ks Q (pc + 3) L st σ o2) : KO X Y cw kc ks Q pc L (.int x :: st) σ (if 0 < x then o2 else o1) := by
  intro g r σ' ho H locs ls hP hS hL
  by_cases hc : 0 < x
  · rw [if_pos hc] at ho
    exact lv_if_le g.1 g.2.1 hd ht (fun q => absurd hc (Int32.not_lt.mpr q)) (fun _ => kf g r σ' ho H locs ls hP hS hL)
  · rw [if_neg hc] at ho
    exact lv_if_le g.1 g.2.1 hd ht (fun _ => kt g r σ' ho H locs ls hP hS hL) (fun q => absurd (Int32.not_le.mp q) hc)
theorem k_icmp_eq {x y : Int32} {off : Int} (tgt : Nat) (hd : decode Y.2.1 pc = .ok (.if_icmp .eq off, 3)) (ht : (pc : Int) + off = (tgt : Int)) (kt : KO X Y cw kc ks Q tgt L st σ o1) (kf : KO X Y cw kc ks Q (pc + 3) L st σ o2) : KO X Y cw kc ks Q pc L (.int y :: .int x :: st) σ (if x = y then o1 else o2) := by
  intro g r σ' ho H locs ls hP hS hL
  by_cases hc : x = y
  · rw [if_pos hc] at ho
    exact lv_icmp_eq g.1 g.2.1 hd ht (fun _ => kt g r σ' ho H locs ls hP hS hL) (fun q => absurd hc q)
  · rw [if_neg hc] at ho
    exact lv_icmp_eq g.1 g.2.1 hd ht (fun q => absurd q hc) (fun _ => kf g r σ' ho H locs ls hP hS hL)
theorem k_icmp_ne {x y : Int32} {off : Int} (tgt : Nat) (hd : decode Y.2.1 pc = .ok (.if_icmp .ne off, 3)) (ht : (pc : Int) + off = (tgt : Int)) (kt : KO X Y cw kc ks Q tgt L st σ o1) (kf : KO X Y cw kc ks Q (pc + 3) L st σ o2) : KO X Y cw kc ks Q pc L (.int y :: .int x :: st) σ (if x = y then o2 else o1) := by
  intro g r σ' ho H locs ls hP hS hL
  by_cases hc : x = y
  · rw [if_pos hc] at ho
    exact lv_icmp_ne g.1 g.2.1 hd ht (fun q => absurd hc q) (fun _ => kf g r σ' ho H locs ls hP hS hL)
  · rw [if_neg hc] at ho
    exact lv_icmp_ne g.1 g.2.1 hd ht (fun _ => kt g r σ' ho H locs ls hP hS hL) (fun q => absurd q hc)
theorem k_icmp_lt {x y : Int32} {off : Int} (tgt : Nat) (hd : decode Y.2.1 pc = .ok (.if_icmp .lt off, 3)) (ht : (pc : Int) + off = (tgt : Int)) (kt : KO X Y cw kc ks Q tgt L st σ o1) (kf : KO X Y cw kc ks Q (pc + 3) L st σ o2) : KO X Y cw kc ks Q pc L (.int y :: .int x :: st) σ (if x < y then o1 else o2) := by
  intro g r σ' ho H locs ls hP hS hL
  by_cases hc : x < y
  · rw [if_pos hc] at ho
    exact lv_icmp_lt g.1 g.2.1 hd ht (fun _ => kt g r σ' ho H locs ls hP hS hL) (fun q => absurd hc q)
  · rw [if_neg hc] at ho
    exact lv_icmp_lt g.1 g.2.1 hd ht (fun q => absurd q hc) (fun _ => kf g r σ' ho H locs ls hP hS hL)
theorem k_icmp_ge {x y : Int32} {off : Int} (tgt : Nat) (hd : decode Y.2.1 pc = .ok (.if_icmp .ge off, 3)) (ht : (pc : Int) + off = (tgt : Int)) (kt : KO X Y cw kc ks Q tgt L st σ o1) (kf : KO X Y cw kc ks Q (pc + 3) L st σ o2) : KO X Y cw kc ks Q pc L (.int y :: .int x :: st) σ (if x < y then o2 else o1) := by
  intro g r σ' ho H locs ls hP hS hL
  by_cases hc : x < y
  · rw [if_pos hc] at ho
    exact lv_icmp_ge g.1 g.2.1 hd ht (fun q => absurd hc (Int32.not_lt.mpr q)) (fun _ => kf g r σ' ho H locs ls hP hS hL)
  · rw [if_neg hc] at ho
    exact lv_icmp_ge g.1 g.2.1 hd ht (fun _ => kt g r σ' ho H locs ls hP hS hL) (fun q => absurd (Int32.not_le.mp q) hc)
theorem k_icmp_gt {x y : Int32} {off : Int} (tgt : Nat) (hd : decode Y.2.1 pc = .ok (.if_icmp .gt off, 3)) (ht : (pc : Int) + off = (tgt : Int)) (kt : KO X Y cw kc ks Q tgt L st σ o1) (kf : KO X Y cw kc ks Q (pc + 3) L st σ o2) : KO X Y cw kc ks Q pc L (.int y :: .int x :: st) σ (if y < x then o1 else o2) := by
  intro g r σ' ho H locs ls hP hS hL
  by_cases hc : y < x
  · rw [if_pos hc] at ho
    exact lv_icmp_gt g.1 g.2.1 hd ht (fun _ => kt g r σ' ho H locs ls hP hS hL) (fun q => absurd hc q)
  · rw [if_neg hc] at ho
    exact lv_icmp_gt g.1 g.2.1 hd ht (fun q => absurd q hc) (fun _ => kf g r σ' ho H locs ls hP hS hL)
theorem k_icmp_le {x y : Int32} {off : Int} (tgt : Nat) (hd : decode Y.2.1 pc = .ok (.if_icmp .le off, 3)) (ht : (pc : Int) + off = (tgt : Int)) (kt : KO X Y cw kc ks Q tgt L st σ o1) (kf : KO X Y cw kc ks Q (pc + 3) L st σ o2) : KO X Y cw kc ks Q pc L (.int y :: .int x :: st) σ (if y < x then o2 else o1) := by
  intro g r σ' ho H locs ls hP hS hL
  by_cases hc : y < x
  · rw [if_pos hc] at ho
    exact lv_icmp_le g.1 g.2.1 hd ht (fun q => absurd hc (Int32.not_lt.mpr q)) (fun _ => kf g r σ' ho H locs ls hP hS hL)
  · rw [if_neg hc] at ho
    exact lv_icmp_le g.1 g.2.1 hd ht (fun _ => kt g r σ' ho H locs ls hP hS hL) (fun q => absurd (Int32.not_le.mp q) hc)
theorem k_lookup {dflt : Int} {ps : Array (Int × Int)} {len : Nat} {x : Int32} {off : Int} (tgt : Nat) (hd : decode Y.2.1 pc = .ok (.lookupswitch dflt ps, len)) (hp : (ps.toList.zip (ps.toList.drop 1)).all (fun (a, next) => a.1 < next.1) = true) (ho : Op.lookupswitch.offset ps.toList dflt x.toInt = off) (ht : (pc : Int) + off = (tgt : Int)) (kk : KO X Y cw kc ks Q tgt L st σ o) : KO X Y cw kc ks Q pc L (.int x :: st) σ o :=
  kk.lift fun g _ _ _ _ _ _ _ k => lv_lookup g.1 g.2.1 hd hp ho ht k
theorem k_tableOut {dflt lo hi : Int} {offs : Array Int} {len : Nat} {x : Int32} (tgt : Nat) (hd : decode Y.2.1 pc = .ok (.tableswitch dflt lo hi offs, len)) (h : x.toInt < lo ∨ hi < x.toInt) (ht : (pc : Int) + dflt = (tgt : Int)) (kk : KO X Y cw kc ks Q tgt L st σ o) : KO X Y cw kc ks Q pc L (.int x :: st) σ o :=
  kk.lift fun g _ _ _ _ _ _ _ k => lv_tableOut g.1 g.2.1 hd h ht k
theorem k_tableIn {dflt lo hi : Int} {offs : Array Int} {len : Nat} {x v : Int32} {off : Int} (tgt : Nat) (hd : decode Y.2.1 pc = .ok (.tableswitch dflt lo hi offs, len)) (hx : x = v) (h1 : lo ≤ v.toInt) (h2 : v.toInt ≤ hi) (ho : offs[(v.toInt - lo).toNat]? = some off) (ht : (pc : Int) + off = (tgt : Int)) (kk : KO X Y cw kc ks Q tgt L st σ o) : KO X Y cw kc ks Q pc L (.int x :: st) σ o := by
  subst hx
  exact kk.lift fun g _ _ _ _ _ _ _ k => lv_tableIn g.1 g.2.1 hd (by omega) (by omega) ho ht k
theorem k_set (i : Nat) {v : Value} {pc' : Nat} {k : Rt → S → State → Prop} (hi : i < Y.2.2.1) (hc : v.category = 1) (hst : k_G X Y cw → ∀ (H : Heap) (locs : List Loc) (ls : Array Slot) (Q' : State → Prop), k_L ls Y.2.2.1 L → (∀ ls' : Array Slot, k_L ls' Y.2.2.1 (L.set i (some v)) → k_W X H locs kc ks Q' (F0 (k_m X) pc' ls' st')) → k_W X H locs kc ks Q' (F0 (k_m X) pc ls st)) (kk : KO X Y cw kc ks Q pc' (L.set i (some v)) st' σ o) : KO X Y cw kc ks Q pc L st σ o :=
  fun g r σ' ho H locs ls hP hS hL => hst g H locs ls _ hL (fun ls' hL' => kk g r σ' ho H locs ls' hP hS hL')
theorem k_istG (i : Nat) {x : Int32} (hd : (∃ k : Fin 4, decode Y.2.1 pc = .ok (.istore_n k, 1) ∧ (k : Nat) = i ∧ pc' = pc + 1) ∨ (decode Y.2.1 pc = .ok (.istore i, 2) ∧ pc' = pc + 2)) (hi : i < Y.2.2.1) (kk : KO X Y cw kc ks Q pc' (L.set i (some (.int x))) st σ o) : KO X Y cw kc ks Q pc L (.int x :: st) σ o := by
  intro g r σ' ho H locs ls hP hS hL
  let l : List (Nat × Value) := (List.range L.length).filterMap (fun j => (L[j]?.join).map (fun v => (j, v)))
  have hm : ∀ q : Nat × Value, q ∈ l ↔ L[q.1]? = some (some q.2) := k_pairs L
  have hl : lv_has ls Y.2.2.1 l := ⟨hL.1, hL.2.1, fun q hq => (hL.2.2 _ _ ((hm q).mp hq)).1⟩
  have fin : ∀ ls' : Array Slot, lv_has ls' Y.2.2.1 ((i, Value.int x) :: l.filter (fun q => !(q.1 == i) && !(q.1 + 1 == i && q.2.category == 2))) → k_W X H locs kc ks (Q r σ') (F0 (k_m X) pc' ls' st) := fun ls' h2 => kk g r σ' ho H locs ls' hP hS (k_L.of_has hL h2 rfl)
  rcases hd with ⟨k, hd, hk, rfl⟩ | ⟨hd, rfl⟩
  · exact lv_istore_n g.1 g.2.1 hd hk hl hi rfl fin
  · exact lv_istore g.1 g.2.1 hd hl hi rfl fin
theorem k_astG (i : Nat) {x : Nat} (hd : ∃ k : Fin 4, decode Y.2.1 pc = .ok (.astore_n k, 1) ∧ (k : Nat) = i) (hi : i < Y.2.2.1) (kk : KO X Y cw kc ks Q (pc + 1) (L.set i (some (.ref x))) st σ o) : KO X Y cw kc ks Q pc L (.ref x :: st) σ o := by
  intro g r σ' ho H locs ls hP hS hL
  let l : List (Nat × Value) := (List.range L.length).filterMap (fun j => (L[j]?.join).map (fun v => (j, v)))
  have hm : ∀ q : Nat × Value, q ∈ l ↔ L[q.1]? = some (some q.2) := k_pairs L
  have hl : lv_has ls Y.2.2.1 l := ⟨hL.1, hL.2.1, fun q hq => (hL.2.2 _ _ ((hm q).mp hq)).1⟩
  have fin : ∀ ls' : Array Slot, lv_has ls' Y.2.2.1 ((i, Value.ref x) :: l.filter (fun q => !(q.1 == i) && !(q.1 + 1 == i && q.2.category == 2))) → k_W X H locs kc ks (Q r σ') (F0 (k_m X) (pc + 1) ls' st) := fun ls' h2 => kk g r σ' ho H locs ls' hP hS (k_L.of_has hL h2 rfl)
  obtain ⟨k, hd, hk⟩ := hd
  exact lv_astore_n g.1 g.2.1 hd hk hl hi rfl fin
theorem k_iincG (i : Nat) {n : Int} {x v : Int32} (hd : decode Y.2.1 pc = .ok (.iinc i n, 3)) (hx : L[i]? = some (some (.int x))) (hv : x + Int32.ofInt n = v) (hi : i < Y.2.2.1) (kk : KO X Y cw kc ks Q (pc + 3) (L.set i (some (.int v))) st σ o) : KO X Y cw kc ks Q pc L st σ o := by
  intro g r σ' ho H locs ls hP hS hL
  let l : List (Nat × Value) := (List.range L.length).filterMap (fun j => (L[j]?.join).map (fun v => (j, v)))
  have hm : ∀ q : Nat × Value, q ∈ l ↔ L[q.1]? = some (some q.2) := k_pairs L
  have hl : lv_has ls Y.2.2.1 l := ⟨hL.1, hL.2.1, fun q hq => (hL.2.2 _ _ ((hm q).mp hq)).1⟩
  obtain ⟨k, hk⟩ := List.getElem?_of_mem ((hm (i, .int x)).mpr hx)
  exact lv_iinc g.1 g.2.1 hd hl hk hv hi rfl fun ls' h2 => kk g r σ' ho H locs ls' hP hS (k_L.of_has hL h2 rfl)
theorem k_ist0 {a0 : Option Value} {x : Int32} {k : Int32 → Option (Rt × S)} (hd : decode Y.2.1 pc = .ok (.istore_n 0, 1)) (hi : 0 < Y.2.2.1) (kk : ∀ x' : Int32, KO X Y cw kc ks Q (pc + 1) (some (.int x') :: L) st σ (k x')) : KO X Y cw kc ks Q pc (a0 :: L) (.int x :: st) σ (k_bn x k) := k_istG 0 (.inl ⟨0, hd, rfl, rfl⟩) hi (kk x)
theorem k_iinc0 {a : Option Value} {n : Int} {x w : Int32} {k : Int32 → Option (Rt × S)} (hd : decode Y.2.1 pc = .ok (.iinc 0 n, 3)) (ha : a = some (.int x)) (hw : Int32.ofInt n = w) (hi : 0 < Y.2.2.1) (kk : ∀ x' : Int32, KO X Y cw kc ks Q (pc + 3) (some (.int x') :: L) st σ (k x')) : KO X Y cw kc ks Q pc (a :: L) st σ (k_bn (x + w) k) := by
  subst ha hw
  exact k_iincG 0 hd rfl rfl hi (kk _)
theorem k_fg0 {a0 : Option Value} (kk : KO X Y cw kc ks Q pc (none :: L) st σ o) : KO X Y cw kc ks Q pc (a0 :: L) st σ o := KO.fg 0 kk
theorem k_ist1 {a0 a1 : Option Value} {x : Int32} {k : Int32 → Option (Rt × S)} (hd : decode Y.2.1 pc = .ok (.istore_n 1, 1)) (hi : 1 < Y.2.2.1) (kk : ∀ x' : Int32, KO X Y cw kc ks Q (pc + 1) (a0 :: some (.int x') :: L) st σ (k x')) : KO X Y cw kc ks Q pc (a0 :: a1 :: L) (.int x :: st) σ (k_bn x k) := k_istG 1 (.inl ⟨1, hd, rfl, rfl⟩) hi (kk x)
theorem k_iinc1 {a0 a : Option Value} {n : Int} {x w : Int32} {k : Int32 → Option (Rt × S)} (hd : decode Y.2.1 pc = .ok (.iinc 1 n, 3)) (ha : a = some (.int x)) (hw : Int32.ofInt n = w) (hi : 1 < Y.2.2.1) (kk : ∀ x' : Int32, KO X Y cw kc ks Q (pc + 3) (a0 :: some (.int x') :: L) st σ (k x')) : KO X Y cw kc ks Q pc (a0 :: a :: L) st σ (k_bn (x + w) k) := by
  subst ha hw
  exact k_iincG 1 hd rfl rfl hi (kk _)
theorem k_fg1 {a0 a1 : Option Value} (kk : KO X Y cw kc ks Q pc (a0 :: none :: L) st σ o) : KO X Y cw kc ks Q pc (a0 :: a1 :: L) st σ o := KO.fg 1 kk
theorem k_ist2 {a0 a1 a2 : Option Value} {x : Int32} {k : Int32 → Option (Rt × S)} (hd : decode Y.2.1 pc = .ok (.istore_n 2, 1)) (hi : 2 < Y.2.2.1) (kk : ∀ x' : Int32, KO X Y cw kc ks Q (pc + 1) (a0 :: a1 :: some (.int x') :: L) st σ (k x')) : KO X Y cw kc ks Q pc (a0 :: a1 :: a2 :: L) (.int x :: st) σ (k_bn x k) := k_istG 2 (.inl ⟨2, hd, rfl, rfl⟩) hi (kk x)
theorem k_iinc2 {a0 a1 a : Option Value} {n : Int} {x w : Int32} {k : Int32 → Option (Rt × S)} (hd : decode Y.2.1 pc = .ok (.iinc 2 n, 3)) (ha : a = some (.int x)) (hw : Int32.ofInt n = w) (hi : 2 < Y.2.2.1) (kk : ∀ x' : Int32, KO X Y cw kc ks Q (pc + 3) (a0 :: a1 :: some (.int x') :: L) st σ (k x')) : KO X Y cw kc ks Q pc (a0 :: a1 :: a :: L) st σ (k_bn (x + w) k) := by
  subst ha hw
  exact k_iincG 2 hd rfl rfl hi (kk _)
theorem k_fg2 {a0 a1 a2 : Option Value} (kk : KO X Y cw kc ks Q pc (a0 :: a1 :: none :: L) st σ o) : KO X Y cw kc ks Q pc (a0 :: a1 :: a2 :: L) st σ o := KO.fg 2 kk
theorem k_ist3 {a0 a1 a2 a3 : Option Value} {x : Int32} {k : Int32 → Option (Rt × S)} (hd : decode Y.2.1 pc = .ok (.istore_n 3, 1)) (hi : 3 < Y.2.2.1) (kk : ∀ x' : Int32, KO X Y cw kc ks Q (pc + 1) (a0 :: a1 :: a2 :: some (.int x') :: L) st σ (k x')) : KO X Y cw kc ks Q pc (a0 :: a1 :: a2 :: a3 :: L) (.int x :: st) σ (k_bn x k) := k_istG 3 (.inl ⟨3, hd, rfl, rfl⟩) hi (kk x)
theorem k_iinc3 {a0 a1 a2 a : Option Value} {n : Int} {x w : Int32} {k : Int32 → Option (Rt × S)} (hd : decode Y.2.1 pc = .ok (.iinc 3 n, 3)) (ha : a = some (.int x)) (hw : Int32.ofInt n = w) (hi : 3 < Y.2.2.1) (kk : ∀ x' : Int32, KO X Y cw kc ks Q (pc + 3) (a0 :: a1 :: a2 :: some (.int x') :: L) st σ (k x')) : KO X Y cw kc ks Q pc (a0 :: a1 :: a2 :: a :: L) st σ (k_bn (x + w) k) := by
  subst ha hw
  exact k_iincG 3 hd rfl rfl hi (kk _)
theorem k_fg3 {a0 a1 a2 a3 : Option Value} (kk : KO X Y cw kc ks Q pc (a0 :: a1 :: a2 :: none :: L) st σ o) : KO X Y cw kc ks Q pc (a0 :: a1 :: a2 :: a3 :: L) st σ o := KO.fg 3 kk
theorem k_ist4 {a0 a1 a2 a3 a4 : Option Value} {x : Int32} {k : Int32 → Option (Rt × S)} (hd : decode Y.2.1 pc = .ok (.istore 4, 2)) (hi : 4 < Y.2.2.1) (kk : ∀ x' : Int32, KO X Y cw kc ks Q (pc + 2) (a0 :: a1 :: a2 :: a3 :: some (.int x') :: L) st σ (k x')) : KO X Y cw kc ks Q pc (a0 :: a1 :: a2 :: a3 :: a4 :: L) (.int x :: st) σ (k_bn x k) := k_istG 4 (.inr ⟨hd, rfl⟩) hi (kk x)
theorem k_iinc4 {a0 a1 a2 a3 a : Option Value} {n : Int} {x w : Int32} {k : Int32 → Option (Rt × S)} (hd : decode Y.2.1 pc = .ok (.iinc 4 n, 3)) (ha : a = some (.int x)) (hw : Int32.ofInt n = w) (hi : 4 < Y.2.2.1) (kk : ∀ x' : Int32, KO X Y cw kc ks Q (pc + 3) (a0 :: a1 :: a2 :: a3 :: some (.int x') :: L) st σ (k x')) : KO X Y cw kc ks Q pc (a0 :: a1 :: a2 :: a3 :: a :: L) st σ (k_bn (x + w) k) := by
  subst ha hw
  exact k_iincG 4 hd rfl rfl hi (kk _)
theorem k_fg4 {a0 a1 a2 a3 a4 : Option Value} (kk : KO X Y cw kc ks Q pc (a0 :: a1 :: a2 :: a3 :: none :: L) st σ o) : KO X Y cw kc ks Q pc (a0 :: a1 :: a2 :: a3 :: a4 :: L) st σ o := KO.fg 4 kk
theorem k_ist5 {a0 a1 a2 a3 a4 a5 : Option Value} {x : Int32} {k : Int32 → Option (Rt × S)} (hd : decode Y.2.1 pc = .ok (.istore 5, 2)) (hi : 5 < Y.2.2.1) (kk : ∀ x' : Int32, KO X Y cw kc ks Q (pc + 2) (a0 :: a1 :: a2 :: a3 :: a4 :: some (.int x') :: L) st σ (k x')) : KO X Y cw kc ks Q pc (a0 :: a1 :: a2 :: a3 :: a4 :: a5 :: L) (.int x :: st) σ (k_bn x k) := k_istG 5 (.inr ⟨hd, rfl⟩) hi (kk x)
theorem k_iinc5 {a0 a1 a2 a3 a4 a : Option Value} {n : Int} {x w : Int32} {k : Int32 → Option (Rt × S)} (hd : decode Y.2.1 pc = .ok (.iinc 5 n, 3)) (ha : a = some (.int x)) (hw : Int32.ofInt n = w) (hi : 5 < Y.2.2.1) (kk : ∀ x' : Int32, KO X Y cw kc ks Q (pc + 3) (a0 :: a1 :: a2 :: a3 :: a4 :: some (.int x') :: L) st σ (k x')) : KO X Y cw kc ks Q pc (a0 :: a1 :: a2 :: a3 :: a4 :: a :: L) st σ (k_bn (x + w) k) := by
  subst ha hw
  exact k_iincG 5 hd rfl rfl hi (kk _)
theorem k_fg5 {a0 a1 a2 a3 a4 a5 : Option Value} (kk : KO X Y cw kc ks Q pc (a0 :: a1 :: a2 :: a3 :: a4 :: none :: L) st σ o) : KO X Y cw kc ks Q pc (a0 :: a1 :: a2 :: a3 :: a4 :: a5 :: L) st σ o := KO.fg 5 kk
theorem k_ist6 {a0 a1 a2 a3 a4 a5 a6 : Option Value} {x : Int32} {k : Int32 → Option (Rt × S)} (hd : decode Y.2.1 pc = .ok (.istore 6, 2)) (hi : 6 < Y.2.2.1) (kk : ∀ x' : Int32, KO X Y cw kc ks Q (pc + 2) (a0 :: a1 :: a2 :: a3 :: a4 :: a5 :: some (.int x') :: L) st σ (k x')) : KO X Y cw kc ks Q pc (a0 :: a1 :: a2 :: a3 :: a4 :: a5 :: a6 :: L) (.int x :: st) σ (k_bn x k) := k_istG 6 (.inr ⟨hd, rfl⟩) hi (kk x)
theorem k_iinc6 {a0 a1 a2 a3 a4 a5 a : Option Value} {n : Int} {x w : Int32} {k : Int32 → Option (Rt × S)} (hd : decode Y.2.1 pc = .ok (.iinc 6 n, 3)) (ha : a = some (.int x)) (hw : Int32.ofInt n = w) (hi : 6 < Y.2.2.1) (kk : ∀ x' : Int32, KO X Y cw kc ks Q (pc + 3) (a0 :: a1 :: a2 :: a3 :: a4 :: a5 :: some (.int x') :: L) st σ (k x')) : KO X Y cw kc ks Q pc (a0 :: a1 :: a2 :: a3 :: a4 :: a5 :: a :: L) st σ (k_bn (x + w) k) := by
  subst ha hw
  exact k_iincG 6 hd rfl rfl hi (kk _)
theorem k_fg6 {a0 a1 a2 a3 a4 a5 a6 : Option Value} (kk : KO X Y cw kc ks Q pc (a0 :: a1 :: a2 :: a3 :: a4 :: a5 :: none :: L) st σ o) : KO X Y cw kc ks Q pc (a0 :: a1 :: a2 :: a3 :: a4 :: a5 :: a6 :: L) st σ o := KO.fg 6 kk
theorem k_ist7 {a0 a1 a2 a3 a4 a5 a6 a7 : Option Value} {x : Int32} {k : Int32 → Option (Rt × S)} (hd : decode Y.2.1 pc = .ok (.istore 7, 2)) (hi : 7 < Y.2.2.1) (kk : ∀ x' : Int32, KO X Y cw kc ks Q (pc + 2) (a0 :: a1 :: a2 :: a3 :: a4 :: a5 :: a6 :: some (.int x') :: L) st σ (k x')) : KO X Y cw kc ks Q pc (a0 :: a1 :: a2 :: a3 :: a4 :: a5 :: a6 :: a7 :: L) (.int x :: st) σ (k_bn x k) := k_istG 7 (.inr ⟨hd, rfl⟩) hi (kk x)
theorem k_iinc7 {a0 a1 a2 a3 a4 a5 a6 a : Option Value} {n : Int} {x w : Int32} {k : Int32 → Option (Rt × S)} (hd : decode Y.2.1 pc = .ok (.iinc 7 n, 3)) (ha : a = some (.int x)) (hw : Int32.ofInt n = w) (hi : 7 < Y.2.2.1) (kk : ∀ x' : Int32, KO X Y cw kc ks Q (pc + 3) (a0 :: a1 :: a2 :: a3 :: a4 :: a5 :: a6 :: some (.int x') :: L) st σ (k x')) : KO X Y cw kc ks Q pc (a0 :: a1 :: a2 :: a3 :: a4 :: a5 :: a6 :: a :: L) st σ (k_bn (x + w) k) := by
  subst ha hw
  exact k_iincG 7 hd rfl rfl hi (kk _)
theorem k_fg7 {a0 a1 a2 a3 a4 a5 a6 a7 : Option Value} (kk : KO X Y cw kc ks Q pc (a0 :: a1 :: a2 :: a3 :: a4 :: a5 :: a6 :: none :: L) st σ o) : KO X Y cw kc ks Q pc (a0 :: a1 :: a2 :: a3 :: a4 :: a5 :: a6 :: a7 :: L) st σ o := KO.fg 7 kk
theorem k_ist8 {a0 a1 a2 a3 a4 a5 a6 a7 a8 : Option Value} {x : Int32} {k : Int32 → Option (Rt × S)} (hd : decode Y.2.1 pc = .ok (.istore 8, 2)) (hi : 8 < Y.2.2.1) (kk : ∀ x' : Int32, KO X Y cw kc ks Q (pc + 2) (a0 :: a1 :: a2 :: a3 :: a4 :: a5 :: a6 :: a7 :: some (.int x') :: L) st σ (k x')) : KO X Y cw kc ks Q pc (a0 :: a1 :: a2 :: a3 :: a4 :: a5 :: a6 :: a7 :: a8 :: L) (.int x :: st) σ (k_bn x k) := k_istG 8 (.inr ⟨hd, rfl⟩) hi (kk x)
theorem k_iinc8 {a0 a1 a2 a3 a4 a5 a6 a7 a : Option Value} {n : Int} {x w : Int32} {k : Int32 → Option (Rt × S)} (hd : decode Y.2.1 pc = .ok (.iinc 8 n, 3)) (ha : a = some (.int x)) (hw : Int32.ofInt n = w) (hi : 8 < Y.2.2.1) (kk : ∀ x' : Int32, KO X Y cw kc ks Q (pc + 3) (a0 :: a1 :: a2 :: a3 :: a4 :: a5 :: a6 :: a7 :: some (.int x') :: L) st σ (k x')) : KO X Y cw kc ks Q pc (a0 :: a1 :: a2 :: a3 :: a4 :: a5 :: a6 :: a7 :: a :: L) st σ (k_bn (x + w) k) := by
  subst ha hw
  exact k_iincG 8 hd rfl rfl hi (kk _)
theorem k_fg8 {a0 a1 a2 a3 a4 a5 a6 a7 a8 : Option Value} (kk : KO X Y cw kc ks Q pc (a0 :: a1 :: a2 :: a3 :: a4 :: a5 :: a6 :: a7 :: none :: L) st σ o) : KO X Y cw kc ks Q pc (a0 :: a1 :: a2 :: a3 :: a4 :: a5 :: a6 :: a7 :: a8 :: L) st σ o := KO.fg 8 kk
theorem k_ist9 {a0 a1 a2 a3 a4 a5 a6 a7 a8 a9 : Option Value} {x : Int32} {k : Int32 → Option (Rt × S)} (hd : decode Y.2.1 pc = .ok (.istore 9, 2)) (hi : 9 < Y.2.2.1) (kk : ∀ x' : Int32, KO X Y cw kc ks Q (pc + 2) (a0 :: a1 :: a2 :: a3 :: a4 :: a5 :: a6 :: a7 :: a8 :: some (.int x') :: L) st σ (k x')) : KO X Y cw kc ks Q pc (a0 :: a1 :: a2 :: a3 :: a4 :: a5 :: a6 :: a7 :: a8 :: a9 :: L) (.int x :: st) σ (k_bn x k) := k_istG 9 (.inr ⟨hd, rfl⟩) hi (kk x)
theorem k_iinc9 {a0 a1 a2 a3 a4 a5 a6 a7 a8 a : Option Value} {n : Int} {x w : Int32} {k : Int32 → Option (Rt × S)} (hd : decode Y.2.1 pc = .ok (.iinc 9 n, 3)) (ha : a = some (.int x)) (hw : Int32.ofInt n = w) (hi : 9 < Y.2.2.1) (kk : ∀ x' : Int32, KO X Y cw kc ks Q (pc + 3) (a0 :: a1 :: a2 :: a3 :: a4 :: a5 :: a6 :: a7 :: a8 :: some (.int x') :: L) st σ (k x')) : KO X Y cw kc ks Q pc (a0 :: a1 :: a2 :: a3 :: a4 :: a5 :: a6 :: a7 :: a8 :: a :: L) st σ (k_bn (x + w) k) := by
  subst ha hw
  exact k_iincG 9 hd rfl rfl hi (kk _)
theorem k_fg9 {a0 a1 a2 a3 a4 a5 a6 a7 a8 a9 : Option Value} (kk : KO X Y cw kc ks Q pc (a0 :: a1 :: a2 :: a3 :: a4 :: a5 :: a6 :: a7 :: a8 :: none :: L) st σ o) : KO X Y cw kc ks Q pc (a0 :: a1 :: a2 :: a3 :: a4 :: a5 :: a6 :: a7 :: a8 :: a9 :: L) st σ o := KO.fg 9 kk
theorem k_ist10 {a0 a1 a2 a3 a4 a5 a6 a7 a8 a9 a10 : Option Value} {x : Int32} {k : Int32 → Option (Rt × S)} (hd : decode Y.2.1 pc = .ok (.istore 10, 2)) (hi : 10 < Y.2.2.1) (kk : ∀ x' : Int32, KO X Y cw kc ks Q (pc + 2) (a0 :: a1 :: a2 :: a3 :: a4 :: a5 :: a6 :: a7 :: a8 :: a9 :: some (.int x') :: L) st σ (k x')) : KO X Y cw kc ks Q pc (a0 :: a1 :: a2 :: a3 :: a4 :: a5 :: a6 :: a7 :: a8 :: a9 :: a10 :: L) (.int x :: st) σ (k_bn x k) := k_istG 10 (.inr ⟨hd, rfl⟩) hi (kk x)
theorem k_iinc10 {a0 a1 a2 a3 a4 a5 a6 a7 a8 a9 a : Option Value} {n : Int} {x w : Int32} {k : Int32 → Option (Rt × S)} (hd : decode Y.2.1 pc = .ok (.iinc 10 n, 3)) (ha : a = some (.int x)) (hw : Int32.ofInt n = w) (hi : 10 < Y.2.2.1) (kk : ∀ x' : Int32, KO X Y cw kc ks Q (pc + 3) (a0 :: a1 :: a2 :: a3 :: a4 :: a5 :: a6 :: a7 :: a8 :: a9 :: some (.int x') :: L) st σ (k x')) : KO X Y cw kc ks Q pc (a0 :: a1 :: a2 :: a3 :: a4 :: a5 :: a6 :: a7 :: a8 :: a9 :: a :: L) st σ (k_bn (x + w) k) := by
  subst ha hw
  exact k_iincG 10 hd rfl rfl hi (kk _)
theorem k_fg10 {a0 a1 a2 a3 a4 a5 a6 a7 a8 a9 a10 : Option Value} (kk : KO X Y cw kc ks Q pc (a0 :: a1 :: a2 :: a3 :: a4 :: a5 :: a6 :: a7 :: a8 :: a9 :: none :: L) st σ o) : KO X Y cw kc ks Q pc (a0 :: a1 :: a2 :: a3 :: a4 :: a5 :: a6 :: a7 :: a8 :: a9 :: a10 :: L) st σ o := KO.fg 10 kk
-- fields: the object's cell stands at place k of the world, in class ci of 'vwCl'
theorem k_get {own ref C : String} {T : u_T} {N index ci : Nat} {a : Nat} {fs : List Value} (k : Nat) (hcell : (cw σ)[k]? = some (a, .inr (ci, fs))) (hcl : vwCl[ci]? = some (C, T, N)) (hin : ∀ w ∈ u_ws C T N, w ∈ k_ws) (j : Nat) (hj : j < N) {v : Value} (hv : fs[j]? = some v) (hown : own = Y.2.2.2.1) (hw : Cond.fieldLink own index ref (T j).2.1 (T j).2.2.1 ∈ k_ws) (href : (T j).1 = ref) (hd : decode Y.2.1 pc = .ok (.getfield index, 3)) (kk : KO X Y cw kc ks Q (pc + 3) L (v :: st) σ o) : KO X Y cw kc ks Q pc L (.ref a :: st) σ o := by
  subst hown
  exact kk.lift fun g _ _ _ _ hP _ _ kq => va_get (D := k_D X) g.1 g.2.1 g.2.2.2.2.1 hin g.2.2.2.1 g.2.2.2.2.2.1 hP k hcell hcl j hj (g.2.2.2.2.1 _ hw) (fun _ h9 => by rw [← href]; exact h9) hv hd kq
theorem k_put {own ref C : String} {T : u_T} {N index ci : Nat} {a : Nat} {fs : List Value} (k : Nat) (hcell : (cw σ)[k]? = some (a, .inr (ci, fs))) (hcl : vwCl[ci]? = some (C, T, N)) (hin : ∀ w ∈ u_ws C T N, w ∈ k_ws) {ty : Nat → FieldType} (hty : ∀ k, k < N → parseFieldDescriptor (T k).2.2.1 = some (ty k)) (hnm : ∀ a, a < N → ∀ b, b < N → a ≠ b → (T a).2.1 ≠ (T b).2.1) (j : Nat) (hj : j < N) (hfin : (T j).2.2.2 = false) (hti : ty j = .int) (hlen : fs.length = N) {x : Int32} {σ1 : S} (hset : (cw σ).set k (a, .inr (ci, fs.set j (.int x))) = cw σ1) (hown : own = Y.2.2.2.1) (hw : Cond.fieldLink own index ref (T j).2.1 (T j).2.2.1 ∈ k_ws) (href : (T j).1 = ref) (hd : decode Y.2.1 pc = .ok (.putfield index, 3)) {kf : S → Option (Rt × S)} (kk : ∀ σ' : S, KO X Y cw kc ks Q (pc + 3) L st σ' (kf σ')) : KO X Y cw kc ks Q pc L (.int x :: .ref a :: st) σ (k_bn σ1 kf) := by
  subst hown
  intro g r σ' ho H locs ls hP hS hL
  have hpd : parseFieldDescriptor (T j).2.2.1 = some .int := by rw [hty j hj, hti]
  exact va_put (D := k_D X) g.1 g.2.1 g.2.2.2.2.1 hin ty hty hnm g.2.2.2.1 g.2.2.2.2.2.1 hP (g.2.2.2.2.2.2.2.1 σ) hS k hcell hcl j hj (g.2.2.2.2.1 _ hw) (fun _ h9 => by rw [← href]; exact h9) hfin hpd rfl rfl (by rw [hlen]; exact hj) hd (fun H1 locs1 hP1 _ hS1 => kk σ1 g r σ' ho H1 locs1 ls (by rw [← hset]; exact hP1) hS1 hL)
-- arrays of ints: the array's cell stands at place k of the world
theorem k_iald {a n : Nat} {f : Nat → Int32} (k : Nat) (hcell : (cw σ)[k]? = some (a, .inl (k_I X, n, .inl f))) {i : Int32} (hd : decode Y.2.1 pc = .ok (.iaload, 1)) (kk : KO X Y cw kc ks Q (pc + 1) L (.int (f i.toNatClampNeg) :: st) σ o) : KO X Y cw kc ks Q pc L (.int i :: .ref a :: st) σ (k_gd i n o) := by
  intro g r σ' ho H locs ls hP hS hL
  by_cases hi : i < 0 ∨ n ≤ i.toNatClampNeg
  · rw [k_gd, if_pos hi] at ho; cases ho
  · rw [k_gd, if_neg hi] at ho
    exact va_iald (D := k_D X) g.1 g.2.1 g.2.2.2.2.2.1 hP k 0 hcell rfl hi hd (kk g r σ' ho H locs ls hP hS hL)
theorem k_iast {a n : Nat} {f : Nat → Int32} (k : Nat) (hcell : (cw σ)[k]? = some (a, .inl (k_I X, n, .inl f))) {i x : Int32} {σ1 : S} (hset : (cw σ).set k (a, .inl (k_I X, n, .inl (upd f i.toNatClampNeg x))) = cw σ1) (hd : decode Y.2.1 pc = .ok (.iastore, 1)) {kf : S → Option (Rt × S)} (kk : ∀ σ' : S, KO X Y cw kc ks Q (pc + 1) L st σ' (kf σ')) : KO X Y cw kc ks Q pc L (.int x :: .int i :: .ref a :: st) σ (k_gd i n (k_bn σ1 kf)) := by
  intro g r σ' ho H locs ls hP hS hL
  by_cases hi : i < 0 ∨ n ≤ i.toNatClampNeg
  · rw [k_gd, if_pos hi] at ho; cases ho
  · rw [k_gd, if_neg hi] at ho
    exact va_iast (D := k_D X) g.1 g.2.1 g.2.2.2.2.2.1 hP (g.2.2.2.2.2.2.2.1 σ) hS k 0 hcell rfl hi hd (fun H1 locs1 hP1 _ hS1 => kk σ1 g r σ' ho H1 locs1 ls (by rw [← hset]; exact hP1) hS1 hL)
theorem k_alen {a n : Nat} {f : Nat → Int32} (k : Nat) (hcell : (cw σ)[k]? = some (a, .inl (k_I X, n, .inl f))) {v : Int32} (hv : Int32.ofNat n = v) (hd : decode Y.2.1 pc = .ok (.arraylength, 1)) (kk : KO X Y cw kc ks Q (pc + 1) L (.int v :: st) σ o) : KO X Y cw kc ks Q pc L (.ref a :: st) σ o :=
  kk.lift fun g _ _ _ _ hP _ _ kq => va_alen (D := k_D X) g.1 g.2.1 g.2.2.2.2.2.1 hP k 0 hcell rfl hv hd kq
theorem k_copy {a0 a1 n0 n1 index : Nat} {f0 f1 : Nat → Int32} (k0 k1 : Nat) (h0 : (cw σ)[k0]? = some (a0, .inl (k_I X, n0, .inl f0))) (h1 : (cw σ)[k1]? = some (a1, .inl (k_I X, n1, .inl f1))) {sp dp n : Int32} {σ1 : S} (hset : (cw σ).set k1 (a1, .inl (k_I X, n1, .inl (va_cpy f0 f1 sp.toNatClampNeg dp.toNatClampNeg n.toNatClampNeg))) = cw σ1) (hw : Cond.methodLink Y.2.2.2.1 index arraycopyName ∈ k_ws) (hR : 1 ≤ Y.1.frames ∧ (st.map fun v => v.category).sum + (nativeFrameWords "java/lang/System" "arraycopy" 5 + 11) ≤ Y.1.locals) (hd : decode Y.2.1 pc = .ok (.invokestatic index, 3)) {kf : S → Option (Rt × S)} (kk : ∀ σ' : S, KO X Y cw kc ks Q (pc + 3) L st σ' (kf σ')) : KO X Y cw kc ks Q pc L (.int n :: .int dp :: .ref a1 :: .int sp :: .ref a0 :: st) σ (k_gc sp dp n n0 n1 (k_bn σ1 kf)) := by
  intro g r σ' ho H locs ls hP hS hL
  by_cases hi : sp < 0 ∨ dp < 0 ∨ n < 0 ∨ n0 < sp.toNatClampNeg + n.toNatClampNeg ∨ n1 < dp.toNatClampNeg + n.toNatClampNeg
  · rw [k_gc, if_pos hi] at ho; cases ho
  · rw [k_gc, if_neg hi] at ho
    have hr : k_R X = Y.1 := g.2.2.2.2.2.2.2.2.1
    exact va_copyi (D := k_D X) g.1 g.2.1 (by rw [g.2.2.1, hL.1]) g.2.2.2.1 (g.2.2.2.2.1 _ hw) (g.2.2.2.2.1 _ kwt_arraycopy) (g.2.2.2.2.1 _ kws_arraycopy) (g.2.2.2.2.1 _ kwn_J10) g.2.2.2.2.2.1 hP (g.2.2.2.2.2.2.2.1 σ) hS k0 k1 0 0 h0 h1 rfl rfl rfl (fun h => hi (.inl h)) (fun h => hi (.inr (.inl h))) (fun h => hi (.inr (.inr (.inl h)))) (Nat.le_of_not_lt fun h => hi (.inr (.inr (.inr (.inl h))))) (Nat.le_of_not_lt fun h => hi (.inr (.inr (.inr (.inr h))))) (fun _ _ => rfl) (by rw [hr]; exact hR.1) (by rw [hr]; exact hR.2) hd (fun H1 locs1 hP1 _ hS1 => kk σ1 g r σ' ho H1 locs1 ls (by rw [← hset]; exact hP1) hS1 hL)
theorem k_max {index : Nat} {x y : Int32} (hw : Cond.methodLink Y.2.2.2.1 index Lib.Math.max.name ∈ k_ws) (hR : 1 ≤ Y.1.frames ∧ (st.map fun v => v.category).sum + 13 ≤ Y.1.locals) (hk : kc ≤ Y.1.cells ∧ ks ≤ Y.1.slots) (hd : decode Y.2.1 pc = .ok (.invokestatic index, 3)) (kk : KO X Y cw kc ks Q (pc + 3) L (.int (k_mx x y) :: st) σ o) : KO X Y cw kc ks Q pc L (.int y :: .int x :: st) σ o :=
  kk.lift fun g _ _ _ _ _ _ hL kq => by
    have hr : k_R X = Y.1 := g.2.2.2.2.2.2.2.2.1
    exact va_mmax g.1 g.2.1 (by rw [g.2.2.1, hL.1]) g.2.2.2.1 (g.2.2.2.2.1 _ hw) (g.2.2.2.2.1 _ kws_max) (g.2.2.2.2.1 _ kwn_J9) (g.2.2.2.2.1 _ kwk_max) (by rw [hr]; exact hR.1) (by rw [hr]; exact hR.2) (by rw [hr]; exact hk.1) (by rw [hr]; exact hk.2) hd kq
-- ends
theorem k_ireturn {x : Int32} {σ : S} (hr : Y.2.2.2.2 = some .int) (hd : decode Y.2.1 pc = .ok (.ireturn, 1)) : KO X Y cw 0 0 (k_Q k_ei X cw) pc L [.int x] σ (some (x, σ)) := by
  intro g r σ' ho H locs ls hP hS hL
  cases ho
  exact W.iret g.1 g.2.1 (by rw [g.2.2.2.2.2.2.2.2.2.2, hr]) (fun t ht _ => ⟨⟨rfl, by rw [ht]; exact hP⟩, hS.F ht⟩) hS.2.2 hd g.2.2.2.2.2.2.2.2.2.1
theorem k_zreturn {x : Int32} {σ : S} (hr : Y.2.2.2.2 = some .boolean) (hd : decode Y.2.1 pc = .ok (.ireturn, 1)) : KO X Y cw 0 0 (k_Q k_ei X cw) pc L [.int x] σ (k_z x (some (x, σ))) := by
  intro g r σ' ho H locs ls hP hS hL
  have hz : (x = 0 ∨ x = 1) ∧ r = x ∧ σ' = σ := by
    unfold k_z at ho
    split at ho
    · next h => cases ho; exact ⟨.inl h, rfl, rfl⟩
    · split at ho
      · next h => cases ho; exact ⟨.inr h, rfl, rfl⟩
      · cases ho
  obtain ⟨hx, rfl, rfl⟩ := hz
  exact W.zret g.1 g.2.1 (by rw [g.2.2.2.2.2.2.2.2.2.2, hr]) (by rcases hx with rfl | rfl <;> rfl) (fun t ht _ => ⟨⟨rfl, by rw [ht]; exact hP⟩, hS.F ht⟩) hS.2.2 hd g.2.2.2.2.2.2.2.2.2.1
theorem k_lreturn {x : Int64} {σ : S} (hr : Y.2.2.2.2 = some .long) (hd : decode Y.2.1 pc = .ok (.lreturn, 1)) : KO X Y cw 0 0 (k_Q k_el X cw) pc L [.long x] σ (some (x, σ)) := by
  intro g r σ' ho H locs ls hP hS hL
  cases ho
  exact W.lret g.1 g.2.1 (by rw [g.2.2.2.2.2.2.2.2.2.2, hr]) (fun t ht _ => ⟨⟨rfl, by rw [ht]; exact hP⟩, hS.F ht⟩) hS.2.2 hd g.2.2.2.2.2.2.2.2.2.1
theorem k_return {σ : S} (hr : Y.2.2.2.2 = none) (hd : decode Y.2.1 pc = .ok (.return_, 1)) : KO X Y cw 0 0 (k_Q k_ev X cw) pc L [] σ (some ((), σ)) := by
  intro g r σ' ho H locs ls hP hS hL
  cases ho
  exact W.vret g.1 g.2.1 (by rw [g.2.2.2.2.2.2.2.2.2.2, hr]) (fun t ht _ => ⟨⟨rfl, by rw [ht]; exact hP⟩, hS.F ht⟩) hS.2.2 hd g.2.2.2.2.2.2.2.2.2.1
end KR2
end
section
/-! ===== k, third part: contracts, calls, a method's entry (by program: wip/gen/k3.py) ===== -/
/-- a contract: from arguments as and world σ the method answers r, and the world is σ' -/
def k_Ct {S Rt : Type} (emb : Rt → Option Value) (y : MethodName) (bytes : ByteArray) (maxL : Nat) (ret : Option FieldType) (rm : Room) (cw : S → va_W) (D : va_G) (cI : ClassId) (as : List Value) (σ : S) (r : Rt) (σ' : S) : Prop :=
  ∀ (l : Launch) (sz : Nat), Met l y (.code y bytes maxL ret :: k_ws) rm (va_Pc as (fun U => U.heap.size = sz ∧ va_P D vwCl (cw σ) U.heap ∧ va_K D vwCl [(cI, .int)] U ∧ ∀ τ, va_D (fun _ => True) (cw τ))) (fun _ st oc t => (oc = .returned (emb r) ∧ va_P D vwCl (cw σ') t.heap) ∧ va_F (va_A (cw σ) sz) st t) 0 0 (va_A (cw σ) sz)
theorem k_Asame {S : Type} {cw : S → va_W} (h : k_same cw) (σ τ : S) (sz : Nat) (q : Nat) (hq : va_A (cw σ) sz q) : va_A (cw τ) sz q := by
  rcases hq with ⟨k, e, hk⟩ | hq
  · obtain ⟨e', he⟩ := h σ τ k (q, e) hk
    exact Or.inl ⟨k, e', he⟩
  · exact Or.inr hq
theorem k_met {S Rt : Type} {emb : Rt → Option Value} {y : MethodName} {Y : k_Y} {cw : S → va_W} {D : va_G} {cI : ClassId} {as : List Value} {σ : S} {o : Option (Rt × S)} (hsame : k_same cw) (hcl : plainName y.cls = true) (hown : y.cls = Y.2.2.2.1) (hlen : as.length ≤ Y.2.2.1) (hcat : ∀ v ∈ as, v.category = 1)
    (h : ∀ X : k_C, k_D X = D → k_I X = cI → KO X Y cw 0 0 (k_Q emb X cw) 0 (as.map some ++ List.replicate (Y.2.2.1 - as.length) none) [] σ o) {r : Rt} {σ' : S} (ho : o = some (r, σ')) : k_Ct emb y Y.2.1 Y.2.2.1 Y.2.2.2.2 Y.1 cw D cI as σ r σ' := by
  intro l sz
  refine Met.ofW (cc := Y.2.1) (maxL := Y.2.2.1) (ret := Y.2.2.2.2) hcl rfl ?_
  intro p e s m args below meth c s₁ B hml hv
  obtain ⟨rfl, hsz, hP, hK, hD0⟩ := hv
  have hts0 := atoms_spec (ws := .code y Y.2.1 Y.2.2.1 Y.2.2.2.2 :: k_ws) B.pre
  have hfc : s.vm.findClass y.cls = some m.cls := findClass_of_methodNamed B.named
  rw [lg_entry_eq]
  let X : k_C := ((p, l, e, s, m, as.toArray), (below, meth, c, D, cI, va_A (cw σ) sz), Y.1)
  have hG : k_G X Y cw := by
    refine ⟨B.exec, B.bytes, hml, by rw [← hown]; exact hfc, fun w hw => hts0 w (List.mem_cons_of_mem _ hw), hK, fun q hq => Or.inr (by rw [← hsz]; exact hq), fun τ => ?_, rfl, B.notSynchronized, B.returns⟩
    exact (hD0 τ).weaken fun k q hk _ => k_Asame hsame τ σ sz q.1 (va_A.in hk)
  have hL := k_L.entry as hlen hcat
  exact h X rfl rfl hG r σ' ho s.heap [] _ hP va_S.rf hL
section KR3
variable {S Rt : Type} {X : k_C} {Y : k_Y} {cw : S → va_W} {kc ks : Nat} {Q : Rt → S → State → Prop} {pc pc' : Nat} {L L' : List (Option Value)} {st st' : List Value} {σ : S} {o o1 o2 : Option (Rt × S)}
/-- behind a call -/
theorem k_run {p : Program} {l : Launch} {e : Env} {R : Room} {s : State} {m : MethodId} {args : Array Value} {below : List Frame} {meth : Method} {c : Code} {H : Heap} {locs : List Loc} {cells slots : Nat} {Q : State → Prop} {pc : Nat} {ls : Array Slot} {rest st0 : List Value} {A0 A1 : Nat → Prop} {H0 : Heap} {free : Addr → Prop} {v : Option Value} {B : Heap → Prop}
    (hr : va_Run p l e R s m args below meth c H locs cells slots 0 0 (F0 m pc ls st0) rest (fun st oc t => (oc = .returned v ∧ B t.heap) ∧ va_F A1 st t) free) (hS : va_S A0 H0 H locs) (hA : ∀ q, q < H.size → A1 q → A0 q) (hf : ∀ q, free q → A0 q)
    (kk : ∀ (H1 : Heap) (locs1 : List Loc), B H1 → (∀ q : Nat, q < H.size → ¬ A1 q → H1[q]? = H[q]?) → va_S A0 H0 H1 locs1 → W p l e R s m args below meth c H1 locs1 cells slots Q (F0 m (pc + 3) ls (v.toList ++ rest))) : W p l e R s m args below meth c H locs cells slots Q (F0 m pc ls st0) := by
  intro T hT X
  obtain ⟨v', st₀, t, T', L, h0, X', hL, e1, e2, ⟨⟨hv, hb⟩, hz, hk⟩, st⟩ := hr T hT X
  cases hv
  rw [h0] at hz hk
  obtain ⟨t2, a1, b1⟩ := kk T'.heap (locs ++ L) (by rw [e1]; exact hb) (fun q h1 h2 => by rw [e1]; exact hk q h1 h2)
    ⟨Nat.le_trans hS.1 (by rw [e1]; exact hz), fun q h1 h2 => by rw [e1, hk q (Nat.lt_of_lt_of_le h1 hS.1) (fun z => h2 (hA q (Nat.lt_of_lt_of_le h1 hS.1) z))]; exact hS.2.1 q h1 h2, fun q hq => by
      rcases List.mem_append.mp hq with h | h
      · exact hS.2.2 q h
      · exact hf _ (hL q h)⟩ T' rfl X'
  exact ⟨t2, st t2 a1, b1⟩
/-- a callee's world inside the caller's: at every state the callee's cells are among the caller's; a new state of the callee makes one of the caller's -/
def k_In {S S0 : Type} (cw : S → va_W) (σ : S) (cw0 : S0 → va_W) (σ0 : S0) (put : S0 → S) : Prop :=
  k_same cw0 ∧ (∀ (k : Nat) (q : Nat × va_E), (cw0 σ0)[k]? = some q → ∃ j : Nat, (cw σ)[j]? = some q) ∧ (∀ A : Nat → Prop, (∀ τ, va_D A (cw τ)) → ∀ τ0, va_D A (cw0 τ0)) ∧
  ∀ (τ0 : S0) (k : Nat) (q : Nat × va_E), (cw (put τ0))[k]? = some q → (∃ j : Nat, (cw0 τ0)[j]? = some q) ∨ (∃ j : Nat, (cw σ)[j]? = some q) ∧ ∀ (A : Nat → Prop), va_D A (cw σ) → ∀ (i : Nat) (q0 : Nat × va_E), (cw0 σ0)[i]? = some q0 → q0.1 ≠ q.1
theorem k_In.id {cw : S → va_W} (h : k_same cw) (σ : S) : k_In cw σ cw σ id := ⟨h, fun k q hk => ⟨k, hk⟩, fun _ hD τ0 => hD τ0, fun _ k q hk => Or.inl ⟨k, hk⟩⟩
theorem k_In.P {S0 : Type} {cw : S → va_W} {σ : S} {cw0 : S0 → va_W} {σ0 : S0} {put : S0 → S} {D : va_G} {H : Heap} (h : k_In cw σ cw0 σ0 put) (hP : va_P D vwCl (cw σ) H) : va_P D vwCl (cw0 σ0) H := fun k q hk => by
  obtain ⟨j, hj⟩ := h.2.1 k q hk
  exact hP j q hj
theorem k_In.back {S0 : Type} {cw : S → va_W} {σ : S} {cw0 : S0 → va_W} {σ0 τ0 : S0} {put : S0 → S} {D : va_G} {H H1 : Heap} {A : Nat → Prop} (h : k_In cw σ cw0 σ0 put) (hD : va_D A (cw σ)) (hP : va_P D vwCl (cw σ) H) (hk : ∀ q : Nat, q < H.size → ¬ va_A (cw0 σ0) H.size q → H1[q]? = H[q]?) (hP1 : va_P D vwCl (cw0 τ0) H1) : va_P D vwCl (cw (put τ0)) H1 := by
  intro k q hq
  rcases h.2.2.2 τ0 k q hq with ⟨j, hj⟩ | ⟨⟨j, hj⟩, hap⟩
  · exact hP1 j q hj
  · have hlt := (hP j q hj).lt
    refine (hP j q hj).kept (hk q.1 hlt fun hA => ?_)
    rcases hA with ⟨i, e, hi⟩ | hA
    · exact hap A hD i _ hi rfl
    · exact absurd hlt (Nat.not_lt.mpr hA)
theorem k_goodIn {c' : Cond} (hc : c' ∈ k_ws) : GoodIn k_ws (c' :: k_ws) := by
  have hg : ∀ w, w ∈ k_ws → w ∈ k_ws ∧ ((w.onTables && w.keeps) = true ∨ ∃ ty, w = .arrayClass ty) := fun w hw => ⟨hw, good_of_word (k_good hw).2⟩
  intro w hw
  rcases List.mem_cons.mp hw with rfl | hw
  · exact hg _ hc
  · exact hg w hw
/-- what the tables say of a callee -/
def k_Vok (y : MethodName) (bytes : ByteArray) (maxL : Nat) (ret : Option FieldType) (n : Nat) : Prop :=
  Cond.code y bytes maxL ret ∈ k_ws ∧ Cond.instanceMethod y ∈ k_ws ∧ Cond.selects y.cls y y ∈ k_ws ∧ Cond.initialized y.cls ∈ k_ws ∧ (y.cls ≠ "java/lang/invoke/MethodHandle" ∧ y.cls ≠ "java/lang/invoke/VarHandle") ∧ (parseMethodDescriptor y.desc).map (fun d => d.parameters.length) = some n
def k_Sok (y : MethodName) (bytes : ByteArray) (maxL : Nat) (ret : Option FieldType) (n : Nat) : Prop :=
  Cond.code y bytes maxL ret ∈ k_ws ∧ Cond.static y ∈ k_ws ∧ Cond.initialized y.cls ∈ k_ws ∧ (y.cls ≠ "java/lang/invoke/MethodHandle" ∧ y.cls ≠ "java/lang/invoke/VarHandle") ∧ (parseMethodDescriptor y.desc).map (fun d => d.parameters.length) = some n
theorem k_callB {y : MethodName} {bytes : ByteArray} {maxL : Nat} {ret : Option FieldType} {n index : Nat} {rm : Room} (g : k_G X Y cw) (hco : Cond.code y bytes maxL ret ∈ k_ws) (hini : Cond.initialized y.cls ∈ k_ws) (hmh : y.cls ≠ "java/lang/invoke/MethodHandle" ∧ y.cls ≠ "java/lang/invoke/VarHandle") (hn : (parseMethodDescriptor y.desc).map (fun d => d.parameters.length) = some n) (hm : Cond.methodLink Y.2.2.2.1 index y ∈ k_ws) (hrm : rm.cells = 0 ∧ rm.slots = 0) (hR : rm.frames + 1 ≤ Y.1.frames ∧ 8 + (maxL + 11) + rm.locals ≤ Y.1.locals) : CallB (k_R X) (k_s X) (k_a X) Y.2.2.2.1 index y bytes maxL ret (.code y bytes maxL ret :: k_ws) rm 0 0 n := by
  have hr : k_R X = Y.1 := g.2.2.2.2.2.2.2.2.1
  exact callB_of (ws' := k_ws) n g.2.2.2.2.1 (k_goodIn hco) rfl hrm.1 hrm.2 (g.2.2.2.2.1 _ hini) (g.2.2.2.2.1 _ hm) ⟨hmh.1, hmh.2, hn⟩ (by rw [hr]; exact hR)
theorem k_blind {D : va_G} {cI : ClassId} {S0 : Type} {cw0 : S0 → va_W} {σ0 : S0} {sz : Nat} {as : List Value} : FrameBlind (va_Pc as (fun U => U.heap.size = sz ∧ va_P D vwCl (cw0 σ0) U.heap ∧ va_K D vwCl [(cI, .int)] U ∧ ∀ τ, va_D (fun _ => True) (cw0 τ))) := by
  intro a U g mk q
  obtain ⟨q0, q1, qP, qK, qD⟩ := q
  exact ⟨q0, q1, qP, va_K.moved (u := U) (U := U.calling g mk a) (Vm.Alike.refl U.vm) qK, qD⟩
/-- an instance method's call -/
theorem k_callV {S0 R0 : Type} {emb : R0 → Option Value} {y : MethodName} {bytes : ByteArray} {maxL : Nat} {ret : Option FieldType} {n index : Nat} {rm : Room} {cw0 : S0 → va_W} {σ0 : S0} {put : S0 → S} {b : Nat} {As : List Value} {f : Option (R0 × S0)} {kf : R0 → S0 → Option (Rt × S)} {stk : List Value}
    (hin : k_In cw σ cw0 σ0 put) (hok : k_Vok y bytes maxL ret n) (hm : Cond.methodLink Y.2.2.2.1 index y ∈ k_ws) (hrv : ∃ (k ci : Nat) (fs : List Value) (q : vw_C), (cw σ)[k]? = some (b, .inr (ci, fs)) ∧ vwCl[ci]? = some q ∧ q.1 = y.cls) (hlen : As.length = n) (hrm : rm.cells = 0 ∧ rm.slots = 0) (hR : rm.frames + 1 ≤ Y.1.frames ∧ 8 + (maxL + 11) + rm.locals ≤ Y.1.locals) (hk : kc ≤ Y.1.cells ∧ ks ≤ Y.1.slots) (hcat : (st.map fun v => v.category).sum ≤ 8) (hd : decode Y.2.1 pc = .ok (.invokevirtual index, 3)) (hstk : stk = As.reverse ++ .ref b :: st)
    (hM : ∀ r τ, f = some (r, τ) → k_Ct emb y bytes maxL ret rm cw0 (k_D X) (k_I X) (.ref b :: As) σ0 r τ) (kk : ∀ r τ, KO X Y cw kc ks Q (pc + 3) L ((emb r).toList ++ st) (put τ) (kf r τ)) : KO X Y cw kc ks Q pc L stk σ (k_ob f kf) := by
  subst hstk
  intro g r σ' ho H locs ls hP hS hL
  cases hf : f with
  | none => rw [hf] at ho; cases ho
  | some a =>
    obtain ⟨r0, τ⟩ := a
    rw [hf] at ho
    obtain ⟨hco, hi, hs, hini, hmh, hn⟩ := hok
    have hK := g.2.2.2.2.2.1
    have hrun := va_runV (As := As) (rest := st) (cells := kc) (slots := ks) (locs := locs) (g := F0 (k_m X) pc ls (As.reverse ++ .ref b :: st)) (nL := Y.2.2.1) (C := y.cls) ⟨g.1, g.2.1, g.2.2.1, g.2.2.2.1, g.2.2.2.2.1⟩ (hM r0 τ hf (k_l X) H.size) ⟨k_callB g hco hini hmh hn hm hrm hR, g.2.2.2.2.1 _ hi, g.2.2.2.2.1 _ hs⟩ ⟨k_blind, (by
        obtain ⟨k, ci, fs, q, h1, h2, h3⟩ := hrv
        obtain ⟨cell, c1, c2, c3⟩ := va_recv hK hP h2 h1
        exact ⟨cell, c1, c2, by rw [← h3]; exact c3⟩), fun U hU hW => ⟨rfl, by rw [hU], by rw [hU]; exact hin.P hP, va_K.moved hW.alike hK, fun τ0 => (hin.2.2.1 _ g.2.2.2.2.2.2.2.1 τ0).weaken (fun _ _ _ _ => trivial)⟩⟩ rfl hlen hL.1 rfl (lv_room hcat) hd (by rw [g.2.2.2.2.2.2.2.2.1]; exact hk) (p := k_p X) (e := k_e X) (below := k_b X) (meth := k_M X) (c := k_c X) (m := k_m X)
    have hA0 : ∀ q, va_A (cw0 σ0) H.size q → k_A X q := by
      intro q hq
      rcases hq with ⟨k, e, hk0⟩ | hq
      · exact (hin.2.2.1 _ g.2.2.2.2.2.2.2.1 σ0).2 k _ hk0
      · exact g.2.2.2.2.2.2.1 q (Nat.le_trans hS.1 hq)
    exact k_run (B := va_P (k_D X) vwCl (cw0 τ)) hrun hS (fun q _ h => hA0 q h) hA0 (fun H1 locs1 hB hk1 hS1 => kk r0 τ g r σ' ho H1 locs1 ls (hin.back (g.2.2.2.2.2.2.2.1 σ) hP hk1 hB) hS1 hL)
/-- a static method's call -/
theorem k_callS {S0 R0 : Type} {emb : R0 → Option Value} {y : MethodName} {bytes : ByteArray} {maxL : Nat} {ret : Option FieldType} {n index : Nat} {rm : Room} {cw0 : S0 → va_W} {σ0 : S0} {put : S0 → S} {As : List Value} {f : Option (R0 × S0)} {kf : R0 → S0 → Option (Rt × S)} {stk : List Value}
    (hin : k_In cw σ cw0 σ0 put) (hok : k_Sok y bytes maxL ret n) (hm : Cond.methodLink Y.2.2.2.1 index y ∈ k_ws) (hlen : As.length = n) (hrm : rm.cells = 0 ∧ rm.slots = 0) (hR : rm.frames + 1 ≤ Y.1.frames ∧ 8 + (maxL + 11) + rm.locals ≤ Y.1.locals) (hk : kc ≤ Y.1.cells ∧ ks ≤ Y.1.slots) (hcat : (st.map fun v => v.category).sum ≤ 8) (hd : decode Y.2.1 pc = .ok (.invokestatic index, 3)) (hstk : stk = As.reverse ++ st)
    (hM : ∀ r τ, f = some (r, τ) → k_Ct emb y bytes maxL ret rm cw0 (k_D X) (k_I X) As σ0 r τ) (kk : ∀ r τ, KO X Y cw kc ks Q (pc + 3) L ((emb r).toList ++ st) (put τ) (kf r τ)) : KO X Y cw kc ks Q pc L stk σ (k_ob f kf) := by
  subst hstk
  intro g r σ' ho H locs ls hP hS hL
  cases hf : f with
  | none => rw [hf] at ho; cases ho
  | some a =>
    obtain ⟨r0, τ⟩ := a
    rw [hf] at ho
    obtain ⟨hco, hs, hini, hmh, hn⟩ := hok
    have hK := g.2.2.2.2.2.1
    have hrun := va_runS (As := As) (rest := st) (cells := kc) (slots := ks) (locs := locs) (g := F0 (k_m X) pc ls (As.reverse ++ st)) (nL := Y.2.2.1) ⟨g.1, g.2.1, g.2.2.1, g.2.2.2.1, g.2.2.2.2.1⟩ (hM r0 τ hf (k_l X) H.size) ⟨k_callB g hco hini hmh hn hm hrm hR, g.2.2.2.2.1 _ hs⟩ ⟨k_blind, fun U hU hW => ⟨rfl, by rw [hU], by rw [hU]; exact hin.P hP, va_K.moved hW.alike hK, fun τ0 => (hin.2.2.1 _ g.2.2.2.2.2.2.2.1 τ0).weaken (fun _ _ _ _ => trivial)⟩⟩ rfl hlen hL.1 rfl (lv_room hcat) hd (by rw [g.2.2.2.2.2.2.2.2.1]; exact hk) (p := k_p X) (e := k_e X) (below := k_b X) (meth := k_M X) (c := k_c X) (m := k_m X)
    have hA0 : ∀ q, va_A (cw0 σ0) H.size q → k_A X q := by
      intro q hq
      rcases hq with ⟨k, e, hk0⟩ | hq
      · exact (hin.2.2.1 _ g.2.2.2.2.2.2.2.1 σ0).2 k _ hk0
      · exact g.2.2.2.2.2.2.1 q (Nat.le_trans hS.1 hq)
    exact k_run (B := va_P (k_D X) vwCl (cw0 τ)) hrun hS (fun q _ h => hA0 q h) hA0 (fun H1 locs1 hB hk1 hS1 => kk r0 τ g r σ' ho H1 locs1 ls (hin.back (g.2.2.2.2.2.2.2.1 σ) hP hk1 hB) hS1 hL)
theorem k_Vi0 {S0 : Type} {y : MethodName} {bytes : ByteArray} {maxL : Nat} {ret : Option FieldType} {index : Nat} {rm : Room} {cw0 : S0 → va_W} {σ0 : S0} {put : S0 → S} {b : Nat} {f : Option (Int32 × S0)} {kf : Int32 → S0 → Option (Rt × S)} (hin : k_In cw σ cw0 σ0 put) (hok : k_Vok y bytes maxL ret 0) (hm : Cond.methodLink Y.2.2.2.1 index y ∈ k_ws) (hrv : ∃ (k ci : Nat) (fs : List Value) (q : vw_C), (cw σ)[k]? = some (b, .inr (ci, fs)) ∧ vwCl[ci]? = some q ∧ q.1 = y.cls) (hrm : rm.cells = 0 ∧ rm.slots = 0) (hR : rm.frames + 1 ≤ Y.1.frames ∧ 8 + (maxL + 11) + rm.locals ≤ Y.1.locals) (hk : kc ≤ Y.1.cells ∧ ks ≤ Y.1.slots) (hcat : (st.map fun v => v.category).sum ≤ 8) (hd : decode Y.2.1 pc = .ok (.invokevirtual index, 3)) (hM : ∀ r τ, f = some (r, τ) → k_Ct k_ei y bytes maxL ret rm cw0 (k_D X) (k_I X) (.ref b :: []) σ0 r τ) (kk : ∀ r τ, KO X Y cw kc ks Q (pc + 3) L (.int r :: st) (put τ) (kf r τ)) : KO X Y cw kc ks Q pc L (.ref b :: st) σ (k_ob f kf) := k_callV (As := []) hin hok hm hrv rfl hrm hR hk hcat hd rfl hM kk
theorem k_Si0 {S0 : Type} {y : MethodName} {bytes : ByteArray} {maxL : Nat} {ret : Option FieldType} {index : Nat} {rm : Room} {cw0 : S0 → va_W} {σ0 : S0} {put : S0 → S} {f : Option (Int32 × S0)} {kf : Int32 → S0 → Option (Rt × S)} (hin : k_In cw σ cw0 σ0 put) (hok : k_Sok y bytes maxL ret 0) (hm : Cond.methodLink Y.2.2.2.1 index y ∈ k_ws) (hrm : rm.cells = 0 ∧ rm.slots = 0) (hR : rm.frames + 1 ≤ Y.1.frames ∧ 8 + (maxL + 11) + rm.locals ≤ Y.1.locals) (hk : kc ≤ Y.1.cells ∧ ks ≤ Y.1.slots) (hcat : (st.map fun v => v.category).sum ≤ 8) (hd : decode Y.2.1 pc = .ok (.invokestatic index, 3)) (hM : ∀ r τ, f = some (r, τ) → k_Ct k_ei y bytes maxL ret rm cw0 (k_D X) (k_I X) [] σ0 r τ) (kk : ∀ r τ, KO X Y cw kc ks Q (pc + 3) L (.int r :: st) (put τ) (kf r τ)) : KO X Y cw kc ks Q pc L (st) σ (k_ob f kf) := k_callS (As := []) hin hok hm rfl hrm hR hk hcat hd rfl hM kk
theorem k_Vv0 {S0 : Type} {y : MethodName} {bytes : ByteArray} {maxL : Nat} {ret : Option FieldType} {index : Nat} {rm : Room} {cw0 : S0 → va_W} {σ0 : S0} {put : S0 → S} {b : Nat} {f : Option (Unit × S0)} {kf : Unit → S0 → Option (Rt × S)} (hin : k_In cw σ cw0 σ0 put) (hok : k_Vok y bytes maxL ret 0) (hm : Cond.methodLink Y.2.2.2.1 index y ∈ k_ws) (hrv : ∃ (k ci : Nat) (fs : List Value) (q : vw_C), (cw σ)[k]? = some (b, .inr (ci, fs)) ∧ vwCl[ci]? = some q ∧ q.1 = y.cls) (hrm : rm.cells = 0 ∧ rm.slots = 0) (hR : rm.frames + 1 ≤ Y.1.frames ∧ 8 + (maxL + 11) + rm.locals ≤ Y.1.locals) (hk : kc ≤ Y.1.cells ∧ ks ≤ Y.1.slots) (hcat : (st.map fun v => v.category).sum ≤ 8) (hd : decode Y.2.1 pc = .ok (.invokevirtual index, 3)) (hM : ∀ r τ, f = some (r, τ) → k_Ct k_ev y bytes maxL ret rm cw0 (k_D X) (k_I X) (.ref b :: []) σ0 r τ) (kk : ∀ r τ, KO X Y cw kc ks Q (pc + 3) L (st) (put τ) (kf r τ)) : KO X Y cw kc ks Q pc L (.ref b :: st) σ (k_ob f kf) := k_callV (As := []) hin hok hm hrv rfl hrm hR hk hcat hd rfl hM kk
theorem k_Sv0 {S0 : Type} {y : MethodName} {bytes : ByteArray} {maxL : Nat} {ret : Option FieldType} {index : Nat} {rm : Room} {cw0 : S0 → va_W} {σ0 : S0} {put : S0 → S} {f : Option (Unit × S0)} {kf : Unit → S0 → Option (Rt × S)} (hin : k_In cw σ cw0 σ0 put) (hok : k_Sok y bytes maxL ret 0) (hm : Cond.methodLink Y.2.2.2.1 index y ∈ k_ws) (hrm : rm.cells = 0 ∧ rm.slots = 0) (hR : rm.frames + 1 ≤ Y.1.frames ∧ 8 + (maxL + 11) + rm.locals ≤ Y.1.locals) (hk : kc ≤ Y.1.cells ∧ ks ≤ Y.1.slots) (hcat : (st.map fun v => v.category).sum ≤ 8) (hd : decode Y.2.1 pc = .ok (.invokestatic index, 3)) (hM : ∀ r τ, f = some (r, τ) → k_Ct k_ev y bytes maxL ret rm cw0 (k_D X) (k_I X) [] σ0 r τ) (kk : ∀ r τ, KO X Y cw kc ks Q (pc + 3) L (st) (put τ) (kf r τ)) : KO X Y cw kc ks Q pc L (st) σ (k_ob f kf) := k_callS (As := []) hin hok hm rfl hrm hR hk hcat hd rfl hM kk
theorem k_Vi1 {S0 : Type} {y : MethodName} {bytes : ByteArray} {maxL : Nat} {ret : Option FieldType} {index : Nat} {rm : Room} {cw0 : S0 → va_W} {σ0 : S0} {put : S0 → S} {b : Nat} {v1 : Value} {f : Option (Int32 × S0)} {kf : Int32 → S0 → Option (Rt × S)} (hin : k_In cw σ cw0 σ0 put) (hok : k_Vok y bytes maxL ret 1) (hm : Cond.methodLink Y.2.2.2.1 index y ∈ k_ws) (hrv : ∃ (k ci : Nat) (fs : List Value) (q : vw_C), (cw σ)[k]? = some (b, .inr (ci, fs)) ∧ vwCl[ci]? = some q ∧ q.1 = y.cls) (hrm : rm.cells = 0 ∧ rm.slots = 0) (hR : rm.frames + 1 ≤ Y.1.frames ∧ 8 + (maxL + 11) + rm.locals ≤ Y.1.locals) (hk : kc ≤ Y.1.cells ∧ ks ≤ Y.1.slots) (hcat : (st.map fun v => v.category).sum ≤ 8) (hd : decode Y.2.1 pc = .ok (.invokevirtual index, 3)) (hM : ∀ r τ, f = some (r, τ) → k_Ct k_ei y bytes maxL ret rm cw0 (k_D X) (k_I X) (.ref b :: [v1]) σ0 r τ) (kk : ∀ r τ, KO X Y cw kc ks Q (pc + 3) L (.int r :: st) (put τ) (kf r τ)) : KO X Y cw kc ks Q pc L (v1 :: .ref b :: st) σ (k_ob f kf) := k_callV (As := [v1]) hin hok hm hrv rfl hrm hR hk hcat hd rfl hM kk
theorem k_Si1 {S0 : Type} {y : MethodName} {bytes : ByteArray} {maxL : Nat} {ret : Option FieldType} {index : Nat} {rm : Room} {cw0 : S0 → va_W} {σ0 : S0} {put : S0 → S} {v1 : Value} {f : Option (Int32 × S0)} {kf : Int32 → S0 → Option (Rt × S)} (hin : k_In cw σ cw0 σ0 put) (hok : k_Sok y bytes maxL ret 1) (hm : Cond.methodLink Y.2.2.2.1 index y ∈ k_ws) (hrm : rm.cells = 0 ∧ rm.slots = 0) (hR : rm.frames + 1 ≤ Y.1.frames ∧ 8 + (maxL + 11) + rm.locals ≤ Y.1.locals) (hk : kc ≤ Y.1.cells ∧ ks ≤ Y.1.slots) (hcat : (st.map fun v => v.category).sum ≤ 8) (hd : decode Y.2.1 pc = .ok (.invokestatic index, 3)) (hM : ∀ r τ, f = some (r, τ) → k_Ct k_ei y bytes maxL ret rm cw0 (k_D X) (k_I X) [v1] σ0 r τ) (kk : ∀ r τ, KO X Y cw kc ks Q (pc + 3) L (.int r :: st) (put τ) (kf r τ)) : KO X Y cw kc ks Q pc L (v1 :: st) σ (k_ob f kf) := k_callS (As := [v1]) hin hok hm rfl hrm hR hk hcat hd rfl hM kk
theorem k_Vv1 {S0 : Type} {y : MethodName} {bytes : ByteArray} {maxL : Nat} {ret : Option FieldType} {index : Nat} {rm : Room} {cw0 : S0 → va_W} {σ0 : S0} {put : S0 → S} {b : Nat} {v1 : Value} {f : Option (Unit × S0)} {kf : Unit → S0 → Option (Rt × S)} (hin : k_In cw σ cw0 σ0 put) (hok : k_Vok y bytes maxL ret 1) (hm : Cond.methodLink Y.2.2.2.1 index y ∈ k_ws) (hrv : ∃ (k ci : Nat) (fs : List Value) (q : vw_C), (cw σ)[k]? = some (b, .inr (ci, fs)) ∧ vwCl[ci]? = some q ∧ q.1 = y.cls) (hrm : rm.cells = 0 ∧ rm.slots = 0) (hR : rm.frames + 1 ≤ Y.1.frames ∧ 8 + (maxL + 11) + rm.locals ≤ Y.1.locals) (hk : kc ≤ Y.1.cells ∧ ks ≤ Y.1.slots) (hcat : (st.map fun v => v.category).sum ≤ 8) (hd : decode Y.2.1 pc = .ok (.invokevirtual index, 3)) (hM : ∀ r τ, f = some (r, τ) → k_Ct k_ev y bytes maxL ret rm cw0 (k_D X) (k_I X) (.ref b :: [v1]) σ0 r τ) (kk : ∀ r τ, KO X Y cw kc ks Q (pc + 3) L (st) (put τ) (kf r τ)) : KO X Y cw kc ks Q pc L (v1 :: .ref b :: st) σ (k_ob f kf) := k_callV (As := [v1]) hin hok hm hrv rfl hrm hR hk hcat hd rfl hM kk
theorem k_Sv1 {S0 : Type} {y : MethodName} {bytes : ByteArray} {maxL : Nat} {ret : Option FieldType} {index : Nat} {rm : Room} {cw0 : S0 → va_W} {σ0 : S0} {put : S0 → S} {v1 : Value} {f : Option (Unit × S0)} {kf : Unit → S0 → Option (Rt × S)} (hin : k_In cw σ cw0 σ0 put) (hok : k_Sok y bytes maxL ret 1) (hm : Cond.methodLink Y.2.2.2.1 index y ∈ k_ws) (hrm : rm.cells = 0 ∧ rm.slots = 0) (hR : rm.frames + 1 ≤ Y.1.frames ∧ 8 + (maxL + 11) + rm.locals ≤ Y.1.locals) (hk : kc ≤ Y.1.cells ∧ ks ≤ Y.1.slots) (hcat : (st.map fun v => v.category).sum ≤ 8) (hd : decode Y.2.1 pc = .ok (.invokestatic index, 3)) (hM : ∀ r τ, f = some (r, τ) → k_Ct k_ev y bytes maxL ret rm cw0 (k_D X) (k_I X) [v1] σ0 r τ) (kk : ∀ r τ, KO X Y cw kc ks Q (pc + 3) L (st) (put τ) (kf r τ)) : KO X Y cw kc ks Q pc L (v1 :: st) σ (k_ob f kf) := k_callS (As := [v1]) hin hok hm rfl hrm hR hk hcat hd rfl hM kk
theorem k_Vi2 {S0 : Type} {y : MethodName} {bytes : ByteArray} {maxL : Nat} {ret : Option FieldType} {index : Nat} {rm : Room} {cw0 : S0 → va_W} {σ0 : S0} {put : S0 → S} {b : Nat} {v1 v2 : Value} {f : Option (Int32 × S0)} {kf : Int32 → S0 → Option (Rt × S)} (hin : k_In cw σ cw0 σ0 put) (hok : k_Vok y bytes maxL ret 2) (hm : Cond.methodLink Y.2.2.2.1 index y ∈ k_ws) (hrv : ∃ (k ci : Nat) (fs : List Value) (q : vw_C), (cw σ)[k]? = some (b, .inr (ci, fs)) ∧ vwCl[ci]? = some q ∧ q.1 = y.cls) (hrm : rm.cells = 0 ∧ rm.slots = 0) (hR : rm.frames + 1 ≤ Y.1.frames ∧ 8 + (maxL + 11) + rm.locals ≤ Y.1.locals) (hk : kc ≤ Y.1.cells ∧ ks ≤ Y.1.slots) (hcat : (st.map fun v => v.category).sum ≤ 8) (hd : decode Y.2.1 pc = .ok (.invokevirtual index, 3)) (hM : ∀ r τ, f = some (r, τ) → k_Ct k_ei y bytes maxL ret rm cw0 (k_D X) (k_I X) (.ref b :: [v1, v2]) σ0 r τ) (kk : ∀ r τ, KO X Y cw kc ks Q (pc + 3) L (.int r :: st) (put τ) (kf r τ)) : KO X Y cw kc ks Q pc L (v2 :: v1 :: .ref b :: st) σ (k_ob f kf) := k_callV (As := [v1, v2]) hin hok hm hrv rfl hrm hR hk hcat hd rfl hM kk
theorem k_Si2 {S0 : Type} {y : MethodName} {bytes : ByteArray} {maxL : Nat} {ret : Option FieldType} {index : Nat} {rm : Room} {cw0 : S0 → va_W} {σ0 : S0} {put : S0 → S} {v1 v2 : Value} {f : Option (Int32 × S0)} {kf : Int32 → S0 → Option (Rt × S)} (hin : k_In cw σ cw0 σ0 put) (hok : k_Sok y bytes maxL ret 2) (hm : Cond.methodLink Y.2.2.2.1 index y ∈ k_ws) (hrm : rm.cells = 0 ∧ rm.slots = 0) (hR : rm.frames + 1 ≤ Y.1.frames ∧ 8 + (maxL + 11) + rm.locals ≤ Y.1.locals) (hk : kc ≤ Y.1.cells ∧ ks ≤ Y.1.slots) (hcat : (st.map fun v => v.category).sum ≤ 8) (hd : decode Y.2.1 pc = .ok (.invokestatic index, 3)) (hM : ∀ r τ, f = some (r, τ) → k_Ct k_ei y bytes maxL ret rm cw0 (k_D X) (k_I X) [v1, v2] σ0 r τ) (kk : ∀ r τ, KO X Y cw kc ks Q (pc + 3) L (.int r :: st) (put τ) (kf r τ)) : KO X Y cw kc ks Q pc L (v2 :: v1 :: st) σ (k_ob f kf) := k_callS (As := [v1, v2]) hin hok hm rfl hrm hR hk hcat hd rfl hM kk
theorem k_Vv2 {S0 : Type} {y : MethodName} {bytes : ByteArray} {maxL : Nat} {ret : Option FieldType} {index : Nat} {rm : Room} {cw0 : S0 → va_W} {σ0 : S0} {put : S0 → S} {b : Nat} {v1 v2 : Value} {f : Option (Unit × S0)} {kf : Unit → S0 → Option (Rt × S)} (hin : k_In cw σ cw0 σ0 put) (hok : k_Vok y bytes maxL ret 2) (hm : Cond.methodLink Y.2.2.2.1 index y ∈ k_ws) (hrv : ∃ (k ci : Nat) (fs : List Value) (q : vw_C), (cw σ)[k]? = some (b, .inr (ci, fs)) ∧ vwCl[ci]? = some q ∧ q.1 = y.cls) (hrm : rm.cells = 0 ∧ rm.slots = 0) (hR : rm.frames + 1 ≤ Y.1.frames ∧ 8 + (maxL + 11) + rm.locals ≤ Y.1.locals) (hk : kc ≤ Y.1.cells ∧ ks ≤ Y.1.slots) (hcat : (st.map fun v => v.category).sum ≤ 8) (hd : decode Y.2.1 pc = .ok (.invokevirtual index, 3)) (hM : ∀ r τ, f = some (r, τ) → k_Ct k_ev y bytes maxL ret rm cw0 (k_D X) (k_I X) (.ref b :: [v1, v2]) σ0 r τ) (kk : ∀ r τ, KO X Y cw kc ks Q (pc + 3) L (st) (put τ) (kf r τ)) : KO X Y cw kc ks Q pc L (v2 :: v1 :: .ref b :: st) σ (k_ob f kf) := k_callV (As := [v1, v2]) hin hok hm hrv rfl hrm hR hk hcat hd rfl hM kk
theorem k_Sv2 {S0 : Type} {y : MethodName} {bytes : ByteArray} {maxL : Nat} {ret : Option FieldType} {index : Nat} {rm : Room} {cw0 : S0 → va_W} {σ0 : S0} {put : S0 → S} {v1 v2 : Value} {f : Option (Unit × S0)} {kf : Unit → S0 → Option (Rt × S)} (hin : k_In cw σ cw0 σ0 put) (hok : k_Sok y bytes maxL ret 2) (hm : Cond.methodLink Y.2.2.2.1 index y ∈ k_ws) (hrm : rm.cells = 0 ∧ rm.slots = 0) (hR : rm.frames + 1 ≤ Y.1.frames ∧ 8 + (maxL + 11) + rm.locals ≤ Y.1.locals) (hk : kc ≤ Y.1.cells ∧ ks ≤ Y.1.slots) (hcat : (st.map fun v => v.category).sum ≤ 8) (hd : decode Y.2.1 pc = .ok (.invokestatic index, 3)) (hM : ∀ r τ, f = some (r, τ) → k_Ct k_ev y bytes maxL ret rm cw0 (k_D X) (k_I X) [v1, v2] σ0 r τ) (kk : ∀ r τ, KO X Y cw kc ks Q (pc + 3) L (st) (put τ) (kf r τ)) : KO X Y cw kc ks Q pc L (v2 :: v1 :: st) σ (k_ob f kf) := k_callS (As := [v1, v2]) hin hok hm rfl hrm hR hk hcat hd rfl hM kk
theorem k_Vi3 {S0 : Type} {y : MethodName} {bytes : ByteArray} {maxL : Nat} {ret : Option FieldType} {index : Nat} {rm : Room} {cw0 : S0 → va_W} {σ0 : S0} {put : S0 → S} {b : Nat} {v1 v2 v3 : Value} {f : Option (Int32 × S0)} {kf : Int32 → S0 → Option (Rt × S)} (hin : k_In cw σ cw0 σ0 put) (hok : k_Vok y bytes maxL ret 3) (hm : Cond.methodLink Y.2.2.2.1 index y ∈ k_ws) (hrv : ∃ (k ci : Nat) (fs : List Value) (q : vw_C), (cw σ)[k]? = some (b, .inr (ci, fs)) ∧ vwCl[ci]? = some q ∧ q.1 = y.cls) (hrm : rm.cells = 0 ∧ rm.slots = 0) (hR : rm.frames + 1 ≤ Y.1.frames ∧ 8 + (maxL + 11) + rm.locals ≤ Y.1.locals) (hk : kc ≤ Y.1.cells ∧ ks ≤ Y.1.slots) (hcat : (st.map fun v => v.category).sum ≤ 8) (hd : decode Y.2.1 pc = .ok (.invokevirtual index, 3)) (hM : ∀ r τ, f = some (r, τ) → k_Ct k_ei y bytes maxL ret rm cw0 (k_D X) (k_I X) (.ref b :: [v1, v2, v3]) σ0 r τ) (kk : ∀ r τ, KO X Y cw kc ks Q (pc + 3) L (.int r :: st) (put τ) (kf r τ)) : KO X Y cw kc ks Q pc L (v3 :: v2 :: v1 :: .ref b :: st) σ (k_ob f kf) := k_callV (As := [v1, v2, v3]) hin hok hm hrv rfl hrm hR hk hcat hd rfl hM kk
theorem k_Si3 {S0 : Type} {y : MethodName} {bytes : ByteArray} {maxL : Nat} {ret : Option FieldType} {index : Nat} {rm : Room} {cw0 : S0 → va_W} {σ0 : S0} {put : S0 → S} {v1 v2 v3 : Value} {f : Option (Int32 × S0)} {kf : Int32 → S0 → Option (Rt × S)} (hin : k_In cw σ cw0 σ0 put) (hok : k_Sok y bytes maxL ret 3) (hm : Cond.methodLink Y.2.2.2.1 index y ∈ k_ws) (hrm : rm.cells = 0 ∧ rm.slots = 0) (hR : rm.frames + 1 ≤ Y.1.frames ∧ 8 + (maxL + 11) + rm.locals ≤ Y.1.locals) (hk : kc ≤ Y.1.cells ∧ ks ≤ Y.1.slots) (hcat : (st.map fun v => v.category).sum ≤ 8) (hd : decode Y.2.1 pc = .ok (.invokestatic index, 3)) (hM : ∀ r τ, f = some (r, τ) → k_Ct k_ei y bytes maxL ret rm cw0 (k_D X) (k_I X) [v1, v2, v3] σ0 r τ) (kk : ∀ r τ, KO X Y cw kc ks Q (pc + 3) L (.int r :: st) (put τ) (kf r τ)) : KO X Y cw kc ks Q pc L (v3 :: v2 :: v1 :: st) σ (k_ob f kf) := k_callS (As := [v1, v2, v3]) hin hok hm rfl hrm hR hk hcat hd rfl hM kk
theorem k_Vv3 {S0 : Type} {y : MethodName} {bytes : ByteArray} {maxL : Nat} {ret : Option FieldType} {index : Nat} {rm : Room} {cw0 : S0 → va_W} {σ0 : S0} {put : S0 → S} {b : Nat} {v1 v2 v3 : Value} {f : Option (Unit × S0)} {kf : Unit → S0 → Option (Rt × S)} (hin : k_In cw σ cw0 σ0 put) (hok : k_Vok y bytes maxL ret 3) (hm : Cond.methodLink Y.2.2.2.1 index y ∈ k_ws) (hrv : ∃ (k ci : Nat) (fs : List Value) (q : vw_C), (cw σ)[k]? = some (b, .inr (ci, fs)) ∧ vwCl[ci]? = some q ∧ q.1 = y.cls) (hrm : rm.cells = 0 ∧ rm.slots = 0) (hR : rm.frames + 1 ≤ Y.1.frames ∧ 8 + (maxL + 11) + rm.locals ≤ Y.1.locals) (hk : kc ≤ Y.1.cells ∧ ks ≤ Y.1.slots) (hcat : (st.map fun v => v.category).sum ≤ 8) (hd : decode Y.2.1 pc = .ok (.invokevirtual index, 3)) (hM : ∀ r τ, f = some (r, τ) → k_Ct k_ev y bytes maxL ret rm cw0 (k_D X) (k_I X) (.ref b :: [v1, v2, v3]) σ0 r τ) (kk : ∀ r τ, KO X Y cw kc ks Q (pc + 3) L (st) (put τ) (kf r τ)) : KO X Y cw kc ks Q pc L (v3 :: v2 :: v1 :: .ref b :: st) σ (k_ob f kf) := k_callV (As := [v1, v2, v3]) hin hok hm hrv rfl hrm hR hk hcat hd rfl hM kk
theorem k_Sv3 {S0 : Type} {y : MethodName} {bytes : ByteArray} {maxL : Nat} {ret : Option FieldType} {index : Nat} {rm : Room} {cw0 : S0 → va_W} {σ0 : S0} {put : S0 → S} {v1 v2 v3 : Value} {f : Option (Unit × S0)} {kf : Unit → S0 → Option (Rt × S)} (hin : k_In cw σ cw0 σ0 put) (hok : k_Sok y bytes maxL ret 3) (hm : Cond.methodLink Y.2.2.2.1 index y ∈ k_ws) (hrm : rm.cells = 0 ∧ rm.slots = 0) (hR : rm.frames + 1 ≤ Y.1.frames ∧ 8 + (maxL + 11) + rm.locals ≤ Y.1.locals) (hk : kc ≤ Y.1.cells ∧ ks ≤ Y.1.slots) (hcat : (st.map fun v => v.category).sum ≤ 8) (hd : decode Y.2.1 pc = .ok (.invokestatic index, 3)) (hM : ∀ r τ, f = some (r, τ) → k_Ct k_ev y bytes maxL ret rm cw0 (k_D X) (k_I X) [v1, v2, v3] σ0 r τ) (kk : ∀ r τ, KO X Y cw kc ks Q (pc + 3) L (st) (put τ) (kf r τ)) : KO X Y cw kc ks Q pc L (v3 :: v2 :: v1 :: st) σ (k_ob f kf) := k_callS (As := [v1, v2, v3]) hin hok hm rfl hrm hR hk hcat hd rfl hM kk
theorem k_Vl3 {S0 : Type} {y : MethodName} {bytes : ByteArray} {maxL : Nat} {ret : Option FieldType} {index : Nat} {rm : Room} {cw0 : S0 → va_W} {σ0 : S0} {put : S0 → S} {b : Nat} {v1 v2 v3 : Value} {f : Option (Int64 × S0)} {kf : Int64 → S0 → Option (Rt × S)} (hin : k_In cw σ cw0 σ0 put) (hok : k_Vok y bytes maxL ret 3) (hm : Cond.methodLink Y.2.2.2.1 index y ∈ k_ws) (hrv : ∃ (k ci : Nat) (fs : List Value) (q : vw_C), (cw σ)[k]? = some (b, .inr (ci, fs)) ∧ vwCl[ci]? = some q ∧ q.1 = y.cls) (hrm : rm.cells = 0 ∧ rm.slots = 0) (hR : rm.frames + 1 ≤ Y.1.frames ∧ 8 + (maxL + 11) + rm.locals ≤ Y.1.locals) (hk : kc ≤ Y.1.cells ∧ ks ≤ Y.1.slots) (hcat : (st.map fun v => v.category).sum ≤ 8) (hd : decode Y.2.1 pc = .ok (.invokevirtual index, 3)) (hM : ∀ r τ, f = some (r, τ) → k_Ct k_el y bytes maxL ret rm cw0 (k_D X) (k_I X) (.ref b :: [v1, v2, v3]) σ0 r τ) (kk : ∀ r τ, KO X Y cw kc ks Q (pc + 3) L (.long r :: st) (put τ) (kf r τ)) : KO X Y cw kc ks Q pc L (v3 :: v2 :: v1 :: .ref b :: st) σ (k_ob f kf) := k_callV (As := [v1, v2, v3]) hin hok hm hrv rfl hrm hR hk hcat hd rfl hM kk
theorem k_Vi4 {S0 : Type} {y : MethodName} {bytes : ByteArray} {maxL : Nat} {ret : Option FieldType} {index : Nat} {rm : Room} {cw0 : S0 → va_W} {σ0 : S0} {put : S0 → S} {b : Nat} {v1 v2 v3 v4 : Value} {f : Option (Int32 × S0)} {kf : Int32 → S0 → Option (Rt × S)} (hin : k_In cw σ cw0 σ0 put) (hok : k_Vok y bytes maxL ret 4) (hm : Cond.methodLink Y.2.2.2.1 index y ∈ k_ws) (hrv : ∃ (k ci : Nat) (fs : List Value) (q : vw_C), (cw σ)[k]? = some (b, .inr (ci, fs)) ∧ vwCl[ci]? = some q ∧ q.1 = y.cls) (hrm : rm.cells = 0 ∧ rm.slots = 0) (hR : rm.frames + 1 ≤ Y.1.frames ∧ 8 + (maxL + 11) + rm.locals ≤ Y.1.locals) (hk : kc ≤ Y.1.cells ∧ ks ≤ Y.1.slots) (hcat : (st.map fun v => v.category).sum ≤ 8) (hd : decode Y.2.1 pc = .ok (.invokevirtual index, 3)) (hM : ∀ r τ, f = some (r, τ) → k_Ct k_ei y bytes maxL ret rm cw0 (k_D X) (k_I X) (.ref b :: [v1, v2, v3, v4]) σ0 r τ) (kk : ∀ r τ, KO X Y cw kc ks Q (pc + 3) L (.int r :: st) (put τ) (kf r τ)) : KO X Y cw kc ks Q pc L (v4 :: v3 :: v2 :: v1 :: .ref b :: st) σ (k_ob f kf) := k_callV (As := [v1, v2, v3, v4]) hin hok hm hrv rfl hrm hR hk hcat hd rfl hM kk
theorem k_Si4 {S0 : Type} {y : MethodName} {bytes : ByteArray} {maxL : Nat} {ret : Option FieldType} {index : Nat} {rm : Room} {cw0 : S0 → va_W} {σ0 : S0} {put : S0 → S} {v1 v2 v3 v4 : Value} {f : Option (Int32 × S0)} {kf : Int32 → S0 → Option (Rt × S)} (hin : k_In cw σ cw0 σ0 put) (hok : k_Sok y bytes maxL ret 4) (hm : Cond.methodLink Y.2.2.2.1 index y ∈ k_ws) (hrm : rm.cells = 0 ∧ rm.slots = 0) (hR : rm.frames + 1 ≤ Y.1.frames ∧ 8 + (maxL + 11) + rm.locals ≤ Y.1.locals) (hk : kc ≤ Y.1.cells ∧ ks ≤ Y.1.slots) (hcat : (st.map fun v => v.category).sum ≤ 8) (hd : decode Y.2.1 pc = .ok (.invokestatic index, 3)) (hM : ∀ r τ, f = some (r, τ) → k_Ct k_ei y bytes maxL ret rm cw0 (k_D X) (k_I X) [v1, v2, v3, v4] σ0 r τ) (kk : ∀ r τ, KO X Y cw kc ks Q (pc + 3) L (.int r :: st) (put τ) (kf r τ)) : KO X Y cw kc ks Q pc L (v4 :: v3 :: v2 :: v1 :: st) σ (k_ob f kf) := k_callS (As := [v1, v2, v3, v4]) hin hok hm rfl hrm hR hk hcat hd rfl hM kk
theorem k_Vv4 {S0 : Type} {y : MethodName} {bytes : ByteArray} {maxL : Nat} {ret : Option FieldType} {index : Nat} {rm : Room} {cw0 : S0 → va_W} {σ0 : S0} {put : S0 → S} {b : Nat} {v1 v2 v3 v4 : Value} {f : Option (Unit × S0)} {kf : Unit → S0 → Option (Rt × S)} (hin : k_In cw σ cw0 σ0 put) (hok : k_Vok y bytes maxL ret 4) (hm : Cond.methodLink Y.2.2.2.1 index y ∈ k_ws) (hrv : ∃ (k ci : Nat) (fs : List Value) (q : vw_C), (cw σ)[k]? = some (b, .inr (ci, fs)) ∧ vwCl[ci]? = some q ∧ q.1 = y.cls) (hrm : rm.cells = 0 ∧ rm.slots = 0) (hR : rm.frames + 1 ≤ Y.1.frames ∧ 8 + (maxL + 11) + rm.locals ≤ Y.1.locals) (hk : kc ≤ Y.1.cells ∧ ks ≤ Y.1.slots) (hcat : (st.map fun v => v.category).sum ≤ 8) (hd : decode Y.2.1 pc = .ok (.invokevirtual index, 3)) (hM : ∀ r τ, f = some (r, τ) → k_Ct k_ev y bytes maxL ret rm cw0 (k_D X) (k_I X) (.ref b :: [v1, v2, v3, v4]) σ0 r τ) (kk : ∀ r τ, KO X Y cw kc ks Q (pc + 3) L (st) (put τ) (kf r τ)) : KO X Y cw kc ks Q pc L (v4 :: v3 :: v2 :: v1 :: .ref b :: st) σ (k_ob f kf) := k_callV (As := [v1, v2, v3, v4]) hin hok hm hrv rfl hrm hR hk hcat hd rfl hM kk
theorem k_Sv4 {S0 : Type} {y : MethodName} {bytes : ByteArray} {maxL : Nat} {ret : Option FieldType} {index : Nat} {rm : Room} {cw0 : S0 → va_W} {σ0 : S0} {put : S0 → S} {v1 v2 v3 v4 : Value} {f : Option (Unit × S0)} {kf : Unit → S0 → Option (Rt × S)} (hin : k_In cw σ cw0 σ0 put) (hok : k_Sok y bytes maxL ret 4) (hm : Cond.methodLink Y.2.2.2.1 index y ∈ k_ws) (hrm : rm.cells = 0 ∧ rm.slots = 0) (hR : rm.frames + 1 ≤ Y.1.frames ∧ 8 + (maxL + 11) + rm.locals ≤ Y.1.locals) (hk : kc ≤ Y.1.cells ∧ ks ≤ Y.1.slots) (hcat : (st.map fun v => v.category).sum ≤ 8) (hd : decode Y.2.1 pc = .ok (.invokestatic index, 3)) (hM : ∀ r τ, f = some (r, τ) → k_Ct k_ev y bytes maxL ret rm cw0 (k_D X) (k_I X) [v1, v2, v3, v4] σ0 r τ) (kk : ∀ r τ, KO X Y cw kc ks Q (pc + 3) L (st) (put τ) (kf r τ)) : KO X Y cw kc ks Q pc L (v4 :: v3 :: v2 :: v1 :: st) σ (k_ob f kf) := k_callS (As := [v1, v2, v3, v4]) hin hok hm rfl hrm hR hk hcat hd rfl hM kk
theorem k_Vi5 {S0 : Type} {y : MethodName} {bytes : ByteArray} {maxL : Nat} {ret : Option FieldType} {index : Nat} {rm : Room} {cw0 : S0 → va_W} {σ0 : S0} {put : S0 → S} {b : Nat} {v1 v2 v3 v4 v5 : Value} {f : Option (Int32 × S0)} {kf : Int32 → S0 → Option (Rt × S)} (hin : k_In cw σ cw0 σ0 put) (hok : k_Vok y bytes maxL ret 5) (hm : Cond.methodLink Y.2.2.2.1 index y ∈ k_ws) (hrv : ∃ (k ci : Nat) (fs : List Value) (q : vw_C), (cw σ)[k]? = some (b, .inr (ci, fs)) ∧ vwCl[ci]? = some q ∧ q.1 = y.cls) (hrm : rm.cells = 0 ∧ rm.slots = 0) (hR : rm.frames + 1 ≤ Y.1.frames ∧ 8 + (maxL + 11) + rm.locals ≤ Y.1.locals) (hk : kc ≤ Y.1.cells ∧ ks ≤ Y.1.slots) (hcat : (st.map fun v => v.category).sum ≤ 8) (hd : decode Y.2.1 pc = .ok (.invokevirtual index, 3)) (hM : ∀ r τ, f = some (r, τ) → k_Ct k_ei y bytes maxL ret rm cw0 (k_D X) (k_I X) (.ref b :: [v1, v2, v3, v4, v5]) σ0 r τ) (kk : ∀ r τ, KO X Y cw kc ks Q (pc + 3) L (.int r :: st) (put τ) (kf r τ)) : KO X Y cw kc ks Q pc L (v5 :: v4 :: v3 :: v2 :: v1 :: .ref b :: st) σ (k_ob f kf) := k_callV (As := [v1, v2, v3, v4, v5]) hin hok hm hrv rfl hrm hR hk hcat hd rfl hM kk
theorem k_Si5 {S0 : Type} {y : MethodName} {bytes : ByteArray} {maxL : Nat} {ret : Option FieldType} {index : Nat} {rm : Room} {cw0 : S0 → va_W} {σ0 : S0} {put : S0 → S} {v1 v2 v3 v4 v5 : Value} {f : Option (Int32 × S0)} {kf : Int32 → S0 → Option (Rt × S)} (hin : k_In cw σ cw0 σ0 put) (hok : k_Sok y bytes maxL ret 5) (hm : Cond.methodLink Y.2.2.2.1 index y ∈ k_ws) (hrm : rm.cells = 0 ∧ rm.slots = 0) (hR : rm.frames + 1 ≤ Y.1.frames ∧ 8 + (maxL + 11) + rm.locals ≤ Y.1.locals) (hk : kc ≤ Y.1.cells ∧ ks ≤ Y.1.slots) (hcat : (st.map fun v => v.category).sum ≤ 8) (hd : decode Y.2.1 pc = .ok (.invokestatic index, 3)) (hM : ∀ r τ, f = some (r, τ) → k_Ct k_ei y bytes maxL ret rm cw0 (k_D X) (k_I X) [v1, v2, v3, v4, v5] σ0 r τ) (kk : ∀ r τ, KO X Y cw kc ks Q (pc + 3) L (.int r :: st) (put τ) (kf r τ)) : KO X Y cw kc ks Q pc L (v5 :: v4 :: v3 :: v2 :: v1 :: st) σ (k_ob f kf) := k_callS (As := [v1, v2, v3, v4, v5]) hin hok hm rfl hrm hR hk hcat hd rfl hM kk
theorem k_Vv5 {S0 : Type} {y : MethodName} {bytes : ByteArray} {maxL : Nat} {ret : Option FieldType} {index : Nat} {rm : Room} {cw0 : S0 → va_W} {σ0 : S0} {put : S0 → S} {b : Nat} {v1 v2 v3 v4 v5 : Value} {f : Option (Unit × S0)} {kf : Unit → S0 → Option (Rt × S)} (hin : k_In cw σ cw0 σ0 put) (hok : k_Vok y bytes maxL ret 5) (hm : Cond.methodLink Y.2.2.2.1 index y ∈ k_ws) (hrv : ∃ (k ci : Nat) (fs : List Value) (q : vw_C), (cw σ)[k]? = some (b, .inr (ci, fs)) ∧ vwCl[ci]? = some q ∧ q.1 = y.cls) (hrm : rm.cells = 0 ∧ rm.slots = 0) (hR : rm.frames + 1 ≤ Y.1.frames ∧ 8 + (maxL + 11) + rm.locals ≤ Y.1.locals) (hk : kc ≤ Y.1.cells ∧ ks ≤ Y.1.slots) (hcat : (st.map fun v => v.category).sum ≤ 8) (hd : decode Y.2.1 pc = .ok (.invokevirtual index, 3)) (hM : ∀ r τ, f = some (r, τ) → k_Ct k_ev y bytes maxL ret rm cw0 (k_D X) (k_I X) (.ref b :: [v1, v2, v3, v4, v5]) σ0 r τ) (kk : ∀ r τ, KO X Y cw kc ks Q (pc + 3) L (st) (put τ) (kf r τ)) : KO X Y cw kc ks Q pc L (v5 :: v4 :: v3 :: v2 :: v1 :: .ref b :: st) σ (k_ob f kf) := k_callV (As := [v1, v2, v3, v4, v5]) hin hok hm hrv rfl hrm hR hk hcat hd rfl hM kk
theorem k_Sv5 {S0 : Type} {y : MethodName} {bytes : ByteArray} {maxL : Nat} {ret : Option FieldType} {index : Nat} {rm : Room} {cw0 : S0 → va_W} {σ0 : S0} {put : S0 → S} {v1 v2 v3 v4 v5 : Value} {f : Option (Unit × S0)} {kf : Unit → S0 → Option (Rt × S)} (hin : k_In cw σ cw0 σ0 put) (hok : k_Sok y bytes maxL ret 5) (hm : Cond.methodLink Y.2.2.2.1 index y ∈ k_ws) (hrm : rm.cells = 0 ∧ rm.slots = 0) (hR : rm.frames + 1 ≤ Y.1.frames ∧ 8 + (maxL + 11) + rm.locals ≤ Y.1.locals) (hk : kc ≤ Y.1.cells ∧ ks ≤ Y.1.slots) (hcat : (st.map fun v => v.category).sum ≤ 8) (hd : decode Y.2.1 pc = .ok (.invokestatic index, 3)) (hM : ∀ r τ, f = some (r, τ) → k_Ct k_ev y bytes maxL ret rm cw0 (k_D X) (k_I X) [v1, v2, v3, v4, v5] σ0 r τ) (kk : ∀ r τ, KO X Y cw kc ks Q (pc + 3) L (st) (put τ) (kf r τ)) : KO X Y cw kc ks Q pc L (v5 :: v4 :: v3 :: v2 :: v1 :: st) σ (k_ob f kf) := k_callS (As := [v1, v2, v3, v4, v5]) hin hok hm rfl hrm hR hk hcat hd rfl hM kk
theorem k_Vi6 {S0 : Type} {y : MethodName} {bytes : ByteArray} {maxL : Nat} {ret : Option FieldType} {index : Nat} {rm : Room} {cw0 : S0 → va_W} {σ0 : S0} {put : S0 → S} {b : Nat} {v1 v2 v3 v4 v5 v6 : Value} {f : Option (Int32 × S0)} {kf : Int32 → S0 → Option (Rt × S)} (hin : k_In cw σ cw0 σ0 put) (hok : k_Vok y bytes maxL ret 6) (hm : Cond.methodLink Y.2.2.2.1 index y ∈ k_ws) (hrv : ∃ (k ci : Nat) (fs : List Value) (q : vw_C), (cw σ)[k]? = some (b, .inr (ci, fs)) ∧ vwCl[ci]? = some q ∧ q.1 = y.cls) (hrm : rm.cells = 0 ∧ rm.slots = 0) (hR : rm.frames + 1 ≤ Y.1.frames ∧ 8 + (maxL + 11) + rm.locals ≤ Y.1.locals) (hk : kc ≤ Y.1.cells ∧ ks ≤ Y.1.slots) (hcat : (st.map fun v => v.category).sum ≤ 8) (hd : decode Y.2.1 pc = .ok (.invokevirtual index, 3)) (hM : ∀ r τ, f = some (r, τ) → k_Ct k_ei y bytes maxL ret rm cw0 (k_D X) (k_I X) (.ref b :: [v1, v2, v3, v4, v5, v6]) σ0 r τ) (kk : ∀ r τ, KO X Y cw kc ks Q (pc + 3) L (.int r :: st) (put τ) (kf r τ)) : KO X Y cw kc ks Q pc L (v6 :: v5 :: v4 :: v3 :: v2 :: v1 :: .ref b :: st) σ (k_ob f kf) := k_callV (As := [v1, v2, v3, v4, v5, v6]) hin hok hm hrv rfl hrm hR hk hcat hd rfl hM kk
theorem k_Si6 {S0 : Type} {y : MethodName} {bytes : ByteArray} {maxL : Nat} {ret : Option FieldType} {index : Nat} {rm : Room} {cw0 : S0 → va_W} {σ0 : S0} {put : S0 → S} {v1 v2 v3 v4 v5 v6 : Value} {f : Option (Int32 × S0)} {kf : Int32 → S0 → Option (Rt × S)} (hin : k_In cw σ cw0 σ0 put) (hok : k_Sok y bytes maxL ret 6) (hm : Cond.methodLink Y.2.2.2.1 index y ∈ k_ws) (hrm : rm.cells = 0 ∧ rm.slots = 0) (hR : rm.frames + 1 ≤ Y.1.frames ∧ 8 + (maxL + 11) + rm.locals ≤ Y.1.locals) (hk : kc ≤ Y.1.cells ∧ ks ≤ Y.1.slots) (hcat : (st.map fun v => v.category).sum ≤ 8) (hd : decode Y.2.1 pc = .ok (.invokestatic index, 3)) (hM : ∀ r τ, f = some (r, τ) → k_Ct k_ei y bytes maxL ret rm cw0 (k_D X) (k_I X) [v1, v2, v3, v4, v5, v6] σ0 r τ) (kk : ∀ r τ, KO X Y cw kc ks Q (pc + 3) L (.int r :: st) (put τ) (kf r τ)) : KO X Y cw kc ks Q pc L (v6 :: v5 :: v4 :: v3 :: v2 :: v1 :: st) σ (k_ob f kf) := k_callS (As := [v1, v2, v3, v4, v5, v6]) hin hok hm rfl hrm hR hk hcat hd rfl hM kk
theorem k_Vv6 {S0 : Type} {y : MethodName} {bytes : ByteArray} {maxL : Nat} {ret : Option FieldType} {index : Nat} {rm : Room} {cw0 : S0 → va_W} {σ0 : S0} {put : S0 → S} {b : Nat} {v1 v2 v3 v4 v5 v6 : Value} {f : Option (Unit × S0)} {kf : Unit → S0 → Option (Rt × S)} (hin : k_In cw σ cw0 σ0 put) (hok : k_Vok y bytes maxL ret 6) (hm : Cond.methodLink Y.2.2.2.1 index y ∈ k_ws) (hrv : ∃ (k ci : Nat) (fs : List Value) (q : vw_C), (cw σ)[k]? = some (b, .inr (ci, fs)) ∧ vwCl[ci]? = some q ∧ q.1 = y.cls) (hrm : rm.cells = 0 ∧ rm.slots = 0) (hR : rm.frames + 1 ≤ Y.1.frames ∧ 8 + (maxL + 11) + rm.locals ≤ Y.1.locals) (hk : kc ≤ Y.1.cells ∧ ks ≤ Y.1.slots) (hcat : (st.map fun v => v.category).sum ≤ 8) (hd : decode Y.2.1 pc = .ok (.invokevirtual index, 3)) (hM : ∀ r τ, f = some (r, τ) → k_Ct k_ev y bytes maxL ret rm cw0 (k_D X) (k_I X) (.ref b :: [v1, v2, v3, v4, v5, v6]) σ0 r τ) (kk : ∀ r τ, KO X Y cw kc ks Q (pc + 3) L (st) (put τ) (kf r τ)) : KO X Y cw kc ks Q pc L (v6 :: v5 :: v4 :: v3 :: v2 :: v1 :: .ref b :: st) σ (k_ob f kf) := k_callV (As := [v1, v2, v3, v4, v5, v6]) hin hok hm hrv rfl hrm hR hk hcat hd rfl hM kk
theorem k_Sv6 {S0 : Type} {y : MethodName} {bytes : ByteArray} {maxL : Nat} {ret : Option FieldType} {index : Nat} {rm : Room} {cw0 : S0 → va_W} {σ0 : S0} {put : S0 → S} {v1 v2 v3 v4 v5 v6 : Value} {f : Option (Unit × S0)} {kf : Unit → S0 → Option (Rt × S)} (hin : k_In cw σ cw0 σ0 put) (hok : k_Sok y bytes maxL ret 6) (hm : Cond.methodLink Y.2.2.2.1 index y ∈ k_ws) (hrm : rm.cells = 0 ∧ rm.slots = 0) (hR : rm.frames + 1 ≤ Y.1.frames ∧ 8 + (maxL + 11) + rm.locals ≤ Y.1.locals) (hk : kc ≤ Y.1.cells ∧ ks ≤ Y.1.slots) (hcat : (st.map fun v => v.category).sum ≤ 8) (hd : decode Y.2.1 pc = .ok (.invokestatic index, 3)) (hM : ∀ r τ, f = some (r, τ) → k_Ct k_ev y bytes maxL ret rm cw0 (k_D X) (k_I X) [v1, v2, v3, v4, v5, v6] σ0 r τ) (kk : ∀ r τ, KO X Y cw kc ks Q (pc + 3) L (st) (put τ) (kf r τ)) : KO X Y cw kc ks Q pc L (v6 :: v5 :: v4 :: v3 :: v2 :: v1 :: st) σ (k_ob f kf) := k_callS (As := [v1, v2, v3, v4, v5, v6]) hin hok hm rfl hrm hR hk hcat hd rfl hM kk
end KR3
end
section
/-! ===== worlds: the class (cT), the reference (cM); fields and arrays by number (by program: wip/gen/worlds.py) ===== -/
theorem k_same_of {S : Type} {cw : S → va_W} (h : ∀ σ τ, (cw σ).map Prod.fst = (cw τ).map Prod.fst) : k_same cw := by
  intro σ τ k q hk
  have h1 : ((cw τ).map Prod.fst)[k]? = some q.1 := by rw [← h σ τ, List.getElem?_map, hk]; rfl
  rw [List.getElem?_map] at h1
  cases hq : (cw τ)[k]? with
  | none => rw [hq] at h1; cases h1
  | some q2 => rw [hq] at h1; exact ⟨q2.2, by rw [← (Option.some.inj h1 : q2.1 = q.1)]⟩
/-- T: TallTales.sheets: ref 1; TallTales.text: ref 2; TallTales.house: ref 3; TallTales.talls: ref 4; TallTales.rests: ref 5; TallTales.winter: ref 6; TallTales.lying: ref 7; TallTales.trace: int 0; TallTales.fault: int 1; TallTales$Sheets.cells: ref 8; TallTales$Sheets.sorts: ref 9; TallTales$Sheets.lengths: ref 10; TallTales$Text.codes: ref 11; TallTales$Text.length: int 2; TallTales$House.guests: int 3; TallTales$House.tales: int 4; TallTales$House.memory: int 5; TallTales$House.nights: int 6; TallTales$House.kinds: ref 12; TallTales$House.owners: ref 13; TallTales$House.heights: ref 14; TallTales$House.told: ref 15; TallTales$House.last: ref 16; TallTales$House.chosen: ref 17; TallTales$House.nightTale: ref 18; TallTales$House.nightPlace: ref 19; TallTales$House.nightTall: ref 20; TallTales$Talls.of: ref 21; TallTales$Talls.guests: int 7; TallTales$Rests.house: ref 3; TallTales$Rests.talls: ref 4; TallTales$Rests.picks: ref 22; TallTales$Rests.first: ref 23; TallTales$Rests.count: int 8; TallTales$Winter.house: ref 3; TallTales$Winter.numbers: ref 24; TallTales$Winter.ahead: ref 25; TallTales$Winter.told: ref 26; TallTales$Winter.last: ref 27; TallTales$Winter.row: ref 28; TallTales$Winter.first: ref 29; TallTales$Winter.guest: int 9; TallTales$Winter.length: int 10; TallTales$Winter.most: int 11 -/
def cT (cI : ClassId) (q : Nat → Nat) (σ : k_S) : va_W := [(q 0, .inr (6, [.ref (q 1), .ref (q 2), .ref (q 3), .ref (q 4), .ref (q 5), .ref (q 6), .ref (q 7), .int (σ.1 0), .int (σ.1 1)])), (q 1, .inr (2, [.ref (q 8), .ref (q 9), .ref (q 10)])), (q 2, .inr (4, [.ref (q 11), .int (σ.1 2)])), (q 3, .inr (0, [.int (σ.1 3), .int (σ.1 4), .int (σ.1 5), .int (σ.1 6), .ref (q 12), .ref (q 13), .ref (q 14), .ref (q 15), .ref (q 16), .ref (q 17), .ref (q 18), .ref (q 19), .ref (q 20)])), (q 4, .inr (3, [.ref (q 21), .int (σ.1 7)])), (q 5, .inr (1, [.ref (q 3), .ref (q 4), .ref (q 22), .ref (q 23), .int (σ.1 8)])), (q 6, .inr (5, [.ref (q 3), .ref (q 24), .ref (q 25), .ref (q 26), .ref (q 27), .ref (q 28), .ref (q 29), .int (σ.1 9), .int (σ.1 10), .int (σ.1 11)])), (q 7, .inl (cI, 5, .inl (σ.2 0))), (q 8, .inl (cI, 240, .inl (σ.2 1))), (q 9, .inl (cI, 4, .inl (σ.2 2))), (q 10, .inl (cI, 4, .inl (σ.2 3))), (q 11, .inl (cI, 60, .inl (σ.2 4))), (q 12, .inl (cI, 10, .inl (σ.2 5))), (q 13, .inl (cI, 10, .inl (σ.2 6))), (q 14, .inl (cI, 10, .inl (σ.2 7))), (q 15, .inl (cI, 10, .inl (σ.2 8))), (q 16, .inl (cI, 10, .inl (σ.2 9))), (q 17, .inl (cI, 5, .inl (σ.2 10))), (q 18, .inl (cI, 300, .inl (σ.2 11))), (q 19, .inl (cI, 300, .inl (σ.2 12))), (q 20, .inl (cI, 300, .inl (σ.2 13))), (q 21, .inl (cI, 5, .inl (σ.2 14))), (q 22, .inl (cI, 5, .inl (σ.2 15))), (q 23, .inl (cI, 5, .inl (σ.2 16))), (q 24, .inl (cI, 6, .inl (σ.2 17))), (q 25, .inl (cI, 7, .inl (σ.2 18))), (q 26, .inl (cI, 10, .inl (σ.2 19))), (q 27, .inl (cI, 10, .inl (σ.2 20))), (q 28, .inl (cI, 6, .inl (σ.2 21))), (q 29, .inl (cI, 6, .inl (σ.2 22)))]
theorem cT_same (cI : ClassId) (q : Nat → Nat) : k_same (cT cI q) := k_same_of fun _ _ => rfl
theorem cT_rv0 {cI : ClassId} {q : Nat → Nat} {σ : k_S} : ∃ (k ci : Nat) (fs : List Value) (qc : vw_C), (cT cI q σ)[k]? = some (q 0, .inr (ci, fs)) ∧ vwCl[ci]? = some qc ∧ qc.1 = RX6 := ⟨0, 6, _, _, rfl, rfl, rfl⟩
theorem cT_rv1 {cI : ClassId} {q : Nat → Nat} {σ : k_S} : ∃ (k ci : Nat) (fs : List Value) (qc : vw_C), (cT cI q σ)[k]? = some (q 1, .inr (ci, fs)) ∧ vwCl[ci]? = some qc ∧ qc.1 = RX2 := ⟨1, 2, _, _, rfl, rfl, rfl⟩
theorem cT_rv2 {cI : ClassId} {q : Nat → Nat} {σ : k_S} : ∃ (k ci : Nat) (fs : List Value) (qc : vw_C), (cT cI q σ)[k]? = some (q 2, .inr (ci, fs)) ∧ vwCl[ci]? = some qc ∧ qc.1 = RX4 := ⟨2, 4, _, _, rfl, rfl, rfl⟩
theorem cT_rv3 {cI : ClassId} {q : Nat → Nat} {σ : k_S} : ∃ (k ci : Nat) (fs : List Value) (qc : vw_C), (cT cI q σ)[k]? = some (q 3, .inr (ci, fs)) ∧ vwCl[ci]? = some qc ∧ qc.1 = RX0 := ⟨3, 0, _, _, rfl, rfl, rfl⟩
theorem cT_rv4 {cI : ClassId} {q : Nat → Nat} {σ : k_S} : ∃ (k ci : Nat) (fs : List Value) (qc : vw_C), (cT cI q σ)[k]? = some (q 4, .inr (ci, fs)) ∧ vwCl[ci]? = some qc ∧ qc.1 = RX3 := ⟨4, 3, _, _, rfl, rfl, rfl⟩
theorem cT_rv5 {cI : ClassId} {q : Nat → Nat} {σ : k_S} : ∃ (k ci : Nat) (fs : List Value) (qc : vw_C), (cT cI q σ)[k]? = some (q 5, .inr (ci, fs)) ∧ vwCl[ci]? = some qc ∧ qc.1 = RX1 := ⟨5, 1, _, _, rfl, rfl, rfl⟩
theorem cT_rv6 {cI : ClassId} {q : Nat → Nat} {σ : k_S} : ∃ (k ci : Nat) (fs : List Value) (qc : vw_C), (cT cI q σ)[k]? = some (q 6, .inr (ci, fs)) ∧ vwCl[ci]? = some qc ∧ qc.1 = RX5 := ⟨6, 5, _, _, rfl, rfl, rfl⟩
theorem k_gTX6_sheets {Rt : Type} {X : k_C} {Y : k_Y} {q : Nat → Nat} {kc ks : Nat} {Q : Rt → k_S → State → Prop} {pc : Nat} {L : List (Option Value)} {st : List Value} {σ : k_S} {o : Option (Rt × k_S)} {own : String} {index : Nat} (hw : Cond.fieldLink own index "TallTales" "sheets" "LTallTales$Sheets;" ∈ k_ws) (hown : own = Y.2.2.2.1) (hd : decode Y.2.1 pc = .ok (.getfield index, 3)) (kk : KO X Y (cT (k_I X) q) kc ks Q (pc + 3) L (.ref (q 1) :: st) σ o) : KO X Y (cT (k_I X) q) kc ks Q pc L (.ref (q 0) :: st) σ o := k_get (T := TX6) (ci := 6) 0 rfl rfl kinX6 0 (by decide) rfl hown hw rfl hd kk
theorem k_gTX6_text {Rt : Type} {X : k_C} {Y : k_Y} {q : Nat → Nat} {kc ks : Nat} {Q : Rt → k_S → State → Prop} {pc : Nat} {L : List (Option Value)} {st : List Value} {σ : k_S} {o : Option (Rt × k_S)} {own : String} {index : Nat} (hw : Cond.fieldLink own index "TallTales" "text" "LTallTales$Text;" ∈ k_ws) (hown : own = Y.2.2.2.1) (hd : decode Y.2.1 pc = .ok (.getfield index, 3)) (kk : KO X Y (cT (k_I X) q) kc ks Q (pc + 3) L (.ref (q 2) :: st) σ o) : KO X Y (cT (k_I X) q) kc ks Q pc L (.ref (q 0) :: st) σ o := k_get (T := TX6) (ci := 6) 0 rfl rfl kinX6 1 (by decide) rfl hown hw rfl hd kk
theorem k_gTX6_house {Rt : Type} {X : k_C} {Y : k_Y} {q : Nat → Nat} {kc ks : Nat} {Q : Rt → k_S → State → Prop} {pc : Nat} {L : List (Option Value)} {st : List Value} {σ : k_S} {o : Option (Rt × k_S)} {own : String} {index : Nat} (hw : Cond.fieldLink own index "TallTales" "house" "LTallTales$House;" ∈ k_ws) (hown : own = Y.2.2.2.1) (hd : decode Y.2.1 pc = .ok (.getfield index, 3)) (kk : KO X Y (cT (k_I X) q) kc ks Q (pc + 3) L (.ref (q 3) :: st) σ o) : KO X Y (cT (k_I X) q) kc ks Q pc L (.ref (q 0) :: st) σ o := k_get (T := TX6) (ci := 6) 0 rfl rfl kinX6 2 (by decide) rfl hown hw rfl hd kk
theorem k_gTX6_talls {Rt : Type} {X : k_C} {Y : k_Y} {q : Nat → Nat} {kc ks : Nat} {Q : Rt → k_S → State → Prop} {pc : Nat} {L : List (Option Value)} {st : List Value} {σ : k_S} {o : Option (Rt × k_S)} {own : String} {index : Nat} (hw : Cond.fieldLink own index "TallTales" "talls" "LTallTales$Talls;" ∈ k_ws) (hown : own = Y.2.2.2.1) (hd : decode Y.2.1 pc = .ok (.getfield index, 3)) (kk : KO X Y (cT (k_I X) q) kc ks Q (pc + 3) L (.ref (q 4) :: st) σ o) : KO X Y (cT (k_I X) q) kc ks Q pc L (.ref (q 0) :: st) σ o := k_get (T := TX6) (ci := 6) 0 rfl rfl kinX6 3 (by decide) rfl hown hw rfl hd kk
theorem k_gTX6_rests {Rt : Type} {X : k_C} {Y : k_Y} {q : Nat → Nat} {kc ks : Nat} {Q : Rt → k_S → State → Prop} {pc : Nat} {L : List (Option Value)} {st : List Value} {σ : k_S} {o : Option (Rt × k_S)} {own : String} {index : Nat} (hw : Cond.fieldLink own index "TallTales" "rests" "LTallTales$Rests;" ∈ k_ws) (hown : own = Y.2.2.2.1) (hd : decode Y.2.1 pc = .ok (.getfield index, 3)) (kk : KO X Y (cT (k_I X) q) kc ks Q (pc + 3) L (.ref (q 5) :: st) σ o) : KO X Y (cT (k_I X) q) kc ks Q pc L (.ref (q 0) :: st) σ o := k_get (T := TX6) (ci := 6) 0 rfl rfl kinX6 4 (by decide) rfl hown hw rfl hd kk
theorem k_gTX6_winter {Rt : Type} {X : k_C} {Y : k_Y} {q : Nat → Nat} {kc ks : Nat} {Q : Rt → k_S → State → Prop} {pc : Nat} {L : List (Option Value)} {st : List Value} {σ : k_S} {o : Option (Rt × k_S)} {own : String} {index : Nat} (hw : Cond.fieldLink own index "TallTales" "winter" "LTallTales$Winter;" ∈ k_ws) (hown : own = Y.2.2.2.1) (hd : decode Y.2.1 pc = .ok (.getfield index, 3)) (kk : KO X Y (cT (k_I X) q) kc ks Q (pc + 3) L (.ref (q 6) :: st) σ o) : KO X Y (cT (k_I X) q) kc ks Q pc L (.ref (q 0) :: st) σ o := k_get (T := TX6) (ci := 6) 0 rfl rfl kinX6 5 (by decide) rfl hown hw rfl hd kk
theorem k_gTX6_lying {Rt : Type} {X : k_C} {Y : k_Y} {q : Nat → Nat} {kc ks : Nat} {Q : Rt → k_S → State → Prop} {pc : Nat} {L : List (Option Value)} {st : List Value} {σ : k_S} {o : Option (Rt × k_S)} {own : String} {index : Nat} (hw : Cond.fieldLink own index "TallTales" "lying" "[I" ∈ k_ws) (hown : own = Y.2.2.2.1) (hd : decode Y.2.1 pc = .ok (.getfield index, 3)) (kk : KO X Y (cT (k_I X) q) kc ks Q (pc + 3) L (.ref (q 7) :: st) σ o) : KO X Y (cT (k_I X) q) kc ks Q pc L (.ref (q 0) :: st) σ o := k_get (T := TX6) (ci := 6) 0 rfl rfl kinX6 6 (by decide) rfl hown hw rfl hd kk
theorem k_gTX6_trace {Rt : Type} {X : k_C} {Y : k_Y} {q : Nat → Nat} {kc ks : Nat} {Q : Rt → k_S → State → Prop} {pc : Nat} {L : List (Option Value)} {st : List Value} {σ : k_S} {o : Option (Rt × k_S)} {own : String} {index : Nat} (hw : Cond.fieldLink own index "TallTales" "trace" "I" ∈ k_ws) (hown : own = Y.2.2.2.1) (hd : decode Y.2.1 pc = .ok (.getfield index, 3)) (kk : KO X Y (cT (k_I X) q) kc ks Q (pc + 3) L (.int (σ.1 0) :: st) σ o) : KO X Y (cT (k_I X) q) kc ks Q pc L (.ref (q 0) :: st) σ o := k_get (T := TX6) (ci := 6) 0 rfl rfl kinX6 7 (by decide) rfl hown hw rfl hd kk
theorem k_pTX6_trace {Rt : Type} {X : k_C} {Y : k_Y} {q : Nat → Nat} {kc ks : Nat} {Q : Rt → k_S → State → Prop} {pc : Nat} {L : List (Option Value)} {st : List Value} {σ : k_S} {x : Int32} {kf : k_S → Option (Rt × k_S)} {own : String} {index : Nat} (hw : Cond.fieldLink own index "TallTales" "trace" "I" ∈ k_ws) (hown : own = Y.2.2.2.1) (hd : decode Y.2.1 pc = .ok (.putfield index, 3)) (kk : ∀ σ' : k_S, KO X Y (cT (k_I X) q) kc ks Q (pc + 3) L st σ' (kf σ')) : KO X Y (cT (k_I X) q) kc ks Q pc L (.int x :: .ref (q 0) :: st) σ (k_bn (k_sf σ 0 x) kf) := k_put (T := TX6) (ci := 6) 0 rfl rfl kinX6 tyX6_ok nmX6 7 (by decide) rfl rfl rfl rfl hown hw rfl hd kk
theorem k_gTX6_fault {Rt : Type} {X : k_C} {Y : k_Y} {q : Nat → Nat} {kc ks : Nat} {Q : Rt → k_S → State → Prop} {pc : Nat} {L : List (Option Value)} {st : List Value} {σ : k_S} {o : Option (Rt × k_S)} {own : String} {index : Nat} (hw : Cond.fieldLink own index "TallTales" "fault" "I" ∈ k_ws) (hown : own = Y.2.2.2.1) (hd : decode Y.2.1 pc = .ok (.getfield index, 3)) (kk : KO X Y (cT (k_I X) q) kc ks Q (pc + 3) L (.int (σ.1 1) :: st) σ o) : KO X Y (cT (k_I X) q) kc ks Q pc L (.ref (q 0) :: st) σ o := k_get (T := TX6) (ci := 6) 0 rfl rfl kinX6 8 (by decide) rfl hown hw rfl hd kk
theorem k_pTX6_fault {Rt : Type} {X : k_C} {Y : k_Y} {q : Nat → Nat} {kc ks : Nat} {Q : Rt → k_S → State → Prop} {pc : Nat} {L : List (Option Value)} {st : List Value} {σ : k_S} {x : Int32} {kf : k_S → Option (Rt × k_S)} {own : String} {index : Nat} (hw : Cond.fieldLink own index "TallTales" "fault" "I" ∈ k_ws) (hown : own = Y.2.2.2.1) (hd : decode Y.2.1 pc = .ok (.putfield index, 3)) (kk : ∀ σ' : k_S, KO X Y (cT (k_I X) q) kc ks Q (pc + 3) L st σ' (kf σ')) : KO X Y (cT (k_I X) q) kc ks Q pc L (.int x :: .ref (q 0) :: st) σ (k_bn (k_sf σ 1 x) kf) := k_put (T := TX6) (ci := 6) 0 rfl rfl kinX6 tyX6_ok nmX6 8 (by decide) rfl rfl rfl rfl hown hw rfl hd kk
theorem k_gTX2_cells {Rt : Type} {X : k_C} {Y : k_Y} {q : Nat → Nat} {kc ks : Nat} {Q : Rt → k_S → State → Prop} {pc : Nat} {L : List (Option Value)} {st : List Value} {σ : k_S} {o : Option (Rt × k_S)} {own : String} {index : Nat} (hw : Cond.fieldLink own index "TallTales$Sheets" "cells" "[I" ∈ k_ws) (hown : own = Y.2.2.2.1) (hd : decode Y.2.1 pc = .ok (.getfield index, 3)) (kk : KO X Y (cT (k_I X) q) kc ks Q (pc + 3) L (.ref (q 8) :: st) σ o) : KO X Y (cT (k_I X) q) kc ks Q pc L (.ref (q 1) :: st) σ o := k_get (T := TX2) (ci := 2) 1 rfl rfl kinX2 0 (by decide) rfl hown hw rfl hd kk
theorem k_gTX2_sorts {Rt : Type} {X : k_C} {Y : k_Y} {q : Nat → Nat} {kc ks : Nat} {Q : Rt → k_S → State → Prop} {pc : Nat} {L : List (Option Value)} {st : List Value} {σ : k_S} {o : Option (Rt × k_S)} {own : String} {index : Nat} (hw : Cond.fieldLink own index "TallTales$Sheets" "sorts" "[I" ∈ k_ws) (hown : own = Y.2.2.2.1) (hd : decode Y.2.1 pc = .ok (.getfield index, 3)) (kk : KO X Y (cT (k_I X) q) kc ks Q (pc + 3) L (.ref (q 9) :: st) σ o) : KO X Y (cT (k_I X) q) kc ks Q pc L (.ref (q 1) :: st) σ o := k_get (T := TX2) (ci := 2) 1 rfl rfl kinX2 1 (by decide) rfl hown hw rfl hd kk
theorem k_gTX2_lengths {Rt : Type} {X : k_C} {Y : k_Y} {q : Nat → Nat} {kc ks : Nat} {Q : Rt → k_S → State → Prop} {pc : Nat} {L : List (Option Value)} {st : List Value} {σ : k_S} {o : Option (Rt × k_S)} {own : String} {index : Nat} (hw : Cond.fieldLink own index "TallTales$Sheets" "lengths" "[I" ∈ k_ws) (hown : own = Y.2.2.2.1) (hd : decode Y.2.1 pc = .ok (.getfield index, 3)) (kk : KO X Y (cT (k_I X) q) kc ks Q (pc + 3) L (.ref (q 10) :: st) σ o) : KO X Y (cT (k_I X) q) kc ks Q pc L (.ref (q 1) :: st) σ o := k_get (T := TX2) (ci := 2) 1 rfl rfl kinX2 2 (by decide) rfl hown hw rfl hd kk
theorem k_gTX4_codes {Rt : Type} {X : k_C} {Y : k_Y} {q : Nat → Nat} {kc ks : Nat} {Q : Rt → k_S → State → Prop} {pc : Nat} {L : List (Option Value)} {st : List Value} {σ : k_S} {o : Option (Rt × k_S)} {own : String} {index : Nat} (hw : Cond.fieldLink own index "TallTales$Text" "codes" "[I" ∈ k_ws) (hown : own = Y.2.2.2.1) (hd : decode Y.2.1 pc = .ok (.getfield index, 3)) (kk : KO X Y (cT (k_I X) q) kc ks Q (pc + 3) L (.ref (q 11) :: st) σ o) : KO X Y (cT (k_I X) q) kc ks Q pc L (.ref (q 2) :: st) σ o := k_get (T := TX4) (ci := 4) 2 rfl rfl kinX4 0 (by decide) rfl hown hw rfl hd kk
theorem k_gTX4_length {Rt : Type} {X : k_C} {Y : k_Y} {q : Nat → Nat} {kc ks : Nat} {Q : Rt → k_S → State → Prop} {pc : Nat} {L : List (Option Value)} {st : List Value} {σ : k_S} {o : Option (Rt × k_S)} {own : String} {index : Nat} (hw : Cond.fieldLink own index "TallTales$Text" "length" "I" ∈ k_ws) (hown : own = Y.2.2.2.1) (hd : decode Y.2.1 pc = .ok (.getfield index, 3)) (kk : KO X Y (cT (k_I X) q) kc ks Q (pc + 3) L (.int (σ.1 2) :: st) σ o) : KO X Y (cT (k_I X) q) kc ks Q pc L (.ref (q 2) :: st) σ o := k_get (T := TX4) (ci := 4) 2 rfl rfl kinX4 1 (by decide) rfl hown hw rfl hd kk
theorem k_pTX4_length {Rt : Type} {X : k_C} {Y : k_Y} {q : Nat → Nat} {kc ks : Nat} {Q : Rt → k_S → State → Prop} {pc : Nat} {L : List (Option Value)} {st : List Value} {σ : k_S} {x : Int32} {kf : k_S → Option (Rt × k_S)} {own : String} {index : Nat} (hw : Cond.fieldLink own index "TallTales$Text" "length" "I" ∈ k_ws) (hown : own = Y.2.2.2.1) (hd : decode Y.2.1 pc = .ok (.putfield index, 3)) (kk : ∀ σ' : k_S, KO X Y (cT (k_I X) q) kc ks Q (pc + 3) L st σ' (kf σ')) : KO X Y (cT (k_I X) q) kc ks Q pc L (.int x :: .ref (q 2) :: st) σ (k_bn (k_sf σ 2 x) kf) := k_put (T := TX4) (ci := 4) 2 rfl rfl kinX4 tyX4_ok nmX4 1 (by decide) rfl rfl rfl rfl hown hw rfl hd kk
theorem k_gTX0_guests {Rt : Type} {X : k_C} {Y : k_Y} {q : Nat → Nat} {kc ks : Nat} {Q : Rt → k_S → State → Prop} {pc : Nat} {L : List (Option Value)} {st : List Value} {σ : k_S} {o : Option (Rt × k_S)} {own : String} {index : Nat} (hw : Cond.fieldLink own index "TallTales$House" "guests" "I" ∈ k_ws) (hown : own = Y.2.2.2.1) (hd : decode Y.2.1 pc = .ok (.getfield index, 3)) (kk : KO X Y (cT (k_I X) q) kc ks Q (pc + 3) L (.int (σ.1 3) :: st) σ o) : KO X Y (cT (k_I X) q) kc ks Q pc L (.ref (q 3) :: st) σ o := k_get (T := TX0) (ci := 0) 3 rfl rfl kinX0 0 (by decide) rfl hown hw rfl hd kk
theorem k_pTX0_guests {Rt : Type} {X : k_C} {Y : k_Y} {q : Nat → Nat} {kc ks : Nat} {Q : Rt → k_S → State → Prop} {pc : Nat} {L : List (Option Value)} {st : List Value} {σ : k_S} {x : Int32} {kf : k_S → Option (Rt × k_S)} {own : String} {index : Nat} (hw : Cond.fieldLink own index "TallTales$House" "guests" "I" ∈ k_ws) (hown : own = Y.2.2.2.1) (hd : decode Y.2.1 pc = .ok (.putfield index, 3)) (kk : ∀ σ' : k_S, KO X Y (cT (k_I X) q) kc ks Q (pc + 3) L st σ' (kf σ')) : KO X Y (cT (k_I X) q) kc ks Q pc L (.int x :: .ref (q 3) :: st) σ (k_bn (k_sf σ 3 x) kf) := k_put (T := TX0) (ci := 0) 3 rfl rfl kinX0 tyX0_ok nmX0 0 (by decide) rfl rfl rfl rfl hown hw rfl hd kk
theorem k_gTX0_tales {Rt : Type} {X : k_C} {Y : k_Y} {q : Nat → Nat} {kc ks : Nat} {Q : Rt → k_S → State → Prop} {pc : Nat} {L : List (Option Value)} {st : List Value} {σ : k_S} {o : Option (Rt × k_S)} {own : String} {index : Nat} (hw : Cond.fieldLink own index "TallTales$House" "tales" "I" ∈ k_ws) (hown : own = Y.2.2.2.1) (hd : decode Y.2.1 pc = .ok (.getfield index, 3)) (kk : KO X Y (cT (k_I X) q) kc ks Q (pc + 3) L (.int (σ.1 4) :: st) σ o) : KO X Y (cT (k_I X) q) kc ks Q pc L (.ref (q 3) :: st) σ o := k_get (T := TX0) (ci := 0) 3 rfl rfl kinX0 1 (by decide) rfl hown hw rfl hd kk
theorem k_pTX0_tales {Rt : Type} {X : k_C} {Y : k_Y} {q : Nat → Nat} {kc ks : Nat} {Q : Rt → k_S → State → Prop} {pc : Nat} {L : List (Option Value)} {st : List Value} {σ : k_S} {x : Int32} {kf : k_S → Option (Rt × k_S)} {own : String} {index : Nat} (hw : Cond.fieldLink own index "TallTales$House" "tales" "I" ∈ k_ws) (hown : own = Y.2.2.2.1) (hd : decode Y.2.1 pc = .ok (.putfield index, 3)) (kk : ∀ σ' : k_S, KO X Y (cT (k_I X) q) kc ks Q (pc + 3) L st σ' (kf σ')) : KO X Y (cT (k_I X) q) kc ks Q pc L (.int x :: .ref (q 3) :: st) σ (k_bn (k_sf σ 4 x) kf) := k_put (T := TX0) (ci := 0) 3 rfl rfl kinX0 tyX0_ok nmX0 1 (by decide) rfl rfl rfl rfl hown hw rfl hd kk
theorem k_gTX0_memory {Rt : Type} {X : k_C} {Y : k_Y} {q : Nat → Nat} {kc ks : Nat} {Q : Rt → k_S → State → Prop} {pc : Nat} {L : List (Option Value)} {st : List Value} {σ : k_S} {o : Option (Rt × k_S)} {own : String} {index : Nat} (hw : Cond.fieldLink own index "TallTales$House" "memory" "I" ∈ k_ws) (hown : own = Y.2.2.2.1) (hd : decode Y.2.1 pc = .ok (.getfield index, 3)) (kk : KO X Y (cT (k_I X) q) kc ks Q (pc + 3) L (.int (σ.1 5) :: st) σ o) : KO X Y (cT (k_I X) q) kc ks Q pc L (.ref (q 3) :: st) σ o := k_get (T := TX0) (ci := 0) 3 rfl rfl kinX0 2 (by decide) rfl hown hw rfl hd kk
theorem k_pTX0_memory {Rt : Type} {X : k_C} {Y : k_Y} {q : Nat → Nat} {kc ks : Nat} {Q : Rt → k_S → State → Prop} {pc : Nat} {L : List (Option Value)} {st : List Value} {σ : k_S} {x : Int32} {kf : k_S → Option (Rt × k_S)} {own : String} {index : Nat} (hw : Cond.fieldLink own index "TallTales$House" "memory" "I" ∈ k_ws) (hown : own = Y.2.2.2.1) (hd : decode Y.2.1 pc = .ok (.putfield index, 3)) (kk : ∀ σ' : k_S, KO X Y (cT (k_I X) q) kc ks Q (pc + 3) L st σ' (kf σ')) : KO X Y (cT (k_I X) q) kc ks Q pc L (.int x :: .ref (q 3) :: st) σ (k_bn (k_sf σ 5 x) kf) := k_put (T := TX0) (ci := 0) 3 rfl rfl kinX0 tyX0_ok nmX0 2 (by decide) rfl rfl rfl rfl hown hw rfl hd kk
theorem k_gTX0_nights {Rt : Type} {X : k_C} {Y : k_Y} {q : Nat → Nat} {kc ks : Nat} {Q : Rt → k_S → State → Prop} {pc : Nat} {L : List (Option Value)} {st : List Value} {σ : k_S} {o : Option (Rt × k_S)} {own : String} {index : Nat} (hw : Cond.fieldLink own index "TallTales$House" "nights" "I" ∈ k_ws) (hown : own = Y.2.2.2.1) (hd : decode Y.2.1 pc = .ok (.getfield index, 3)) (kk : KO X Y (cT (k_I X) q) kc ks Q (pc + 3) L (.int (σ.1 6) :: st) σ o) : KO X Y (cT (k_I X) q) kc ks Q pc L (.ref (q 3) :: st) σ o := k_get (T := TX0) (ci := 0) 3 rfl rfl kinX0 3 (by decide) rfl hown hw rfl hd kk
theorem k_pTX0_nights {Rt : Type} {X : k_C} {Y : k_Y} {q : Nat → Nat} {kc ks : Nat} {Q : Rt → k_S → State → Prop} {pc : Nat} {L : List (Option Value)} {st : List Value} {σ : k_S} {x : Int32} {kf : k_S → Option (Rt × k_S)} {own : String} {index : Nat} (hw : Cond.fieldLink own index "TallTales$House" "nights" "I" ∈ k_ws) (hown : own = Y.2.2.2.1) (hd : decode Y.2.1 pc = .ok (.putfield index, 3)) (kk : ∀ σ' : k_S, KO X Y (cT (k_I X) q) kc ks Q (pc + 3) L st σ' (kf σ')) : KO X Y (cT (k_I X) q) kc ks Q pc L (.int x :: .ref (q 3) :: st) σ (k_bn (k_sf σ 6 x) kf) := k_put (T := TX0) (ci := 0) 3 rfl rfl kinX0 tyX0_ok nmX0 3 (by decide) rfl rfl rfl rfl hown hw rfl hd kk
theorem k_gTX0_kinds {Rt : Type} {X : k_C} {Y : k_Y} {q : Nat → Nat} {kc ks : Nat} {Q : Rt → k_S → State → Prop} {pc : Nat} {L : List (Option Value)} {st : List Value} {σ : k_S} {o : Option (Rt × k_S)} {own : String} {index : Nat} (hw : Cond.fieldLink own index "TallTales$House" "kinds" "[I" ∈ k_ws) (hown : own = Y.2.2.2.1) (hd : decode Y.2.1 pc = .ok (.getfield index, 3)) (kk : KO X Y (cT (k_I X) q) kc ks Q (pc + 3) L (.ref (q 12) :: st) σ o) : KO X Y (cT (k_I X) q) kc ks Q pc L (.ref (q 3) :: st) σ o := k_get (T := TX0) (ci := 0) 3 rfl rfl kinX0 4 (by decide) rfl hown hw rfl hd kk
theorem k_gTX0_owners {Rt : Type} {X : k_C} {Y : k_Y} {q : Nat → Nat} {kc ks : Nat} {Q : Rt → k_S → State → Prop} {pc : Nat} {L : List (Option Value)} {st : List Value} {σ : k_S} {o : Option (Rt × k_S)} {own : String} {index : Nat} (hw : Cond.fieldLink own index "TallTales$House" "owners" "[I" ∈ k_ws) (hown : own = Y.2.2.2.1) (hd : decode Y.2.1 pc = .ok (.getfield index, 3)) (kk : KO X Y (cT (k_I X) q) kc ks Q (pc + 3) L (.ref (q 13) :: st) σ o) : KO X Y (cT (k_I X) q) kc ks Q pc L (.ref (q 3) :: st) σ o := k_get (T := TX0) (ci := 0) 3 rfl rfl kinX0 5 (by decide) rfl hown hw rfl hd kk
theorem k_gTX0_heights {Rt : Type} {X : k_C} {Y : k_Y} {q : Nat → Nat} {kc ks : Nat} {Q : Rt → k_S → State → Prop} {pc : Nat} {L : List (Option Value)} {st : List Value} {σ : k_S} {o : Option (Rt × k_S)} {own : String} {index : Nat} (hw : Cond.fieldLink own index "TallTales$House" "heights" "[I" ∈ k_ws) (hown : own = Y.2.2.2.1) (hd : decode Y.2.1 pc = .ok (.getfield index, 3)) (kk : KO X Y (cT (k_I X) q) kc ks Q (pc + 3) L (.ref (q 14) :: st) σ o) : KO X Y (cT (k_I X) q) kc ks Q pc L (.ref (q 3) :: st) σ o := k_get (T := TX0) (ci := 0) 3 rfl rfl kinX0 6 (by decide) rfl hown hw rfl hd kk
theorem k_gTX0_told {Rt : Type} {X : k_C} {Y : k_Y} {q : Nat → Nat} {kc ks : Nat} {Q : Rt → k_S → State → Prop} {pc : Nat} {L : List (Option Value)} {st : List Value} {σ : k_S} {o : Option (Rt × k_S)} {own : String} {index : Nat} (hw : Cond.fieldLink own index "TallTales$House" "told" "[I" ∈ k_ws) (hown : own = Y.2.2.2.1) (hd : decode Y.2.1 pc = .ok (.getfield index, 3)) (kk : KO X Y (cT (k_I X) q) kc ks Q (pc + 3) L (.ref (q 15) :: st) σ o) : KO X Y (cT (k_I X) q) kc ks Q pc L (.ref (q 3) :: st) σ o := k_get (T := TX0) (ci := 0) 3 rfl rfl kinX0 7 (by decide) rfl hown hw rfl hd kk
theorem k_gTX0_last {Rt : Type} {X : k_C} {Y : k_Y} {q : Nat → Nat} {kc ks : Nat} {Q : Rt → k_S → State → Prop} {pc : Nat} {L : List (Option Value)} {st : List Value} {σ : k_S} {o : Option (Rt × k_S)} {own : String} {index : Nat} (hw : Cond.fieldLink own index "TallTales$House" "last" "[I" ∈ k_ws) (hown : own = Y.2.2.2.1) (hd : decode Y.2.1 pc = .ok (.getfield index, 3)) (kk : KO X Y (cT (k_I X) q) kc ks Q (pc + 3) L (.ref (q 16) :: st) σ o) : KO X Y (cT (k_I X) q) kc ks Q pc L (.ref (q 3) :: st) σ o := k_get (T := TX0) (ci := 0) 3 rfl rfl kinX0 8 (by decide) rfl hown hw rfl hd kk
theorem k_gTX0_chosen {Rt : Type} {X : k_C} {Y : k_Y} {q : Nat → Nat} {kc ks : Nat} {Q : Rt → k_S → State → Prop} {pc : Nat} {L : List (Option Value)} {st : List Value} {σ : k_S} {o : Option (Rt × k_S)} {own : String} {index : Nat} (hw : Cond.fieldLink own index "TallTales$House" "chosen" "[I" ∈ k_ws) (hown : own = Y.2.2.2.1) (hd : decode Y.2.1 pc = .ok (.getfield index, 3)) (kk : KO X Y (cT (k_I X) q) kc ks Q (pc + 3) L (.ref (q 17) :: st) σ o) : KO X Y (cT (k_I X) q) kc ks Q pc L (.ref (q 3) :: st) σ o := k_get (T := TX0) (ci := 0) 3 rfl rfl kinX0 9 (by decide) rfl hown hw rfl hd kk
theorem k_gTX0_nightTale {Rt : Type} {X : k_C} {Y : k_Y} {q : Nat → Nat} {kc ks : Nat} {Q : Rt → k_S → State → Prop} {pc : Nat} {L : List (Option Value)} {st : List Value} {σ : k_S} {o : Option (Rt × k_S)} {own : String} {index : Nat} (hw : Cond.fieldLink own index "TallTales$House" "nightTale" "[I" ∈ k_ws) (hown : own = Y.2.2.2.1) (hd : decode Y.2.1 pc = .ok (.getfield index, 3)) (kk : KO X Y (cT (k_I X) q) kc ks Q (pc + 3) L (.ref (q 18) :: st) σ o) : KO X Y (cT (k_I X) q) kc ks Q pc L (.ref (q 3) :: st) σ o := k_get (T := TX0) (ci := 0) 3 rfl rfl kinX0 10 (by decide) rfl hown hw rfl hd kk
theorem k_gTX0_nightPlace {Rt : Type} {X : k_C} {Y : k_Y} {q : Nat → Nat} {kc ks : Nat} {Q : Rt → k_S → State → Prop} {pc : Nat} {L : List (Option Value)} {st : List Value} {σ : k_S} {o : Option (Rt × k_S)} {own : String} {index : Nat} (hw : Cond.fieldLink own index "TallTales$House" "nightPlace" "[I" ∈ k_ws) (hown : own = Y.2.2.2.1) (hd : decode Y.2.1 pc = .ok (.getfield index, 3)) (kk : KO X Y (cT (k_I X) q) kc ks Q (pc + 3) L (.ref (q 19) :: st) σ o) : KO X Y (cT (k_I X) q) kc ks Q pc L (.ref (q 3) :: st) σ o := k_get (T := TX0) (ci := 0) 3 rfl rfl kinX0 11 (by decide) rfl hown hw rfl hd kk
theorem k_gTX0_nightTall {Rt : Type} {X : k_C} {Y : k_Y} {q : Nat → Nat} {kc ks : Nat} {Q : Rt → k_S → State → Prop} {pc : Nat} {L : List (Option Value)} {st : List Value} {σ : k_S} {o : Option (Rt × k_S)} {own : String} {index : Nat} (hw : Cond.fieldLink own index "TallTales$House" "nightTall" "[I" ∈ k_ws) (hown : own = Y.2.2.2.1) (hd : decode Y.2.1 pc = .ok (.getfield index, 3)) (kk : KO X Y (cT (k_I X) q) kc ks Q (pc + 3) L (.ref (q 20) :: st) σ o) : KO X Y (cT (k_I X) q) kc ks Q pc L (.ref (q 3) :: st) σ o := k_get (T := TX0) (ci := 0) 3 rfl rfl kinX0 12 (by decide) rfl hown hw rfl hd kk
theorem k_gTX3_of {Rt : Type} {X : k_C} {Y : k_Y} {q : Nat → Nat} {kc ks : Nat} {Q : Rt → k_S → State → Prop} {pc : Nat} {L : List (Option Value)} {st : List Value} {σ : k_S} {o : Option (Rt × k_S)} {own : String} {index : Nat} (hw : Cond.fieldLink own index "TallTales$Talls" "of" "[I" ∈ k_ws) (hown : own = Y.2.2.2.1) (hd : decode Y.2.1 pc = .ok (.getfield index, 3)) (kk : KO X Y (cT (k_I X) q) kc ks Q (pc + 3) L (.ref (q 21) :: st) σ o) : KO X Y (cT (k_I X) q) kc ks Q pc L (.ref (q 4) :: st) σ o := k_get (T := TX3) (ci := 3) 4 rfl rfl kinX3 0 (by decide) rfl hown hw rfl hd kk
theorem k_gTX3_guests {Rt : Type} {X : k_C} {Y : k_Y} {q : Nat → Nat} {kc ks : Nat} {Q : Rt → k_S → State → Prop} {pc : Nat} {L : List (Option Value)} {st : List Value} {σ : k_S} {o : Option (Rt × k_S)} {own : String} {index : Nat} (hw : Cond.fieldLink own index "TallTales$Talls" "guests" "I" ∈ k_ws) (hown : own = Y.2.2.2.1) (hd : decode Y.2.1 pc = .ok (.getfield index, 3)) (kk : KO X Y (cT (k_I X) q) kc ks Q (pc + 3) L (.int (σ.1 7) :: st) σ o) : KO X Y (cT (k_I X) q) kc ks Q pc L (.ref (q 4) :: st) σ o := k_get (T := TX3) (ci := 3) 4 rfl rfl kinX3 1 (by decide) rfl hown hw rfl hd kk
theorem k_pTX3_guests {Rt : Type} {X : k_C} {Y : k_Y} {q : Nat → Nat} {kc ks : Nat} {Q : Rt → k_S → State → Prop} {pc : Nat} {L : List (Option Value)} {st : List Value} {σ : k_S} {x : Int32} {kf : k_S → Option (Rt × k_S)} {own : String} {index : Nat} (hw : Cond.fieldLink own index "TallTales$Talls" "guests" "I" ∈ k_ws) (hown : own = Y.2.2.2.1) (hd : decode Y.2.1 pc = .ok (.putfield index, 3)) (kk : ∀ σ' : k_S, KO X Y (cT (k_I X) q) kc ks Q (pc + 3) L st σ' (kf σ')) : KO X Y (cT (k_I X) q) kc ks Q pc L (.int x :: .ref (q 4) :: st) σ (k_bn (k_sf σ 7 x) kf) := k_put (T := TX3) (ci := 3) 4 rfl rfl kinX3 tyX3_ok nmX3 1 (by decide) rfl rfl rfl rfl hown hw rfl hd kk
theorem k_gTX1_house {Rt : Type} {X : k_C} {Y : k_Y} {q : Nat → Nat} {kc ks : Nat} {Q : Rt → k_S → State → Prop} {pc : Nat} {L : List (Option Value)} {st : List Value} {σ : k_S} {o : Option (Rt × k_S)} {own : String} {index : Nat} (hw : Cond.fieldLink own index "TallTales$Rests" "house" "LTallTales$House;" ∈ k_ws) (hown : own = Y.2.2.2.1) (hd : decode Y.2.1 pc = .ok (.getfield index, 3)) (kk : KO X Y (cT (k_I X) q) kc ks Q (pc + 3) L (.ref (q 3) :: st) σ o) : KO X Y (cT (k_I X) q) kc ks Q pc L (.ref (q 5) :: st) σ o := k_get (T := TX1) (ci := 1) 5 rfl rfl kinX1 0 (by decide) rfl hown hw rfl hd kk
theorem k_gTX1_talls {Rt : Type} {X : k_C} {Y : k_Y} {q : Nat → Nat} {kc ks : Nat} {Q : Rt → k_S → State → Prop} {pc : Nat} {L : List (Option Value)} {st : List Value} {σ : k_S} {o : Option (Rt × k_S)} {own : String} {index : Nat} (hw : Cond.fieldLink own index "TallTales$Rests" "talls" "LTallTales$Talls;" ∈ k_ws) (hown : own = Y.2.2.2.1) (hd : decode Y.2.1 pc = .ok (.getfield index, 3)) (kk : KO X Y (cT (k_I X) q) kc ks Q (pc + 3) L (.ref (q 4) :: st) σ o) : KO X Y (cT (k_I X) q) kc ks Q pc L (.ref (q 5) :: st) σ o := k_get (T := TX1) (ci := 1) 5 rfl rfl kinX1 1 (by decide) rfl hown hw rfl hd kk
theorem k_gTX1_picks {Rt : Type} {X : k_C} {Y : k_Y} {q : Nat → Nat} {kc ks : Nat} {Q : Rt → k_S → State → Prop} {pc : Nat} {L : List (Option Value)} {st : List Value} {σ : k_S} {o : Option (Rt × k_S)} {own : String} {index : Nat} (hw : Cond.fieldLink own index "TallTales$Rests" "picks" "[I" ∈ k_ws) (hown : own = Y.2.2.2.1) (hd : decode Y.2.1 pc = .ok (.getfield index, 3)) (kk : KO X Y (cT (k_I X) q) kc ks Q (pc + 3) L (.ref (q 22) :: st) σ o) : KO X Y (cT (k_I X) q) kc ks Q pc L (.ref (q 5) :: st) σ o := k_get (T := TX1) (ci := 1) 5 rfl rfl kinX1 2 (by decide) rfl hown hw rfl hd kk
theorem k_gTX1_first {Rt : Type} {X : k_C} {Y : k_Y} {q : Nat → Nat} {kc ks : Nat} {Q : Rt → k_S → State → Prop} {pc : Nat} {L : List (Option Value)} {st : List Value} {σ : k_S} {o : Option (Rt × k_S)} {own : String} {index : Nat} (hw : Cond.fieldLink own index "TallTales$Rests" "first" "[I" ∈ k_ws) (hown : own = Y.2.2.2.1) (hd : decode Y.2.1 pc = .ok (.getfield index, 3)) (kk : KO X Y (cT (k_I X) q) kc ks Q (pc + 3) L (.ref (q 23) :: st) σ o) : KO X Y (cT (k_I X) q) kc ks Q pc L (.ref (q 5) :: st) σ o := k_get (T := TX1) (ci := 1) 5 rfl rfl kinX1 3 (by decide) rfl hown hw rfl hd kk
theorem k_gTX1_count {Rt : Type} {X : k_C} {Y : k_Y} {q : Nat → Nat} {kc ks : Nat} {Q : Rt → k_S → State → Prop} {pc : Nat} {L : List (Option Value)} {st : List Value} {σ : k_S} {o : Option (Rt × k_S)} {own : String} {index : Nat} (hw : Cond.fieldLink own index "TallTales$Rests" "count" "I" ∈ k_ws) (hown : own = Y.2.2.2.1) (hd : decode Y.2.1 pc = .ok (.getfield index, 3)) (kk : KO X Y (cT (k_I X) q) kc ks Q (pc + 3) L (.int (σ.1 8) :: st) σ o) : KO X Y (cT (k_I X) q) kc ks Q pc L (.ref (q 5) :: st) σ o := k_get (T := TX1) (ci := 1) 5 rfl rfl kinX1 4 (by decide) rfl hown hw rfl hd kk
theorem k_pTX1_count {Rt : Type} {X : k_C} {Y : k_Y} {q : Nat → Nat} {kc ks : Nat} {Q : Rt → k_S → State → Prop} {pc : Nat} {L : List (Option Value)} {st : List Value} {σ : k_S} {x : Int32} {kf : k_S → Option (Rt × k_S)} {own : String} {index : Nat} (hw : Cond.fieldLink own index "TallTales$Rests" "count" "I" ∈ k_ws) (hown : own = Y.2.2.2.1) (hd : decode Y.2.1 pc = .ok (.putfield index, 3)) (kk : ∀ σ' : k_S, KO X Y (cT (k_I X) q) kc ks Q (pc + 3) L st σ' (kf σ')) : KO X Y (cT (k_I X) q) kc ks Q pc L (.int x :: .ref (q 5) :: st) σ (k_bn (k_sf σ 8 x) kf) := k_put (T := TX1) (ci := 1) 5 rfl rfl kinX1 tyX1_ok nmX1 4 (by decide) rfl rfl rfl rfl hown hw rfl hd kk
theorem k_gTX5_house {Rt : Type} {X : k_C} {Y : k_Y} {q : Nat → Nat} {kc ks : Nat} {Q : Rt → k_S → State → Prop} {pc : Nat} {L : List (Option Value)} {st : List Value} {σ : k_S} {o : Option (Rt × k_S)} {own : String} {index : Nat} (hw : Cond.fieldLink own index "TallTales$Winter" "house" "LTallTales$House;" ∈ k_ws) (hown : own = Y.2.2.2.1) (hd : decode Y.2.1 pc = .ok (.getfield index, 3)) (kk : KO X Y (cT (k_I X) q) kc ks Q (pc + 3) L (.ref (q 3) :: st) σ o) : KO X Y (cT (k_I X) q) kc ks Q pc L (.ref (q 6) :: st) σ o := k_get (T := TX5) (ci := 5) 6 rfl rfl kinX5 0 (by decide) rfl hown hw rfl hd kk
theorem k_gTX5_numbers {Rt : Type} {X : k_C} {Y : k_Y} {q : Nat → Nat} {kc ks : Nat} {Q : Rt → k_S → State → Prop} {pc : Nat} {L : List (Option Value)} {st : List Value} {σ : k_S} {o : Option (Rt × k_S)} {own : String} {index : Nat} (hw : Cond.fieldLink own index "TallTales$Winter" "numbers" "[I" ∈ k_ws) (hown : own = Y.2.2.2.1) (hd : decode Y.2.1 pc = .ok (.getfield index, 3)) (kk : KO X Y (cT (k_I X) q) kc ks Q (pc + 3) L (.ref (q 24) :: st) σ o) : KO X Y (cT (k_I X) q) kc ks Q pc L (.ref (q 6) :: st) σ o := k_get (T := TX5) (ci := 5) 6 rfl rfl kinX5 1 (by decide) rfl hown hw rfl hd kk
theorem k_gTX5_ahead {Rt : Type} {X : k_C} {Y : k_Y} {q : Nat → Nat} {kc ks : Nat} {Q : Rt → k_S → State → Prop} {pc : Nat} {L : List (Option Value)} {st : List Value} {σ : k_S} {o : Option (Rt × k_S)} {own : String} {index : Nat} (hw : Cond.fieldLink own index "TallTales$Winter" "ahead" "[I" ∈ k_ws) (hown : own = Y.2.2.2.1) (hd : decode Y.2.1 pc = .ok (.getfield index, 3)) (kk : KO X Y (cT (k_I X) q) kc ks Q (pc + 3) L (.ref (q 25) :: st) σ o) : KO X Y (cT (k_I X) q) kc ks Q pc L (.ref (q 6) :: st) σ o := k_get (T := TX5) (ci := 5) 6 rfl rfl kinX5 2 (by decide) rfl hown hw rfl hd kk
theorem k_gTX5_told {Rt : Type} {X : k_C} {Y : k_Y} {q : Nat → Nat} {kc ks : Nat} {Q : Rt → k_S → State → Prop} {pc : Nat} {L : List (Option Value)} {st : List Value} {σ : k_S} {o : Option (Rt × k_S)} {own : String} {index : Nat} (hw : Cond.fieldLink own index "TallTales$Winter" "told" "[I" ∈ k_ws) (hown : own = Y.2.2.2.1) (hd : decode Y.2.1 pc = .ok (.getfield index, 3)) (kk : KO X Y (cT (k_I X) q) kc ks Q (pc + 3) L (.ref (q 26) :: st) σ o) : KO X Y (cT (k_I X) q) kc ks Q pc L (.ref (q 6) :: st) σ o := k_get (T := TX5) (ci := 5) 6 rfl rfl kinX5 3 (by decide) rfl hown hw rfl hd kk
theorem k_gTX5_last {Rt : Type} {X : k_C} {Y : k_Y} {q : Nat → Nat} {kc ks : Nat} {Q : Rt → k_S → State → Prop} {pc : Nat} {L : List (Option Value)} {st : List Value} {σ : k_S} {o : Option (Rt × k_S)} {own : String} {index : Nat} (hw : Cond.fieldLink own index "TallTales$Winter" "last" "[I" ∈ k_ws) (hown : own = Y.2.2.2.1) (hd : decode Y.2.1 pc = .ok (.getfield index, 3)) (kk : KO X Y (cT (k_I X) q) kc ks Q (pc + 3) L (.ref (q 27) :: st) σ o) : KO X Y (cT (k_I X) q) kc ks Q pc L (.ref (q 6) :: st) σ o := k_get (T := TX5) (ci := 5) 6 rfl rfl kinX5 4 (by decide) rfl hown hw rfl hd kk
theorem k_gTX5_row {Rt : Type} {X : k_C} {Y : k_Y} {q : Nat → Nat} {kc ks : Nat} {Q : Rt → k_S → State → Prop} {pc : Nat} {L : List (Option Value)} {st : List Value} {σ : k_S} {o : Option (Rt × k_S)} {own : String} {index : Nat} (hw : Cond.fieldLink own index "TallTales$Winter" "row" "[I" ∈ k_ws) (hown : own = Y.2.2.2.1) (hd : decode Y.2.1 pc = .ok (.getfield index, 3)) (kk : KO X Y (cT (k_I X) q) kc ks Q (pc + 3) L (.ref (q 28) :: st) σ o) : KO X Y (cT (k_I X) q) kc ks Q pc L (.ref (q 6) :: st) σ o := k_get (T := TX5) (ci := 5) 6 rfl rfl kinX5 5 (by decide) rfl hown hw rfl hd kk
theorem k_gTX5_first {Rt : Type} {X : k_C} {Y : k_Y} {q : Nat → Nat} {kc ks : Nat} {Q : Rt → k_S → State → Prop} {pc : Nat} {L : List (Option Value)} {st : List Value} {σ : k_S} {o : Option (Rt × k_S)} {own : String} {index : Nat} (hw : Cond.fieldLink own index "TallTales$Winter" "first" "[I" ∈ k_ws) (hown : own = Y.2.2.2.1) (hd : decode Y.2.1 pc = .ok (.getfield index, 3)) (kk : KO X Y (cT (k_I X) q) kc ks Q (pc + 3) L (.ref (q 29) :: st) σ o) : KO X Y (cT (k_I X) q) kc ks Q pc L (.ref (q 6) :: st) σ o := k_get (T := TX5) (ci := 5) 6 rfl rfl kinX5 6 (by decide) rfl hown hw rfl hd kk
theorem k_gTX5_guest {Rt : Type} {X : k_C} {Y : k_Y} {q : Nat → Nat} {kc ks : Nat} {Q : Rt → k_S → State → Prop} {pc : Nat} {L : List (Option Value)} {st : List Value} {σ : k_S} {o : Option (Rt × k_S)} {own : String} {index : Nat} (hw : Cond.fieldLink own index "TallTales$Winter" "guest" "I" ∈ k_ws) (hown : own = Y.2.2.2.1) (hd : decode Y.2.1 pc = .ok (.getfield index, 3)) (kk : KO X Y (cT (k_I X) q) kc ks Q (pc + 3) L (.int (σ.1 9) :: st) σ o) : KO X Y (cT (k_I X) q) kc ks Q pc L (.ref (q 6) :: st) σ o := k_get (T := TX5) (ci := 5) 6 rfl rfl kinX5 7 (by decide) rfl hown hw rfl hd kk
theorem k_pTX5_guest {Rt : Type} {X : k_C} {Y : k_Y} {q : Nat → Nat} {kc ks : Nat} {Q : Rt → k_S → State → Prop} {pc : Nat} {L : List (Option Value)} {st : List Value} {σ : k_S} {x : Int32} {kf : k_S → Option (Rt × k_S)} {own : String} {index : Nat} (hw : Cond.fieldLink own index "TallTales$Winter" "guest" "I" ∈ k_ws) (hown : own = Y.2.2.2.1) (hd : decode Y.2.1 pc = .ok (.putfield index, 3)) (kk : ∀ σ' : k_S, KO X Y (cT (k_I X) q) kc ks Q (pc + 3) L st σ' (kf σ')) : KO X Y (cT (k_I X) q) kc ks Q pc L (.int x :: .ref (q 6) :: st) σ (k_bn (k_sf σ 9 x) kf) := k_put (T := TX5) (ci := 5) 6 rfl rfl kinX5 tyX5_ok nmX5 7 (by decide) rfl rfl rfl rfl hown hw rfl hd kk
theorem k_gTX5_length {Rt : Type} {X : k_C} {Y : k_Y} {q : Nat → Nat} {kc ks : Nat} {Q : Rt → k_S → State → Prop} {pc : Nat} {L : List (Option Value)} {st : List Value} {σ : k_S} {o : Option (Rt × k_S)} {own : String} {index : Nat} (hw : Cond.fieldLink own index "TallTales$Winter" "length" "I" ∈ k_ws) (hown : own = Y.2.2.2.1) (hd : decode Y.2.1 pc = .ok (.getfield index, 3)) (kk : KO X Y (cT (k_I X) q) kc ks Q (pc + 3) L (.int (σ.1 10) :: st) σ o) : KO X Y (cT (k_I X) q) kc ks Q pc L (.ref (q 6) :: st) σ o := k_get (T := TX5) (ci := 5) 6 rfl rfl kinX5 8 (by decide) rfl hown hw rfl hd kk
theorem k_pTX5_length {Rt : Type} {X : k_C} {Y : k_Y} {q : Nat → Nat} {kc ks : Nat} {Q : Rt → k_S → State → Prop} {pc : Nat} {L : List (Option Value)} {st : List Value} {σ : k_S} {x : Int32} {kf : k_S → Option (Rt × k_S)} {own : String} {index : Nat} (hw : Cond.fieldLink own index "TallTales$Winter" "length" "I" ∈ k_ws) (hown : own = Y.2.2.2.1) (hd : decode Y.2.1 pc = .ok (.putfield index, 3)) (kk : ∀ σ' : k_S, KO X Y (cT (k_I X) q) kc ks Q (pc + 3) L st σ' (kf σ')) : KO X Y (cT (k_I X) q) kc ks Q pc L (.int x :: .ref (q 6) :: st) σ (k_bn (k_sf σ 10 x) kf) := k_put (T := TX5) (ci := 5) 6 rfl rfl kinX5 tyX5_ok nmX5 8 (by decide) rfl rfl rfl rfl hown hw rfl hd kk
theorem k_gTX5_most {Rt : Type} {X : k_C} {Y : k_Y} {q : Nat → Nat} {kc ks : Nat} {Q : Rt → k_S → State → Prop} {pc : Nat} {L : List (Option Value)} {st : List Value} {σ : k_S} {o : Option (Rt × k_S)} {own : String} {index : Nat} (hw : Cond.fieldLink own index "TallTales$Winter" "most" "I" ∈ k_ws) (hown : own = Y.2.2.2.1) (hd : decode Y.2.1 pc = .ok (.getfield index, 3)) (kk : KO X Y (cT (k_I X) q) kc ks Q (pc + 3) L (.int (σ.1 11) :: st) σ o) : KO X Y (cT (k_I X) q) kc ks Q pc L (.ref (q 6) :: st) σ o := k_get (T := TX5) (ci := 5) 6 rfl rfl kinX5 9 (by decide) rfl hown hw rfl hd kk
theorem k_pTX5_most {Rt : Type} {X : k_C} {Y : k_Y} {q : Nat → Nat} {kc ks : Nat} {Q : Rt → k_S → State → Prop} {pc : Nat} {L : List (Option Value)} {st : List Value} {σ : k_S} {x : Int32} {kf : k_S → Option (Rt × k_S)} {own : String} {index : Nat} (hw : Cond.fieldLink own index "TallTales$Winter" "most" "I" ∈ k_ws) (hown : own = Y.2.2.2.1) (hd : decode Y.2.1 pc = .ok (.putfield index, 3)) (kk : ∀ σ' : k_S, KO X Y (cT (k_I X) q) kc ks Q (pc + 3) L st σ' (kf σ')) : KO X Y (cT (k_I X) q) kc ks Q pc L (.int x :: .ref (q 6) :: st) σ (k_bn (k_sf σ 11 x) kf) := k_put (T := TX5) (ci := 5) 6 rfl rfl kinX5 tyX5_ok nmX5 9 (by decide) rfl rfl rfl rfl hown hw rfl hd kk
theorem k_lT7 {Rt : Type} {X : k_C} {Y : k_Y} {q : Nat → Nat} {kc ks : Nat} {Q : Rt → k_S → State → Prop} {pc : Nat} {L : List (Option Value)} {st : List Value} {σ : k_S} {o : Option (Rt × k_S)} {i : Int32} (hd : decode Y.2.1 pc = .ok (.iaload, 1)) (kk : KO X Y (cT (k_I X) q) kc ks Q (pc + 1) L (.int (σ.2 0 i.toNatClampNeg) :: st) σ o) : KO X Y (cT (k_I X) q) kc ks Q pc L (.int i :: .ref (q 7) :: st) σ (k_gd i 5 o) := k_iald 7 rfl hd kk
theorem k_sT7 {Rt : Type} {X : k_C} {Y : k_Y} {q : Nat → Nat} {kc ks : Nat} {Q : Rt → k_S → State → Prop} {pc : Nat} {L : List (Option Value)} {st : List Value} {σ : k_S} {i x : Int32} {kf : k_S → Option (Rt × k_S)} (hd : decode Y.2.1 pc = .ok (.iastore, 1)) (kk : ∀ σ' : k_S, KO X Y (cT (k_I X) q) kc ks Q (pc + 1) L st σ' (kf σ')) : KO X Y (cT (k_I X) q) kc ks Q pc L (.int x :: .int i :: .ref (q 7) :: st) σ (k_gd i 5 (k_bn (k_sa σ 0 i x) kf)) := k_iast 7 rfl rfl hd kk
theorem k_lT8 {Rt : Type} {X : k_C} {Y : k_Y} {q : Nat → Nat} {kc ks : Nat} {Q : Rt → k_S → State → Prop} {pc : Nat} {L : List (Option Value)} {st : List Value} {σ : k_S} {o : Option (Rt × k_S)} {i : Int32} (hd : decode Y.2.1 pc = .ok (.iaload, 1)) (kk : KO X Y (cT (k_I X) q) kc ks Q (pc + 1) L (.int (σ.2 1 i.toNatClampNeg) :: st) σ o) : KO X Y (cT (k_I X) q) kc ks Q pc L (.int i :: .ref (q 8) :: st) σ (k_gd i 240 o) := k_iald 8 rfl hd kk
theorem k_sT8 {Rt : Type} {X : k_C} {Y : k_Y} {q : Nat → Nat} {kc ks : Nat} {Q : Rt → k_S → State → Prop} {pc : Nat} {L : List (Option Value)} {st : List Value} {σ : k_S} {i x : Int32} {kf : k_S → Option (Rt × k_S)} (hd : decode Y.2.1 pc = .ok (.iastore, 1)) (kk : ∀ σ' : k_S, KO X Y (cT (k_I X) q) kc ks Q (pc + 1) L st σ' (kf σ')) : KO X Y (cT (k_I X) q) kc ks Q pc L (.int x :: .int i :: .ref (q 8) :: st) σ (k_gd i 240 (k_bn (k_sa σ 1 i x) kf)) := k_iast 8 rfl rfl hd kk
theorem k_lT9 {Rt : Type} {X : k_C} {Y : k_Y} {q : Nat → Nat} {kc ks : Nat} {Q : Rt → k_S → State → Prop} {pc : Nat} {L : List (Option Value)} {st : List Value} {σ : k_S} {o : Option (Rt × k_S)} {i : Int32} (hd : decode Y.2.1 pc = .ok (.iaload, 1)) (kk : KO X Y (cT (k_I X) q) kc ks Q (pc + 1) L (.int (σ.2 2 i.toNatClampNeg) :: st) σ o) : KO X Y (cT (k_I X) q) kc ks Q pc L (.int i :: .ref (q 9) :: st) σ (k_gd i 4 o) := k_iald 9 rfl hd kk
theorem k_sT9 {Rt : Type} {X : k_C} {Y : k_Y} {q : Nat → Nat} {kc ks : Nat} {Q : Rt → k_S → State → Prop} {pc : Nat} {L : List (Option Value)} {st : List Value} {σ : k_S} {i x : Int32} {kf : k_S → Option (Rt × k_S)} (hd : decode Y.2.1 pc = .ok (.iastore, 1)) (kk : ∀ σ' : k_S, KO X Y (cT (k_I X) q) kc ks Q (pc + 1) L st σ' (kf σ')) : KO X Y (cT (k_I X) q) kc ks Q pc L (.int x :: .int i :: .ref (q 9) :: st) σ (k_gd i 4 (k_bn (k_sa σ 2 i x) kf)) := k_iast 9 rfl rfl hd kk
theorem k_lT10 {Rt : Type} {X : k_C} {Y : k_Y} {q : Nat → Nat} {kc ks : Nat} {Q : Rt → k_S → State → Prop} {pc : Nat} {L : List (Option Value)} {st : List Value} {σ : k_S} {o : Option (Rt × k_S)} {i : Int32} (hd : decode Y.2.1 pc = .ok (.iaload, 1)) (kk : KO X Y (cT (k_I X) q) kc ks Q (pc + 1) L (.int (σ.2 3 i.toNatClampNeg) :: st) σ o) : KO X Y (cT (k_I X) q) kc ks Q pc L (.int i :: .ref (q 10) :: st) σ (k_gd i 4 o) := k_iald 10 rfl hd kk
theorem k_sT10 {Rt : Type} {X : k_C} {Y : k_Y} {q : Nat → Nat} {kc ks : Nat} {Q : Rt → k_S → State → Prop} {pc : Nat} {L : List (Option Value)} {st : List Value} {σ : k_S} {i x : Int32} {kf : k_S → Option (Rt × k_S)} (hd : decode Y.2.1 pc = .ok (.iastore, 1)) (kk : ∀ σ' : k_S, KO X Y (cT (k_I X) q) kc ks Q (pc + 1) L st σ' (kf σ')) : KO X Y (cT (k_I X) q) kc ks Q pc L (.int x :: .int i :: .ref (q 10) :: st) σ (k_gd i 4 (k_bn (k_sa σ 3 i x) kf)) := k_iast 10 rfl rfl hd kk
theorem k_lT11 {Rt : Type} {X : k_C} {Y : k_Y} {q : Nat → Nat} {kc ks : Nat} {Q : Rt → k_S → State → Prop} {pc : Nat} {L : List (Option Value)} {st : List Value} {σ : k_S} {o : Option (Rt × k_S)} {i : Int32} (hd : decode Y.2.1 pc = .ok (.iaload, 1)) (kk : KO X Y (cT (k_I X) q) kc ks Q (pc + 1) L (.int (σ.2 4 i.toNatClampNeg) :: st) σ o) : KO X Y (cT (k_I X) q) kc ks Q pc L (.int i :: .ref (q 11) :: st) σ (k_gd i 60 o) := k_iald 11 rfl hd kk
theorem k_sT11 {Rt : Type} {X : k_C} {Y : k_Y} {q : Nat → Nat} {kc ks : Nat} {Q : Rt → k_S → State → Prop} {pc : Nat} {L : List (Option Value)} {st : List Value} {σ : k_S} {i x : Int32} {kf : k_S → Option (Rt × k_S)} (hd : decode Y.2.1 pc = .ok (.iastore, 1)) (kk : ∀ σ' : k_S, KO X Y (cT (k_I X) q) kc ks Q (pc + 1) L st σ' (kf σ')) : KO X Y (cT (k_I X) q) kc ks Q pc L (.int x :: .int i :: .ref (q 11) :: st) σ (k_gd i 60 (k_bn (k_sa σ 4 i x) kf)) := k_iast 11 rfl rfl hd kk
theorem k_lT12 {Rt : Type} {X : k_C} {Y : k_Y} {q : Nat → Nat} {kc ks : Nat} {Q : Rt → k_S → State → Prop} {pc : Nat} {L : List (Option Value)} {st : List Value} {σ : k_S} {o : Option (Rt × k_S)} {i : Int32} (hd : decode Y.2.1 pc = .ok (.iaload, 1)) (kk : KO X Y (cT (k_I X) q) kc ks Q (pc + 1) L (.int (σ.2 5 i.toNatClampNeg) :: st) σ o) : KO X Y (cT (k_I X) q) kc ks Q pc L (.int i :: .ref (q 12) :: st) σ (k_gd i 10 o) := k_iald 12 rfl hd kk
theorem k_sT12 {Rt : Type} {X : k_C} {Y : k_Y} {q : Nat → Nat} {kc ks : Nat} {Q : Rt → k_S → State → Prop} {pc : Nat} {L : List (Option Value)} {st : List Value} {σ : k_S} {i x : Int32} {kf : k_S → Option (Rt × k_S)} (hd : decode Y.2.1 pc = .ok (.iastore, 1)) (kk : ∀ σ' : k_S, KO X Y (cT (k_I X) q) kc ks Q (pc + 1) L st σ' (kf σ')) : KO X Y (cT (k_I X) q) kc ks Q pc L (.int x :: .int i :: .ref (q 12) :: st) σ (k_gd i 10 (k_bn (k_sa σ 5 i x) kf)) := k_iast 12 rfl rfl hd kk
theorem k_lT13 {Rt : Type} {X : k_C} {Y : k_Y} {q : Nat → Nat} {kc ks : Nat} {Q : Rt → k_S → State → Prop} {pc : Nat} {L : List (Option Value)} {st : List Value} {σ : k_S} {o : Option (Rt × k_S)} {i : Int32} (hd : decode Y.2.1 pc = .ok (.iaload, 1)) (kk : KO X Y (cT (k_I X) q) kc ks Q (pc + 1) L (.int (σ.2 6 i.toNatClampNeg) :: st) σ o) : KO X Y (cT (k_I X) q) kc ks Q pc L (.int i :: .ref (q 13) :: st) σ (k_gd i 10 o) := k_iald 13 rfl hd kk
theorem k_sT13 {Rt : Type} {X : k_C} {Y : k_Y} {q : Nat → Nat} {kc ks : Nat} {Q : Rt → k_S → State → Prop} {pc : Nat} {L : List (Option Value)} {st : List Value} {σ : k_S} {i x : Int32} {kf : k_S → Option (Rt × k_S)} (hd : decode Y.2.1 pc = .ok (.iastore, 1)) (kk : ∀ σ' : k_S, KO X Y (cT (k_I X) q) kc ks Q (pc + 1) L st σ' (kf σ')) : KO X Y (cT (k_I X) q) kc ks Q pc L (.int x :: .int i :: .ref (q 13) :: st) σ (k_gd i 10 (k_bn (k_sa σ 6 i x) kf)) := k_iast 13 rfl rfl hd kk
theorem k_lT14 {Rt : Type} {X : k_C} {Y : k_Y} {q : Nat → Nat} {kc ks : Nat} {Q : Rt → k_S → State → Prop} {pc : Nat} {L : List (Option Value)} {st : List Value} {σ : k_S} {o : Option (Rt × k_S)} {i : Int32} (hd : decode Y.2.1 pc = .ok (.iaload, 1)) (kk : KO X Y (cT (k_I X) q) kc ks Q (pc + 1) L (.int (σ.2 7 i.toNatClampNeg) :: st) σ o) : KO X Y (cT (k_I X) q) kc ks Q pc L (.int i :: .ref (q 14) :: st) σ (k_gd i 10 o) := k_iald 14 rfl hd kk
theorem k_sT14 {Rt : Type} {X : k_C} {Y : k_Y} {q : Nat → Nat} {kc ks : Nat} {Q : Rt → k_S → State → Prop} {pc : Nat} {L : List (Option Value)} {st : List Value} {σ : k_S} {i x : Int32} {kf : k_S → Option (Rt × k_S)} (hd : decode Y.2.1 pc = .ok (.iastore, 1)) (kk : ∀ σ' : k_S, KO X Y (cT (k_I X) q) kc ks Q (pc + 1) L st σ' (kf σ')) : KO X Y (cT (k_I X) q) kc ks Q pc L (.int x :: .int i :: .ref (q 14) :: st) σ (k_gd i 10 (k_bn (k_sa σ 7 i x) kf)) := k_iast 14 rfl rfl hd kk
theorem k_lT15 {Rt : Type} {X : k_C} {Y : k_Y} {q : Nat → Nat} {kc ks : Nat} {Q : Rt → k_S → State → Prop} {pc : Nat} {L : List (Option Value)} {st : List Value} {σ : k_S} {o : Option (Rt × k_S)} {i : Int32} (hd : decode Y.2.1 pc = .ok (.iaload, 1)) (kk : KO X Y (cT (k_I X) q) kc ks Q (pc + 1) L (.int (σ.2 8 i.toNatClampNeg) :: st) σ o) : KO X Y (cT (k_I X) q) kc ks Q pc L (.int i :: .ref (q 15) :: st) σ (k_gd i 10 o) := k_iald 15 rfl hd kk
theorem k_sT15 {Rt : Type} {X : k_C} {Y : k_Y} {q : Nat → Nat} {kc ks : Nat} {Q : Rt → k_S → State → Prop} {pc : Nat} {L : List (Option Value)} {st : List Value} {σ : k_S} {i x : Int32} {kf : k_S → Option (Rt × k_S)} (hd : decode Y.2.1 pc = .ok (.iastore, 1)) (kk : ∀ σ' : k_S, KO X Y (cT (k_I X) q) kc ks Q (pc + 1) L st σ' (kf σ')) : KO X Y (cT (k_I X) q) kc ks Q pc L (.int x :: .int i :: .ref (q 15) :: st) σ (k_gd i 10 (k_bn (k_sa σ 8 i x) kf)) := k_iast 15 rfl rfl hd kk
theorem k_lT16 {Rt : Type} {X : k_C} {Y : k_Y} {q : Nat → Nat} {kc ks : Nat} {Q : Rt → k_S → State → Prop} {pc : Nat} {L : List (Option Value)} {st : List Value} {σ : k_S} {o : Option (Rt × k_S)} {i : Int32} (hd : decode Y.2.1 pc = .ok (.iaload, 1)) (kk : KO X Y (cT (k_I X) q) kc ks Q (pc + 1) L (.int (σ.2 9 i.toNatClampNeg) :: st) σ o) : KO X Y (cT (k_I X) q) kc ks Q pc L (.int i :: .ref (q 16) :: st) σ (k_gd i 10 o) := k_iald 16 rfl hd kk
theorem k_sT16 {Rt : Type} {X : k_C} {Y : k_Y} {q : Nat → Nat} {kc ks : Nat} {Q : Rt → k_S → State → Prop} {pc : Nat} {L : List (Option Value)} {st : List Value} {σ : k_S} {i x : Int32} {kf : k_S → Option (Rt × k_S)} (hd : decode Y.2.1 pc = .ok (.iastore, 1)) (kk : ∀ σ' : k_S, KO X Y (cT (k_I X) q) kc ks Q (pc + 1) L st σ' (kf σ')) : KO X Y (cT (k_I X) q) kc ks Q pc L (.int x :: .int i :: .ref (q 16) :: st) σ (k_gd i 10 (k_bn (k_sa σ 9 i x) kf)) := k_iast 16 rfl rfl hd kk
theorem k_lT17 {Rt : Type} {X : k_C} {Y : k_Y} {q : Nat → Nat} {kc ks : Nat} {Q : Rt → k_S → State → Prop} {pc : Nat} {L : List (Option Value)} {st : List Value} {σ : k_S} {o : Option (Rt × k_S)} {i : Int32} (hd : decode Y.2.1 pc = .ok (.iaload, 1)) (kk : KO X Y (cT (k_I X) q) kc ks Q (pc + 1) L (.int (σ.2 10 i.toNatClampNeg) :: st) σ o) : KO X Y (cT (k_I X) q) kc ks Q pc L (.int i :: .ref (q 17) :: st) σ (k_gd i 5 o) := k_iald 17 rfl hd kk
theorem k_sT17 {Rt : Type} {X : k_C} {Y : k_Y} {q : Nat → Nat} {kc ks : Nat} {Q : Rt → k_S → State → Prop} {pc : Nat} {L : List (Option Value)} {st : List Value} {σ : k_S} {i x : Int32} {kf : k_S → Option (Rt × k_S)} (hd : decode Y.2.1 pc = .ok (.iastore, 1)) (kk : ∀ σ' : k_S, KO X Y (cT (k_I X) q) kc ks Q (pc + 1) L st σ' (kf σ')) : KO X Y (cT (k_I X) q) kc ks Q pc L (.int x :: .int i :: .ref (q 17) :: st) σ (k_gd i 5 (k_bn (k_sa σ 10 i x) kf)) := k_iast 17 rfl rfl hd kk
theorem k_lT18 {Rt : Type} {X : k_C} {Y : k_Y} {q : Nat → Nat} {kc ks : Nat} {Q : Rt → k_S → State → Prop} {pc : Nat} {L : List (Option Value)} {st : List Value} {σ : k_S} {o : Option (Rt × k_S)} {i : Int32} (hd : decode Y.2.1 pc = .ok (.iaload, 1)) (kk : KO X Y (cT (k_I X) q) kc ks Q (pc + 1) L (.int (σ.2 11 i.toNatClampNeg) :: st) σ o) : KO X Y (cT (k_I X) q) kc ks Q pc L (.int i :: .ref (q 18) :: st) σ (k_gd i 300 o) := k_iald 18 rfl hd kk
theorem k_sT18 {Rt : Type} {X : k_C} {Y : k_Y} {q : Nat → Nat} {kc ks : Nat} {Q : Rt → k_S → State → Prop} {pc : Nat} {L : List (Option Value)} {st : List Value} {σ : k_S} {i x : Int32} {kf : k_S → Option (Rt × k_S)} (hd : decode Y.2.1 pc = .ok (.iastore, 1)) (kk : ∀ σ' : k_S, KO X Y (cT (k_I X) q) kc ks Q (pc + 1) L st σ' (kf σ')) : KO X Y (cT (k_I X) q) kc ks Q pc L (.int x :: .int i :: .ref (q 18) :: st) σ (k_gd i 300 (k_bn (k_sa σ 11 i x) kf)) := k_iast 18 rfl rfl hd kk
theorem k_lT19 {Rt : Type} {X : k_C} {Y : k_Y} {q : Nat → Nat} {kc ks : Nat} {Q : Rt → k_S → State → Prop} {pc : Nat} {L : List (Option Value)} {st : List Value} {σ : k_S} {o : Option (Rt × k_S)} {i : Int32} (hd : decode Y.2.1 pc = .ok (.iaload, 1)) (kk : KO X Y (cT (k_I X) q) kc ks Q (pc + 1) L (.int (σ.2 12 i.toNatClampNeg) :: st) σ o) : KO X Y (cT (k_I X) q) kc ks Q pc L (.int i :: .ref (q 19) :: st) σ (k_gd i 300 o) := k_iald 19 rfl hd kk
theorem k_sT19 {Rt : Type} {X : k_C} {Y : k_Y} {q : Nat → Nat} {kc ks : Nat} {Q : Rt → k_S → State → Prop} {pc : Nat} {L : List (Option Value)} {st : List Value} {σ : k_S} {i x : Int32} {kf : k_S → Option (Rt × k_S)} (hd : decode Y.2.1 pc = .ok (.iastore, 1)) (kk : ∀ σ' : k_S, KO X Y (cT (k_I X) q) kc ks Q (pc + 1) L st σ' (kf σ')) : KO X Y (cT (k_I X) q) kc ks Q pc L (.int x :: .int i :: .ref (q 19) :: st) σ (k_gd i 300 (k_bn (k_sa σ 12 i x) kf)) := k_iast 19 rfl rfl hd kk
theorem k_lT20 {Rt : Type} {X : k_C} {Y : k_Y} {q : Nat → Nat} {kc ks : Nat} {Q : Rt → k_S → State → Prop} {pc : Nat} {L : List (Option Value)} {st : List Value} {σ : k_S} {o : Option (Rt × k_S)} {i : Int32} (hd : decode Y.2.1 pc = .ok (.iaload, 1)) (kk : KO X Y (cT (k_I X) q) kc ks Q (pc + 1) L (.int (σ.2 13 i.toNatClampNeg) :: st) σ o) : KO X Y (cT (k_I X) q) kc ks Q pc L (.int i :: .ref (q 20) :: st) σ (k_gd i 300 o) := k_iald 20 rfl hd kk
theorem k_sT20 {Rt : Type} {X : k_C} {Y : k_Y} {q : Nat → Nat} {kc ks : Nat} {Q : Rt → k_S → State → Prop} {pc : Nat} {L : List (Option Value)} {st : List Value} {σ : k_S} {i x : Int32} {kf : k_S → Option (Rt × k_S)} (hd : decode Y.2.1 pc = .ok (.iastore, 1)) (kk : ∀ σ' : k_S, KO X Y (cT (k_I X) q) kc ks Q (pc + 1) L st σ' (kf σ')) : KO X Y (cT (k_I X) q) kc ks Q pc L (.int x :: .int i :: .ref (q 20) :: st) σ (k_gd i 300 (k_bn (k_sa σ 13 i x) kf)) := k_iast 20 rfl rfl hd kk
theorem k_lT21 {Rt : Type} {X : k_C} {Y : k_Y} {q : Nat → Nat} {kc ks : Nat} {Q : Rt → k_S → State → Prop} {pc : Nat} {L : List (Option Value)} {st : List Value} {σ : k_S} {o : Option (Rt × k_S)} {i : Int32} (hd : decode Y.2.1 pc = .ok (.iaload, 1)) (kk : KO X Y (cT (k_I X) q) kc ks Q (pc + 1) L (.int (σ.2 14 i.toNatClampNeg) :: st) σ o) : KO X Y (cT (k_I X) q) kc ks Q pc L (.int i :: .ref (q 21) :: st) σ (k_gd i 5 o) := k_iald 21 rfl hd kk
theorem k_sT21 {Rt : Type} {X : k_C} {Y : k_Y} {q : Nat → Nat} {kc ks : Nat} {Q : Rt → k_S → State → Prop} {pc : Nat} {L : List (Option Value)} {st : List Value} {σ : k_S} {i x : Int32} {kf : k_S → Option (Rt × k_S)} (hd : decode Y.2.1 pc = .ok (.iastore, 1)) (kk : ∀ σ' : k_S, KO X Y (cT (k_I X) q) kc ks Q (pc + 1) L st σ' (kf σ')) : KO X Y (cT (k_I X) q) kc ks Q pc L (.int x :: .int i :: .ref (q 21) :: st) σ (k_gd i 5 (k_bn (k_sa σ 14 i x) kf)) := k_iast 21 rfl rfl hd kk
theorem k_lT22 {Rt : Type} {X : k_C} {Y : k_Y} {q : Nat → Nat} {kc ks : Nat} {Q : Rt → k_S → State → Prop} {pc : Nat} {L : List (Option Value)} {st : List Value} {σ : k_S} {o : Option (Rt × k_S)} {i : Int32} (hd : decode Y.2.1 pc = .ok (.iaload, 1)) (kk : KO X Y (cT (k_I X) q) kc ks Q (pc + 1) L (.int (σ.2 15 i.toNatClampNeg) :: st) σ o) : KO X Y (cT (k_I X) q) kc ks Q pc L (.int i :: .ref (q 22) :: st) σ (k_gd i 5 o) := k_iald 22 rfl hd kk
theorem k_sT22 {Rt : Type} {X : k_C} {Y : k_Y} {q : Nat → Nat} {kc ks : Nat} {Q : Rt → k_S → State → Prop} {pc : Nat} {L : List (Option Value)} {st : List Value} {σ : k_S} {i x : Int32} {kf : k_S → Option (Rt × k_S)} (hd : decode Y.2.1 pc = .ok (.iastore, 1)) (kk : ∀ σ' : k_S, KO X Y (cT (k_I X) q) kc ks Q (pc + 1) L st σ' (kf σ')) : KO X Y (cT (k_I X) q) kc ks Q pc L (.int x :: .int i :: .ref (q 22) :: st) σ (k_gd i 5 (k_bn (k_sa σ 15 i x) kf)) := k_iast 22 rfl rfl hd kk
theorem k_lT23 {Rt : Type} {X : k_C} {Y : k_Y} {q : Nat → Nat} {kc ks : Nat} {Q : Rt → k_S → State → Prop} {pc : Nat} {L : List (Option Value)} {st : List Value} {σ : k_S} {o : Option (Rt × k_S)} {i : Int32} (hd : decode Y.2.1 pc = .ok (.iaload, 1)) (kk : KO X Y (cT (k_I X) q) kc ks Q (pc + 1) L (.int (σ.2 16 i.toNatClampNeg) :: st) σ o) : KO X Y (cT (k_I X) q) kc ks Q pc L (.int i :: .ref (q 23) :: st) σ (k_gd i 5 o) := k_iald 23 rfl hd kk
theorem k_sT23 {Rt : Type} {X : k_C} {Y : k_Y} {q : Nat → Nat} {kc ks : Nat} {Q : Rt → k_S → State → Prop} {pc : Nat} {L : List (Option Value)} {st : List Value} {σ : k_S} {i x : Int32} {kf : k_S → Option (Rt × k_S)} (hd : decode Y.2.1 pc = .ok (.iastore, 1)) (kk : ∀ σ' : k_S, KO X Y (cT (k_I X) q) kc ks Q (pc + 1) L st σ' (kf σ')) : KO X Y (cT (k_I X) q) kc ks Q pc L (.int x :: .int i :: .ref (q 23) :: st) σ (k_gd i 5 (k_bn (k_sa σ 16 i x) kf)) := k_iast 23 rfl rfl hd kk
theorem k_lT24 {Rt : Type} {X : k_C} {Y : k_Y} {q : Nat → Nat} {kc ks : Nat} {Q : Rt → k_S → State → Prop} {pc : Nat} {L : List (Option Value)} {st : List Value} {σ : k_S} {o : Option (Rt × k_S)} {i : Int32} (hd : decode Y.2.1 pc = .ok (.iaload, 1)) (kk : KO X Y (cT (k_I X) q) kc ks Q (pc + 1) L (.int (σ.2 17 i.toNatClampNeg) :: st) σ o) : KO X Y (cT (k_I X) q) kc ks Q pc L (.int i :: .ref (q 24) :: st) σ (k_gd i 6 o) := k_iald 24 rfl hd kk
theorem k_sT24 {Rt : Type} {X : k_C} {Y : k_Y} {q : Nat → Nat} {kc ks : Nat} {Q : Rt → k_S → State → Prop} {pc : Nat} {L : List (Option Value)} {st : List Value} {σ : k_S} {i x : Int32} {kf : k_S → Option (Rt × k_S)} (hd : decode Y.2.1 pc = .ok (.iastore, 1)) (kk : ∀ σ' : k_S, KO X Y (cT (k_I X) q) kc ks Q (pc + 1) L st σ' (kf σ')) : KO X Y (cT (k_I X) q) kc ks Q pc L (.int x :: .int i :: .ref (q 24) :: st) σ (k_gd i 6 (k_bn (k_sa σ 17 i x) kf)) := k_iast 24 rfl rfl hd kk
theorem k_lT25 {Rt : Type} {X : k_C} {Y : k_Y} {q : Nat → Nat} {kc ks : Nat} {Q : Rt → k_S → State → Prop} {pc : Nat} {L : List (Option Value)} {st : List Value} {σ : k_S} {o : Option (Rt × k_S)} {i : Int32} (hd : decode Y.2.1 pc = .ok (.iaload, 1)) (kk : KO X Y (cT (k_I X) q) kc ks Q (pc + 1) L (.int (σ.2 18 i.toNatClampNeg) :: st) σ o) : KO X Y (cT (k_I X) q) kc ks Q pc L (.int i :: .ref (q 25) :: st) σ (k_gd i 7 o) := k_iald 25 rfl hd kk
theorem k_sT25 {Rt : Type} {X : k_C} {Y : k_Y} {q : Nat → Nat} {kc ks : Nat} {Q : Rt → k_S → State → Prop} {pc : Nat} {L : List (Option Value)} {st : List Value} {σ : k_S} {i x : Int32} {kf : k_S → Option (Rt × k_S)} (hd : decode Y.2.1 pc = .ok (.iastore, 1)) (kk : ∀ σ' : k_S, KO X Y (cT (k_I X) q) kc ks Q (pc + 1) L st σ' (kf σ')) : KO X Y (cT (k_I X) q) kc ks Q pc L (.int x :: .int i :: .ref (q 25) :: st) σ (k_gd i 7 (k_bn (k_sa σ 18 i x) kf)) := k_iast 25 rfl rfl hd kk
theorem k_lT26 {Rt : Type} {X : k_C} {Y : k_Y} {q : Nat → Nat} {kc ks : Nat} {Q : Rt → k_S → State → Prop} {pc : Nat} {L : List (Option Value)} {st : List Value} {σ : k_S} {o : Option (Rt × k_S)} {i : Int32} (hd : decode Y.2.1 pc = .ok (.iaload, 1)) (kk : KO X Y (cT (k_I X) q) kc ks Q (pc + 1) L (.int (σ.2 19 i.toNatClampNeg) :: st) σ o) : KO X Y (cT (k_I X) q) kc ks Q pc L (.int i :: .ref (q 26) :: st) σ (k_gd i 10 o) := k_iald 26 rfl hd kk
theorem k_sT26 {Rt : Type} {X : k_C} {Y : k_Y} {q : Nat → Nat} {kc ks : Nat} {Q : Rt → k_S → State → Prop} {pc : Nat} {L : List (Option Value)} {st : List Value} {σ : k_S} {i x : Int32} {kf : k_S → Option (Rt × k_S)} (hd : decode Y.2.1 pc = .ok (.iastore, 1)) (kk : ∀ σ' : k_S, KO X Y (cT (k_I X) q) kc ks Q (pc + 1) L st σ' (kf σ')) : KO X Y (cT (k_I X) q) kc ks Q pc L (.int x :: .int i :: .ref (q 26) :: st) σ (k_gd i 10 (k_bn (k_sa σ 19 i x) kf)) := k_iast 26 rfl rfl hd kk
theorem k_lT27 {Rt : Type} {X : k_C} {Y : k_Y} {q : Nat → Nat} {kc ks : Nat} {Q : Rt → k_S → State → Prop} {pc : Nat} {L : List (Option Value)} {st : List Value} {σ : k_S} {o : Option (Rt × k_S)} {i : Int32} (hd : decode Y.2.1 pc = .ok (.iaload, 1)) (kk : KO X Y (cT (k_I X) q) kc ks Q (pc + 1) L (.int (σ.2 20 i.toNatClampNeg) :: st) σ o) : KO X Y (cT (k_I X) q) kc ks Q pc L (.int i :: .ref (q 27) :: st) σ (k_gd i 10 o) := k_iald 27 rfl hd kk
theorem k_sT27 {Rt : Type} {X : k_C} {Y : k_Y} {q : Nat → Nat} {kc ks : Nat} {Q : Rt → k_S → State → Prop} {pc : Nat} {L : List (Option Value)} {st : List Value} {σ : k_S} {i x : Int32} {kf : k_S → Option (Rt × k_S)} (hd : decode Y.2.1 pc = .ok (.iastore, 1)) (kk : ∀ σ' : k_S, KO X Y (cT (k_I X) q) kc ks Q (pc + 1) L st σ' (kf σ')) : KO X Y (cT (k_I X) q) kc ks Q pc L (.int x :: .int i :: .ref (q 27) :: st) σ (k_gd i 10 (k_bn (k_sa σ 20 i x) kf)) := k_iast 27 rfl rfl hd kk
theorem k_lT28 {Rt : Type} {X : k_C} {Y : k_Y} {q : Nat → Nat} {kc ks : Nat} {Q : Rt → k_S → State → Prop} {pc : Nat} {L : List (Option Value)} {st : List Value} {σ : k_S} {o : Option (Rt × k_S)} {i : Int32} (hd : decode Y.2.1 pc = .ok (.iaload, 1)) (kk : KO X Y (cT (k_I X) q) kc ks Q (pc + 1) L (.int (σ.2 21 i.toNatClampNeg) :: st) σ o) : KO X Y (cT (k_I X) q) kc ks Q pc L (.int i :: .ref (q 28) :: st) σ (k_gd i 6 o) := k_iald 28 rfl hd kk
theorem k_sT28 {Rt : Type} {X : k_C} {Y : k_Y} {q : Nat → Nat} {kc ks : Nat} {Q : Rt → k_S → State → Prop} {pc : Nat} {L : List (Option Value)} {st : List Value} {σ : k_S} {i x : Int32} {kf : k_S → Option (Rt × k_S)} (hd : decode Y.2.1 pc = .ok (.iastore, 1)) (kk : ∀ σ' : k_S, KO X Y (cT (k_I X) q) kc ks Q (pc + 1) L st σ' (kf σ')) : KO X Y (cT (k_I X) q) kc ks Q pc L (.int x :: .int i :: .ref (q 28) :: st) σ (k_gd i 6 (k_bn (k_sa σ 21 i x) kf)) := k_iast 28 rfl rfl hd kk
theorem k_lT29 {Rt : Type} {X : k_C} {Y : k_Y} {q : Nat → Nat} {kc ks : Nat} {Q : Rt → k_S → State → Prop} {pc : Nat} {L : List (Option Value)} {st : List Value} {σ : k_S} {o : Option (Rt × k_S)} {i : Int32} (hd : decode Y.2.1 pc = .ok (.iaload, 1)) (kk : KO X Y (cT (k_I X) q) kc ks Q (pc + 1) L (.int (σ.2 22 i.toNatClampNeg) :: st) σ o) : KO X Y (cT (k_I X) q) kc ks Q pc L (.int i :: .ref (q 29) :: st) σ (k_gd i 6 o) := k_iald 29 rfl hd kk
theorem k_sT29 {Rt : Type} {X : k_C} {Y : k_Y} {q : Nat → Nat} {kc ks : Nat} {Q : Rt → k_S → State → Prop} {pc : Nat} {L : List (Option Value)} {st : List Value} {σ : k_S} {i x : Int32} {kf : k_S → Option (Rt × k_S)} (hd : decode Y.2.1 pc = .ok (.iastore, 1)) (kk : ∀ σ' : k_S, KO X Y (cT (k_I X) q) kc ks Q (pc + 1) L st σ' (kf σ')) : KO X Y (cT (k_I X) q) kc ks Q pc L (.int x :: .int i :: .ref (q 29) :: st) σ (k_gd i 6 (k_bn (k_sa σ 22 i x) kf)) := k_iast 29 rfl rfl hd kk
/-- M: TallTalesModel.fault: int 0; TallTalesModel.trace: int 1; TallTalesModel.sorts: ref 1; TallTalesModel.sheetLong: ref 2; TallTalesModel.cells: ref 3; TallTalesModel.guests: int 2; TallTalesModel.tales: int 3; TallTalesModel.memory: int 4; TallTalesModel.kind: ref 4; TallTalesModel.whose: ref 5; TallTalesModel.high: ref 6; TallTalesModel.at: int 5; TallTalesModel.readGuests: int 6; TallTalesModel.readTales: int 7; TallTalesModel.readKind: ref 7; TallTalesModel.readWhose: ref 8; TallTalesModel.readHigh: ref 9; TallTalesModel.over: int 8; TallTalesModel.nightTold: ref 10; TallTalesModel.nightTall: ref 11; TallTalesModel.chosen: ref 12; TallTalesModel.times: ref 13; TallTalesModel.last: ref 14; TallTalesModel.tall: ref 15; TallTalesModel.bestTale: int 9; TallTalesModel.bestPlace: int 10; TallTalesModel.bestTall: int 11; TallTalesModel.tells: ref 16; TallTalesModel.firstRest: ref 17; TallTalesModel.winterTells: ref 18; TallTalesModel.winterBest: ref 19 -/
def cM (cI : ClassId) (q : Nat → Nat) (σ : k_S) : va_W := [(q 0, .inr (7, [.int (σ.1 0), .int (σ.1 1), .ref (q 1), .ref (q 2), .ref (q 3), .int (σ.1 2), .int (σ.1 3), .int (σ.1 4), .ref (q 4), .ref (q 5), .ref (q 6), .int (σ.1 5), .int (σ.1 6), .int (σ.1 7), .ref (q 7), .ref (q 8), .ref (q 9), .int (σ.1 8), .ref (q 10), .ref (q 11), .ref (q 12), .ref (q 13), .ref (q 14), .ref (q 15), .int (σ.1 9), .int (σ.1 10), .int (σ.1 11), .ref (q 16), .ref (q 17), .ref (q 18), .ref (q 19)])), (q 1, .inl (cI, 4, .inl (σ.2 0))), (q 2, .inl (cI, 4, .inl (σ.2 1))), (q 3, .inl (cI, 240, .inl (σ.2 2))), (q 4, .inl (cI, 10, .inl (σ.2 3))), (q 5, .inl (cI, 10, .inl (σ.2 4))), (q 6, .inl (cI, 10, .inl (σ.2 5))), (q 7, .inl (cI, 10, .inl (σ.2 6))), (q 8, .inl (cI, 10, .inl (σ.2 7))), (q 9, .inl (cI, 10, .inl (σ.2 8))), (q 10, .inl (cI, 300, .inl (σ.2 9))), (q 11, .inl (cI, 300, .inl (σ.2 10))), (q 12, .inl (cI, 5, .inl (σ.2 11))), (q 13, .inl (cI, 10, .inl (σ.2 12))), (q 14, .inl (cI, 10, .inl (σ.2 13))), (q 15, .inl (cI, 5, .inl (σ.2 14))), (q 16, .inl (cI, 5, .inl (σ.2 15))), (q 17, .inl (cI, 5, .inl (σ.2 16))), (q 18, .inl (cI, 6, .inl (σ.2 17))), (q 19, .inl (cI, 6, .inl (σ.2 18)))]
theorem cM_same (cI : ClassId) (q : Nat → Nat) : k_same (cM cI q) := k_same_of fun _ _ => rfl
theorem cM_rv0 {cI : ClassId} {q : Nat → Nat} {σ : k_S} : ∃ (k ci : Nat) (fs : List Value) (qc : vw_C), (cM cI q σ)[k]? = some (q 0, .inr (ci, fs)) ∧ vwCl[ci]? = some qc ∧ qc.1 = RX7 := ⟨0, 7, _, _, rfl, rfl, rfl⟩
theorem k_gMX7_fault {Rt : Type} {X : k_C} {Y : k_Y} {q : Nat → Nat} {kc ks : Nat} {Q : Rt → k_S → State → Prop} {pc : Nat} {L : List (Option Value)} {st : List Value} {σ : k_S} {o : Option (Rt × k_S)} {own : String} {index : Nat} (hw : Cond.fieldLink own index "TallTalesModel" "fault" "I" ∈ k_ws) (hown : own = Y.2.2.2.1) (hd : decode Y.2.1 pc = .ok (.getfield index, 3)) (kk : KO X Y (cM (k_I X) q) kc ks Q (pc + 3) L (.int (σ.1 0) :: st) σ o) : KO X Y (cM (k_I X) q) kc ks Q pc L (.ref (q 0) :: st) σ o := k_get (T := TX7) (ci := 7) 0 rfl rfl kinX7 0 (by decide) rfl hown hw rfl hd kk
theorem k_pMX7_fault {Rt : Type} {X : k_C} {Y : k_Y} {q : Nat → Nat} {kc ks : Nat} {Q : Rt → k_S → State → Prop} {pc : Nat} {L : List (Option Value)} {st : List Value} {σ : k_S} {x : Int32} {kf : k_S → Option (Rt × k_S)} {own : String} {index : Nat} (hw : Cond.fieldLink own index "TallTalesModel" "fault" "I" ∈ k_ws) (hown : own = Y.2.2.2.1) (hd : decode Y.2.1 pc = .ok (.putfield index, 3)) (kk : ∀ σ' : k_S, KO X Y (cM (k_I X) q) kc ks Q (pc + 3) L st σ' (kf σ')) : KO X Y (cM (k_I X) q) kc ks Q pc L (.int x :: .ref (q 0) :: st) σ (k_bn (k_sf σ 0 x) kf) := k_put (T := TX7) (ci := 7) 0 rfl rfl kinX7 tyX7_ok nmX7 0 (by decide) rfl rfl rfl rfl hown hw rfl hd kk
theorem k_gMX7_trace {Rt : Type} {X : k_C} {Y : k_Y} {q : Nat → Nat} {kc ks : Nat} {Q : Rt → k_S → State → Prop} {pc : Nat} {L : List (Option Value)} {st : List Value} {σ : k_S} {o : Option (Rt × k_S)} {own : String} {index : Nat} (hw : Cond.fieldLink own index "TallTalesModel" "trace" "I" ∈ k_ws) (hown : own = Y.2.2.2.1) (hd : decode Y.2.1 pc = .ok (.getfield index, 3)) (kk : KO X Y (cM (k_I X) q) kc ks Q (pc + 3) L (.int (σ.1 1) :: st) σ o) : KO X Y (cM (k_I X) q) kc ks Q pc L (.ref (q 0) :: st) σ o := k_get (T := TX7) (ci := 7) 0 rfl rfl kinX7 1 (by decide) rfl hown hw rfl hd kk
theorem k_pMX7_trace {Rt : Type} {X : k_C} {Y : k_Y} {q : Nat → Nat} {kc ks : Nat} {Q : Rt → k_S → State → Prop} {pc : Nat} {L : List (Option Value)} {st : List Value} {σ : k_S} {x : Int32} {kf : k_S → Option (Rt × k_S)} {own : String} {index : Nat} (hw : Cond.fieldLink own index "TallTalesModel" "trace" "I" ∈ k_ws) (hown : own = Y.2.2.2.1) (hd : decode Y.2.1 pc = .ok (.putfield index, 3)) (kk : ∀ σ' : k_S, KO X Y (cM (k_I X) q) kc ks Q (pc + 3) L st σ' (kf σ')) : KO X Y (cM (k_I X) q) kc ks Q pc L (.int x :: .ref (q 0) :: st) σ (k_bn (k_sf σ 1 x) kf) := k_put (T := TX7) (ci := 7) 0 rfl rfl kinX7 tyX7_ok nmX7 1 (by decide) rfl rfl rfl rfl hown hw rfl hd kk
theorem k_gMX7_sorts {Rt : Type} {X : k_C} {Y : k_Y} {q : Nat → Nat} {kc ks : Nat} {Q : Rt → k_S → State → Prop} {pc : Nat} {L : List (Option Value)} {st : List Value} {σ : k_S} {o : Option (Rt × k_S)} {own : String} {index : Nat} (hw : Cond.fieldLink own index "TallTalesModel" "sorts" "[I" ∈ k_ws) (hown : own = Y.2.2.2.1) (hd : decode Y.2.1 pc = .ok (.getfield index, 3)) (kk : KO X Y (cM (k_I X) q) kc ks Q (pc + 3) L (.ref (q 1) :: st) σ o) : KO X Y (cM (k_I X) q) kc ks Q pc L (.ref (q 0) :: st) σ o := k_get (T := TX7) (ci := 7) 0 rfl rfl kinX7 2 (by decide) rfl hown hw rfl hd kk
theorem k_gMX7_sheetLong {Rt : Type} {X : k_C} {Y : k_Y} {q : Nat → Nat} {kc ks : Nat} {Q : Rt → k_S → State → Prop} {pc : Nat} {L : List (Option Value)} {st : List Value} {σ : k_S} {o : Option (Rt × k_S)} {own : String} {index : Nat} (hw : Cond.fieldLink own index "TallTalesModel" "sheetLong" "[I" ∈ k_ws) (hown : own = Y.2.2.2.1) (hd : decode Y.2.1 pc = .ok (.getfield index, 3)) (kk : KO X Y (cM (k_I X) q) kc ks Q (pc + 3) L (.ref (q 2) :: st) σ o) : KO X Y (cM (k_I X) q) kc ks Q pc L (.ref (q 0) :: st) σ o := k_get (T := TX7) (ci := 7) 0 rfl rfl kinX7 3 (by decide) rfl hown hw rfl hd kk
theorem k_gMX7_cells {Rt : Type} {X : k_C} {Y : k_Y} {q : Nat → Nat} {kc ks : Nat} {Q : Rt → k_S → State → Prop} {pc : Nat} {L : List (Option Value)} {st : List Value} {σ : k_S} {o : Option (Rt × k_S)} {own : String} {index : Nat} (hw : Cond.fieldLink own index "TallTalesModel" "cells" "[I" ∈ k_ws) (hown : own = Y.2.2.2.1) (hd : decode Y.2.1 pc = .ok (.getfield index, 3)) (kk : KO X Y (cM (k_I X) q) kc ks Q (pc + 3) L (.ref (q 3) :: st) σ o) : KO X Y (cM (k_I X) q) kc ks Q pc L (.ref (q 0) :: st) σ o := k_get (T := TX7) (ci := 7) 0 rfl rfl kinX7 4 (by decide) rfl hown hw rfl hd kk
theorem k_gMX7_guests {Rt : Type} {X : k_C} {Y : k_Y} {q : Nat → Nat} {kc ks : Nat} {Q : Rt → k_S → State → Prop} {pc : Nat} {L : List (Option Value)} {st : List Value} {σ : k_S} {o : Option (Rt × k_S)} {own : String} {index : Nat} (hw : Cond.fieldLink own index "TallTalesModel" "guests" "I" ∈ k_ws) (hown : own = Y.2.2.2.1) (hd : decode Y.2.1 pc = .ok (.getfield index, 3)) (kk : KO X Y (cM (k_I X) q) kc ks Q (pc + 3) L (.int (σ.1 2) :: st) σ o) : KO X Y (cM (k_I X) q) kc ks Q pc L (.ref (q 0) :: st) σ o := k_get (T := TX7) (ci := 7) 0 rfl rfl kinX7 5 (by decide) rfl hown hw rfl hd kk
theorem k_pMX7_guests {Rt : Type} {X : k_C} {Y : k_Y} {q : Nat → Nat} {kc ks : Nat} {Q : Rt → k_S → State → Prop} {pc : Nat} {L : List (Option Value)} {st : List Value} {σ : k_S} {x : Int32} {kf : k_S → Option (Rt × k_S)} {own : String} {index : Nat} (hw : Cond.fieldLink own index "TallTalesModel" "guests" "I" ∈ k_ws) (hown : own = Y.2.2.2.1) (hd : decode Y.2.1 pc = .ok (.putfield index, 3)) (kk : ∀ σ' : k_S, KO X Y (cM (k_I X) q) kc ks Q (pc + 3) L st σ' (kf σ')) : KO X Y (cM (k_I X) q) kc ks Q pc L (.int x :: .ref (q 0) :: st) σ (k_bn (k_sf σ 2 x) kf) := k_put (T := TX7) (ci := 7) 0 rfl rfl kinX7 tyX7_ok nmX7 5 (by decide) rfl rfl rfl rfl hown hw rfl hd kk
theorem k_gMX7_tales {Rt : Type} {X : k_C} {Y : k_Y} {q : Nat → Nat} {kc ks : Nat} {Q : Rt → k_S → State → Prop} {pc : Nat} {L : List (Option Value)} {st : List Value} {σ : k_S} {o : Option (Rt × k_S)} {own : String} {index : Nat} (hw : Cond.fieldLink own index "TallTalesModel" "tales" "I" ∈ k_ws) (hown : own = Y.2.2.2.1) (hd : decode Y.2.1 pc = .ok (.getfield index, 3)) (kk : KO X Y (cM (k_I X) q) kc ks Q (pc + 3) L (.int (σ.1 3) :: st) σ o) : KO X Y (cM (k_I X) q) kc ks Q pc L (.ref (q 0) :: st) σ o := k_get (T := TX7) (ci := 7) 0 rfl rfl kinX7 6 (by decide) rfl hown hw rfl hd kk
theorem k_pMX7_tales {Rt : Type} {X : k_C} {Y : k_Y} {q : Nat → Nat} {kc ks : Nat} {Q : Rt → k_S → State → Prop} {pc : Nat} {L : List (Option Value)} {st : List Value} {σ : k_S} {x : Int32} {kf : k_S → Option (Rt × k_S)} {own : String} {index : Nat} (hw : Cond.fieldLink own index "TallTalesModel" "tales" "I" ∈ k_ws) (hown : own = Y.2.2.2.1) (hd : decode Y.2.1 pc = .ok (.putfield index, 3)) (kk : ∀ σ' : k_S, KO X Y (cM (k_I X) q) kc ks Q (pc + 3) L st σ' (kf σ')) : KO X Y (cM (k_I X) q) kc ks Q pc L (.int x :: .ref (q 0) :: st) σ (k_bn (k_sf σ 3 x) kf) := k_put (T := TX7) (ci := 7) 0 rfl rfl kinX7 tyX7_ok nmX7 6 (by decide) rfl rfl rfl rfl hown hw rfl hd kk
theorem k_gMX7_memory {Rt : Type} {X : k_C} {Y : k_Y} {q : Nat → Nat} {kc ks : Nat} {Q : Rt → k_S → State → Prop} {pc : Nat} {L : List (Option Value)} {st : List Value} {σ : k_S} {o : Option (Rt × k_S)} {own : String} {index : Nat} (hw : Cond.fieldLink own index "TallTalesModel" "memory" "I" ∈ k_ws) (hown : own = Y.2.2.2.1) (hd : decode Y.2.1 pc = .ok (.getfield index, 3)) (kk : KO X Y (cM (k_I X) q) kc ks Q (pc + 3) L (.int (σ.1 4) :: st) σ o) : KO X Y (cM (k_I X) q) kc ks Q pc L (.ref (q 0) :: st) σ o := k_get (T := TX7) (ci := 7) 0 rfl rfl kinX7 7 (by decide) rfl hown hw rfl hd kk
theorem k_pMX7_memory {Rt : Type} {X : k_C} {Y : k_Y} {q : Nat → Nat} {kc ks : Nat} {Q : Rt → k_S → State → Prop} {pc : Nat} {L : List (Option Value)} {st : List Value} {σ : k_S} {x : Int32} {kf : k_S → Option (Rt × k_S)} {own : String} {index : Nat} (hw : Cond.fieldLink own index "TallTalesModel" "memory" "I" ∈ k_ws) (hown : own = Y.2.2.2.1) (hd : decode Y.2.1 pc = .ok (.putfield index, 3)) (kk : ∀ σ' : k_S, KO X Y (cM (k_I X) q) kc ks Q (pc + 3) L st σ' (kf σ')) : KO X Y (cM (k_I X) q) kc ks Q pc L (.int x :: .ref (q 0) :: st) σ (k_bn (k_sf σ 4 x) kf) := k_put (T := TX7) (ci := 7) 0 rfl rfl kinX7 tyX7_ok nmX7 7 (by decide) rfl rfl rfl rfl hown hw rfl hd kk
theorem k_gMX7_kind {Rt : Type} {X : k_C} {Y : k_Y} {q : Nat → Nat} {kc ks : Nat} {Q : Rt → k_S → State → Prop} {pc : Nat} {L : List (Option Value)} {st : List Value} {σ : k_S} {o : Option (Rt × k_S)} {own : String} {index : Nat} (hw : Cond.fieldLink own index "TallTalesModel" "kind" "[I" ∈ k_ws) (hown : own = Y.2.2.2.1) (hd : decode Y.2.1 pc = .ok (.getfield index, 3)) (kk : KO X Y (cM (k_I X) q) kc ks Q (pc + 3) L (.ref (q 4) :: st) σ o) : KO X Y (cM (k_I X) q) kc ks Q pc L (.ref (q 0) :: st) σ o := k_get (T := TX7) (ci := 7) 0 rfl rfl kinX7 8 (by decide) rfl hown hw rfl hd kk
theorem k_gMX7_whose {Rt : Type} {X : k_C} {Y : k_Y} {q : Nat → Nat} {kc ks : Nat} {Q : Rt → k_S → State → Prop} {pc : Nat} {L : List (Option Value)} {st : List Value} {σ : k_S} {o : Option (Rt × k_S)} {own : String} {index : Nat} (hw : Cond.fieldLink own index "TallTalesModel" "whose" "[I" ∈ k_ws) (hown : own = Y.2.2.2.1) (hd : decode Y.2.1 pc = .ok (.getfield index, 3)) (kk : KO X Y (cM (k_I X) q) kc ks Q (pc + 3) L (.ref (q 5) :: st) σ o) : KO X Y (cM (k_I X) q) kc ks Q pc L (.ref (q 0) :: st) σ o := k_get (T := TX7) (ci := 7) 0 rfl rfl kinX7 9 (by decide) rfl hown hw rfl hd kk
theorem k_gMX7_high {Rt : Type} {X : k_C} {Y : k_Y} {q : Nat → Nat} {kc ks : Nat} {Q : Rt → k_S → State → Prop} {pc : Nat} {L : List (Option Value)} {st : List Value} {σ : k_S} {o : Option (Rt × k_S)} {own : String} {index : Nat} (hw : Cond.fieldLink own index "TallTalesModel" "high" "[I" ∈ k_ws) (hown : own = Y.2.2.2.1) (hd : decode Y.2.1 pc = .ok (.getfield index, 3)) (kk : KO X Y (cM (k_I X) q) kc ks Q (pc + 3) L (.ref (q 6) :: st) σ o) : KO X Y (cM (k_I X) q) kc ks Q pc L (.ref (q 0) :: st) σ o := k_get (T := TX7) (ci := 7) 0 rfl rfl kinX7 10 (by decide) rfl hown hw rfl hd kk
theorem k_gMX7_at {Rt : Type} {X : k_C} {Y : k_Y} {q : Nat → Nat} {kc ks : Nat} {Q : Rt → k_S → State → Prop} {pc : Nat} {L : List (Option Value)} {st : List Value} {σ : k_S} {o : Option (Rt × k_S)} {own : String} {index : Nat} (hw : Cond.fieldLink own index "TallTalesModel" "at" "I" ∈ k_ws) (hown : own = Y.2.2.2.1) (hd : decode Y.2.1 pc = .ok (.getfield index, 3)) (kk : KO X Y (cM (k_I X) q) kc ks Q (pc + 3) L (.int (σ.1 5) :: st) σ o) : KO X Y (cM (k_I X) q) kc ks Q pc L (.ref (q 0) :: st) σ o := k_get (T := TX7) (ci := 7) 0 rfl rfl kinX7 11 (by decide) rfl hown hw rfl hd kk
theorem k_pMX7_at {Rt : Type} {X : k_C} {Y : k_Y} {q : Nat → Nat} {kc ks : Nat} {Q : Rt → k_S → State → Prop} {pc : Nat} {L : List (Option Value)} {st : List Value} {σ : k_S} {x : Int32} {kf : k_S → Option (Rt × k_S)} {own : String} {index : Nat} (hw : Cond.fieldLink own index "TallTalesModel" "at" "I" ∈ k_ws) (hown : own = Y.2.2.2.1) (hd : decode Y.2.1 pc = .ok (.putfield index, 3)) (kk : ∀ σ' : k_S, KO X Y (cM (k_I X) q) kc ks Q (pc + 3) L st σ' (kf σ')) : KO X Y (cM (k_I X) q) kc ks Q pc L (.int x :: .ref (q 0) :: st) σ (k_bn (k_sf σ 5 x) kf) := k_put (T := TX7) (ci := 7) 0 rfl rfl kinX7 tyX7_ok nmX7 11 (by decide) rfl rfl rfl rfl hown hw rfl hd kk
theorem k_gMX7_readGuests {Rt : Type} {X : k_C} {Y : k_Y} {q : Nat → Nat} {kc ks : Nat} {Q : Rt → k_S → State → Prop} {pc : Nat} {L : List (Option Value)} {st : List Value} {σ : k_S} {o : Option (Rt × k_S)} {own : String} {index : Nat} (hw : Cond.fieldLink own index "TallTalesModel" "readGuests" "I" ∈ k_ws) (hown : own = Y.2.2.2.1) (hd : decode Y.2.1 pc = .ok (.getfield index, 3)) (kk : KO X Y (cM (k_I X) q) kc ks Q (pc + 3) L (.int (σ.1 6) :: st) σ o) : KO X Y (cM (k_I X) q) kc ks Q pc L (.ref (q 0) :: st) σ o := k_get (T := TX7) (ci := 7) 0 rfl rfl kinX7 12 (by decide) rfl hown hw rfl hd kk
theorem k_pMX7_readGuests {Rt : Type} {X : k_C} {Y : k_Y} {q : Nat → Nat} {kc ks : Nat} {Q : Rt → k_S → State → Prop} {pc : Nat} {L : List (Option Value)} {st : List Value} {σ : k_S} {x : Int32} {kf : k_S → Option (Rt × k_S)} {own : String} {index : Nat} (hw : Cond.fieldLink own index "TallTalesModel" "readGuests" "I" ∈ k_ws) (hown : own = Y.2.2.2.1) (hd : decode Y.2.1 pc = .ok (.putfield index, 3)) (kk : ∀ σ' : k_S, KO X Y (cM (k_I X) q) kc ks Q (pc + 3) L st σ' (kf σ')) : KO X Y (cM (k_I X) q) kc ks Q pc L (.int x :: .ref (q 0) :: st) σ (k_bn (k_sf σ 6 x) kf) := k_put (T := TX7) (ci := 7) 0 rfl rfl kinX7 tyX7_ok nmX7 12 (by decide) rfl rfl rfl rfl hown hw rfl hd kk
theorem k_gMX7_readTales {Rt : Type} {X : k_C} {Y : k_Y} {q : Nat → Nat} {kc ks : Nat} {Q : Rt → k_S → State → Prop} {pc : Nat} {L : List (Option Value)} {st : List Value} {σ : k_S} {o : Option (Rt × k_S)} {own : String} {index : Nat} (hw : Cond.fieldLink own index "TallTalesModel" "readTales" "I" ∈ k_ws) (hown : own = Y.2.2.2.1) (hd : decode Y.2.1 pc = .ok (.getfield index, 3)) (kk : KO X Y (cM (k_I X) q) kc ks Q (pc + 3) L (.int (σ.1 7) :: st) σ o) : KO X Y (cM (k_I X) q) kc ks Q pc L (.ref (q 0) :: st) σ o := k_get (T := TX7) (ci := 7) 0 rfl rfl kinX7 13 (by decide) rfl hown hw rfl hd kk
theorem k_pMX7_readTales {Rt : Type} {X : k_C} {Y : k_Y} {q : Nat → Nat} {kc ks : Nat} {Q : Rt → k_S → State → Prop} {pc : Nat} {L : List (Option Value)} {st : List Value} {σ : k_S} {x : Int32} {kf : k_S → Option (Rt × k_S)} {own : String} {index : Nat} (hw : Cond.fieldLink own index "TallTalesModel" "readTales" "I" ∈ k_ws) (hown : own = Y.2.2.2.1) (hd : decode Y.2.1 pc = .ok (.putfield index, 3)) (kk : ∀ σ' : k_S, KO X Y (cM (k_I X) q) kc ks Q (pc + 3) L st σ' (kf σ')) : KO X Y (cM (k_I X) q) kc ks Q pc L (.int x :: .ref (q 0) :: st) σ (k_bn (k_sf σ 7 x) kf) := k_put (T := TX7) (ci := 7) 0 rfl rfl kinX7 tyX7_ok nmX7 13 (by decide) rfl rfl rfl rfl hown hw rfl hd kk
theorem k_gMX7_readKind {Rt : Type} {X : k_C} {Y : k_Y} {q : Nat → Nat} {kc ks : Nat} {Q : Rt → k_S → State → Prop} {pc : Nat} {L : List (Option Value)} {st : List Value} {σ : k_S} {o : Option (Rt × k_S)} {own : String} {index : Nat} (hw : Cond.fieldLink own index "TallTalesModel" "readKind" "[I" ∈ k_ws) (hown : own = Y.2.2.2.1) (hd : decode Y.2.1 pc = .ok (.getfield index, 3)) (kk : KO X Y (cM (k_I X) q) kc ks Q (pc + 3) L (.ref (q 7) :: st) σ o) : KO X Y (cM (k_I X) q) kc ks Q pc L (.ref (q 0) :: st) σ o := k_get (T := TX7) (ci := 7) 0 rfl rfl kinX7 14 (by decide) rfl hown hw rfl hd kk
theorem k_gMX7_readWhose {Rt : Type} {X : k_C} {Y : k_Y} {q : Nat → Nat} {kc ks : Nat} {Q : Rt → k_S → State → Prop} {pc : Nat} {L : List (Option Value)} {st : List Value} {σ : k_S} {o : Option (Rt × k_S)} {own : String} {index : Nat} (hw : Cond.fieldLink own index "TallTalesModel" "readWhose" "[I" ∈ k_ws) (hown : own = Y.2.2.2.1) (hd : decode Y.2.1 pc = .ok (.getfield index, 3)) (kk : KO X Y (cM (k_I X) q) kc ks Q (pc + 3) L (.ref (q 8) :: st) σ o) : KO X Y (cM (k_I X) q) kc ks Q pc L (.ref (q 0) :: st) σ o := k_get (T := TX7) (ci := 7) 0 rfl rfl kinX7 15 (by decide) rfl hown hw rfl hd kk
theorem k_gMX7_readHigh {Rt : Type} {X : k_C} {Y : k_Y} {q : Nat → Nat} {kc ks : Nat} {Q : Rt → k_S → State → Prop} {pc : Nat} {L : List (Option Value)} {st : List Value} {σ : k_S} {o : Option (Rt × k_S)} {own : String} {index : Nat} (hw : Cond.fieldLink own index "TallTalesModel" "readHigh" "[I" ∈ k_ws) (hown : own = Y.2.2.2.1) (hd : decode Y.2.1 pc = .ok (.getfield index, 3)) (kk : KO X Y (cM (k_I X) q) kc ks Q (pc + 3) L (.ref (q 9) :: st) σ o) : KO X Y (cM (k_I X) q) kc ks Q pc L (.ref (q 0) :: st) σ o := k_get (T := TX7) (ci := 7) 0 rfl rfl kinX7 16 (by decide) rfl hown hw rfl hd kk
theorem k_gMX7_over {Rt : Type} {X : k_C} {Y : k_Y} {q : Nat → Nat} {kc ks : Nat} {Q : Rt → k_S → State → Prop} {pc : Nat} {L : List (Option Value)} {st : List Value} {σ : k_S} {o : Option (Rt × k_S)} {own : String} {index : Nat} (hw : Cond.fieldLink own index "TallTalesModel" "over" "I" ∈ k_ws) (hown : own = Y.2.2.2.1) (hd : decode Y.2.1 pc = .ok (.getfield index, 3)) (kk : KO X Y (cM (k_I X) q) kc ks Q (pc + 3) L (.int (σ.1 8) :: st) σ o) : KO X Y (cM (k_I X) q) kc ks Q pc L (.ref (q 0) :: st) σ o := k_get (T := TX7) (ci := 7) 0 rfl rfl kinX7 17 (by decide) rfl hown hw rfl hd kk
theorem k_pMX7_over {Rt : Type} {X : k_C} {Y : k_Y} {q : Nat → Nat} {kc ks : Nat} {Q : Rt → k_S → State → Prop} {pc : Nat} {L : List (Option Value)} {st : List Value} {σ : k_S} {x : Int32} {kf : k_S → Option (Rt × k_S)} {own : String} {index : Nat} (hw : Cond.fieldLink own index "TallTalesModel" "over" "I" ∈ k_ws) (hown : own = Y.2.2.2.1) (hd : decode Y.2.1 pc = .ok (.putfield index, 3)) (kk : ∀ σ' : k_S, KO X Y (cM (k_I X) q) kc ks Q (pc + 3) L st σ' (kf σ')) : KO X Y (cM (k_I X) q) kc ks Q pc L (.int x :: .ref (q 0) :: st) σ (k_bn (k_sf σ 8 x) kf) := k_put (T := TX7) (ci := 7) 0 rfl rfl kinX7 tyX7_ok nmX7 17 (by decide) rfl rfl rfl rfl hown hw rfl hd kk
theorem k_gMX7_nightTold {Rt : Type} {X : k_C} {Y : k_Y} {q : Nat → Nat} {kc ks : Nat} {Q : Rt → k_S → State → Prop} {pc : Nat} {L : List (Option Value)} {st : List Value} {σ : k_S} {o : Option (Rt × k_S)} {own : String} {index : Nat} (hw : Cond.fieldLink own index "TallTalesModel" "nightTold" "[I" ∈ k_ws) (hown : own = Y.2.2.2.1) (hd : decode Y.2.1 pc = .ok (.getfield index, 3)) (kk : KO X Y (cM (k_I X) q) kc ks Q (pc + 3) L (.ref (q 10) :: st) σ o) : KO X Y (cM (k_I X) q) kc ks Q pc L (.ref (q 0) :: st) σ o := k_get (T := TX7) (ci := 7) 0 rfl rfl kinX7 18 (by decide) rfl hown hw rfl hd kk
theorem k_gMX7_nightTall {Rt : Type} {X : k_C} {Y : k_Y} {q : Nat → Nat} {kc ks : Nat} {Q : Rt → k_S → State → Prop} {pc : Nat} {L : List (Option Value)} {st : List Value} {σ : k_S} {o : Option (Rt × k_S)} {own : String} {index : Nat} (hw : Cond.fieldLink own index "TallTalesModel" "nightTall" "[I" ∈ k_ws) (hown : own = Y.2.2.2.1) (hd : decode Y.2.1 pc = .ok (.getfield index, 3)) (kk : KO X Y (cM (k_I X) q) kc ks Q (pc + 3) L (.ref (q 11) :: st) σ o) : KO X Y (cM (k_I X) q) kc ks Q pc L (.ref (q 0) :: st) σ o := k_get (T := TX7) (ci := 7) 0 rfl rfl kinX7 19 (by decide) rfl hown hw rfl hd kk
theorem k_gMX7_chosen {Rt : Type} {X : k_C} {Y : k_Y} {q : Nat → Nat} {kc ks : Nat} {Q : Rt → k_S → State → Prop} {pc : Nat} {L : List (Option Value)} {st : List Value} {σ : k_S} {o : Option (Rt × k_S)} {own : String} {index : Nat} (hw : Cond.fieldLink own index "TallTalesModel" "chosen" "[I" ∈ k_ws) (hown : own = Y.2.2.2.1) (hd : decode Y.2.1 pc = .ok (.getfield index, 3)) (kk : KO X Y (cM (k_I X) q) kc ks Q (pc + 3) L (.ref (q 12) :: st) σ o) : KO X Y (cM (k_I X) q) kc ks Q pc L (.ref (q 0) :: st) σ o := k_get (T := TX7) (ci := 7) 0 rfl rfl kinX7 20 (by decide) rfl hown hw rfl hd kk
theorem k_gMX7_times {Rt : Type} {X : k_C} {Y : k_Y} {q : Nat → Nat} {kc ks : Nat} {Q : Rt → k_S → State → Prop} {pc : Nat} {L : List (Option Value)} {st : List Value} {σ : k_S} {o : Option (Rt × k_S)} {own : String} {index : Nat} (hw : Cond.fieldLink own index "TallTalesModel" "times" "[I" ∈ k_ws) (hown : own = Y.2.2.2.1) (hd : decode Y.2.1 pc = .ok (.getfield index, 3)) (kk : KO X Y (cM (k_I X) q) kc ks Q (pc + 3) L (.ref (q 13) :: st) σ o) : KO X Y (cM (k_I X) q) kc ks Q pc L (.ref (q 0) :: st) σ o := k_get (T := TX7) (ci := 7) 0 rfl rfl kinX7 21 (by decide) rfl hown hw rfl hd kk
theorem k_gMX7_last {Rt : Type} {X : k_C} {Y : k_Y} {q : Nat → Nat} {kc ks : Nat} {Q : Rt → k_S → State → Prop} {pc : Nat} {L : List (Option Value)} {st : List Value} {σ : k_S} {o : Option (Rt × k_S)} {own : String} {index : Nat} (hw : Cond.fieldLink own index "TallTalesModel" "last" "[I" ∈ k_ws) (hown : own = Y.2.2.2.1) (hd : decode Y.2.1 pc = .ok (.getfield index, 3)) (kk : KO X Y (cM (k_I X) q) kc ks Q (pc + 3) L (.ref (q 14) :: st) σ o) : KO X Y (cM (k_I X) q) kc ks Q pc L (.ref (q 0) :: st) σ o := k_get (T := TX7) (ci := 7) 0 rfl rfl kinX7 22 (by decide) rfl hown hw rfl hd kk
theorem k_gMX7_tall {Rt : Type} {X : k_C} {Y : k_Y} {q : Nat → Nat} {kc ks : Nat} {Q : Rt → k_S → State → Prop} {pc : Nat} {L : List (Option Value)} {st : List Value} {σ : k_S} {o : Option (Rt × k_S)} {own : String} {index : Nat} (hw : Cond.fieldLink own index "TallTalesModel" "tall" "[I" ∈ k_ws) (hown : own = Y.2.2.2.1) (hd : decode Y.2.1 pc = .ok (.getfield index, 3)) (kk : KO X Y (cM (k_I X) q) kc ks Q (pc + 3) L (.ref (q 15) :: st) σ o) : KO X Y (cM (k_I X) q) kc ks Q pc L (.ref (q 0) :: st) σ o := k_get (T := TX7) (ci := 7) 0 rfl rfl kinX7 23 (by decide) rfl hown hw rfl hd kk
theorem k_gMX7_bestTale {Rt : Type} {X : k_C} {Y : k_Y} {q : Nat → Nat} {kc ks : Nat} {Q : Rt → k_S → State → Prop} {pc : Nat} {L : List (Option Value)} {st : List Value} {σ : k_S} {o : Option (Rt × k_S)} {own : String} {index : Nat} (hw : Cond.fieldLink own index "TallTalesModel" "bestTale" "I" ∈ k_ws) (hown : own = Y.2.2.2.1) (hd : decode Y.2.1 pc = .ok (.getfield index, 3)) (kk : KO X Y (cM (k_I X) q) kc ks Q (pc + 3) L (.int (σ.1 9) :: st) σ o) : KO X Y (cM (k_I X) q) kc ks Q pc L (.ref (q 0) :: st) σ o := k_get (T := TX7) (ci := 7) 0 rfl rfl kinX7 24 (by decide) rfl hown hw rfl hd kk
theorem k_pMX7_bestTale {Rt : Type} {X : k_C} {Y : k_Y} {q : Nat → Nat} {kc ks : Nat} {Q : Rt → k_S → State → Prop} {pc : Nat} {L : List (Option Value)} {st : List Value} {σ : k_S} {x : Int32} {kf : k_S → Option (Rt × k_S)} {own : String} {index : Nat} (hw : Cond.fieldLink own index "TallTalesModel" "bestTale" "I" ∈ k_ws) (hown : own = Y.2.2.2.1) (hd : decode Y.2.1 pc = .ok (.putfield index, 3)) (kk : ∀ σ' : k_S, KO X Y (cM (k_I X) q) kc ks Q (pc + 3) L st σ' (kf σ')) : KO X Y (cM (k_I X) q) kc ks Q pc L (.int x :: .ref (q 0) :: st) σ (k_bn (k_sf σ 9 x) kf) := k_put (T := TX7) (ci := 7) 0 rfl rfl kinX7 tyX7_ok nmX7 24 (by decide) rfl rfl rfl rfl hown hw rfl hd kk
theorem k_gMX7_bestPlace {Rt : Type} {X : k_C} {Y : k_Y} {q : Nat → Nat} {kc ks : Nat} {Q : Rt → k_S → State → Prop} {pc : Nat} {L : List (Option Value)} {st : List Value} {σ : k_S} {o : Option (Rt × k_S)} {own : String} {index : Nat} (hw : Cond.fieldLink own index "TallTalesModel" "bestPlace" "I" ∈ k_ws) (hown : own = Y.2.2.2.1) (hd : decode Y.2.1 pc = .ok (.getfield index, 3)) (kk : KO X Y (cM (k_I X) q) kc ks Q (pc + 3) L (.int (σ.1 10) :: st) σ o) : KO X Y (cM (k_I X) q) kc ks Q pc L (.ref (q 0) :: st) σ o := k_get (T := TX7) (ci := 7) 0 rfl rfl kinX7 25 (by decide) rfl hown hw rfl hd kk
theorem k_pMX7_bestPlace {Rt : Type} {X : k_C} {Y : k_Y} {q : Nat → Nat} {kc ks : Nat} {Q : Rt → k_S → State → Prop} {pc : Nat} {L : List (Option Value)} {st : List Value} {σ : k_S} {x : Int32} {kf : k_S → Option (Rt × k_S)} {own : String} {index : Nat} (hw : Cond.fieldLink own index "TallTalesModel" "bestPlace" "I" ∈ k_ws) (hown : own = Y.2.2.2.1) (hd : decode Y.2.1 pc = .ok (.putfield index, 3)) (kk : ∀ σ' : k_S, KO X Y (cM (k_I X) q) kc ks Q (pc + 3) L st σ' (kf σ')) : KO X Y (cM (k_I X) q) kc ks Q pc L (.int x :: .ref (q 0) :: st) σ (k_bn (k_sf σ 10 x) kf) := k_put (T := TX7) (ci := 7) 0 rfl rfl kinX7 tyX7_ok nmX7 25 (by decide) rfl rfl rfl rfl hown hw rfl hd kk
theorem k_gMX7_bestTall {Rt : Type} {X : k_C} {Y : k_Y} {q : Nat → Nat} {kc ks : Nat} {Q : Rt → k_S → State → Prop} {pc : Nat} {L : List (Option Value)} {st : List Value} {σ : k_S} {o : Option (Rt × k_S)} {own : String} {index : Nat} (hw : Cond.fieldLink own index "TallTalesModel" "bestTall" "I" ∈ k_ws) (hown : own = Y.2.2.2.1) (hd : decode Y.2.1 pc = .ok (.getfield index, 3)) (kk : KO X Y (cM (k_I X) q) kc ks Q (pc + 3) L (.int (σ.1 11) :: st) σ o) : KO X Y (cM (k_I X) q) kc ks Q pc L (.ref (q 0) :: st) σ o := k_get (T := TX7) (ci := 7) 0 rfl rfl kinX7 26 (by decide) rfl hown hw rfl hd kk
theorem k_pMX7_bestTall {Rt : Type} {X : k_C} {Y : k_Y} {q : Nat → Nat} {kc ks : Nat} {Q : Rt → k_S → State → Prop} {pc : Nat} {L : List (Option Value)} {st : List Value} {σ : k_S} {x : Int32} {kf : k_S → Option (Rt × k_S)} {own : String} {index : Nat} (hw : Cond.fieldLink own index "TallTalesModel" "bestTall" "I" ∈ k_ws) (hown : own = Y.2.2.2.1) (hd : decode Y.2.1 pc = .ok (.putfield index, 3)) (kk : ∀ σ' : k_S, KO X Y (cM (k_I X) q) kc ks Q (pc + 3) L st σ' (kf σ')) : KO X Y (cM (k_I X) q) kc ks Q pc L (.int x :: .ref (q 0) :: st) σ (k_bn (k_sf σ 11 x) kf) := k_put (T := TX7) (ci := 7) 0 rfl rfl kinX7 tyX7_ok nmX7 26 (by decide) rfl rfl rfl rfl hown hw rfl hd kk
theorem k_gMX7_tells {Rt : Type} {X : k_C} {Y : k_Y} {q : Nat → Nat} {kc ks : Nat} {Q : Rt → k_S → State → Prop} {pc : Nat} {L : List (Option Value)} {st : List Value} {σ : k_S} {o : Option (Rt × k_S)} {own : String} {index : Nat} (hw : Cond.fieldLink own index "TallTalesModel" "tells" "[I" ∈ k_ws) (hown : own = Y.2.2.2.1) (hd : decode Y.2.1 pc = .ok (.getfield index, 3)) (kk : KO X Y (cM (k_I X) q) kc ks Q (pc + 3) L (.ref (q 16) :: st) σ o) : KO X Y (cM (k_I X) q) kc ks Q pc L (.ref (q 0) :: st) σ o := k_get (T := TX7) (ci := 7) 0 rfl rfl kinX7 27 (by decide) rfl hown hw rfl hd kk
theorem k_gMX7_firstRest {Rt : Type} {X : k_C} {Y : k_Y} {q : Nat → Nat} {kc ks : Nat} {Q : Rt → k_S → State → Prop} {pc : Nat} {L : List (Option Value)} {st : List Value} {σ : k_S} {o : Option (Rt × k_S)} {own : String} {index : Nat} (hw : Cond.fieldLink own index "TallTalesModel" "firstRest" "[I" ∈ k_ws) (hown : own = Y.2.2.2.1) (hd : decode Y.2.1 pc = .ok (.getfield index, 3)) (kk : KO X Y (cM (k_I X) q) kc ks Q (pc + 3) L (.ref (q 17) :: st) σ o) : KO X Y (cM (k_I X) q) kc ks Q pc L (.ref (q 0) :: st) σ o := k_get (T := TX7) (ci := 7) 0 rfl rfl kinX7 28 (by decide) rfl hown hw rfl hd kk
theorem k_gMX7_winterTells {Rt : Type} {X : k_C} {Y : k_Y} {q : Nat → Nat} {kc ks : Nat} {Q : Rt → k_S → State → Prop} {pc : Nat} {L : List (Option Value)} {st : List Value} {σ : k_S} {o : Option (Rt × k_S)} {own : String} {index : Nat} (hw : Cond.fieldLink own index "TallTalesModel" "winterTells" "[I" ∈ k_ws) (hown : own = Y.2.2.2.1) (hd : decode Y.2.1 pc = .ok (.getfield index, 3)) (kk : KO X Y (cM (k_I X) q) kc ks Q (pc + 3) L (.ref (q 18) :: st) σ o) : KO X Y (cM (k_I X) q) kc ks Q pc L (.ref (q 0) :: st) σ o := k_get (T := TX7) (ci := 7) 0 rfl rfl kinX7 29 (by decide) rfl hown hw rfl hd kk
theorem k_gMX7_winterBest {Rt : Type} {X : k_C} {Y : k_Y} {q : Nat → Nat} {kc ks : Nat} {Q : Rt → k_S → State → Prop} {pc : Nat} {L : List (Option Value)} {st : List Value} {σ : k_S} {o : Option (Rt × k_S)} {own : String} {index : Nat} (hw : Cond.fieldLink own index "TallTalesModel" "winterBest" "[I" ∈ k_ws) (hown : own = Y.2.2.2.1) (hd : decode Y.2.1 pc = .ok (.getfield index, 3)) (kk : KO X Y (cM (k_I X) q) kc ks Q (pc + 3) L (.ref (q 19) :: st) σ o) : KO X Y (cM (k_I X) q) kc ks Q pc L (.ref (q 0) :: st) σ o := k_get (T := TX7) (ci := 7) 0 rfl rfl kinX7 30 (by decide) rfl hown hw rfl hd kk
theorem k_lM1 {Rt : Type} {X : k_C} {Y : k_Y} {q : Nat → Nat} {kc ks : Nat} {Q : Rt → k_S → State → Prop} {pc : Nat} {L : List (Option Value)} {st : List Value} {σ : k_S} {o : Option (Rt × k_S)} {i : Int32} (hd : decode Y.2.1 pc = .ok (.iaload, 1)) (kk : KO X Y (cM (k_I X) q) kc ks Q (pc + 1) L (.int (σ.2 0 i.toNatClampNeg) :: st) σ o) : KO X Y (cM (k_I X) q) kc ks Q pc L (.int i :: .ref (q 1) :: st) σ (k_gd i 4 o) := k_iald 1 rfl hd kk
theorem k_sM1 {Rt : Type} {X : k_C} {Y : k_Y} {q : Nat → Nat} {kc ks : Nat} {Q : Rt → k_S → State → Prop} {pc : Nat} {L : List (Option Value)} {st : List Value} {σ : k_S} {i x : Int32} {kf : k_S → Option (Rt × k_S)} (hd : decode Y.2.1 pc = .ok (.iastore, 1)) (kk : ∀ σ' : k_S, KO X Y (cM (k_I X) q) kc ks Q (pc + 1) L st σ' (kf σ')) : KO X Y (cM (k_I X) q) kc ks Q pc L (.int x :: .int i :: .ref (q 1) :: st) σ (k_gd i 4 (k_bn (k_sa σ 0 i x) kf)) := k_iast 1 rfl rfl hd kk
theorem k_lM2 {Rt : Type} {X : k_C} {Y : k_Y} {q : Nat → Nat} {kc ks : Nat} {Q : Rt → k_S → State → Prop} {pc : Nat} {L : List (Option Value)} {st : List Value} {σ : k_S} {o : Option (Rt × k_S)} {i : Int32} (hd : decode Y.2.1 pc = .ok (.iaload, 1)) (kk : KO X Y (cM (k_I X) q) kc ks Q (pc + 1) L (.int (σ.2 1 i.toNatClampNeg) :: st) σ o) : KO X Y (cM (k_I X) q) kc ks Q pc L (.int i :: .ref (q 2) :: st) σ (k_gd i 4 o) := k_iald 2 rfl hd kk
theorem k_sM2 {Rt : Type} {X : k_C} {Y : k_Y} {q : Nat → Nat} {kc ks : Nat} {Q : Rt → k_S → State → Prop} {pc : Nat} {L : List (Option Value)} {st : List Value} {σ : k_S} {i x : Int32} {kf : k_S → Option (Rt × k_S)} (hd : decode Y.2.1 pc = .ok (.iastore, 1)) (kk : ∀ σ' : k_S, KO X Y (cM (k_I X) q) kc ks Q (pc + 1) L st σ' (kf σ')) : KO X Y (cM (k_I X) q) kc ks Q pc L (.int x :: .int i :: .ref (q 2) :: st) σ (k_gd i 4 (k_bn (k_sa σ 1 i x) kf)) := k_iast 2 rfl rfl hd kk
theorem k_lM3 {Rt : Type} {X : k_C} {Y : k_Y} {q : Nat → Nat} {kc ks : Nat} {Q : Rt → k_S → State → Prop} {pc : Nat} {L : List (Option Value)} {st : List Value} {σ : k_S} {o : Option (Rt × k_S)} {i : Int32} (hd : decode Y.2.1 pc = .ok (.iaload, 1)) (kk : KO X Y (cM (k_I X) q) kc ks Q (pc + 1) L (.int (σ.2 2 i.toNatClampNeg) :: st) σ o) : KO X Y (cM (k_I X) q) kc ks Q pc L (.int i :: .ref (q 3) :: st) σ (k_gd i 240 o) := k_iald 3 rfl hd kk
theorem k_sM3 {Rt : Type} {X : k_C} {Y : k_Y} {q : Nat → Nat} {kc ks : Nat} {Q : Rt → k_S → State → Prop} {pc : Nat} {L : List (Option Value)} {st : List Value} {σ : k_S} {i x : Int32} {kf : k_S → Option (Rt × k_S)} (hd : decode Y.2.1 pc = .ok (.iastore, 1)) (kk : ∀ σ' : k_S, KO X Y (cM (k_I X) q) kc ks Q (pc + 1) L st σ' (kf σ')) : KO X Y (cM (k_I X) q) kc ks Q pc L (.int x :: .int i :: .ref (q 3) :: st) σ (k_gd i 240 (k_bn (k_sa σ 2 i x) kf)) := k_iast 3 rfl rfl hd kk
theorem k_lM4 {Rt : Type} {X : k_C} {Y : k_Y} {q : Nat → Nat} {kc ks : Nat} {Q : Rt → k_S → State → Prop} {pc : Nat} {L : List (Option Value)} {st : List Value} {σ : k_S} {o : Option (Rt × k_S)} {i : Int32} (hd : decode Y.2.1 pc = .ok (.iaload, 1)) (kk : KO X Y (cM (k_I X) q) kc ks Q (pc + 1) L (.int (σ.2 3 i.toNatClampNeg) :: st) σ o) : KO X Y (cM (k_I X) q) kc ks Q pc L (.int i :: .ref (q 4) :: st) σ (k_gd i 10 o) := k_iald 4 rfl hd kk
theorem k_sM4 {Rt : Type} {X : k_C} {Y : k_Y} {q : Nat → Nat} {kc ks : Nat} {Q : Rt → k_S → State → Prop} {pc : Nat} {L : List (Option Value)} {st : List Value} {σ : k_S} {i x : Int32} {kf : k_S → Option (Rt × k_S)} (hd : decode Y.2.1 pc = .ok (.iastore, 1)) (kk : ∀ σ' : k_S, KO X Y (cM (k_I X) q) kc ks Q (pc + 1) L st σ' (kf σ')) : KO X Y (cM (k_I X) q) kc ks Q pc L (.int x :: .int i :: .ref (q 4) :: st) σ (k_gd i 10 (k_bn (k_sa σ 3 i x) kf)) := k_iast 4 rfl rfl hd kk
theorem k_lM5 {Rt : Type} {X : k_C} {Y : k_Y} {q : Nat → Nat} {kc ks : Nat} {Q : Rt → k_S → State → Prop} {pc : Nat} {L : List (Option Value)} {st : List Value} {σ : k_S} {o : Option (Rt × k_S)} {i : Int32} (hd : decode Y.2.1 pc = .ok (.iaload, 1)) (kk : KO X Y (cM (k_I X) q) kc ks Q (pc + 1) L (.int (σ.2 4 i.toNatClampNeg) :: st) σ o) : KO X Y (cM (k_I X) q) kc ks Q pc L (.int i :: .ref (q 5) :: st) σ (k_gd i 10 o) := k_iald 5 rfl hd kk
theorem k_sM5 {Rt : Type} {X : k_C} {Y : k_Y} {q : Nat → Nat} {kc ks : Nat} {Q : Rt → k_S → State → Prop} {pc : Nat} {L : List (Option Value)} {st : List Value} {σ : k_S} {i x : Int32} {kf : k_S → Option (Rt × k_S)} (hd : decode Y.2.1 pc = .ok (.iastore, 1)) (kk : ∀ σ' : k_S, KO X Y (cM (k_I X) q) kc ks Q (pc + 1) L st σ' (kf σ')) : KO X Y (cM (k_I X) q) kc ks Q pc L (.int x :: .int i :: .ref (q 5) :: st) σ (k_gd i 10 (k_bn (k_sa σ 4 i x) kf)) := k_iast 5 rfl rfl hd kk
theorem k_lM6 {Rt : Type} {X : k_C} {Y : k_Y} {q : Nat → Nat} {kc ks : Nat} {Q : Rt → k_S → State → Prop} {pc : Nat} {L : List (Option Value)} {st : List Value} {σ : k_S} {o : Option (Rt × k_S)} {i : Int32} (hd : decode Y.2.1 pc = .ok (.iaload, 1)) (kk : KO X Y (cM (k_I X) q) kc ks Q (pc + 1) L (.int (σ.2 5 i.toNatClampNeg) :: st) σ o) : KO X Y (cM (k_I X) q) kc ks Q pc L (.int i :: .ref (q 6) :: st) σ (k_gd i 10 o) := k_iald 6 rfl hd kk
theorem k_sM6 {Rt : Type} {X : k_C} {Y : k_Y} {q : Nat → Nat} {kc ks : Nat} {Q : Rt → k_S → State → Prop} {pc : Nat} {L : List (Option Value)} {st : List Value} {σ : k_S} {i x : Int32} {kf : k_S → Option (Rt × k_S)} (hd : decode Y.2.1 pc = .ok (.iastore, 1)) (kk : ∀ σ' : k_S, KO X Y (cM (k_I X) q) kc ks Q (pc + 1) L st σ' (kf σ')) : KO X Y (cM (k_I X) q) kc ks Q pc L (.int x :: .int i :: .ref (q 6) :: st) σ (k_gd i 10 (k_bn (k_sa σ 5 i x) kf)) := k_iast 6 rfl rfl hd kk
theorem k_lM7 {Rt : Type} {X : k_C} {Y : k_Y} {q : Nat → Nat} {kc ks : Nat} {Q : Rt → k_S → State → Prop} {pc : Nat} {L : List (Option Value)} {st : List Value} {σ : k_S} {o : Option (Rt × k_S)} {i : Int32} (hd : decode Y.2.1 pc = .ok (.iaload, 1)) (kk : KO X Y (cM (k_I X) q) kc ks Q (pc + 1) L (.int (σ.2 6 i.toNatClampNeg) :: st) σ o) : KO X Y (cM (k_I X) q) kc ks Q pc L (.int i :: .ref (q 7) :: st) σ (k_gd i 10 o) := k_iald 7 rfl hd kk
theorem k_sM7 {Rt : Type} {X : k_C} {Y : k_Y} {q : Nat → Nat} {kc ks : Nat} {Q : Rt → k_S → State → Prop} {pc : Nat} {L : List (Option Value)} {st : List Value} {σ : k_S} {i x : Int32} {kf : k_S → Option (Rt × k_S)} (hd : decode Y.2.1 pc = .ok (.iastore, 1)) (kk : ∀ σ' : k_S, KO X Y (cM (k_I X) q) kc ks Q (pc + 1) L st σ' (kf σ')) : KO X Y (cM (k_I X) q) kc ks Q pc L (.int x :: .int i :: .ref (q 7) :: st) σ (k_gd i 10 (k_bn (k_sa σ 6 i x) kf)) := k_iast 7 rfl rfl hd kk
theorem k_lM8 {Rt : Type} {X : k_C} {Y : k_Y} {q : Nat → Nat} {kc ks : Nat} {Q : Rt → k_S → State → Prop} {pc : Nat} {L : List (Option Value)} {st : List Value} {σ : k_S} {o : Option (Rt × k_S)} {i : Int32} (hd : decode Y.2.1 pc = .ok (.iaload, 1)) (kk : KO X Y (cM (k_I X) q) kc ks Q (pc + 1) L (.int (σ.2 7 i.toNatClampNeg) :: st) σ o) : KO X Y (cM (k_I X) q) kc ks Q pc L (.int i :: .ref (q 8) :: st) σ (k_gd i 10 o) := k_iald 8 rfl hd kk
theorem k_sM8 {Rt : Type} {X : k_C} {Y : k_Y} {q : Nat → Nat} {kc ks : Nat} {Q : Rt → k_S → State → Prop} {pc : Nat} {L : List (Option Value)} {st : List Value} {σ : k_S} {i x : Int32} {kf : k_S → Option (Rt × k_S)} (hd : decode Y.2.1 pc = .ok (.iastore, 1)) (kk : ∀ σ' : k_S, KO X Y (cM (k_I X) q) kc ks Q (pc + 1) L st σ' (kf σ')) : KO X Y (cM (k_I X) q) kc ks Q pc L (.int x :: .int i :: .ref (q 8) :: st) σ (k_gd i 10 (k_bn (k_sa σ 7 i x) kf)) := k_iast 8 rfl rfl hd kk
theorem k_lM9 {Rt : Type} {X : k_C} {Y : k_Y} {q : Nat → Nat} {kc ks : Nat} {Q : Rt → k_S → State → Prop} {pc : Nat} {L : List (Option Value)} {st : List Value} {σ : k_S} {o : Option (Rt × k_S)} {i : Int32} (hd : decode Y.2.1 pc = .ok (.iaload, 1)) (kk : KO X Y (cM (k_I X) q) kc ks Q (pc + 1) L (.int (σ.2 8 i.toNatClampNeg) :: st) σ o) : KO X Y (cM (k_I X) q) kc ks Q pc L (.int i :: .ref (q 9) :: st) σ (k_gd i 10 o) := k_iald 9 rfl hd kk
theorem k_sM9 {Rt : Type} {X : k_C} {Y : k_Y} {q : Nat → Nat} {kc ks : Nat} {Q : Rt → k_S → State → Prop} {pc : Nat} {L : List (Option Value)} {st : List Value} {σ : k_S} {i x : Int32} {kf : k_S → Option (Rt × k_S)} (hd : decode Y.2.1 pc = .ok (.iastore, 1)) (kk : ∀ σ' : k_S, KO X Y (cM (k_I X) q) kc ks Q (pc + 1) L st σ' (kf σ')) : KO X Y (cM (k_I X) q) kc ks Q pc L (.int x :: .int i :: .ref (q 9) :: st) σ (k_gd i 10 (k_bn (k_sa σ 8 i x) kf)) := k_iast 9 rfl rfl hd kk
theorem k_lM10 {Rt : Type} {X : k_C} {Y : k_Y} {q : Nat → Nat} {kc ks : Nat} {Q : Rt → k_S → State → Prop} {pc : Nat} {L : List (Option Value)} {st : List Value} {σ : k_S} {o : Option (Rt × k_S)} {i : Int32} (hd : decode Y.2.1 pc = .ok (.iaload, 1)) (kk : KO X Y (cM (k_I X) q) kc ks Q (pc + 1) L (.int (σ.2 9 i.toNatClampNeg) :: st) σ o) : KO X Y (cM (k_I X) q) kc ks Q pc L (.int i :: .ref (q 10) :: st) σ (k_gd i 300 o) := k_iald 10 rfl hd kk
theorem k_sM10 {Rt : Type} {X : k_C} {Y : k_Y} {q : Nat → Nat} {kc ks : Nat} {Q : Rt → k_S → State → Prop} {pc : Nat} {L : List (Option Value)} {st : List Value} {σ : k_S} {i x : Int32} {kf : k_S → Option (Rt × k_S)} (hd : decode Y.2.1 pc = .ok (.iastore, 1)) (kk : ∀ σ' : k_S, KO X Y (cM (k_I X) q) kc ks Q (pc + 1) L st σ' (kf σ')) : KO X Y (cM (k_I X) q) kc ks Q pc L (.int x :: .int i :: .ref (q 10) :: st) σ (k_gd i 300 (k_bn (k_sa σ 9 i x) kf)) := k_iast 10 rfl rfl hd kk
theorem k_lM11 {Rt : Type} {X : k_C} {Y : k_Y} {q : Nat → Nat} {kc ks : Nat} {Q : Rt → k_S → State → Prop} {pc : Nat} {L : List (Option Value)} {st : List Value} {σ : k_S} {o : Option (Rt × k_S)} {i : Int32} (hd : decode Y.2.1 pc = .ok (.iaload, 1)) (kk : KO X Y (cM (k_I X) q) kc ks Q (pc + 1) L (.int (σ.2 10 i.toNatClampNeg) :: st) σ o) : KO X Y (cM (k_I X) q) kc ks Q pc L (.int i :: .ref (q 11) :: st) σ (k_gd i 300 o) := k_iald 11 rfl hd kk
theorem k_sM11 {Rt : Type} {X : k_C} {Y : k_Y} {q : Nat → Nat} {kc ks : Nat} {Q : Rt → k_S → State → Prop} {pc : Nat} {L : List (Option Value)} {st : List Value} {σ : k_S} {i x : Int32} {kf : k_S → Option (Rt × k_S)} (hd : decode Y.2.1 pc = .ok (.iastore, 1)) (kk : ∀ σ' : k_S, KO X Y (cM (k_I X) q) kc ks Q (pc + 1) L st σ' (kf σ')) : KO X Y (cM (k_I X) q) kc ks Q pc L (.int x :: .int i :: .ref (q 11) :: st) σ (k_gd i 300 (k_bn (k_sa σ 10 i x) kf)) := k_iast 11 rfl rfl hd kk
theorem k_lM12 {Rt : Type} {X : k_C} {Y : k_Y} {q : Nat → Nat} {kc ks : Nat} {Q : Rt → k_S → State → Prop} {pc : Nat} {L : List (Option Value)} {st : List Value} {σ : k_S} {o : Option (Rt × k_S)} {i : Int32} (hd : decode Y.2.1 pc = .ok (.iaload, 1)) (kk : KO X Y (cM (k_I X) q) kc ks Q (pc + 1) L (.int (σ.2 11 i.toNatClampNeg) :: st) σ o) : KO X Y (cM (k_I X) q) kc ks Q pc L (.int i :: .ref (q 12) :: st) σ (k_gd i 5 o) := k_iald 12 rfl hd kk
theorem k_sM12 {Rt : Type} {X : k_C} {Y : k_Y} {q : Nat → Nat} {kc ks : Nat} {Q : Rt → k_S → State → Prop} {pc : Nat} {L : List (Option Value)} {st : List Value} {σ : k_S} {i x : Int32} {kf : k_S → Option (Rt × k_S)} (hd : decode Y.2.1 pc = .ok (.iastore, 1)) (kk : ∀ σ' : k_S, KO X Y (cM (k_I X) q) kc ks Q (pc + 1) L st σ' (kf σ')) : KO X Y (cM (k_I X) q) kc ks Q pc L (.int x :: .int i :: .ref (q 12) :: st) σ (k_gd i 5 (k_bn (k_sa σ 11 i x) kf)) := k_iast 12 rfl rfl hd kk
theorem k_lM13 {Rt : Type} {X : k_C} {Y : k_Y} {q : Nat → Nat} {kc ks : Nat} {Q : Rt → k_S → State → Prop} {pc : Nat} {L : List (Option Value)} {st : List Value} {σ : k_S} {o : Option (Rt × k_S)} {i : Int32} (hd : decode Y.2.1 pc = .ok (.iaload, 1)) (kk : KO X Y (cM (k_I X) q) kc ks Q (pc + 1) L (.int (σ.2 12 i.toNatClampNeg) :: st) σ o) : KO X Y (cM (k_I X) q) kc ks Q pc L (.int i :: .ref (q 13) :: st) σ (k_gd i 10 o) := k_iald 13 rfl hd kk
theorem k_sM13 {Rt : Type} {X : k_C} {Y : k_Y} {q : Nat → Nat} {kc ks : Nat} {Q : Rt → k_S → State → Prop} {pc : Nat} {L : List (Option Value)} {st : List Value} {σ : k_S} {i x : Int32} {kf : k_S → Option (Rt × k_S)} (hd : decode Y.2.1 pc = .ok (.iastore, 1)) (kk : ∀ σ' : k_S, KO X Y (cM (k_I X) q) kc ks Q (pc + 1) L st σ' (kf σ')) : KO X Y (cM (k_I X) q) kc ks Q pc L (.int x :: .int i :: .ref (q 13) :: st) σ (k_gd i 10 (k_bn (k_sa σ 12 i x) kf)) := k_iast 13 rfl rfl hd kk
theorem k_lM14 {Rt : Type} {X : k_C} {Y : k_Y} {q : Nat → Nat} {kc ks : Nat} {Q : Rt → k_S → State → Prop} {pc : Nat} {L : List (Option Value)} {st : List Value} {σ : k_S} {o : Option (Rt × k_S)} {i : Int32} (hd : decode Y.2.1 pc = .ok (.iaload, 1)) (kk : KO X Y (cM (k_I X) q) kc ks Q (pc + 1) L (.int (σ.2 13 i.toNatClampNeg) :: st) σ o) : KO X Y (cM (k_I X) q) kc ks Q pc L (.int i :: .ref (q 14) :: st) σ (k_gd i 10 o) := k_iald 14 rfl hd kk
theorem k_sM14 {Rt : Type} {X : k_C} {Y : k_Y} {q : Nat → Nat} {kc ks : Nat} {Q : Rt → k_S → State → Prop} {pc : Nat} {L : List (Option Value)} {st : List Value} {σ : k_S} {i x : Int32} {kf : k_S → Option (Rt × k_S)} (hd : decode Y.2.1 pc = .ok (.iastore, 1)) (kk : ∀ σ' : k_S, KO X Y (cM (k_I X) q) kc ks Q (pc + 1) L st σ' (kf σ')) : KO X Y (cM (k_I X) q) kc ks Q pc L (.int x :: .int i :: .ref (q 14) :: st) σ (k_gd i 10 (k_bn (k_sa σ 13 i x) kf)) := k_iast 14 rfl rfl hd kk
theorem k_lM15 {Rt : Type} {X : k_C} {Y : k_Y} {q : Nat → Nat} {kc ks : Nat} {Q : Rt → k_S → State → Prop} {pc : Nat} {L : List (Option Value)} {st : List Value} {σ : k_S} {o : Option (Rt × k_S)} {i : Int32} (hd : decode Y.2.1 pc = .ok (.iaload, 1)) (kk : KO X Y (cM (k_I X) q) kc ks Q (pc + 1) L (.int (σ.2 14 i.toNatClampNeg) :: st) σ o) : KO X Y (cM (k_I X) q) kc ks Q pc L (.int i :: .ref (q 15) :: st) σ (k_gd i 5 o) := k_iald 15 rfl hd kk
theorem k_sM15 {Rt : Type} {X : k_C} {Y : k_Y} {q : Nat → Nat} {kc ks : Nat} {Q : Rt → k_S → State → Prop} {pc : Nat} {L : List (Option Value)} {st : List Value} {σ : k_S} {i x : Int32} {kf : k_S → Option (Rt × k_S)} (hd : decode Y.2.1 pc = .ok (.iastore, 1)) (kk : ∀ σ' : k_S, KO X Y (cM (k_I X) q) kc ks Q (pc + 1) L st σ' (kf σ')) : KO X Y (cM (k_I X) q) kc ks Q pc L (.int x :: .int i :: .ref (q 15) :: st) σ (k_gd i 5 (k_bn (k_sa σ 14 i x) kf)) := k_iast 15 rfl rfl hd kk
theorem k_lM16 {Rt : Type} {X : k_C} {Y : k_Y} {q : Nat → Nat} {kc ks : Nat} {Q : Rt → k_S → State → Prop} {pc : Nat} {L : List (Option Value)} {st : List Value} {σ : k_S} {o : Option (Rt × k_S)} {i : Int32} (hd : decode Y.2.1 pc = .ok (.iaload, 1)) (kk : KO X Y (cM (k_I X) q) kc ks Q (pc + 1) L (.int (σ.2 15 i.toNatClampNeg) :: st) σ o) : KO X Y (cM (k_I X) q) kc ks Q pc L (.int i :: .ref (q 16) :: st) σ (k_gd i 5 o) := k_iald 16 rfl hd kk
theorem k_sM16 {Rt : Type} {X : k_C} {Y : k_Y} {q : Nat → Nat} {kc ks : Nat} {Q : Rt → k_S → State → Prop} {pc : Nat} {L : List (Option Value)} {st : List Value} {σ : k_S} {i x : Int32} {kf : k_S → Option (Rt × k_S)} (hd : decode Y.2.1 pc = .ok (.iastore, 1)) (kk : ∀ σ' : k_S, KO X Y (cM (k_I X) q) kc ks Q (pc + 1) L st σ' (kf σ')) : KO X Y (cM (k_I X) q) kc ks Q pc L (.int x :: .int i :: .ref (q 16) :: st) σ (k_gd i 5 (k_bn (k_sa σ 15 i x) kf)) := k_iast 16 rfl rfl hd kk
theorem k_lM17 {Rt : Type} {X : k_C} {Y : k_Y} {q : Nat → Nat} {kc ks : Nat} {Q : Rt → k_S → State → Prop} {pc : Nat} {L : List (Option Value)} {st : List Value} {σ : k_S} {o : Option (Rt × k_S)} {i : Int32} (hd : decode Y.2.1 pc = .ok (.iaload, 1)) (kk : KO X Y (cM (k_I X) q) kc ks Q (pc + 1) L (.int (σ.2 16 i.toNatClampNeg) :: st) σ o) : KO X Y (cM (k_I X) q) kc ks Q pc L (.int i :: .ref (q 17) :: st) σ (k_gd i 5 o) := k_iald 17 rfl hd kk
theorem k_sM17 {Rt : Type} {X : k_C} {Y : k_Y} {q : Nat → Nat} {kc ks : Nat} {Q : Rt → k_S → State → Prop} {pc : Nat} {L : List (Option Value)} {st : List Value} {σ : k_S} {i x : Int32} {kf : k_S → Option (Rt × k_S)} (hd : decode Y.2.1 pc = .ok (.iastore, 1)) (kk : ∀ σ' : k_S, KO X Y (cM (k_I X) q) kc ks Q (pc + 1) L st σ' (kf σ')) : KO X Y (cM (k_I X) q) kc ks Q pc L (.int x :: .int i :: .ref (q 17) :: st) σ (k_gd i 5 (k_bn (k_sa σ 16 i x) kf)) := k_iast 17 rfl rfl hd kk
theorem k_lM18 {Rt : Type} {X : k_C} {Y : k_Y} {q : Nat → Nat} {kc ks : Nat} {Q : Rt → k_S → State → Prop} {pc : Nat} {L : List (Option Value)} {st : List Value} {σ : k_S} {o : Option (Rt × k_S)} {i : Int32} (hd : decode Y.2.1 pc = .ok (.iaload, 1)) (kk : KO X Y (cM (k_I X) q) kc ks Q (pc + 1) L (.int (σ.2 17 i.toNatClampNeg) :: st) σ o) : KO X Y (cM (k_I X) q) kc ks Q pc L (.int i :: .ref (q 18) :: st) σ (k_gd i 6 o) := k_iald 18 rfl hd kk
theorem k_sM18 {Rt : Type} {X : k_C} {Y : k_Y} {q : Nat → Nat} {kc ks : Nat} {Q : Rt → k_S → State → Prop} {pc : Nat} {L : List (Option Value)} {st : List Value} {σ : k_S} {i x : Int32} {kf : k_S → Option (Rt × k_S)} (hd : decode Y.2.1 pc = .ok (.iastore, 1)) (kk : ∀ σ' : k_S, KO X Y (cM (k_I X) q) kc ks Q (pc + 1) L st σ' (kf σ')) : KO X Y (cM (k_I X) q) kc ks Q pc L (.int x :: .int i :: .ref (q 18) :: st) σ (k_gd i 6 (k_bn (k_sa σ 17 i x) kf)) := k_iast 18 rfl rfl hd kk
theorem k_lM19 {Rt : Type} {X : k_C} {Y : k_Y} {q : Nat → Nat} {kc ks : Nat} {Q : Rt → k_S → State → Prop} {pc : Nat} {L : List (Option Value)} {st : List Value} {σ : k_S} {o : Option (Rt × k_S)} {i : Int32} (hd : decode Y.2.1 pc = .ok (.iaload, 1)) (kk : KO X Y (cM (k_I X) q) kc ks Q (pc + 1) L (.int (σ.2 18 i.toNatClampNeg) :: st) σ o) : KO X Y (cM (k_I X) q) kc ks Q pc L (.int i :: .ref (q 19) :: st) σ (k_gd i 6 o) := k_iald 19 rfl hd kk
theorem k_sM19 {Rt : Type} {X : k_C} {Y : k_Y} {q : Nat → Nat} {kc ks : Nat} {Q : Rt → k_S → State → Prop} {pc : Nat} {L : List (Option Value)} {st : List Value} {σ : k_S} {i x : Int32} {kf : k_S → Option (Rt × k_S)} (hd : decode Y.2.1 pc = .ok (.iastore, 1)) (kk : ∀ σ' : k_S, KO X Y (cM (k_I X) q) kc ks Q (pc + 1) L st σ' (kf σ')) : KO X Y (cM (k_I X) q) kc ks Q pc L (.int x :: .int i :: .ref (q 19) :: st) σ (k_gd i 6 (k_bn (k_sa σ 18 i x) kf)) := k_iast 19 rfl rfl hd kk
end
section
/-! ===== decode rows (printed) ===== -/
theorem dJ9_max_7cf53_0 : decode cJ9_max_7cf53 0 = .ok (.iload_n 0, 1) := by decide +kernel
theorem dJ9_max_7cf53_1 : decode cJ9_max_7cf53 1 = .ok (.iload_n 1, 1) := by decide +kernel
theorem dJ9_max_7cf53_2 : decode cJ9_max_7cf53 2 = .ok (.if_icmp .lt 7, 3) := by decide +kernel
theorem dJ9_max_7cf53_5 : decode cJ9_max_7cf53 5 = .ok (.iload_n 0, 1) := by decide +kernel
theorem dJ9_max_7cf53_6 : decode cJ9_max_7cf53 6 = .ok (.goto 4, 3) := by decide +kernel
theorem dJ9_max_7cf53_9 : decode cJ9_max_7cf53 9 = .ok (.iload_n 1, 1) := by decide +kernel
theorem dJ9_max_7cf53_10 : decode cJ9_max_7cf53 10 = .ok (.ireturn, 1) := by decide +kernel
theorem dJ7_rangeCheck_23922_0 : decode cJ7_rangeCheck_23922 0 = .ok (.iload_n 1, 1) := by decide +kernel
theorem dJ7_rangeCheck_23922_1 : decode cJ7_rangeCheck_23922 1 = .ok (.iload_n 2, 1) := by decide +kernel
theorem dJ7_rangeCheck_23922_2 : decode cJ7_rangeCheck_23922 2 = .ok (.if_icmp .le 44, 3) := by decide +kernel
theorem dJ7_rangeCheck_23922_5 : decode cJ7_rangeCheck_23922 5 = .ok (.new 43, 3) := by decide +kernel
theorem dJ7_rangeCheck_23922_8 : decode cJ7_rangeCheck_23922 8 = .ok (.dup, 1) := by decide +kernel
theorem dJ7_rangeCheck_23922_9 : decode cJ7_rangeCheck_23922 9 = .ok (.new 45, 3) := by decide +kernel
theorem dJ7_rangeCheck_23922_12 : decode cJ7_rangeCheck_23922 12 = .ok (.dup, 1) := by decide +kernel
theorem dJ7_rangeCheck_23922_13 : decode cJ7_rangeCheck_23922 13 = .ok (.invokespecial 47, 3) := by decide +kernel
theorem dJ7_rangeCheck_23922_16 : decode cJ7_rangeCheck_23922 16 = .ok (.ldc 48, 2) := by decide +kernel
theorem dJ7_rangeCheck_23922_18 : decode cJ7_rangeCheck_23922 18 = .ok (.invokevirtual 50, 3) := by decide +kernel
theorem dJ7_rangeCheck_23922_21 : decode cJ7_rangeCheck_23922 21 = .ok (.iload_n 1, 1) := by decide +kernel
theorem dJ7_rangeCheck_23922_22 : decode cJ7_rangeCheck_23922 22 = .ok (.invokevirtual 54, 3) := by decide +kernel
theorem dJ7_rangeCheck_23922_25 : decode cJ7_rangeCheck_23922 25 = .ok (.ldc 57, 2) := by decide +kernel
theorem dJ7_rangeCheck_23922_27 : decode cJ7_rangeCheck_23922 27 = .ok (.invokevirtual 50, 3) := by decide +kernel
theorem dJ7_rangeCheck_23922_30 : decode cJ7_rangeCheck_23922 30 = .ok (.iload_n 2, 1) := by decide +kernel
theorem dJ7_rangeCheck_23922_31 : decode cJ7_rangeCheck_23922 31 = .ok (.invokevirtual 54, 3) := by decide +kernel
theorem dJ7_rangeCheck_23922_34 : decode cJ7_rangeCheck_23922 34 = .ok (.ldc 59, 2) := by decide +kernel
theorem dJ7_rangeCheck_23922_36 : decode cJ7_rangeCheck_23922 36 = .ok (.invokevirtual 50, 3) := by decide +kernel
theorem dJ7_rangeCheck_23922_39 : decode cJ7_rangeCheck_23922 39 = .ok (.invokevirtual 61, 3) := by decide +kernel
theorem dJ7_rangeCheck_23922_42 : decode cJ7_rangeCheck_23922 42 = .ok (.invokespecial 65, 3) := by decide +kernel
theorem dJ7_rangeCheck_23922_45 : decode cJ7_rangeCheck_23922 45 = .ok (.athrow, 1) := by decide +kernel
theorem dJ7_rangeCheck_23922_46 : decode cJ7_rangeCheck_23922 46 = .ok (.iload_n 1, 1) := by decide +kernel
theorem dJ7_rangeCheck_23922_47 : decode cJ7_rangeCheck_23922 47 = .ok (.ifCond .ge 12, 3) := by decide +kernel
theorem dJ7_rangeCheck_23922_50 : decode cJ7_rangeCheck_23922 50 = .ok (.new 68, 3) := by decide +kernel
theorem dJ7_rangeCheck_23922_53 : decode cJ7_rangeCheck_23922 53 = .ok (.dup, 1) := by decide +kernel
theorem dJ7_rangeCheck_23922_54 : decode cJ7_rangeCheck_23922 54 = .ok (.iload_n 1, 1) := by decide +kernel
theorem dJ7_rangeCheck_23922_55 : decode cJ7_rangeCheck_23922 55 = .ok (.invokespecial 70, 3) := by decide +kernel
theorem dJ7_rangeCheck_23922_58 : decode cJ7_rangeCheck_23922 58 = .ok (.athrow, 1) := by decide +kernel
theorem dJ7_rangeCheck_23922_59 : decode cJ7_rangeCheck_23922 59 = .ok (.iload_n 2, 1) := by decide +kernel
theorem dJ7_rangeCheck_23922_60 : decode cJ7_rangeCheck_23922 60 = .ok (.iload_n 0, 1) := by decide +kernel
theorem dJ7_rangeCheck_23922_61 : decode cJ7_rangeCheck_23922 61 = .ok (.if_icmp .le 12, 3) := by decide +kernel
theorem dJ7_rangeCheck_23922_64 : decode cJ7_rangeCheck_23922 64 = .ok (.new 68, 3) := by decide +kernel
theorem dJ7_rangeCheck_23922_67 : decode cJ7_rangeCheck_23922 67 = .ok (.dup, 1) := by decide +kernel
theorem dJ7_rangeCheck_23922_68 : decode cJ7_rangeCheck_23922 68 = .ok (.iload_n 2, 1) := by decide +kernel
theorem dJ7_rangeCheck_23922_69 : decode cJ7_rangeCheck_23922 69 = .ok (.invokespecial 70, 3) := by decide +kernel
theorem dJ7_rangeCheck_23922_72 : decode cJ7_rangeCheck_23922 72 = .ok (.athrow, 1) := by decide +kernel
theorem dJ7_rangeCheck_23922_73 : decode cJ7_rangeCheck_23922 73 = .ok (.return_, 1) := by decide +kernel
theorem dJ7_fill_53178_0 : decode cJ7_fill_53178 0 = .ok (.iconst 0, 1) := by decide +kernel
theorem dJ7_fill_53178_1 : decode cJ7_fill_53178 1 = .ok (.istore_n 2, 1) := by decide +kernel
theorem dJ7_fill_53178_2 : decode cJ7_fill_53178 2 = .ok (.aload_n 0, 1) := by decide +kernel
theorem dJ7_fill_53178_3 : decode cJ7_fill_53178 3 = .ok (.arraylength, 1) := by decide +kernel
theorem dJ7_fill_53178_4 : decode cJ7_fill_53178 4 = .ok (.istore_n 3, 1) := by decide +kernel
theorem dJ7_fill_53178_5 : decode cJ7_fill_53178 5 = .ok (.iload_n 2, 1) := by decide +kernel
theorem dJ7_fill_53178_6 : decode cJ7_fill_53178 6 = .ok (.iload_n 3, 1) := by decide +kernel
theorem dJ7_fill_53178_7 : decode cJ7_fill_53178 7 = .ok (.if_icmp .ge 13, 3) := by decide +kernel
theorem dJ7_fill_53178_10 : decode cJ7_fill_53178 10 = .ok (.aload_n 0, 1) := by decide +kernel
theorem dJ7_fill_53178_11 : decode cJ7_fill_53178 11 = .ok (.iload_n 2, 1) := by decide +kernel
theorem dJ7_fill_53178_12 : decode cJ7_fill_53178 12 = .ok (.iload_n 1, 1) := by decide +kernel
theorem dJ7_fill_53178_13 : decode cJ7_fill_53178 13 = .ok (.iastore, 1) := by decide +kernel
theorem dJ7_fill_53178_14 : decode cJ7_fill_53178 14 = .ok (.iinc 2 1, 3) := by decide +kernel
theorem dJ7_fill_53178_17 : decode cJ7_fill_53178 17 = .ok (.goto (-12), 3) := by decide +kernel
theorem dJ7_fill_53178_20 : decode cJ7_fill_53178 20 = .ok (.return_, 1) := by decide +kernel
theorem dJ7_fill_fda19_0 : decode cJ7_fill_fda19 0 = .ok (.aload_n 0, 1) := by decide +kernel
theorem dJ7_fill_fda19_1 : decode cJ7_fill_fda19 1 = .ok (.arraylength, 1) := by decide +kernel
theorem dJ7_fill_fda19_2 : decode cJ7_fill_fda19 2 = .ok (.iload_n 1, 1) := by decide +kernel
theorem dJ7_fill_fda19_3 : decode cJ7_fill_fda19 3 = .ok (.iload_n 2, 1) := by decide +kernel
theorem dJ7_fill_fda19_4 : decode cJ7_fill_fda19 4 = .ok (.invokestatic 13, 3) := by decide +kernel
theorem dJ7_fill_fda19_7 : decode cJ7_fill_fda19 7 = .ok (.iload_n 1, 1) := by decide +kernel
theorem dJ7_fill_fda19_8 : decode cJ7_fill_fda19 8 = .ok (.istore 4, 2) := by decide +kernel
theorem dJ7_fill_fda19_10 : decode cJ7_fill_fda19 10 = .ok (.iload 4, 2) := by decide +kernel
theorem dJ7_fill_fda19_12 : decode cJ7_fill_fda19 12 = .ok (.iload_n 2, 1) := by decide +kernel
theorem dJ7_fill_fda19_13 : decode cJ7_fill_fda19 13 = .ok (.if_icmp .ge 14, 3) := by decide +kernel
theorem dJ7_fill_fda19_16 : decode cJ7_fill_fda19 16 = .ok (.aload_n 0, 1) := by decide +kernel
theorem dJ7_fill_fda19_17 : decode cJ7_fill_fda19 17 = .ok (.iload 4, 2) := by decide +kernel
theorem dJ7_fill_fda19_19 : decode cJ7_fill_fda19 19 = .ok (.iload_n 3, 1) := by decide +kernel
theorem dJ7_fill_fda19_20 : decode cJ7_fill_fda19 20 = .ok (.iastore, 1) := by decide +kernel
theorem dJ7_fill_fda19_21 : decode cJ7_fill_fda19 21 = .ok (.iinc 4 1, 3) := by decide +kernel
theorem dJ7_fill_fda19_24 : decode cJ7_fill_fda19 24 = .ok (.goto (-14), 3) := by decide +kernel
theorem dJ7_fill_fda19_27 : decode cJ7_fill_fda19 27 = .ok (.return_, 1) := by decide +kernel
end
section
/-! ===== k, fourth part: calls in the same world, the fuel, Arrays.fill (by program: wip/gen/k4.py) ===== -/
noncomputable def k_F : Nat := Classical.choose (⟨1000000000, Nat.le_refl _⟩ : ∃ n : Nat, 1000000000 ≤ n)
theorem k_F_ge : 1000000000 ≤ k_F := Classical.choose_spec (⟨1000000000, Nat.le_refl _⟩ : ∃ n : Nat, 1000000000 ≤ n)
def k_fl (f : Nat → Int32) (lo hi : Nat) (v : Int32) : Nat → Int32 := fun j => if lo ≤ j ∧ j < hi then v else f j
def k_gf {α : Type} (lo hi : Int32) (n : Nat) (o : Option α) : Option α := if hi < lo ∨ lo < 0 ∨ nI n < hi then none else o
section KR4
variable {S Rt : Type} {X : k_C} {Y : k_Y} {cw : S → va_W} {kc ks : Nat} {Q : Rt → S → State → Prop} {pc pc' : Nat} {L L' : List (Option Value)} {st st' : List Value} {σ : S} {o o1 o2 : Option (Rt × S)}
theorem k_vi0 {y : MethodName} {bytes : ByteArray} {maxL : Nat} {ret : Option FieldType} {index : Nat} {rm : Room} {b : Nat} {f : Option (Int32 × S)} {kf : Int32 → S → Option (Rt × S)} (hs : k_same cw) (hok : k_Vok y bytes maxL ret 0) (hm : Cond.methodLink Y.2.2.2.1 index y ∈ k_ws) (hrv : ∃ (k ci : Nat) (fs : List Value) (q : vw_C), (cw σ)[k]? = some (b, .inr (ci, fs)) ∧ vwCl[ci]? = some q ∧ q.1 = y.cls) (hrm : rm.cells = 0 ∧ rm.slots = 0) (hR : rm.frames + 1 ≤ Y.1.frames ∧ 8 + (maxL + 11) + rm.locals ≤ Y.1.locals) (hk : kc ≤ Y.1.cells ∧ ks ≤ Y.1.slots) (hcat : (st.map fun v => v.category).sum ≤ 8) (hd : decode Y.2.1 pc = .ok (.invokevirtual index, 3)) (hM : ∀ r τ, f = some (r, τ) → k_Ct k_ei y bytes maxL ret rm cw (k_D X) (k_I X) (.ref b :: []) σ r τ) (kk : ∀ r τ, KO X Y cw kc ks Q (pc + 3) L (.int r :: st) τ (kf r τ)) : KO X Y cw kc ks Q pc L (.ref b :: st) σ (k_ob f kf) := k_callV (As := []) (k_In.id hs σ) hok hm hrv rfl hrm hR hk hcat hd rfl hM kk
theorem k_si0 {y : MethodName} {bytes : ByteArray} {maxL : Nat} {ret : Option FieldType} {index : Nat} {rm : Room} {f : Option (Int32 × S)} {kf : Int32 → S → Option (Rt × S)} (hs : k_same cw) (hok : k_Sok y bytes maxL ret 0) (hm : Cond.methodLink Y.2.2.2.1 index y ∈ k_ws) (hrm : rm.cells = 0 ∧ rm.slots = 0) (hR : rm.frames + 1 ≤ Y.1.frames ∧ 8 + (maxL + 11) + rm.locals ≤ Y.1.locals) (hk : kc ≤ Y.1.cells ∧ ks ≤ Y.1.slots) (hcat : (st.map fun v => v.category).sum ≤ 8) (hd : decode Y.2.1 pc = .ok (.invokestatic index, 3)) (hM : ∀ r τ, f = some (r, τ) → k_Ct k_ei y bytes maxL ret rm cw (k_D X) (k_I X) [] σ r τ) (kk : ∀ r τ, KO X Y cw kc ks Q (pc + 3) L (.int r :: st) τ (kf r τ)) : KO X Y cw kc ks Q pc L (st) σ (k_ob f kf) := k_callS (As := []) (k_In.id hs σ) hok hm rfl hrm hR hk hcat hd rfl hM kk
theorem k_vv0 {y : MethodName} {bytes : ByteArray} {maxL : Nat} {ret : Option FieldType} {index : Nat} {rm : Room} {b : Nat} {f : Option (Unit × S)} {kf : Unit → S → Option (Rt × S)} (hs : k_same cw) (hok : k_Vok y bytes maxL ret 0) (hm : Cond.methodLink Y.2.2.2.1 index y ∈ k_ws) (hrv : ∃ (k ci : Nat) (fs : List Value) (q : vw_C), (cw σ)[k]? = some (b, .inr (ci, fs)) ∧ vwCl[ci]? = some q ∧ q.1 = y.cls) (hrm : rm.cells = 0 ∧ rm.slots = 0) (hR : rm.frames + 1 ≤ Y.1.frames ∧ 8 + (maxL + 11) + rm.locals ≤ Y.1.locals) (hk : kc ≤ Y.1.cells ∧ ks ≤ Y.1.slots) (hcat : (st.map fun v => v.category).sum ≤ 8) (hd : decode Y.2.1 pc = .ok (.invokevirtual index, 3)) (hM : ∀ r τ, f = some (r, τ) → k_Ct k_ev y bytes maxL ret rm cw (k_D X) (k_I X) (.ref b :: []) σ r τ) (kk : ∀ r τ, KO X Y cw kc ks Q (pc + 3) L (st) τ (kf r τ)) : KO X Y cw kc ks Q pc L (.ref b :: st) σ (k_ob f kf) := k_callV (As := []) (k_In.id hs σ) hok hm hrv rfl hrm hR hk hcat hd rfl hM kk
theorem k_sv0 {y : MethodName} {bytes : ByteArray} {maxL : Nat} {ret : Option FieldType} {index : Nat} {rm : Room} {f : Option (Unit × S)} {kf : Unit → S → Option (Rt × S)} (hs : k_same cw) (hok : k_Sok y bytes maxL ret 0) (hm : Cond.methodLink Y.2.2.2.1 index y ∈ k_ws) (hrm : rm.cells = 0 ∧ rm.slots = 0) (hR : rm.frames + 1 ≤ Y.1.frames ∧ 8 + (maxL + 11) + rm.locals ≤ Y.1.locals) (hk : kc ≤ Y.1.cells ∧ ks ≤ Y.1.slots) (hcat : (st.map fun v => v.category).sum ≤ 8) (hd : decode Y.2.1 pc = .ok (.invokestatic index, 3)) (hM : ∀ r τ, f = some (r, τ) → k_Ct k_ev y bytes maxL ret rm cw (k_D X) (k_I X) [] σ r τ) (kk : ∀ r τ, KO X Y cw kc ks Q (pc + 3) L (st) τ (kf r τ)) : KO X Y cw kc ks Q pc L (st) σ (k_ob f kf) := k_callS (As := []) (k_In.id hs σ) hok hm rfl hrm hR hk hcat hd rfl hM kk
theorem k_vi1 {y : MethodName} {bytes : ByteArray} {maxL : Nat} {ret : Option FieldType} {index : Nat} {rm : Room} {b : Nat} {v1 : Value} {f : Option (Int32 × S)} {kf : Int32 → S → Option (Rt × S)} (hs : k_same cw) (hok : k_Vok y bytes maxL ret 1) (hm : Cond.methodLink Y.2.2.2.1 index y ∈ k_ws) (hrv : ∃ (k ci : Nat) (fs : List Value) (q : vw_C), (cw σ)[k]? = some (b, .inr (ci, fs)) ∧ vwCl[ci]? = some q ∧ q.1 = y.cls) (hrm : rm.cells = 0 ∧ rm.slots = 0) (hR : rm.frames + 1 ≤ Y.1.frames ∧ 8 + (maxL + 11) + rm.locals ≤ Y.1.locals) (hk : kc ≤ Y.1.cells ∧ ks ≤ Y.1.slots) (hcat : (st.map fun v => v.category).sum ≤ 8) (hd : decode Y.2.1 pc = .ok (.invokevirtual index, 3)) (hM : ∀ r τ, f = some (r, τ) → k_Ct k_ei y bytes maxL ret rm cw (k_D X) (k_I X) (.ref b :: [v1]) σ r τ) (kk : ∀ r τ, KO X Y cw kc ks Q (pc + 3) L (.int r :: st) τ (kf r τ)) : KO X Y cw kc ks Q pc L (v1 :: .ref b :: st) σ (k_ob f kf) := k_callV (As := [v1]) (k_In.id hs σ) hok hm hrv rfl hrm hR hk hcat hd rfl hM kk
theorem k_si1 {y : MethodName} {bytes : ByteArray} {maxL : Nat} {ret : Option FieldType} {index : Nat} {rm : Room} {v1 : Value} {f : Option (Int32 × S)} {kf : Int32 → S → Option (Rt × S)} (hs : k_same cw) (hok : k_Sok y bytes maxL ret 1) (hm : Cond.methodLink Y.2.2.2.1 index y ∈ k_ws) (hrm : rm.cells = 0 ∧ rm.slots = 0) (hR : rm.frames + 1 ≤ Y.1.frames ∧ 8 + (maxL + 11) + rm.locals ≤ Y.1.locals) (hk : kc ≤ Y.1.cells ∧ ks ≤ Y.1.slots) (hcat : (st.map fun v => v.category).sum ≤ 8) (hd : decode Y.2.1 pc = .ok (.invokestatic index, 3)) (hM : ∀ r τ, f = some (r, τ) → k_Ct k_ei y bytes maxL ret rm cw (k_D X) (k_I X) [v1] σ r τ) (kk : ∀ r τ, KO X Y cw kc ks Q (pc + 3) L (.int r :: st) τ (kf r τ)) : KO X Y cw kc ks Q pc L (v1 :: st) σ (k_ob f kf) := k_callS (As := [v1]) (k_In.id hs σ) hok hm rfl hrm hR hk hcat hd rfl hM kk
theorem k_vv1 {y : MethodName} {bytes : ByteArray} {maxL : Nat} {ret : Option FieldType} {index : Nat} {rm : Room} {b : Nat} {v1 : Value} {f : Option (Unit × S)} {kf : Unit → S → Option (Rt × S)} (hs : k_same cw) (hok : k_Vok y bytes maxL ret 1) (hm : Cond.methodLink Y.2.2.2.1 index y ∈ k_ws) (hrv : ∃ (k ci : Nat) (fs : List Value) (q : vw_C), (cw σ)[k]? = some (b, .inr (ci, fs)) ∧ vwCl[ci]? = some q ∧ q.1 = y.cls) (hrm : rm.cells = 0 ∧ rm.slots = 0) (hR : rm.frames + 1 ≤ Y.1.frames ∧ 8 + (maxL + 11) + rm.locals ≤ Y.1.locals) (hk : kc ≤ Y.1.cells ∧ ks ≤ Y.1.slots) (hcat : (st.map fun v => v.category).sum ≤ 8) (hd : decode Y.2.1 pc = .ok (.invokevirtual index, 3)) (hM : ∀ r τ, f = some (r, τ) → k_Ct k_ev y bytes maxL ret rm cw (k_D X) (k_I X) (.ref b :: [v1]) σ r τ) (kk : ∀ r τ, KO X Y cw kc ks Q (pc + 3) L (st) τ (kf r τ)) : KO X Y cw kc ks Q pc L (v1 :: .ref b :: st) σ (k_ob f kf) := k_callV (As := [v1]) (k_In.id hs σ) hok hm hrv rfl hrm hR hk hcat hd rfl hM kk
theorem k_sv1 {y : MethodName} {bytes : ByteArray} {maxL : Nat} {ret : Option FieldType} {index : Nat} {rm : Room} {v1 : Value} {f : Option (Unit × S)} {kf : Unit → S → Option (Rt × S)} (hs : k_same cw) (hok : k_Sok y bytes maxL ret 1) (hm : Cond.methodLink Y.2.2.2.1 index y ∈ k_ws) (hrm : rm.cells = 0 ∧ rm.slots = 0) (hR : rm.frames + 1 ≤ Y.1.frames ∧ 8 + (maxL + 11) + rm.locals ≤ Y.1.locals) (hk : kc ≤ Y.1.cells ∧ ks ≤ Y.1.slots) (hcat : (st.map fun v => v.category).sum ≤ 8) (hd : decode Y.2.1 pc = .ok (.invokestatic index, 3)) (hM : ∀ r τ, f = some (r, τ) → k_Ct k_ev y bytes maxL ret rm cw (k_D X) (k_I X) [v1] σ r τ) (kk : ∀ r τ, KO X Y cw kc ks Q (pc + 3) L (st) τ (kf r τ)) : KO X Y cw kc ks Q pc L (v1 :: st) σ (k_ob f kf) := k_callS (As := [v1]) (k_In.id hs σ) hok hm rfl hrm hR hk hcat hd rfl hM kk
theorem k_vl1 {y : MethodName} {bytes : ByteArray} {maxL : Nat} {ret : Option FieldType} {index : Nat} {rm : Room} {b : Nat} {v1 : Value} {f : Option (Int64 × S)} {kf : Int64 → S → Option (Rt × S)} (hs : k_same cw) (hok : k_Vok y bytes maxL ret 1) (hm : Cond.methodLink Y.2.2.2.1 index y ∈ k_ws) (hrv : ∃ (k ci : Nat) (fs : List Value) (q : vw_C), (cw σ)[k]? = some (b, .inr (ci, fs)) ∧ vwCl[ci]? = some q ∧ q.1 = y.cls) (hrm : rm.cells = 0 ∧ rm.slots = 0) (hR : rm.frames + 1 ≤ Y.1.frames ∧ 8 + (maxL + 11) + rm.locals ≤ Y.1.locals) (hk : kc ≤ Y.1.cells ∧ ks ≤ Y.1.slots) (hcat : (st.map fun v => v.category).sum ≤ 8) (hd : decode Y.2.1 pc = .ok (.invokevirtual index, 3)) (hM : ∀ r τ, f = some (r, τ) → k_Ct k_el y bytes maxL ret rm cw (k_D X) (k_I X) (.ref b :: [v1]) σ r τ) (kk : ∀ r τ, KO X Y cw kc ks Q (pc + 3) L (.long r :: st) τ (kf r τ)) : KO X Y cw kc ks Q pc L (v1 :: .ref b :: st) σ (k_ob f kf) := k_callV (As := [v1]) (k_In.id hs σ) hok hm hrv rfl hrm hR hk hcat hd rfl hM kk
theorem k_sl1 {y : MethodName} {bytes : ByteArray} {maxL : Nat} {ret : Option FieldType} {index : Nat} {rm : Room} {v1 : Value} {f : Option (Int64 × S)} {kf : Int64 → S → Option (Rt × S)} (hs : k_same cw) (hok : k_Sok y bytes maxL ret 1) (hm : Cond.methodLink Y.2.2.2.1 index y ∈ k_ws) (hrm : rm.cells = 0 ∧ rm.slots = 0) (hR : rm.frames + 1 ≤ Y.1.frames ∧ 8 + (maxL + 11) + rm.locals ≤ Y.1.locals) (hk : kc ≤ Y.1.cells ∧ ks ≤ Y.1.slots) (hcat : (st.map fun v => v.category).sum ≤ 8) (hd : decode Y.2.1 pc = .ok (.invokestatic index, 3)) (hM : ∀ r τ, f = some (r, τ) → k_Ct k_el y bytes maxL ret rm cw (k_D X) (k_I X) [v1] σ r τ) (kk : ∀ r τ, KO X Y cw kc ks Q (pc + 3) L (.long r :: st) τ (kf r τ)) : KO X Y cw kc ks Q pc L (v1 :: st) σ (k_ob f kf) := k_callS (As := [v1]) (k_In.id hs σ) hok hm rfl hrm hR hk hcat hd rfl hM kk
theorem k_vi2 {y : MethodName} {bytes : ByteArray} {maxL : Nat} {ret : Option FieldType} {index : Nat} {rm : Room} {b : Nat} {v1 v2 : Value} {f : Option (Int32 × S)} {kf : Int32 → S → Option (Rt × S)} (hs : k_same cw) (hok : k_Vok y bytes maxL ret 2) (hm : Cond.methodLink Y.2.2.2.1 index y ∈ k_ws) (hrv : ∃ (k ci : Nat) (fs : List Value) (q : vw_C), (cw σ)[k]? = some (b, .inr (ci, fs)) ∧ vwCl[ci]? = some q ∧ q.1 = y.cls) (hrm : rm.cells = 0 ∧ rm.slots = 0) (hR : rm.frames + 1 ≤ Y.1.frames ∧ 8 + (maxL + 11) + rm.locals ≤ Y.1.locals) (hk : kc ≤ Y.1.cells ∧ ks ≤ Y.1.slots) (hcat : (st.map fun v => v.category).sum ≤ 8) (hd : decode Y.2.1 pc = .ok (.invokevirtual index, 3)) (hM : ∀ r τ, f = some (r, τ) → k_Ct k_ei y bytes maxL ret rm cw (k_D X) (k_I X) (.ref b :: [v1, v2]) σ r τ) (kk : ∀ r τ, KO X Y cw kc ks Q (pc + 3) L (.int r :: st) τ (kf r τ)) : KO X Y cw kc ks Q pc L (v2 :: v1 :: .ref b :: st) σ (k_ob f kf) := k_callV (As := [v1, v2]) (k_In.id hs σ) hok hm hrv rfl hrm hR hk hcat hd rfl hM kk
theorem k_si2 {y : MethodName} {bytes : ByteArray} {maxL : Nat} {ret : Option FieldType} {index : Nat} {rm : Room} {v1 v2 : Value} {f : Option (Int32 × S)} {kf : Int32 → S → Option (Rt × S)} (hs : k_same cw) (hok : k_Sok y bytes maxL ret 2) (hm : Cond.methodLink Y.2.2.2.1 index y ∈ k_ws) (hrm : rm.cells = 0 ∧ rm.slots = 0) (hR : rm.frames + 1 ≤ Y.1.frames ∧ 8 + (maxL + 11) + rm.locals ≤ Y.1.locals) (hk : kc ≤ Y.1.cells ∧ ks ≤ Y.1.slots) (hcat : (st.map fun v => v.category).sum ≤ 8) (hd : decode Y.2.1 pc = .ok (.invokestatic index, 3)) (hM : ∀ r τ, f = some (r, τ) → k_Ct k_ei y bytes maxL ret rm cw (k_D X) (k_I X) [v1, v2] σ r τ) (kk : ∀ r τ, KO X Y cw kc ks Q (pc + 3) L (.int r :: st) τ (kf r τ)) : KO X Y cw kc ks Q pc L (v2 :: v1 :: st) σ (k_ob f kf) := k_callS (As := [v1, v2]) (k_In.id hs σ) hok hm rfl hrm hR hk hcat hd rfl hM kk
theorem k_vv2 {y : MethodName} {bytes : ByteArray} {maxL : Nat} {ret : Option FieldType} {index : Nat} {rm : Room} {b : Nat} {v1 v2 : Value} {f : Option (Unit × S)} {kf : Unit → S → Option (Rt × S)} (hs : k_same cw) (hok : k_Vok y bytes maxL ret 2) (hm : Cond.methodLink Y.2.2.2.1 index y ∈ k_ws) (hrv : ∃ (k ci : Nat) (fs : List Value) (q : vw_C), (cw σ)[k]? = some (b, .inr (ci, fs)) ∧ vwCl[ci]? = some q ∧ q.1 = y.cls) (hrm : rm.cells = 0 ∧ rm.slots = 0) (hR : rm.frames + 1 ≤ Y.1.frames ∧ 8 + (maxL + 11) + rm.locals ≤ Y.1.locals) (hk : kc ≤ Y.1.cells ∧ ks ≤ Y.1.slots) (hcat : (st.map fun v => v.category).sum ≤ 8) (hd : decode Y.2.1 pc = .ok (.invokevirtual index, 3)) (hM : ∀ r τ, f = some (r, τ) → k_Ct k_ev y bytes maxL ret rm cw (k_D X) (k_I X) (.ref b :: [v1, v2]) σ r τ) (kk : ∀ r τ, KO X Y cw kc ks Q (pc + 3) L (st) τ (kf r τ)) : KO X Y cw kc ks Q pc L (v2 :: v1 :: .ref b :: st) σ (k_ob f kf) := k_callV (As := [v1, v2]) (k_In.id hs σ) hok hm hrv rfl hrm hR hk hcat hd rfl hM kk
theorem k_sv2 {y : MethodName} {bytes : ByteArray} {maxL : Nat} {ret : Option FieldType} {index : Nat} {rm : Room} {v1 v2 : Value} {f : Option (Unit × S)} {kf : Unit → S → Option (Rt × S)} (hs : k_same cw) (hok : k_Sok y bytes maxL ret 2) (hm : Cond.methodLink Y.2.2.2.1 index y ∈ k_ws) (hrm : rm.cells = 0 ∧ rm.slots = 0) (hR : rm.frames + 1 ≤ Y.1.frames ∧ 8 + (maxL + 11) + rm.locals ≤ Y.1.locals) (hk : kc ≤ Y.1.cells ∧ ks ≤ Y.1.slots) (hcat : (st.map fun v => v.category).sum ≤ 8) (hd : decode Y.2.1 pc = .ok (.invokestatic index, 3)) (hM : ∀ r τ, f = some (r, τ) → k_Ct k_ev y bytes maxL ret rm cw (k_D X) (k_I X) [v1, v2] σ r τ) (kk : ∀ r τ, KO X Y cw kc ks Q (pc + 3) L (st) τ (kf r τ)) : KO X Y cw kc ks Q pc L (v2 :: v1 :: st) σ (k_ob f kf) := k_callS (As := [v1, v2]) (k_In.id hs σ) hok hm rfl hrm hR hk hcat hd rfl hM kk
theorem k_vi3 {y : MethodName} {bytes : ByteArray} {maxL : Nat} {ret : Option FieldType} {index : Nat} {rm : Room} {b : Nat} {v1 v2 v3 : Value} {f : Option (Int32 × S)} {kf : Int32 → S → Option (Rt × S)} (hs : k_same cw) (hok : k_Vok y bytes maxL ret 3) (hm : Cond.methodLink Y.2.2.2.1 index y ∈ k_ws) (hrv : ∃ (k ci : Nat) (fs : List Value) (q : vw_C), (cw σ)[k]? = some (b, .inr (ci, fs)) ∧ vwCl[ci]? = some q ∧ q.1 = y.cls) (hrm : rm.cells = 0 ∧ rm.slots = 0) (hR : rm.frames + 1 ≤ Y.1.frames ∧ 8 + (maxL + 11) + rm.locals ≤ Y.1.locals) (hk : kc ≤ Y.1.cells ∧ ks ≤ Y.1.slots) (hcat : (st.map fun v => v.category).sum ≤ 8) (hd : decode Y.2.1 pc = .ok (.invokevirtual index, 3)) (hM : ∀ r τ, f = some (r, τ) → k_Ct k_ei y bytes maxL ret rm cw (k_D X) (k_I X) (.ref b :: [v1, v2, v3]) σ r τ) (kk : ∀ r τ, KO X Y cw kc ks Q (pc + 3) L (.int r :: st) τ (kf r τ)) : KO X Y cw kc ks Q pc L (v3 :: v2 :: v1 :: .ref b :: st) σ (k_ob f kf) := k_callV (As := [v1, v2, v3]) (k_In.id hs σ) hok hm hrv rfl hrm hR hk hcat hd rfl hM kk
theorem k_si3 {y : MethodName} {bytes : ByteArray} {maxL : Nat} {ret : Option FieldType} {index : Nat} {rm : Room} {v1 v2 v3 : Value} {f : Option (Int32 × S)} {kf : Int32 → S → Option (Rt × S)} (hs : k_same cw) (hok : k_Sok y bytes maxL ret 3) (hm : Cond.methodLink Y.2.2.2.1 index y ∈ k_ws) (hrm : rm.cells = 0 ∧ rm.slots = 0) (hR : rm.frames + 1 ≤ Y.1.frames ∧ 8 + (maxL + 11) + rm.locals ≤ Y.1.locals) (hk : kc ≤ Y.1.cells ∧ ks ≤ Y.1.slots) (hcat : (st.map fun v => v.category).sum ≤ 8) (hd : decode Y.2.1 pc = .ok (.invokestatic index, 3)) (hM : ∀ r τ, f = some (r, τ) → k_Ct k_ei y bytes maxL ret rm cw (k_D X) (k_I X) [v1, v2, v3] σ r τ) (kk : ∀ r τ, KO X Y cw kc ks Q (pc + 3) L (.int r :: st) τ (kf r τ)) : KO X Y cw kc ks Q pc L (v3 :: v2 :: v1 :: st) σ (k_ob f kf) := k_callS (As := [v1, v2, v3]) (k_In.id hs σ) hok hm rfl hrm hR hk hcat hd rfl hM kk
theorem k_vv3 {y : MethodName} {bytes : ByteArray} {maxL : Nat} {ret : Option FieldType} {index : Nat} {rm : Room} {b : Nat} {v1 v2 v3 : Value} {f : Option (Unit × S)} {kf : Unit → S → Option (Rt × S)} (hs : k_same cw) (hok : k_Vok y bytes maxL ret 3) (hm : Cond.methodLink Y.2.2.2.1 index y ∈ k_ws) (hrv : ∃ (k ci : Nat) (fs : List Value) (q : vw_C), (cw σ)[k]? = some (b, .inr (ci, fs)) ∧ vwCl[ci]? = some q ∧ q.1 = y.cls) (hrm : rm.cells = 0 ∧ rm.slots = 0) (hR : rm.frames + 1 ≤ Y.1.frames ∧ 8 + (maxL + 11) + rm.locals ≤ Y.1.locals) (hk : kc ≤ Y.1.cells ∧ ks ≤ Y.1.slots) (hcat : (st.map fun v => v.category).sum ≤ 8) (hd : decode Y.2.1 pc = .ok (.invokevirtual index, 3)) (hM : ∀ r τ, f = some (r, τ) → k_Ct k_ev y bytes maxL ret rm cw (k_D X) (k_I X) (.ref b :: [v1, v2, v3]) σ r τ) (kk : ∀ r τ, KO X Y cw kc ks Q (pc + 3) L (st) τ (kf r τ)) : KO X Y cw kc ks Q pc L (v3 :: v2 :: v1 :: .ref b :: st) σ (k_ob f kf) := k_callV (As := [v1, v2, v3]) (k_In.id hs σ) hok hm hrv rfl hrm hR hk hcat hd rfl hM kk
theorem k_sv3 {y : MethodName} {bytes : ByteArray} {maxL : Nat} {ret : Option FieldType} {index : Nat} {rm : Room} {v1 v2 v3 : Value} {f : Option (Unit × S)} {kf : Unit → S → Option (Rt × S)} (hs : k_same cw) (hok : k_Sok y bytes maxL ret 3) (hm : Cond.methodLink Y.2.2.2.1 index y ∈ k_ws) (hrm : rm.cells = 0 ∧ rm.slots = 0) (hR : rm.frames + 1 ≤ Y.1.frames ∧ 8 + (maxL + 11) + rm.locals ≤ Y.1.locals) (hk : kc ≤ Y.1.cells ∧ ks ≤ Y.1.slots) (hcat : (st.map fun v => v.category).sum ≤ 8) (hd : decode Y.2.1 pc = .ok (.invokestatic index, 3)) (hM : ∀ r τ, f = some (r, τ) → k_Ct k_ev y bytes maxL ret rm cw (k_D X) (k_I X) [v1, v2, v3] σ r τ) (kk : ∀ r τ, KO X Y cw kc ks Q (pc + 3) L (st) τ (kf r τ)) : KO X Y cw kc ks Q pc L (v3 :: v2 :: v1 :: st) σ (k_ob f kf) := k_callS (As := [v1, v2, v3]) (k_In.id hs σ) hok hm rfl hrm hR hk hcat hd rfl hM kk
theorem k_vl3 {y : MethodName} {bytes : ByteArray} {maxL : Nat} {ret : Option FieldType} {index : Nat} {rm : Room} {b : Nat} {v1 v2 v3 : Value} {f : Option (Int64 × S)} {kf : Int64 → S → Option (Rt × S)} (hs : k_same cw) (hok : k_Vok y bytes maxL ret 3) (hm : Cond.methodLink Y.2.2.2.1 index y ∈ k_ws) (hrv : ∃ (k ci : Nat) (fs : List Value) (q : vw_C), (cw σ)[k]? = some (b, .inr (ci, fs)) ∧ vwCl[ci]? = some q ∧ q.1 = y.cls) (hrm : rm.cells = 0 ∧ rm.slots = 0) (hR : rm.frames + 1 ≤ Y.1.frames ∧ 8 + (maxL + 11) + rm.locals ≤ Y.1.locals) (hk : kc ≤ Y.1.cells ∧ ks ≤ Y.1.slots) (hcat : (st.map fun v => v.category).sum ≤ 8) (hd : decode Y.2.1 pc = .ok (.invokevirtual index, 3)) (hM : ∀ r τ, f = some (r, τ) → k_Ct k_el y bytes maxL ret rm cw (k_D X) (k_I X) (.ref b :: [v1, v2, v3]) σ r τ) (kk : ∀ r τ, KO X Y cw kc ks Q (pc + 3) L (.long r :: st) τ (kf r τ)) : KO X Y cw kc ks Q pc L (v3 :: v2 :: v1 :: .ref b :: st) σ (k_ob f kf) := k_callV (As := [v1, v2, v3]) (k_In.id hs σ) hok hm hrv rfl hrm hR hk hcat hd rfl hM kk
theorem k_sl3 {y : MethodName} {bytes : ByteArray} {maxL : Nat} {ret : Option FieldType} {index : Nat} {rm : Room} {v1 v2 v3 : Value} {f : Option (Int64 × S)} {kf : Int64 → S → Option (Rt × S)} (hs : k_same cw) (hok : k_Sok y bytes maxL ret 3) (hm : Cond.methodLink Y.2.2.2.1 index y ∈ k_ws) (hrm : rm.cells = 0 ∧ rm.slots = 0) (hR : rm.frames + 1 ≤ Y.1.frames ∧ 8 + (maxL + 11) + rm.locals ≤ Y.1.locals) (hk : kc ≤ Y.1.cells ∧ ks ≤ Y.1.slots) (hcat : (st.map fun v => v.category).sum ≤ 8) (hd : decode Y.2.1 pc = .ok (.invokestatic index, 3)) (hM : ∀ r τ, f = some (r, τ) → k_Ct k_el y bytes maxL ret rm cw (k_D X) (k_I X) [v1, v2, v3] σ r τ) (kk : ∀ r τ, KO X Y cw kc ks Q (pc + 3) L (.long r :: st) τ (kf r τ)) : KO X Y cw kc ks Q pc L (v3 :: v2 :: v1 :: st) σ (k_ob f kf) := k_callS (As := [v1, v2, v3]) (k_In.id hs σ) hok hm rfl hrm hR hk hcat hd rfl hM kk
theorem k_vi4 {y : MethodName} {bytes : ByteArray} {maxL : Nat} {ret : Option FieldType} {index : Nat} {rm : Room} {b : Nat} {v1 v2 v3 v4 : Value} {f : Option (Int32 × S)} {kf : Int32 → S → Option (Rt × S)} (hs : k_same cw) (hok : k_Vok y bytes maxL ret 4) (hm : Cond.methodLink Y.2.2.2.1 index y ∈ k_ws) (hrv : ∃ (k ci : Nat) (fs : List Value) (q : vw_C), (cw σ)[k]? = some (b, .inr (ci, fs)) ∧ vwCl[ci]? = some q ∧ q.1 = y.cls) (hrm : rm.cells = 0 ∧ rm.slots = 0) (hR : rm.frames + 1 ≤ Y.1.frames ∧ 8 + (maxL + 11) + rm.locals ≤ Y.1.locals) (hk : kc ≤ Y.1.cells ∧ ks ≤ Y.1.slots) (hcat : (st.map fun v => v.category).sum ≤ 8) (hd : decode Y.2.1 pc = .ok (.invokevirtual index, 3)) (hM : ∀ r τ, f = some (r, τ) → k_Ct k_ei y bytes maxL ret rm cw (k_D X) (k_I X) (.ref b :: [v1, v2, v3, v4]) σ r τ) (kk : ∀ r τ, KO X Y cw kc ks Q (pc + 3) L (.int r :: st) τ (kf r τ)) : KO X Y cw kc ks Q pc L (v4 :: v3 :: v2 :: v1 :: .ref b :: st) σ (k_ob f kf) := k_callV (As := [v1, v2, v3, v4]) (k_In.id hs σ) hok hm hrv rfl hrm hR hk hcat hd rfl hM kk
theorem k_si4 {y : MethodName} {bytes : ByteArray} {maxL : Nat} {ret : Option FieldType} {index : Nat} {rm : Room} {v1 v2 v3 v4 : Value} {f : Option (Int32 × S)} {kf : Int32 → S → Option (Rt × S)} (hs : k_same cw) (hok : k_Sok y bytes maxL ret 4) (hm : Cond.methodLink Y.2.2.2.1 index y ∈ k_ws) (hrm : rm.cells = 0 ∧ rm.slots = 0) (hR : rm.frames + 1 ≤ Y.1.frames ∧ 8 + (maxL + 11) + rm.locals ≤ Y.1.locals) (hk : kc ≤ Y.1.cells ∧ ks ≤ Y.1.slots) (hcat : (st.map fun v => v.category).sum ≤ 8) (hd : decode Y.2.1 pc = .ok (.invokestatic index, 3)) (hM : ∀ r τ, f = some (r, τ) → k_Ct k_ei y bytes maxL ret rm cw (k_D X) (k_I X) [v1, v2, v3, v4] σ r τ) (kk : ∀ r τ, KO X Y cw kc ks Q (pc + 3) L (.int r :: st) τ (kf r τ)) : KO X Y cw kc ks Q pc L (v4 :: v3 :: v2 :: v1 :: st) σ (k_ob f kf) := k_callS (As := [v1, v2, v3, v4]) (k_In.id hs σ) hok hm rfl hrm hR hk hcat hd rfl hM kk
theorem k_vv4 {y : MethodName} {bytes : ByteArray} {maxL : Nat} {ret : Option FieldType} {index : Nat} {rm : Room} {b : Nat} {v1 v2 v3 v4 : Value} {f : Option (Unit × S)} {kf : Unit → S → Option (Rt × S)} (hs : k_same cw) (hok : k_Vok y bytes maxL ret 4) (hm : Cond.methodLink Y.2.2.2.1 index y ∈ k_ws) (hrv : ∃ (k ci : Nat) (fs : List Value) (q : vw_C), (cw σ)[k]? = some (b, .inr (ci, fs)) ∧ vwCl[ci]? = some q ∧ q.1 = y.cls) (hrm : rm.cells = 0 ∧ rm.slots = 0) (hR : rm.frames + 1 ≤ Y.1.frames ∧ 8 + (maxL + 11) + rm.locals ≤ Y.1.locals) (hk : kc ≤ Y.1.cells ∧ ks ≤ Y.1.slots) (hcat : (st.map fun v => v.category).sum ≤ 8) (hd : decode Y.2.1 pc = .ok (.invokevirtual index, 3)) (hM : ∀ r τ, f = some (r, τ) → k_Ct k_ev y bytes maxL ret rm cw (k_D X) (k_I X) (.ref b :: [v1, v2, v3, v4]) σ r τ) (kk : ∀ r τ, KO X Y cw kc ks Q (pc + 3) L (st) τ (kf r τ)) : KO X Y cw kc ks Q pc L (v4 :: v3 :: v2 :: v1 :: .ref b :: st) σ (k_ob f kf) := k_callV (As := [v1, v2, v3, v4]) (k_In.id hs σ) hok hm hrv rfl hrm hR hk hcat hd rfl hM kk
theorem k_sv4 {y : MethodName} {bytes : ByteArray} {maxL : Nat} {ret : Option FieldType} {index : Nat} {rm : Room} {v1 v2 v3 v4 : Value} {f : Option (Unit × S)} {kf : Unit → S → Option (Rt × S)} (hs : k_same cw) (hok : k_Sok y bytes maxL ret 4) (hm : Cond.methodLink Y.2.2.2.1 index y ∈ k_ws) (hrm : rm.cells = 0 ∧ rm.slots = 0) (hR : rm.frames + 1 ≤ Y.1.frames ∧ 8 + (maxL + 11) + rm.locals ≤ Y.1.locals) (hk : kc ≤ Y.1.cells ∧ ks ≤ Y.1.slots) (hcat : (st.map fun v => v.category).sum ≤ 8) (hd : decode Y.2.1 pc = .ok (.invokestatic index, 3)) (hM : ∀ r τ, f = some (r, τ) → k_Ct k_ev y bytes maxL ret rm cw (k_D X) (k_I X) [v1, v2, v3, v4] σ r τ) (kk : ∀ r τ, KO X Y cw kc ks Q (pc + 3) L (st) τ (kf r τ)) : KO X Y cw kc ks Q pc L (v4 :: v3 :: v2 :: v1 :: st) σ (k_ob f kf) := k_callS (As := [v1, v2, v3, v4]) (k_In.id hs σ) hok hm rfl hrm hR hk hcat hd rfl hM kk
theorem k_vi5 {y : MethodName} {bytes : ByteArray} {maxL : Nat} {ret : Option FieldType} {index : Nat} {rm : Room} {b : Nat} {v1 v2 v3 v4 v5 : Value} {f : Option (Int32 × S)} {kf : Int32 → S → Option (Rt × S)} (hs : k_same cw) (hok : k_Vok y bytes maxL ret 5) (hm : Cond.methodLink Y.2.2.2.1 index y ∈ k_ws) (hrv : ∃ (k ci : Nat) (fs : List Value) (q : vw_C), (cw σ)[k]? = some (b, .inr (ci, fs)) ∧ vwCl[ci]? = some q ∧ q.1 = y.cls) (hrm : rm.cells = 0 ∧ rm.slots = 0) (hR : rm.frames + 1 ≤ Y.1.frames ∧ 8 + (maxL + 11) + rm.locals ≤ Y.1.locals) (hk : kc ≤ Y.1.cells ∧ ks ≤ Y.1.slots) (hcat : (st.map fun v => v.category).sum ≤ 8) (hd : decode Y.2.1 pc = .ok (.invokevirtual index, 3)) (hM : ∀ r τ, f = some (r, τ) → k_Ct k_ei y bytes maxL ret rm cw (k_D X) (k_I X) (.ref b :: [v1, v2, v3, v4, v5]) σ r τ) (kk : ∀ r τ, KO X Y cw kc ks Q (pc + 3) L (.int r :: st) τ (kf r τ)) : KO X Y cw kc ks Q pc L (v5 :: v4 :: v3 :: v2 :: v1 :: .ref b :: st) σ (k_ob f kf) := k_callV (As := [v1, v2, v3, v4, v5]) (k_In.id hs σ) hok hm hrv rfl hrm hR hk hcat hd rfl hM kk
theorem k_si5 {y : MethodName} {bytes : ByteArray} {maxL : Nat} {ret : Option FieldType} {index : Nat} {rm : Room} {v1 v2 v3 v4 v5 : Value} {f : Option (Int32 × S)} {kf : Int32 → S → Option (Rt × S)} (hs : k_same cw) (hok : k_Sok y bytes maxL ret 5) (hm : Cond.methodLink Y.2.2.2.1 index y ∈ k_ws) (hrm : rm.cells = 0 ∧ rm.slots = 0) (hR : rm.frames + 1 ≤ Y.1.frames ∧ 8 + (maxL + 11) + rm.locals ≤ Y.1.locals) (hk : kc ≤ Y.1.cells ∧ ks ≤ Y.1.slots) (hcat : (st.map fun v => v.category).sum ≤ 8) (hd : decode Y.2.1 pc = .ok (.invokestatic index, 3)) (hM : ∀ r τ, f = some (r, τ) → k_Ct k_ei y bytes maxL ret rm cw (k_D X) (k_I X) [v1, v2, v3, v4, v5] σ r τ) (kk : ∀ r τ, KO X Y cw kc ks Q (pc + 3) L (.int r :: st) τ (kf r τ)) : KO X Y cw kc ks Q pc L (v5 :: v4 :: v3 :: v2 :: v1 :: st) σ (k_ob f kf) := k_callS (As := [v1, v2, v3, v4, v5]) (k_In.id hs σ) hok hm rfl hrm hR hk hcat hd rfl hM kk
theorem k_vv5 {y : MethodName} {bytes : ByteArray} {maxL : Nat} {ret : Option FieldType} {index : Nat} {rm : Room} {b : Nat} {v1 v2 v3 v4 v5 : Value} {f : Option (Unit × S)} {kf : Unit → S → Option (Rt × S)} (hs : k_same cw) (hok : k_Vok y bytes maxL ret 5) (hm : Cond.methodLink Y.2.2.2.1 index y ∈ k_ws) (hrv : ∃ (k ci : Nat) (fs : List Value) (q : vw_C), (cw σ)[k]? = some (b, .inr (ci, fs)) ∧ vwCl[ci]? = some q ∧ q.1 = y.cls) (hrm : rm.cells = 0 ∧ rm.slots = 0) (hR : rm.frames + 1 ≤ Y.1.frames ∧ 8 + (maxL + 11) + rm.locals ≤ Y.1.locals) (hk : kc ≤ Y.1.cells ∧ ks ≤ Y.1.slots) (hcat : (st.map fun v => v.category).sum ≤ 8) (hd : decode Y.2.1 pc = .ok (.invokevirtual index, 3)) (hM : ∀ r τ, f = some (r, τ) → k_Ct k_ev y bytes maxL ret rm cw (k_D X) (k_I X) (.ref b :: [v1, v2, v3, v4, v5]) σ r τ) (kk : ∀ r τ, KO X Y cw kc ks Q (pc + 3) L (st) τ (kf r τ)) : KO X Y cw kc ks Q pc L (v5 :: v4 :: v3 :: v2 :: v1 :: .ref b :: st) σ (k_ob f kf) := k_callV (As := [v1, v2, v3, v4, v5]) (k_In.id hs σ) hok hm hrv rfl hrm hR hk hcat hd rfl hM kk
theorem k_sv5 {y : MethodName} {bytes : ByteArray} {maxL : Nat} {ret : Option FieldType} {index : Nat} {rm : Room} {v1 v2 v3 v4 v5 : Value} {f : Option (Unit × S)} {kf : Unit → S → Option (Rt × S)} (hs : k_same cw) (hok : k_Sok y bytes maxL ret 5) (hm : Cond.methodLink Y.2.2.2.1 index y ∈ k_ws) (hrm : rm.cells = 0 ∧ rm.slots = 0) (hR : rm.frames + 1 ≤ Y.1.frames ∧ 8 + (maxL + 11) + rm.locals ≤ Y.1.locals) (hk : kc ≤ Y.1.cells ∧ ks ≤ Y.1.slots) (hcat : (st.map fun v => v.category).sum ≤ 8) (hd : decode Y.2.1 pc = .ok (.invokestatic index, 3)) (hM : ∀ r τ, f = some (r, τ) → k_Ct k_ev y bytes maxL ret rm cw (k_D X) (k_I X) [v1, v2, v3, v4, v5] σ r τ) (kk : ∀ r τ, KO X Y cw kc ks Q (pc + 3) L (st) τ (kf r τ)) : KO X Y cw kc ks Q pc L (v5 :: v4 :: v3 :: v2 :: v1 :: st) σ (k_ob f kf) := k_callS (As := [v1, v2, v3, v4, v5]) (k_In.id hs σ) hok hm rfl hrm hR hk hcat hd rfl hM kk
theorem k_vi6 {y : MethodName} {bytes : ByteArray} {maxL : Nat} {ret : Option FieldType} {index : Nat} {rm : Room} {b : Nat} {v1 v2 v3 v4 v5 v6 : Value} {f : Option (Int32 × S)} {kf : Int32 → S → Option (Rt × S)} (hs : k_same cw) (hok : k_Vok y bytes maxL ret 6) (hm : Cond.methodLink Y.2.2.2.1 index y ∈ k_ws) (hrv : ∃ (k ci : Nat) (fs : List Value) (q : vw_C), (cw σ)[k]? = some (b, .inr (ci, fs)) ∧ vwCl[ci]? = some q ∧ q.1 = y.cls) (hrm : rm.cells = 0 ∧ rm.slots = 0) (hR : rm.frames + 1 ≤ Y.1.frames ∧ 8 + (maxL + 11) + rm.locals ≤ Y.1.locals) (hk : kc ≤ Y.1.cells ∧ ks ≤ Y.1.slots) (hcat : (st.map fun v => v.category).sum ≤ 8) (hd : decode Y.2.1 pc = .ok (.invokevirtual index, 3)) (hM : ∀ r τ, f = some (r, τ) → k_Ct k_ei y bytes maxL ret rm cw (k_D X) (k_I X) (.ref b :: [v1, v2, v3, v4, v5, v6]) σ r τ) (kk : ∀ r τ, KO X Y cw kc ks Q (pc + 3) L (.int r :: st) τ (kf r τ)) : KO X Y cw kc ks Q pc L (v6 :: v5 :: v4 :: v3 :: v2 :: v1 :: .ref b :: st) σ (k_ob f kf) := k_callV (As := [v1, v2, v3, v4, v5, v6]) (k_In.id hs σ) hok hm hrv rfl hrm hR hk hcat hd rfl hM kk
theorem k_si6 {y : MethodName} {bytes : ByteArray} {maxL : Nat} {ret : Option FieldType} {index : Nat} {rm : Room} {v1 v2 v3 v4 v5 v6 : Value} {f : Option (Int32 × S)} {kf : Int32 → S → Option (Rt × S)} (hs : k_same cw) (hok : k_Sok y bytes maxL ret 6) (hm : Cond.methodLink Y.2.2.2.1 index y ∈ k_ws) (hrm : rm.cells = 0 ∧ rm.slots = 0) (hR : rm.frames + 1 ≤ Y.1.frames ∧ 8 + (maxL + 11) + rm.locals ≤ Y.1.locals) (hk : kc ≤ Y.1.cells ∧ ks ≤ Y.1.slots) (hcat : (st.map fun v => v.category).sum ≤ 8) (hd : decode Y.2.1 pc = .ok (.invokestatic index, 3)) (hM : ∀ r τ, f = some (r, τ) → k_Ct k_ei y bytes maxL ret rm cw (k_D X) (k_I X) [v1, v2, v3, v4, v5, v6] σ r τ) (kk : ∀ r τ, KO X Y cw kc ks Q (pc + 3) L (.int r :: st) τ (kf r τ)) : KO X Y cw kc ks Q pc L (v6 :: v5 :: v4 :: v3 :: v2 :: v1 :: st) σ (k_ob f kf) := k_callS (As := [v1, v2, v3, v4, v5, v6]) (k_In.id hs σ) hok hm rfl hrm hR hk hcat hd rfl hM kk
theorem k_vv6 {y : MethodName} {bytes : ByteArray} {maxL : Nat} {ret : Option FieldType} {index : Nat} {rm : Room} {b : Nat} {v1 v2 v3 v4 v5 v6 : Value} {f : Option (Unit × S)} {kf : Unit → S → Option (Rt × S)} (hs : k_same cw) (hok : k_Vok y bytes maxL ret 6) (hm : Cond.methodLink Y.2.2.2.1 index y ∈ k_ws) (hrv : ∃ (k ci : Nat) (fs : List Value) (q : vw_C), (cw σ)[k]? = some (b, .inr (ci, fs)) ∧ vwCl[ci]? = some q ∧ q.1 = y.cls) (hrm : rm.cells = 0 ∧ rm.slots = 0) (hR : rm.frames + 1 ≤ Y.1.frames ∧ 8 + (maxL + 11) + rm.locals ≤ Y.1.locals) (hk : kc ≤ Y.1.cells ∧ ks ≤ Y.1.slots) (hcat : (st.map fun v => v.category).sum ≤ 8) (hd : decode Y.2.1 pc = .ok (.invokevirtual index, 3)) (hM : ∀ r τ, f = some (r, τ) → k_Ct k_ev y bytes maxL ret rm cw (k_D X) (k_I X) (.ref b :: [v1, v2, v3, v4, v5, v6]) σ r τ) (kk : ∀ r τ, KO X Y cw kc ks Q (pc + 3) L (st) τ (kf r τ)) : KO X Y cw kc ks Q pc L (v6 :: v5 :: v4 :: v3 :: v2 :: v1 :: .ref b :: st) σ (k_ob f kf) := k_callV (As := [v1, v2, v3, v4, v5, v6]) (k_In.id hs σ) hok hm hrv rfl hrm hR hk hcat hd rfl hM kk
theorem k_sv6 {y : MethodName} {bytes : ByteArray} {maxL : Nat} {ret : Option FieldType} {index : Nat} {rm : Room} {v1 v2 v3 v4 v5 v6 : Value} {f : Option (Unit × S)} {kf : Unit → S → Option (Rt × S)} (hs : k_same cw) (hok : k_Sok y bytes maxL ret 6) (hm : Cond.methodLink Y.2.2.2.1 index y ∈ k_ws) (hrm : rm.cells = 0 ∧ rm.slots = 0) (hR : rm.frames + 1 ≤ Y.1.frames ∧ 8 + (maxL + 11) + rm.locals ≤ Y.1.locals) (hk : kc ≤ Y.1.cells ∧ ks ≤ Y.1.slots) (hcat : (st.map fun v => v.category).sum ≤ 8) (hd : decode Y.2.1 pc = .ok (.invokestatic index, 3)) (hM : ∀ r τ, f = some (r, τ) → k_Ct k_ev y bytes maxL ret rm cw (k_D X) (k_I X) [v1, v2, v3, v4, v5, v6] σ r τ) (kk : ∀ r τ, KO X Y cw kc ks Q (pc + 3) L (st) τ (kf r τ)) : KO X Y cw kc ks Q pc L (v6 :: v5 :: v4 :: v3 :: v2 :: v1 :: st) σ (k_ob f kf) := k_callS (As := [v1, v2, v3, v4, v5, v6]) (k_In.id hs σ) hok hm rfl hrm hR hk hcat hd rfl hM kk
end KR4
-- ---- Arrays.fill
def cA (cI : ClassId) (a n : Nat) (g : Nat → Int32) : va_W := [(a, .inl (cI, n, .inl g))]
theorem cA_same (cI : ClassId) (a n : Nat) : k_same (cA cI a n) := k_same_of fun _ _ => rfl
def f_fl (n : Nat) (hi v : Int32) : Nat → (Nat → Int32) → Int32 → Option (Unit × (Nat → Int32))
  | 0, _, _ => none
  | k + 1, g, i => if i < hi then k_gd i n (k_bn (upd g i.toNatClampNeg v) fun g' => k_bn (i + 1) fun i' => f_fl n hi v k g' i') else some ((), g)
theorem f_fl_s (n : Nat) (hi v : Int32) (k : Nat) (g : Nat → Int32) (i : Int32) : f_fl n hi v (k + 1) g i = if i < hi then k_gd i n (k_bn (upd g i.toNatClampNeg v) fun g' => k_bn (i + 1) fun i' => f_fl n hi v k g' i') else some ((), g) := rfl
theorem k_gd_in {α : Type} {i : Int32} {n : Nat} {o : Option α} (h : vp_in i n) : k_gd i n o = o := if_neg h
theorem f_fl_eq (n : Nat) (v : Int32) {b : Nat} (hb : b ≤ n) (hn : n < 2 ^ 31) : ∀ (k a : Nat) (g : Nat → Int32), a ≤ b → b < a + k → f_fl n (nI b) v k g (nI a) = some ((), k_fl g a b v) := by
  intro k
  induction k with
  | zero => intro a g h1 h2; omega
  | succ k ih =>
    intro a g h1 h2
    rw [f_fl_s]
    by_cases hab : a < b
    · rw [if_pos (nI_lt hab (by omega)), k_gd_in (vp_in_nI (by omega) hn)]
      show f_fl n (nI b) v k (upd g (nI a).toNatClampNeg v) (nI a + 1) = _
      rw [nI_1, ih (a + 1) _ (by omega) (by omega), nI_clamp (by omega)]
      have e : k_fl (upd g a v) (a + 1) b v = k_fl g a b v := by
        funext j
        unfold k_fl
        by_cases hj : j = a
        · subst hj
          rw [if_neg (by omega), if_pos (by omega)]
          exact pk_us
        · by_cases h3 : a ≤ j ∧ j < b
          · rw [if_pos (by omega), if_pos h3]
          · rw [if_neg (by omega), if_neg h3]
            exact pk_un hj
      rw [e]
    · rw [if_neg (nI_nlt (by omega) (by omega))]
      have : k_fl g a b v = g := by
        funext j
        unfold k_fl
        rw [if_neg (by omega)]
      rw [this]
theorem ckJ7_fill2 : k_Sok yJ7_fill_53178 cJ7_fill_53178 4 none 2 := ⟨kwk_J7_fill_53178, kws_J7_fill_53178, kwn_J7, by decide, by decide +kernel⟩
theorem ckJ7_fill4 : k_Sok yJ7_fill_fda19 cJ7_fill_fda19 5 none 4 := ⟨kwk_J7_fill_fda19, kws_J7_fill_fda19, kwn_J7, by decide, by decide +kernel⟩
theorem ckJ7_rangeCheck : k_Sok yJ7_rangeCheck_23922 cJ7_rangeCheck_23922 3 none 3 := ⟨kwk_J7_rangeCheck_23922, kws_J7_rangeCheck_23922, kwn_J7, by decide, by decide +kernel⟩
abbrev YJ7_fill2 : k_Y := ({ frames := 0, cells := 0, slots := 0, locals := 30 }, cJ7_fill_53178, 4, RJ7, none)
abbrev YJ7_fill4 : k_Y := ({ frames := 1, cells := 0, slots := 0, locals := 60 }, cJ7_fill_fda19, 5, RJ7, none)
abbrev YJ7_rc : k_Y := ({ frames := 0, cells := 0, slots := 0, locals := 0 }, cJ7_rangeCheck_23922, 3, RJ7, none)
set_option maxRecDepth 100000 in
theorem kJ7_fill2_loop {X : k_C} {a n : Nat} (v : Int32) : ∀ (k : Nat) (g : Nat → Int32) (i : Int32), KO X YJ7_fill2 (cA (k_I X) a n) 0 0 (k_Q k_ev X (cA (k_I X) a n)) 5 [some (.ref a), some (.int v), some (.int i), some (.int (nI n))] [] g (f_fl n (nI n) v k g i) := by
  intro k
  induction k with
  | zero => intros; exact KO.nil
  | succ k ih =>
    intro g i
    rw [f_fl_s]
    refine k_iload_n (pc := 5) dJ7_fill_53178_5 rfl ?_
    refine k_iload_n (pc := 6) dJ7_fill_53178_6 rfl ?_
    refine k_icmp_ge (pc := 7) 20 dJ7_fill_53178_7 (by decide) ?_ ?_
    · exact k_return (pc := 20) rfl dJ7_fill_53178_20
    · refine k_aload_n (pc := 10) dJ7_fill_53178_10 rfl ?_
      refine k_iload_n (pc := 11) dJ7_fill_53178_11 rfl ?_
      refine k_iload_n (pc := 12) dJ7_fill_53178_12 rfl ?_
      refine k_iast (pc := 13) (σ1 := upd g i.toNatClampNeg v) 0 rfl rfl dJ7_fill_53178_13 (fun g' => ?_)
      refine k_iinc2 (pc := 14) (w := 1) dJ7_fill_53178_14 rfl (by decide) (by decide) (fun i' => ?_)
      refine k_goto (pc := 17) 5 dJ7_fill_53178_17 (by decide) ?_
      exact ih g' i'
set_option maxRecDepth 100000 in
theorem kJ7_fill2 {D : va_G} {cI : ClassId} {a n : Nat} (hn : n < 2 ^ 31) (g : Nat → Int32) (v : Int32) : k_Ct k_ev yJ7_fill_53178 cJ7_fill_53178 4 none YJ7_fill2.1 (cA cI a n) D cI [.ref a, .int v] g () (k_fl g 0 n v) := by
  refine k_met (Y := YJ7_fill2) (o := f_fl n (nI n) v (n + 1) g (nI 0)) (cA_same _ _ _) (by decide) rfl (Nat.le_of_ble_eq_true rfl) (List.forall_mem_cons.mpr ⟨rfl, List.forall_mem_cons.mpr ⟨rfl, fun _ h => absurd h List.not_mem_nil⟩⟩) (fun X hD hI => ?_) (f_fl_eq n v (Nat.le_refl n) hn (n + 1) 0 g (Nat.zero_le _) (by omega))
  subst hD hI
  show KO X YJ7_fill2 (cA (k_I X) a n) 0 0 (k_Q k_ev X (cA (k_I X) a n)) 0 [some (.ref a), some (.int v), none, none] [] g (k_bn 0 fun i => k_bn (nI n) fun _ => f_fl n (nI n) v (n + 1) g i)
  refine k_iconst (pc := 0) (v := 0) dJ7_fill_53178_0 (by decide) ?_
  refine k_istG (pc := 1) (pc' := 2) 2 (.inl ⟨2, dJ7_fill_53178_1, rfl, rfl⟩) (by decide) ?_
  refine k_aload_n (pc := 2) dJ7_fill_53178_2 rfl ?_
  refine k_alen (pc := 3) (v := nI n) 0 rfl rfl dJ7_fill_53178_3 ?_
  refine k_istG (pc := 4) (pc' := 5) 3 (.inl ⟨3, dJ7_fill_53178_4, rfl, rfl⟩) (by decide) ?_
  exact kJ7_fill2_loop v (n + 1) g 0
def f_rc (len lo hi : Int32) (g : Nat → Int32) : Option (Unit × (Nat → Int32)) := if hi < lo then none else if lo < 0 then none else if len < hi then none else some ((), g)
set_option maxRecDepth 100000 in
theorem kJ7_rc {D : va_G} {cI : ClassId} {a n : Nat} {g τ : Nat → Int32} {len lo hi : Int32} {r : Unit} (h : f_rc len lo hi g = some (r, τ)) : k_Ct k_ev yJ7_rangeCheck_23922 cJ7_rangeCheck_23922 3 none YJ7_rc.1 (cA cI a n) D cI [.int len, .int lo, .int hi] g r τ := by
  refine k_met (Y := YJ7_rc) (cA_same _ _ _) (by decide) rfl (Nat.le_of_ble_eq_true rfl) (List.forall_mem_cons.mpr ⟨rfl, List.forall_mem_cons.mpr ⟨rfl, List.forall_mem_cons.mpr ⟨rfl, fun _ h => absurd h List.not_mem_nil⟩⟩⟩) (fun X hD hI => ?_) h
  subst hD hI
  show KO X YJ7_rc (cA (k_I X) a n) 0 0 (k_Q k_ev X (cA (k_I X) a n)) 0 [some (.int len), some (.int lo), some (.int hi)] [] g _
  unfold f_rc
  refine k_iload_n (pc := 0) dJ7_rangeCheck_23922_0 rfl ?_
  refine k_iload_n (pc := 1) dJ7_rangeCheck_23922_1 rfl ?_
  refine k_icmp_le (pc := 2) 46 dJ7_rangeCheck_23922_2 (by decide) ?_ KO.nil
  refine k_iload_n (pc := 46) dJ7_rangeCheck_23922_46 rfl ?_
  refine k_if_ge (pc := 47) 59 dJ7_rangeCheck_23922_47 (by decide) ?_ KO.nil
  refine k_iload_n (pc := 59) dJ7_rangeCheck_23922_59 rfl ?_
  refine k_iload_n (pc := 60) dJ7_rangeCheck_23922_60 rfl ?_
  refine k_icmp_le (pc := 61) 73 dJ7_rangeCheck_23922_61 (by decide) ?_ KO.nil
  exact k_return (pc := 73) rfl dJ7_rangeCheck_23922_73
set_option maxRecDepth 100000 in
theorem kJ7_fill4_loop {X : k_C} {a n : Nat} (lo hi v : Int32) : ∀ (k : Nat) (g : Nat → Int32) (i : Int32), KO X YJ7_fill4 (cA (k_I X) a n) 0 0 (k_Q k_ev X (cA (k_I X) a n)) 10 [some (.ref a), some (.int lo), some (.int hi), some (.int v), some (.int i)] [] g (f_fl n hi v k g i) := by
  intro k
  induction k with
  | zero => intros; exact KO.nil
  | succ k ih =>
    intro g i
    rw [f_fl_s]
    refine k_iload (pc := 10) dJ7_fill_fda19_10 rfl ?_
    refine k_iload_n (pc := 12) dJ7_fill_fda19_12 rfl ?_
    refine k_icmp_ge (pc := 13) 27 dJ7_fill_fda19_13 (by decide) ?_ ?_
    · exact k_return (pc := 27) rfl dJ7_fill_fda19_27
    · refine k_aload_n (pc := 16) dJ7_fill_fda19_16 rfl ?_
      refine k_iload (pc := 17) dJ7_fill_fda19_17 rfl ?_
      refine k_iload_n (pc := 19) dJ7_fill_fda19_19 rfl ?_
      refine k_iast (pc := 20) (σ1 := upd g i.toNatClampNeg v) 0 rfl rfl dJ7_fill_fda19_20 (fun g' => ?_)
      refine k_iinc4 (pc := 21) (w := 1) dJ7_fill_fda19_21 rfl (by decide) (by decide) (fun i' => ?_)
      refine k_goto (pc := 24) 10 dJ7_fill_fda19_24 (by decide) ?_
      exact ih g' i'
theorem f_fill4_eq {n : Nat} (hn : n < 2 ^ 31) {lo hi v : Int32} {g τ : Nat → Int32} {r : Unit} (h : k_gf lo hi n (some ((), k_fl g lo.toNatClampNeg hi.toNatClampNeg v)) = some (r, τ)) : k_ob (f_rc (nI n) lo hi g) (fun _ g => f_fl n hi v (n + 1) g lo) = some (r, τ) := by
  unfold k_gf at h
  split at h
  · cases h
  next hc =>
    have h1 : ¬ hi < lo := fun q => hc (.inl q)
    have h2 : ¬ lo < 0 := fun q => hc (.inr (.inl q))
    have h3 : ¬ nI n < hi := fun q => hc (.inr (.inr q))
    obtain ⟨a, ha, rfl⟩ := nI_of h2
    obtain ⟨b, hb, rfl⟩ := nI_of (x := hi) (fun q => h1 (Int32.lt_of_lt_of_le q (Int32.not_lt.mp h2)))
    have hab : a ≤ b := Nat.le_of_not_lt fun q => h1 (nI_lt q ha)
    have hbn : b ≤ n := Nat.le_of_not_lt fun q => h3 (nI_lt q hb)
    rw [nI_clamp ha, nI_clamp hb] at h
    rw [f_rc, if_neg h1, if_neg h2, if_neg h3]
    show f_fl n (nI b) v (n + 1) g (nI a) = _
    rw [f_fl_eq n v hbn hn (n + 1) a g hab (by omega)]
    exact h
set_option maxRecDepth 100000 in
theorem kJ7_fill4 {D : va_G} {cI : ClassId} {a n : Nat} (hn : n < 2 ^ 31) {g τ : Nat → Int32} {lo hi v : Int32} {r : Unit} (h : k_gf lo hi n (some ((), k_fl g lo.toNatClampNeg hi.toNatClampNeg v)) = some (r, τ)) : k_Ct k_ev yJ7_fill_fda19 cJ7_fill_fda19 5 none YJ7_fill4.1 (cA cI a n) D cI [.ref a, .int lo, .int hi, .int v] g r τ := by
  refine k_met (Y := YJ7_fill4) (cA_same _ _ _) (by decide) rfl (Nat.le_of_ble_eq_true rfl) (List.forall_mem_cons.mpr ⟨rfl, List.forall_mem_cons.mpr ⟨rfl, List.forall_mem_cons.mpr ⟨rfl, List.forall_mem_cons.mpr ⟨rfl, fun _ h => absurd h List.not_mem_nil⟩⟩⟩⟩) (fun X hD hI => ?_) (f_fill4_eq hn h)
  subst hD hI
  show KO X YJ7_fill4 (cA (k_I X) a n) 0 0 (k_Q k_ev X (cA (k_I X) a n)) 0 [some (.ref a), some (.int lo), some (.int hi), some (.int v), none] [] g _
  refine k_aload_n (pc := 0) dJ7_fill_fda19_0 rfl ?_
  refine k_alen (pc := 1) (v := nI n) 0 rfl rfl dJ7_fill_fda19_1 ?_
  refine k_iload_n (pc := 2) dJ7_fill_fda19_2 rfl ?_
  refine k_iload_n (pc := 3) dJ7_fill_fda19_3 rfl ?_
  refine k_sv3 (pc := 4) (cA_same _ _ _) ckJ7_rangeCheck kwm_J7_13 ⟨rfl, rfl⟩ ⟨Nat.le_of_ble_eq_true rfl, Nat.le_of_ble_eq_true rfl⟩ ⟨Nat.zero_le _, Nat.zero_le _⟩ (by decide) dJ7_fill_fda19_4 (fun _ _ hf => kJ7_rc hf) (fun r1 g1 => ?_)
  refine k_iload_n (pc := 7) dJ7_fill_fda19_7 rfl ?_
  refine k_istG (pc := 8) (pc' := 10) 4 (.inr ⟨dJ7_fill_fda19_8, rfl⟩) (by decide) ?_
  exact kJ7_fill4_loop lo hi v (n + 1) g1 lo
theorem k_In_arr {S : Type} {cw : S → va_W} {σ : S} {cI : ClassId} {a n : Nat} {f : Nat → Int32} (hs : k_same cw) (k : Nat) (hcell : (cw σ)[k]? = some (a, .inl (cI, n, .inl f))) {wr : (Nat → Int32) → S} (hset : ∀ g, (cw σ).set k (a, .inl (cI, n, .inl g)) = cw (wr g)) : k_In cw σ (cA cI a n) f wr := by
  refine ⟨cA_same _ _ _, fun j q hj => ?_, fun A hD τ0 => ?_, fun τ0 j q hj => ?_⟩
  · match j, hj with
    | 0, hj => cases hj; exact ⟨k, hcell⟩
    | j + 1, hj => cases hj
  · refine ⟨fun i j p q hi hj _ => ?_, fun j q hj => ?_⟩
    · match i, j, hi, hj with
      | 0, 0, _, _ => rfl
      | 0, j + 1, _, hj => cases hj
      | i + 1, _, hi, _ => cases hi
    · match j, hj with
      | 0, hj => cases hj; exact (show A a from (hD σ).2 k _ hcell)
      | j + 1, hj => cases hj
  · rw [← hset τ0] at hj
    by_cases hjk : j = k
    · subst hjk
      rw [List.getElem?_set] at hj
      have hlt : j < (cw σ).length := (List.getElem?_eq_some_iff.mp hcell).1
      simp [hlt] at hj
      exact Or.inl ⟨0, by rw [← hj]; rfl⟩
    · rw [List.getElem?_set_ne (Ne.symm hjk)] at hj
      refine Or.inr ⟨⟨j, hj⟩, fun A hD i q0 hi => ?_⟩
      match i, hi with
      | 0, hi =>
        cases hi
        intro hq
        exact hjk (hD.1 j k q _ hj hcell hq.symm)
      | i + 1, hi => cases hi
section KR5
variable {S Rt : Type} {X : k_C} {Y : k_Y} {cw : S → va_W} {Q : Rt → S → State → Prop} {pc : Nat} {L : List (Option Value)} {σ : S}
theorem k_fill2 {a n index : Nat} {f : Nat → Int32} {v : Int32} {wr : (Nat → Int32) → S} (hs : k_same cw) (k : Nat) (hn : n < 2 ^ 31) (hcell : (cw σ)[k]? = some (a, .inl (k_I X, n, .inl f))) (hset : ∀ g, (cw σ).set k (a, .inl (k_I X, n, .inl g)) = cw (wr g)) (hw : Cond.methodLink Y.2.2.2.1 index yJ7_fill_53178 ∈ k_ws) (hR : 1 ≤ Y.1.frames ∧ 60 ≤ Y.1.locals) (hd : decode Y.2.1 pc = .ok (.invokestatic index, 3)) {kf : S → Option (Rt × S)} (kk : ∀ σ' : S, KO X Y cw 0 0 Q (pc + 3) L [] σ' (kf σ')) : KO X Y cw 0 0 Q pc L [.int v, .ref a] σ (k_bn (wr (k_fl f 0 n v)) kf) :=
  k_Sv2 (rm := YJ7_fill2.1) (f := some ((), k_fl f 0 n v)) (kf := fun _ g => kf (wr g)) (k_In_arr hs k hcell hset) ckJ7_fill2 hw ⟨rfl, rfl⟩ ⟨by show 0 + 1 ≤ _; omega, by show 8 + (4 + 11) + 30 ≤ _; omega⟩ ⟨Nat.zero_le _, Nat.zero_le _⟩ (by decide) hd (fun r τ h => by cases h; exact kJ7_fill2 hn f v) (fun _ g => kk (wr g))
theorem k_fill4 {a n index : Nat} {f : Nat → Int32} {lo hi v : Int32} {wr : (Nat → Int32) → S} (hs : k_same cw) (k : Nat) (hn : n < 2 ^ 31) (hcell : (cw σ)[k]? = some (a, .inl (k_I X, n, .inl f))) (hset : ∀ g, (cw σ).set k (a, .inl (k_I X, n, .inl g)) = cw (wr g)) (hw : Cond.methodLink Y.2.2.2.1 index yJ7_fill_fda19 ∈ k_ws) (hR : 2 ≤ Y.1.frames ∧ 90 ≤ Y.1.locals) (hd : decode Y.2.1 pc = .ok (.invokestatic index, 3)) {kf : S → Option (Rt × S)} (kk : ∀ σ' : S, KO X Y cw 0 0 Q (pc + 3) L [] σ' (kf σ')) : KO X Y cw 0 0 Q pc L [.int v, .int hi, .int lo, .ref a] σ (k_gf lo hi n (k_bn (wr (k_fl f lo.toNatClampNeg hi.toNatClampNeg v)) kf)) := by
  have e : k_gf lo hi n (k_bn (wr (k_fl f lo.toNatClampNeg hi.toNatClampNeg v)) kf) = k_ob (k_gf lo hi n (some ((), k_fl f lo.toNatClampNeg hi.toNatClampNeg v))) (fun _ g => kf (wr g)) := by
    unfold k_gf
    split <;> rfl
  rw [e]
  exact k_Sv4 (rm := YJ7_fill4.1) (k_In_arr hs k hcell hset) ckJ7_fill4 hw ⟨rfl, rfl⟩ ⟨by show 1 + 1 ≤ _; omega, by show 8 + (5 + 11) + 60 ≤ _; omega⟩ ⟨Nat.zero_le _, Nat.zero_le _⟩ (by decide) hd (fun r τ h => kJ7_fill4 hn h) (fun _ g => kk (wr g))
end KR5
end
section
/-! ===== decode rows (printed) ===== -/
theorem dX0_init_0 : decode cX0_init 0 = .ok (.aload_n 0, 1) := by decide +kernel
theorem dX0_init_1 : decode cX0_init 1 = .ok (.invokespecial 3, 3) := by decide +kernel
theorem dX0_init_4 : decode cX0_init 4 = .ok (.aload_n 0, 1) := by decide +kernel
theorem dX0_init_5 : decode cX0_init 5 = .ok (.bipush 10, 2) := by decide +kernel
theorem dX0_init_7 : decode cX0_init 7 = .ok (.newarray .int, 2) := by decide +kernel
theorem dX0_init_9 : decode cX0_init 9 = .ok (.putfield 9, 3) := by decide +kernel
theorem dX0_init_12 : decode cX0_init 12 = .ok (.aload_n 0, 1) := by decide +kernel
theorem dX0_init_13 : decode cX0_init 13 = .ok (.bipush 10, 2) := by decide +kernel
theorem dX0_init_15 : decode cX0_init 15 = .ok (.newarray .int, 2) := by decide +kernel
theorem dX0_init_17 : decode cX0_init 17 = .ok (.putfield 15, 3) := by decide +kernel
theorem dX0_init_20 : decode cX0_init 20 = .ok (.aload_n 0, 1) := by decide +kernel
theorem dX0_init_21 : decode cX0_init 21 = .ok (.bipush 10, 2) := by decide +kernel
theorem dX0_init_23 : decode cX0_init 23 = .ok (.newarray .int, 2) := by decide +kernel
theorem dX0_init_25 : decode cX0_init 25 = .ok (.putfield 18, 3) := by decide +kernel
theorem dX0_init_28 : decode cX0_init 28 = .ok (.aload_n 0, 1) := by decide +kernel
theorem dX0_init_29 : decode cX0_init 29 = .ok (.bipush 10, 2) := by decide +kernel
theorem dX0_init_31 : decode cX0_init 31 = .ok (.newarray .int, 2) := by decide +kernel
theorem dX0_init_33 : decode cX0_init 33 = .ok (.putfield 21, 3) := by decide +kernel
theorem dX0_init_36 : decode cX0_init 36 = .ok (.aload_n 0, 1) := by decide +kernel
theorem dX0_init_37 : decode cX0_init 37 = .ok (.bipush 10, 2) := by decide +kernel
theorem dX0_init_39 : decode cX0_init 39 = .ok (.newarray .int, 2) := by decide +kernel
theorem dX0_init_41 : decode cX0_init 41 = .ok (.putfield 24, 3) := by decide +kernel
theorem dX0_init_44 : decode cX0_init 44 = .ok (.aload_n 0, 1) := by decide +kernel
theorem dX0_init_45 : decode cX0_init 45 = .ok (.iconst 5, 1) := by decide +kernel
theorem dX0_init_46 : decode cX0_init 46 = .ok (.newarray .int, 2) := by decide +kernel
theorem dX0_init_48 : decode cX0_init 48 = .ok (.putfield 27, 3) := by decide +kernel
theorem dX0_init_51 : decode cX0_init 51 = .ok (.aload_n 0, 1) := by decide +kernel
theorem dX0_init_52 : decode cX0_init 52 = .ok (.sipush 300, 3) := by decide +kernel
theorem dX0_init_55 : decode cX0_init 55 = .ok (.newarray .int, 2) := by decide +kernel
theorem dX0_init_57 : decode cX0_init 57 = .ok (.putfield 30, 3) := by decide +kernel
theorem dX0_init_60 : decode cX0_init 60 = .ok (.aload_n 0, 1) := by decide +kernel
theorem dX0_init_61 : decode cX0_init 61 = .ok (.sipush 300, 3) := by decide +kernel
theorem dX0_init_64 : decode cX0_init 64 = .ok (.newarray .int, 2) := by decide +kernel
theorem dX0_init_66 : decode cX0_init 66 = .ok (.putfield 33, 3) := by decide +kernel
theorem dX0_init_69 : decode cX0_init 69 = .ok (.aload_n 0, 1) := by decide +kernel
theorem dX0_init_70 : decode cX0_init 70 = .ok (.sipush 300, 3) := by decide +kernel
theorem dX0_init_73 : decode cX0_init 73 = .ok (.newarray .int, 2) := by decide +kernel
theorem dX0_init_75 : decode cX0_init 75 = .ok (.putfield 36, 3) := by decide +kernel
theorem dX0_init_78 : decode cX0_init 78 = .ok (.return_, 1) := by decide +kernel
theorem dX0_open_0 : decode cX0_open 0 = .ok (.aload_n 0, 1) := by decide +kernel
theorem dX0_open_1 : decode cX0_open 1 = .ok (.aload_n 1, 1) := by decide +kernel
theorem dX0_open_2 : decode cX0_open 2 = .ok (.invokevirtual 39, 3) := by decide +kernel
theorem dX0_open_5 : decode cX0_open 5 = .ok (.putfield 45, 3) := by decide +kernel
theorem dX0_open_8 : decode cX0_open 8 = .ok (.aload_n 0, 1) := by decide +kernel
theorem dX0_open_9 : decode cX0_open 9 = .ok (.aload_n 1, 1) := by decide +kernel
theorem dX0_open_10 : decode cX0_open 10 = .ok (.invokevirtual 48, 3) := by decide +kernel
theorem dX0_open_13 : decode cX0_open 13 = .ok (.putfield 51, 3) := by decide +kernel
theorem dX0_open_16 : decode cX0_open 16 = .ok (.iconst 0, 1) := by decide +kernel
theorem dX0_open_17 : decode cX0_open 17 = .ok (.istore_n 2, 1) := by decide +kernel
theorem dX0_open_18 : decode cX0_open 18 = .ok (.iload_n 2, 1) := by decide +kernel
theorem dX0_open_19 : decode cX0_open 19 = .ok (.aload_n 0, 1) := by decide +kernel
theorem dX0_open_20 : decode cX0_open 20 = .ok (.getfield 51, 3) := by decide +kernel
theorem dX0_open_23 : decode cX0_open 23 = .ok (.if_icmp .ge 42, 3) := by decide +kernel
theorem dX0_open_26 : decode cX0_open 26 = .ok (.aload_n 0, 1) := by decide +kernel
theorem dX0_open_27 : decode cX0_open 27 = .ok (.getfield 9, 3) := by decide +kernel
theorem dX0_open_30 : decode cX0_open 30 = .ok (.iload_n 2, 1) := by decide +kernel
theorem dX0_open_31 : decode cX0_open 31 = .ok (.aload_n 1, 1) := by decide +kernel
theorem dX0_open_32 : decode cX0_open 32 = .ok (.iload_n 2, 1) := by decide +kernel
theorem dX0_open_33 : decode cX0_open 33 = .ok (.invokevirtual 53, 3) := by decide +kernel
theorem dX0_open_36 : decode cX0_open 36 = .ok (.iastore, 1) := by decide +kernel
theorem dX0_open_37 : decode cX0_open 37 = .ok (.aload_n 0, 1) := by decide +kernel
theorem dX0_open_38 : decode cX0_open 38 = .ok (.getfield 15, 3) := by decide +kernel
theorem dX0_open_41 : decode cX0_open 41 = .ok (.iload_n 2, 1) := by decide +kernel
theorem dX0_open_42 : decode cX0_open 42 = .ok (.aload_n 1, 1) := by decide +kernel
theorem dX0_open_43 : decode cX0_open 43 = .ok (.iload_n 2, 1) := by decide +kernel
theorem dX0_open_44 : decode cX0_open 44 = .ok (.invokevirtual 57, 3) := by decide +kernel
theorem dX0_open_47 : decode cX0_open 47 = .ok (.iastore, 1) := by decide +kernel
theorem dX0_open_48 : decode cX0_open 48 = .ok (.aload_n 0, 1) := by decide +kernel
theorem dX0_open_49 : decode cX0_open 49 = .ok (.getfield 18, 3) := by decide +kernel
theorem dX0_open_52 : decode cX0_open 52 = .ok (.iload_n 2, 1) := by decide +kernel
theorem dX0_open_53 : decode cX0_open 53 = .ok (.aload_n 1, 1) := by decide +kernel
theorem dX0_open_54 : decode cX0_open 54 = .ok (.iload_n 2, 1) := by decide +kernel
theorem dX0_open_55 : decode cX0_open 55 = .ok (.invokevirtual 60, 3) := by decide +kernel
theorem dX0_open_58 : decode cX0_open 58 = .ok (.iastore, 1) := by decide +kernel
theorem dX0_open_59 : decode cX0_open 59 = .ok (.iinc 2 1, 3) := by decide +kernel
theorem dX0_open_62 : decode cX0_open 62 = .ok (.goto (-44), 3) := by decide +kernel
theorem dX0_open_65 : decode cX0_open 65 = .ok (.aload_n 0, 1) := by decide +kernel
theorem dX0_open_66 : decode cX0_open 66 = .ok (.bipush 99, 2) := by decide +kernel
theorem dX0_open_68 : decode cX0_open 68 = .ok (.putfield 63, 3) := by decide +kernel
theorem dX0_open_71 : decode cX0_open 71 = .ok (.aload_n 0, 1) := by decide +kernel
theorem dX0_open_72 : decode cX0_open 72 = .ok (.aload_n 0, 1) := by decide +kernel
theorem dX0_open_73 : decode cX0_open 73 = .ok (.getfield 66, 3) := by decide +kernel
theorem dX0_open_76 : decode cX0_open 76 = .ok (.invokevirtual 69, 3) := by decide +kernel
theorem dX0_open_79 : decode cX0_open 79 = .ok (.return_, 1) := by decide +kernel
theorem dX0_isOpen_0 : decode cX0_isOpen 0 = .ok (.aload_n 0, 1) := by decide +kernel
theorem dX0_isOpen_1 : decode cX0_isOpen 1 = .ok (.getfield 45, 3) := by decide +kernel
theorem dX0_isOpen_4 : decode cX0_isOpen 4 = .ok (.ifCond .le 7, 3) := by decide +kernel
theorem dX0_isOpen_7 : decode cX0_isOpen 7 = .ok (.iconst 1, 1) := by decide +kernel
theorem dX0_isOpen_8 : decode cX0_isOpen 8 = .ok (.goto 4, 3) := by decide +kernel
theorem dX0_isOpen_11 : decode cX0_isOpen 11 = .ok (.iconst 0, 1) := by decide +kernel
theorem dX0_isOpen_12 : decode cX0_isOpen 12 = .ok (.ireturn, 1) := by decide +kernel
theorem dX0_hasGuest_0 : decode cX0_hasGuest 0 = .ok (.iload_n 1, 1) := by decide +kernel
theorem dX0_hasGuest_1 : decode cX0_hasGuest 1 = .ok (.ifCond .lt 15, 3) := by decide +kernel
theorem dX0_hasGuest_4 : decode cX0_hasGuest 4 = .ok (.iload_n 1, 1) := by decide +kernel
theorem dX0_hasGuest_5 : decode cX0_hasGuest 5 = .ok (.aload_n 0, 1) := by decide +kernel
theorem dX0_hasGuest_6 : decode cX0_hasGuest 6 = .ok (.getfield 45, 3) := by decide +kernel
theorem dX0_hasGuest_9 : decode cX0_hasGuest 9 = .ok (.if_icmp .ge 7, 3) := by decide +kernel
theorem dX0_hasGuest_12 : decode cX0_hasGuest 12 = .ok (.iconst 1, 1) := by decide +kernel
theorem dX0_hasGuest_13 : decode cX0_hasGuest 13 = .ok (.goto 4, 3) := by decide +kernel
theorem dX0_hasGuest_16 : decode cX0_hasGuest 16 = .ok (.iconst 0, 1) := by decide +kernel
theorem dX0_hasGuest_17 : decode cX0_hasGuest 17 = .ok (.ireturn, 1) := by decide +kernel
theorem dX0_hasTale_0 : decode cX0_hasTale 0 = .ok (.iload_n 1, 1) := by decide +kernel
theorem dX0_hasTale_1 : decode cX0_hasTale 1 = .ok (.ifCond .lt 15, 3) := by decide +kernel
theorem dX0_hasTale_4 : decode cX0_hasTale 4 = .ok (.iload_n 1, 1) := by decide +kernel
theorem dX0_hasTale_5 : decode cX0_hasTale 5 = .ok (.aload_n 0, 1) := by decide +kernel
theorem dX0_hasTale_6 : decode cX0_hasTale 6 = .ok (.getfield 51, 3) := by decide +kernel
theorem dX0_hasTale_9 : decode cX0_hasTale 9 = .ok (.if_icmp .ge 7, 3) := by decide +kernel
theorem dX0_hasTale_12 : decode cX0_hasTale 12 = .ok (.iconst 1, 1) := by decide +kernel
theorem dX0_hasTale_13 : decode cX0_hasTale 13 = .ok (.goto 4, 3) := by decide +kernel
theorem dX0_hasTale_16 : decode cX0_hasTale 16 = .ok (.iconst 0, 1) := by decide +kernel
theorem dX0_hasTale_17 : decode cX0_hasTale 17 = .ok (.ireturn, 1) := by decide +kernel
theorem dX0_hasNight_0 : decode cX0_hasNight 0 = .ok (.iload_n 1, 1) := by decide +kernel
theorem dX0_hasNight_1 : decode cX0_hasNight 1 = .ok (.ifCond .lt 15, 3) := by decide +kernel
theorem dX0_hasNight_4 : decode cX0_hasNight 4 = .ok (.iload_n 1, 1) := by decide +kernel
theorem dX0_hasNight_5 : decode cX0_hasNight 5 = .ok (.aload_n 0, 1) := by decide +kernel
theorem dX0_hasNight_6 : decode cX0_hasNight 6 = .ok (.getfield 66, 3) := by decide +kernel
theorem dX0_hasNight_9 : decode cX0_hasNight 9 = .ok (.if_icmp .ge 7, 3) := by decide +kernel
theorem dX0_hasNight_12 : decode cX0_hasNight 12 = .ok (.iconst 1, 1) := by decide +kernel
theorem dX0_hasNight_13 : decode cX0_hasNight 13 = .ok (.goto 4, 3) := by decide +kernel
theorem dX0_hasNight_16 : decode cX0_hasNight 16 = .ok (.iconst 0, 1) := by decide +kernel
theorem dX0_hasNight_17 : decode cX0_hasNight 17 = .ok (.ireturn, 1) := by decide +kernel
theorem dX0_mayBeTold_0 : decode cX0_mayBeTold 0 = .ok (.iload_n 2, 1) := by decide +kernel
theorem dX0_mayBeTold_1 : decode cX0_mayBeTold 1 = .ok (.ifCond .ne 5, 3) := by decide +kernel
theorem dX0_mayBeTold_4 : decode cX0_mayBeTold 4 = .ok (.iconst 1, 1) := by decide +kernel
theorem dX0_mayBeTold_5 : decode cX0_mayBeTold 5 = .ok (.ireturn, 1) := by decide +kernel
theorem dX0_mayBeTold_6 : decode cX0_mayBeTold 6 = .ok (.aload_n 0, 1) := by decide +kernel
theorem dX0_mayBeTold_7 : decode cX0_mayBeTold 7 = .ok (.getfield 9, 3) := by decide +kernel
theorem dX0_mayBeTold_10 : decode cX0_mayBeTold 10 = .ok (.iload_n 1, 1) := by decide +kernel
theorem dX0_mayBeTold_11 : decode cX0_mayBeTold 11 = .ok (.iaload, 1) := by decide +kernel
theorem dX0_mayBeTold_12 : decode cX0_mayBeTold 12 = .ok (.lookupswitch 44 #[(1, 28), (2, 42)], 28) := by decide +kernel
theorem dX0_mayBeTold_40 : decode cX0_mayBeTold 40 = .ok (.iload_n 3, 1) := by decide +kernel
theorem dX0_mayBeTold_41 : decode cX0_mayBeTold 41 = .ok (.iload 4, 2) := by decide +kernel
theorem dX0_mayBeTold_43 : decode cX0_mayBeTold 43 = .ok (.iconst 1, 1) := by decide +kernel
theorem dX0_mayBeTold_44 : decode cX0_mayBeTold 44 = .ok (.isub, 1) := by decide +kernel
theorem dX0_mayBeTold_45 : decode cX0_mayBeTold 45 = .ok (.if_icmp .eq 7, 3) := by decide +kernel
theorem dX0_mayBeTold_48 : decode cX0_mayBeTold 48 = .ok (.iconst 1, 1) := by decide +kernel
theorem dX0_mayBeTold_49 : decode cX0_mayBeTold 49 = .ok (.goto 4, 3) := by decide +kernel
theorem dX0_mayBeTold_52 : decode cX0_mayBeTold 52 = .ok (.iconst 0, 1) := by decide +kernel
theorem dX0_mayBeTold_53 : decode cX0_mayBeTold 53 = .ok (.ireturn, 1) := by decide +kernel
theorem dX0_mayBeTold_54 : decode cX0_mayBeTold 54 = .ok (.iconst 0, 1) := by decide +kernel
theorem dX0_mayBeTold_55 : decode cX0_mayBeTold 55 = .ok (.ireturn, 1) := by decide +kernel
theorem dX0_mayBeTold_56 : decode cX0_mayBeTold 56 = .ok (.iload 4, 2) := by decide +kernel
theorem dX0_mayBeTold_58 : decode cX0_mayBeTold 58 = .ok (.iload_n 3, 1) := by decide +kernel
theorem dX0_mayBeTold_59 : decode cX0_mayBeTold 59 = .ok (.iconst 1, 1) := by decide +kernel
theorem dX0_mayBeTold_60 : decode cX0_mayBeTold 60 = .ok (.iadd, 1) := by decide +kernel
theorem dX0_mayBeTold_61 : decode cX0_mayBeTold 61 = .ok (.aload_n 0, 1) := by decide +kernel
theorem dX0_mayBeTold_62 : decode cX0_mayBeTold 62 = .ok (.getfield 63, 3) := by decide +kernel
theorem dX0_mayBeTold_65 : decode cX0_mayBeTold 65 = .ok (.iadd, 1) := by decide +kernel
theorem dX0_mayBeTold_66 : decode cX0_mayBeTold 66 = .ok (.if_icmp .lt 7, 3) := by decide +kernel
theorem dX0_mayBeTold_69 : decode cX0_mayBeTold 69 = .ok (.iconst 1, 1) := by decide +kernel
theorem dX0_mayBeTold_70 : decode cX0_mayBeTold 70 = .ok (.goto 4, 3) := by decide +kernel
theorem dX0_mayBeTold_73 : decode cX0_mayBeTold 73 = .ok (.iconst 0, 1) := by decide +kernel
theorem dX0_mayBeTold_74 : decode cX0_mayBeTold 74 = .ok (.ireturn, 1) := by decide +kernel
theorem dX0_isTellable_0 : decode cX0_isTellable 0 = .ok (.aload_n 0, 1) := by decide +kernel
theorem dX0_isTellable_1 : decode cX0_isTellable 1 = .ok (.iload_n 1, 1) := by decide +kernel
theorem dX0_isTellable_2 : decode cX0_isTellable 2 = .ok (.aload_n 0, 1) := by decide +kernel
theorem dX0_isTellable_3 : decode cX0_isTellable 3 = .ok (.getfield 21, 3) := by decide +kernel
theorem dX0_isTellable_6 : decode cX0_isTellable 6 = .ok (.iload_n 1, 1) := by decide +kernel
theorem dX0_isTellable_7 : decode cX0_isTellable 7 = .ok (.iaload, 1) := by decide +kernel
theorem dX0_isTellable_8 : decode cX0_isTellable 8 = .ok (.aload_n 0, 1) := by decide +kernel
theorem dX0_isTellable_9 : decode cX0_isTellable 9 = .ok (.getfield 24, 3) := by decide +kernel
theorem dX0_isTellable_12 : decode cX0_isTellable 12 = .ok (.iload_n 1, 1) := by decide +kernel
theorem dX0_isTellable_13 : decode cX0_isTellable 13 = .ok (.iaload, 1) := by decide +kernel
theorem dX0_isTellable_14 : decode cX0_isTellable 14 = .ok (.aload_n 0, 1) := by decide +kernel
theorem dX0_isTellable_15 : decode cX0_isTellable 15 = .ok (.getfield 66, 3) := by decide +kernel
theorem dX0_isTellable_18 : decode cX0_isTellable 18 = .ok (.invokevirtual 73, 3) := by decide +kernel
theorem dX0_isTellable_21 : decode cX0_isTellable 21 = .ok (.ireturn, 1) := by decide +kernel
theorem dX0_tallWhenTold_0 : decode cX0_tallWhenTold 0 = .ok (.aload_n 0, 1) := by decide +kernel
theorem dX0_tallWhenTold_1 : decode cX0_tallWhenTold 1 = .ok (.getfield 9, 3) := by decide +kernel
theorem dX0_tallWhenTold_4 : decode cX0_tallWhenTold 4 = .ok (.iload_n 1, 1) := by decide +kernel
theorem dX0_tallWhenTold_5 : decode cX0_tallWhenTold 5 = .ok (.iaload, 1) := by decide +kernel
theorem dX0_tallWhenTold_6 : decode cX0_tallWhenTold 6 = .ok (.lookupswitch 49 #[(1, 26), (2, 38)], 26) := by decide +kernel
theorem dX0_tallWhenTold_32 : decode cX0_tallWhenTold 32 = .ok (.aload_n 0, 1) := by decide +kernel
theorem dX0_tallWhenTold_33 : decode cX0_tallWhenTold 33 = .ok (.getfield 18, 3) := by decide +kernel
theorem dX0_tallWhenTold_36 : decode cX0_tallWhenTold 36 = .ok (.iload_n 1, 1) := by decide +kernel
theorem dX0_tallWhenTold_37 : decode cX0_tallWhenTold 37 = .ok (.iaload, 1) := by decide +kernel
theorem dX0_tallWhenTold_38 : decode cX0_tallWhenTold 38 = .ok (.bipush 10, 2) := by decide +kernel
theorem dX0_tallWhenTold_40 : decode cX0_tallWhenTold 40 = .ok (.iload_n 2, 1) := by decide +kernel
theorem dX0_tallWhenTold_41 : decode cX0_tallWhenTold 41 = .ok (.imul, 1) := by decide +kernel
theorem dX0_tallWhenTold_42 : decode cX0_tallWhenTold 42 = .ok (.iadd, 1) := by decide +kernel
theorem dX0_tallWhenTold_43 : decode cX0_tallWhenTold 43 = .ok (.ireturn, 1) := by decide +kernel
theorem dX0_tallWhenTold_44 : decode cX0_tallWhenTold 44 = .ok (.aload_n 0, 1) := by decide +kernel
theorem dX0_tallWhenTold_45 : decode cX0_tallWhenTold 45 = .ok (.getfield 18, 3) := by decide +kernel
theorem dX0_tallWhenTold_48 : decode cX0_tallWhenTold 48 = .ok (.iload_n 1, 1) := by decide +kernel
theorem dX0_tallWhenTold_49 : decode cX0_tallWhenTold 49 = .ok (.iaload, 1) := by decide +kernel
theorem dX0_tallWhenTold_50 : decode cX0_tallWhenTold 50 = .ok (.sipush 900, 3) := by decide +kernel
theorem dX0_tallWhenTold_53 : decode cX0_tallWhenTold 53 = .ok (.iadd, 1) := by decide +kernel
theorem dX0_tallWhenTold_54 : decode cX0_tallWhenTold 54 = .ok (.ireturn, 1) := by decide +kernel
theorem dX0_tallWhenTold_55 : decode cX0_tallWhenTold 55 = .ok (.aload_n 0, 1) := by decide +kernel
theorem dX0_tallWhenTold_56 : decode cX0_tallWhenTold 56 = .ok (.getfield 18, 3) := by decide +kernel
theorem dX0_tallWhenTold_59 : decode cX0_tallWhenTold 59 = .ok (.iload_n 1, 1) := by decide +kernel
theorem dX0_tallWhenTold_60 : decode cX0_tallWhenTold 60 = .ok (.iaload, 1) := by decide +kernel
theorem dX0_tallWhenTold_61 : decode cX0_tallWhenTold 61 = .ok (.ireturn, 1) := by decide +kernel
theorem dX0_tallOf_0 : decode cX0_tallOf 0 = .ok (.aload_n 0, 1) := by decide +kernel
theorem dX0_tallOf_1 : decode cX0_tallOf 1 = .ok (.iload_n 1, 1) := by decide +kernel
theorem dX0_tallOf_2 : decode cX0_tallOf 2 = .ok (.aload_n 0, 1) := by decide +kernel
theorem dX0_tallOf_3 : decode cX0_tallOf 3 = .ok (.getfield 21, 3) := by decide +kernel
theorem dX0_tallOf_6 : decode cX0_tallOf 6 = .ok (.iload_n 1, 1) := by decide +kernel
theorem dX0_tallOf_7 : decode cX0_tallOf 7 = .ok (.iaload, 1) := by decide +kernel
theorem dX0_tallOf_8 : decode cX0_tallOf 8 = .ok (.invokevirtual 77, 3) := by decide +kernel
theorem dX0_tallOf_11 : decode cX0_tallOf 11 = .ok (.ireturn, 1) := by decide +kernel
theorem dX0_isOffered_0 : decode cX0_isOffered 0 = .ok (.aload_n 0, 1) := by decide +kernel
theorem dX0_isOffered_1 : decode cX0_isOffered 1 = .ok (.iload_n 2, 1) := by decide +kernel
theorem dX0_isOffered_2 : decode cX0_isOffered 2 = .ok (.invokevirtual 81, 3) := by decide +kernel
theorem dX0_isOffered_5 : decode cX0_isOffered 5 = .ok (.ifCond .ne 5, 3) := by decide +kernel
theorem dX0_isOffered_8 : decode cX0_isOffered 8 = .ok (.iconst 0, 1) := by decide +kernel
theorem dX0_isOffered_9 : decode cX0_isOffered 9 = .ok (.ireturn, 1) := by decide +kernel
theorem dX0_isOffered_10 : decode cX0_isOffered 10 = .ok (.aload_n 0, 1) := by decide +kernel
theorem dX0_isOffered_11 : decode cX0_isOffered 11 = .ok (.getfield 15, 3) := by decide +kernel
theorem dX0_isOffered_14 : decode cX0_isOffered 14 = .ok (.iload_n 2, 1) := by decide +kernel
theorem dX0_isOffered_15 : decode cX0_isOffered 15 = .ok (.iaload, 1) := by decide +kernel
theorem dX0_isOffered_16 : decode cX0_isOffered 16 = .ok (.istore 4, 2) := by decide +kernel
theorem dX0_isOffered_18 : decode cX0_isOffered 18 = .ok (.iload_n 3, 1) := by decide +kernel
theorem dX0_isOffered_19 : decode cX0_isOffered 19 = .ok (.ifCond .eq 28, 3) := by decide +kernel
theorem dX0_isOffered_22 : decode cX0_isOffered 22 = .ok (.iload 4, 2) := by decide +kernel
theorem dX0_isOffered_24 : decode cX0_isOffered 24 = .ok (.iload_n 1, 1) := by decide +kernel
theorem dX0_isOffered_25 : decode cX0_isOffered 25 = .ok (.if_icmp .eq 18, 3) := by decide +kernel
theorem dX0_isOffered_28 : decode cX0_isOffered 28 = .ok (.aload_n 0, 1) := by decide +kernel
theorem dX0_isOffered_29 : decode cX0_isOffered 29 = .ok (.getfield 27, 3) := by decide +kernel
theorem dX0_isOffered_32 : decode cX0_isOffered 32 = .ok (.iload 4, 2) := by decide +kernel
theorem dX0_isOffered_34 : decode cX0_isOffered 34 = .ok (.iaload, 1) := by decide +kernel
theorem dX0_isOffered_35 : decode cX0_isOffered 35 = .ok (.iload_n 2, 1) := by decide +kernel
theorem dX0_isOffered_36 : decode cX0_isOffered 36 = .ok (.if_icmp .eq 7, 3) := by decide +kernel
theorem dX0_isOffered_39 : decode cX0_isOffered 39 = .ok (.iconst 1, 1) := by decide +kernel
theorem dX0_isOffered_40 : decode cX0_isOffered 40 = .ok (.goto 18, 3) := by decide +kernel
theorem dX0_isOffered_43 : decode cX0_isOffered 43 = .ok (.iconst 0, 1) := by decide +kernel
theorem dX0_isOffered_44 : decode cX0_isOffered 44 = .ok (.goto 14, 3) := by decide +kernel
theorem dX0_isOffered_47 : decode cX0_isOffered 47 = .ok (.iload 4, 2) := by decide +kernel
theorem dX0_isOffered_49 : decode cX0_isOffered 49 = .ok (.iload_n 1, 1) := by decide +kernel
theorem dX0_isOffered_50 : decode cX0_isOffered 50 = .ok (.if_icmp .ne 7, 3) := by decide +kernel
theorem dX0_isOffered_53 : decode cX0_isOffered 53 = .ok (.iconst 1, 1) := by decide +kernel
theorem dX0_isOffered_54 : decode cX0_isOffered 54 = .ok (.goto 4, 3) := by decide +kernel
theorem dX0_isOffered_57 : decode cX0_isOffered 57 = .ok (.iconst 0, 1) := by decide +kernel
theorem dX0_isOffered_58 : decode cX0_isOffered 58 = .ok (.ireturn, 1) := by decide +kernel
theorem dX0_tallsAsChosen_0 : decode cX0_tallsAsChosen 0 = .ok (.aload_n 1, 1) := by decide +kernel
theorem dX0_tallsAsChosen_1 : decode cX0_tallsAsChosen 1 = .ok (.aload_n 0, 1) := by decide +kernel
theorem dX0_tallsAsChosen_2 : decode cX0_tallsAsChosen 2 = .ok (.getfield 45, 3) := by decide +kernel
theorem dX0_tallsAsChosen_5 : decode cX0_tallsAsChosen 5 = .ok (.putfield 85, 3) := by decide +kernel
theorem dX0_tallsAsChosen_8 : decode cX0_tallsAsChosen 8 = .ok (.iconst 0, 1) := by decide +kernel
theorem dX0_tallsAsChosen_9 : decode cX0_tallsAsChosen 9 = .ok (.istore_n 2, 1) := by decide +kernel
theorem dX0_tallsAsChosen_10 : decode cX0_tallsAsChosen 10 = .ok (.iload_n 2, 1) := by decide +kernel
theorem dX0_tallsAsChosen_11 : decode cX0_tallsAsChosen 11 = .ok (.aload_n 0, 1) := by decide +kernel
theorem dX0_tallsAsChosen_12 : decode cX0_tallsAsChosen 12 = .ok (.getfield 45, 3) := by decide +kernel
theorem dX0_tallsAsChosen_15 : decode cX0_tallsAsChosen 15 = .ok (.if_icmp .ge 42, 3) := by decide +kernel
theorem dX0_tallsAsChosen_18 : decode cX0_tallsAsChosen 18 = .ok (.aload_n 1, 1) := by decide +kernel
theorem dX0_tallsAsChosen_19 : decode cX0_tallsAsChosen 19 = .ok (.getfield 88, 3) := by decide +kernel
theorem dX0_tallsAsChosen_22 : decode cX0_tallsAsChosen 22 = .ok (.iload_n 2, 1) := by decide +kernel
theorem dX0_tallsAsChosen_23 : decode cX0_tallsAsChosen 23 = .ok (.aload_n 0, 1) := by decide +kernel
theorem dX0_tallsAsChosen_24 : decode cX0_tallsAsChosen 24 = .ok (.aload_n 0, 1) := by decide +kernel
theorem dX0_tallsAsChosen_25 : decode cX0_tallsAsChosen 25 = .ok (.getfield 27, 3) := by decide +kernel
theorem dX0_tallsAsChosen_28 : decode cX0_tallsAsChosen 28 = .ok (.iload_n 2, 1) := by decide +kernel
theorem dX0_tallsAsChosen_29 : decode cX0_tallsAsChosen 29 = .ok (.iaload, 1) := by decide +kernel
theorem dX0_tallsAsChosen_30 : decode cX0_tallsAsChosen 30 = .ok (.invokevirtual 91, 3) := by decide +kernel
theorem dX0_tallsAsChosen_33 : decode cX0_tallsAsChosen 33 = .ok (.ifCond .eq 16, 3) := by decide +kernel
theorem dX0_tallsAsChosen_36 : decode cX0_tallsAsChosen 36 = .ok (.aload_n 0, 1) := by decide +kernel
theorem dX0_tallsAsChosen_37 : decode cX0_tallsAsChosen 37 = .ok (.aload_n 0, 1) := by decide +kernel
theorem dX0_tallsAsChosen_38 : decode cX0_tallsAsChosen 38 = .ok (.getfield 27, 3) := by decide +kernel
theorem dX0_tallsAsChosen_41 : decode cX0_tallsAsChosen 41 = .ok (.iload_n 2, 1) := by decide +kernel
theorem dX0_tallsAsChosen_42 : decode cX0_tallsAsChosen 42 = .ok (.iaload, 1) := by decide +kernel
theorem dX0_tallsAsChosen_43 : decode cX0_tallsAsChosen 43 = .ok (.invokevirtual 94, 3) := by decide +kernel
theorem dX0_tallsAsChosen_46 : decode cX0_tallsAsChosen 46 = .ok (.goto 4, 3) := by decide +kernel
theorem dX0_tallsAsChosen_49 : decode cX0_tallsAsChosen 49 = .ok (.iconst 0, 1) := by decide +kernel
theorem dX0_tallsAsChosen_50 : decode cX0_tallsAsChosen 50 = .ok (.iastore, 1) := by decide +kernel
theorem dX0_tallsAsChosen_51 : decode cX0_tallsAsChosen 51 = .ok (.iinc 2 1, 3) := by decide +kernel
theorem dX0_tallsAsChosen_54 : decode cX0_tallsAsChosen 54 = .ok (.goto (-44), 3) := by decide +kernel
theorem dX0_tallsAsChosen_57 : decode cX0_tallsAsChosen 57 = .ok (.return_, 1) := by decide +kernel
theorem dX0_tallsOfNight_0 : decode cX0_tallsOfNight 0 = .ok (.aload_n 2, 1) := by decide +kernel
theorem dX0_tallsOfNight_1 : decode cX0_tallsOfNight 1 = .ok (.aload_n 0, 1) := by decide +kernel
theorem dX0_tallsOfNight_2 : decode cX0_tallsOfNight 2 = .ok (.getfield 45, 3) := by decide +kernel
theorem dX0_tallsOfNight_5 : decode cX0_tallsOfNight 5 = .ok (.putfield 85, 3) := by decide +kernel
theorem dX0_tallsOfNight_8 : decode cX0_tallsOfNight 8 = .ok (.iconst 0, 1) := by decide +kernel
theorem dX0_tallsOfNight_9 : decode cX0_tallsOfNight 9 = .ok (.istore_n 3, 1) := by decide +kernel
theorem dX0_tallsOfNight_10 : decode cX0_tallsOfNight 10 = .ok (.iload_n 3, 1) := by decide +kernel
theorem dX0_tallsOfNight_11 : decode cX0_tallsOfNight 11 = .ok (.aload_n 0, 1) := by decide +kernel
theorem dX0_tallsOfNight_12 : decode cX0_tallsOfNight 12 = .ok (.getfield 45, 3) := by decide +kernel
theorem dX0_tallsOfNight_15 : decode cX0_tallsOfNight 15 = .ok (.if_icmp .ge 25, 3) := by decide +kernel
theorem dX0_tallsOfNight_18 : decode cX0_tallsOfNight 18 = .ok (.aload_n 2, 1) := by decide +kernel
theorem dX0_tallsOfNight_19 : decode cX0_tallsOfNight 19 = .ok (.getfield 88, 3) := by decide +kernel
theorem dX0_tallsOfNight_22 : decode cX0_tallsOfNight 22 = .ok (.iload_n 3, 1) := by decide +kernel
theorem dX0_tallsOfNight_23 : decode cX0_tallsOfNight 23 = .ok (.aload_n 0, 1) := by decide +kernel
theorem dX0_tallsOfNight_24 : decode cX0_tallsOfNight 24 = .ok (.getfield 36, 3) := by decide +kernel
theorem dX0_tallsOfNight_27 : decode cX0_tallsOfNight 27 = .ok (.iload_n 1, 1) := by decide +kernel
theorem dX0_tallsOfNight_28 : decode cX0_tallsOfNight 28 = .ok (.iconst 5, 1) := by decide +kernel
theorem dX0_tallsOfNight_29 : decode cX0_tallsOfNight 29 = .ok (.imul, 1) := by decide +kernel
theorem dX0_tallsOfNight_30 : decode cX0_tallsOfNight 30 = .ok (.iload_n 3, 1) := by decide +kernel
theorem dX0_tallsOfNight_31 : decode cX0_tallsOfNight 31 = .ok (.iadd, 1) := by decide +kernel
theorem dX0_tallsOfNight_32 : decode cX0_tallsOfNight 32 = .ok (.iaload, 1) := by decide +kernel
theorem dX0_tallsOfNight_33 : decode cX0_tallsOfNight 33 = .ok (.iastore, 1) := by decide +kernel
theorem dX0_tallsOfNight_34 : decode cX0_tallsOfNight 34 = .ok (.iinc 3 1, 3) := by decide +kernel
theorem dX0_tallsOfNight_37 : decode cX0_tallsOfNight 37 = .ok (.goto (-27), 3) := by decide +kernel
theorem dX0_tallsOfNight_40 : decode cX0_tallsOfNight 40 = .ok (.return_, 1) := by decide +kernel
theorem dX0_goBy_0 : decode cX0_goBy 0 = .ok (.bipush (-9), 2) := by decide +kernel
theorem dX0_goBy_2 : decode cX0_goBy 2 = .ok (.istore_n 2, 1) := by decide +kernel
theorem dX0_goBy_3 : decode cX0_goBy 3 = .ok (.iconst 0, 1) := by decide +kernel
theorem dX0_goBy_4 : decode cX0_goBy 4 = .ok (.istore_n 3, 1) := by decide +kernel
theorem dX0_goBy_5 : decode cX0_goBy 5 = .ok (.iload_n 3, 1) := by decide +kernel
theorem dX0_goBy_6 : decode cX0_goBy 6 = .ok (.aload_n 0, 1) := by decide +kernel
theorem dX0_goBy_7 : decode cX0_goBy 7 = .ok (.getfield 45, 3) := by decide +kernel
theorem dX0_goBy_10 : decode cX0_goBy 10 = .ok (.if_icmp .ge 75, 3) := by decide +kernel
theorem dX0_goBy_13 : decode cX0_goBy 13 = .ok (.aload_n 0, 1) := by decide +kernel
theorem dX0_goBy_14 : decode cX0_goBy 14 = .ok (.getfield 66, 3) := by decide +kernel
theorem dX0_goBy_17 : decode cX0_goBy 17 = .ok (.iconst 5, 1) := by decide +kernel
theorem dX0_goBy_18 : decode cX0_goBy 18 = .ok (.imul, 1) := by decide +kernel
theorem dX0_goBy_19 : decode cX0_goBy 19 = .ok (.iload_n 3, 1) := by decide +kernel
theorem dX0_goBy_20 : decode cX0_goBy 20 = .ok (.iadd, 1) := by decide +kernel
theorem dX0_goBy_21 : decode cX0_goBy 21 = .ok (.istore 4, 2) := by decide +kernel
theorem dX0_goBy_23 : decode cX0_goBy 23 = .ok (.aload_n 0, 1) := by decide +kernel
theorem dX0_goBy_24 : decode cX0_goBy 24 = .ok (.getfield 30, 3) := by decide +kernel
theorem dX0_goBy_27 : decode cX0_goBy 27 = .ok (.iload 4, 2) := by decide +kernel
theorem dX0_goBy_29 : decode cX0_goBy 29 = .ok (.aload_n 0, 1) := by decide +kernel
theorem dX0_goBy_30 : decode cX0_goBy 30 = .ok (.getfield 27, 3) := by decide +kernel
theorem dX0_goBy_33 : decode cX0_goBy 33 = .ok (.iload_n 3, 1) := by decide +kernel
theorem dX0_goBy_34 : decode cX0_goBy 34 = .ok (.iaload, 1) := by decide +kernel
theorem dX0_goBy_35 : decode cX0_goBy 35 = .ok (.iastore, 1) := by decide +kernel
theorem dX0_goBy_36 : decode cX0_goBy 36 = .ok (.aload_n 0, 1) := by decide +kernel
theorem dX0_goBy_37 : decode cX0_goBy 37 = .ok (.getfield 36, 3) := by decide +kernel
theorem dX0_goBy_40 : decode cX0_goBy 40 = .ok (.iload 4, 2) := by decide +kernel
theorem dX0_goBy_42 : decode cX0_goBy 42 = .ok (.aload_n 1, 1) := by decide +kernel
theorem dX0_goBy_43 : decode cX0_goBy 43 = .ok (.getfield 88, 3) := by decide +kernel
theorem dX0_goBy_46 : decode cX0_goBy 46 = .ok (.iload_n 3, 1) := by decide +kernel
theorem dX0_goBy_47 : decode cX0_goBy 47 = .ok (.iaload, 1) := by decide +kernel
theorem dX0_goBy_48 : decode cX0_goBy 48 = .ok (.iastore, 1) := by decide +kernel
theorem dX0_goBy_49 : decode cX0_goBy 49 = .ok (.aload_n 0, 1) := by decide +kernel
theorem dX0_goBy_50 : decode cX0_goBy 50 = .ok (.getfield 33, 3) := by decide +kernel
theorem dX0_goBy_53 : decode cX0_goBy 53 = .ok (.iload 4, 2) := by decide +kernel
theorem dX0_goBy_55 : decode cX0_goBy 55 = .ok (.aload_n 1, 1) := by decide +kernel
theorem dX0_goBy_56 : decode cX0_goBy 56 = .ok (.iload_n 3, 1) := by decide +kernel
theorem dX0_goBy_57 : decode cX0_goBy 57 = .ok (.aload_n 1, 1) := by decide +kernel
theorem dX0_goBy_58 : decode cX0_goBy 58 = .ok (.getfield 88, 3) := by decide +kernel
theorem dX0_goBy_61 : decode cX0_goBy 61 = .ok (.iload_n 3, 1) := by decide +kernel
theorem dX0_goBy_62 : decode cX0_goBy 62 = .ok (.iaload, 1) := by decide +kernel
theorem dX0_goBy_63 : decode cX0_goBy 63 = .ok (.invokevirtual 97, 3) := by decide +kernel
theorem dX0_goBy_66 : decode cX0_goBy 66 = .ok (.iastore, 1) := by decide +kernel
theorem dX0_goBy_67 : decode cX0_goBy 67 = .ok (.aload_n 0, 1) := by decide +kernel
theorem dX0_goBy_68 : decode cX0_goBy 68 = .ok (.getfield 33, 3) := by decide +kernel
theorem dX0_goBy_71 : decode cX0_goBy 71 = .ok (.iload 4, 2) := by decide +kernel
theorem dX0_goBy_73 : decode cX0_goBy 73 = .ok (.iaload, 1) := by decide +kernel
theorem dX0_goBy_74 : decode cX0_goBy 74 = .ok (.ifCond .ne 5, 3) := by decide +kernel
theorem dX0_goBy_77 : decode cX0_goBy 77 = .ok (.iload_n 3, 1) := by decide +kernel
theorem dX0_goBy_78 : decode cX0_goBy 78 = .ok (.istore_n 2, 1) := by decide +kernel
theorem dX0_goBy_79 : decode cX0_goBy 79 = .ok (.iinc 3 1, 3) := by decide +kernel
theorem dX0_goBy_82 : decode cX0_goBy 82 = .ok (.goto (-77), 3) := by decide +kernel
theorem dX0_goBy_85 : decode cX0_goBy 85 = .ok (.iconst 0, 1) := by decide +kernel
theorem dX0_goBy_86 : decode cX0_goBy 86 = .ok (.istore_n 3, 1) := by decide +kernel
theorem dX0_goBy_87 : decode cX0_goBy 87 = .ok (.iload_n 3, 1) := by decide +kernel
theorem dX0_goBy_88 : decode cX0_goBy 88 = .ok (.aload_n 0, 1) := by decide +kernel
theorem dX0_goBy_89 : decode cX0_goBy 89 = .ok (.getfield 45, 3) := by decide +kernel
theorem dX0_goBy_92 : decode cX0_goBy 92 = .ok (.if_icmp .ge 23, 3) := by decide +kernel
theorem dX0_goBy_95 : decode cX0_goBy 95 = .ok (.aload_n 0, 1) := by decide +kernel
theorem dX0_goBy_96 : decode cX0_goBy 96 = .ok (.aload_n 0, 1) := by decide +kernel
theorem dX0_goBy_97 : decode cX0_goBy 97 = .ok (.getfield 27, 3) := by decide +kernel
theorem dX0_goBy_100 : decode cX0_goBy 100 = .ok (.iload_n 3, 1) := by decide +kernel
theorem dX0_goBy_101 : decode cX0_goBy 101 = .ok (.iaload, 1) := by decide +kernel
theorem dX0_goBy_102 : decode cX0_goBy 102 = .ok (.aload_n 0, 1) := by decide +kernel
theorem dX0_goBy_103 : decode cX0_goBy 103 = .ok (.getfield 66, 3) := by decide +kernel
theorem dX0_goBy_106 : decode cX0_goBy 106 = .ok (.invokevirtual 100, 3) := by decide +kernel
theorem dX0_goBy_109 : decode cX0_goBy 109 = .ok (.iinc 3 1, 3) := by decide +kernel
theorem dX0_goBy_112 : decode cX0_goBy 112 = .ok (.goto (-25), 3) := by decide +kernel
theorem dX0_goBy_115 : decode cX0_goBy 115 = .ok (.aload_n 0, 1) := by decide +kernel
theorem dX0_goBy_116 : decode cX0_goBy 116 = .ok (.dup, 1) := by decide +kernel
theorem dX0_goBy_117 : decode cX0_goBy 117 = .ok (.getfield 66, 3) := by decide +kernel
theorem dX0_goBy_120 : decode cX0_goBy 120 = .ok (.iconst 1, 1) := by decide +kernel
theorem dX0_goBy_121 : decode cX0_goBy 121 = .ok (.iadd, 1) := by decide +kernel
theorem dX0_goBy_122 : decode cX0_goBy 122 = .ok (.putfield 66, 3) := by decide +kernel
theorem dX0_goBy_125 : decode cX0_goBy 125 = .ok (.aload_n 0, 1) := by decide +kernel
theorem dX0_goBy_126 : decode cX0_goBy 126 = .ok (.getfield 27, 3) := by decide +kernel
theorem dX0_goBy_129 : decode cX0_goBy 129 = .ok (.bipush (-9), 2) := by decide +kernel
theorem dX0_goBy_131 : decode cX0_goBy 131 = .ok (.invokestatic 104, 3) := by decide +kernel
theorem dX0_goBy_134 : decode cX0_goBy 134 = .ok (.iload_n 2, 1) := by decide +kernel
theorem dX0_goBy_135 : decode cX0_goBy 135 = .ok (.ireturn, 1) := by decide +kernel
theorem dX0_keepTold_0 : decode cX0_keepTold 0 = .ok (.aload_n 0, 1) := by decide +kernel
theorem dX0_keepTold_1 : decode cX0_keepTold 1 = .ok (.iload_n 1, 1) := by decide +kernel
theorem dX0_keepTold_2 : decode cX0_keepTold 2 = .ok (.invokevirtual 91, 3) := by decide +kernel
theorem dX0_keepTold_5 : decode cX0_keepTold 5 = .ok (.ifCond .ne 4, 3) := by decide +kernel
theorem dX0_keepTold_8 : decode cX0_keepTold 8 = .ok (.return_, 1) := by decide +kernel
theorem dX0_keepTold_9 : decode cX0_keepTold 9 = .ok (.aload_n 0, 1) := by decide +kernel
theorem dX0_keepTold_10 : decode cX0_keepTold 10 = .ok (.getfield 21, 3) := by decide +kernel
theorem dX0_keepTold_13 : decode cX0_keepTold 13 = .ok (.iload_n 1, 1) := by decide +kernel
theorem dX0_keepTold_14 : decode cX0_keepTold 14 = .ok (.dup2, 1) := by decide +kernel
theorem dX0_keepTold_15 : decode cX0_keepTold 15 = .ok (.iaload, 1) := by decide +kernel
theorem dX0_keepTold_16 : decode cX0_keepTold 16 = .ok (.iconst 1, 1) := by decide +kernel
theorem dX0_keepTold_17 : decode cX0_keepTold 17 = .ok (.iadd, 1) := by decide +kernel
theorem dX0_keepTold_18 : decode cX0_keepTold 18 = .ok (.iastore, 1) := by decide +kernel
theorem dX0_keepTold_19 : decode cX0_keepTold 19 = .ok (.aload_n 0, 1) := by decide +kernel
theorem dX0_keepTold_20 : decode cX0_keepTold 20 = .ok (.getfield 24, 3) := by decide +kernel
theorem dX0_keepTold_23 : decode cX0_keepTold 23 = .ok (.iload_n 1, 1) := by decide +kernel
theorem dX0_keepTold_24 : decode cX0_keepTold 24 = .ok (.iload_n 2, 1) := by decide +kernel
theorem dX0_keepTold_25 : decode cX0_keepTold 25 = .ok (.iastore, 1) := by decide +kernel
theorem dX0_keepTold_26 : decode cX0_keepTold 26 = .ok (.return_, 1) := by decide +kernel
theorem dX0_goBack_0 : decode cX0_goBack 0 = .ok (.aload_n 0, 1) := by decide +kernel
theorem dX0_goBack_1 : decode cX0_goBack 1 = .ok (.dup, 1) := by decide +kernel
theorem dX0_goBack_2 : decode cX0_goBack 2 = .ok (.getfield 66, 3) := by decide +kernel
theorem dX0_goBack_5 : decode cX0_goBack 5 = .ok (.iload_n 1, 1) := by decide +kernel
theorem dX0_goBack_6 : decode cX0_goBack 6 = .ok (.isub, 1) := by decide +kernel
theorem dX0_goBack_7 : decode cX0_goBack 7 = .ok (.putfield 66, 3) := by decide +kernel
theorem dX0_goBack_10 : decode cX0_goBack 10 = .ok (.aload_n 0, 1) := by decide +kernel
theorem dX0_goBack_11 : decode cX0_goBack 11 = .ok (.getfield 27, 3) := by decide +kernel
theorem dX0_goBack_14 : decode cX0_goBack 14 = .ok (.bipush (-9), 2) := by decide +kernel
theorem dX0_goBack_16 : decode cX0_goBack 16 = .ok (.invokestatic 104, 3) := by decide +kernel
theorem dX0_goBack_19 : decode cX0_goBack 19 = .ok (.aload_n 0, 1) := by decide +kernel
theorem dX0_goBack_20 : decode cX0_goBack 20 = .ok (.getfield 21, 3) := by decide +kernel
theorem dX0_goBack_23 : decode cX0_goBack 23 = .ok (.iconst 0, 1) := by decide +kernel
theorem dX0_goBack_24 : decode cX0_goBack 24 = .ok (.invokestatic 104, 3) := by decide +kernel
theorem dX0_goBack_27 : decode cX0_goBack 27 = .ok (.aload_n 0, 1) := by decide +kernel
theorem dX0_goBack_28 : decode cX0_goBack 28 = .ok (.getfield 24, 3) := by decide +kernel
theorem dX0_goBack_31 : decode cX0_goBack 31 = .ok (.bipush (-9), 2) := by decide +kernel
theorem dX0_goBack_33 : decode cX0_goBack 33 = .ok (.invokestatic 104, 3) := by decide +kernel
theorem dX0_goBack_36 : decode cX0_goBack 36 = .ok (.iconst 0, 1) := by decide +kernel
theorem dX0_goBack_37 : decode cX0_goBack 37 = .ok (.istore_n 2, 1) := by decide +kernel
theorem dX0_goBack_38 : decode cX0_goBack 38 = .ok (.iload_n 2, 1) := by decide +kernel
theorem dX0_goBack_39 : decode cX0_goBack 39 = .ok (.aload_n 0, 1) := by decide +kernel
theorem dX0_goBack_40 : decode cX0_goBack 40 = .ok (.getfield 66, 3) := by decide +kernel
theorem dX0_goBack_43 : decode cX0_goBack 43 = .ok (.if_icmp .ge 40, 3) := by decide +kernel
theorem dX0_goBack_46 : decode cX0_goBack 46 = .ok (.iconst 0, 1) := by decide +kernel
theorem dX0_goBack_47 : decode cX0_goBack 47 = .ok (.istore_n 3, 1) := by decide +kernel
theorem dX0_goBack_48 : decode cX0_goBack 48 = .ok (.iload_n 3, 1) := by decide +kernel
theorem dX0_goBack_49 : decode cX0_goBack 49 = .ok (.aload_n 0, 1) := by decide +kernel
theorem dX0_goBack_50 : decode cX0_goBack 50 = .ok (.getfield 45, 3) := by decide +kernel
theorem dX0_goBack_53 : decode cX0_goBack 53 = .ok (.if_icmp .ge 24, 3) := by decide +kernel
theorem dX0_goBack_56 : decode cX0_goBack 56 = .ok (.aload_n 0, 1) := by decide +kernel
theorem dX0_goBack_57 : decode cX0_goBack 57 = .ok (.aload_n 0, 1) := by decide +kernel
theorem dX0_goBack_58 : decode cX0_goBack 58 = .ok (.getfield 30, 3) := by decide +kernel
theorem dX0_goBack_61 : decode cX0_goBack 61 = .ok (.iload_n 2, 1) := by decide +kernel
theorem dX0_goBack_62 : decode cX0_goBack 62 = .ok (.iconst 5, 1) := by decide +kernel
theorem dX0_goBack_63 : decode cX0_goBack 63 = .ok (.imul, 1) := by decide +kernel
theorem dX0_goBack_64 : decode cX0_goBack 64 = .ok (.iload_n 3, 1) := by decide +kernel
theorem dX0_goBack_65 : decode cX0_goBack 65 = .ok (.iadd, 1) := by decide +kernel
theorem dX0_goBack_66 : decode cX0_goBack 66 = .ok (.iaload, 1) := by decide +kernel
theorem dX0_goBack_67 : decode cX0_goBack 67 = .ok (.iload_n 2, 1) := by decide +kernel
theorem dX0_goBack_68 : decode cX0_goBack 68 = .ok (.invokevirtual 100, 3) := by decide +kernel
theorem dX0_goBack_71 : decode cX0_goBack 71 = .ok (.iinc 3 1, 3) := by decide +kernel
theorem dX0_goBack_74 : decode cX0_goBack 74 = .ok (.goto (-26), 3) := by decide +kernel
theorem dX0_goBack_77 : decode cX0_goBack 77 = .ok (.iinc 2 1, 3) := by decide +kernel
theorem dX0_goBack_80 : decode cX0_goBack 80 = .ok (.goto (-42), 3) := by decide +kernel
theorem dX0_goBack_83 : decode cX0_goBack 83 = .ok (.return_, 1) := by decide +kernel
theorem dX0_nightsAt_0 : decode cX0_nightsAt 0 = .ok (.iconst 0, 1) := by decide +kernel
theorem dX0_nightsAt_1 : decode cX0_nightsAt 1 = .ok (.istore_n 3, 1) := by decide +kernel
theorem dX0_nightsAt_2 : decode cX0_nightsAt 2 = .ok (.iconst 0, 1) := by decide +kernel
theorem dX0_nightsAt_3 : decode cX0_nightsAt 3 = .ok (.istore 4, 2) := by decide +kernel
theorem dX0_nightsAt_5 : decode cX0_nightsAt 5 = .ok (.iload 4, 2) := by decide +kernel
theorem dX0_nightsAt_7 : decode cX0_nightsAt 7 = .ok (.aload_n 0, 1) := by decide +kernel
theorem dX0_nightsAt_8 : decode cX0_nightsAt 8 = .ok (.getfield 66, 3) := by decide +kernel
theorem dX0_nightsAt_11 : decode cX0_nightsAt 11 = .ok (.if_icmp .ge 27, 3) := by decide +kernel
theorem dX0_nightsAt_14 : decode cX0_nightsAt 14 = .ok (.aload_n 0, 1) := by decide +kernel
theorem dX0_nightsAt_15 : decode cX0_nightsAt 15 = .ok (.getfield 33, 3) := by decide +kernel
theorem dX0_nightsAt_18 : decode cX0_nightsAt 18 = .ok (.iload 4, 2) := by decide +kernel
theorem dX0_nightsAt_20 : decode cX0_nightsAt 20 = .ok (.iconst 5, 1) := by decide +kernel
theorem dX0_nightsAt_21 : decode cX0_nightsAt 21 = .ok (.imul, 1) := by decide +kernel
theorem dX0_nightsAt_22 : decode cX0_nightsAt 22 = .ok (.iload_n 1, 1) := by decide +kernel
theorem dX0_nightsAt_23 : decode cX0_nightsAt 23 = .ok (.iadd, 1) := by decide +kernel
theorem dX0_nightsAt_24 : decode cX0_nightsAt 24 = .ok (.iaload, 1) := by decide +kernel
theorem dX0_nightsAt_25 : decode cX0_nightsAt 25 = .ok (.iload_n 2, 1) := by decide +kernel
theorem dX0_nightsAt_26 : decode cX0_nightsAt 26 = .ok (.if_icmp .ne 6, 3) := by decide +kernel
theorem dX0_nightsAt_29 : decode cX0_nightsAt 29 = .ok (.iinc 3 1, 3) := by decide +kernel
theorem dX0_nightsAt_32 : decode cX0_nightsAt 32 = .ok (.iinc 4 1, 3) := by decide +kernel
theorem dX0_nightsAt_35 : decode cX0_nightsAt 35 = .ok (.goto (-30), 3) := by decide +kernel
theorem dX0_nightsAt_38 : decode cX0_nightsAt 38 = .ok (.iload_n 3, 1) := by decide +kernel
theorem dX0_nightsAt_39 : decode cX0_nightsAt 39 = .ok (.ireturn, 1) := by decide +kernel
theorem dX0_timesToldBefore_0 : decode cX0_timesToldBefore 0 = .ok (.iconst 0, 1) := by decide +kernel
theorem dX0_timesToldBefore_1 : decode cX0_timesToldBefore 1 = .ok (.istore_n 3, 1) := by decide +kernel
theorem dX0_timesToldBefore_2 : decode cX0_timesToldBefore 2 = .ok (.iconst 0, 1) := by decide +kernel
theorem dX0_timesToldBefore_3 : decode cX0_timesToldBefore 3 = .ok (.istore 4, 2) := by decide +kernel
theorem dX0_timesToldBefore_5 : decode cX0_timesToldBefore 5 = .ok (.iload 4, 2) := by decide +kernel
theorem dX0_timesToldBefore_7 : decode cX0_timesToldBefore 7 = .ok (.iload_n 2, 1) := by decide +kernel
theorem dX0_timesToldBefore_8 : decode cX0_timesToldBefore 8 = .ok (.if_icmp .ge 32, 3) := by decide +kernel
theorem dX0_timesToldBefore_11 : decode cX0_timesToldBefore 11 = .ok (.aload_n 0, 1) := by decide +kernel
theorem dX0_timesToldBefore_12 : decode cX0_timesToldBefore 12 = .ok (.getfield 30, 3) := by decide +kernel
theorem dX0_timesToldBefore_15 : decode cX0_timesToldBefore 15 = .ok (.iload 4, 2) := by decide +kernel
theorem dX0_timesToldBefore_17 : decode cX0_timesToldBefore 17 = .ok (.iconst 5, 1) := by decide +kernel
theorem dX0_timesToldBefore_18 : decode cX0_timesToldBefore 18 = .ok (.imul, 1) := by decide +kernel
theorem dX0_timesToldBefore_19 : decode cX0_timesToldBefore 19 = .ok (.aload_n 0, 1) := by decide +kernel
theorem dX0_timesToldBefore_20 : decode cX0_timesToldBefore 20 = .ok (.getfield 15, 3) := by decide +kernel
theorem dX0_timesToldBefore_23 : decode cX0_timesToldBefore 23 = .ok (.iload_n 1, 1) := by decide +kernel
theorem dX0_timesToldBefore_24 : decode cX0_timesToldBefore 24 = .ok (.iaload, 1) := by decide +kernel
theorem dX0_timesToldBefore_25 : decode cX0_timesToldBefore 25 = .ok (.iadd, 1) := by decide +kernel
theorem dX0_timesToldBefore_26 : decode cX0_timesToldBefore 26 = .ok (.iaload, 1) := by decide +kernel
theorem dX0_timesToldBefore_27 : decode cX0_timesToldBefore 27 = .ok (.iload_n 1, 1) := by decide +kernel
theorem dX0_timesToldBefore_28 : decode cX0_timesToldBefore 28 = .ok (.if_icmp .ne 6, 3) := by decide +kernel
theorem dX0_timesToldBefore_31 : decode cX0_timesToldBefore 31 = .ok (.iinc 3 1, 3) := by decide +kernel
theorem dX0_timesToldBefore_34 : decode cX0_timesToldBefore 34 = .ok (.iinc 4 1, 3) := by decide +kernel
theorem dX0_timesToldBefore_37 : decode cX0_timesToldBefore 37 = .ok (.goto (-32), 3) := by decide +kernel
theorem dX0_timesToldBefore_40 : decode cX0_timesToldBefore 40 = .ok (.iload_n 3, 1) := by decide +kernel
theorem dX0_timesToldBefore_41 : decode cX0_timesToldBefore 41 = .ok (.ireturn, 1) := by decide +kernel
theorem dX0_ownerAfter_0 : decode cX0_ownerAfter 0 = .ok (.iload_n 1, 1) := by decide +kernel
theorem dX0_ownerAfter_1 : decode cX0_ownerAfter 1 = .ok (.iload_n 2, 1) := by decide +kernel
theorem dX0_ownerAfter_2 : decode cX0_ownerAfter 2 = .ok (.if_icmp .ne 10, 3) := by decide +kernel
theorem dX0_ownerAfter_5 : decode cX0_ownerAfter 5 = .ok (.aload_n 0, 1) := by decide +kernel
theorem dX0_ownerAfter_6 : decode cX0_ownerAfter 6 = .ok (.getfield 15, 3) := by decide +kernel
theorem dX0_ownerAfter_9 : decode cX0_ownerAfter 9 = .ok (.iload_n 3, 1) := by decide +kernel
theorem dX0_ownerAfter_10 : decode cX0_ownerAfter 10 = .ok (.iaload, 1) := by decide +kernel
theorem dX0_ownerAfter_11 : decode cX0_ownerAfter 11 = .ok (.ireturn, 1) := by decide +kernel
theorem dX0_ownerAfter_12 : decode cX0_ownerAfter 12 = .ok (.iload_n 1, 1) := by decide +kernel
theorem dX0_ownerAfter_13 : decode cX0_ownerAfter 13 = .ok (.iload_n 3, 1) := by decide +kernel
theorem dX0_ownerAfter_14 : decode cX0_ownerAfter 14 = .ok (.if_icmp .ne 12, 3) := by decide +kernel
theorem dX0_ownerAfter_17 : decode cX0_ownerAfter 17 = .ok (.aload_n 0, 1) := by decide +kernel
theorem dX0_ownerAfter_18 : decode cX0_ownerAfter 18 = .ok (.getfield 15, 3) := by decide +kernel
theorem dX0_ownerAfter_21 : decode cX0_ownerAfter 21 = .ok (.iload_n 2, 1) := by decide +kernel
theorem dX0_ownerAfter_22 : decode cX0_ownerAfter 22 = .ok (.iaload, 1) := by decide +kernel
theorem dX0_ownerAfter_23 : decode cX0_ownerAfter 23 = .ok (.goto 9, 3) := by decide +kernel
theorem dX0_ownerAfter_26 : decode cX0_ownerAfter 26 = .ok (.aload_n 0, 1) := by decide +kernel
theorem dX0_ownerAfter_27 : decode cX0_ownerAfter 27 = .ok (.getfield 15, 3) := by decide +kernel
theorem dX0_ownerAfter_30 : decode cX0_ownerAfter 30 = .ok (.iload_n 1, 1) := by decide +kernel
theorem dX0_ownerAfter_31 : decode cX0_ownerAfter 31 = .ok (.iaload, 1) := by decide +kernel
theorem dX0_ownerAfter_32 : decode cX0_ownerAfter 32 = .ok (.ireturn, 1) := by decide +kernel
theorem dX0_strongAfter_0 : decode cX0_strongAfter 0 = .ok (.iconst 0, 1) := by decide +kernel
theorem dX0_strongAfter_1 : decode cX0_strongAfter 1 = .ok (.istore 4, 2) := by decide +kernel
theorem dX0_strongAfter_3 : decode cX0_strongAfter 3 = .ok (.iconst 0, 1) := by decide +kernel
theorem dX0_strongAfter_4 : decode cX0_strongAfter 4 = .ok (.istore 5, 2) := by decide +kernel
theorem dX0_strongAfter_6 : decode cX0_strongAfter 6 = .ok (.iload 5, 2) := by decide +kernel
theorem dX0_strongAfter_8 : decode cX0_strongAfter 8 = .ok (.aload_n 0, 1) := by decide +kernel
theorem dX0_strongAfter_9 : decode cX0_strongAfter 9 = .ok (.getfield 51, 3) := by decide +kernel
theorem dX0_strongAfter_12 : decode cX0_strongAfter 12 = .ok (.if_icmp .ge 43, 3) := by decide +kernel
theorem dX0_strongAfter_15 : decode cX0_strongAfter 15 = .ok (.aload_n 0, 1) := by decide +kernel
theorem dX0_strongAfter_16 : decode cX0_strongAfter 16 = .ok (.iload 5, 2) := by decide +kernel
theorem dX0_strongAfter_18 : decode cX0_strongAfter 18 = .ok (.invokevirtual 81, 3) := by decide +kernel
theorem dX0_strongAfter_21 : decode cX0_strongAfter 21 = .ok (.ifCond .eq 28, 3) := by decide +kernel
theorem dX0_strongAfter_24 : decode cX0_strongAfter 24 = .ok (.aload_n 0, 1) := by decide +kernel
theorem dX0_strongAfter_25 : decode cX0_strongAfter 25 = .ok (.iload 5, 2) := by decide +kernel
theorem dX0_strongAfter_27 : decode cX0_strongAfter 27 = .ok (.iload_n 2, 1) := by decide +kernel
theorem dX0_strongAfter_28 : decode cX0_strongAfter 28 = .ok (.iload_n 3, 1) := by decide +kernel
theorem dX0_strongAfter_29 : decode cX0_strongAfter 29 = .ok (.invokevirtual 110, 3) := by decide +kernel
theorem dX0_strongAfter_32 : decode cX0_strongAfter 32 = .ok (.iload_n 1, 1) := by decide +kernel
theorem dX0_strongAfter_33 : decode cX0_strongAfter 33 = .ok (.if_icmp .eq 16, 3) := by decide +kernel
theorem dX0_strongAfter_36 : decode cX0_strongAfter 36 = .ok (.iload 4, 2) := by decide +kernel
theorem dX0_strongAfter_38 : decode cX0_strongAfter 38 = .ok (.aload_n 0, 1) := by decide +kernel
theorem dX0_strongAfter_39 : decode cX0_strongAfter 39 = .ok (.iload 5, 2) := by decide +kernel
theorem dX0_strongAfter_41 : decode cX0_strongAfter 41 = .ok (.invokevirtual 94, 3) := by decide +kernel
theorem dX0_strongAfter_44 : decode cX0_strongAfter 44 = .ok (.invokestatic 114, 3) := by decide +kernel
theorem dX0_strongAfter_47 : decode cX0_strongAfter 47 = .ok (.istore 4, 2) := by decide +kernel
theorem dX0_strongAfter_49 : decode cX0_strongAfter 49 = .ok (.iinc 5 1, 3) := by decide +kernel
theorem dX0_strongAfter_52 : decode cX0_strongAfter 52 = .ok (.goto (-46), 3) := by decide +kernel
theorem dX0_strongAfter_55 : decode cX0_strongAfter 55 = .ok (.iconst 0, 1) := by decide +kernel
theorem dX0_strongAfter_56 : decode cX0_strongAfter 56 = .ok (.istore 5, 2) := by decide +kernel
theorem dX0_strongAfter_58 : decode cX0_strongAfter 58 = .ok (.iconst 0, 1) := by decide +kernel
theorem dX0_strongAfter_59 : decode cX0_strongAfter 59 = .ok (.istore 6, 2) := by decide +kernel
theorem dX0_strongAfter_61 : decode cX0_strongAfter 61 = .ok (.iload 6, 2) := by decide +kernel
theorem dX0_strongAfter_63 : decode cX0_strongAfter 63 = .ok (.aload_n 0, 1) := by decide +kernel
theorem dX0_strongAfter_64 : decode cX0_strongAfter 64 = .ok (.getfield 51, 3) := by decide +kernel
theorem dX0_strongAfter_67 : decode cX0_strongAfter 67 = .ok (.if_icmp .ge 44, 3) := by decide +kernel
theorem dX0_strongAfter_70 : decode cX0_strongAfter 70 = .ok (.aload_n 0, 1) := by decide +kernel
theorem dX0_strongAfter_71 : decode cX0_strongAfter 71 = .ok (.iload 6, 2) := by decide +kernel
theorem dX0_strongAfter_73 : decode cX0_strongAfter 73 = .ok (.invokevirtual 81, 3) := by decide +kernel
theorem dX0_strongAfter_76 : decode cX0_strongAfter 76 = .ok (.ifCond .eq 29, 3) := by decide +kernel
theorem dX0_strongAfter_79 : decode cX0_strongAfter 79 = .ok (.aload_n 0, 1) := by decide +kernel
theorem dX0_strongAfter_80 : decode cX0_strongAfter 80 = .ok (.iload 6, 2) := by decide +kernel
theorem dX0_strongAfter_82 : decode cX0_strongAfter 82 = .ok (.iload_n 2, 1) := by decide +kernel
theorem dX0_strongAfter_83 : decode cX0_strongAfter 83 = .ok (.iload_n 3, 1) := by decide +kernel
theorem dX0_strongAfter_84 : decode cX0_strongAfter 84 = .ok (.invokevirtual 110, 3) := by decide +kernel
theorem dX0_strongAfter_87 : decode cX0_strongAfter 87 = .ok (.iload_n 1, 1) := by decide +kernel
theorem dX0_strongAfter_88 : decode cX0_strongAfter 88 = .ok (.if_icmp .ne 17, 3) := by decide +kernel
theorem dX0_strongAfter_91 : decode cX0_strongAfter 91 = .ok (.aload_n 0, 1) := by decide +kernel
theorem dX0_strongAfter_92 : decode cX0_strongAfter 92 = .ok (.iload 6, 2) := by decide +kernel
theorem dX0_strongAfter_94 : decode cX0_strongAfter 94 = .ok (.invokevirtual 94, 3) := by decide +kernel
theorem dX0_strongAfter_97 : decode cX0_strongAfter 97 = .ok (.iload 4, 2) := by decide +kernel
theorem dX0_strongAfter_99 : decode cX0_strongAfter 99 = .ok (.if_icmp .le 6, 3) := by decide +kernel
theorem dX0_strongAfter_102 : decode cX0_strongAfter 102 = .ok (.iinc 5 1, 3) := by decide +kernel
theorem dX0_strongAfter_105 : decode cX0_strongAfter 105 = .ok (.iinc 6 1, 3) := by decide +kernel
theorem dX0_strongAfter_108 : decode cX0_strongAfter 108 = .ok (.goto (-47), 3) := by decide +kernel
theorem dX0_strongAfter_111 : decode cX0_strongAfter 111 = .ok (.iload 5, 2) := by decide +kernel
theorem dX0_strongAfter_113 : decode cX0_strongAfter 113 = .ok (.ireturn, 1) := by decide +kernel
theorem dX0_isRowOfAll_0 : decode cX0_isRowOfAll 0 = .ok (.iconst 0, 1) := by decide +kernel
theorem dX0_isRowOfAll_1 : decode cX0_isRowOfAll 1 = .ok (.istore_n 2, 1) := by decide +kernel
theorem dX0_isRowOfAll_2 : decode cX0_isRowOfAll 2 = .ok (.iconst 0, 1) := by decide +kernel
theorem dX0_isRowOfAll_3 : decode cX0_isRowOfAll 3 = .ok (.istore_n 3, 1) := by decide +kernel
theorem dX0_isRowOfAll_4 : decode cX0_isRowOfAll 4 = .ok (.iload_n 3, 1) := by decide +kernel
theorem dX0_isRowOfAll_5 : decode cX0_isRowOfAll 5 = .ok (.aload_n 0, 1) := by decide +kernel
theorem dX0_isRowOfAll_6 : decode cX0_isRowOfAll 6 = .ok (.getfield 45, 3) := by decide +kernel
theorem dX0_isRowOfAll_9 : decode cX0_isRowOfAll 9 = .ok (.if_icmp .ge 29, 3) := by decide +kernel
theorem dX0_isRowOfAll_12 : decode cX0_isRowOfAll 12 = .ok (.aload_n 0, 1) := by decide +kernel
theorem dX0_isRowOfAll_13 : decode cX0_isRowOfAll 13 = .ok (.aload_n 1, 1) := by decide +kernel
theorem dX0_isRowOfAll_14 : decode cX0_isRowOfAll 14 = .ok (.iload_n 3, 1) := by decide +kernel
theorem dX0_isRowOfAll_15 : decode cX0_isRowOfAll 15 = .ok (.iaload, 1) := by decide +kernel
theorem dX0_isRowOfAll_16 : decode cX0_isRowOfAll 16 = .ok (.invokevirtual 119, 3) := by decide +kernel
theorem dX0_isRowOfAll_19 : decode cX0_isRowOfAll 19 = .ok (.ifCond .ne 5, 3) := by decide +kernel
theorem dX0_isRowOfAll_22 : decode cX0_isRowOfAll 22 = .ok (.iconst 0, 1) := by decide +kernel
theorem dX0_isRowOfAll_23 : decode cX0_isRowOfAll 23 = .ok (.ireturn, 1) := by decide +kernel
theorem dX0_isRowOfAll_24 : decode cX0_isRowOfAll 24 = .ok (.iload_n 2, 1) := by decide +kernel
theorem dX0_isRowOfAll_25 : decode cX0_isRowOfAll 25 = .ok (.iconst 1, 1) := by decide +kernel
theorem dX0_isRowOfAll_26 : decode cX0_isRowOfAll 26 = .ok (.aload_n 1, 1) := by decide +kernel
theorem dX0_isRowOfAll_27 : decode cX0_isRowOfAll 27 = .ok (.iload_n 3, 1) := by decide +kernel
theorem dX0_isRowOfAll_28 : decode cX0_isRowOfAll 28 = .ok (.iaload, 1) := by decide +kernel
theorem dX0_isRowOfAll_29 : decode cX0_isRowOfAll 29 = .ok (.ishl, 1) := by decide +kernel
theorem dX0_isRowOfAll_30 : decode cX0_isRowOfAll 30 = .ok (.ior, 1) := by decide +kernel
theorem dX0_isRowOfAll_31 : decode cX0_isRowOfAll 31 = .ok (.istore_n 2, 1) := by decide +kernel
theorem dX0_isRowOfAll_32 : decode cX0_isRowOfAll 32 = .ok (.iinc 3 1, 3) := by decide +kernel
theorem dX0_isRowOfAll_35 : decode cX0_isRowOfAll 35 = .ok (.goto (-31), 3) := by decide +kernel
theorem dX0_isRowOfAll_38 : decode cX0_isRowOfAll 38 = .ok (.iload_n 2, 1) := by decide +kernel
theorem dX0_isRowOfAll_39 : decode cX0_isRowOfAll 39 = .ok (.iconst 1, 1) := by decide +kernel
theorem dX0_isRowOfAll_40 : decode cX0_isRowOfAll 40 = .ok (.aload_n 0, 1) := by decide +kernel
theorem dX0_isRowOfAll_41 : decode cX0_isRowOfAll 41 = .ok (.getfield 45, 3) := by decide +kernel
theorem dX0_isRowOfAll_44 : decode cX0_isRowOfAll 44 = .ok (.ishl, 1) := by decide +kernel
theorem dX0_isRowOfAll_45 : decode cX0_isRowOfAll 45 = .ok (.iconst 1, 1) := by decide +kernel
theorem dX0_isRowOfAll_46 : decode cX0_isRowOfAll 46 = .ok (.isub, 1) := by decide +kernel
theorem dX0_isRowOfAll_47 : decode cX0_isRowOfAll 47 = .ok (.if_icmp .ne 7, 3) := by decide +kernel
theorem dX0_isRowOfAll_50 : decode cX0_isRowOfAll 50 = .ok (.iconst 1, 1) := by decide +kernel
theorem dX0_isRowOfAll_51 : decode cX0_isRowOfAll 51 = .ok (.goto 4, 3) := by decide +kernel
theorem dX0_isRowOfAll_54 : decode cX0_isRowOfAll 54 = .ok (.iconst 0, 1) := by decide +kernel
theorem dX0_isRowOfAll_55 : decode cX0_isRowOfAll 55 = .ok (.ireturn, 1) := by decide +kernel
theorem dX1_init_0 : decode cX1_init 0 = .ok (.aload_n 0, 1) := by decide +kernel
theorem dX1_init_1 : decode cX1_init 1 = .ok (.invokespecial 3, 3) := by decide +kernel
theorem dX1_init_4 : decode cX1_init 4 = .ok (.aload_n 0, 1) := by decide +kernel
theorem dX1_init_5 : decode cX1_init 5 = .ok (.iconst 5, 1) := by decide +kernel
theorem dX1_init_6 : decode cX1_init 6 = .ok (.newarray .int, 2) := by decide +kernel
theorem dX1_init_8 : decode cX1_init 8 = .ok (.putfield 9, 3) := by decide +kernel
theorem dX1_init_11 : decode cX1_init 11 = .ok (.aload_n 0, 1) := by decide +kernel
theorem dX1_init_12 : decode cX1_init 12 = .ok (.iconst 5, 1) := by decide +kernel
theorem dX1_init_13 : decode cX1_init 13 = .ok (.newarray .int, 2) := by decide +kernel
theorem dX1_init_15 : decode cX1_init 15 = .ok (.putfield 15, 3) := by decide +kernel
theorem dX1_init_18 : decode cX1_init 18 = .ok (.aload_n 0, 1) := by decide +kernel
theorem dX1_init_19 : decode cX1_init 19 = .ok (.aload_n 1, 1) := by decide +kernel
theorem dX1_init_20 : decode cX1_init 20 = .ok (.putfield 18, 3) := by decide +kernel
theorem dX1_init_23 : decode cX1_init 23 = .ok (.aload_n 0, 1) := by decide +kernel
theorem dX1_init_24 : decode cX1_init 24 = .ok (.aload_n 2, 1) := by decide +kernel
theorem dX1_init_25 : decode cX1_init 25 = .ok (.putfield 22, 3) := by decide +kernel
theorem dX1_init_28 : decode cX1_init 28 = .ok (.return_, 1) := by decide +kernel
theorem dX1_find_0 : decode cX1_find 0 = .ok (.aload_n 0, 1) := by decide +kernel
theorem dX1_find_1 : decode cX1_find 1 = .ok (.iconst 0, 1) := by decide +kernel
theorem dX1_find_2 : decode cX1_find 2 = .ok (.putfield 26, 3) := by decide +kernel
theorem dX1_find_5 : decode cX1_find 5 = .ok (.iconst 0, 1) := by decide +kernel
theorem dX1_find_6 : decode cX1_find 6 = .ok (.istore_n 1, 1) := by decide +kernel
theorem dX1_find_7 : decode cX1_find 7 = .ok (.iload_n 1, 1) := by decide +kernel
theorem dX1_find_8 : decode cX1_find 8 = .ok (.aload_n 0, 1) := by decide +kernel
theorem dX1_find_9 : decode cX1_find 9 = .ok (.getfield 18, 3) := by decide +kernel
theorem dX1_find_12 : decode cX1_find 12 = .ok (.getfield 30, 3) := by decide +kernel
theorem dX1_find_15 : decode cX1_find 15 = .ok (.if_icmp .ge 22, 3) := by decide +kernel
theorem dX1_find_18 : decode cX1_find 18 = .ok (.aload_n 0, 1) := by decide +kernel
theorem dX1_find_19 : decode cX1_find 19 = .ok (.getfield 9, 3) := by decide +kernel
theorem dX1_find_22 : decode cX1_find 22 = .ok (.iload_n 1, 1) := by decide +kernel
theorem dX1_find_23 : decode cX1_find 23 = .ok (.aload_n 0, 1) := by decide +kernel
theorem dX1_find_24 : decode cX1_find 24 = .ok (.iload_n 1, 1) := by decide +kernel
theorem dX1_find_25 : decode cX1_find 25 = .ok (.bipush (-9), 2) := by decide +kernel
theorem dX1_find_27 : decode cX1_find 27 = .ok (.invokevirtual 35, 3) := by decide +kernel
theorem dX1_find_30 : decode cX1_find 30 = .ok (.iastore, 1) := by decide +kernel
theorem dX1_find_31 : decode cX1_find 31 = .ok (.iinc 1 1, 3) := by decide +kernel
theorem dX1_find_34 : decode cX1_find 34 = .ok (.goto (-27), 3) := by decide +kernel
theorem dX1_find_37 : decode cX1_find 37 = .ok (.iconst 1, 1) := by decide +kernel
theorem dX1_find_38 : decode cX1_find 38 = .ok (.istore_n 1, 1) := by decide +kernel
theorem dX1_find_39 : decode cX1_find 39 = .ok (.iconst 0, 1) := by decide +kernel
theorem dX1_find_40 : decode cX1_find 40 = .ok (.istore_n 2, 1) := by decide +kernel
theorem dX1_find_41 : decode cX1_find 41 = .ok (.iload_n 1, 1) := by decide +kernel
theorem dX1_find_42 : decode cX1_find 42 = .ok (.ifCond .eq 32, 3) := by decide +kernel
theorem dX1_find_45 : decode cX1_find 45 = .ok (.iload_n 2, 1) := by decide +kernel
theorem dX1_find_46 : decode cX1_find 46 = .ok (.sipush 1000, 3) := by decide +kernel
theorem dX1_find_49 : decode cX1_find 49 = .ok (.if_icmp .ge 25, 3) := by decide +kernel
theorem dX1_find_52 : decode cX1_find 52 = .ok (.aload_n 0, 1) := by decide +kernel
theorem dX1_find_53 : decode cX1_find 53 = .ok (.invokevirtual 39, 3) := by decide +kernel
theorem dX1_find_56 : decode cX1_find 56 = .ok (.ifCond .eq 7, 3) := by decide +kernel
theorem dX1_find_59 : decode cX1_find 59 = .ok (.aload_n 0, 1) := by decide +kernel
theorem dX1_find_60 : decode cX1_find 60 = .ok (.invokevirtual 43, 3) := by decide +kernel
theorem dX1_find_63 : decode cX1_find 63 = .ok (.aload_n 0, 1) := by decide +kernel
theorem dX1_find_64 : decode cX1_find 64 = .ok (.invokevirtual 46, 3) := by decide +kernel
theorem dX1_find_67 : decode cX1_find 67 = .ok (.istore_n 1, 1) := by decide +kernel
theorem dX1_find_68 : decode cX1_find 68 = .ok (.iinc 2 1, 3) := by decide +kernel
theorem dX1_find_71 : decode cX1_find 71 = .ok (.goto (-30), 3) := by decide +kernel
theorem dX1_find_74 : decode cX1_find 74 = .ok (.return_, 1) := by decide +kernel
theorem dX1_keepRest_0 : decode cX1_keepRest 0 = .ok (.aload_n 0, 1) := by decide +kernel
theorem dX1_keepRest_1 : decode cX1_keepRest 1 = .ok (.getfield 26, 3) := by decide +kernel
theorem dX1_keepRest_4 : decode cX1_keepRest 4 = .ok (.ifCond .ne 17, 3) := by decide +kernel
theorem dX1_keepRest_7 : decode cX1_keepRest 7 = .ok (.aload_n 0, 1) := by decide +kernel
theorem dX1_keepRest_8 : decode cX1_keepRest 8 = .ok (.getfield 9, 3) := by decide +kernel
theorem dX1_keepRest_11 : decode cX1_keepRest 11 = .ok (.iconst 0, 1) := by decide +kernel
theorem dX1_keepRest_12 : decode cX1_keepRest 12 = .ok (.aload_n 0, 1) := by decide +kernel
theorem dX1_keepRest_13 : decode cX1_keepRest 13 = .ok (.getfield 15, 3) := by decide +kernel
theorem dX1_keepRest_16 : decode cX1_keepRest 16 = .ok (.iconst 0, 1) := by decide +kernel
theorem dX1_keepRest_17 : decode cX1_keepRest 17 = .ok (.iconst 5, 1) := by decide +kernel
theorem dX1_keepRest_18 : decode cX1_keepRest 18 = .ok (.invokestatic 49, 3) := by decide +kernel
theorem dX1_keepRest_21 : decode cX1_keepRest 21 = .ok (.aload_n 0, 1) := by decide +kernel
theorem dX1_keepRest_22 : decode cX1_keepRest 22 = .ok (.dup, 1) := by decide +kernel
theorem dX1_keepRest_23 : decode cX1_keepRest 23 = .ok (.getfield 26, 3) := by decide +kernel
theorem dX1_keepRest_26 : decode cX1_keepRest 26 = .ok (.iconst 1, 1) := by decide +kernel
theorem dX1_keepRest_27 : decode cX1_keepRest 27 = .ok (.iadd, 1) := by decide +kernel
theorem dX1_keepRest_28 : decode cX1_keepRest 28 = .ok (.putfield 26, 3) := by decide +kernel
theorem dX1_keepRest_31 : decode cX1_keepRest 31 = .ok (.return_, 1) := by decide +kernel
theorem dX1_ownAfter_0 : decode cX1_ownAfter 0 = .ok (.iload_n 2, 1) := by decide +kernel
theorem dX1_ownAfter_1 : decode cX1_ownAfter 1 = .ok (.iconst 1, 1) := by decide +kernel
theorem dX1_ownAfter_2 : decode cX1_ownAfter 2 = .ok (.iadd, 1) := by decide +kernel
theorem dX1_ownAfter_3 : decode cX1_ownAfter 3 = .ok (.iconst 0, 1) := by decide +kernel
theorem dX1_ownAfter_4 : decode cX1_ownAfter 4 = .ok (.invokestatic 55, 3) := by decide +kernel
theorem dX1_ownAfter_7 : decode cX1_ownAfter 7 = .ok (.istore_n 3, 1) := by decide +kernel
theorem dX1_ownAfter_8 : decode cX1_ownAfter 8 = .ok (.iload_n 3, 1) := by decide +kernel
theorem dX1_ownAfter_9 : decode cX1_ownAfter 9 = .ok (.aload_n 0, 1) := by decide +kernel
theorem dX1_ownAfter_10 : decode cX1_ownAfter 10 = .ok (.getfield 18, 3) := by decide +kernel
theorem dX1_ownAfter_13 : decode cX1_ownAfter 13 = .ok (.getfield 60, 3) := by decide +kernel
theorem dX1_ownAfter_16 : decode cX1_ownAfter 16 = .ok (.if_icmp .ge 35, 3) := by decide +kernel
theorem dX1_ownAfter_19 : decode cX1_ownAfter 19 = .ok (.aload_n 0, 1) := by decide +kernel
theorem dX1_ownAfter_20 : decode cX1_ownAfter 20 = .ok (.getfield 18, 3) := by decide +kernel
theorem dX1_ownAfter_23 : decode cX1_ownAfter 23 = .ok (.getfield 63, 3) := by decide +kernel
theorem dX1_ownAfter_26 : decode cX1_ownAfter 26 = .ok (.iload_n 3, 1) := by decide +kernel
theorem dX1_ownAfter_27 : decode cX1_ownAfter 27 = .ok (.iaload, 1) := by decide +kernel
theorem dX1_ownAfter_28 : decode cX1_ownAfter 28 = .ok (.iload_n 1, 1) := by decide +kernel
theorem dX1_ownAfter_29 : decode cX1_ownAfter 29 = .ok (.if_icmp .ne 16, 3) := by decide +kernel
theorem dX1_ownAfter_32 : decode cX1_ownAfter 32 = .ok (.aload_n 0, 1) := by decide +kernel
theorem dX1_ownAfter_33 : decode cX1_ownAfter 33 = .ok (.getfield 18, 3) := by decide +kernel
theorem dX1_ownAfter_36 : decode cX1_ownAfter 36 = .ok (.iload_n 3, 1) := by decide +kernel
theorem dX1_ownAfter_37 : decode cX1_ownAfter 37 = .ok (.invokevirtual 66, 3) := by decide +kernel
theorem dX1_ownAfter_40 : decode cX1_ownAfter 40 = .ok (.ifCond .eq 5, 3) := by decide +kernel
theorem dX1_ownAfter_43 : decode cX1_ownAfter 43 = .ok (.iload_n 3, 1) := by decide +kernel
theorem dX1_ownAfter_44 : decode cX1_ownAfter 44 = .ok (.ireturn, 1) := by decide +kernel
theorem dX1_ownAfter_45 : decode cX1_ownAfter 45 = .ok (.iinc 3 1, 3) := by decide +kernel
theorem dX1_ownAfter_48 : decode cX1_ownAfter 48 = .ok (.goto (-40), 3) := by decide +kernel
theorem dX1_ownAfter_51 : decode cX1_ownAfter 51 = .ok (.bipush (-9), 2) := by decide +kernel
theorem dX1_ownAfter_53 : decode cX1_ownAfter 53 = .ok (.ireturn, 1) := by decide +kernel
theorem dX1_goOn_0 : decode cX1_goOn 0 = .ok (.aload_n 0, 1) := by decide +kernel
theorem dX1_goOn_1 : decode cX1_goOn 1 = .ok (.getfield 18, 3) := by decide +kernel
theorem dX1_goOn_4 : decode cX1_goOn 4 = .ok (.getfield 30, 3) := by decide +kernel
theorem dX1_goOn_7 : decode cX1_goOn 7 = .ok (.iconst 1, 1) := by decide +kernel
theorem dX1_goOn_8 : decode cX1_goOn 8 = .ok (.isub, 1) := by decide +kernel
theorem dX1_goOn_9 : decode cX1_goOn 9 = .ok (.istore_n 1, 1) := by decide +kernel
theorem dX1_goOn_10 : decode cX1_goOn 10 = .ok (.iload_n 1, 1) := by decide +kernel
theorem dX1_goOn_11 : decode cX1_goOn 11 = .ok (.ifCond .lt 49, 3) := by decide +kernel
theorem dX1_goOn_14 : decode cX1_goOn 14 = .ok (.aload_n 0, 1) := by decide +kernel
theorem dX1_goOn_15 : decode cX1_goOn 15 = .ok (.iload_n 1, 1) := by decide +kernel
theorem dX1_goOn_16 : decode cX1_goOn 16 = .ok (.aload_n 0, 1) := by decide +kernel
theorem dX1_goOn_17 : decode cX1_goOn 17 = .ok (.getfield 9, 3) := by decide +kernel
theorem dX1_goOn_20 : decode cX1_goOn 20 = .ok (.iload_n 1, 1) := by decide +kernel
theorem dX1_goOn_21 : decode cX1_goOn 21 = .ok (.iaload, 1) := by decide +kernel
theorem dX1_goOn_22 : decode cX1_goOn 22 = .ok (.invokevirtual 35, 3) := by decide +kernel
theorem dX1_goOn_25 : decode cX1_goOn 25 = .ok (.istore_n 2, 1) := by decide +kernel
theorem dX1_goOn_26 : decode cX1_goOn 26 = .ok (.iload_n 2, 1) := by decide +kernel
theorem dX1_goOn_27 : decode cX1_goOn 27 = .ok (.bipush (-9), 2) := by decide +kernel
theorem dX1_goOn_29 : decode cX1_goOn 29 = .ok (.if_icmp .eq 12, 3) := by decide +kernel
theorem dX1_goOn_32 : decode cX1_goOn 32 = .ok (.aload_n 0, 1) := by decide +kernel
theorem dX1_goOn_33 : decode cX1_goOn 33 = .ok (.getfield 9, 3) := by decide +kernel
theorem dX1_goOn_36 : decode cX1_goOn 36 = .ok (.iload_n 1, 1) := by decide +kernel
theorem dX1_goOn_37 : decode cX1_goOn 37 = .ok (.iload_n 2, 1) := by decide +kernel
theorem dX1_goOn_38 : decode cX1_goOn 38 = .ok (.iastore, 1) := by decide +kernel
theorem dX1_goOn_39 : decode cX1_goOn 39 = .ok (.iconst 1, 1) := by decide +kernel
theorem dX1_goOn_40 : decode cX1_goOn 40 = .ok (.ireturn, 1) := by decide +kernel
theorem dX1_goOn_41 : decode cX1_goOn 41 = .ok (.aload_n 0, 1) := by decide +kernel
theorem dX1_goOn_42 : decode cX1_goOn 42 = .ok (.getfield 9, 3) := by decide +kernel
theorem dX1_goOn_45 : decode cX1_goOn 45 = .ok (.iload_n 1, 1) := by decide +kernel
theorem dX1_goOn_46 : decode cX1_goOn 46 = .ok (.aload_n 0, 1) := by decide +kernel
theorem dX1_goOn_47 : decode cX1_goOn 47 = .ok (.iload_n 1, 1) := by decide +kernel
theorem dX1_goOn_48 : decode cX1_goOn 48 = .ok (.bipush (-9), 2) := by decide +kernel
theorem dX1_goOn_50 : decode cX1_goOn 50 = .ok (.invokevirtual 35, 3) := by decide +kernel
theorem dX1_goOn_53 : decode cX1_goOn 53 = .ok (.iastore, 1) := by decide +kernel
theorem dX1_goOn_54 : decode cX1_goOn 54 = .ok (.iinc 1 (-1), 3) := by decide +kernel
theorem dX1_goOn_57 : decode cX1_goOn 57 = .ok (.goto (-47), 3) := by decide +kernel
theorem dX1_goOn_60 : decode cX1_goOn 60 = .ok (.iconst 0, 1) := by decide +kernel
theorem dX1_goOn_61 : decode cX1_goOn 61 = .ok (.ireturn, 1) := by decide +kernel
theorem dX1_isRest_0 : decode cX1_isRest 0 = .ok (.aload_n 0, 1) := by decide +kernel
theorem dX1_isRest_1 : decode cX1_isRest 1 = .ok (.getfield 22, 3) := by decide +kernel
theorem dX1_isRest_4 : decode cX1_isRest 4 = .ok (.aload_n 0, 1) := by decide +kernel
theorem dX1_isRest_5 : decode cX1_isRest 5 = .ok (.getfield 18, 3) := by decide +kernel
theorem dX1_isRest_8 : decode cX1_isRest 8 = .ok (.getfield 30, 3) := by decide +kernel
theorem dX1_isRest_11 : decode cX1_isRest 11 = .ok (.putfield 70, 3) := by decide +kernel
theorem dX1_isRest_14 : decode cX1_isRest 14 = .ok (.iconst 0, 1) := by decide +kernel
theorem dX1_isRest_15 : decode cX1_isRest 15 = .ok (.istore_n 1, 1) := by decide +kernel
theorem dX1_isRest_16 : decode cX1_isRest 16 = .ok (.iload_n 1, 1) := by decide +kernel
theorem dX1_isRest_17 : decode cX1_isRest 17 = .ok (.aload_n 0, 1) := by decide +kernel
theorem dX1_isRest_18 : decode cX1_isRest 18 = .ok (.getfield 18, 3) := by decide +kernel
theorem dX1_isRest_21 : decode cX1_isRest 21 = .ok (.getfield 30, 3) := by decide +kernel
theorem dX1_isRest_24 : decode cX1_isRest 24 = .ok (.if_icmp .ge 51, 3) := by decide +kernel
theorem dX1_isRest_27 : decode cX1_isRest 27 = .ok (.aload_n 0, 1) := by decide +kernel
theorem dX1_isRest_28 : decode cX1_isRest 28 = .ok (.getfield 22, 3) := by decide +kernel
theorem dX1_isRest_31 : decode cX1_isRest 31 = .ok (.getfield 73, 3) := by decide +kernel
theorem dX1_isRest_34 : decode cX1_isRest 34 = .ok (.iload_n 1, 1) := by decide +kernel
theorem dX1_isRest_35 : decode cX1_isRest 35 = .ok (.aload_n 0, 1) := by decide +kernel
theorem dX1_isRest_36 : decode cX1_isRest 36 = .ok (.getfield 18, 3) := by decide +kernel
theorem dX1_isRest_39 : decode cX1_isRest 39 = .ok (.aload_n 0, 1) := by decide +kernel
theorem dX1_isRest_40 : decode cX1_isRest 40 = .ok (.getfield 9, 3) := by decide +kernel
theorem dX1_isRest_43 : decode cX1_isRest 43 = .ok (.iload_n 1, 1) := by decide +kernel
theorem dX1_isRest_44 : decode cX1_isRest 44 = .ok (.iaload, 1) := by decide +kernel
theorem dX1_isRest_45 : decode cX1_isRest 45 = .ok (.invokevirtual 76, 3) := by decide +kernel
theorem dX1_isRest_48 : decode cX1_isRest 48 = .ok (.ifCond .eq 19, 3) := by decide +kernel
theorem dX1_isRest_51 : decode cX1_isRest 51 = .ok (.aload_n 0, 1) := by decide +kernel
theorem dX1_isRest_52 : decode cX1_isRest 52 = .ok (.getfield 18, 3) := by decide +kernel
theorem dX1_isRest_55 : decode cX1_isRest 55 = .ok (.aload_n 0, 1) := by decide +kernel
theorem dX1_isRest_56 : decode cX1_isRest 56 = .ok (.getfield 9, 3) := by decide +kernel
theorem dX1_isRest_59 : decode cX1_isRest 59 = .ok (.iload_n 1, 1) := by decide +kernel
theorem dX1_isRest_60 : decode cX1_isRest 60 = .ok (.iaload, 1) := by decide +kernel
theorem dX1_isRest_61 : decode cX1_isRest 61 = .ok (.invokevirtual 79, 3) := by decide +kernel
theorem dX1_isRest_64 : decode cX1_isRest 64 = .ok (.goto 4, 3) := by decide +kernel
theorem dX1_isRest_67 : decode cX1_isRest 67 = .ok (.iconst 0, 1) := by decide +kernel
theorem dX1_isRest_68 : decode cX1_isRest 68 = .ok (.iastore, 1) := by decide +kernel
theorem dX1_isRest_69 : decode cX1_isRest 69 = .ok (.iinc 1 1, 3) := by decide +kernel
theorem dX1_isRest_72 : decode cX1_isRest 72 = .ok (.goto (-56), 3) := by decide +kernel
theorem dX1_isRest_75 : decode cX1_isRest 75 = .ok (.iconst 0, 1) := by decide +kernel
theorem dX1_isRest_76 : decode cX1_isRest 76 = .ok (.istore_n 1, 1) := by decide +kernel
theorem dX1_isRest_77 : decode cX1_isRest 77 = .ok (.iload_n 1, 1) := by decide +kernel
theorem dX1_isRest_78 : decode cX1_isRest 78 = .ok (.aload_n 0, 1) := by decide +kernel
theorem dX1_isRest_79 : decode cX1_isRest 79 = .ok (.getfield 18, 3) := by decide +kernel
theorem dX1_isRest_82 : decode cX1_isRest 82 = .ok (.getfield 30, 3) := by decide +kernel
theorem dX1_isRest_85 : decode cX1_isRest 85 = .ok (.if_icmp .ge 19, 3) := by decide +kernel
theorem dX1_isRest_88 : decode cX1_isRest 88 = .ok (.aload_n 0, 1) := by decide +kernel
theorem dX1_isRest_89 : decode cX1_isRest 89 = .ok (.iload_n 1, 1) := by decide +kernel
theorem dX1_isRest_90 : decode cX1_isRest 90 = .ok (.invokevirtual 83, 3) := by decide +kernel
theorem dX1_isRest_93 : decode cX1_isRest 93 = .ok (.ifCond .eq 5, 3) := by decide +kernel
theorem dX1_isRest_96 : decode cX1_isRest 96 = .ok (.iconst 0, 1) := by decide +kernel
theorem dX1_isRest_97 : decode cX1_isRest 97 = .ok (.ireturn, 1) := by decide +kernel
theorem dX1_isRest_98 : decode cX1_isRest 98 = .ok (.iinc 1 1, 3) := by decide +kernel
theorem dX1_isRest_101 : decode cX1_isRest 101 = .ok (.goto (-24), 3) := by decide +kernel
theorem dX1_isRest_104 : decode cX1_isRest 104 = .ok (.iconst 1, 1) := by decide +kernel
theorem dX1_isRest_105 : decode cX1_isRest 105 = .ok (.ireturn, 1) := by decide +kernel
theorem dX1_canDoBetter_0 : decode cX1_canDoBetter 0 = .ok (.aload_n 0, 1) := by decide +kernel
theorem dX1_canDoBetter_1 : decode cX1_canDoBetter 1 = .ok (.getfield 22, 3) := by decide +kernel
theorem dX1_canDoBetter_4 : decode cX1_canDoBetter 4 = .ok (.iload_n 1, 1) := by decide +kernel
theorem dX1_canDoBetter_5 : decode cX1_canDoBetter 5 = .ok (.aload_n 0, 1) := by decide +kernel
theorem dX1_canDoBetter_6 : decode cX1_canDoBetter 6 = .ok (.getfield 22, 3) := by decide +kernel
theorem dX1_canDoBetter_9 : decode cX1_canDoBetter 9 = .ok (.getfield 73, 3) := by decide +kernel
theorem dX1_canDoBetter_12 : decode cX1_canDoBetter 12 = .ok (.iload_n 1, 1) := by decide +kernel
theorem dX1_canDoBetter_13 : decode cX1_canDoBetter 13 = .ok (.iaload, 1) := by decide +kernel
theorem dX1_canDoBetter_14 : decode cX1_canDoBetter 14 = .ok (.invokevirtual 86, 3) := by decide +kernel
theorem dX1_canDoBetter_17 : decode cX1_canDoBetter 17 = .ok (.istore_n 2, 1) := by decide +kernel
theorem dX1_canDoBetter_18 : decode cX1_canDoBetter 18 = .ok (.iconst 0, 1) := by decide +kernel
theorem dX1_canDoBetter_19 : decode cX1_canDoBetter 19 = .ok (.istore_n 3, 1) := by decide +kernel
theorem dX1_canDoBetter_20 : decode cX1_canDoBetter 20 = .ok (.iload_n 3, 1) := by decide +kernel
theorem dX1_canDoBetter_21 : decode cX1_canDoBetter 21 = .ok (.aload_n 0, 1) := by decide +kernel
theorem dX1_canDoBetter_22 : decode cX1_canDoBetter 22 = .ok (.getfield 18, 3) := by decide +kernel
theorem dX1_canDoBetter_25 : decode cX1_canDoBetter 25 = .ok (.getfield 60, 3) := by decide +kernel
theorem dX1_canDoBetter_28 : decode cX1_canDoBetter 28 = .ok (.if_icmp .ge 47, 3) := by decide +kernel
theorem dX1_canDoBetter_31 : decode cX1_canDoBetter 31 = .ok (.aload_n 0, 1) := by decide +kernel
theorem dX1_canDoBetter_32 : decode cX1_canDoBetter 32 = .ok (.getfield 18, 3) := by decide +kernel
theorem dX1_canDoBetter_35 : decode cX1_canDoBetter 35 = .ok (.iload_n 1, 1) := by decide +kernel
theorem dX1_canDoBetter_36 : decode cX1_canDoBetter 36 = .ok (.iload_n 3, 1) := by decide +kernel
theorem dX1_canDoBetter_37 : decode cX1_canDoBetter 37 = .ok (.iconst 0, 1) := by decide +kernel
theorem dX1_canDoBetter_38 : decode cX1_canDoBetter 38 = .ok (.invokevirtual 89, 3) := by decide +kernel
theorem dX1_canDoBetter_41 : decode cX1_canDoBetter 41 = .ok (.ifCond .ne 6, 3) := by decide +kernel
theorem dX1_canDoBetter_44 : decode cX1_canDoBetter 44 = .ok (.goto 25, 3) := by decide +kernel
theorem dX1_canDoBetter_47 : decode cX1_canDoBetter 47 = .ok (.aload_n 0, 1) := by decide +kernel
theorem dX1_canDoBetter_48 : decode cX1_canDoBetter 48 = .ok (.getfield 22, 3) := by decide +kernel
theorem dX1_canDoBetter_51 : decode cX1_canDoBetter 51 = .ok (.iload_n 1, 1) := by decide +kernel
theorem dX1_canDoBetter_52 : decode cX1_canDoBetter 52 = .ok (.aload_n 0, 1) := by decide +kernel
theorem dX1_canDoBetter_53 : decode cX1_canDoBetter 53 = .ok (.getfield 18, 3) := by decide +kernel
theorem dX1_canDoBetter_56 : decode cX1_canDoBetter 56 = .ok (.iload_n 3, 1) := by decide +kernel
theorem dX1_canDoBetter_57 : decode cX1_canDoBetter 57 = .ok (.invokevirtual 79, 3) := by decide +kernel
theorem dX1_canDoBetter_60 : decode cX1_canDoBetter 60 = .ok (.invokevirtual 86, 3) := by decide +kernel
theorem dX1_canDoBetter_63 : decode cX1_canDoBetter 63 = .ok (.iload_n 2, 1) := by decide +kernel
theorem dX1_canDoBetter_64 : decode cX1_canDoBetter 64 = .ok (.if_icmp .ge 5, 3) := by decide +kernel
theorem dX1_canDoBetter_67 : decode cX1_canDoBetter 67 = .ok (.iconst 1, 1) := by decide +kernel
theorem dX1_canDoBetter_68 : decode cX1_canDoBetter 68 = .ok (.ireturn, 1) := by decide +kernel
theorem dX1_canDoBetter_69 : decode cX1_canDoBetter 69 = .ok (.iinc 3 1, 3) := by decide +kernel
theorem dX1_canDoBetter_72 : decode cX1_canDoBetter 72 = .ok (.goto (-52), 3) := by decide +kernel
theorem dX1_canDoBetter_75 : decode cX1_canDoBetter 75 = .ok (.iconst 0, 1) := by decide +kernel
theorem dX1_canDoBetter_76 : decode cX1_canDoBetter 76 = .ok (.ireturn, 1) := by decide +kernel
theorem dX2_init_0 : decode cX2_init 0 = .ok (.aload_n 0, 1) := by decide +kernel
theorem dX2_init_1 : decode cX2_init 1 = .ok (.invokespecial 3, 3) := by decide +kernel
theorem dX2_init_4 : decode cX2_init 4 = .ok (.aload_n 0, 1) := by decide +kernel
theorem dX2_init_5 : decode cX2_init 5 = .ok (.sipush 240, 3) := by decide +kernel
theorem dX2_init_8 : decode cX2_init 8 = .ok (.newarray .int, 2) := by decide +kernel
theorem dX2_init_10 : decode cX2_init 10 = .ok (.putfield 9, 3) := by decide +kernel
theorem dX2_init_13 : decode cX2_init 13 = .ok (.aload_n 0, 1) := by decide +kernel
theorem dX2_init_14 : decode cX2_init 14 = .ok (.iconst 4, 1) := by decide +kernel
theorem dX2_init_15 : decode cX2_init 15 = .ok (.newarray .int, 2) := by decide +kernel
theorem dX2_init_17 : decode cX2_init 17 = .ok (.putfield 15, 3) := by decide +kernel
theorem dX2_init_20 : decode cX2_init 20 = .ok (.aload_n 0, 1) := by decide +kernel
theorem dX2_init_21 : decode cX2_init 21 = .ok (.iconst 4, 1) := by decide +kernel
theorem dX2_init_22 : decode cX2_init 22 = .ok (.newarray .int, 2) := by decide +kernel
theorem dX2_init_24 : decode cX2_init 24 = .ok (.putfield 18, 3) := by decide +kernel
theorem dX2_init_27 : decode cX2_init 27 = .ok (.aload_n 0, 1) := by decide +kernel
theorem dX2_init_28 : decode cX2_init 28 = .ok (.getfield 18, 3) := by decide +kernel
theorem dX2_init_31 : decode cX2_init 31 = .ok (.bipush (-9), 2) := by decide +kernel
theorem dX2_init_33 : decode cX2_init 33 = .ok (.invokestatic 21, 3) := by decide +kernel
theorem dX2_init_36 : decode cX2_init 36 = .ok (.return_, 1) := by decide +kernel
theorem dX2_hasRow_0 : decode cX2_hasRow 0 = .ok (.aload_n 0, 1) := by decide +kernel
theorem dX2_hasRow_1 : decode cX2_hasRow 1 = .ok (.getfield 18, 3) := by decide +kernel
theorem dX2_hasRow_4 : decode cX2_hasRow 4 = .ok (.iload_n 1, 1) := by decide +kernel
theorem dX2_hasRow_5 : decode cX2_hasRow 5 = .ok (.iaload, 1) := by decide +kernel
theorem dX2_hasRow_6 : decode cX2_hasRow 6 = .ok (.bipush (-9), 2) := by decide +kernel
theorem dX2_hasRow_8 : decode cX2_hasRow 8 = .ok (.if_icmp .eq 7, 3) := by decide +kernel
theorem dX2_hasRow_11 : decode cX2_hasRow 11 = .ok (.iconst 1, 1) := by decide +kernel
theorem dX2_hasRow_12 : decode cX2_hasRow 12 = .ok (.goto 4, 3) := by decide +kernel
theorem dX2_hasRow_15 : decode cX2_hasRow 15 = .ok (.iconst 0, 1) := by decide +kernel
theorem dX2_hasRow_16 : decode cX2_hasRow 16 = .ok (.ireturn, 1) := by decide +kernel
theorem dX2_hasCells_0 : decode cX2_hasCells 0 = .ok (.iload_n 2, 1) := by decide +kernel
theorem dX2_hasCells_1 : decode cX2_hasCells 1 = .ok (.ifCond .lt 33, 3) := by decide +kernel
theorem dX2_hasCells_4 : decode cX2_hasCells 4 = .ok (.iload_n 3, 1) := by decide +kernel
theorem dX2_hasCells_5 : decode cX2_hasCells 5 = .ok (.ifCond .lt 29, 3) := by decide +kernel
theorem dX2_hasCells_8 : decode cX2_hasCells 8 = .ok (.iload_n 3, 1) := by decide +kernel
theorem dX2_hasCells_9 : decode cX2_hasCells 9 = .ok (.aload_n 0, 1) := by decide +kernel
theorem dX2_hasCells_10 : decode cX2_hasCells 10 = .ok (.getfield 18, 3) := by decide +kernel
theorem dX2_hasCells_13 : decode cX2_hasCells 13 = .ok (.iload_n 1, 1) := by decide +kernel
theorem dX2_hasCells_14 : decode cX2_hasCells 14 = .ok (.iaload, 1) := by decide +kernel
theorem dX2_hasCells_15 : decode cX2_hasCells 15 = .ok (.if_icmp .gt 19, 3) := by decide +kernel
theorem dX2_hasCells_18 : decode cX2_hasCells 18 = .ok (.iload_n 2, 1) := by decide +kernel
theorem dX2_hasCells_19 : decode cX2_hasCells 19 = .ok (.aload_n 0, 1) := by decide +kernel
theorem dX2_hasCells_20 : decode cX2_hasCells 20 = .ok (.getfield 18, 3) := by decide +kernel
theorem dX2_hasCells_23 : decode cX2_hasCells 23 = .ok (.iload_n 1, 1) := by decide +kernel
theorem dX2_hasCells_24 : decode cX2_hasCells 24 = .ok (.iaload, 1) := by decide +kernel
theorem dX2_hasCells_25 : decode cX2_hasCells 25 = .ok (.iload_n 3, 1) := by decide +kernel
theorem dX2_hasCells_26 : decode cX2_hasCells 26 = .ok (.isub, 1) := by decide +kernel
theorem dX2_hasCells_27 : decode cX2_hasCells 27 = .ok (.if_icmp .gt 7, 3) := by decide +kernel
theorem dX2_hasCells_30 : decode cX2_hasCells 30 = .ok (.iconst 1, 1) := by decide +kernel
theorem dX2_hasCells_31 : decode cX2_hasCells 31 = .ok (.goto 4, 3) := by decide +kernel
theorem dX2_hasCells_34 : decode cX2_hasCells 34 = .ok (.iconst 0, 1) := by decide +kernel
theorem dX2_hasCells_35 : decode cX2_hasCells 35 = .ok (.ireturn, 1) := by decide +kernel
theorem dX2_faultOf_0 : decode cX2_faultOf 0 = .ok (.aload_n 0, 1) := by decide +kernel
theorem dX2_faultOf_1 : decode cX2_faultOf 1 = .ok (.iload_n 1, 1) := by decide +kernel
theorem dX2_faultOf_2 : decode cX2_faultOf 2 = .ok (.invokevirtual 27, 3) := by decide +kernel
theorem dX2_faultOf_5 : decode cX2_faultOf 5 = .ok (.ifCond .ne 5, 3) := by decide +kernel
theorem dX2_faultOf_8 : decode cX2_faultOf 8 = .ok (.iconst 1, 1) := by decide +kernel
theorem dX2_faultOf_9 : decode cX2_faultOf 9 = .ok (.ireturn, 1) := by decide +kernel
theorem dX2_faultOf_10 : decode cX2_faultOf 10 = .ok (.aload_n 0, 1) := by decide +kernel
theorem dX2_faultOf_11 : decode cX2_faultOf 11 = .ok (.getfield 15, 3) := by decide +kernel
theorem dX2_faultOf_14 : decode cX2_faultOf 14 = .ok (.iload_n 1, 1) := by decide +kernel
theorem dX2_faultOf_15 : decode cX2_faultOf 15 = .ok (.iaload, 1) := by decide +kernel
theorem dX2_faultOf_16 : decode cX2_faultOf 16 = .ok (.iload_n 2, 1) := by decide +kernel
theorem dX2_faultOf_17 : decode cX2_faultOf 17 = .ok (.if_icmp .eq 5, 3) := by decide +kernel
theorem dX2_faultOf_20 : decode cX2_faultOf 20 = .ok (.iconst 2, 1) := by decide +kernel
theorem dX2_faultOf_21 : decode cX2_faultOf 21 = .ok (.ireturn, 1) := by decide +kernel
theorem dX2_faultOf_22 : decode cX2_faultOf 22 = .ok (.iload 4, 2) := by decide +kernel
theorem dX2_faultOf_24 : decode cX2_faultOf 24 = .ok (.ifCond .ge 5, 3) := by decide +kernel
theorem dX2_faultOf_27 : decode cX2_faultOf 27 = .ok (.iconst 4, 1) := by decide +kernel
theorem dX2_faultOf_28 : decode cX2_faultOf 28 = .ok (.ireturn, 1) := by decide +kernel
theorem dX2_faultOf_29 : decode cX2_faultOf 29 = .ok (.aload_n 0, 1) := by decide +kernel
theorem dX2_faultOf_30 : decode cX2_faultOf 30 = .ok (.iload_n 1, 1) := by decide +kernel
theorem dX2_faultOf_31 : decode cX2_faultOf 31 = .ok (.iload_n 3, 1) := by decide +kernel
theorem dX2_faultOf_32 : decode cX2_faultOf 32 = .ok (.iload 4, 2) := by decide +kernel
theorem dX2_faultOf_34 : decode cX2_faultOf 34 = .ok (.invokevirtual 31, 3) := by decide +kernel
theorem dX2_faultOf_37 : decode cX2_faultOf 37 = .ok (.ifCond .eq 7, 3) := by decide +kernel
theorem dX2_faultOf_40 : decode cX2_faultOf 40 = .ok (.iconst 0, 1) := by decide +kernel
theorem dX2_faultOf_41 : decode cX2_faultOf 41 = .ok (.goto 4, 3) := by decide +kernel
theorem dX2_faultOf_44 : decode cX2_faultOf 44 = .ok (.iconst 3, 1) := by decide +kernel
theorem dX2_faultOf_45 : decode cX2_faultOf 45 = .ok (.ireturn, 1) := by decide +kernel
theorem dX2_makeRow_0 : decode cX2_makeRow 0 = .ok (.aload_n 0, 1) := by decide +kernel
theorem dX2_makeRow_1 : decode cX2_makeRow 1 = .ok (.getfield 15, 3) := by decide +kernel
theorem dX2_makeRow_4 : decode cX2_makeRow 4 = .ok (.iload_n 1, 1) := by decide +kernel
theorem dX2_makeRow_5 : decode cX2_makeRow 5 = .ok (.iload_n 2, 1) := by decide +kernel
theorem dX2_makeRow_6 : decode cX2_makeRow 6 = .ok (.iastore, 1) := by decide +kernel
theorem dX2_makeRow_7 : decode cX2_makeRow 7 = .ok (.aload_n 0, 1) := by decide +kernel
theorem dX2_makeRow_8 : decode cX2_makeRow 8 = .ok (.getfield 18, 3) := by decide +kernel
theorem dX2_makeRow_11 : decode cX2_makeRow 11 = .ok (.iload_n 1, 1) := by decide +kernel
theorem dX2_makeRow_12 : decode cX2_makeRow 12 = .ok (.iload_n 3, 1) := by decide +kernel
theorem dX2_makeRow_13 : decode cX2_makeRow 13 = .ok (.iastore, 1) := by decide +kernel
theorem dX2_makeRow_14 : decode cX2_makeRow 14 = .ok (.aload_n 0, 1) := by decide +kernel
theorem dX2_makeRow_15 : decode cX2_makeRow 15 = .ok (.getfield 9, 3) := by decide +kernel
theorem dX2_makeRow_18 : decode cX2_makeRow 18 = .ok (.iload_n 1, 1) := by decide +kernel
theorem dX2_makeRow_19 : decode cX2_makeRow 19 = .ok (.bipush 60, 2) := by decide +kernel
theorem dX2_makeRow_21 : decode cX2_makeRow 21 = .ok (.imul, 1) := by decide +kernel
theorem dX2_makeRow_22 : decode cX2_makeRow 22 = .ok (.iload_n 1, 1) := by decide +kernel
theorem dX2_makeRow_23 : decode cX2_makeRow 23 = .ok (.bipush 60, 2) := by decide +kernel
theorem dX2_makeRow_25 : decode cX2_makeRow 25 = .ok (.imul, 1) := by decide +kernel
theorem dX2_makeRow_26 : decode cX2_makeRow 26 = .ok (.iload_n 3, 1) := by decide +kernel
theorem dX2_makeRow_27 : decode cX2_makeRow 27 = .ok (.iadd, 1) := by decide +kernel
theorem dX2_makeRow_28 : decode cX2_makeRow 28 = .ok (.iconst 0, 1) := by decide +kernel
theorem dX2_makeRow_29 : decode cX2_makeRow 29 = .ok (.invokestatic 35, 3) := by decide +kernel
theorem dX2_makeRow_32 : decode cX2_makeRow 32 = .ok (.return_, 1) := by decide +kernel
theorem dX2_dropRow_0 : decode cX2_dropRow 0 = .ok (.aload_n 0, 1) := by decide +kernel
theorem dX2_dropRow_1 : decode cX2_dropRow 1 = .ok (.iload_n 1, 1) := by decide +kernel
theorem dX2_dropRow_2 : decode cX2_dropRow 2 = .ok (.invokevirtual 27, 3) := by decide +kernel
theorem dX2_dropRow_5 : decode cX2_dropRow 5 = .ok (.istore_n 2, 1) := by decide +kernel
theorem dX2_dropRow_6 : decode cX2_dropRow 6 = .ok (.aload_n 0, 1) := by decide +kernel
theorem dX2_dropRow_7 : decode cX2_dropRow 7 = .ok (.getfield 18, 3) := by decide +kernel
theorem dX2_dropRow_10 : decode cX2_dropRow 10 = .ok (.iload_n 1, 1) := by decide +kernel
theorem dX2_dropRow_11 : decode cX2_dropRow 11 = .ok (.bipush (-9), 2) := by decide +kernel
theorem dX2_dropRow_13 : decode cX2_dropRow 13 = .ok (.iastore, 1) := by decide +kernel
theorem dX2_dropRow_14 : decode cX2_dropRow 14 = .ok (.iload_n 2, 1) := by decide +kernel
theorem dX2_dropRow_15 : decode cX2_dropRow 15 = .ok (.ireturn, 1) := by decide +kernel
theorem dX2_read_0 : decode cX2_read 0 = .ok (.aload_n 0, 1) := by decide +kernel
theorem dX2_read_1 : decode cX2_read 1 = .ok (.getfield 9, 3) := by decide +kernel
theorem dX2_read_4 : decode cX2_read 4 = .ok (.iload_n 1, 1) := by decide +kernel
theorem dX2_read_5 : decode cX2_read 5 = .ok (.bipush 60, 2) := by decide +kernel
theorem dX2_read_7 : decode cX2_read 7 = .ok (.imul, 1) := by decide +kernel
theorem dX2_read_8 : decode cX2_read 8 = .ok (.iload_n 2, 1) := by decide +kernel
theorem dX2_read_9 : decode cX2_read 9 = .ok (.iadd, 1) := by decide +kernel
theorem dX2_read_10 : decode cX2_read 10 = .ok (.iaload, 1) := by decide +kernel
theorem dX2_read_11 : decode cX2_read 11 = .ok (.ireturn, 1) := by decide +kernel
theorem dX2_write_0 : decode cX2_write 0 = .ok (.iload_n 3, 1) := by decide +kernel
theorem dX2_write_1 : decode cX2_write 1 = .ok (.istore 4, 2) := by decide +kernel
theorem dX2_write_3 : decode cX2_write 3 = .ok (.aload_n 0, 1) := by decide +kernel
theorem dX2_write_4 : decode cX2_write 4 = .ok (.getfield 15, 3) := by decide +kernel
theorem dX2_write_7 : decode cX2_write 7 = .ok (.iload_n 1, 1) := by decide +kernel
theorem dX2_write_8 : decode cX2_write 8 = .ok (.iaload, 1) := by decide +kernel
theorem dX2_write_9 : decode cX2_write 9 = .ok (.ifCond .ne 7, 3) := by decide +kernel
theorem dX2_write_12 : decode cX2_write 12 = .ok (.iload_n 3, 1) := by decide +kernel
theorem dX2_write_13 : decode cX2_write 13 = .ok (.i2b, 1) := by decide +kernel
theorem dX2_write_14 : decode cX2_write 14 = .ok (.istore 4, 2) := by decide +kernel
theorem dX2_write_16 : decode cX2_write 16 = .ok (.aload_n 0, 1) := by decide +kernel
theorem dX2_write_17 : decode cX2_write 17 = .ok (.getfield 15, 3) := by decide +kernel
theorem dX2_write_20 : decode cX2_write 20 = .ok (.iload_n 1, 1) := by decide +kernel
theorem dX2_write_21 : decode cX2_write 21 = .ok (.iaload, 1) := by decide +kernel
theorem dX2_write_22 : decode cX2_write 22 = .ok (.iconst 1, 1) := by decide +kernel
theorem dX2_write_23 : decode cX2_write 23 = .ok (.if_icmp .ne 7, 3) := by decide +kernel
theorem dX2_write_26 : decode cX2_write 26 = .ok (.iload_n 3, 1) := by decide +kernel
theorem dX2_write_27 : decode cX2_write 27 = .ok (.i2s, 1) := by decide +kernel
theorem dX2_write_28 : decode cX2_write 28 = .ok (.istore 4, 2) := by decide +kernel
theorem dX2_write_30 : decode cX2_write 30 = .ok (.aload_n 0, 1) := by decide +kernel
theorem dX2_write_31 : decode cX2_write 31 = .ok (.getfield 9, 3) := by decide +kernel
theorem dX2_write_34 : decode cX2_write 34 = .ok (.iload_n 1, 1) := by decide +kernel
theorem dX2_write_35 : decode cX2_write 35 = .ok (.bipush 60, 2) := by decide +kernel
theorem dX2_write_37 : decode cX2_write 37 = .ok (.imul, 1) := by decide +kernel
theorem dX2_write_38 : decode cX2_write 38 = .ok (.iload_n 2, 1) := by decide +kernel
theorem dX2_write_39 : decode cX2_write 39 = .ok (.iadd, 1) := by decide +kernel
theorem dX2_write_40 : decode cX2_write 40 = .ok (.iload 4, 2) := by decide +kernel
theorem dX2_write_42 : decode cX2_write 42 = .ok (.iastore, 1) := by decide +kernel
theorem dX2_write_43 : decode cX2_write 43 = .ok (.return_, 1) := by decide +kernel
theorem dX2_take_0 : decode cX2_take 0 = .ok (.aload_n 0, 1) := by decide +kernel
theorem dX2_take_1 : decode cX2_take 1 = .ok (.getfield 9, 3) := by decide +kernel
theorem dX2_take_4 : decode cX2_take 4 = .ok (.iload_n 1, 1) := by decide +kernel
theorem dX2_take_5 : decode cX2_take 5 = .ok (.bipush 60, 2) := by decide +kernel
theorem dX2_take_7 : decode cX2_take 7 = .ok (.imul, 1) := by decide +kernel
theorem dX2_take_8 : decode cX2_take 8 = .ok (.iload_n 2, 1) := by decide +kernel
theorem dX2_take_9 : decode cX2_take 9 = .ok (.iadd, 1) := by decide +kernel
theorem dX2_take_10 : decode cX2_take 10 = .ok (.aload 4, 2) := by decide +kernel
theorem dX2_take_12 : decode cX2_take 12 = .ok (.iconst 0, 1) := by decide +kernel
theorem dX2_take_13 : decode cX2_take 13 = .ok (.iload_n 3, 1) := by decide +kernel
theorem dX2_take_14 : decode cX2_take 14 = .ok (.invokestatic 38, 3) := by decide +kernel
theorem dX2_take_17 : decode cX2_take 17 = .ok (.return_, 1) := by decide +kernel
theorem dX2_move_0 : decode cX2_move 0 = .ok (.aload_n 0, 1) := by decide +kernel
theorem dX2_move_1 : decode cX2_move 1 = .ok (.getfield 9, 3) := by decide +kernel
theorem dX2_move_4 : decode cX2_move 4 = .ok (.iload_n 1, 1) := by decide +kernel
theorem dX2_move_5 : decode cX2_move 5 = .ok (.bipush 60, 2) := by decide +kernel
theorem dX2_move_7 : decode cX2_move 7 = .ok (.imul, 1) := by decide +kernel
theorem dX2_move_8 : decode cX2_move 8 = .ok (.iload_n 2, 1) := by decide +kernel
theorem dX2_move_9 : decode cX2_move 9 = .ok (.iadd, 1) := by decide +kernel
theorem dX2_move_10 : decode cX2_move 10 = .ok (.aload_n 0, 1) := by decide +kernel
theorem dX2_move_11 : decode cX2_move 11 = .ok (.getfield 9, 3) := by decide +kernel
theorem dX2_move_14 : decode cX2_move 14 = .ok (.iload_n 3, 1) := by decide +kernel
theorem dX2_move_15 : decode cX2_move 15 = .ok (.bipush 60, 2) := by decide +kernel
theorem dX2_move_17 : decode cX2_move 17 = .ok (.imul, 1) := by decide +kernel
theorem dX2_move_18 : decode cX2_move 18 = .ok (.iload 4, 2) := by decide +kernel
theorem dX2_move_20 : decode cX2_move 20 = .ok (.iadd, 1) := by decide +kernel
theorem dX2_move_21 : decode cX2_move 21 = .ok (.iload 5, 2) := by decide +kernel
theorem dX2_move_23 : decode cX2_move 23 = .ok (.invokestatic 38, 3) := by decide +kernel
theorem dX2_move_26 : decode cX2_move 26 = .ok (.return_, 1) := by decide +kernel
theorem dX3_init_0 : decode cX3_init 0 = .ok (.aload_n 0, 1) := by decide +kernel
theorem dX3_init_1 : decode cX3_init 1 = .ok (.invokespecial 3, 3) := by decide +kernel
theorem dX3_init_4 : decode cX3_init 4 = .ok (.aload_n 0, 1) := by decide +kernel
theorem dX3_init_5 : decode cX3_init 5 = .ok (.iconst 5, 1) := by decide +kernel
theorem dX3_init_6 : decode cX3_init 6 = .ok (.newarray .int, 2) := by decide +kernel
theorem dX3_init_8 : decode cX3_init 8 = .ok (.putfield 9, 3) := by decide +kernel
theorem dX3_init_11 : decode cX3_init 11 = .ok (.return_, 1) := by decide +kernel
theorem dX3_placeOf_0 : decode cX3_placeOf 0 = .ok (.iconst 0, 1) := by decide +kernel
theorem dX3_placeOf_1 : decode cX3_placeOf 1 = .ok (.istore_n 3, 1) := by decide +kernel
theorem dX3_placeOf_2 : decode cX3_placeOf 2 = .ok (.iconst 0, 1) := by decide +kernel
theorem dX3_placeOf_3 : decode cX3_placeOf 3 = .ok (.istore 4, 2) := by decide +kernel
theorem dX3_placeOf_5 : decode cX3_placeOf 5 = .ok (.iload 4, 2) := by decide +kernel
theorem dX3_placeOf_7 : decode cX3_placeOf 7 = .ok (.aload_n 0, 1) := by decide +kernel
theorem dX3_placeOf_8 : decode cX3_placeOf 8 = .ok (.getfield 15, 3) := by decide +kernel
theorem dX3_placeOf_11 : decode cX3_placeOf 11 = .ok (.if_icmp .ge 49, 3) := by decide +kernel
theorem dX3_placeOf_14 : decode cX3_placeOf 14 = .ok (.iload 4, 2) := by decide +kernel
theorem dX3_placeOf_16 : decode cX3_placeOf 16 = .ok (.iload_n 1, 1) := by decide +kernel
theorem dX3_placeOf_17 : decode cX3_placeOf 17 = .ok (.if_icmp .ne 6, 3) := by decide +kernel
theorem dX3_placeOf_20 : decode cX3_placeOf 20 = .ok (.goto 34, 3) := by decide +kernel
theorem dX3_placeOf_23 : decode cX3_placeOf 23 = .ok (.aload_n 0, 1) := by decide +kernel
theorem dX3_placeOf_24 : decode cX3_placeOf 24 = .ok (.getfield 9, 3) := by decide +kernel
theorem dX3_placeOf_27 : decode cX3_placeOf 27 = .ok (.iload 4, 2) := by decide +kernel
theorem dX3_placeOf_29 : decode cX3_placeOf 29 = .ok (.iaload, 1) := by decide +kernel
theorem dX3_placeOf_30 : decode cX3_placeOf 30 = .ok (.iload_n 2, 1) := by decide +kernel
theorem dX3_placeOf_31 : decode cX3_placeOf 31 = .ok (.if_icmp .gt 20, 3) := by decide +kernel
theorem dX3_placeOf_34 : decode cX3_placeOf 34 = .ok (.aload_n 0, 1) := by decide +kernel
theorem dX3_placeOf_35 : decode cX3_placeOf 35 = .ok (.getfield 9, 3) := by decide +kernel
theorem dX3_placeOf_38 : decode cX3_placeOf 38 = .ok (.iload 4, 2) := by decide +kernel
theorem dX3_placeOf_40 : decode cX3_placeOf 40 = .ok (.iaload, 1) := by decide +kernel
theorem dX3_placeOf_41 : decode cX3_placeOf 41 = .ok (.iload_n 2, 1) := by decide +kernel
theorem dX3_placeOf_42 : decode cX3_placeOf 42 = .ok (.if_icmp .ne 12, 3) := by decide +kernel
theorem dX3_placeOf_45 : decode cX3_placeOf 45 = .ok (.iload 4, 2) := by decide +kernel
theorem dX3_placeOf_47 : decode cX3_placeOf 47 = .ok (.iload_n 1, 1) := by decide +kernel
theorem dX3_placeOf_48 : decode cX3_placeOf 48 = .ok (.if_icmp .ge 6, 3) := by decide +kernel
theorem dX3_placeOf_51 : decode cX3_placeOf 51 = .ok (.iinc 3 1, 3) := by decide +kernel
theorem dX3_placeOf_54 : decode cX3_placeOf 54 = .ok (.iinc 4 1, 3) := by decide +kernel
theorem dX3_placeOf_57 : decode cX3_placeOf 57 = .ok (.goto (-52), 3) := by decide +kernel
theorem dX3_placeOf_60 : decode cX3_placeOf 60 = .ok (.iload_n 3, 1) := by decide +kernel
theorem dX3_placeOf_61 : decode cX3_placeOf 61 = .ok (.ireturn, 1) := by decide +kernel
theorem dX3_needOf_0 : decode cX3_needOf 0 = .ok (.iconst 1, 1) := by decide +kernel
theorem dX3_needOf_1 : decode cX3_needOf 1 = .ok (.istore_n 2, 1) := by decide +kernel
theorem dX3_needOf_2 : decode cX3_needOf 2 = .ok (.iconst 0, 1) := by decide +kernel
theorem dX3_needOf_3 : decode cX3_needOf 3 = .ok (.istore_n 3, 1) := by decide +kernel
theorem dX3_needOf_4 : decode cX3_needOf 4 = .ok (.iload_n 3, 1) := by decide +kernel
theorem dX3_needOf_5 : decode cX3_needOf 5 = .ok (.aload_n 0, 1) := by decide +kernel
theorem dX3_needOf_6 : decode cX3_needOf 6 = .ok (.getfield 15, 3) := by decide +kernel
theorem dX3_needOf_9 : decode cX3_needOf 9 = .ok (.if_icmp .ge 44, 3) := by decide +kernel
theorem dX3_needOf_12 : decode cX3_needOf 12 = .ok (.iload_n 3, 1) := by decide +kernel
theorem dX3_needOf_13 : decode cX3_needOf 13 = .ok (.iload_n 1, 1) := by decide +kernel
theorem dX3_needOf_14 : decode cX3_needOf 14 = .ok (.if_icmp .ne 6, 3) := by decide +kernel
theorem dX3_needOf_17 : decode cX3_needOf 17 = .ok (.goto 30, 3) := by decide +kernel
theorem dX3_needOf_20 : decode cX3_needOf 20 = .ok (.iload_n 2, 1) := by decide +kernel
theorem dX3_needOf_21 : decode cX3_needOf 21 = .ok (.iload_n 3, 1) := by decide +kernel
theorem dX3_needOf_22 : decode cX3_needOf 22 = .ok (.iload_n 1, 1) := by decide +kernel
theorem dX3_needOf_23 : decode cX3_needOf 23 = .ok (.if_icmp .ge 14, 3) := by decide +kernel
theorem dX3_needOf_26 : decode cX3_needOf 26 = .ok (.aload_n 0, 1) := by decide +kernel
theorem dX3_needOf_27 : decode cX3_needOf 27 = .ok (.getfield 9, 3) := by decide +kernel
theorem dX3_needOf_30 : decode cX3_needOf 30 = .ok (.iload_n 3, 1) := by decide +kernel
theorem dX3_needOf_31 : decode cX3_needOf 31 = .ok (.iaload, 1) := by decide +kernel
theorem dX3_needOf_32 : decode cX3_needOf 32 = .ok (.iconst 1, 1) := by decide +kernel
theorem dX3_needOf_33 : decode cX3_needOf 33 = .ok (.iadd, 1) := by decide +kernel
theorem dX3_needOf_34 : decode cX3_needOf 34 = .ok (.goto 9, 3) := by decide +kernel
theorem dX3_needOf_37 : decode cX3_needOf 37 = .ok (.aload_n 0, 1) := by decide +kernel
theorem dX3_needOf_38 : decode cX3_needOf 38 = .ok (.getfield 9, 3) := by decide +kernel
theorem dX3_needOf_41 : decode cX3_needOf 41 = .ok (.iload_n 3, 1) := by decide +kernel
theorem dX3_needOf_42 : decode cX3_needOf 42 = .ok (.iaload, 1) := by decide +kernel
theorem dX3_needOf_43 : decode cX3_needOf 43 = .ok (.invokestatic 19, 3) := by decide +kernel
theorem dX3_needOf_46 : decode cX3_needOf 46 = .ok (.istore_n 2, 1) := by decide +kernel
theorem dX3_needOf_47 : decode cX3_needOf 47 = .ok (.iinc 3 1, 3) := by decide +kernel
theorem dX3_needOf_50 : decode cX3_needOf 50 = .ok (.goto (-46), 3) := by decide +kernel
theorem dX3_needOf_53 : decode cX3_needOf 53 = .ok (.iload_n 2, 1) := by decide +kernel
theorem dX3_needOf_54 : decode cX3_needOf 54 = .ok (.ireturn, 1) := by decide +kernel
theorem dX3_noLessThan_0 : decode cX3_noLessThan 0 = .ok (.iconst 0, 1) := by decide +kernel
theorem dX3_noLessThan_1 : decode cX3_noLessThan 1 = .ok (.istore_n 2, 1) := by decide +kernel
theorem dX3_noLessThan_2 : decode cX3_noLessThan 2 = .ok (.iconst 0, 1) := by decide +kernel
theorem dX3_noLessThan_3 : decode cX3_noLessThan 3 = .ok (.istore_n 3, 1) := by decide +kernel
theorem dX3_noLessThan_4 : decode cX3_noLessThan 4 = .ok (.iload_n 3, 1) := by decide +kernel
theorem dX3_noLessThan_5 : decode cX3_noLessThan 5 = .ok (.aload_n 0, 1) := by decide +kernel
theorem dX3_noLessThan_6 : decode cX3_noLessThan 6 = .ok (.getfield 15, 3) := by decide +kernel
theorem dX3_noLessThan_9 : decode cX3_noLessThan 9 = .ok (.if_icmp .ge 31, 3) := by decide +kernel
theorem dX3_noLessThan_12 : decode cX3_noLessThan 12 = .ok (.aload_n 0, 1) := by decide +kernel
theorem dX3_noLessThan_13 : decode cX3_noLessThan 13 = .ok (.getfield 9, 3) := by decide +kernel
theorem dX3_noLessThan_16 : decode cX3_noLessThan 16 = .ok (.iload_n 3, 1) := by decide +kernel
theorem dX3_noLessThan_17 : decode cX3_noLessThan 17 = .ok (.iaload, 1) := by decide +kernel
theorem dX3_noLessThan_18 : decode cX3_noLessThan 18 = .ok (.ifCond .le 16, 3) := by decide +kernel
theorem dX3_noLessThan_21 : decode cX3_noLessThan 21 = .ok (.aload_n 0, 1) := by decide +kernel
theorem dX3_noLessThan_22 : decode cX3_noLessThan 22 = .ok (.getfield 9, 3) := by decide +kernel
theorem dX3_noLessThan_25 : decode cX3_noLessThan 25 = .ok (.iload_n 3, 1) := by decide +kernel
theorem dX3_noLessThan_26 : decode cX3_noLessThan 26 = .ok (.iaload, 1) := by decide +kernel
theorem dX3_noLessThan_27 : decode cX3_noLessThan 27 = .ok (.iload_n 1, 1) := by decide +kernel
theorem dX3_noLessThan_28 : decode cX3_noLessThan 28 = .ok (.if_icmp .lt 6, 3) := by decide +kernel
theorem dX3_noLessThan_31 : decode cX3_noLessThan 31 = .ok (.iinc 2 1, 3) := by decide +kernel
theorem dX3_noLessThan_34 : decode cX3_noLessThan 34 = .ok (.iinc 3 1, 3) := by decide +kernel
theorem dX3_noLessThan_37 : decode cX3_noLessThan 37 = .ok (.goto (-33), 3) := by decide +kernel
theorem dX3_noLessThan_40 : decode cX3_noLessThan 40 = .ok (.iload_n 2, 1) := by decide +kernel
theorem dX3_noLessThan_41 : decode cX3_noLessThan 41 = .ok (.ireturn, 1) := by decide +kernel
theorem dX3_layAs_0 : decode cX3_layAs 0 = .ok (.iconst 0, 1) := by decide +kernel
theorem dX3_layAs_1 : decode cX3_layAs 1 = .ok (.istore_n 2, 1) := by decide +kernel
theorem dX3_layAs_2 : decode cX3_layAs 2 = .ok (.iload_n 2, 1) := by decide +kernel
theorem dX3_layAs_3 : decode cX3_layAs 3 = .ok (.aload_n 0, 1) := by decide +kernel
theorem dX3_layAs_4 : decode cX3_layAs 4 = .ok (.getfield 15, 3) := by decide +kernel
theorem dX3_layAs_7 : decode cX3_layAs 7 = .ok (.if_icmp .ge 30, 3) := by decide +kernel
theorem dX3_layAs_10 : decode cX3_layAs 10 = .ok (.aload_n 1, 1) := by decide +kernel
theorem dX3_layAs_11 : decode cX3_layAs 11 = .ok (.iload_n 2, 1) := by decide +kernel
theorem dX3_layAs_12 : decode cX3_layAs 12 = .ok (.iaload, 1) := by decide +kernel
theorem dX3_layAs_13 : decode cX3_layAs 13 = .ok (.istore_n 3, 1) := by decide +kernel
theorem dX3_layAs_14 : decode cX3_layAs 14 = .ok (.aload_n 0, 1) := by decide +kernel
theorem dX3_layAs_15 : decode cX3_layAs 15 = .ok (.iload_n 3, 1) := by decide +kernel
theorem dX3_layAs_16 : decode cX3_layAs 16 = .ok (.aload_n 0, 1) := by decide +kernel
theorem dX3_layAs_17 : decode cX3_layAs 17 = .ok (.getfield 9, 3) := by decide +kernel
theorem dX3_layAs_20 : decode cX3_layAs 20 = .ok (.iload_n 3, 1) := by decide +kernel
theorem dX3_layAs_21 : decode cX3_layAs 21 = .ok (.iaload, 1) := by decide +kernel
theorem dX3_layAs_22 : decode cX3_layAs 22 = .ok (.invokevirtual 25, 3) := by decide +kernel
theorem dX3_layAs_25 : decode cX3_layAs 25 = .ok (.iload_n 2, 1) := by decide +kernel
theorem dX3_layAs_26 : decode cX3_layAs 26 = .ok (.if_icmp .eq 5, 3) := by decide +kernel
theorem dX3_layAs_29 : decode cX3_layAs 29 = .ok (.iconst 0, 1) := by decide +kernel
theorem dX3_layAs_30 : decode cX3_layAs 30 = .ok (.ireturn, 1) := by decide +kernel
theorem dX3_layAs_31 : decode cX3_layAs 31 = .ok (.iinc 2 1, 3) := by decide +kernel
theorem dX3_layAs_34 : decode cX3_layAs 34 = .ok (.goto (-32), 3) := by decide +kernel
theorem dX3_layAs_37 : decode cX3_layAs 37 = .ok (.iconst 1, 1) := by decide +kernel
theorem dX3_layAs_38 : decode cX3_layAs 38 = .ok (.ireturn, 1) := by decide +kernel
theorem dX4_init_0 : decode cX4_init 0 = .ok (.aload_n 0, 1) := by decide +kernel
theorem dX4_init_1 : decode cX4_init 1 = .ok (.invokespecial 3, 3) := by decide +kernel
theorem dX4_init_4 : decode cX4_init 4 = .ok (.aload_n 0, 1) := by decide +kernel
theorem dX4_init_5 : decode cX4_init 5 = .ok (.bipush 60, 2) := by decide +kernel
theorem dX4_init_7 : decode cX4_init 7 = .ok (.newarray .int, 2) := by decide +kernel
theorem dX4_init_9 : decode cX4_init 9 = .ok (.putfield 9, 3) := by decide +kernel
theorem dX4_init_12 : decode cX4_init 12 = .ok (.return_, 1) := by decide +kernel
theorem dX4_firstFault_0 : decode cX4_firstFault 0 = .ok (.iconst 0, 1) := by decide +kernel
theorem dX4_firstFault_1 : decode cX4_firstFault 1 = .ok (.istore_n 1, 1) := by decide +kernel
theorem dX4_firstFault_2 : decode cX4_firstFault 2 = .ok (.iload_n 1, 1) := by decide +kernel
theorem dX4_firstFault_3 : decode cX4_firstFault 3 = .ok (.aload_n 0, 1) := by decide +kernel
theorem dX4_firstFault_4 : decode cX4_firstFault 4 = .ok (.getfield 15, 3) := by decide +kernel
theorem dX4_firstFault_7 : decode cX4_firstFault 7 = .ok (.if_icmp .ge 19, 3) := by decide +kernel
theorem dX4_firstFault_10 : decode cX4_firstFault 10 = .ok (.aload_n 0, 1) := by decide +kernel
theorem dX4_firstFault_11 : decode cX4_firstFault 11 = .ok (.iload_n 1, 1) := by decide +kernel
theorem dX4_firstFault_12 : decode cX4_firstFault 12 = .ok (.invokevirtual 19, 3) := by decide +kernel
theorem dX4_firstFault_15 : decode cX4_firstFault 15 = .ok (.ifCond .ne 5, 3) := by decide +kernel
theorem dX4_firstFault_18 : decode cX4_firstFault 18 = .ok (.iload_n 1, 1) := by decide +kernel
theorem dX4_firstFault_19 : decode cX4_firstFault 19 = .ok (.ireturn, 1) := by decide +kernel
theorem dX4_firstFault_20 : decode cX4_firstFault 20 = .ok (.iinc 1 1, 3) := by decide +kernel
theorem dX4_firstFault_23 : decode cX4_firstFault 23 = .ok (.goto (-21), 3) := by decide +kernel
theorem dX4_firstFault_26 : decode cX4_firstFault 26 = .ok (.aload_n 0, 1) := by decide +kernel
theorem dX4_firstFault_27 : decode cX4_firstFault 27 = .ok (.getfield 15, 3) := by decide +kernel
theorem dX4_firstFault_30 : decode cX4_firstFault 30 = .ok (.iconst 2, 1) := by decide +kernel
theorem dX4_firstFault_31 : decode cX4_firstFault 31 = .ok (.if_icmp .le 18, 3) := by decide +kernel
theorem dX4_firstFault_34 : decode cX4_firstFault 34 = .ok (.aload_n 0, 1) := by decide +kernel
theorem dX4_firstFault_35 : decode cX4_firstFault 35 = .ok (.getfield 15, 3) := by decide +kernel
theorem dX4_firstFault_38 : decode cX4_firstFault 38 = .ok (.iconst 2, 1) := by decide +kernel
theorem dX4_firstFault_39 : decode cX4_firstFault 39 = .ok (.isub, 1) := by decide +kernel
theorem dX4_firstFault_40 : decode cX4_firstFault 40 = .ok (.iconst 5, 1) := by decide +kernel
theorem dX4_firstFault_41 : decode cX4_firstFault 41 = .ok (.irem, 1) := by decide +kernel
theorem dX4_firstFault_42 : decode cX4_firstFault 42 = .ok (.ifCond .ne 7, 3) := by decide +kernel
theorem dX4_firstFault_45 : decode cX4_firstFault 45 = .ok (.iconst 1, 1) := by decide +kernel
theorem dX4_firstFault_46 : decode cX4_firstFault 46 = .ok (.goto 4, 3) := by decide +kernel
theorem dX4_firstFault_49 : decode cX4_firstFault 49 = .ok (.iconst 0, 1) := by decide +kernel
theorem dX4_firstFault_50 : decode cX4_firstFault 50 = .ok (.istore_n 1, 1) := by decide +kernel
theorem dX4_firstFault_51 : decode cX4_firstFault 51 = .ok (.iload_n 1, 1) := by decide +kernel
theorem dX4_firstFault_52 : decode cX4_firstFault 52 = .ok (.ifCond .eq 7, 3) := by decide +kernel
theorem dX4_firstFault_55 : decode cX4_firstFault 55 = .ok (.iconst (-1), 1) := by decide +kernel
theorem dX4_firstFault_56 : decode cX4_firstFault 56 = .ok (.goto 7, 3) := by decide +kernel
theorem dX4_firstFault_59 : decode cX4_firstFault 59 = .ok (.aload_n 0, 1) := by decide +kernel
theorem dX4_firstFault_60 : decode cX4_firstFault 60 = .ok (.getfield 15, 3) := by decide +kernel
theorem dX4_firstFault_63 : decode cX4_firstFault 63 = .ok (.ireturn, 1) := by decide +kernel
theorem dX4_goesOn_0 : decode cX4_goesOn 0 = .ok (.aload_n 0, 1) := by decide +kernel
theorem dX4_goesOn_1 : decode cX4_goesOn 1 = .ok (.getfield 9, 3) := by decide +kernel
theorem dX4_goesOn_4 : decode cX4_goesOn 4 = .ok (.iload_n 1, 1) := by decide +kernel
theorem dX4_goesOn_5 : decode cX4_goesOn 5 = .ok (.iaload, 1) := by decide +kernel
theorem dX4_goesOn_6 : decode cX4_goesOn 6 = .ok (.istore_n 2, 1) := by decide +kernel
theorem dX4_goesOn_7 : decode cX4_goesOn 7 = .ok (.iload_n 1, 1) := by decide +kernel
theorem dX4_goesOn_8 : decode cX4_goesOn 8 = .ok (.ifCond .ne 15, 3) := by decide +kernel
theorem dX4_goesOn_11 : decode cX4_goesOn 11 = .ok (.iload_n 2, 1) := by decide +kernel
theorem dX4_goesOn_12 : decode cX4_goesOn 12 = .ok (.bipush 105, 2) := by decide +kernel
theorem dX4_goesOn_14 : decode cX4_goesOn 14 = .ok (.if_icmp .ne 7, 3) := by decide +kernel
theorem dX4_goesOn_17 : decode cX4_goesOn 17 = .ok (.iconst 1, 1) := by decide +kernel
theorem dX4_goesOn_18 : decode cX4_goesOn 18 = .ok (.goto 4, 3) := by decide +kernel
theorem dX4_goesOn_21 : decode cX4_goesOn 21 = .ok (.iconst 0, 1) := by decide +kernel
theorem dX4_goesOn_22 : decode cX4_goesOn 22 = .ok (.ireturn, 1) := by decide +kernel
theorem dX4_goesOn_23 : decode cX4_goesOn 23 = .ok (.iload_n 1, 1) := by decide +kernel
theorem dX4_goesOn_24 : decode cX4_goesOn 24 = .ok (.iconst 1, 1) := by decide +kernel
theorem dX4_goesOn_25 : decode cX4_goesOn 25 = .ok (.if_icmp .ne 21, 3) := by decide +kernel
theorem dX4_goesOn_28 : decode cX4_goesOn 28 = .ok (.iload_n 2, 1) := by decide +kernel
theorem dX4_goesOn_29 : decode cX4_goesOn 29 = .ok (.bipush 50, 2) := by decide +kernel
theorem dX4_goesOn_31 : decode cX4_goesOn 31 = .ok (.if_icmp .lt 13, 3) := by decide +kernel
theorem dX4_goesOn_34 : decode cX4_goesOn 34 = .ok (.iload_n 2, 1) := by decide +kernel
theorem dX4_goesOn_35 : decode cX4_goesOn 35 = .ok (.bipush 53, 2) := by decide +kernel
theorem dX4_goesOn_37 : decode cX4_goesOn 37 = .ok (.if_icmp .gt 7, 3) := by decide +kernel
theorem dX4_goesOn_40 : decode cX4_goesOn 40 = .ok (.iconst 1, 1) := by decide +kernel
theorem dX4_goesOn_41 : decode cX4_goesOn 41 = .ok (.goto 4, 3) := by decide +kernel
theorem dX4_goesOn_44 : decode cX4_goesOn 44 = .ok (.iconst 0, 1) := by decide +kernel
theorem dX4_goesOn_45 : decode cX4_goesOn 45 = .ok (.ireturn, 1) := by decide +kernel
theorem dX4_goesOn_46 : decode cX4_goesOn 46 = .ok (.iload_n 1, 1) := by decide +kernel
theorem dX4_goesOn_47 : decode cX4_goesOn 47 = .ok (.iconst 2, 1) := by decide +kernel
theorem dX4_goesOn_48 : decode cX4_goesOn 48 = .ok (.isub, 1) := by decide +kernel
theorem dX4_goesOn_49 : decode cX4_goesOn 49 = .ok (.iconst 5, 1) := by decide +kernel
theorem dX4_goesOn_50 : decode cX4_goesOn 50 = .ok (.irem, 1) := by decide +kernel
theorem dX4_goesOn_51 : decode cX4_goesOn 51 = .ok (.tableswitch 135 0 3 #[29, 47, 71, 93], 29) := by decide +kernel
theorem dX4_goesOn_80 : decode cX4_goesOn 80 = .ok (.iload_n 2, 1) := by decide +kernel
theorem dX4_goesOn_81 : decode cX4_goesOn 81 = .ok (.bipush 59, 2) := by decide +kernel
theorem dX4_goesOn_83 : decode cX4_goesOn 83 = .ok (.if_icmp .ne 13, 3) := by decide +kernel
theorem dX4_goesOn_86 : decode cX4_goesOn 86 = .ok (.iload_n 1, 1) := by decide +kernel
theorem dX4_goesOn_87 : decode cX4_goesOn 87 = .ok (.bipush 52, 2) := by decide +kernel
theorem dX4_goesOn_89 : decode cX4_goesOn 89 = .ok (.if_icmp .ge 7, 3) := by decide +kernel
theorem dX4_goesOn_92 : decode cX4_goesOn 92 = .ok (.iconst 1, 1) := by decide +kernel
theorem dX4_goesOn_93 : decode cX4_goesOn 93 = .ok (.goto 4, 3) := by decide +kernel
theorem dX4_goesOn_96 : decode cX4_goesOn 96 = .ok (.iconst 0, 1) := by decide +kernel
theorem dX4_goesOn_97 : decode cX4_goesOn 97 = .ok (.ireturn, 1) := by decide +kernel
theorem dX4_goesOn_98 : decode cX4_goesOn 98 = .ok (.iload_n 2, 1) := by decide +kernel
theorem dX4_goesOn_99 : decode cX4_goesOn 99 = .ok (.bipush 116, 2) := by decide +kernel
theorem dX4_goesOn_101 : decode cX4_goesOn 101 = .ok (.if_icmp .eq 15, 3) := by decide +kernel
theorem dX4_goesOn_104 : decode cX4_goesOn 104 = .ok (.iload_n 2, 1) := by decide +kernel
theorem dX4_goesOn_105 : decode cX4_goesOn 105 = .ok (.bipush 103, 2) := by decide +kernel
theorem dX4_goesOn_107 : decode cX4_goesOn 107 = .ok (.if_icmp .eq 9, 3) := by decide +kernel
theorem dX4_goesOn_110 : decode cX4_goesOn 110 = .ok (.iload_n 2, 1) := by decide +kernel
theorem dX4_goesOn_111 : decode cX4_goesOn 111 = .ok (.bipush 119, 2) := by decide +kernel
theorem dX4_goesOn_113 : decode cX4_goesOn 113 = .ok (.if_icmp .ne 7, 3) := by decide +kernel
theorem dX4_goesOn_116 : decode cX4_goesOn 116 = .ok (.iconst 1, 1) := by decide +kernel
theorem dX4_goesOn_117 : decode cX4_goesOn 117 = .ok (.goto 4, 3) := by decide +kernel
theorem dX4_goesOn_120 : decode cX4_goesOn 120 = .ok (.iconst 0, 1) := by decide +kernel
theorem dX4_goesOn_121 : decode cX4_goesOn 121 = .ok (.ireturn, 1) := by decide +kernel
theorem dX4_goesOn_122 : decode cX4_goesOn 122 = .ok (.iload_n 2, 1) := by decide +kernel
theorem dX4_goesOn_123 : decode cX4_goesOn 123 = .ok (.bipush 48, 2) := by decide +kernel
theorem dX4_goesOn_125 : decode cX4_goesOn 125 = .ok (.if_icmp .lt 17, 3) := by decide +kernel
theorem dX4_goesOn_128 : decode cX4_goesOn 128 = .ok (.iload_n 2, 1) := by decide +kernel
theorem dX4_goesOn_129 : decode cX4_goesOn 129 = .ok (.aload_n 0, 1) := by decide +kernel
theorem dX4_goesOn_130 : decode cX4_goesOn 130 = .ok (.getfield 9, 3) := by decide +kernel
theorem dX4_goesOn_133 : decode cX4_goesOn 133 = .ok (.iconst 1, 1) := by decide +kernel
theorem dX4_goesOn_134 : decode cX4_goesOn 134 = .ok (.iaload, 1) := by decide +kernel
theorem dX4_goesOn_135 : decode cX4_goesOn 135 = .ok (.if_icmp .ge 7, 3) := by decide +kernel
theorem dX4_goesOn_138 : decode cX4_goesOn 138 = .ok (.iconst 1, 1) := by decide +kernel
theorem dX4_goesOn_139 : decode cX4_goesOn 139 = .ok (.goto 4, 3) := by decide +kernel
theorem dX4_goesOn_142 : decode cX4_goesOn 142 = .ok (.iconst 0, 1) := by decide +kernel
theorem dX4_goesOn_143 : decode cX4_goesOn 143 = .ok (.ireturn, 1) := by decide +kernel
theorem dX4_goesOn_144 : decode cX4_goesOn 144 = .ok (.iload_n 2, 1) := by decide +kernel
theorem dX4_goesOn_145 : decode cX4_goesOn 145 = .ok (.invokestatic 23, 3) := by decide +kernel
theorem dX4_goesOn_148 : decode cX4_goesOn 148 = .ok (.ifCond .eq 36, 3) := by decide +kernel
theorem dX4_goesOn_151 : decode cX4_goesOn 151 = .ok (.iload_n 2, 1) := by decide +kernel
theorem dX4_goesOn_152 : decode cX4_goesOn 152 = .ok (.bipush 48, 2) := by decide +kernel
theorem dX4_goesOn_154 : decode cX4_goesOn 154 = .ok (.if_icmp .ne 26, 3) := by decide +kernel
theorem dX4_goesOn_157 : decode cX4_goesOn 157 = .ok (.iload_n 1, 1) := by decide +kernel
theorem dX4_goesOn_158 : decode cX4_goesOn 158 = .ok (.iconst 1, 1) := by decide +kernel
theorem dX4_goesOn_159 : decode cX4_goesOn 159 = .ok (.iadd, 1) := by decide +kernel
theorem dX4_goesOn_160 : decode cX4_goesOn 160 = .ok (.aload_n 0, 1) := by decide +kernel
theorem dX4_goesOn_161 : decode cX4_goesOn 161 = .ok (.getfield 15, 3) := by decide +kernel
theorem dX4_goesOn_164 : decode cX4_goesOn 164 = .ok (.if_icmp .ge 16, 3) := by decide +kernel
theorem dX4_goesOn_167 : decode cX4_goesOn 167 = .ok (.aload_n 0, 1) := by decide +kernel
theorem dX4_goesOn_168 : decode cX4_goesOn 168 = .ok (.getfield 9, 3) := by decide +kernel
theorem dX4_goesOn_171 : decode cX4_goesOn 171 = .ok (.iload_n 1, 1) := by decide +kernel
theorem dX4_goesOn_172 : decode cX4_goesOn 172 = .ok (.iconst 1, 1) := by decide +kernel
theorem dX4_goesOn_173 : decode cX4_goesOn 173 = .ok (.iadd, 1) := by decide +kernel
theorem dX4_goesOn_174 : decode cX4_goesOn 174 = .ok (.iaload, 1) := by decide +kernel
theorem dX4_goesOn_175 : decode cX4_goesOn 175 = .ok (.bipush 48, 2) := by decide +kernel
theorem dX4_goesOn_177 : decode cX4_goesOn 177 = .ok (.if_icmp .eq 7, 3) := by decide +kernel
theorem dX4_goesOn_180 : decode cX4_goesOn 180 = .ok (.iconst 1, 1) := by decide +kernel
theorem dX4_goesOn_181 : decode cX4_goesOn 181 = .ok (.goto 4, 3) := by decide +kernel
theorem dX4_goesOn_184 : decode cX4_goesOn 184 = .ok (.iconst 0, 1) := by decide +kernel
theorem dX4_goesOn_185 : decode cX4_goesOn 185 = .ok (.ireturn, 1) := by decide +kernel
theorem dX4_goesOn_186 : decode cX4_goesOn 186 = .ok (.iload_n 2, 1) := by decide +kernel
theorem dX4_goesOn_187 : decode cX4_goesOn 187 = .ok (.invokestatic 23, 3) := by decide +kernel
theorem dX4_goesOn_190 : decode cX4_goesOn 190 = .ok (.ireturn, 1) := by decide +kernel
theorem dX4_isDigit_0 : decode cX4_isDigit 0 = .ok (.iload_n 0, 1) := by decide +kernel
theorem dX4_isDigit_1 : decode cX4_isDigit 1 = .ok (.bipush 48, 2) := by decide +kernel
theorem dX4_isDigit_3 : decode cX4_isDigit 3 = .ok (.if_icmp .lt 13, 3) := by decide +kernel
theorem dX4_isDigit_6 : decode cX4_isDigit 6 = .ok (.iload_n 0, 1) := by decide +kernel
theorem dX4_isDigit_7 : decode cX4_isDigit 7 = .ok (.bipush 57, 2) := by decide +kernel
theorem dX4_isDigit_9 : decode cX4_isDigit 9 = .ok (.if_icmp .gt 7, 3) := by decide +kernel
theorem dX4_isDigit_12 : decode cX4_isDigit 12 = .ok (.iconst 1, 1) := by decide +kernel
theorem dX4_isDigit_13 : decode cX4_isDigit 13 = .ok (.goto 4, 3) := by decide +kernel
theorem dX4_isDigit_16 : decode cX4_isDigit 16 = .ok (.iconst 0, 1) := by decide +kernel
theorem dX4_isDigit_17 : decode cX4_isDigit 17 = .ok (.ireturn, 1) := by decide +kernel
theorem dX4_guests_0 : decode cX4_guests 0 = .ok (.aload_n 0, 1) := by decide +kernel
theorem dX4_guests_1 : decode cX4_guests 1 = .ok (.getfield 9, 3) := by decide +kernel
theorem dX4_guests_4 : decode cX4_guests 4 = .ok (.iconst 1, 1) := by decide +kernel
theorem dX4_guests_5 : decode cX4_guests 5 = .ok (.iaload, 1) := by decide +kernel
theorem dX4_guests_6 : decode cX4_guests 6 = .ok (.bipush 48, 2) := by decide +kernel
theorem dX4_guests_8 : decode cX4_guests 8 = .ok (.isub, 1) := by decide +kernel
theorem dX4_guests_9 : decode cX4_guests 9 = .ok (.ireturn, 1) := by decide +kernel
theorem dX4_tales_0 : decode cX4_tales 0 = .ok (.aload_n 0, 1) := by decide +kernel
theorem dX4_tales_1 : decode cX4_tales 1 = .ok (.getfield 15, 3) := by decide +kernel
theorem dX4_tales_4 : decode cX4_tales 4 = .ok (.iconst 2, 1) := by decide +kernel
theorem dX4_tales_5 : decode cX4_tales 5 = .ok (.isub, 1) := by decide +kernel
theorem dX4_tales_6 : decode cX4_tales 6 = .ok (.iconst 5, 1) := by decide +kernel
theorem dX4_tales_7 : decode cX4_tales 7 = .ok (.idiv, 1) := by decide +kernel
theorem dX4_tales_8 : decode cX4_tales 8 = .ok (.ireturn, 1) := by decide +kernel
theorem dX4_kindOf_0 : decode cX4_kindOf 0 = .ok (.aload_n 0, 1) := by decide +kernel
theorem dX4_kindOf_1 : decode cX4_kindOf 1 = .ok (.getfield 9, 3) := by decide +kernel
theorem dX4_kindOf_4 : decode cX4_kindOf 4 = .ok (.iconst 2, 1) := by decide +kernel
theorem dX4_kindOf_5 : decode cX4_kindOf 5 = .ok (.iload_n 1, 1) := by decide +kernel
theorem dX4_kindOf_6 : decode cX4_kindOf 6 = .ok (.iconst 5, 1) := by decide +kernel
theorem dX4_kindOf_7 : decode cX4_kindOf 7 = .ok (.imul, 1) := by decide +kernel
theorem dX4_kindOf_8 : decode cX4_kindOf 8 = .ok (.iadd, 1) := by decide +kernel
theorem dX4_kindOf_9 : decode cX4_kindOf 9 = .ok (.iconst 1, 1) := by decide +kernel
theorem dX4_kindOf_10 : decode cX4_kindOf 10 = .ok (.iadd, 1) := by decide +kernel
theorem dX4_kindOf_11 : decode cX4_kindOf 11 = .ok (.iaload, 1) := by decide +kernel
theorem dX4_kindOf_12 : decode cX4_kindOf 12 = .ok (.istore_n 2, 1) := by decide +kernel
theorem dX4_kindOf_13 : decode cX4_kindOf 13 = .ok (.iload_n 2, 1) := by decide +kernel
theorem dX4_kindOf_14 : decode cX4_kindOf 14 = .ok (.bipush 119, 2) := by decide +kernel
theorem dX4_kindOf_16 : decode cX4_kindOf 16 = .ok (.if_icmp .ne 7, 3) := by decide +kernel
theorem dX4_kindOf_19 : decode cX4_kindOf 19 = .ok (.iconst 2, 1) := by decide +kernel
theorem dX4_kindOf_20 : decode cX4_kindOf 20 = .ok (.goto 14, 3) := by decide +kernel
theorem dX4_kindOf_23 : decode cX4_kindOf 23 = .ok (.iload_n 2, 1) := by decide +kernel
theorem dX4_kindOf_24 : decode cX4_kindOf 24 = .ok (.bipush 103, 2) := by decide +kernel
theorem dX4_kindOf_26 : decode cX4_kindOf 26 = .ok (.if_icmp .ne 7, 3) := by decide +kernel
theorem dX4_kindOf_29 : decode cX4_kindOf 29 = .ok (.iconst 1, 1) := by decide +kernel
theorem dX4_kindOf_30 : decode cX4_kindOf 30 = .ok (.goto 4, 3) := by decide +kernel
theorem dX4_kindOf_33 : decode cX4_kindOf 33 = .ok (.iconst 0, 1) := by decide +kernel
theorem dX4_kindOf_34 : decode cX4_kindOf 34 = .ok (.ireturn, 1) := by decide +kernel
theorem dX4_ownerOf_0 : decode cX4_ownerOf 0 = .ok (.aload_n 0, 1) := by decide +kernel
theorem dX4_ownerOf_1 : decode cX4_ownerOf 1 = .ok (.getfield 9, 3) := by decide +kernel
theorem dX4_ownerOf_4 : decode cX4_ownerOf 4 = .ok (.iconst 2, 1) := by decide +kernel
theorem dX4_ownerOf_5 : decode cX4_ownerOf 5 = .ok (.iload_n 1, 1) := by decide +kernel
theorem dX4_ownerOf_6 : decode cX4_ownerOf 6 = .ok (.iconst 5, 1) := by decide +kernel
theorem dX4_ownerOf_7 : decode cX4_ownerOf 7 = .ok (.imul, 1) := by decide +kernel
theorem dX4_ownerOf_8 : decode cX4_ownerOf 8 = .ok (.iadd, 1) := by decide +kernel
theorem dX4_ownerOf_9 : decode cX4_ownerOf 9 = .ok (.iconst 2, 1) := by decide +kernel
theorem dX4_ownerOf_10 : decode cX4_ownerOf 10 = .ok (.iadd, 1) := by decide +kernel
theorem dX4_ownerOf_11 : decode cX4_ownerOf 11 = .ok (.iaload, 1) := by decide +kernel
theorem dX4_ownerOf_12 : decode cX4_ownerOf 12 = .ok (.bipush 48, 2) := by decide +kernel
theorem dX4_ownerOf_14 : decode cX4_ownerOf 14 = .ok (.isub, 1) := by decide +kernel
theorem dX4_ownerOf_15 : decode cX4_ownerOf 15 = .ok (.ireturn, 1) := by decide +kernel
theorem dX4_heightOf_0 : decode cX4_heightOf 0 = .ok (.iconst 2, 1) := by decide +kernel
theorem dX4_heightOf_1 : decode cX4_heightOf 1 = .ok (.iload_n 1, 1) := by decide +kernel
theorem dX4_heightOf_2 : decode cX4_heightOf 2 = .ok (.iconst 5, 1) := by decide +kernel
theorem dX4_heightOf_3 : decode cX4_heightOf 3 = .ok (.imul, 1) := by decide +kernel
theorem dX4_heightOf_4 : decode cX4_heightOf 4 = .ok (.iadd, 1) := by decide +kernel
theorem dX4_heightOf_5 : decode cX4_heightOf 5 = .ok (.iconst 3, 1) := by decide +kernel
theorem dX4_heightOf_6 : decode cX4_heightOf 6 = .ok (.iadd, 1) := by decide +kernel
theorem dX4_heightOf_7 : decode cX4_heightOf 7 = .ok (.istore_n 2, 1) := by decide +kernel
theorem dX4_heightOf_8 : decode cX4_heightOf 8 = .ok (.aload_n 0, 1) := by decide +kernel
theorem dX4_heightOf_9 : decode cX4_heightOf 9 = .ok (.getfield 9, 3) := by decide +kernel
theorem dX4_heightOf_12 : decode cX4_heightOf 12 = .ok (.iload_n 2, 1) := by decide +kernel
theorem dX4_heightOf_13 : decode cX4_heightOf 13 = .ok (.iaload, 1) := by decide +kernel
theorem dX4_heightOf_14 : decode cX4_heightOf 14 = .ok (.bipush 48, 2) := by decide +kernel
theorem dX4_heightOf_16 : decode cX4_heightOf 16 = .ok (.isub, 1) := by decide +kernel
theorem dX4_heightOf_17 : decode cX4_heightOf 17 = .ok (.bipush 10, 2) := by decide +kernel
theorem dX4_heightOf_19 : decode cX4_heightOf 19 = .ok (.imul, 1) := by decide +kernel
theorem dX4_heightOf_20 : decode cX4_heightOf 20 = .ok (.aload_n 0, 1) := by decide +kernel
theorem dX4_heightOf_21 : decode cX4_heightOf 21 = .ok (.getfield 9, 3) := by decide +kernel
theorem dX4_heightOf_24 : decode cX4_heightOf 24 = .ok (.iload_n 2, 1) := by decide +kernel
theorem dX4_heightOf_25 : decode cX4_heightOf 25 = .ok (.iconst 1, 1) := by decide +kernel
theorem dX4_heightOf_26 : decode cX4_heightOf 26 = .ok (.iadd, 1) := by decide +kernel
theorem dX4_heightOf_27 : decode cX4_heightOf 27 = .ok (.iaload, 1) := by decide +kernel
theorem dX4_heightOf_28 : decode cX4_heightOf 28 = .ok (.iadd, 1) := by decide +kernel
theorem dX4_heightOf_29 : decode cX4_heightOf 29 = .ok (.bipush 48, 2) := by decide +kernel
theorem dX4_heightOf_31 : decode cX4_heightOf 31 = .ok (.isub, 1) := by decide +kernel
theorem dX4_heightOf_32 : decode cX4_heightOf 32 = .ok (.ireturn, 1) := by decide +kernel
theorem dX5_init_0 : decode cX5_init 0 = .ok (.aload_n 0, 1) := by decide +kernel
theorem dX5_init_1 : decode cX5_init 1 = .ok (.invokespecial 3, 3) := by decide +kernel
theorem dX5_init_4 : decode cX5_init 4 = .ok (.aload_n 0, 1) := by decide +kernel
theorem dX5_init_5 : decode cX5_init 5 = .ok (.bipush 6, 2) := by decide +kernel
theorem dX5_init_7 : decode cX5_init 7 = .ok (.newarray .int, 2) := by decide +kernel
theorem dX5_init_9 : decode cX5_init 9 = .ok (.putfield 9, 3) := by decide +kernel
theorem dX5_init_12 : decode cX5_init 12 = .ok (.aload_n 0, 1) := by decide +kernel
theorem dX5_init_13 : decode cX5_init 13 = .ok (.bipush 7, 2) := by decide +kernel
theorem dX5_init_15 : decode cX5_init 15 = .ok (.newarray .int, 2) := by decide +kernel
theorem dX5_init_17 : decode cX5_init 17 = .ok (.putfield 15, 3) := by decide +kernel
theorem dX5_init_20 : decode cX5_init 20 = .ok (.aload_n 0, 1) := by decide +kernel
theorem dX5_init_21 : decode cX5_init 21 = .ok (.bipush 10, 2) := by decide +kernel
theorem dX5_init_23 : decode cX5_init 23 = .ok (.newarray .int, 2) := by decide +kernel
theorem dX5_init_25 : decode cX5_init 25 = .ok (.putfield 18, 3) := by decide +kernel
theorem dX5_init_28 : decode cX5_init 28 = .ok (.aload_n 0, 1) := by decide +kernel
theorem dX5_init_29 : decode cX5_init 29 = .ok (.bipush 10, 2) := by decide +kernel
theorem dX5_init_31 : decode cX5_init 31 = .ok (.newarray .int, 2) := by decide +kernel
theorem dX5_init_33 : decode cX5_init 33 = .ok (.putfield 21, 3) := by decide +kernel
theorem dX5_init_36 : decode cX5_init 36 = .ok (.aload_n 0, 1) := by decide +kernel
theorem dX5_init_37 : decode cX5_init 37 = .ok (.bipush 6, 2) := by decide +kernel
theorem dX5_init_39 : decode cX5_init 39 = .ok (.newarray .int, 2) := by decide +kernel
theorem dX5_init_41 : decode cX5_init 41 = .ok (.putfield 24, 3) := by decide +kernel
theorem dX5_init_44 : decode cX5_init 44 = .ok (.aload_n 0, 1) := by decide +kernel
theorem dX5_init_45 : decode cX5_init 45 = .ok (.bipush 6, 2) := by decide +kernel
theorem dX5_init_47 : decode cX5_init 47 = .ok (.newarray .int, 2) := by decide +kernel
theorem dX5_init_49 : decode cX5_init 49 = .ok (.putfield 27, 3) := by decide +kernel
theorem dX5_init_52 : decode cX5_init 52 = .ok (.aload_n 0, 1) := by decide +kernel
theorem dX5_init_53 : decode cX5_init 53 = .ok (.aload_n 1, 1) := by decide +kernel
theorem dX5_init_54 : decode cX5_init 54 = .ok (.putfield 30, 3) := by decide +kernel
theorem dX5_init_57 : decode cX5_init 57 = .ok (.return_, 1) := by decide +kernel
theorem dX5_find_0 : decode cX5_find 0 = .ok (.aload_n 0, 1) := by decide +kernel
theorem dX5_find_1 : decode cX5_find 1 = .ok (.iload_n 1, 1) := by decide +kernel
theorem dX5_find_2 : decode cX5_find 2 = .ok (.putfield 34, 3) := by decide +kernel
theorem dX5_find_5 : decode cX5_find 5 = .ok (.aload_n 0, 1) := by decide +kernel
theorem dX5_find_6 : decode cX5_find 6 = .ok (.iload_n 2, 1) := by decide +kernel
theorem dX5_find_7 : decode cX5_find 7 = .ok (.putfield 38, 3) := by decide +kernel
theorem dX5_find_10 : decode cX5_find 10 = .ok (.aload_n 0, 1) := by decide +kernel
theorem dX5_find_11 : decode cX5_find 11 = .ok (.iconst (-1), 1) := by decide +kernel
theorem dX5_find_12 : decode cX5_find 12 = .ok (.putfield 41, 3) := by decide +kernel
theorem dX5_find_15 : decode cX5_find 15 = .ok (.aload_n 0, 1) := by decide +kernel
theorem dX5_find_16 : decode cX5_find 16 = .ok (.getfield 30, 3) := by decide +kernel
theorem dX5_find_19 : decode cX5_find 19 = .ok (.getfield 44, 3) := by decide +kernel
theorem dX5_find_22 : decode cX5_find 22 = .ok (.iconst 0, 1) := by decide +kernel
theorem dX5_find_23 : decode cX5_find 23 = .ok (.aload_n 0, 1) := by decide +kernel
theorem dX5_find_24 : decode cX5_find 24 = .ok (.getfield 18, 3) := by decide +kernel
theorem dX5_find_27 : decode cX5_find 27 = .ok (.iconst 0, 1) := by decide +kernel
theorem dX5_find_28 : decode cX5_find 28 = .ok (.bipush 10, 2) := by decide +kernel
theorem dX5_find_30 : decode cX5_find 30 = .ok (.invokestatic 47, 3) := by decide +kernel
theorem dX5_find_33 : decode cX5_find 33 = .ok (.aload_n 0, 1) := by decide +kernel
theorem dX5_find_34 : decode cX5_find 34 = .ok (.getfield 30, 3) := by decide +kernel
theorem dX5_find_37 : decode cX5_find 37 = .ok (.getfield 53, 3) := by decide +kernel
theorem dX5_find_40 : decode cX5_find 40 = .ok (.iconst 0, 1) := by decide +kernel
theorem dX5_find_41 : decode cX5_find 41 = .ok (.aload_n 0, 1) := by decide +kernel
theorem dX5_find_42 : decode cX5_find 42 = .ok (.getfield 21, 3) := by decide +kernel
theorem dX5_find_45 : decode cX5_find 45 = .ok (.iconst 0, 1) := by decide +kernel
theorem dX5_find_46 : decode cX5_find 46 = .ok (.bipush 10, 2) := by decide +kernel
theorem dX5_find_48 : decode cX5_find 48 = .ok (.invokestatic 47, 3) := by decide +kernel
theorem dX5_find_51 : decode cX5_find 51 = .ok (.aload_n 0, 1) := by decide +kernel
theorem dX5_find_52 : decode cX5_find 52 = .ok (.getfield 15, 3) := by decide +kernel
theorem dX5_find_55 : decode cX5_find 55 = .ok (.iload_n 2, 1) := by decide +kernel
theorem dX5_find_56 : decode cX5_find 56 = .ok (.iconst 0, 1) := by decide +kernel
theorem dX5_find_57 : decode cX5_find 57 = .ok (.iastore, 1) := by decide +kernel
theorem dX5_find_58 : decode cX5_find 58 = .ok (.iload_n 2, 1) := by decide +kernel
theorem dX5_find_59 : decode cX5_find 59 = .ok (.iconst 1, 1) := by decide +kernel
theorem dX5_find_60 : decode cX5_find 60 = .ok (.isub, 1) := by decide +kernel
theorem dX5_find_61 : decode cX5_find 61 = .ok (.istore_n 3, 1) := by decide +kernel
theorem dX5_find_62 : decode cX5_find 62 = .ok (.iload_n 3, 1) := by decide +kernel
theorem dX5_find_63 : decode cX5_find 63 = .ok (.ifCond .lt 37, 3) := by decide +kernel
theorem dX5_find_66 : decode cX5_find 66 = .ok (.aload_n 0, 1) := by decide +kernel
theorem dX5_find_67 : decode cX5_find 67 = .ok (.getfield 15, 3) := by decide +kernel
theorem dX5_find_70 : decode cX5_find 70 = .ok (.iload_n 3, 1) := by decide +kernel
theorem dX5_find_71 : decode cX5_find 71 = .ok (.aload_n 0, 1) := by decide +kernel
theorem dX5_find_72 : decode cX5_find 72 = .ok (.getfield 15, 3) := by decide +kernel
theorem dX5_find_75 : decode cX5_find 75 = .ok (.iload_n 3, 1) := by decide +kernel
theorem dX5_find_76 : decode cX5_find 76 = .ok (.iconst 1, 1) := by decide +kernel
theorem dX5_find_77 : decode cX5_find 77 = .ok (.iadd, 1) := by decide +kernel
theorem dX5_find_78 : decode cX5_find 78 = .ok (.iaload, 1) := by decide +kernel
theorem dX5_find_79 : decode cX5_find 79 = .ok (.aload_n 0, 1) := by decide +kernel
theorem dX5_find_80 : decode cX5_find 80 = .ok (.iload_n 3, 1) := by decide +kernel
theorem dX5_find_81 : decode cX5_find 81 = .ok (.invokevirtual 54, 3) := by decide +kernel
theorem dX5_find_84 : decode cX5_find 84 = .ok (.ifCond .eq 7, 3) := by decide +kernel
theorem dX5_find_87 : decode cX5_find 87 = .ok (.iconst 1, 1) := by decide +kernel
theorem dX5_find_88 : decode cX5_find 88 = .ok (.goto 4, 3) := by decide +kernel
theorem dX5_find_91 : decode cX5_find 91 = .ok (.iconst 0, 1) := by decide +kernel
theorem dX5_find_92 : decode cX5_find 92 = .ok (.iadd, 1) := by decide +kernel
theorem dX5_find_93 : decode cX5_find 93 = .ok (.iastore, 1) := by decide +kernel
theorem dX5_find_94 : decode cX5_find 94 = .ok (.iinc 3 (-1), 3) := by decide +kernel
theorem dX5_find_97 : decode cX5_find 97 = .ok (.goto (-35), 3) := by decide +kernel
theorem dX5_find_100 : decode cX5_find 100 = .ok (.aload_n 0, 1) := by decide +kernel
theorem dX5_find_101 : decode cX5_find 101 = .ok (.iconst 0, 1) := by decide +kernel
theorem dX5_find_102 : decode cX5_find 102 = .ok (.iconst 0, 1) := by decide +kernel
theorem dX5_find_103 : decode cX5_find 103 = .ok (.invokestatic 58, 3) := by decide +kernel
theorem dX5_find_106 : decode cX5_find 106 = .ok (.return_, 1) := by decide +kernel
theorem dX5_isWithinReach_0 : decode cX5_isWithinReach 0 = .ok (.iconst 0, 1) := by decide +kernel
theorem dX5_isWithinReach_1 : decode cX5_isWithinReach 1 = .ok (.istore_n 2, 1) := by decide +kernel
theorem dX5_isWithinReach_2 : decode cX5_isWithinReach 2 = .ok (.iload_n 2, 1) := by decide +kernel
theorem dX5_isWithinReach_3 : decode cX5_isWithinReach 3 = .ok (.aload_n 0, 1) := by decide +kernel
theorem dX5_isWithinReach_4 : decode cX5_isWithinReach 4 = .ok (.getfield 30, 3) := by decide +kernel
theorem dX5_isWithinReach_7 : decode cX5_isWithinReach 7 = .ok (.getfield 62, 3) := by decide +kernel
theorem dX5_isWithinReach_10 : decode cX5_isWithinReach 10 = .ok (.if_icmp .ge 54, 3) := by decide +kernel
theorem dX5_isWithinReach_13 : decode cX5_isWithinReach 13 = .ok (.aload_n 0, 1) := by decide +kernel
theorem dX5_isWithinReach_14 : decode cX5_isWithinReach 14 = .ok (.getfield 30, 3) := by decide +kernel
theorem dX5_isWithinReach_17 : decode cX5_isWithinReach 17 = .ok (.getfield 65, 3) := by decide +kernel
theorem dX5_isWithinReach_20 : decode cX5_isWithinReach 20 = .ok (.iload_n 2, 1) := by decide +kernel
theorem dX5_isWithinReach_21 : decode cX5_isWithinReach 21 = .ok (.iaload, 1) := by decide +kernel
theorem dX5_isWithinReach_22 : decode cX5_isWithinReach 22 = .ok (.aload_n 0, 1) := by decide +kernel
theorem dX5_isWithinReach_23 : decode cX5_isWithinReach 23 = .ok (.getfield 34, 3) := by decide +kernel
theorem dX5_isWithinReach_26 : decode cX5_isWithinReach 26 = .ok (.if_icmp .ne 32, 3) := by decide +kernel
theorem dX5_isWithinReach_29 : decode cX5_isWithinReach 29 = .ok (.aload_n 0, 1) := by decide +kernel
theorem dX5_isWithinReach_30 : decode cX5_isWithinReach 30 = .ok (.getfield 30, 3) := by decide +kernel
theorem dX5_isWithinReach_33 : decode cX5_isWithinReach 33 = .ok (.iload_n 2, 1) := by decide +kernel
theorem dX5_isWithinReach_34 : decode cX5_isWithinReach 34 = .ok (.aload_n 0, 1) := by decide +kernel
theorem dX5_isWithinReach_35 : decode cX5_isWithinReach 35 = .ok (.getfield 18, 3) := by decide +kernel
theorem dX5_isWithinReach_38 : decode cX5_isWithinReach 38 = .ok (.iload_n 2, 1) := by decide +kernel
theorem dX5_isWithinReach_39 : decode cX5_isWithinReach 39 = .ok (.iaload, 1) := by decide +kernel
theorem dX5_isWithinReach_40 : decode cX5_isWithinReach 40 = .ok (.iload_n 1, 1) := by decide +kernel
theorem dX5_isWithinReach_41 : decode cX5_isWithinReach 41 = .ok (.iconst 2, 1) := by decide +kernel
theorem dX5_isWithinReach_42 : decode cX5_isWithinReach 42 = .ok (.idiv, 1) := by decide +kernel
theorem dX5_isWithinReach_43 : decode cX5_isWithinReach 43 = .ok (.iadd, 1) := by decide +kernel
theorem dX5_isWithinReach_44 : decode cX5_isWithinReach 44 = .ok (.invokevirtual 68, 3) := by decide +kernel
theorem dX5_isWithinReach_47 : decode cX5_isWithinReach 47 = .ok (.aload_n 0, 1) := by decide +kernel
theorem dX5_isWithinReach_48 : decode cX5_isWithinReach 48 = .ok (.getfield 9, 3) := by decide +kernel
theorem dX5_isWithinReach_51 : decode cX5_isWithinReach 51 = .ok (.iload_n 1, 1) := by decide +kernel
theorem dX5_isWithinReach_52 : decode cX5_isWithinReach 52 = .ok (.iaload, 1) := by decide +kernel
theorem dX5_isWithinReach_53 : decode cX5_isWithinReach 53 = .ok (.if_icmp .le 5, 3) := by decide +kernel
theorem dX5_isWithinReach_56 : decode cX5_isWithinReach 56 = .ok (.iconst 1, 1) := by decide +kernel
theorem dX5_isWithinReach_57 : decode cX5_isWithinReach 57 = .ok (.ireturn, 1) := by decide +kernel
theorem dX5_isWithinReach_58 : decode cX5_isWithinReach 58 = .ok (.iinc 2 1, 3) := by decide +kernel
theorem dX5_isWithinReach_61 : decode cX5_isWithinReach 61 = .ok (.goto (-59), 3) := by decide +kernel
theorem dX5_isWithinReach_64 : decode cX5_isWithinReach 64 = .ok (.iconst 0, 1) := by decide +kernel
theorem dX5_isWithinReach_65 : decode cX5_isWithinReach 65 = .ok (.ireturn, 1) := by decide +kernel
theorem dX5_wins_0 : decode cX5_wins 0 = .ok (.aload_n 0, 1) := by decide +kernel
theorem dX5_wins_1 : decode cX5_wins 1 = .ok (.getfield 30, 3) := by decide +kernel
theorem dX5_wins_4 : decode cX5_wins 4 = .ok (.getfield 65, 3) := by decide +kernel
theorem dX5_wins_7 : decode cX5_wins 7 = .ok (.iload_n 1, 1) := by decide +kernel
theorem dX5_wins_8 : decode cX5_wins 8 = .ok (.iaload, 1) := by decide +kernel
theorem dX5_wins_9 : decode cX5_wins 9 = .ok (.aload_n 0, 1) := by decide +kernel
theorem dX5_wins_10 : decode cX5_wins 10 = .ok (.getfield 34, 3) := by decide +kernel
theorem dX5_wins_13 : decode cX5_wins 13 = .ok (.if_icmp .ne 62, 3) := by decide +kernel
theorem dX5_wins_16 : decode cX5_wins 16 = .ok (.aload_n 0, 1) := by decide +kernel
theorem dX5_wins_17 : decode cX5_wins 17 = .ok (.getfield 30, 3) := by decide +kernel
theorem dX5_wins_20 : decode cX5_wins 20 = .ok (.iload_n 1, 1) := by decide +kernel
theorem dX5_wins_21 : decode cX5_wins 21 = .ok (.aload_n 0, 1) := by decide +kernel
theorem dX5_wins_22 : decode cX5_wins 22 = .ok (.getfield 18, 3) := by decide +kernel
theorem dX5_wins_25 : decode cX5_wins 25 = .ok (.iload_n 1, 1) := by decide +kernel
theorem dX5_wins_26 : decode cX5_wins 26 = .ok (.iaload, 1) := by decide +kernel
theorem dX5_wins_27 : decode cX5_wins 27 = .ok (.aload_n 0, 1) := by decide +kernel
theorem dX5_wins_28 : decode cX5_wins 28 = .ok (.getfield 21, 3) := by decide +kernel
theorem dX5_wins_31 : decode cX5_wins 31 = .ok (.iload_n 1, 1) := by decide +kernel
theorem dX5_wins_32 : decode cX5_wins 32 = .ok (.iaload, 1) := by decide +kernel
theorem dX5_wins_33 : decode cX5_wins 33 = .ok (.aload_n 0, 1) := by decide +kernel
theorem dX5_wins_34 : decode cX5_wins 34 = .ok (.getfield 30, 3) := by decide +kernel
theorem dX5_wins_37 : decode cX5_wins 37 = .ok (.getfield 72, 3) := by decide +kernel
theorem dX5_wins_40 : decode cX5_wins 40 = .ok (.iload_n 2, 1) := by decide +kernel
theorem dX5_wins_41 : decode cX5_wins 41 = .ok (.iadd, 1) := by decide +kernel
theorem dX5_wins_42 : decode cX5_wins 42 = .ok (.invokevirtual 75, 3) := by decide +kernel
theorem dX5_wins_45 : decode cX5_wins 45 = .ok (.ifCond .eq 30, 3) := by decide +kernel
theorem dX5_wins_48 : decode cX5_wins 48 = .ok (.aload_n 0, 1) := by decide +kernel
theorem dX5_wins_49 : decode cX5_wins 49 = .ok (.getfield 30, 3) := by decide +kernel
theorem dX5_wins_52 : decode cX5_wins 52 = .ok (.iload_n 1, 1) := by decide +kernel
theorem dX5_wins_53 : decode cX5_wins 53 = .ok (.aload_n 0, 1) := by decide +kernel
theorem dX5_wins_54 : decode cX5_wins 54 = .ok (.getfield 18, 3) := by decide +kernel
theorem dX5_wins_57 : decode cX5_wins 57 = .ok (.iload_n 1, 1) := by decide +kernel
theorem dX5_wins_58 : decode cX5_wins 58 = .ok (.iaload, 1) := by decide +kernel
theorem dX5_wins_59 : decode cX5_wins 59 = .ok (.invokevirtual 68, 3) := by decide +kernel
theorem dX5_wins_62 : decode cX5_wins 62 = .ok (.aload_n 0, 1) := by decide +kernel
theorem dX5_wins_63 : decode cX5_wins 63 = .ok (.getfield 9, 3) := by decide +kernel
theorem dX5_wins_66 : decode cX5_wins 66 = .ok (.iload_n 2, 1) := by decide +kernel
theorem dX5_wins_67 : decode cX5_wins 67 = .ok (.iaload, 1) := by decide +kernel
theorem dX5_wins_68 : decode cX5_wins 68 = .ok (.if_icmp .le 7, 3) := by decide +kernel
theorem dX5_wins_71 : decode cX5_wins 71 = .ok (.iconst 1, 1) := by decide +kernel
theorem dX5_wins_72 : decode cX5_wins 72 = .ok (.goto 4, 3) := by decide +kernel
theorem dX5_wins_75 : decode cX5_wins 75 = .ok (.iconst 0, 1) := by decide +kernel
theorem dX5_wins_76 : decode cX5_wins 76 = .ok (.ireturn, 1) := by decide +kernel
theorem dX5_search_0 : decode cX5_search 0 = .ok (.iload_n 2, 1) := by decide +kernel
theorem dX5_search_1 : decode cX5_search 1 = .ok (.aload_n 0, 1) := by decide +kernel
theorem dX5_search_2 : decode cX5_search 2 = .ok (.getfield 15, 3) := by decide +kernel
theorem dX5_search_5 : decode cX5_search 5 = .ok (.iload_n 1, 1) := by decide +kernel
theorem dX5_search_6 : decode cX5_search 6 = .ok (.iaload, 1) := by decide +kernel
theorem dX5_search_7 : decode cX5_search 7 = .ok (.iadd, 1) := by decide +kernel
theorem dX5_search_8 : decode cX5_search 8 = .ok (.aload_n 0, 1) := by decide +kernel
theorem dX5_search_9 : decode cX5_search 9 = .ok (.getfield 41, 3) := by decide +kernel
theorem dX5_search_12 : decode cX5_search 12 = .ok (.if_icmp .gt 4, 3) := by decide +kernel
theorem dX5_search_15 : decode cX5_search 15 = .ok (.return_, 1) := by decide +kernel
theorem dX5_search_16 : decode cX5_search 16 = .ok (.iload_n 1, 1) := by decide +kernel
theorem dX5_search_17 : decode cX5_search 17 = .ok (.aload_n 0, 1) := by decide +kernel
theorem dX5_search_18 : decode cX5_search 18 = .ok (.getfield 38, 3) := by decide +kernel
theorem dX5_search_21 : decode cX5_search 21 = .ok (.if_icmp .lt 24, 3) := by decide +kernel
theorem dX5_search_24 : decode cX5_search 24 = .ok (.aload_n 0, 1) := by decide +kernel
theorem dX5_search_25 : decode cX5_search 25 = .ok (.iload_n 2, 1) := by decide +kernel
theorem dX5_search_26 : decode cX5_search 26 = .ok (.putfield 41, 3) := by decide +kernel
theorem dX5_search_29 : decode cX5_search 29 = .ok (.aload_n 0, 1) := by decide +kernel
theorem dX5_search_30 : decode cX5_search 30 = .ok (.getfield 24, 3) := by decide +kernel
theorem dX5_search_33 : decode cX5_search 33 = .ok (.iconst 0, 1) := by decide +kernel
theorem dX5_search_34 : decode cX5_search 34 = .ok (.aload_n 0, 1) := by decide +kernel
theorem dX5_search_35 : decode cX5_search 35 = .ok (.getfield 27, 3) := by decide +kernel
theorem dX5_search_38 : decode cX5_search 38 = .ok (.iconst 0, 1) := by decide +kernel
theorem dX5_search_39 : decode cX5_search 39 = .ok (.bipush 6, 2) := by decide +kernel
theorem dX5_search_41 : decode cX5_search 41 = .ok (.invokestatic 47, 3) := by decide +kernel
theorem dX5_search_44 : decode cX5_search 44 = .ok (.return_, 1) := by decide +kernel
theorem dX5_search_45 : decode cX5_search 45 = .ok (.iconst 0, 1) := by decide +kernel
theorem dX5_search_46 : decode cX5_search 46 = .ok (.istore_n 3, 1) := by decide +kernel
theorem dX5_search_47 : decode cX5_search 47 = .ok (.iload_n 3, 1) := by decide +kernel
theorem dX5_search_48 : decode cX5_search 48 = .ok (.aload_n 0, 1) := by decide +kernel
theorem dX5_search_49 : decode cX5_search 49 = .ok (.getfield 30, 3) := by decide +kernel
theorem dX5_search_52 : decode cX5_search 52 = .ok (.getfield 62, 3) := by decide +kernel
theorem dX5_search_55 : decode cX5_search 55 = .ok (.if_icmp .ge 89, 3) := by decide +kernel
theorem dX5_search_58 : decode cX5_search 58 = .ok (.aload_n 0, 1) := by decide +kernel
theorem dX5_search_59 : decode cX5_search 59 = .ok (.iload_n 3, 1) := by decide +kernel
theorem dX5_search_60 : decode cX5_search 60 = .ok (.iload_n 1, 1) := by decide +kernel
theorem dX5_search_61 : decode cX5_search 61 = .ok (.invokevirtual 79, 3) := by decide +kernel
theorem dX5_search_64 : decode cX5_search 64 = .ok (.ifCond .ne 6, 3) := by decide +kernel
theorem dX5_search_67 : decode cX5_search 67 = .ok (.goto 71, 3) := by decide +kernel
theorem dX5_search_70 : decode cX5_search 70 = .ok (.aload_n 0, 1) := by decide +kernel
theorem dX5_search_71 : decode cX5_search 71 = .ok (.getfield 21, 3) := by decide +kernel
theorem dX5_search_74 : decode cX5_search 74 = .ok (.iload_n 3, 1) := by decide +kernel
theorem dX5_search_75 : decode cX5_search 75 = .ok (.iaload, 1) := by decide +kernel
theorem dX5_search_76 : decode cX5_search 76 = .ok (.istore 4, 2) := by decide +kernel
theorem dX5_search_78 : decode cX5_search 78 = .ok (.aload_n 0, 1) := by decide +kernel
theorem dX5_search_79 : decode cX5_search 79 = .ok (.getfield 18, 3) := by decide +kernel
theorem dX5_search_82 : decode cX5_search 82 = .ok (.iload_n 3, 1) := by decide +kernel
theorem dX5_search_83 : decode cX5_search 83 = .ok (.dup2, 1) := by decide +kernel
theorem dX5_search_84 : decode cX5_search 84 = .ok (.iaload, 1) := by decide +kernel
theorem dX5_search_85 : decode cX5_search 85 = .ok (.iconst 1, 1) := by decide +kernel
theorem dX5_search_86 : decode cX5_search 86 = .ok (.iadd, 1) := by decide +kernel
theorem dX5_search_87 : decode cX5_search 87 = .ok (.iastore, 1) := by decide +kernel
theorem dX5_search_88 : decode cX5_search 88 = .ok (.aload_n 0, 1) := by decide +kernel
theorem dX5_search_89 : decode cX5_search 89 = .ok (.getfield 21, 3) := by decide +kernel
theorem dX5_search_92 : decode cX5_search 92 = .ok (.iload_n 3, 1) := by decide +kernel
theorem dX5_search_93 : decode cX5_search 93 = .ok (.aload_n 0, 1) := by decide +kernel
theorem dX5_search_94 : decode cX5_search 94 = .ok (.getfield 30, 3) := by decide +kernel
theorem dX5_search_97 : decode cX5_search 97 = .ok (.getfield 72, 3) := by decide +kernel
theorem dX5_search_100 : decode cX5_search 100 = .ok (.iload_n 1, 1) := by decide +kernel
theorem dX5_search_101 : decode cX5_search 101 = .ok (.iadd, 1) := by decide +kernel
theorem dX5_search_102 : decode cX5_search 102 = .ok (.iastore, 1) := by decide +kernel
theorem dX5_search_103 : decode cX5_search 103 = .ok (.aload_n 0, 1) := by decide +kernel
theorem dX5_search_104 : decode cX5_search 104 = .ok (.getfield 24, 3) := by decide +kernel
theorem dX5_search_107 : decode cX5_search 107 = .ok (.iload_n 1, 1) := by decide +kernel
theorem dX5_search_108 : decode cX5_search 108 = .ok (.iload_n 3, 1) := by decide +kernel
theorem dX5_search_109 : decode cX5_search 109 = .ok (.iastore, 1) := by decide +kernel
theorem dX5_search_110 : decode cX5_search 110 = .ok (.aload_n 0, 1) := by decide +kernel
theorem dX5_search_111 : decode cX5_search 111 = .ok (.iload_n 1, 1) := by decide +kernel
theorem dX5_search_112 : decode cX5_search 112 = .ok (.iconst 1, 1) := by decide +kernel
theorem dX5_search_113 : decode cX5_search 113 = .ok (.iadd, 1) := by decide +kernel
theorem dX5_search_114 : decode cX5_search 114 = .ok (.iload_n 2, 1) := by decide +kernel
theorem dX5_search_115 : decode cX5_search 115 = .ok (.iconst 1, 1) := by decide +kernel
theorem dX5_search_116 : decode cX5_search 116 = .ok (.iadd, 1) := by decide +kernel
theorem dX5_search_117 : decode cX5_search 117 = .ok (.invokestatic 58, 3) := by decide +kernel
theorem dX5_search_120 : decode cX5_search 120 = .ok (.aload_n 0, 1) := by decide +kernel
theorem dX5_search_121 : decode cX5_search 121 = .ok (.getfield 18, 3) := by decide +kernel
theorem dX5_search_124 : decode cX5_search 124 = .ok (.iload_n 3, 1) := by decide +kernel
theorem dX5_search_125 : decode cX5_search 125 = .ok (.dup2, 1) := by decide +kernel
theorem dX5_search_126 : decode cX5_search 126 = .ok (.iaload, 1) := by decide +kernel
theorem dX5_search_127 : decode cX5_search 127 = .ok (.iconst 1, 1) := by decide +kernel
theorem dX5_search_128 : decode cX5_search 128 = .ok (.isub, 1) := by decide +kernel
theorem dX5_search_129 : decode cX5_search 129 = .ok (.iastore, 1) := by decide +kernel
theorem dX5_search_130 : decode cX5_search 130 = .ok (.aload_n 0, 1) := by decide +kernel
theorem dX5_search_131 : decode cX5_search 131 = .ok (.getfield 21, 3) := by decide +kernel
theorem dX5_search_134 : decode cX5_search 134 = .ok (.iload_n 3, 1) := by decide +kernel
theorem dX5_search_135 : decode cX5_search 135 = .ok (.iload 4, 2) := by decide +kernel
theorem dX5_search_137 : decode cX5_search 137 = .ok (.iastore, 1) := by decide +kernel
theorem dX5_search_138 : decode cX5_search 138 = .ok (.iinc 3 1, 3) := by decide +kernel
theorem dX5_search_141 : decode cX5_search 141 = .ok (.goto (-94), 3) := by decide +kernel
theorem dX5_search_144 : decode cX5_search 144 = .ok (.aload_n 0, 1) := by decide +kernel
theorem dX5_search_145 : decode cX5_search 145 = .ok (.getfield 24, 3) := by decide +kernel
theorem dX5_search_148 : decode cX5_search 148 = .ok (.iload_n 1, 1) := by decide +kernel
theorem dX5_search_149 : decode cX5_search 149 = .ok (.bipush (-9), 2) := by decide +kernel
theorem dX5_search_151 : decode cX5_search 151 = .ok (.iastore, 1) := by decide +kernel
theorem dX5_search_152 : decode cX5_search 152 = .ok (.aload_n 0, 1) := by decide +kernel
theorem dX5_search_153 : decode cX5_search 153 = .ok (.iload_n 1, 1) := by decide +kernel
theorem dX5_search_154 : decode cX5_search 154 = .ok (.iconst 1, 1) := by decide +kernel
theorem dX5_search_155 : decode cX5_search 155 = .ok (.iadd, 1) := by decide +kernel
theorem dX5_search_156 : decode cX5_search 156 = .ok (.iload_n 2, 1) := by decide +kernel
theorem dX5_search_157 : decode cX5_search 157 = .ok (.invokestatic 58, 3) := by decide +kernel
theorem dX5_search_160 : decode cX5_search 160 = .ok (.return_, 1) := by decide +kernel
theorem dX6_init_0 : decode cX6_init 0 = .ok (.aload_n 0, 1) := by decide +kernel
theorem dX6_init_1 : decode cX6_init 1 = .ok (.invokespecial 3, 3) := by decide +kernel
theorem dX6_init_4 : decode cX6_init 4 = .ok (.aload_n 0, 1) := by decide +kernel
theorem dX6_init_5 : decode cX6_init 5 = .ok (.new 9, 3) := by decide +kernel
theorem dX6_init_8 : decode cX6_init 8 = .ok (.dup, 1) := by decide +kernel
theorem dX6_init_9 : decode cX6_init 9 = .ok (.invokespecial 11, 3) := by decide +kernel
theorem dX6_init_12 : decode cX6_init 12 = .ok (.putfield 12, 3) := by decide +kernel
theorem dX6_init_15 : decode cX6_init 15 = .ok (.aload_n 0, 1) := by decide +kernel
theorem dX6_init_16 : decode cX6_init 16 = .ok (.new 18, 3) := by decide +kernel
theorem dX6_init_19 : decode cX6_init 19 = .ok (.dup, 1) := by decide +kernel
theorem dX6_init_20 : decode cX6_init 20 = .ok (.invokespecial 20, 3) := by decide +kernel
theorem dX6_init_23 : decode cX6_init 23 = .ok (.putfield 21, 3) := by decide +kernel
theorem dX6_init_26 : decode cX6_init 26 = .ok (.aload_n 0, 1) := by decide +kernel
theorem dX6_init_27 : decode cX6_init 27 = .ok (.new 25, 3) := by decide +kernel
theorem dX6_init_30 : decode cX6_init 30 = .ok (.dup, 1) := by decide +kernel
theorem dX6_init_31 : decode cX6_init 31 = .ok (.invokespecial 27, 3) := by decide +kernel
theorem dX6_init_34 : decode cX6_init 34 = .ok (.putfield 28, 3) := by decide +kernel
theorem dX6_init_37 : decode cX6_init 37 = .ok (.aload_n 0, 1) := by decide +kernel
theorem dX6_init_38 : decode cX6_init 38 = .ok (.new 32, 3) := by decide +kernel
theorem dX6_init_41 : decode cX6_init 41 = .ok (.dup, 1) := by decide +kernel
theorem dX6_init_42 : decode cX6_init 42 = .ok (.invokespecial 34, 3) := by decide +kernel
theorem dX6_init_45 : decode cX6_init 45 = .ok (.putfield 35, 3) := by decide +kernel
theorem dX6_init_48 : decode cX6_init 48 = .ok (.aload_n 0, 1) := by decide +kernel
theorem dX6_init_49 : decode cX6_init 49 = .ok (.new 39, 3) := by decide +kernel
theorem dX6_init_52 : decode cX6_init 52 = .ok (.dup, 1) := by decide +kernel
theorem dX6_init_53 : decode cX6_init 53 = .ok (.aload_n 0, 1) := by decide +kernel
theorem dX6_init_54 : decode cX6_init 54 = .ok (.getfield 28, 3) := by decide +kernel
theorem dX6_init_57 : decode cX6_init 57 = .ok (.aload_n 0, 1) := by decide +kernel
theorem dX6_init_58 : decode cX6_init 58 = .ok (.getfield 35, 3) := by decide +kernel
theorem dX6_init_61 : decode cX6_init 61 = .ok (.invokespecial 41, 3) := by decide +kernel
theorem dX6_init_64 : decode cX6_init 64 = .ok (.putfield 44, 3) := by decide +kernel
theorem dX6_init_67 : decode cX6_init 67 = .ok (.aload_n 0, 1) := by decide +kernel
theorem dX6_init_68 : decode cX6_init 68 = .ok (.new 48, 3) := by decide +kernel
theorem dX6_init_71 : decode cX6_init 71 = .ok (.dup, 1) := by decide +kernel
theorem dX6_init_72 : decode cX6_init 72 = .ok (.aload_n 0, 1) := by decide +kernel
theorem dX6_init_73 : decode cX6_init 73 = .ok (.getfield 28, 3) := by decide +kernel
theorem dX6_init_76 : decode cX6_init 76 = .ok (.invokespecial 50, 3) := by decide +kernel
theorem dX6_init_79 : decode cX6_init 79 = .ok (.putfield 53, 3) := by decide +kernel
theorem dX6_init_82 : decode cX6_init 82 = .ok (.aload_n 0, 1) := by decide +kernel
theorem dX6_init_83 : decode cX6_init 83 = .ok (.iconst 5, 1) := by decide +kernel
theorem dX6_init_84 : decode cX6_init 84 = .ok (.newarray .int, 2) := by decide +kernel
theorem dX6_init_86 : decode cX6_init 86 = .ok (.putfield 57, 3) := by decide +kernel
theorem dX6_init_89 : decode cX6_init 89 = .ok (.return_, 1) := by decide +kernel
theorem dX6_inn_0 : decode cX6_inn 0 = .ok (.aload_n 0, 1) := by decide +kernel
theorem dX6_inn_1 : decode cX6_inn 1 = .ok (.iconst 0, 1) := by decide +kernel
theorem dX6_inn_2 : decode cX6_inn 2 = .ok (.putfield 61, 3) := by decide +kernel
theorem dX6_inn_5 : decode cX6_inn 5 = .ok (.iload_n 1, 1) := by decide +kernel
theorem dX6_inn_6 : decode cX6_inn 6 = .ok (.invokestatic 65, 3) := by decide +kernel
theorem dX6_inn_9 : decode cX6_inn 9 = .ok (.ifCond .ne 5, 3) := by decide +kernel
theorem dX6_inn_12 : decode cX6_inn 12 = .ok (.iconst (-1), 1) := by decide +kernel
theorem dX6_inn_13 : decode cX6_inn 13 = .ok (.ireturn, 1) := by decide +kernel
theorem dX6_inn_14 : decode cX6_inn 14 = .ok (.iload_n 2, 1) := by decide +kernel
theorem dX6_inn_15 : decode cX6_inn 15 = .ok (.invokestatic 69, 3) := by decide +kernel
theorem dX6_inn_18 : decode cX6_inn 18 = .ok (.ifCond .ne 6, 3) := by decide +kernel
theorem dX6_inn_21 : decode cX6_inn 21 = .ok (.bipush (-2), 2) := by decide +kernel
theorem dX6_inn_23 : decode cX6_inn 23 = .ok (.ireturn, 1) := by decide +kernel
theorem dX6_inn_24 : decode cX6_inn 24 = .ok (.aload_n 0, 1) := by decide +kernel
theorem dX6_inn_25 : decode cX6_inn 25 = .ok (.getfield 12, 3) := by decide +kernel
theorem dX6_inn_28 : decode cX6_inn 28 = .ok (.iload_n 1, 1) := by decide +kernel
theorem dX6_inn_29 : decode cX6_inn 29 = .ok (.iload_n 2, 1) := by decide +kernel
theorem dX6_inn_30 : decode cX6_inn 30 = .ok (.iload_n 3, 1) := by decide +kernel
theorem dX6_inn_31 : decode cX6_inn 31 = .ok (.iload 4, 2) := by decide +kernel
theorem dX6_inn_33 : decode cX6_inn 33 = .ok (.invokevirtual 72, 3) := by decide +kernel
theorem dX6_inn_36 : decode cX6_inn 36 = .ok (.istore 5, 2) := by decide +kernel
theorem dX6_inn_38 : decode cX6_inn 38 = .ok (.iload 5, 2) := by decide +kernel
theorem dX6_inn_40 : decode cX6_inn 40 = .ok (.ifCond .eq 10, 3) := by decide +kernel
theorem dX6_inn_43 : decode cX6_inn 43 = .ok (.aload_n 0, 1) := by decide +kernel
theorem dX6_inn_44 : decode cX6_inn 44 = .ok (.iload 5, 2) := by decide +kernel
theorem dX6_inn_46 : decode cX6_inn 46 = .ok (.invokevirtual 76, 3) := by decide +kernel
theorem dX6_inn_49 : decode cX6_inn 49 = .ok (.ireturn, 1) := by decide +kernel
theorem dX6_inn_50 : decode cX6_inn 50 = .ok (.aload_n 0, 1) := by decide +kernel
theorem dX6_inn_51 : decode cX6_inn 51 = .ok (.getfield 21, 3) := by decide +kernel
theorem dX6_inn_54 : decode cX6_inn 54 = .ok (.iload 4, 2) := by decide +kernel
theorem dX6_inn_56 : decode cX6_inn 56 = .ok (.putfield 80, 3) := by decide +kernel
theorem dX6_inn_59 : decode cX6_inn 59 = .ok (.aload_n 0, 1) := by decide +kernel
theorem dX6_inn_60 : decode cX6_inn 60 = .ok (.getfield 12, 3) := by decide +kernel
theorem dX6_inn_63 : decode cX6_inn 63 = .ok (.iload_n 1, 1) := by decide +kernel
theorem dX6_inn_64 : decode cX6_inn 64 = .ok (.iload_n 3, 1) := by decide +kernel
theorem dX6_inn_65 : decode cX6_inn 65 = .ok (.iload 4, 2) := by decide +kernel
theorem dX6_inn_67 : decode cX6_inn 67 = .ok (.aload_n 0, 1) := by decide +kernel
theorem dX6_inn_68 : decode cX6_inn 68 = .ok (.getfield 21, 3) := by decide +kernel
theorem dX6_inn_71 : decode cX6_inn 71 = .ok (.getfield 83, 3) := by decide +kernel
theorem dX6_inn_74 : decode cX6_inn 74 = .ok (.invokevirtual 86, 3) := by decide +kernel
theorem dX6_inn_77 : decode cX6_inn 77 = .ok (.aload_n 0, 1) := by decide +kernel
theorem dX6_inn_78 : decode cX6_inn 78 = .ok (.getfield 21, 3) := by decide +kernel
theorem dX6_inn_81 : decode cX6_inn 81 = .ok (.invokevirtual 90, 3) := by decide +kernel
theorem dX6_inn_84 : decode cX6_inn 84 = .ok (.istore 6, 2) := by decide +kernel
theorem dX6_inn_86 : decode cX6_inn 86 = .ok (.iload 6, 2) := by decide +kernel
theorem dX6_inn_88 : decode cX6_inn 88 = .ok (.iconst (-1), 1) := by decide +kernel
theorem dX6_inn_89 : decode cX6_inn 89 = .ok (.if_icmp .eq 9, 3) := by decide +kernel
theorem dX6_inn_92 : decode cX6_inn 92 = .ok (.bipush (-100), 2) := by decide +kernel
theorem dX6_inn_94 : decode cX6_inn 94 = .ok (.iload 6, 2) := by decide +kernel
theorem dX6_inn_96 : decode cX6_inn 96 = .ok (.isub, 1) := by decide +kernel
theorem dX6_inn_97 : decode cX6_inn 97 = .ok (.ireturn, 1) := by decide +kernel
theorem dX6_inn_98 : decode cX6_inn 98 = .ok (.aload_n 0, 1) := by decide +kernel
theorem dX6_inn_99 : decode cX6_inn 99 = .ok (.getfield 28, 3) := by decide +kernel
theorem dX6_inn_102 : decode cX6_inn 102 = .ok (.aload_n 0, 1) := by decide +kernel
theorem dX6_inn_103 : decode cX6_inn 103 = .ok (.getfield 21, 3) := by decide +kernel
theorem dX6_inn_106 : decode cX6_inn 106 = .ok (.invokevirtual 94, 3) := by decide +kernel
theorem dX6_inn_109 : decode cX6_inn 109 = .ok (.aload_n 0, 1) := by decide +kernel
theorem dX6_inn_110 : decode cX6_inn 110 = .ok (.getfield 28, 3) := by decide +kernel
theorem dX6_inn_113 : decode cX6_inn 113 = .ok (.getfield 98, 3) := by decide +kernel
theorem dX6_inn_116 : decode cX6_inn 116 = .ok (.ireturn, 1) := by decide +kernel
theorem dX6_ofTale_0 : decode cX6_ofTale 0 = .ok (.aload_n 0, 1) := by decide +kernel
theorem dX6_ofTale_1 : decode cX6_ofTale 1 = .ok (.getfield 28, 3) := by decide +kernel
theorem dX6_ofTale_4 : decode cX6_ofTale 4 = .ok (.iload_n 1, 1) := by decide +kernel
theorem dX6_ofTale_5 : decode cX6_ofTale 5 = .ok (.invokevirtual 101, 3) := by decide +kernel
theorem dX6_ofTale_8 : decode cX6_ofTale 8 = .ok (.ifCond .ne 5, 3) := by decide +kernel
theorem dX6_ofTale_11 : decode cX6_ofTale 11 = .ok (.iconst (-1), 1) := by decide +kernel
theorem dX6_ofTale_12 : decode cX6_ofTale 12 = .ok (.ireturn, 1) := by decide +kernel
theorem dX6_ofTale_13 : decode cX6_ofTale 13 = .ok (.iload_n 2, 1) := by decide +kernel
theorem dX6_ofTale_14 : decode cX6_ofTale 14 = .ok (.tableswitch 118 0 6 #[42, 52, 62, 72, 82, 92, 109], 42) := by decide +kernel
theorem dX6_ofTale_56 : decode cX6_ofTale 56 = .ok (.aload_n 0, 1) := by decide +kernel
theorem dX6_ofTale_57 : decode cX6_ofTale 57 = .ok (.getfield 28, 3) := by decide +kernel
theorem dX6_ofTale_60 : decode cX6_ofTale 60 = .ok (.getfield 104, 3) := by decide +kernel
theorem dX6_ofTale_63 : decode cX6_ofTale 63 = .ok (.iload_n 1, 1) := by decide +kernel
theorem dX6_ofTale_64 : decode cX6_ofTale 64 = .ok (.iaload, 1) := by decide +kernel
theorem dX6_ofTale_65 : decode cX6_ofTale 65 = .ok (.ireturn, 1) := by decide +kernel
theorem dX6_ofTale_66 : decode cX6_ofTale 66 = .ok (.aload_n 0, 1) := by decide +kernel
theorem dX6_ofTale_67 : decode cX6_ofTale 67 = .ok (.getfield 28, 3) := by decide +kernel
theorem dX6_ofTale_70 : decode cX6_ofTale 70 = .ok (.getfield 107, 3) := by decide +kernel
theorem dX6_ofTale_73 : decode cX6_ofTale 73 = .ok (.iload_n 1, 1) := by decide +kernel
theorem dX6_ofTale_74 : decode cX6_ofTale 74 = .ok (.iaload, 1) := by decide +kernel
theorem dX6_ofTale_75 : decode cX6_ofTale 75 = .ok (.ireturn, 1) := by decide +kernel
theorem dX6_ofTale_76 : decode cX6_ofTale 76 = .ok (.aload_n 0, 1) := by decide +kernel
theorem dX6_ofTale_77 : decode cX6_ofTale 77 = .ok (.getfield 28, 3) := by decide +kernel
theorem dX6_ofTale_80 : decode cX6_ofTale 80 = .ok (.getfield 110, 3) := by decide +kernel
theorem dX6_ofTale_83 : decode cX6_ofTale 83 = .ok (.iload_n 1, 1) := by decide +kernel
theorem dX6_ofTale_84 : decode cX6_ofTale 84 = .ok (.iaload, 1) := by decide +kernel
theorem dX6_ofTale_85 : decode cX6_ofTale 85 = .ok (.ireturn, 1) := by decide +kernel
theorem dX6_ofTale_86 : decode cX6_ofTale 86 = .ok (.aload_n 0, 1) := by decide +kernel
theorem dX6_ofTale_87 : decode cX6_ofTale 87 = .ok (.getfield 28, 3) := by decide +kernel
theorem dX6_ofTale_90 : decode cX6_ofTale 90 = .ok (.getfield 113, 3) := by decide +kernel
theorem dX6_ofTale_93 : decode cX6_ofTale 93 = .ok (.iload_n 1, 1) := by decide +kernel
theorem dX6_ofTale_94 : decode cX6_ofTale 94 = .ok (.iaload, 1) := by decide +kernel
theorem dX6_ofTale_95 : decode cX6_ofTale 95 = .ok (.ireturn, 1) := by decide +kernel
theorem dX6_ofTale_96 : decode cX6_ofTale 96 = .ok (.aload_n 0, 1) := by decide +kernel
theorem dX6_ofTale_97 : decode cX6_ofTale 97 = .ok (.getfield 28, 3) := by decide +kernel
theorem dX6_ofTale_100 : decode cX6_ofTale 100 = .ok (.getfield 116, 3) := by decide +kernel
theorem dX6_ofTale_103 : decode cX6_ofTale 103 = .ok (.iload_n 1, 1) := by decide +kernel
theorem dX6_ofTale_104 : decode cX6_ofTale 104 = .ok (.iaload, 1) := by decide +kernel
theorem dX6_ofTale_105 : decode cX6_ofTale 105 = .ok (.ireturn, 1) := by decide +kernel
theorem dX6_ofTale_106 : decode cX6_ofTale 106 = .ok (.aload_n 0, 1) := by decide +kernel
theorem dX6_ofTale_107 : decode cX6_ofTale 107 = .ok (.getfield 28, 3) := by decide +kernel
theorem dX6_ofTale_110 : decode cX6_ofTale 110 = .ok (.iload_n 1, 1) := by decide +kernel
theorem dX6_ofTale_111 : decode cX6_ofTale 111 = .ok (.invokevirtual 119, 3) := by decide +kernel
theorem dX6_ofTale_114 : decode cX6_ofTale 114 = .ok (.ifCond .eq 7, 3) := by decide +kernel
theorem dX6_ofTale_117 : decode cX6_ofTale 117 = .ok (.iconst 1, 1) := by decide +kernel
theorem dX6_ofTale_118 : decode cX6_ofTale 118 = .ok (.goto 4, 3) := by decide +kernel
theorem dX6_ofTale_121 : decode cX6_ofTale 121 = .ok (.iconst 0, 1) := by decide +kernel
theorem dX6_ofTale_122 : decode cX6_ofTale 122 = .ok (.ireturn, 1) := by decide +kernel
theorem dX6_ofTale_123 : decode cX6_ofTale 123 = .ok (.aload_n 0, 1) := by decide +kernel
theorem dX6_ofTale_124 : decode cX6_ofTale 124 = .ok (.getfield 28, 3) := by decide +kernel
theorem dX6_ofTale_127 : decode cX6_ofTale 127 = .ok (.iload_n 1, 1) := by decide +kernel
theorem dX6_ofTale_128 : decode cX6_ofTale 128 = .ok (.invokevirtual 122, 3) := by decide +kernel
theorem dX6_ofTale_131 : decode cX6_ofTale 131 = .ok (.ireturn, 1) := by decide +kernel
theorem dX6_ofTale_132 : decode cX6_ofTale 132 = .ok (.bipush (-2), 2) := by decide +kernel
theorem dX6_ofTale_134 : decode cX6_ofTale 134 = .ok (.ireturn, 1) := by decide +kernel
theorem dX6_memory_0 : decode cX6_memory 0 = .ok (.iload_n 1, 1) := by decide +kernel
theorem dX6_memory_1 : decode cX6_memory 1 = .ok (.ifCond .lt 9, 3) := by decide +kernel
theorem dX6_memory_4 : decode cX6_memory 4 = .ok (.iload_n 1, 1) := by decide +kernel
theorem dX6_memory_5 : decode cX6_memory 5 = .ok (.bipush 99, 2) := by decide +kernel
theorem dX6_memory_7 : decode cX6_memory 7 = .ok (.if_icmp .le 6, 3) := by decide +kernel
theorem dX6_memory_10 : decode cX6_memory 10 = .ok (.bipush (-2), 2) := by decide +kernel
theorem dX6_memory_12 : decode cX6_memory 12 = .ok (.ireturn, 1) := by decide +kernel
theorem dX6_memory_13 : decode cX6_memory 13 = .ok (.aload_n 0, 1) := by decide +kernel
theorem dX6_memory_14 : decode cX6_memory 14 = .ok (.getfield 28, 3) := by decide +kernel
theorem dX6_memory_17 : decode cX6_memory 17 = .ok (.invokevirtual 125, 3) := by decide +kernel
theorem dX6_memory_20 : decode cX6_memory 20 = .ok (.ifCond .ne 6, 3) := by decide +kernel
theorem dX6_memory_23 : decode cX6_memory 23 = .ok (.bipush (-3), 2) := by decide +kernel
theorem dX6_memory_25 : decode cX6_memory 25 = .ok (.ireturn, 1) := by decide +kernel
theorem dX6_memory_26 : decode cX6_memory 26 = .ok (.aload_n 0, 1) := by decide +kernel
theorem dX6_memory_27 : decode cX6_memory 27 = .ok (.getfield 28, 3) := by decide +kernel
theorem dX6_memory_30 : decode cX6_memory 30 = .ok (.getfield 129, 3) := by decide +kernel
theorem dX6_memory_33 : decode cX6_memory 33 = .ok (.istore_n 2, 1) := by decide +kernel
theorem dX6_memory_34 : decode cX6_memory 34 = .ok (.aload_n 0, 1) := by decide +kernel
theorem dX6_memory_35 : decode cX6_memory 35 = .ok (.getfield 28, 3) := by decide +kernel
theorem dX6_memory_38 : decode cX6_memory 38 = .ok (.iload_n 1, 1) := by decide +kernel
theorem dX6_memory_39 : decode cX6_memory 39 = .ok (.putfield 129, 3) := by decide +kernel
theorem dX6_memory_42 : decode cX6_memory 42 = .ok (.iload_n 2, 1) := by decide +kernel
theorem dX6_memory_43 : decode cX6_memory 43 = .ok (.ireturn, 1) := by decide +kernel
theorem dX6_choose_0 : decode cX6_choose 0 = .ok (.aload_n 0, 1) := by decide +kernel
theorem dX6_choose_1 : decode cX6_choose 1 = .ok (.getfield 28, 3) := by decide +kernel
theorem dX6_choose_4 : decode cX6_choose 4 = .ok (.iload_n 1, 1) := by decide +kernel
theorem dX6_choose_5 : decode cX6_choose 5 = .ok (.invokevirtual 132, 3) := by decide +kernel
theorem dX6_choose_8 : decode cX6_choose 8 = .ok (.ifCond .ne 5, 3) := by decide +kernel
theorem dX6_choose_11 : decode cX6_choose 11 = .ok (.iconst (-1), 1) := by decide +kernel
theorem dX6_choose_12 : decode cX6_choose 12 = .ok (.ireturn, 1) := by decide +kernel
theorem dX6_choose_13 : decode cX6_choose 13 = .ok (.iload_n 2, 1) := by decide +kernel
theorem dX6_choose_14 : decode cX6_choose 14 = .ok (.bipush (-9), 2) := by decide +kernel
theorem dX6_choose_16 : decode cX6_choose 16 = .ok (.if_icmp .eq 43, 3) := by decide +kernel
theorem dX6_choose_19 : decode cX6_choose 19 = .ok (.aload_n 0, 1) := by decide +kernel
theorem dX6_choose_20 : decode cX6_choose 20 = .ok (.getfield 28, 3) := by decide +kernel
theorem dX6_choose_23 : decode cX6_choose 23 = .ok (.iload_n 2, 1) := by decide +kernel
theorem dX6_choose_24 : decode cX6_choose 24 = .ok (.invokevirtual 101, 3) := by decide +kernel
theorem dX6_choose_27 : decode cX6_choose 27 = .ok (.ifCond .ne 5, 3) := by decide +kernel
theorem dX6_choose_30 : decode cX6_choose 30 = .ok (.iconst (-1), 1) := by decide +kernel
theorem dX6_choose_31 : decode cX6_choose 31 = .ok (.ireturn, 1) := by decide +kernel
theorem dX6_choose_32 : decode cX6_choose 32 = .ok (.aload_n 0, 1) := by decide +kernel
theorem dX6_choose_33 : decode cX6_choose 33 = .ok (.getfield 28, 3) := by decide +kernel
theorem dX6_choose_36 : decode cX6_choose 36 = .ok (.getfield 107, 3) := by decide +kernel
theorem dX6_choose_39 : decode cX6_choose 39 = .ok (.iload_n 2, 1) := by decide +kernel
theorem dX6_choose_40 : decode cX6_choose 40 = .ok (.iaload, 1) := by decide +kernel
theorem dX6_choose_41 : decode cX6_choose 41 = .ok (.iload_n 1, 1) := by decide +kernel
theorem dX6_choose_42 : decode cX6_choose 42 = .ok (.if_icmp .ne 14, 3) := by decide +kernel
theorem dX6_choose_45 : decode cX6_choose 45 = .ok (.aload_n 0, 1) := by decide +kernel
theorem dX6_choose_46 : decode cX6_choose 46 = .ok (.getfield 28, 3) := by decide +kernel
theorem dX6_choose_49 : decode cX6_choose 49 = .ok (.iload_n 2, 1) := by decide +kernel
theorem dX6_choose_50 : decode cX6_choose 50 = .ok (.invokevirtual 119, 3) := by decide +kernel
theorem dX6_choose_53 : decode cX6_choose 53 = .ok (.ifCond .ne 6, 3) := by decide +kernel
theorem dX6_choose_56 : decode cX6_choose 56 = .ok (.bipush (-3), 2) := by decide +kernel
theorem dX6_choose_58 : decode cX6_choose 58 = .ok (.ireturn, 1) := by decide +kernel
theorem dX6_choose_59 : decode cX6_choose 59 = .ok (.aload_n 0, 1) := by decide +kernel
theorem dX6_choose_60 : decode cX6_choose 60 = .ok (.getfield 28, 3) := by decide +kernel
theorem dX6_choose_63 : decode cX6_choose 63 = .ok (.getfield 135, 3) := by decide +kernel
theorem dX6_choose_66 : decode cX6_choose 66 = .ok (.iload_n 1, 1) := by decide +kernel
theorem dX6_choose_67 : decode cX6_choose 67 = .ok (.iaload, 1) := by decide +kernel
theorem dX6_choose_68 : decode cX6_choose 68 = .ok (.istore_n 3, 1) := by decide +kernel
theorem dX6_choose_69 : decode cX6_choose 69 = .ok (.aload_n 0, 1) := by decide +kernel
theorem dX6_choose_70 : decode cX6_choose 70 = .ok (.getfield 28, 3) := by decide +kernel
theorem dX6_choose_73 : decode cX6_choose 73 = .ok (.getfield 135, 3) := by decide +kernel
theorem dX6_choose_76 : decode cX6_choose 76 = .ok (.iload_n 1, 1) := by decide +kernel
theorem dX6_choose_77 : decode cX6_choose 77 = .ok (.iload_n 2, 1) := by decide +kernel
theorem dX6_choose_78 : decode cX6_choose 78 = .ok (.iastore, 1) := by decide +kernel
theorem dX6_choose_79 : decode cX6_choose 79 = .ok (.iload_n 3, 1) := by decide +kernel
theorem dX6_choose_80 : decode cX6_choose 80 = .ok (.ireturn, 1) := by decide +kernel
theorem dX6_night_0 : decode cX6_night 0 = .ok (.aload_n 0, 1) := by decide +kernel
theorem dX6_night_1 : decode cX6_night 1 = .ok (.getfield 28, 3) := by decide +kernel
theorem dX6_night_4 : decode cX6_night 4 = .ok (.invokevirtual 125, 3) := by decide +kernel
theorem dX6_night_7 : decode cX6_night 7 = .ok (.ifCond .ne 6, 3) := by decide +kernel
theorem dX6_night_10 : decode cX6_night 10 = .ok (.bipush (-3), 2) := by decide +kernel
theorem dX6_night_12 : decode cX6_night 12 = .ok (.ireturn, 1) := by decide +kernel
theorem dX6_night_13 : decode cX6_night 13 = .ok (.aload_n 0, 1) := by decide +kernel
theorem dX6_night_14 : decode cX6_night 14 = .ok (.getfield 28, 3) := by decide +kernel
theorem dX6_night_17 : decode cX6_night 17 = .ok (.getfield 138, 3) := by decide +kernel
theorem dX6_night_20 : decode cX6_night 20 = .ok (.bipush 60, 2) := by decide +kernel
theorem dX6_night_22 : decode cX6_night 22 = .ok (.if_icmp .lt 6, 3) := by decide +kernel
theorem dX6_night_25 : decode cX6_night 25 = .ok (.bipush (-4), 2) := by decide +kernel
theorem dX6_night_27 : decode cX6_night 27 = .ok (.ireturn, 1) := by decide +kernel
theorem dX6_night_28 : decode cX6_night 28 = .ok (.aload_n 0, 1) := by decide +kernel
theorem dX6_night_29 : decode cX6_night 29 = .ok (.getfield 28, 3) := by decide +kernel
theorem dX6_night_32 : decode cX6_night 32 = .ok (.aload_n 0, 1) := by decide +kernel
theorem dX6_night_33 : decode cX6_night 33 = .ok (.getfield 35, 3) := by decide +kernel
theorem dX6_night_36 : decode cX6_night 36 = .ok (.invokevirtual 141, 3) := by decide +kernel
theorem dX6_night_39 : decode cX6_night 39 = .ok (.aload_n 0, 1) := by decide +kernel
theorem dX6_night_40 : decode cX6_night 40 = .ok (.getfield 28, 3) := by decide +kernel
theorem dX6_night_43 : decode cX6_night 43 = .ok (.aload_n 0, 1) := by decide +kernel
theorem dX6_night_44 : decode cX6_night 44 = .ok (.getfield 35, 3) := by decide +kernel
theorem dX6_night_47 : decode cX6_night 47 = .ok (.invokevirtual 145, 3) := by decide +kernel
theorem dX6_night_50 : decode cX6_night 50 = .ok (.ireturn, 1) := by decide +kernel
theorem dX6_ofNight_0 : decode cX6_ofNight 0 = .ok (.aload_n 0, 1) := by decide +kernel
theorem dX6_ofNight_1 : decode cX6_ofNight 1 = .ok (.getfield 28, 3) := by decide +kernel
theorem dX6_ofNight_4 : decode cX6_ofNight 4 = .ok (.iload_n 1, 1) := by decide +kernel
theorem dX6_ofNight_5 : decode cX6_ofNight 5 = .ok (.invokevirtual 149, 3) := by decide +kernel
theorem dX6_ofNight_8 : decode cX6_ofNight 8 = .ok (.ifCond .eq 14, 3) := by decide +kernel
theorem dX6_ofNight_11 : decode cX6_ofNight 11 = .ok (.aload_n 0, 1) := by decide +kernel
theorem dX6_ofNight_12 : decode cX6_ofNight 12 = .ok (.getfield 28, 3) := by decide +kernel
theorem dX6_ofNight_15 : decode cX6_ofNight 15 = .ok (.iload_n 2, 1) := by decide +kernel
theorem dX6_ofNight_16 : decode cX6_ofNight 16 = .ok (.invokevirtual 132, 3) := by decide +kernel
theorem dX6_ofNight_19 : decode cX6_ofNight 19 = .ok (.ifCond .ne 5, 3) := by decide +kernel
theorem dX6_ofNight_22 : decode cX6_ofNight 22 = .ok (.iconst (-1), 1) := by decide +kernel
theorem dX6_ofNight_23 : decode cX6_ofNight 23 = .ok (.ireturn, 1) := by decide +kernel
theorem dX6_ofNight_24 : decode cX6_ofNight 24 = .ok (.iload_n 1, 1) := by decide +kernel
theorem dX6_ofNight_25 : decode cX6_ofNight 25 = .ok (.iconst 5, 1) := by decide +kernel
theorem dX6_ofNight_26 : decode cX6_ofNight 26 = .ok (.imul, 1) := by decide +kernel
theorem dX6_ofNight_27 : decode cX6_ofNight 27 = .ok (.iload_n 2, 1) := by decide +kernel
theorem dX6_ofNight_28 : decode cX6_ofNight 28 = .ok (.iadd, 1) := by decide +kernel
theorem dX6_ofNight_29 : decode cX6_ofNight 29 = .ok (.istore 4, 2) := by decide +kernel
theorem dX6_ofNight_31 : decode cX6_ofNight 31 = .ok (.iload_n 3, 1) := by decide +kernel
theorem dX6_ofNight_32 : decode cX6_ofNight 32 = .ok (.tableswitch 61 0 2 #[28, 39, 50], 28) := by decide +kernel
theorem dX6_ofNight_60 : decode cX6_ofNight 60 = .ok (.aload_n 0, 1) := by decide +kernel
theorem dX6_ofNight_61 : decode cX6_ofNight 61 = .ok (.getfield 28, 3) := by decide +kernel
theorem dX6_ofNight_64 : decode cX6_ofNight 64 = .ok (.getfield 152, 3) := by decide +kernel
theorem dX6_ofNight_67 : decode cX6_ofNight 67 = .ok (.iload 4, 2) := by decide +kernel
theorem dX6_ofNight_69 : decode cX6_ofNight 69 = .ok (.iaload, 1) := by decide +kernel
theorem dX6_ofNight_70 : decode cX6_ofNight 70 = .ok (.ireturn, 1) := by decide +kernel
theorem dX6_ofNight_71 : decode cX6_ofNight 71 = .ok (.aload_n 0, 1) := by decide +kernel
theorem dX6_ofNight_72 : decode cX6_ofNight 72 = .ok (.getfield 28, 3) := by decide +kernel
theorem dX6_ofNight_75 : decode cX6_ofNight 75 = .ok (.getfield 155, 3) := by decide +kernel
theorem dX6_ofNight_78 : decode cX6_ofNight 78 = .ok (.iload 4, 2) := by decide +kernel
theorem dX6_ofNight_80 : decode cX6_ofNight 80 = .ok (.iaload, 1) := by decide +kernel
theorem dX6_ofNight_81 : decode cX6_ofNight 81 = .ok (.ireturn, 1) := by decide +kernel
theorem dX6_ofNight_82 : decode cX6_ofNight 82 = .ok (.aload_n 0, 1) := by decide +kernel
theorem dX6_ofNight_83 : decode cX6_ofNight 83 = .ok (.getfield 28, 3) := by decide +kernel
theorem dX6_ofNight_86 : decode cX6_ofNight 86 = .ok (.getfield 158, 3) := by decide +kernel
theorem dX6_ofNight_89 : decode cX6_ofNight 89 = .ok (.iload 4, 2) := by decide +kernel
theorem dX6_ofNight_91 : decode cX6_ofNight 91 = .ok (.iaload, 1) := by decide +kernel
theorem dX6_ofNight_92 : decode cX6_ofNight 92 = .ok (.ireturn, 1) := by decide +kernel
theorem dX6_ofNight_93 : decode cX6_ofNight 93 = .ok (.bipush (-2), 2) := by decide +kernel
theorem dX6_ofNight_95 : decode cX6_ofNight 95 = .ok (.ireturn, 1) := by decide +kernel
theorem dX6_undo_0 : decode cX6_undo 0 = .ok (.iload_n 1, 1) := by decide +kernel
theorem dX6_undo_1 : decode cX6_undo 1 = .ok (.ifCond .lt 14, 3) := by decide +kernel
theorem dX6_undo_4 : decode cX6_undo 4 = .ok (.iload_n 1, 1) := by decide +kernel
theorem dX6_undo_5 : decode cX6_undo 5 = .ok (.aload_n 0, 1) := by decide +kernel
theorem dX6_undo_6 : decode cX6_undo 6 = .ok (.getfield 28, 3) := by decide +kernel
theorem dX6_undo_9 : decode cX6_undo 9 = .ok (.getfield 138, 3) := by decide +kernel
theorem dX6_undo_12 : decode cX6_undo 12 = .ok (.if_icmp .le 6, 3) := by decide +kernel
theorem dX6_undo_15 : decode cX6_undo 15 = .ok (.bipush (-2), 2) := by decide +kernel
theorem dX6_undo_17 : decode cX6_undo 17 = .ok (.ireturn, 1) := by decide +kernel
theorem dX6_undo_18 : decode cX6_undo 18 = .ok (.aload_n 0, 1) := by decide +kernel
theorem dX6_undo_19 : decode cX6_undo 19 = .ok (.getfield 28, 3) := by decide +kernel
theorem dX6_undo_22 : decode cX6_undo 22 = .ok (.iload_n 1, 1) := by decide +kernel
theorem dX6_undo_23 : decode cX6_undo 23 = .ok (.invokevirtual 161, 3) := by decide +kernel
theorem dX6_undo_26 : decode cX6_undo 26 = .ok (.aload_n 0, 1) := by decide +kernel
theorem dX6_undo_27 : decode cX6_undo 27 = .ok (.getfield 28, 3) := by decide +kernel
theorem dX6_undo_30 : decode cX6_undo 30 = .ok (.getfield 138, 3) := by decide +kernel
theorem dX6_undo_33 : decode cX6_undo 33 = .ok (.ireturn, 1) := by decide +kernel
theorem dX6_lay_0 : decode cX6_lay 0 = .ok (.aload_n 0, 1) := by decide +kernel
theorem dX6_lay_1 : decode cX6_lay 1 = .ok (.getfield 28, 3) := by decide +kernel
theorem dX6_lay_4 : decode cX6_lay 4 = .ok (.iload_n 1, 1) := by decide +kernel
theorem dX6_lay_5 : decode cX6_lay 5 = .ok (.invokevirtual 132, 3) := by decide +kernel
theorem dX6_lay_8 : decode cX6_lay 8 = .ok (.ifCond .eq 14, 3) := by decide +kernel
theorem dX6_lay_11 : decode cX6_lay 11 = .ok (.aload_n 0, 1) := by decide +kernel
theorem dX6_lay_12 : decode cX6_lay 12 = .ok (.getfield 28, 3) := by decide +kernel
theorem dX6_lay_15 : decode cX6_lay 15 = .ok (.iload_n 2, 1) := by decide +kernel
theorem dX6_lay_16 : decode cX6_lay 16 = .ok (.invokevirtual 132, 3) := by decide +kernel
theorem dX6_lay_19 : decode cX6_lay 19 = .ok (.ifCond .ne 5, 3) := by decide +kernel
theorem dX6_lay_22 : decode cX6_lay 22 = .ok (.iconst (-1), 1) := by decide +kernel
theorem dX6_lay_23 : decode cX6_lay 23 = .ok (.ireturn, 1) := by decide +kernel
theorem dX6_lay_24 : decode cX6_lay 24 = .ok (.aload_n 0, 1) := by decide +kernel
theorem dX6_lay_25 : decode cX6_lay 25 = .ok (.getfield 28, 3) := by decide +kernel
theorem dX6_lay_28 : decode cX6_lay 28 = .ok (.iload_n 1, 1) := by decide +kernel
theorem dX6_lay_29 : decode cX6_lay 29 = .ok (.iload_n 2, 1) := by decide +kernel
theorem dX6_lay_30 : decode cX6_lay 30 = .ok (.invokevirtual 165, 3) := by decide +kernel
theorem dX6_lay_33 : decode cX6_lay 33 = .ok (.ireturn, 1) := by decide +kernel
theorem dX6_tonight_0 : decode cX6_tonight 0 = .ok (.aload_n 0, 1) := by decide +kernel
theorem dX6_tonight_1 : decode cX6_tonight 1 = .ok (.getfield 28, 3) := by decide +kernel
theorem dX6_tonight_4 : decode cX6_tonight 4 = .ok (.iload_n 1, 1) := by decide +kernel
theorem dX6_tonight_5 : decode cX6_tonight 5 = .ok (.invokevirtual 132, 3) := by decide +kernel
theorem dX6_tonight_8 : decode cX6_tonight 8 = .ok (.ifCond .ne 5, 3) := by decide +kernel
theorem dX6_tonight_11 : decode cX6_tonight 11 = .ok (.iconst (-1), 1) := by decide +kernel
theorem dX6_tonight_12 : decode cX6_tonight 12 = .ok (.ireturn, 1) := by decide +kernel
theorem dX6_tonight_13 : decode cX6_tonight 13 = .ok (.aload_n 0, 1) := by decide +kernel
theorem dX6_tonight_14 : decode cX6_tonight 14 = .ok (.getfield 28, 3) := by decide +kernel
theorem dX6_tonight_17 : decode cX6_tonight 17 = .ok (.aload_n 0, 1) := by decide +kernel
theorem dX6_tonight_18 : decode cX6_tonight 18 = .ok (.getfield 35, 3) := by decide +kernel
theorem dX6_tonight_21 : decode cX6_tonight 21 = .ok (.invokevirtual 141, 3) := by decide +kernel
theorem dX6_tonight_24 : decode cX6_tonight 24 = .ok (.iload_n 2, 1) := by decide +kernel
theorem dX6_tonight_25 : decode cX6_tonight 25 = .ok (.tableswitch 64 0 2 #[27, 37, 55], 27) := by decide +kernel
theorem dX6_tonight_52 : decode cX6_tonight 52 = .ok (.aload_n 0, 1) := by decide +kernel
theorem dX6_tonight_53 : decode cX6_tonight 53 = .ok (.getfield 28, 3) := by decide +kernel
theorem dX6_tonight_56 : decode cX6_tonight 56 = .ok (.getfield 135, 3) := by decide +kernel
theorem dX6_tonight_59 : decode cX6_tonight 59 = .ok (.iload_n 1, 1) := by decide +kernel
theorem dX6_tonight_60 : decode cX6_tonight 60 = .ok (.iaload, 1) := by decide +kernel
theorem dX6_tonight_61 : decode cX6_tonight 61 = .ok (.ireturn, 1) := by decide +kernel
theorem dX6_tonight_62 : decode cX6_tonight 62 = .ok (.aload_n 0, 1) := by decide +kernel
theorem dX6_tonight_63 : decode cX6_tonight 63 = .ok (.getfield 35, 3) := by decide +kernel
theorem dX6_tonight_66 : decode cX6_tonight 66 = .ok (.iload_n 1, 1) := by decide +kernel
theorem dX6_tonight_67 : decode cX6_tonight 67 = .ok (.aload_n 0, 1) := by decide +kernel
theorem dX6_tonight_68 : decode cX6_tonight 68 = .ok (.getfield 35, 3) := by decide +kernel
theorem dX6_tonight_71 : decode cX6_tonight 71 = .ok (.getfield 169, 3) := by decide +kernel
theorem dX6_tonight_74 : decode cX6_tonight 74 = .ok (.iload_n 1, 1) := by decide +kernel
theorem dX6_tonight_75 : decode cX6_tonight 75 = .ok (.iaload, 1) := by decide +kernel
theorem dX6_tonight_76 : decode cX6_tonight 76 = .ok (.invokevirtual 172, 3) := by decide +kernel
theorem dX6_tonight_79 : decode cX6_tonight 79 = .ok (.ireturn, 1) := by decide +kernel
theorem dX6_tonight_80 : decode cX6_tonight 80 = .ok (.aload_n 0, 1) := by decide +kernel
theorem dX6_tonight_81 : decode cX6_tonight 81 = .ok (.getfield 35, 3) := by decide +kernel
theorem dX6_tonight_84 : decode cX6_tonight 84 = .ok (.iload_n 1, 1) := by decide +kernel
theorem dX6_tonight_85 : decode cX6_tonight 85 = .ok (.invokevirtual 175, 3) := by decide +kernel
theorem dX6_tonight_88 : decode cX6_tonight 88 = .ok (.ireturn, 1) := by decide +kernel
theorem dX6_tonight_89 : decode cX6_tonight 89 = .ok (.bipush (-2), 2) := by decide +kernel
theorem dX6_tonight_91 : decode cX6_tonight 91 = .ok (.ireturn, 1) := by decide +kernel
theorem dX6_answer_0 : decode cX6_answer 0 = .ok (.aload_n 0, 1) := by decide +kernel
theorem dX6_answer_1 : decode cX6_answer 1 = .ok (.iload_n 1, 1) := by decide +kernel
theorem dX6_answer_2 : decode cX6_answer 2 = .ok (.iload_n 2, 1) := by decide +kernel
theorem dX6_answer_3 : decode cX6_answer 3 = .ok (.iconst 0, 1) := by decide +kernel
theorem dX6_answer_4 : decode cX6_answer 4 = .ok (.invokevirtual 178, 3) := by decide +kernel
theorem dX6_answer_7 : decode cX6_answer 7 = .ok (.ireturn, 1) := by decide +kernel
theorem dX6_borrowed_0 : decode cX6_borrowed 0 = .ok (.aload_n 0, 1) := by decide +kernel
theorem dX6_borrowed_1 : decode cX6_borrowed 1 = .ok (.iload_n 1, 1) := by decide +kernel
theorem dX6_borrowed_2 : decode cX6_borrowed 2 = .ok (.iload_n 2, 1) := by decide +kernel
theorem dX6_borrowed_3 : decode cX6_borrowed 3 = .ok (.iconst 1, 1) := by decide +kernel
theorem dX6_borrowed_4 : decode cX6_borrowed 4 = .ok (.invokevirtual 178, 3) := by decide +kernel
theorem dX6_borrowed_7 : decode cX6_borrowed 7 = .ok (.ireturn, 1) := by decide +kernel
theorem dX6_bishop_0 : decode cX6_bishop 0 = .ok (.iload_n 1, 1) := by decide +kernel
theorem dX6_bishop_1 : decode cX6_bishop 1 = .ok (.ifCond .lt 10, 3) := by decide +kernel
theorem dX6_bishop_4 : decode cX6_bishop 4 = .ok (.iload_n 1, 1) := by decide +kernel
theorem dX6_bishop_5 : decode cX6_bishop 5 = .ok (.sipush 999, 3) := by decide +kernel
theorem dX6_bishop_8 : decode cX6_bishop 8 = .ok (.if_icmp .le 6, 3) := by decide +kernel
theorem dX6_bishop_11 : decode cX6_bishop 11 = .ok (.bipush (-2), 2) := by decide +kernel
theorem dX6_bishop_13 : decode cX6_bishop 13 = .ok (.ireturn, 1) := by decide +kernel
theorem dX6_bishop_14 : decode cX6_bishop 14 = .ok (.aload_n 0, 1) := by decide +kernel
theorem dX6_bishop_15 : decode cX6_bishop 15 = .ok (.getfield 28, 3) := by decide +kernel
theorem dX6_bishop_18 : decode cX6_bishop 18 = .ok (.invokevirtual 125, 3) := by decide +kernel
theorem dX6_bishop_21 : decode cX6_bishop 21 = .ok (.ifCond .ne 6, 3) := by decide +kernel
theorem dX6_bishop_24 : decode cX6_bishop 24 = .ok (.bipush (-3), 2) := by decide +kernel
theorem dX6_bishop_26 : decode cX6_bishop 26 = .ok (.ireturn, 1) := by decide +kernel
theorem dX6_bishop_27 : decode cX6_bishop 27 = .ok (.aload_n 0, 1) := by decide +kernel
theorem dX6_bishop_28 : decode cX6_bishop 28 = .ok (.getfield 28, 3) := by decide +kernel
theorem dX6_bishop_31 : decode cX6_bishop 31 = .ok (.aload_n 0, 1) := by decide +kernel
theorem dX6_bishop_32 : decode cX6_bishop 32 = .ok (.getfield 35, 3) := by decide +kernel
theorem dX6_bishop_35 : decode cX6_bishop 35 = .ok (.invokevirtual 141, 3) := by decide +kernel
theorem dX6_bishop_38 : decode cX6_bishop 38 = .ok (.aload_n 0, 1) := by decide +kernel
theorem dX6_bishop_39 : decode cX6_bishop 39 = .ok (.getfield 35, 3) := by decide +kernel
theorem dX6_bishop_42 : decode cX6_bishop 42 = .ok (.iload_n 1, 1) := by decide +kernel
theorem dX6_bishop_43 : decode cX6_bishop 43 = .ok (.invokevirtual 182, 3) := by decide +kernel
theorem dX6_bishop_46 : decode cX6_bishop 46 = .ok (.ireturn, 1) := by decide +kernel
theorem dX6_rests_0 : decode cX6_rests 0 = .ok (.iload_n 1, 1) := by decide +kernel
theorem dX6_rests_1 : decode cX6_rests 1 = .ok (.iconst (-1), 1) := by decide +kernel
theorem dX6_rests_2 : decode cX6_rests 2 = .ok (.if_icmp .eq 16, 3) := by decide +kernel
theorem dX6_rests_5 : decode cX6_rests 5 = .ok (.aload_n 0, 1) := by decide +kernel
theorem dX6_rests_6 : decode cX6_rests 6 = .ok (.getfield 28, 3) := by decide +kernel
theorem dX6_rests_9 : decode cX6_rests 9 = .ok (.iload_n 1, 1) := by decide +kernel
theorem dX6_rests_10 : decode cX6_rests 10 = .ok (.invokevirtual 132, 3) := by decide +kernel
theorem dX6_rests_13 : decode cX6_rests 13 = .ok (.ifCond .ne 5, 3) := by decide +kernel
theorem dX6_rests_16 : decode cX6_rests 16 = .ok (.iconst (-1), 1) := by decide +kernel
theorem dX6_rests_17 : decode cX6_rests 17 = .ok (.ireturn, 1) := by decide +kernel
theorem dX6_rests_18 : decode cX6_rests 18 = .ok (.aload_n 0, 1) := by decide +kernel
theorem dX6_rests_19 : decode cX6_rests 19 = .ok (.getfield 28, 3) := by decide +kernel
theorem dX6_rests_22 : decode cX6_rests 22 = .ok (.invokevirtual 125, 3) := by decide +kernel
theorem dX6_rests_25 : decode cX6_rests 25 = .ok (.ifCond .ne 5, 3) := by decide +kernel
theorem dX6_rests_28 : decode cX6_rests 28 = .ok (.iconst 0, 1) := by decide +kernel
theorem dX6_rests_29 : decode cX6_rests 29 = .ok (.ireturn, 1) := by decide +kernel
theorem dX6_rests_30 : decode cX6_rests 30 = .ok (.aload_n 0, 1) := by decide +kernel
theorem dX6_rests_31 : decode cX6_rests 31 = .ok (.getfield 44, 3) := by decide +kernel
theorem dX6_rests_34 : decode cX6_rests 34 = .ok (.invokevirtual 185, 3) := by decide +kernel
theorem dX6_rests_37 : decode cX6_rests 37 = .ok (.iload_n 1, 1) := by decide +kernel
theorem dX6_rests_38 : decode cX6_rests 38 = .ok (.iconst (-1), 1) := by decide +kernel
theorem dX6_rests_39 : decode cX6_rests 39 = .ok (.if_icmp .ne 13, 3) := by decide +kernel
theorem dX6_rests_42 : decode cX6_rests 42 = .ok (.aload_n 0, 1) := by decide +kernel
theorem dX6_rests_43 : decode cX6_rests 43 = .ok (.getfield 44, 3) := by decide +kernel
theorem dX6_rests_46 : decode cX6_rests 46 = .ok (.getfield 188, 3) := by decide +kernel
theorem dX6_rests_49 : decode cX6_rests 49 = .ok (.goto 12, 3) := by decide +kernel
theorem dX6_rests_52 : decode cX6_rests 52 = .ok (.aload_n 0, 1) := by decide +kernel
theorem dX6_rests_53 : decode cX6_rests 53 = .ok (.getfield 44, 3) := by decide +kernel
theorem dX6_rests_56 : decode cX6_rests 56 = .ok (.getfield 191, 3) := by decide +kernel
theorem dX6_rests_59 : decode cX6_rests 59 = .ok (.iload_n 1, 1) := by decide +kernel
theorem dX6_rests_60 : decode cX6_rests 60 = .ok (.iaload, 1) := by decide +kernel
theorem dX6_rests_61 : decode cX6_rests 61 = .ok (.ireturn, 1) := by decide +kernel
theorem dX6_winter_0 : decode cX6_winter 0 = .ok (.aload_n 0, 1) := by decide +kernel
theorem dX6_winter_1 : decode cX6_winter 1 = .ok (.iconst 0, 1) := by decide +kernel
theorem dX6_winter_2 : decode cX6_winter 2 = .ok (.putfield 61, 3) := by decide +kernel
theorem dX6_winter_5 : decode cX6_winter 5 = .ok (.aload_n 0, 1) := by decide +kernel
theorem dX6_winter_6 : decode cX6_winter 6 = .ok (.getfield 28, 3) := by decide +kernel
theorem dX6_winter_9 : decode cX6_winter 9 = .ok (.iload_n 1, 1) := by decide +kernel
theorem dX6_winter_10 : decode cX6_winter 10 = .ok (.invokevirtual 132, 3) := by decide +kernel
theorem dX6_winter_13 : decode cX6_winter 13 = .ok (.ifCond .eq 10, 3) := by decide +kernel
theorem dX6_winter_16 : decode cX6_winter 16 = .ok (.iload_n 2, 1) := by decide +kernel
theorem dX6_winter_17 : decode cX6_winter 17 = .ok (.invokestatic 65, 3) := by decide +kernel
theorem dX6_winter_20 : decode cX6_winter 20 = .ok (.ifCond .ne 5, 3) := by decide +kernel
theorem dX6_winter_23 : decode cX6_winter 23 = .ok (.iconst (-1), 1) := by decide +kernel
theorem dX6_winter_24 : decode cX6_winter 24 = .ok (.ireturn, 1) := by decide +kernel
theorem dX6_winter_25 : decode cX6_winter 25 = .ok (.iload_n 3, 1) := by decide +kernel
theorem dX6_winter_26 : decode cX6_winter 26 = .ok (.invokestatic 69, 3) := by decide +kernel
theorem dX6_winter_29 : decode cX6_winter 29 = .ok (.ifCond .ne 6, 3) := by decide +kernel
theorem dX6_winter_32 : decode cX6_winter 32 = .ok (.bipush (-2), 2) := by decide +kernel
theorem dX6_winter_34 : decode cX6_winter 34 = .ok (.ireturn, 1) := by decide +kernel
theorem dX6_winter_35 : decode cX6_winter 35 = .ok (.aload_n 0, 1) := by decide +kernel
theorem dX6_winter_36 : decode cX6_winter 36 = .ok (.getfield 12, 3) := by decide +kernel
theorem dX6_winter_39 : decode cX6_winter 39 = .ok (.iload_n 2, 1) := by decide +kernel
theorem dX6_winter_40 : decode cX6_winter 40 = .ok (.iload_n 3, 1) := by decide +kernel
theorem dX6_winter_41 : decode cX6_winter 41 = .ok (.iload 4, 2) := by decide +kernel
theorem dX6_winter_43 : decode cX6_winter 43 = .ok (.iload 5, 2) := by decide +kernel
theorem dX6_winter_45 : decode cX6_winter 45 = .ok (.invokevirtual 72, 3) := by decide +kernel
theorem dX6_winter_48 : decode cX6_winter 48 = .ok (.istore 7, 2) := by decide +kernel
theorem dX6_winter_50 : decode cX6_winter 50 = .ok (.iload 7, 2) := by decide +kernel
theorem dX6_winter_52 : decode cX6_winter 52 = .ok (.ifCond .eq 10, 3) := by decide +kernel
theorem dX6_winter_55 : decode cX6_winter 55 = .ok (.aload_n 0, 1) := by decide +kernel
theorem dX6_winter_56 : decode cX6_winter 56 = .ok (.iload 7, 2) := by decide +kernel
theorem dX6_winter_58 : decode cX6_winter 58 = .ok (.invokevirtual 76, 3) := by decide +kernel
theorem dX6_winter_61 : decode cX6_winter 61 = .ok (.ireturn, 1) := by decide +kernel
theorem dX6_winter_62 : decode cX6_winter 62 = .ok (.iload 5, 2) := by decide +kernel
theorem dX6_winter_64 : decode cX6_winter 64 = .ok (.iconst 1, 1) := by decide +kernel
theorem dX6_winter_65 : decode cX6_winter 65 = .ok (.if_icmp .lt 10, 3) := by decide +kernel
theorem dX6_winter_68 : decode cX6_winter 68 = .ok (.iload 5, 2) := by decide +kernel
theorem dX6_winter_70 : decode cX6_winter 70 = .ok (.bipush 6, 2) := by decide +kernel
theorem dX6_winter_72 : decode cX6_winter 72 = .ok (.if_icmp .le 6, 3) := by decide +kernel
theorem dX6_winter_75 : decode cX6_winter 75 = .ok (.bipush (-2), 2) := by decide +kernel
theorem dX6_winter_77 : decode cX6_winter 77 = .ok (.ireturn, 1) := by decide +kernel
theorem dX6_winter_78 : decode cX6_winter 78 = .ok (.iload 6, 2) := by decide +kernel
theorem dX6_winter_80 : decode cX6_winter 80 = .ok (.iconst (-1), 1) := by decide +kernel
theorem dX6_winter_81 : decode cX6_winter 81 = .ok (.if_icmp .lt 10, 3) := by decide +kernel
theorem dX6_winter_84 : decode cX6_winter 84 = .ok (.iload 6, 2) := by decide +kernel
theorem dX6_winter_86 : decode cX6_winter 86 = .ok (.iload 5, 2) := by decide +kernel
theorem dX6_winter_88 : decode cX6_winter 88 = .ok (.if_icmp .lt 5, 3) := by decide +kernel
theorem dX6_winter_91 : decode cX6_winter 91 = .ok (.iconst (-1), 1) := by decide +kernel
theorem dX6_winter_92 : decode cX6_winter 92 = .ok (.ireturn, 1) := by decide +kernel
theorem dX6_winter_93 : decode cX6_winter 93 = .ok (.aload_n 0, 1) := by decide +kernel
theorem dX6_winter_94 : decode cX6_winter 94 = .ok (.getfield 12, 3) := by decide +kernel
theorem dX6_winter_97 : decode cX6_winter 97 = .ok (.iload_n 2, 1) := by decide +kernel
theorem dX6_winter_98 : decode cX6_winter 98 = .ok (.iload 4, 2) := by decide +kernel
theorem dX6_winter_100 : decode cX6_winter 100 = .ok (.iload 5, 2) := by decide +kernel
theorem dX6_winter_102 : decode cX6_winter 102 = .ok (.aload_n 0, 1) := by decide +kernel
theorem dX6_winter_103 : decode cX6_winter 103 = .ok (.getfield 53, 3) := by decide +kernel
theorem dX6_winter_106 : decode cX6_winter 106 = .ok (.getfield 194, 3) := by decide +kernel
theorem dX6_winter_109 : decode cX6_winter 109 = .ok (.invokevirtual 86, 3) := by decide +kernel
theorem dX6_winter_112 : decode cX6_winter 112 = .ok (.aload_n 0, 1) := by decide +kernel
theorem dX6_winter_113 : decode cX6_winter 113 = .ok (.getfield 53, 3) := by decide +kernel
theorem dX6_winter_116 : decode cX6_winter 116 = .ok (.iload_n 1, 1) := by decide +kernel
theorem dX6_winter_117 : decode cX6_winter 117 = .ok (.iload 5, 2) := by decide +kernel
theorem dX6_winter_119 : decode cX6_winter 119 = .ok (.invokevirtual 197, 3) := by decide +kernel
theorem dX6_winter_122 : decode cX6_winter 122 = .ok (.iload 6, 2) := by decide +kernel
theorem dX6_winter_124 : decode cX6_winter 124 = .ok (.iconst (-1), 1) := by decide +kernel
theorem dX6_winter_125 : decode cX6_winter 125 = .ok (.if_icmp .ne 13, 3) := by decide +kernel
theorem dX6_winter_128 : decode cX6_winter 128 = .ok (.aload_n 0, 1) := by decide +kernel
theorem dX6_winter_129 : decode cX6_winter 129 = .ok (.getfield 53, 3) := by decide +kernel
theorem dX6_winter_132 : decode cX6_winter 132 = .ok (.getfield 200, 3) := by decide +kernel
theorem dX6_winter_135 : decode cX6_winter 135 = .ok (.goto 13, 3) := by decide +kernel
theorem dX6_winter_138 : decode cX6_winter 138 = .ok (.aload_n 0, 1) := by decide +kernel
theorem dX6_winter_139 : decode cX6_winter 139 = .ok (.getfield 53, 3) := by decide +kernel
theorem dX6_winter_142 : decode cX6_winter 142 = .ok (.getfield 203, 3) := by decide +kernel
theorem dX6_winter_145 : decode cX6_winter 145 = .ok (.iload 6, 2) := by decide +kernel
theorem dX6_winter_147 : decode cX6_winter 147 = .ok (.iaload, 1) := by decide +kernel
theorem dX6_winter_148 : decode cX6_winter 148 = .ok (.ireturn, 1) := by decide +kernel
theorem dX6_trade_0 : decode cX6_trade 0 = .ok (.aload_n 0, 1) := by decide +kernel
theorem dX6_trade_1 : decode cX6_trade 1 = .ok (.getfield 28, 3) := by decide +kernel
theorem dX6_trade_4 : decode cX6_trade 4 = .ok (.iload_n 1, 1) := by decide +kernel
theorem dX6_trade_5 : decode cX6_trade 5 = .ok (.invokevirtual 101, 3) := by decide +kernel
theorem dX6_trade_8 : decode cX6_trade 8 = .ok (.ifCond .eq 14, 3) := by decide +kernel
theorem dX6_trade_11 : decode cX6_trade 11 = .ok (.aload_n 0, 1) := by decide +kernel
theorem dX6_trade_12 : decode cX6_trade 12 = .ok (.getfield 28, 3) := by decide +kernel
theorem dX6_trade_15 : decode cX6_trade 15 = .ok (.iload_n 2, 1) := by decide +kernel
theorem dX6_trade_16 : decode cX6_trade 16 = .ok (.invokevirtual 101, 3) := by decide +kernel
theorem dX6_trade_19 : decode cX6_trade 19 = .ok (.ifCond .ne 5, 3) := by decide +kernel
theorem dX6_trade_22 : decode cX6_trade 22 = .ok (.iconst (-1), 1) := by decide +kernel
theorem dX6_trade_23 : decode cX6_trade 23 = .ok (.ireturn, 1) := by decide +kernel
theorem dX6_trade_24 : decode cX6_trade 24 = .ok (.aload_n 0, 1) := by decide +kernel
theorem dX6_trade_25 : decode cX6_trade 25 = .ok (.getfield 28, 3) := by decide +kernel
theorem dX6_trade_28 : decode cX6_trade 28 = .ok (.getfield 107, 3) := by decide +kernel
theorem dX6_trade_31 : decode cX6_trade 31 = .ok (.iload_n 1, 1) := by decide +kernel
theorem dX6_trade_32 : decode cX6_trade 32 = .ok (.iaload, 1) := by decide +kernel
theorem dX6_trade_33 : decode cX6_trade 33 = .ok (.istore_n 3, 1) := by decide +kernel
theorem dX6_trade_34 : decode cX6_trade 34 = .ok (.iload_n 3, 1) := by decide +kernel
theorem dX6_trade_35 : decode cX6_trade 35 = .ok (.aload_n 0, 1) := by decide +kernel
theorem dX6_trade_36 : decode cX6_trade 36 = .ok (.getfield 28, 3) := by decide +kernel
theorem dX6_trade_39 : decode cX6_trade 39 = .ok (.getfield 107, 3) := by decide +kernel
theorem dX6_trade_42 : decode cX6_trade 42 = .ok (.iload_n 2, 1) := by decide +kernel
theorem dX6_trade_43 : decode cX6_trade 43 = .ok (.iaload, 1) := by decide +kernel
theorem dX6_trade_44 : decode cX6_trade 44 = .ok (.if_icmp .ne 6, 3) := by decide +kernel
theorem dX6_trade_47 : decode cX6_trade 47 = .ok (.bipush (-3), 2) := by decide +kernel
theorem dX6_trade_49 : decode cX6_trade 49 = .ok (.ireturn, 1) := by decide +kernel
theorem dX6_trade_50 : decode cX6_trade 50 = .ok (.aload_n 0, 1) := by decide +kernel
theorem dX6_trade_51 : decode cX6_trade 51 = .ok (.getfield 28, 3) := by decide +kernel
theorem dX6_trade_54 : decode cX6_trade 54 = .ok (.iload_n 3, 1) := by decide +kernel
theorem dX6_trade_55 : decode cX6_trade 55 = .ok (.iload_n 1, 1) := by decide +kernel
theorem dX6_trade_56 : decode cX6_trade 56 = .ok (.iload_n 2, 1) := by decide +kernel
theorem dX6_trade_57 : decode cX6_trade 57 = .ok (.invokevirtual 204, 3) := by decide +kernel
theorem dX6_trade_60 : decode cX6_trade 60 = .ok (.aload_n 0, 1) := by decide +kernel
theorem dX6_trade_61 : decode cX6_trade 61 = .ok (.getfield 28, 3) := by decide +kernel
theorem dX6_trade_64 : decode cX6_trade 64 = .ok (.iload_n 3, 1) := by decide +kernel
theorem dX6_trade_65 : decode cX6_trade 65 = .ok (.iload_n 1, 1) := by decide +kernel
theorem dX6_trade_66 : decode cX6_trade 66 = .ok (.iload_n 1, 1) := by decide +kernel
theorem dX6_trade_67 : decode cX6_trade 67 = .ok (.invokevirtual 204, 3) := by decide +kernel
theorem dX6_trade_70 : decode cX6_trade 70 = .ok (.isub, 1) := by decide +kernel
theorem dX6_trade_71 : decode cX6_trade 71 = .ok (.bipush 100, 2) := by decide +kernel
theorem dX6_trade_73 : decode cX6_trade 73 = .ok (.iadd, 1) := by decide +kernel
theorem dX6_trade_74 : decode cX6_trade 74 = .ok (.ireturn, 1) := by decide +kernel
theorem dX6_toldBy_0 : decode cX6_toldBy 0 = .ok (.aload_n 0, 1) := by decide +kernel
theorem dX6_toldBy_1 : decode cX6_toldBy 1 = .ok (.iconst 0, 1) := by decide +kernel
theorem dX6_toldBy_2 : decode cX6_toldBy 2 = .ok (.putfield 61, 3) := by decide +kernel
theorem dX6_toldBy_5 : decode cX6_toldBy 5 = .ok (.aload_n 0, 1) := by decide +kernel
theorem dX6_toldBy_6 : decode cX6_toldBy 6 = .ok (.getfield 28, 3) := by decide +kernel
theorem dX6_toldBy_9 : decode cX6_toldBy 9 = .ok (.iload_n 1, 1) := by decide +kernel
theorem dX6_toldBy_10 : decode cX6_toldBy 10 = .ok (.invokevirtual 149, 3) := by decide +kernel
theorem dX6_toldBy_13 : decode cX6_toldBy 13 = .ok (.ifCond .eq 21, 3) := by decide +kernel
theorem dX6_toldBy_16 : decode cX6_toldBy 16 = .ok (.aload_n 0, 1) := by decide +kernel
theorem dX6_toldBy_17 : decode cX6_toldBy 17 = .ok (.getfield 28, 3) := by decide +kernel
theorem dX6_toldBy_20 : decode cX6_toldBy 20 = .ok (.iload_n 2, 1) := by decide +kernel
theorem dX6_toldBy_21 : decode cX6_toldBy 21 = .ok (.invokevirtual 132, 3) := by decide +kernel
theorem dX6_toldBy_24 : decode cX6_toldBy 24 = .ok (.ifCond .eq 10, 3) := by decide +kernel
theorem dX6_toldBy_27 : decode cX6_toldBy 27 = .ok (.iload_n 3, 1) := by decide +kernel
theorem dX6_toldBy_28 : decode cX6_toldBy 28 = .ok (.invokestatic 65, 3) := by decide +kernel
theorem dX6_toldBy_31 : decode cX6_toldBy 31 = .ok (.ifCond .ne 5, 3) := by decide +kernel
theorem dX6_toldBy_34 : decode cX6_toldBy 34 = .ok (.iconst (-1), 1) := by decide +kernel
theorem dX6_toldBy_35 : decode cX6_toldBy 35 = .ok (.ireturn, 1) := by decide +kernel
theorem dX6_toldBy_36 : decode cX6_toldBy 36 = .ok (.iload 4, 2) := by decide +kernel
theorem dX6_toldBy_38 : decode cX6_toldBy 38 = .ok (.invokestatic 69, 3) := by decide +kernel
theorem dX6_toldBy_41 : decode cX6_toldBy 41 = .ok (.ifCond .ne 6, 3) := by decide +kernel
theorem dX6_toldBy_44 : decode cX6_toldBy 44 = .ok (.bipush (-2), 2) := by decide +kernel
theorem dX6_toldBy_46 : decode cX6_toldBy 46 = .ok (.ireturn, 1) := by decide +kernel
theorem dX6_toldBy_47 : decode cX6_toldBy 47 = .ok (.aload_n 0, 1) := by decide +kernel
theorem dX6_toldBy_48 : decode cX6_toldBy 48 = .ok (.getfield 12, 3) := by decide +kernel
theorem dX6_toldBy_51 : decode cX6_toldBy 51 = .ok (.iload_n 3, 1) := by decide +kernel
theorem dX6_toldBy_52 : decode cX6_toldBy 52 = .ok (.iload 4, 2) := by decide +kernel
theorem dX6_toldBy_54 : decode cX6_toldBy 54 = .ok (.iload 5, 2) := by decide +kernel
theorem dX6_toldBy_56 : decode cX6_toldBy 56 = .ok (.aload_n 0, 1) := by decide +kernel
theorem dX6_toldBy_57 : decode cX6_toldBy 57 = .ok (.getfield 28, 3) := by decide +kernel
theorem dX6_toldBy_60 : decode cX6_toldBy 60 = .ok (.getfield 208, 3) := by decide +kernel
theorem dX6_toldBy_63 : decode cX6_toldBy 63 = .ok (.invokevirtual 72, 3) := by decide +kernel
theorem dX6_toldBy_66 : decode cX6_toldBy 66 = .ok (.istore 6, 2) := by decide +kernel
theorem dX6_toldBy_68 : decode cX6_toldBy 68 = .ok (.iload 6, 2) := by decide +kernel
theorem dX6_toldBy_70 : decode cX6_toldBy 70 = .ok (.ifCond .eq 10, 3) := by decide +kernel
theorem dX6_toldBy_73 : decode cX6_toldBy 73 = .ok (.aload_n 0, 1) := by decide +kernel
theorem dX6_toldBy_74 : decode cX6_toldBy 74 = .ok (.iload 6, 2) := by decide +kernel
theorem dX6_toldBy_76 : decode cX6_toldBy 76 = .ok (.invokevirtual 76, 3) := by decide +kernel
theorem dX6_toldBy_79 : decode cX6_toldBy 79 = .ok (.ireturn, 1) := by decide +kernel
theorem dX6_toldBy_80 : decode cX6_toldBy 80 = .ok (.aload_n 0, 1) := by decide +kernel
theorem dX6_toldBy_81 : decode cX6_toldBy 81 = .ok (.getfield 12, 3) := by decide +kernel
theorem dX6_toldBy_84 : decode cX6_toldBy 84 = .ok (.iload_n 3, 1) := by decide +kernel
theorem dX6_toldBy_85 : decode cX6_toldBy 85 = .ok (.iload 5, 2) := by decide +kernel
theorem dX6_toldBy_87 : decode cX6_toldBy 87 = .ok (.aload_n 0, 1) := by decide +kernel
theorem dX6_toldBy_88 : decode cX6_toldBy 88 = .ok (.getfield 28, 3) := by decide +kernel
theorem dX6_toldBy_91 : decode cX6_toldBy 91 = .ok (.getfield 208, 3) := by decide +kernel
theorem dX6_toldBy_94 : decode cX6_toldBy 94 = .ok (.aload_n 0, 1) := by decide +kernel
theorem dX6_toldBy_95 : decode cX6_toldBy 95 = .ok (.getfield 57, 3) := by decide +kernel
theorem dX6_toldBy_98 : decode cX6_toldBy 98 = .ok (.invokevirtual 86, 3) := by decide +kernel
theorem dX6_toldBy_101 : decode cX6_toldBy 101 = .ok (.aload_n 0, 1) := by decide +kernel
theorem dX6_toldBy_102 : decode cX6_toldBy 102 = .ok (.getfield 28, 3) := by decide +kernel
theorem dX6_toldBy_105 : decode cX6_toldBy 105 = .ok (.aload_n 0, 1) := by decide +kernel
theorem dX6_toldBy_106 : decode cX6_toldBy 106 = .ok (.getfield 57, 3) := by decide +kernel
theorem dX6_toldBy_109 : decode cX6_toldBy 109 = .ok (.invokevirtual 211, 3) := by decide +kernel
theorem dX6_toldBy_112 : decode cX6_toldBy 112 = .ok (.ifCond .ne 6, 3) := by decide +kernel
theorem dX6_toldBy_115 : decode cX6_toldBy 115 = .ok (.bipush (-2), 2) := by decide +kernel
theorem dX6_toldBy_117 : decode cX6_toldBy 117 = .ok (.ireturn, 1) := by decide +kernel
theorem dX6_toldBy_118 : decode cX6_toldBy 118 = .ok (.aload_n 0, 1) := by decide +kernel
theorem dX6_toldBy_119 : decode cX6_toldBy 119 = .ok (.iload_n 1, 1) := by decide +kernel
theorem dX6_toldBy_120 : decode cX6_toldBy 120 = .ok (.iload_n 2, 1) := by decide +kernel
theorem dX6_toldBy_121 : decode cX6_toldBy 121 = .ok (.invokevirtual 215, 3) := by decide +kernel
theorem dX6_toldBy_124 : decode cX6_toldBy 124 = .ok (.ireturn, 1) := by decide +kernel
theorem dX6_sheet_0 : decode cX6_sheet 0 = .ok (.aload_n 0, 1) := by decide +kernel
theorem dX6_sheet_1 : decode cX6_sheet 1 = .ok (.iconst 0, 1) := by decide +kernel
theorem dX6_sheet_2 : decode cX6_sheet 2 = .ok (.putfield 61, 3) := by decide +kernel
theorem dX6_sheet_5 : decode cX6_sheet 5 = .ok (.iload_n 1, 1) := by decide +kernel
theorem dX6_sheet_6 : decode cX6_sheet 6 = .ok (.invokestatic 65, 3) := by decide +kernel
theorem dX6_sheet_9 : decode cX6_sheet 9 = .ok (.ifCond .ne 5, 3) := by decide +kernel
theorem dX6_sheet_12 : decode cX6_sheet 12 = .ok (.iconst (-1), 1) := by decide +kernel
theorem dX6_sheet_13 : decode cX6_sheet 13 = .ok (.ireturn, 1) := by decide +kernel
theorem dX6_sheet_14 : decode cX6_sheet 14 = .ok (.iload_n 2, 1) := by decide +kernel
theorem dX6_sheet_15 : decode cX6_sheet 15 = .ok (.invokestatic 69, 3) := by decide +kernel
theorem dX6_sheet_18 : decode cX6_sheet 18 = .ok (.ifCond .eq 9, 3) := by decide +kernel
theorem dX6_sheet_21 : decode cX6_sheet 21 = .ok (.iload_n 3, 1) := by decide +kernel
theorem dX6_sheet_22 : decode cX6_sheet 22 = .ok (.bipush 60, 2) := by decide +kernel
theorem dX6_sheet_24 : decode cX6_sheet 24 = .ok (.if_icmp .le 6, 3) := by decide +kernel
theorem dX6_sheet_27 : decode cX6_sheet 27 = .ok (.bipush (-2), 2) := by decide +kernel
theorem dX6_sheet_29 : decode cX6_sheet 29 = .ok (.ireturn, 1) := by decide +kernel
theorem dX6_sheet_30 : decode cX6_sheet 30 = .ok (.iload_n 3, 1) := by decide +kernel
theorem dX6_sheet_31 : decode cX6_sheet 31 = .ok (.ifCond .ge 9, 3) := by decide +kernel
theorem dX6_sheet_34 : decode cX6_sheet 34 = .ok (.aload_n 0, 1) := by decide +kernel
theorem dX6_sheet_35 : decode cX6_sheet 35 = .ok (.iconst 4, 1) := by decide +kernel
theorem dX6_sheet_36 : decode cX6_sheet 36 = .ok (.invokevirtual 76, 3) := by decide +kernel
theorem dX6_sheet_39 : decode cX6_sheet 39 = .ok (.ireturn, 1) := by decide +kernel
theorem dX6_sheet_40 : decode cX6_sheet 40 = .ok (.aload_n 0, 1) := by decide +kernel
theorem dX6_sheet_41 : decode cX6_sheet 41 = .ok (.getfield 12, 3) := by decide +kernel
theorem dX6_sheet_44 : decode cX6_sheet 44 = .ok (.iload_n 1, 1) := by decide +kernel
theorem dX6_sheet_45 : decode cX6_sheet 45 = .ok (.iload_n 2, 1) := by decide +kernel
theorem dX6_sheet_46 : decode cX6_sheet 46 = .ok (.iload_n 3, 1) := by decide +kernel
theorem dX6_sheet_47 : decode cX6_sheet 47 = .ok (.invokevirtual 218, 3) := by decide +kernel
theorem dX6_sheet_50 : decode cX6_sheet 50 = .ok (.iconst 1, 1) := by decide +kernel
theorem dX6_sheet_51 : decode cX6_sheet 51 = .ok (.ireturn, 1) := by decide +kernel
theorem dX6_lose_0 : decode cX6_lose 0 = .ok (.iload_n 1, 1) := by decide +kernel
theorem dX6_lose_1 : decode cX6_lose 1 = .ok (.invokestatic 65, 3) := by decide +kernel
theorem dX6_lose_4 : decode cX6_lose 4 = .ok (.ifCond .ne 5, 3) := by decide +kernel
theorem dX6_lose_7 : decode cX6_lose 7 = .ok (.iconst (-1), 1) := by decide +kernel
theorem dX6_lose_8 : decode cX6_lose 8 = .ok (.ireturn, 1) := by decide +kernel
theorem dX6_lose_9 : decode cX6_lose 9 = .ok (.aload_n 0, 1) := by decide +kernel
theorem dX6_lose_10 : decode cX6_lose 10 = .ok (.getfield 12, 3) := by decide +kernel
theorem dX6_lose_13 : decode cX6_lose 13 = .ok (.iload_n 1, 1) := by decide +kernel
theorem dX6_lose_14 : decode cX6_lose 14 = .ok (.invokevirtual 222, 3) := by decide +kernel
theorem dX6_lose_17 : decode cX6_lose 17 = .ok (.ifCond .eq 7, 3) := by decide +kernel
theorem dX6_lose_20 : decode cX6_lose 20 = .ok (.iconst 1, 1) := by decide +kernel
theorem dX6_lose_21 : decode cX6_lose 21 = .ok (.goto 4, 3) := by decide +kernel
theorem dX6_lose_24 : decode cX6_lose 24 = .ok (.iconst 0, 1) := by decide +kernel
theorem dX6_lose_25 : decode cX6_lose 25 = .ok (.ireturn, 1) := by decide +kernel
theorem dX6_put_0 : decode cX6_put 0 = .ok (.aload_n 0, 1) := by decide +kernel
theorem dX6_put_1 : decode cX6_put 1 = .ok (.iconst 0, 1) := by decide +kernel
theorem dX6_put_2 : decode cX6_put 2 = .ok (.putfield 61, 3) := by decide +kernel
theorem dX6_put_5 : decode cX6_put 5 = .ok (.iload_n 1, 1) := by decide +kernel
theorem dX6_put_6 : decode cX6_put 6 = .ok (.invokestatic 65, 3) := by decide +kernel
theorem dX6_put_9 : decode cX6_put 9 = .ok (.ifCond .ne 5, 3) := by decide +kernel
theorem dX6_put_12 : decode cX6_put 12 = .ok (.iconst (-1), 1) := by decide +kernel
theorem dX6_put_13 : decode cX6_put 13 = .ok (.ireturn, 1) := by decide +kernel
theorem dX6_put_14 : decode cX6_put 14 = .ok (.aload_n 0, 1) := by decide +kernel
theorem dX6_put_15 : decode cX6_put 15 = .ok (.getfield 12, 3) := by decide +kernel
theorem dX6_put_18 : decode cX6_put 18 = .ok (.iload_n 1, 1) := by decide +kernel
theorem dX6_put_19 : decode cX6_put 19 = .ok (.invokevirtual 225, 3) := by decide +kernel
theorem dX6_put_22 : decode cX6_put 22 = .ok (.ifCond .ne 9, 3) := by decide +kernel
theorem dX6_put_25 : decode cX6_put 25 = .ok (.aload_n 0, 1) := by decide +kernel
theorem dX6_put_26 : decode cX6_put 26 = .ok (.iconst 1, 1) := by decide +kernel
theorem dX6_put_27 : decode cX6_put 27 = .ok (.invokevirtual 76, 3) := by decide +kernel
theorem dX6_put_30 : decode cX6_put 30 = .ok (.ireturn, 1) := by decide +kernel
theorem dX6_put_31 : decode cX6_put 31 = .ok (.aload_n 0, 1) := by decide +kernel
theorem dX6_put_32 : decode cX6_put 32 = .ok (.getfield 12, 3) := by decide +kernel
theorem dX6_put_35 : decode cX6_put 35 = .ok (.iload_n 1, 1) := by decide +kernel
theorem dX6_put_36 : decode cX6_put 36 = .ok (.iload_n 2, 1) := by decide +kernel
theorem dX6_put_37 : decode cX6_put 37 = .ok (.iconst 1, 1) := by decide +kernel
theorem dX6_put_38 : decode cX6_put 38 = .ok (.invokevirtual 228, 3) := by decide +kernel
theorem dX6_put_41 : decode cX6_put 41 = .ok (.ifCond .ne 9, 3) := by decide +kernel
theorem dX6_put_44 : decode cX6_put 44 = .ok (.aload_n 0, 1) := by decide +kernel
theorem dX6_put_45 : decode cX6_put 45 = .ok (.iconst 3, 1) := by decide +kernel
theorem dX6_put_46 : decode cX6_put 46 = .ok (.invokevirtual 76, 3) := by decide +kernel
theorem dX6_put_49 : decode cX6_put 49 = .ok (.ireturn, 1) := by decide +kernel
theorem dX6_put_50 : decode cX6_put 50 = .ok (.aload_n 0, 1) := by decide +kernel
theorem dX6_put_51 : decode cX6_put 51 = .ok (.getfield 12, 3) := by decide +kernel
theorem dX6_put_54 : decode cX6_put 54 = .ok (.iload_n 1, 1) := by decide +kernel
theorem dX6_put_55 : decode cX6_put 55 = .ok (.iload_n 2, 1) := by decide +kernel
theorem dX6_put_56 : decode cX6_put 56 = .ok (.iload_n 3, 1) := by decide +kernel
theorem dX6_put_57 : decode cX6_put 57 = .ok (.invokevirtual 232, 3) := by decide +kernel
theorem dX6_put_60 : decode cX6_put 60 = .ok (.iconst 1, 1) := by decide +kernel
theorem dX6_put_61 : decode cX6_put 61 = .ok (.ireturn, 1) := by decide +kernel
theorem dX6_cell_0 : decode cX6_cell 0 = .ok (.aload_n 0, 1) := by decide +kernel
theorem dX6_cell_1 : decode cX6_cell 1 = .ok (.iconst 0, 1) := by decide +kernel
theorem dX6_cell_2 : decode cX6_cell 2 = .ok (.putfield 61, 3) := by decide +kernel
theorem dX6_cell_5 : decode cX6_cell 5 = .ok (.iload_n 1, 1) := by decide +kernel
theorem dX6_cell_6 : decode cX6_cell 6 = .ok (.invokestatic 65, 3) := by decide +kernel
theorem dX6_cell_9 : decode cX6_cell 9 = .ok (.ifCond .eq 10, 3) := by decide +kernel
theorem dX6_cell_12 : decode cX6_cell 12 = .ok (.iload_n 3, 1) := by decide +kernel
theorem dX6_cell_13 : decode cX6_cell 13 = .ok (.invokestatic 69, 3) := by decide +kernel
theorem dX6_cell_16 : decode cX6_cell 16 = .ok (.ifCond .ne 7, 3) := by decide +kernel
theorem dX6_cell_19 : decode cX6_cell 19 = .ok (.ldc2_w 235, 3) := by decide +kernel
theorem dX6_cell_22 : decode cX6_cell 22 = .ok (.lreturn, 1) := by decide +kernel
theorem dX6_cell_23 : decode cX6_cell 23 = .ok (.aload_n 0, 1) := by decide +kernel
theorem dX6_cell_24 : decode cX6_cell 24 = .ok (.getfield 12, 3) := by decide +kernel
theorem dX6_cell_27 : decode cX6_cell 27 = .ok (.iload_n 1, 1) := by decide +kernel
theorem dX6_cell_28 : decode cX6_cell 28 = .ok (.iload_n 3, 1) := by decide +kernel
theorem dX6_cell_29 : decode cX6_cell 29 = .ok (.iload_n 2, 1) := by decide +kernel
theorem dX6_cell_30 : decode cX6_cell 30 = .ok (.iconst 1, 1) := by decide +kernel
theorem dX6_cell_31 : decode cX6_cell 31 = .ok (.invokevirtual 72, 3) := by decide +kernel
theorem dX6_cell_34 : decode cX6_cell 34 = .ok (.istore 4, 2) := by decide +kernel
theorem dX6_cell_36 : decode cX6_cell 36 = .ok (.iload 4, 2) := by decide +kernel
theorem dX6_cell_38 : decode cX6_cell 38 = .ok (.ifCond .eq 13, 3) := by decide +kernel
theorem dX6_cell_41 : decode cX6_cell 41 = .ok (.aload_n 0, 1) := by decide +kernel
theorem dX6_cell_42 : decode cX6_cell 42 = .ok (.iload 4, 2) := by decide +kernel
theorem dX6_cell_44 : decode cX6_cell 44 = .ok (.putfield 61, 3) := by decide +kernel
theorem dX6_cell_47 : decode cX6_cell 47 = .ok (.ldc2_w 235, 3) := by decide +kernel
theorem dX6_cell_50 : decode cX6_cell 50 = .ok (.lreturn, 1) := by decide +kernel
theorem dX6_cell_51 : decode cX6_cell 51 = .ok (.aload_n 0, 1) := by decide +kernel
theorem dX6_cell_52 : decode cX6_cell 52 = .ok (.getfield 12, 3) := by decide +kernel
theorem dX6_cell_55 : decode cX6_cell 55 = .ok (.iload_n 1, 1) := by decide +kernel
theorem dX6_cell_56 : decode cX6_cell 56 = .ok (.iload_n 2, 1) := by decide +kernel
theorem dX6_cell_57 : decode cX6_cell 57 = .ok (.invokevirtual 237, 3) := by decide +kernel
theorem dX6_cell_60 : decode cX6_cell 60 = .ok (.i2l, 1) := by decide +kernel
theorem dX6_cell_61 : decode cX6_cell 61 = .ok (.lreturn, 1) := by decide +kernel
theorem dX6_copy_0 : decode cX6_copy 0 = .ok (.aload_n 0, 1) := by decide +kernel
theorem dX6_copy_1 : decode cX6_copy 1 = .ok (.iconst 0, 1) := by decide +kernel
theorem dX6_copy_2 : decode cX6_copy 2 = .ok (.putfield 61, 3) := by decide +kernel
theorem dX6_copy_5 : decode cX6_copy 5 = .ok (.iload_n 1, 1) := by decide +kernel
theorem dX6_copy_6 : decode cX6_copy 6 = .ok (.invokestatic 65, 3) := by decide +kernel
theorem dX6_copy_9 : decode cX6_copy 9 = .ok (.ifCond .eq 10, 3) := by decide +kernel
theorem dX6_copy_12 : decode cX6_copy 12 = .ok (.iload_n 3, 1) := by decide +kernel
theorem dX6_copy_13 : decode cX6_copy 13 = .ok (.invokestatic 65, 3) := by decide +kernel
theorem dX6_copy_16 : decode cX6_copy 16 = .ok (.ifCond .ne 5, 3) := by decide +kernel
theorem dX6_copy_19 : decode cX6_copy 19 = .ok (.iconst (-1), 1) := by decide +kernel
theorem dX6_copy_20 : decode cX6_copy 20 = .ok (.ireturn, 1) := by decide +kernel
theorem dX6_copy_21 : decode cX6_copy 21 = .ok (.aload_n 0, 1) := by decide +kernel
theorem dX6_copy_22 : decode cX6_copy 22 = .ok (.getfield 12, 3) := by decide +kernel
theorem dX6_copy_25 : decode cX6_copy 25 = .ok (.iload_n 1, 1) := by decide +kernel
theorem dX6_copy_26 : decode cX6_copy 26 = .ok (.invokevirtual 225, 3) := by decide +kernel
theorem dX6_copy_29 : decode cX6_copy 29 = .ok (.ifCond .eq 14, 3) := by decide +kernel
theorem dX6_copy_32 : decode cX6_copy 32 = .ok (.aload_n 0, 1) := by decide +kernel
theorem dX6_copy_33 : decode cX6_copy 33 = .ok (.getfield 12, 3) := by decide +kernel
theorem dX6_copy_36 : decode cX6_copy 36 = .ok (.iload_n 3, 1) := by decide +kernel
theorem dX6_copy_37 : decode cX6_copy 37 = .ok (.invokevirtual 225, 3) := by decide +kernel
theorem dX6_copy_40 : decode cX6_copy 40 = .ok (.ifCond .ne 9, 3) := by decide +kernel
theorem dX6_copy_43 : decode cX6_copy 43 = .ok (.aload_n 0, 1) := by decide +kernel
theorem dX6_copy_44 : decode cX6_copy 44 = .ok (.iconst 1, 1) := by decide +kernel
theorem dX6_copy_45 : decode cX6_copy 45 = .ok (.invokevirtual 76, 3) := by decide +kernel
theorem dX6_copy_48 : decode cX6_copy 48 = .ok (.ireturn, 1) := by decide +kernel
theorem dX6_copy_49 : decode cX6_copy 49 = .ok (.aload_n 0, 1) := by decide +kernel
theorem dX6_copy_50 : decode cX6_copy 50 = .ok (.getfield 12, 3) := by decide +kernel
theorem dX6_copy_53 : decode cX6_copy 53 = .ok (.getfield 240, 3) := by decide +kernel
theorem dX6_copy_56 : decode cX6_copy 56 = .ok (.iload_n 1, 1) := by decide +kernel
theorem dX6_copy_57 : decode cX6_copy 57 = .ok (.iaload, 1) := by decide +kernel
theorem dX6_copy_58 : decode cX6_copy 58 = .ok (.aload_n 0, 1) := by decide +kernel
theorem dX6_copy_59 : decode cX6_copy 59 = .ok (.getfield 12, 3) := by decide +kernel
theorem dX6_copy_62 : decode cX6_copy 62 = .ok (.getfield 240, 3) := by decide +kernel
theorem dX6_copy_65 : decode cX6_copy 65 = .ok (.iload_n 3, 1) := by decide +kernel
theorem dX6_copy_66 : decode cX6_copy 66 = .ok (.iaload, 1) := by decide +kernel
theorem dX6_copy_67 : decode cX6_copy 67 = .ok (.if_icmp .eq 9, 3) := by decide +kernel
theorem dX6_copy_70 : decode cX6_copy 70 = .ok (.aload_n 0, 1) := by decide +kernel
theorem dX6_copy_71 : decode cX6_copy 71 = .ok (.iconst 2, 1) := by decide +kernel
theorem dX6_copy_72 : decode cX6_copy 72 = .ok (.invokevirtual 76, 3) := by decide +kernel
theorem dX6_copy_75 : decode cX6_copy 75 = .ok (.ireturn, 1) := by decide +kernel
theorem dX6_copy_76 : decode cX6_copy 76 = .ok (.aload_n 0, 1) := by decide +kernel
theorem dX6_copy_77 : decode cX6_copy 77 = .ok (.getfield 12, 3) := by decide +kernel
theorem dX6_copy_80 : decode cX6_copy 80 = .ok (.iload_n 1, 1) := by decide +kernel
theorem dX6_copy_81 : decode cX6_copy 81 = .ok (.iload_n 2, 1) := by decide +kernel
theorem dX6_copy_82 : decode cX6_copy 82 = .ok (.iload 5, 2) := by decide +kernel
theorem dX6_copy_84 : decode cX6_copy 84 = .ok (.invokevirtual 228, 3) := by decide +kernel
theorem dX6_copy_87 : decode cX6_copy 87 = .ok (.ifCond .eq 18, 3) := by decide +kernel
theorem dX6_copy_90 : decode cX6_copy 90 = .ok (.aload_n 0, 1) := by decide +kernel
theorem dX6_copy_91 : decode cX6_copy 91 = .ok (.getfield 12, 3) := by decide +kernel
theorem dX6_copy_94 : decode cX6_copy 94 = .ok (.iload_n 3, 1) := by decide +kernel
theorem dX6_copy_95 : decode cX6_copy 95 = .ok (.iload 4, 2) := by decide +kernel
theorem dX6_copy_97 : decode cX6_copy 97 = .ok (.iload 5, 2) := by decide +kernel
theorem dX6_copy_99 : decode cX6_copy 99 = .ok (.invokevirtual 228, 3) := by decide +kernel
theorem dX6_copy_102 : decode cX6_copy 102 = .ok (.ifCond .ne 9, 3) := by decide +kernel
theorem dX6_copy_105 : decode cX6_copy 105 = .ok (.aload_n 0, 1) := by decide +kernel
theorem dX6_copy_106 : decode cX6_copy 106 = .ok (.iconst 3, 1) := by decide +kernel
theorem dX6_copy_107 : decode cX6_copy 107 = .ok (.invokevirtual 76, 3) := by decide +kernel
theorem dX6_copy_110 : decode cX6_copy 110 = .ok (.ireturn, 1) := by decide +kernel
theorem dX6_copy_111 : decode cX6_copy 111 = .ok (.aload_n 0, 1) := by decide +kernel
theorem dX6_copy_112 : decode cX6_copy 112 = .ok (.getfield 12, 3) := by decide +kernel
theorem dX6_copy_115 : decode cX6_copy 115 = .ok (.iload_n 1, 1) := by decide +kernel
theorem dX6_copy_116 : decode cX6_copy 116 = .ok (.iload_n 2, 1) := by decide +kernel
theorem dX6_copy_117 : decode cX6_copy 117 = .ok (.iload_n 3, 1) := by decide +kernel
theorem dX6_copy_118 : decode cX6_copy 118 = .ok (.iload 4, 2) := by decide +kernel
theorem dX6_copy_120 : decode cX6_copy 120 = .ok (.iload 5, 2) := by decide +kernel
theorem dX6_copy_122 : decode cX6_copy 122 = .ok (.invokevirtual 243, 3) := by decide +kernel
theorem dX6_copy_125 : decode cX6_copy 125 = .ok (.iload 5, 2) := by decide +kernel
theorem dX6_copy_127 : decode cX6_copy 127 = .ok (.ireturn, 1) := by decide +kernel
theorem dX6_tell_0 : decode cX6_tell 0 = .ok (.aload_n 0, 1) := by decide +kernel
theorem dX6_tell_1 : decode cX6_tell 1 = .ok (.getfield 28, 3) := by decide +kernel
theorem dX6_tell_4 : decode cX6_tell 4 = .ok (.iload_n 1, 1) := by decide +kernel
theorem dX6_tell_5 : decode cX6_tell 5 = .ok (.invokevirtual 101, 3) := by decide +kernel
theorem dX6_tell_8 : decode cX6_tell 8 = .ok (.ifCond .ne 5, 3) := by decide +kernel
theorem dX6_tell_11 : decode cX6_tell 11 = .ok (.iconst (-1), 1) := by decide +kernel
theorem dX6_tell_12 : decode cX6_tell 12 = .ok (.ireturn, 1) := by decide +kernel
theorem dX6_tell_13 : decode cX6_tell 13 = .ok (.aload_n 0, 1) := by decide +kernel
theorem dX6_tell_14 : decode cX6_tell 14 = .ok (.getfield 28, 3) := by decide +kernel
theorem dX6_tell_17 : decode cX6_tell 17 = .ok (.getfield 104, 3) := by decide +kernel
theorem dX6_tell_20 : decode cX6_tell 20 = .ok (.iload_n 1, 1) := by decide +kernel
theorem dX6_tell_21 : decode cX6_tell 21 = .ok (.iaload, 1) := by decide +kernel
theorem dX6_tell_22 : decode cX6_tell 22 = .ok (.lookupswitch 38 #[(1, 26), (2, 32)], 26) := by decide +kernel
theorem dX6_tell_48 : decode cX6_tell 48 = .ok (.aload_n 0, 1) := by decide +kernel
theorem dX6_tell_49 : decode cX6_tell 49 = .ok (.iload_n 1, 1) := by decide +kernel
theorem dX6_tell_50 : decode cX6_tell 50 = .ok (.invokevirtual 247, 3) := by decide +kernel
theorem dX6_tell_53 : decode cX6_tell 53 = .ok (.ireturn, 1) := by decide +kernel
theorem dX6_tell_54 : decode cX6_tell 54 = .ok (.aload_n 0, 1) := by decide +kernel
theorem dX6_tell_55 : decode cX6_tell 55 = .ok (.iload_n 1, 1) := by decide +kernel
theorem dX6_tell_56 : decode cX6_tell 56 = .ok (.invokevirtual 250, 3) := by decide +kernel
theorem dX6_tell_59 : decode cX6_tell 59 = .ok (.ireturn, 1) := by decide +kernel
theorem dX6_tell_60 : decode cX6_tell 60 = .ok (.aload_n 0, 1) := by decide +kernel
theorem dX6_tell_61 : decode cX6_tell 61 = .ok (.iload_n 1, 1) := by decide +kernel
theorem dX6_tell_62 : decode cX6_tell 62 = .ok (.invokevirtual 253, 3) := by decide +kernel
theorem dX6_tell_65 : decode cX6_tell 65 = .ok (.ireturn, 1) := by decide +kernel
theorem dX6_swear_0 : decode cX6_swear 0 = .ok (.aload_n 0, 1) := by decide +kernel
theorem dX6_swear_1 : decode cX6_swear 1 = .ok (.getfield 28, 3) := by decide +kernel
theorem dX6_swear_4 : decode cX6_swear 4 = .ok (.iload_n 1, 1) := by decide +kernel
theorem dX6_swear_5 : decode cX6_swear 5 = .ok (.invokevirtual 101, 3) := by decide +kernel
theorem dX6_swear_8 : decode cX6_swear 8 = .ok (.ifCond .ne 5, 3) := by decide +kernel
theorem dX6_swear_11 : decode cX6_swear 11 = .ok (.iconst (-1), 1) := by decide +kernel
theorem dX6_swear_12 : decode cX6_swear 12 = .ok (.ireturn, 1) := by decide +kernel
theorem dX6_swear_13 : decode cX6_swear 13 = .ok (.aload_n 0, 1) := by decide +kernel
theorem dX6_swear_14 : decode cX6_swear 14 = .ok (.getfield 28, 3) := by decide +kernel
theorem dX6_swear_17 : decode cX6_swear 17 = .ok (.getfield 104, 3) := by decide +kernel
theorem dX6_swear_20 : decode cX6_swear 20 = .ok (.iload_n 1, 1) := by decide +kernel
theorem dX6_swear_21 : decode cX6_swear 21 = .ok (.iaload, 1) := by decide +kernel
theorem dX6_swear_22 : decode cX6_swear 22 = .ok (.iconst 2, 1) := by decide +kernel
theorem dX6_swear_23 : decode cX6_swear 23 = .ok (.if_icmp .ne 11, 3) := by decide +kernel
theorem dX6_swear_26 : decode cX6_swear 26 = .ok (.aload_n 0, 1) := by decide +kernel
theorem dX6_swear_27 : decode cX6_swear 27 = .ok (.iconst 5, 1) := by decide +kernel
theorem dX6_swear_28 : decode cX6_swear 28 = .ok (.invokevirtual 256, 3) := by decide +kernel
theorem dX6_swear_31 : decode cX6_swear 31 = .ok (.bipush 30, 2) := by decide +kernel
theorem dX6_swear_33 : decode cX6_swear 33 = .ok (.ireturn, 1) := by decide +kernel
theorem dX6_swear_34 : decode cX6_swear 34 = .ok (.aload_n 0, 1) := by decide +kernel
theorem dX6_swear_35 : decode cX6_swear 35 = .ok (.iconst 4, 1) := by decide +kernel
theorem dX6_swear_36 : decode cX6_swear 36 = .ok (.invokevirtual 256, 3) := by decide +kernel
theorem dX6_swear_39 : decode cX6_swear 39 = .ok (.iload_n 1, 1) := by decide +kernel
theorem dX6_swear_40 : decode cX6_swear 40 = .ok (.ireturn, 1) := by decide +kernel
theorem dX6_as_0 : decode cX6_as 0 = .ok (.aload_n 0, 1) := by decide +kernel
theorem dX6_as_1 : decode cX6_as 1 = .ok (.iconst 0, 1) := by decide +kernel
theorem dX6_as_2 : decode cX6_as 2 = .ok (.putfield 61, 3) := by decide +kernel
theorem dX6_as_5 : decode cX6_as 5 = .ok (.aload_n 0, 1) := by decide +kernel
theorem dX6_as_6 : decode cX6_as 6 = .ok (.getfield 28, 3) := by decide +kernel
theorem dX6_as_9 : decode cX6_as 9 = .ok (.iload_n 1, 1) := by decide +kernel
theorem dX6_as_10 : decode cX6_as 10 = .ok (.invokevirtual 101, 3) := by decide +kernel
theorem dX6_as_13 : decode cX6_as 13 = .ok (.ifCond .ne 5, 3) := by decide +kernel
theorem dX6_as_16 : decode cX6_as 16 = .ok (.iconst (-1), 1) := by decide +kernel
theorem dX6_as_17 : decode cX6_as 17 = .ok (.ireturn, 1) := by decide +kernel
theorem dX6_as_18 : decode cX6_as 18 = .ok (.iload_n 2, 1) := by decide +kernel
theorem dX6_as_19 : decode cX6_as 19 = .ok (.ifCond .lt 8, 3) := by decide +kernel
theorem dX6_as_22 : decode cX6_as 22 = .ok (.iload_n 2, 1) := by decide +kernel
theorem dX6_as_23 : decode cX6_as 23 = .ok (.iconst 2, 1) := by decide +kernel
theorem dX6_as_24 : decode cX6_as 24 = .ok (.if_icmp .le 6, 3) := by decide +kernel
theorem dX6_as_27 : decode cX6_as 27 = .ok (.bipush (-2), 2) := by decide +kernel
theorem dX6_as_29 : decode cX6_as 29 = .ok (.ireturn, 1) := by decide +kernel
theorem dX6_as_30 : decode cX6_as 30 = .ok (.iload_n 2, 1) := by decide +kernel
theorem dX6_as_31 : decode cX6_as 31 = .ok (.aload_n 0, 1) := by decide +kernel
theorem dX6_as_32 : decode cX6_as 32 = .ok (.getfield 28, 3) := by decide +kernel
theorem dX6_as_35 : decode cX6_as 35 = .ok (.getfield 104, 3) := by decide +kernel
theorem dX6_as_38 : decode cX6_as 38 = .ok (.iload_n 1, 1) := by decide +kernel
theorem dX6_as_39 : decode cX6_as 39 = .ok (.iaload, 1) := by decide +kernel
theorem dX6_as_40 : decode cX6_as 40 = .ok (.if_icmp .le 9, 3) := by decide +kernel
theorem dX6_as_43 : decode cX6_as 43 = .ok (.aload_n 0, 1) := by decide +kernel
theorem dX6_as_44 : decode cX6_as 44 = .ok (.iconst 2, 1) := by decide +kernel
theorem dX6_as_45 : decode cX6_as 45 = .ok (.invokevirtual 76, 3) := by decide +kernel
theorem dX6_as_48 : decode cX6_as 48 = .ok (.ireturn, 1) := by decide +kernel
theorem dX6_as_49 : decode cX6_as 49 = .ok (.iconst 1, 1) := by decide +kernel
theorem dX6_as_50 : decode cX6_as 50 = .ok (.ireturn, 1) := by decide +kernel
theorem dX6_trace_0 : decode cX6_trace 0 = .ok (.aload_n 0, 1) := by decide +kernel
theorem dX6_trace_1 : decode cX6_trace 1 = .ok (.getfield 259, 3) := by decide +kernel
theorem dX6_trace_4 : decode cX6_trace 4 = .ok (.ireturn, 1) := by decide +kernel
theorem dX6_fault_0 : decode cX6_fault 0 = .ok (.aload_n 0, 1) := by decide +kernel
theorem dX6_fault_1 : decode cX6_fault 1 = .ok (.getfield 61, 3) := by decide +kernel
theorem dX6_fault_4 : decode cX6_fault 4 = .ok (.ireturn, 1) := by decide +kernel
theorem dX6_many_0 : decode cX6_many 0 = .ok (.iload_n 1, 1) := by decide +kernel
theorem dX6_many_1 : decode cX6_many 1 = .ok (.tableswitch 63 0 3 #[31, 39, 47, 55], 31) := by decide +kernel
theorem dX6_many_32 : decode cX6_many 32 = .ok (.aload_n 0, 1) := by decide +kernel
theorem dX6_many_33 : decode cX6_many 33 = .ok (.getfield 28, 3) := by decide +kernel
theorem dX6_many_36 : decode cX6_many 36 = .ok (.getfield 208, 3) := by decide +kernel
theorem dX6_many_39 : decode cX6_many 39 = .ok (.ireturn, 1) := by decide +kernel
theorem dX6_many_40 : decode cX6_many 40 = .ok (.aload_n 0, 1) := by decide +kernel
theorem dX6_many_41 : decode cX6_many 41 = .ok (.getfield 28, 3) := by decide +kernel
theorem dX6_many_44 : decode cX6_many 44 = .ok (.getfield 98, 3) := by decide +kernel
theorem dX6_many_47 : decode cX6_many 47 = .ok (.ireturn, 1) := by decide +kernel
theorem dX6_many_48 : decode cX6_many 48 = .ok (.aload_n 0, 1) := by decide +kernel
theorem dX6_many_49 : decode cX6_many 49 = .ok (.getfield 28, 3) := by decide +kernel
theorem dX6_many_52 : decode cX6_many 52 = .ok (.getfield 138, 3) := by decide +kernel
theorem dX6_many_55 : decode cX6_many 55 = .ok (.ireturn, 1) := by decide +kernel
theorem dX6_many_56 : decode cX6_many 56 = .ok (.aload_n 0, 1) := by decide +kernel
theorem dX6_many_57 : decode cX6_many 57 = .ok (.getfield 28, 3) := by decide +kernel
theorem dX6_many_60 : decode cX6_many 60 = .ok (.getfield 129, 3) := by decide +kernel
theorem dX6_many_63 : decode cX6_many 63 = .ok (.ireturn, 1) := by decide +kernel
theorem dX6_many_64 : decode cX6_many 64 = .ok (.bipush (-2), 2) := by decide +kernel
theorem dX6_many_66 : decode cX6_many 66 = .ok (.ireturn, 1) := by decide +kernel
theorem dX6_isSheet_0 : decode cX6_isSheet 0 = .ok (.iload_n 0, 1) := by decide +kernel
theorem dX6_isSheet_1 : decode cX6_isSheet 1 = .ok (.ifCond .lt 12, 3) := by decide +kernel
theorem dX6_isSheet_4 : decode cX6_isSheet 4 = .ok (.iload_n 0, 1) := by decide +kernel
theorem dX6_isSheet_5 : decode cX6_isSheet 5 = .ok (.iconst 4, 1) := by decide +kernel
theorem dX6_isSheet_6 : decode cX6_isSheet 6 = .ok (.if_icmp .ge 7, 3) := by decide +kernel
theorem dX6_isSheet_9 : decode cX6_isSheet 9 = .ok (.iconst 1, 1) := by decide +kernel
theorem dX6_isSheet_10 : decode cX6_isSheet 10 = .ok (.goto 4, 3) := by decide +kernel
theorem dX6_isSheet_13 : decode cX6_isSheet 13 = .ok (.iconst 0, 1) := by decide +kernel
theorem dX6_isSheet_14 : decode cX6_isSheet 14 = .ok (.ireturn, 1) := by decide +kernel
theorem dX6_isSort_0 : decode cX6_isSort 0 = .ok (.iload_n 0, 1) := by decide +kernel
theorem dX6_isSort_1 : decode cX6_isSort 1 = .ok (.ifCond .lt 12, 3) := by decide +kernel
theorem dX6_isSort_4 : decode cX6_isSort 4 = .ok (.iload_n 0, 1) := by decide +kernel
theorem dX6_isSort_5 : decode cX6_isSort 5 = .ok (.iconst 2, 1) := by decide +kernel
theorem dX6_isSort_6 : decode cX6_isSort 6 = .ok (.if_icmp .gt 7, 3) := by decide +kernel
theorem dX6_isSort_9 : decode cX6_isSort 9 = .ok (.iconst 1, 1) := by decide +kernel
theorem dX6_isSort_10 : decode cX6_isSort 10 = .ok (.goto 4, 3) := by decide +kernel
theorem dX6_isSort_13 : decode cX6_isSort 13 = .ok (.iconst 0, 1) := by decide +kernel
theorem dX6_isSort_14 : decode cX6_isSort 14 = .ok (.ireturn, 1) := by decide +kernel
theorem dX6_faulty_0 : decode cX6_faulty 0 = .ok (.aload_n 0, 1) := by decide +kernel
theorem dX6_faulty_1 : decode cX6_faulty 1 = .ok (.iload_n 1, 1) := by decide +kernel
theorem dX6_faulty_2 : decode cX6_faulty 2 = .ok (.putfield 61, 3) := by decide +kernel
theorem dX6_faulty_5 : decode cX6_faulty 5 = .ok (.bipush (-10), 2) := by decide +kernel
theorem dX6_faulty_7 : decode cX6_faulty 7 = .ok (.iload_n 1, 1) := by decide +kernel
theorem dX6_faulty_8 : decode cX6_faulty 8 = .ok (.isub, 1) := by decide +kernel
theorem dX6_faulty_9 : decode cX6_faulty 9 = .ok (.ireturn, 1) := by decide +kernel
theorem dX6_bestReply_0 : decode cX6_bestReply 0 = .ok (.aload_n 0, 1) := by decide +kernel
theorem dX6_bestReply_1 : decode cX6_bestReply 1 = .ok (.getfield 28, 3) := by decide +kernel
theorem dX6_bestReply_4 : decode cX6_bestReply 4 = .ok (.iload_n 1, 1) := by decide +kernel
theorem dX6_bestReply_5 : decode cX6_bestReply 5 = .ok (.invokevirtual 132, 3) := by decide +kernel
theorem dX6_bestReply_8 : decode cX6_bestReply 8 = .ok (.ifCond .ne 5, 3) := by decide +kernel
theorem dX6_bestReply_11 : decode cX6_bestReply 11 = .ok (.iconst (-1), 1) := by decide +kernel
theorem dX6_bestReply_12 : decode cX6_bestReply 12 = .ok (.ireturn, 1) := by decide +kernel
theorem dX6_bestReply_13 : decode cX6_bestReply 13 = .ok (.iload_n 2, 1) := by decide +kernel
theorem dX6_bestReply_14 : decode cX6_bestReply 14 = .ok (.ifCond .lt 8, 3) := by decide +kernel
theorem dX6_bestReply_17 : decode cX6_bestReply 17 = .ok (.iload_n 2, 1) := by decide +kernel
theorem dX6_bestReply_18 : decode cX6_bestReply 18 = .ok (.iconst 1, 1) := by decide +kernel
theorem dX6_bestReply_19 : decode cX6_bestReply 19 = .ok (.if_icmp .le 6, 3) := by decide +kernel
theorem dX6_bestReply_22 : decode cX6_bestReply 22 = .ok (.bipush (-2), 2) := by decide +kernel
theorem dX6_bestReply_24 : decode cX6_bestReply 24 = .ok (.ireturn, 1) := by decide +kernel
theorem dX6_bestReply_25 : decode cX6_bestReply 25 = .ok (.aload_n 0, 1) := by decide +kernel
theorem dX6_bestReply_26 : decode cX6_bestReply 26 = .ok (.getfield 28, 3) := by decide +kernel
theorem dX6_bestReply_29 : decode cX6_bestReply 29 = .ok (.aload_n 0, 1) := by decide +kernel
theorem dX6_bestReply_30 : decode cX6_bestReply 30 = .ok (.getfield 35, 3) := by decide +kernel
theorem dX6_bestReply_33 : decode cX6_bestReply 33 = .ok (.invokevirtual 141, 3) := by decide +kernel
theorem dX6_bestReply_36 : decode cX6_bestReply 36 = .ok (.bipush (-9), 2) := by decide +kernel
theorem dX6_bestReply_38 : decode cX6_bestReply 38 = .ok (.istore 4, 2) := by decide +kernel
theorem dX6_bestReply_40 : decode cX6_bestReply 40 = .ok (.iconst 0, 1) := by decide +kernel
theorem dX6_bestReply_41 : decode cX6_bestReply 41 = .ok (.istore 5, 2) := by decide +kernel
theorem dX6_bestReply_43 : decode cX6_bestReply 43 = .ok (.iload 5, 2) := by decide +kernel
theorem dX6_bestReply_45 : decode cX6_bestReply 45 = .ok (.aload_n 0, 1) := by decide +kernel
theorem dX6_bestReply_46 : decode cX6_bestReply 46 = .ok (.getfield 28, 3) := by decide +kernel
theorem dX6_bestReply_49 : decode cX6_bestReply 49 = .ok (.getfield 98, 3) := by decide +kernel
theorem dX6_bestReply_52 : decode cX6_bestReply 52 = .ok (.if_icmp .ge 49, 3) := by decide +kernel
theorem dX6_bestReply_55 : decode cX6_bestReply 55 = .ok (.aload_n 0, 1) := by decide +kernel
theorem dX6_bestReply_56 : decode cX6_bestReply 56 = .ok (.getfield 28, 3) := by decide +kernel
theorem dX6_bestReply_59 : decode cX6_bestReply 59 = .ok (.iload_n 1, 1) := by decide +kernel
theorem dX6_bestReply_60 : decode cX6_bestReply 60 = .ok (.iload 5, 2) := by decide +kernel
theorem dX6_bestReply_62 : decode cX6_bestReply 62 = .ok (.iload_n 3, 1) := by decide +kernel
theorem dX6_bestReply_63 : decode cX6_bestReply 63 = .ok (.invokevirtual 262, 3) := by decide +kernel
theorem dX6_bestReply_66 : decode cX6_bestReply 66 = .ok (.ifCond .ne 6, 3) := by decide +kernel
theorem dX6_bestReply_69 : decode cX6_bestReply 69 = .ok (.goto 26, 3) := by decide +kernel
theorem dX6_bestReply_72 : decode cX6_bestReply 72 = .ok (.iload 4, 2) := by decide +kernel
theorem dX6_bestReply_74 : decode cX6_bestReply 74 = .ok (.bipush (-9), 2) := by decide +kernel
theorem dX6_bestReply_76 : decode cX6_bestReply 76 = .ok (.if_icmp .eq 15, 3) := by decide +kernel
theorem dX6_bestReply_79 : decode cX6_bestReply 79 = .ok (.aload_n 0, 1) := by decide +kernel
theorem dX6_bestReply_80 : decode cX6_bestReply 80 = .ok (.iload_n 1, 1) := by decide +kernel
theorem dX6_bestReply_81 : decode cX6_bestReply 81 = .ok (.iload 5, 2) := by decide +kernel
theorem dX6_bestReply_83 : decode cX6_bestReply 83 = .ok (.iload 4, 2) := by decide +kernel
theorem dX6_bestReply_85 : decode cX6_bestReply 85 = .ok (.invokevirtual 266, 3) := by decide +kernel
theorem dX6_bestReply_88 : decode cX6_bestReply 88 = .ok (.ifCond .eq 7, 3) := by decide +kernel
theorem dX6_bestReply_91 : decode cX6_bestReply 91 = .ok (.iload 5, 2) := by decide +kernel
theorem dX6_bestReply_93 : decode cX6_bestReply 93 = .ok (.istore 4, 2) := by decide +kernel
theorem dX6_bestReply_95 : decode cX6_bestReply 95 = .ok (.iinc 5 1, 3) := by decide +kernel
theorem dX6_bestReply_98 : decode cX6_bestReply 98 = .ok (.goto (-55), 3) := by decide +kernel
theorem dX6_bestReply_101 : decode cX6_bestReply 101 = .ok (.iload_n 2, 1) := by decide +kernel
theorem dX6_bestReply_102 : decode cX6_bestReply 102 = .ok (.ifCond .eq 10, 3) := by decide +kernel
theorem dX6_bestReply_105 : decode cX6_bestReply 105 = .ok (.iload 4, 2) := by decide +kernel
theorem dX6_bestReply_107 : decode cX6_bestReply 107 = .ok (.bipush (-9), 2) := by decide +kernel
theorem dX6_bestReply_109 : decode cX6_bestReply 109 = .ok (.if_icmp .ne 6, 3) := by decide +kernel
theorem dX6_bestReply_112 : decode cX6_bestReply 112 = .ok (.iload 4, 2) := by decide +kernel
theorem dX6_bestReply_114 : decode cX6_bestReply 114 = .ok (.ireturn, 1) := by decide +kernel
theorem dX6_bestReply_115 : decode cX6_bestReply 115 = .ok (.aload_n 0, 1) := by decide +kernel
theorem dX6_bestReply_116 : decode cX6_bestReply 116 = .ok (.getfield 35, 3) := by decide +kernel
theorem dX6_bestReply_119 : decode cX6_bestReply 119 = .ok (.iload_n 1, 1) := by decide +kernel
theorem dX6_bestReply_120 : decode cX6_bestReply 120 = .ok (.aload_n 0, 1) := by decide +kernel
theorem dX6_bestReply_121 : decode cX6_bestReply 121 = .ok (.getfield 28, 3) := by decide +kernel
theorem dX6_bestReply_124 : decode cX6_bestReply 124 = .ok (.iload 4, 2) := by decide +kernel
theorem dX6_bestReply_126 : decode cX6_bestReply 126 = .ok (.invokevirtual 122, 3) := by decide +kernel
theorem dX6_bestReply_129 : decode cX6_bestReply 129 = .ok (.invokevirtual 172, 3) := by decide +kernel
theorem dX6_bestReply_132 : decode cX6_bestReply 132 = .ok (.ireturn, 1) := by decide +kernel
theorem dX6_isBetterReply_0 : decode cX6_isBetterReply 0 = .ok (.aload_n 0, 1) := by decide +kernel
theorem dX6_isBetterReply_1 : decode cX6_isBetterReply 1 = .ok (.getfield 28, 3) := by decide +kernel
theorem dX6_isBetterReply_4 : decode cX6_isBetterReply 4 = .ok (.iload_n 2, 1) := by decide +kernel
theorem dX6_isBetterReply_5 : decode cX6_isBetterReply 5 = .ok (.invokevirtual 122, 3) := by decide +kernel
theorem dX6_isBetterReply_8 : decode cX6_isBetterReply 8 = .ok (.istore 4, 2) := by decide +kernel
theorem dX6_isBetterReply_10 : decode cX6_isBetterReply 10 = .ok (.aload_n 0, 1) := by decide +kernel
theorem dX6_isBetterReply_11 : decode cX6_isBetterReply 11 = .ok (.getfield 28, 3) := by decide +kernel
theorem dX6_isBetterReply_14 : decode cX6_isBetterReply 14 = .ok (.iload_n 3, 1) := by decide +kernel
theorem dX6_isBetterReply_15 : decode cX6_isBetterReply 15 = .ok (.invokevirtual 122, 3) := by decide +kernel
theorem dX6_isBetterReply_18 : decode cX6_isBetterReply 18 = .ok (.istore 5, 2) := by decide +kernel
theorem dX6_isBetterReply_20 : decode cX6_isBetterReply 20 = .ok (.aload_n 0, 1) := by decide +kernel
theorem dX6_isBetterReply_21 : decode cX6_isBetterReply 21 = .ok (.getfield 35, 3) := by decide +kernel
theorem dX6_isBetterReply_24 : decode cX6_isBetterReply 24 = .ok (.iload_n 1, 1) := by decide +kernel
theorem dX6_isBetterReply_25 : decode cX6_isBetterReply 25 = .ok (.iload 4, 2) := by decide +kernel
theorem dX6_isBetterReply_27 : decode cX6_isBetterReply 27 = .ok (.invokevirtual 172, 3) := by decide +kernel
theorem dX6_isBetterReply_30 : decode cX6_isBetterReply 30 = .ok (.istore 6, 2) := by decide +kernel
theorem dX6_isBetterReply_32 : decode cX6_isBetterReply 32 = .ok (.aload_n 0, 1) := by decide +kernel
theorem dX6_isBetterReply_33 : decode cX6_isBetterReply 33 = .ok (.getfield 35, 3) := by decide +kernel
theorem dX6_isBetterReply_36 : decode cX6_isBetterReply 36 = .ok (.iload_n 1, 1) := by decide +kernel
theorem dX6_isBetterReply_37 : decode cX6_isBetterReply 37 = .ok (.iload 5, 2) := by decide +kernel
theorem dX6_isBetterReply_39 : decode cX6_isBetterReply 39 = .ok (.invokevirtual 172, 3) := by decide +kernel
theorem dX6_isBetterReply_42 : decode cX6_isBetterReply 42 = .ok (.istore 7, 2) := by decide +kernel
theorem dX6_isBetterReply_44 : decode cX6_isBetterReply 44 = .ok (.iload 6, 2) := by decide +kernel
theorem dX6_isBetterReply_46 : decode cX6_isBetterReply 46 = .ok (.iload 7, 2) := by decide +kernel
theorem dX6_isBetterReply_48 : decode cX6_isBetterReply 48 = .ok (.if_icmp .lt 17, 3) := by decide +kernel
theorem dX6_isBetterReply_51 : decode cX6_isBetterReply 51 = .ok (.iload 6, 2) := by decide +kernel
theorem dX6_isBetterReply_53 : decode cX6_isBetterReply 53 = .ok (.iload 7, 2) := by decide +kernel
theorem dX6_isBetterReply_55 : decode cX6_isBetterReply 55 = .ok (.if_icmp .ne 14, 3) := by decide +kernel
theorem dX6_isBetterReply_58 : decode cX6_isBetterReply 58 = .ok (.iload 4, 2) := by decide +kernel
theorem dX6_isBetterReply_60 : decode cX6_isBetterReply 60 = .ok (.iload 5, 2) := by decide +kernel
theorem dX6_isBetterReply_62 : decode cX6_isBetterReply 62 = .ok (.if_icmp .ge 7, 3) := by decide +kernel
theorem dX6_isBetterReply_65 : decode cX6_isBetterReply 65 = .ok (.iconst 1, 1) := by decide +kernel
theorem dX6_isBetterReply_66 : decode cX6_isBetterReply 66 = .ok (.goto 4, 3) := by decide +kernel
theorem dX6_isBetterReply_69 : decode cX6_isBetterReply 69 = .ok (.iconst 0, 1) := by decide +kernel
theorem dX6_isBetterReply_70 : decode cX6_isBetterReply 70 = .ok (.ireturn, 1) := by decide +kernel
theorem dX6_canHaveTold_0 : decode cX6_canHaveTold 0 = .ok (.aload_n 0, 1) := by decide +kernel
theorem dX6_canHaveTold_1 : decode cX6_canHaveTold 1 = .ok (.getfield 28, 3) := by decide +kernel
theorem dX6_canHaveTold_4 : decode cX6_canHaveTold 4 = .ok (.iload_n 1, 1) := by decide +kernel
theorem dX6_canHaveTold_5 : decode cX6_canHaveTold 5 = .ok (.aload_n 0, 1) := by decide +kernel
theorem dX6_canHaveTold_6 : decode cX6_canHaveTold 6 = .ok (.getfield 35, 3) := by decide +kernel
theorem dX6_canHaveTold_9 : decode cX6_canHaveTold 9 = .ok (.invokevirtual 269, 3) := by decide +kernel
theorem dX6_canHaveTold_12 : decode cX6_canHaveTold 12 = .ok (.iconst 0, 1) := by decide +kernel
theorem dX6_canHaveTold_13 : decode cX6_canHaveTold 13 = .ok (.istore_n 3, 1) := by decide +kernel
theorem dX6_canHaveTold_14 : decode cX6_canHaveTold 14 = .ok (.iconst 0, 1) := by decide +kernel
theorem dX6_canHaveTold_15 : decode cX6_canHaveTold 15 = .ok (.istore 4, 2) := by decide +kernel
theorem dX6_canHaveTold_17 : decode cX6_canHaveTold 17 = .ok (.iload 4, 2) := by decide +kernel
theorem dX6_canHaveTold_19 : decode cX6_canHaveTold 19 = .ok (.aload_n 0, 1) := by decide +kernel
theorem dX6_canHaveTold_20 : decode cX6_canHaveTold 20 = .ok (.getfield 28, 3) := by decide +kernel
theorem dX6_canHaveTold_23 : decode cX6_canHaveTold 23 = .ok (.getfield 98, 3) := by decide +kernel
theorem dX6_canHaveTold_26 : decode cX6_canHaveTold 26 = .ok (.if_icmp .ge 75, 3) := by decide +kernel
theorem dX6_canHaveTold_29 : decode cX6_canHaveTold 29 = .ok (.aload_n 0, 1) := by decide +kernel
theorem dX6_canHaveTold_30 : decode cX6_canHaveTold 30 = .ok (.getfield 28, 3) := by decide +kernel
theorem dX6_canHaveTold_33 : decode cX6_canHaveTold 33 = .ok (.getfield 107, 3) := by decide +kernel
theorem dX6_canHaveTold_36 : decode cX6_canHaveTold 36 = .ok (.iload 4, 2) := by decide +kernel
theorem dX6_canHaveTold_38 : decode cX6_canHaveTold 38 = .ok (.iaload, 1) := by decide +kernel
theorem dX6_canHaveTold_39 : decode cX6_canHaveTold 39 = .ok (.iload_n 2, 1) := by decide +kernel
theorem dX6_canHaveTold_40 : decode cX6_canHaveTold 40 = .ok (.if_icmp .eq 6, 3) := by decide +kernel
theorem dX6_canHaveTold_43 : decode cX6_canHaveTold 43 = .ok (.goto 52, 3) := by decide +kernel
theorem dX6_canHaveTold_46 : decode cX6_canHaveTold 46 = .ok (.aload_n 0, 1) := by decide +kernel
theorem dX6_canHaveTold_47 : decode cX6_canHaveTold 47 = .ok (.getfield 35, 3) := by decide +kernel
theorem dX6_canHaveTold_50 : decode cX6_canHaveTold 50 = .ok (.getfield 169, 3) := by decide +kernel
theorem dX6_canHaveTold_53 : decode cX6_canHaveTold 53 = .ok (.iload_n 2, 1) := by decide +kernel
theorem dX6_canHaveTold_54 : decode cX6_canHaveTold 54 = .ok (.aload_n 0, 1) := by decide +kernel
theorem dX6_canHaveTold_55 : decode cX6_canHaveTold 55 = .ok (.getfield 28, 3) := by decide +kernel
theorem dX6_canHaveTold_58 : decode cX6_canHaveTold 58 = .ok (.iload 4, 2) := by decide +kernel
theorem dX6_canHaveTold_60 : decode cX6_canHaveTold 60 = .ok (.aload_n 0, 1) := by decide +kernel
theorem dX6_canHaveTold_61 : decode cX6_canHaveTold 61 = .ok (.getfield 28, 3) := by decide +kernel
theorem dX6_canHaveTold_64 : decode cX6_canHaveTold 64 = .ok (.iload 4, 2) := by decide +kernel
theorem dX6_canHaveTold_66 : decode cX6_canHaveTold 66 = .ok (.iload_n 1, 1) := by decide +kernel
theorem dX6_canHaveTold_67 : decode cX6_canHaveTold 67 = .ok (.invokevirtual 273, 3) := by decide +kernel
theorem dX6_canHaveTold_70 : decode cX6_canHaveTold 70 = .ok (.invokevirtual 276, 3) := by decide +kernel
theorem dX6_canHaveTold_73 : decode cX6_canHaveTold 73 = .ok (.iastore, 1) := by decide +kernel
theorem dX6_canHaveTold_74 : decode cX6_canHaveTold 74 = .ok (.aload_n 0, 1) := by decide +kernel
theorem dX6_canHaveTold_75 : decode cX6_canHaveTold 75 = .ok (.getfield 35, 3) := by decide +kernel
theorem dX6_canHaveTold_78 : decode cX6_canHaveTold 78 = .ok (.aload_n 0, 1) := by decide +kernel
theorem dX6_canHaveTold_79 : decode cX6_canHaveTold 79 = .ok (.getfield 57, 3) := by decide +kernel
theorem dX6_canHaveTold_82 : decode cX6_canHaveTold 82 = .ok (.invokevirtual 279, 3) := by decide +kernel
theorem dX6_canHaveTold_85 : decode cX6_canHaveTold 85 = .ok (.ifCond .eq 10, 3) := by decide +kernel
theorem dX6_canHaveTold_88 : decode cX6_canHaveTold 88 = .ok (.iload_n 3, 1) := by decide +kernel
theorem dX6_canHaveTold_89 : decode cX6_canHaveTold 89 = .ok (.iconst 1, 1) := by decide +kernel
theorem dX6_canHaveTold_90 : decode cX6_canHaveTold 90 = .ok (.iload 4, 2) := by decide +kernel
theorem dX6_canHaveTold_92 : decode cX6_canHaveTold 92 = .ok (.ishl, 1) := by decide +kernel
theorem dX6_canHaveTold_93 : decode cX6_canHaveTold 93 = .ok (.ior, 1) := by decide +kernel
theorem dX6_canHaveTold_94 : decode cX6_canHaveTold 94 = .ok (.istore_n 3, 1) := by decide +kernel
theorem dX6_canHaveTold_95 : decode cX6_canHaveTold 95 = .ok (.iinc 4 1, 3) := by decide +kernel
theorem dX6_canHaveTold_98 : decode cX6_canHaveTold 98 = .ok (.goto (-81), 3) := by decide +kernel
theorem dX6_canHaveTold_101 : decode cX6_canHaveTold 101 = .ok (.aload_n 0, 1) := by decide +kernel
theorem dX6_canHaveTold_102 : decode cX6_canHaveTold 102 = .ok (.getfield 35, 3) := by decide +kernel
theorem dX6_canHaveTold_105 : decode cX6_canHaveTold 105 = .ok (.getfield 169, 3) := by decide +kernel
theorem dX6_canHaveTold_108 : decode cX6_canHaveTold 108 = .ok (.iload_n 2, 1) := by decide +kernel
theorem dX6_canHaveTold_109 : decode cX6_canHaveTold 109 = .ok (.iconst 0, 1) := by decide +kernel
theorem dX6_canHaveTold_110 : decode cX6_canHaveTold 110 = .ok (.iastore, 1) := by decide +kernel
theorem dX6_canHaveTold_111 : decode cX6_canHaveTold 111 = .ok (.aload_n 0, 1) := by decide +kernel
theorem dX6_canHaveTold_112 : decode cX6_canHaveTold 112 = .ok (.getfield 35, 3) := by decide +kernel
theorem dX6_canHaveTold_115 : decode cX6_canHaveTold 115 = .ok (.aload_n 0, 1) := by decide +kernel
theorem dX6_canHaveTold_116 : decode cX6_canHaveTold 116 = .ok (.getfield 57, 3) := by decide +kernel
theorem dX6_canHaveTold_119 : decode cX6_canHaveTold 119 = .ok (.invokevirtual 279, 3) := by decide +kernel
theorem dX6_canHaveTold_122 : decode cX6_canHaveTold 122 = .ok (.ifCond .eq 9, 3) := by decide +kernel
theorem dX6_canHaveTold_125 : decode cX6_canHaveTold 125 = .ok (.iload_n 3, 1) := by decide +kernel
theorem dX6_canHaveTold_126 : decode cX6_canHaveTold 126 = .ok (.sipush 1024, 3) := by decide +kernel
theorem dX6_canHaveTold_129 : decode cX6_canHaveTold 129 = .ok (.ior, 1) := by decide +kernel
theorem dX6_canHaveTold_130 : decode cX6_canHaveTold 130 = .ok (.istore_n 3, 1) := by decide +kernel
theorem dX6_canHaveTold_131 : decode cX6_canHaveTold 131 = .ok (.iload_n 3, 1) := by decide +kernel
theorem dX6_canHaveTold_132 : decode cX6_canHaveTold 132 = .ok (.ireturn, 1) := by decide +kernel
theorem dX6_leaveTrace_0 : decode cX6_leaveTrace 0 = .ok (.aload_n 0, 1) := by decide +kernel
theorem dX6_leaveTrace_1 : decode cX6_leaveTrace 1 = .ok (.bipush 31, 2) := by decide +kernel
theorem dX6_leaveTrace_3 : decode cX6_leaveTrace 3 = .ok (.aload_n 0, 1) := by decide +kernel
theorem dX6_leaveTrace_4 : decode cX6_leaveTrace 4 = .ok (.getfield 259, 3) := by decide +kernel
theorem dX6_leaveTrace_7 : decode cX6_leaveTrace 7 = .ok (.imul, 1) := by decide +kernel
theorem dX6_leaveTrace_8 : decode cX6_leaveTrace 8 = .ok (.iload_n 1, 1) := by decide +kernel
theorem dX6_leaveTrace_9 : decode cX6_leaveTrace 9 = .ok (.iadd, 1) := by decide +kernel
theorem dX6_leaveTrace_10 : decode cX6_leaveTrace 10 = .ok (.putfield 259, 3) := by decide +kernel
theorem dX6_leaveTrace_13 : decode cX6_leaveTrace 13 = .ok (.return_, 1) := by decide +kernel
theorem dX6_tellAsTale_0 : decode cX6_tellAsTale 0 = .ok (.aload_n 0, 1) := by decide +kernel
theorem dX6_tellAsTale_1 : decode cX6_tellAsTale 1 = .ok (.iconst 1, 1) := by decide +kernel
theorem dX6_tellAsTale_2 : decode cX6_tellAsTale 2 = .ok (.invokevirtual 256, 3) := by decide +kernel
theorem dX6_tellAsTale_5 : decode cX6_tellAsTale 5 = .ok (.aload_n 0, 1) := by decide +kernel
theorem dX6_tellAsTale_6 : decode cX6_tellAsTale 6 = .ok (.getfield 28, 3) := by decide +kernel
theorem dX6_tellAsTale_9 : decode cX6_tellAsTale 9 = .ok (.getfield 110, 3) := by decide +kernel
theorem dX6_tellAsTale_12 : decode cX6_tellAsTale 12 = .ok (.iload_n 1, 1) := by decide +kernel
theorem dX6_tellAsTale_13 : decode cX6_tellAsTale 13 = .ok (.iaload, 1) := by decide +kernel
theorem dX6_tellAsTale_14 : decode cX6_tellAsTale 14 = .ok (.ireturn, 1) := by decide +kernel
theorem dX6_tellAsGrown_0 : decode cX6_tellAsGrown 0 = .ok (.aload_n 0, 1) := by decide +kernel
theorem dX6_tellAsGrown_1 : decode cX6_tellAsGrown 1 = .ok (.iconst 2, 1) := by decide +kernel
theorem dX6_tellAsGrown_2 : decode cX6_tellAsGrown 2 = .ok (.invokevirtual 256, 3) := by decide +kernel
theorem dX6_tellAsGrown_5 : decode cX6_tellAsGrown 5 = .ok (.aload_n 0, 1) := by decide +kernel
theorem dX6_tellAsGrown_6 : decode cX6_tellAsGrown 6 = .ok (.iload_n 1, 1) := by decide +kernel
theorem dX6_tellAsGrown_7 : decode cX6_tellAsGrown 7 = .ok (.invokevirtual 253, 3) := by decide +kernel
theorem dX6_tellAsGrown_10 : decode cX6_tellAsGrown 10 = .ok (.bipush 100, 2) := by decide +kernel
theorem dX6_tellAsGrown_12 : decode cX6_tellAsGrown 12 = .ok (.iadd, 1) := by decide +kernel
theorem dX6_tellAsGrown_13 : decode cX6_tellAsGrown 13 = .ok (.ireturn, 1) := by decide +kernel
theorem dX6_tellAsTrue_0 : decode cX6_tellAsTrue 0 = .ok (.aload_n 0, 1) := by decide +kernel
theorem dX6_tellAsTrue_1 : decode cX6_tellAsTrue 1 = .ok (.iconst 3, 1) := by decide +kernel
theorem dX6_tellAsTrue_2 : decode cX6_tellAsTrue 2 = .ok (.invokevirtual 256, 3) := by decide +kernel
theorem dX6_tellAsTrue_5 : decode cX6_tellAsTrue 5 = .ok (.aload_n 0, 1) := by decide +kernel
theorem dX6_tellAsTrue_6 : decode cX6_tellAsTrue 6 = .ok (.iload_n 1, 1) := by decide +kernel
theorem dX6_tellAsTrue_7 : decode cX6_tellAsTrue 7 = .ok (.invokevirtual 247, 3) := by decide +kernel
theorem dX6_tellAsTrue_10 : decode cX6_tellAsTrue 10 = .ok (.istore_n 2, 1) := by decide +kernel
theorem dX6_tellAsTrue_11 : decode cX6_tellAsTrue 11 = .ok (.iload_n 2, 1) := by decide +kernel
theorem dX6_tellAsTrue_12 : decode cX6_tellAsTrue 12 = .ok (.aload_n 0, 1) := by decide +kernel
theorem dX6_tellAsTrue_13 : decode cX6_tellAsTrue 13 = .ok (.iload_n 1, 1) := by decide +kernel
theorem dX6_tellAsTrue_14 : decode cX6_tellAsTrue 14 = .ok (.invokevirtual 253, 3) := by decide +kernel
theorem dX6_tellAsTrue_17 : decode cX6_tellAsTrue 17 = .ok (.iadd, 1) := by decide +kernel
theorem dX6_tellAsTrue_18 : decode cX6_tellAsTrue 18 = .ok (.ireturn, 1) := by decide +kernel
end
section
/-! ===== rows for System.arraycopy and Arrays.fill by the arrays that they are used with (by program: wip/gen/dec.py) ===== -/
theorem k_cT_8_7 {Rt : Type} {X : k_C} {Y : k_Y} {q : Nat → Nat} {kc ks : Nat} {Q : Rt → k_S → State → Prop} {pc : Nat} {L : List (Option Value)} {σ : k_S} {index : Nat} {sp dp n : Int32} (hw : Cond.methodLink Y.2.2.2.1 index arraycopyName ∈ k_ws) (hR : 1 ≤ Y.1.frames ∧ 48 ≤ Y.1.locals) (hd : decode Y.2.1 pc = .ok (.invokestatic index, 3)) {kf : k_S → Option (Rt × k_S)} (kk : ∀ σ' : k_S, KO X Y (cT (k_I X) q) kc ks Q (pc + 3) L [] σ' (kf σ')) : KO X Y (cT (k_I X) q) kc ks Q pc L [.int n, .int dp, .ref (q 7), .int sp, .ref (q 8)] σ (k_gc sp dp n 240 5 (k_bn (k_sc σ 1 0 sp dp n) kf)) := k_copy 8 7 rfl rfl rfl hw ⟨hR.1, Nat.le_trans (by decide) hR.2⟩ hd kk
theorem k_cT_8_8 {Rt : Type} {X : k_C} {Y : k_Y} {q : Nat → Nat} {kc ks : Nat} {Q : Rt → k_S → State → Prop} {pc : Nat} {L : List (Option Value)} {σ : k_S} {index : Nat} {sp dp n : Int32} (hw : Cond.methodLink Y.2.2.2.1 index arraycopyName ∈ k_ws) (hR : 1 ≤ Y.1.frames ∧ 48 ≤ Y.1.locals) (hd : decode Y.2.1 pc = .ok (.invokestatic index, 3)) {kf : k_S → Option (Rt × k_S)} (kk : ∀ σ' : k_S, KO X Y (cT (k_I X) q) kc ks Q (pc + 3) L [] σ' (kf σ')) : KO X Y (cT (k_I X) q) kc ks Q pc L [.int n, .int dp, .ref (q 8), .int sp, .ref (q 8)] σ (k_gc sp dp n 240 240 (k_bn (k_sc σ 1 1 sp dp n) kf)) := k_copy 8 8 rfl rfl rfl hw ⟨hR.1, Nat.le_trans (by decide) hR.2⟩ hd kk
theorem k_cT_8_11 {Rt : Type} {X : k_C} {Y : k_Y} {q : Nat → Nat} {kc ks : Nat} {Q : Rt → k_S → State → Prop} {pc : Nat} {L : List (Option Value)} {σ : k_S} {index : Nat} {sp dp n : Int32} (hw : Cond.methodLink Y.2.2.2.1 index arraycopyName ∈ k_ws) (hR : 1 ≤ Y.1.frames ∧ 48 ≤ Y.1.locals) (hd : decode Y.2.1 pc = .ok (.invokestatic index, 3)) {kf : k_S → Option (Rt × k_S)} (kk : ∀ σ' : k_S, KO X Y (cT (k_I X) q) kc ks Q (pc + 3) L [] σ' (kf σ')) : KO X Y (cT (k_I X) q) kc ks Q pc L [.int n, .int dp, .ref (q 11), .int sp, .ref (q 8)] σ (k_gc sp dp n 240 60 (k_bn (k_sc σ 1 4 sp dp n) kf)) := k_copy 8 11 rfl rfl rfl hw ⟨hR.1, Nat.le_trans (by decide) hR.2⟩ hd kk
theorem k_cT_8_24 {Rt : Type} {X : k_C} {Y : k_Y} {q : Nat → Nat} {kc ks : Nat} {Q : Rt → k_S → State → Prop} {pc : Nat} {L : List (Option Value)} {σ : k_S} {index : Nat} {sp dp n : Int32} (hw : Cond.methodLink Y.2.2.2.1 index arraycopyName ∈ k_ws) (hR : 1 ≤ Y.1.frames ∧ 48 ≤ Y.1.locals) (hd : decode Y.2.1 pc = .ok (.invokestatic index, 3)) {kf : k_S → Option (Rt × k_S)} (kk : ∀ σ' : k_S, KO X Y (cT (k_I X) q) kc ks Q (pc + 3) L [] σ' (kf σ')) : KO X Y (cT (k_I X) q) kc ks Q pc L [.int n, .int dp, .ref (q 24), .int sp, .ref (q 8)] σ (k_gc sp dp n 240 6 (k_bn (k_sc σ 1 17 sp dp n) kf)) := k_copy 8 24 rfl rfl rfl hw ⟨hR.1, Nat.le_trans (by decide) hR.2⟩ hd kk
theorem k_cT_15_26 {Rt : Type} {X : k_C} {Y : k_Y} {q : Nat → Nat} {kc ks : Nat} {Q : Rt → k_S → State → Prop} {pc : Nat} {L : List (Option Value)} {σ : k_S} {index : Nat} {sp dp n : Int32} (hw : Cond.methodLink Y.2.2.2.1 index arraycopyName ∈ k_ws) (hR : 1 ≤ Y.1.frames ∧ 48 ≤ Y.1.locals) (hd : decode Y.2.1 pc = .ok (.invokestatic index, 3)) {kf : k_S → Option (Rt × k_S)} (kk : ∀ σ' : k_S, KO X Y (cT (k_I X) q) kc ks Q (pc + 3) L [] σ' (kf σ')) : KO X Y (cT (k_I X) q) kc ks Q pc L [.int n, .int dp, .ref (q 26), .int sp, .ref (q 15)] σ (k_gc sp dp n 10 10 (k_bn (k_sc σ 8 19 sp dp n) kf)) := k_copy 15 26 rfl rfl rfl hw ⟨hR.1, Nat.le_trans (by decide) hR.2⟩ hd kk
theorem k_cT_16_27 {Rt : Type} {X : k_C} {Y : k_Y} {q : Nat → Nat} {kc ks : Nat} {Q : Rt → k_S → State → Prop} {pc : Nat} {L : List (Option Value)} {σ : k_S} {index : Nat} {sp dp n : Int32} (hw : Cond.methodLink Y.2.2.2.1 index arraycopyName ∈ k_ws) (hR : 1 ≤ Y.1.frames ∧ 48 ≤ Y.1.locals) (hd : decode Y.2.1 pc = .ok (.invokestatic index, 3)) {kf : k_S → Option (Rt × k_S)} (kk : ∀ σ' : k_S, KO X Y (cT (k_I X) q) kc ks Q (pc + 3) L [] σ' (kf σ')) : KO X Y (cT (k_I X) q) kc ks Q pc L [.int n, .int dp, .ref (q 27), .int sp, .ref (q 16)] σ (k_gc sp dp n 10 10 (k_bn (k_sc σ 9 20 sp dp n) kf)) := k_copy 16 27 rfl rfl rfl hw ⟨hR.1, Nat.le_trans (by decide) hR.2⟩ hd kk
theorem k_cT_22_23 {Rt : Type} {X : k_C} {Y : k_Y} {q : Nat → Nat} {kc ks : Nat} {Q : Rt → k_S → State → Prop} {pc : Nat} {L : List (Option Value)} {σ : k_S} {index : Nat} {sp dp n : Int32} (hw : Cond.methodLink Y.2.2.2.1 index arraycopyName ∈ k_ws) (hR : 1 ≤ Y.1.frames ∧ 48 ≤ Y.1.locals) (hd : decode Y.2.1 pc = .ok (.invokestatic index, 3)) {kf : k_S → Option (Rt × k_S)} (kk : ∀ σ' : k_S, KO X Y (cT (k_I X) q) kc ks Q (pc + 3) L [] σ' (kf σ')) : KO X Y (cT (k_I X) q) kc ks Q pc L [.int n, .int dp, .ref (q 23), .int sp, .ref (q 22)] σ (k_gc sp dp n 5 5 (k_bn (k_sc σ 15 16 sp dp n) kf)) := k_copy 22 23 rfl rfl rfl hw ⟨hR.1, Nat.le_trans (by decide) hR.2⟩ hd kk
theorem k_cT_28_29 {Rt : Type} {X : k_C} {Y : k_Y} {q : Nat → Nat} {kc ks : Nat} {Q : Rt → k_S → State → Prop} {pc : Nat} {L : List (Option Value)} {σ : k_S} {index : Nat} {sp dp n : Int32} (hw : Cond.methodLink Y.2.2.2.1 index arraycopyName ∈ k_ws) (hR : 1 ≤ Y.1.frames ∧ 48 ≤ Y.1.locals) (hd : decode Y.2.1 pc = .ok (.invokestatic index, 3)) {kf : k_S → Option (Rt × k_S)} (kk : ∀ σ' : k_S, KO X Y (cT (k_I X) q) kc ks Q (pc + 3) L [] σ' (kf σ')) : KO X Y (cT (k_I X) q) kc ks Q pc L [.int n, .int dp, .ref (q 29), .int sp, .ref (q 28)] σ (k_gc sp dp n 6 6 (k_bn (k_sc σ 21 22 sp dp n) kf)) := k_copy 28 29 rfl rfl rfl hw ⟨hR.1, Nat.le_trans (by decide) hR.2⟩ hd kk
theorem k_fT2_15 {Rt : Type} {X : k_C} {Y : k_Y} {q : Nat → Nat} {Q : Rt → k_S → State → Prop} {pc : Nat} {L : List (Option Value)} {σ : k_S} {index : Nat} {v : Int32} (hw : Cond.methodLink Y.2.2.2.1 index yJ7_fill_53178 ∈ k_ws) (hR : 1 ≤ Y.1.frames ∧ 60 ≤ Y.1.locals) (hd : decode Y.2.1 pc = .ok (.invokestatic index, 3)) {kf : k_S → Option (Rt × k_S)} (kk : ∀ σ' : k_S, KO X Y (cT (k_I X) q) 0 0 Q (pc + 3) L [] σ' (kf σ')) : KO X Y (cT (k_I X) q) 0 0 Q pc L [.int v, .ref (q 15)] σ (k_bn (k_sA σ 8 (k_fl (σ.2 8) 0 10 v)) kf) := k_fill2 (wr := k_sA σ 8) (cT_same _ _) 15 (by decide) rfl (fun _ => rfl) hw hR hd kk
theorem k_fT2_16 {Rt : Type} {X : k_C} {Y : k_Y} {q : Nat → Nat} {Q : Rt → k_S → State → Prop} {pc : Nat} {L : List (Option Value)} {σ : k_S} {index : Nat} {v : Int32} (hw : Cond.methodLink Y.2.2.2.1 index yJ7_fill_53178 ∈ k_ws) (hR : 1 ≤ Y.1.frames ∧ 60 ≤ Y.1.locals) (hd : decode Y.2.1 pc = .ok (.invokestatic index, 3)) {kf : k_S → Option (Rt × k_S)} (kk : ∀ σ' : k_S, KO X Y (cT (k_I X) q) 0 0 Q (pc + 3) L [] σ' (kf σ')) : KO X Y (cT (k_I X) q) 0 0 Q pc L [.int v, .ref (q 16)] σ (k_bn (k_sA σ 9 (k_fl (σ.2 9) 0 10 v)) kf) := k_fill2 (wr := k_sA σ 9) (cT_same _ _) 16 (by decide) rfl (fun _ => rfl) hw hR hd kk
theorem k_fT2_17 {Rt : Type} {X : k_C} {Y : k_Y} {q : Nat → Nat} {Q : Rt → k_S → State → Prop} {pc : Nat} {L : List (Option Value)} {σ : k_S} {index : Nat} {v : Int32} (hw : Cond.methodLink Y.2.2.2.1 index yJ7_fill_53178 ∈ k_ws) (hR : 1 ≤ Y.1.frames ∧ 60 ≤ Y.1.locals) (hd : decode Y.2.1 pc = .ok (.invokestatic index, 3)) {kf : k_S → Option (Rt × k_S)} (kk : ∀ σ' : k_S, KO X Y (cT (k_I X) q) 0 0 Q (pc + 3) L [] σ' (kf σ')) : KO X Y (cT (k_I X) q) 0 0 Q pc L [.int v, .ref (q 17)] σ (k_bn (k_sA σ 10 (k_fl (σ.2 10) 0 5 v)) kf) := k_fill2 (wr := k_sA σ 10) (cT_same _ _) 17 (by decide) rfl (fun _ => rfl) hw hR hd kk
theorem k_fT4_8 {Rt : Type} {X : k_C} {Y : k_Y} {q : Nat → Nat} {Q : Rt → k_S → State → Prop} {pc : Nat} {L : List (Option Value)} {σ : k_S} {index : Nat} {lo hi v : Int32} (hw : Cond.methodLink Y.2.2.2.1 index yJ7_fill_fda19 ∈ k_ws) (hR : 2 ≤ Y.1.frames ∧ 90 ≤ Y.1.locals) (hd : decode Y.2.1 pc = .ok (.invokestatic index, 3)) {kf : k_S → Option (Rt × k_S)} (kk : ∀ σ' : k_S, KO X Y (cT (k_I X) q) 0 0 Q (pc + 3) L [] σ' (kf σ')) : KO X Y (cT (k_I X) q) 0 0 Q pc L [.int v, .int hi, .int lo, .ref (q 8)] σ (k_gf lo hi 240 (k_bn (k_sA σ 1 (k_fl (σ.2 1) lo.toNatClampNeg hi.toNatClampNeg v)) kf)) := k_fill4 (wr := k_sA σ 1) (cT_same _ _) 8 (by decide) rfl (fun _ => rfl) hw hR hd kk
end
section
/-! ===== T: methods as pure functions, and that the bytecode answers so (by program: wip/gen/dec.py) ===== -/
-- TallTales.isSheet(I)Z
theorem ckX6_isSheet : k_Sok yX6_isSheet cX6_isSheet 1 (some .boolean) 1 := ⟨kwk_X6_isSheet, kws_X6_isSheet, kwn_X6, by decide, by decide +kernel⟩
abbrev rmX6_isSheet : Room := { frames := 0, cells := 0, slots := 0, locals := 0 }
abbrev YX6_isSheet : k_Y := (rmX6_isSheet, cX6_isSheet, 1, RX6, (some .boolean))
noncomputable def fX6_isSheet (σ : k_S) (x0 : Int32) : Option (Int32 × k_S) := (if x0 < 0 then k_z (0) (some (0, σ)) else (if x0 < 4 then k_z (1) (some (1, σ)) else k_z (0) (some (0, σ))))
set_option maxRecDepth 100000 in
set_option maxHeartbeats 4000000 in
theorem kX6_isSheet {D : va_G} {cI : ClassId} {q : Nat → Nat} {σ : k_S} {x0 : Int32} {r : Int32} {τ : k_S} (h : fX6_isSheet σ x0 = some (r, τ)) : k_Ct k_ei yX6_isSheet cX6_isSheet 1 (some .boolean) rmX6_isSheet (cT cI q) D cI [.int x0] σ r τ := by
  refine k_met (Y := YX6_isSheet) (cT_same _ _) (by decide) rfl (Nat.le_of_ble_eq_true rfl) (List.forall_mem_cons.mpr ⟨rfl, fun _ h => absurd h List.not_mem_nil⟩) (fun X hD hI => ?_) h
  subst hD hI
  show KO X YX6_isSheet (cT (k_I X) q) 0 0 (k_Q k_ei X (cT (k_I X) q)) 0 [some (.int x0)] [] σ _
  unfold fX6_isSheet
  refine k_iload_n (pc := 0) dX6_isSheet_0 rfl ?_
  refine k_if_lt (pc := 1) 13 dX6_isSheet_1 (by decide) ?_ ?_
  · refine k_iconst (pc := 13) (v := 0) dX6_isSheet_13 (by decide) ?_
    exact k_zreturn (pc := 14) rfl dX6_isSheet_14
  · refine k_iload_n (pc := 4) dX6_isSheet_4 rfl ?_
    refine k_iconst (pc := 5) (v := 4) dX6_isSheet_5 (by decide) ?_
    refine k_icmp_ge (pc := 6) 13 dX6_isSheet_6 (by decide) ?_ ?_
    · refine k_iconst (pc := 13) (v := 0) dX6_isSheet_13 (by decide) ?_
      exact k_zreturn (pc := 14) rfl dX6_isSheet_14
    · refine k_iconst (pc := 9) (v := 1) dX6_isSheet_9 (by decide) ?_
      refine k_goto (pc := 10) 14 dX6_isSheet_10 (by decide) ?_
      exact k_zreturn (pc := 14) rfl dX6_isSheet_14
-- TallTales.isSort(I)Z
theorem ckX6_isSort : k_Sok yX6_isSort cX6_isSort 1 (some .boolean) 1 := ⟨kwk_X6_isSort, kws_X6_isSort, kwn_X6, by decide, by decide +kernel⟩
abbrev rmX6_isSort : Room := { frames := 0, cells := 0, slots := 0, locals := 0 }
abbrev YX6_isSort : k_Y := (rmX6_isSort, cX6_isSort, 1, RX6, (some .boolean))
noncomputable def fX6_isSort (σ : k_S) (x0 : Int32) : Option (Int32 × k_S) := (if x0 < 0 then k_z (0) (some (0, σ)) else (if 2 < x0 then k_z (0) (some (0, σ)) else k_z (1) (some (1, σ))))
set_option maxRecDepth 100000 in
set_option maxHeartbeats 4000000 in
theorem kX6_isSort {D : va_G} {cI : ClassId} {q : Nat → Nat} {σ : k_S} {x0 : Int32} {r : Int32} {τ : k_S} (h : fX6_isSort σ x0 = some (r, τ)) : k_Ct k_ei yX6_isSort cX6_isSort 1 (some .boolean) rmX6_isSort (cT cI q) D cI [.int x0] σ r τ := by
  refine k_met (Y := YX6_isSort) (cT_same _ _) (by decide) rfl (Nat.le_of_ble_eq_true rfl) (List.forall_mem_cons.mpr ⟨rfl, fun _ h => absurd h List.not_mem_nil⟩) (fun X hD hI => ?_) h
  subst hD hI
  show KO X YX6_isSort (cT (k_I X) q) 0 0 (k_Q k_ei X (cT (k_I X) q)) 0 [some (.int x0)] [] σ _
  unfold fX6_isSort
  refine k_iload_n (pc := 0) dX6_isSort_0 rfl ?_
  refine k_if_lt (pc := 1) 13 dX6_isSort_1 (by decide) ?_ ?_
  · refine k_iconst (pc := 13) (v := 0) dX6_isSort_13 (by decide) ?_
    exact k_zreturn (pc := 14) rfl dX6_isSort_14
  · refine k_iload_n (pc := 4) dX6_isSort_4 rfl ?_
    refine k_iconst (pc := 5) (v := 2) dX6_isSort_5 (by decide) ?_
    refine k_icmp_gt (pc := 6) 13 dX6_isSort_6 (by decide) ?_ ?_
    · refine k_iconst (pc := 13) (v := 0) dX6_isSort_13 (by decide) ?_
      exact k_zreturn (pc := 14) rfl dX6_isSort_14
    · refine k_iconst (pc := 9) (v := 1) dX6_isSort_9 (by decide) ?_
      refine k_goto (pc := 10) 14 dX6_isSort_10 (by decide) ?_
      exact k_zreturn (pc := 14) rfl dX6_isSort_14
-- TallTales$Sheets.hasRow(I)Z
theorem ckX2_hasRow : k_Vok yX2_hasRow cX2_hasRow 2 (some .boolean) 1 := ⟨kwk_X2_hasRow, kwi_X2_hasRow, kwv_X2_hasRow, kwn_X2, by decide, by decide +kernel⟩
abbrev rmX2_hasRow : Room := { frames := 0, cells := 0, slots := 0, locals := 0 }
abbrev YX2_hasRow : k_Y := (rmX2_hasRow, cX2_hasRow, 2, RX2, (some .boolean))
noncomputable def fX2_hasRow (σ : k_S) (x1 : Int32) : Option (Int32 × k_S) := k_gd (x1) 4 ((if σ.2 3 (Int32.toNatClampNeg (x1)) = (-9) then k_z (0) (some (0, σ)) else k_z (1) (some (1, σ))))
set_option maxRecDepth 100000 in
set_option maxHeartbeats 4000000 in
theorem kX2_hasRow {D : va_G} {cI : ClassId} {q : Nat → Nat} {σ : k_S} {x1 : Int32} {r : Int32} {τ : k_S} (h : fX2_hasRow σ x1 = some (r, τ)) : k_Ct k_ei yX2_hasRow cX2_hasRow 2 (some .boolean) rmX2_hasRow (cT cI q) D cI [.ref (q 1), .int x1] σ r τ := by
  refine k_met (Y := YX2_hasRow) (cT_same _ _) (by decide) rfl (Nat.le_of_ble_eq_true rfl) (List.forall_mem_cons.mpr ⟨rfl, List.forall_mem_cons.mpr ⟨rfl, fun _ h => absurd h List.not_mem_nil⟩⟩) (fun X hD hI => ?_) h
  subst hD hI
  show KO X YX2_hasRow (cT (k_I X) q) 0 0 (k_Q k_ei X (cT (k_I X) q)) 0 [some (.ref (q 1)), some (.int x1)] [] σ _
  unfold fX2_hasRow
  refine k_aload_n (pc := 0) dX2_hasRow_0 rfl ?_
  refine k_gTX2_lengths (pc := 1) kwf_X2_18 rfl dX2_hasRow_1 ?_
  refine k_iload_n (pc := 4) dX2_hasRow_4 rfl ?_
  refine k_lT10 (pc := 5) dX2_hasRow_5 ?_
  refine k_bipush (pc := 6) (v := (-9)) dX2_hasRow_6 (by decide) ?_
  refine k_icmp_eq (pc := 8) 15 dX2_hasRow_8 (by decide) ?_ ?_
  · refine k_iconst (pc := 15) (v := 0) dX2_hasRow_15 (by decide) ?_
    exact k_zreturn (pc := 16) rfl dX2_hasRow_16
  · refine k_iconst (pc := 11) (v := 1) dX2_hasRow_11 (by decide) ?_
    refine k_goto (pc := 12) 16 dX2_hasRow_12 (by decide) ?_
    exact k_zreturn (pc := 16) rfl dX2_hasRow_16
-- TallTales$Sheets.hasCells(III)Z
theorem ckX2_hasCells : k_Vok yX2_hasCells cX2_hasCells 4 (some .boolean) 3 := ⟨kwk_X2_hasCells, kwi_X2_hasCells, kwv_X2_hasCells, kwn_X2, by decide, by decide +kernel⟩
abbrev rmX2_hasCells : Room := { frames := 0, cells := 0, slots := 0, locals := 0 }
abbrev YX2_hasCells : k_Y := (rmX2_hasCells, cX2_hasCells, 4, RX2, (some .boolean))
noncomputable def fX2_hasCells (σ : k_S) (x1 x2 x3 : Int32) : Option (Int32 × k_S) := (if x2 < 0 then k_z (0) (some (0, σ)) else (if x3 < 0 then k_z (0) (some (0, σ)) else k_gd (x1) 4 ((if σ.2 3 (Int32.toNatClampNeg (x1)) < x3 then k_z (0) (some (0, σ)) else k_gd (x1) 4 ((if (σ.2 3 (Int32.toNatClampNeg (x1)) - x3) < x2 then k_z (0) (some (0, σ)) else k_z (1) (some (1, σ))))))))
set_option maxRecDepth 100000 in
set_option maxHeartbeats 4000000 in
theorem kX2_hasCells {D : va_G} {cI : ClassId} {q : Nat → Nat} {σ : k_S} {x1 x2 x3 : Int32} {r : Int32} {τ : k_S} (h : fX2_hasCells σ x1 x2 x3 = some (r, τ)) : k_Ct k_ei yX2_hasCells cX2_hasCells 4 (some .boolean) rmX2_hasCells (cT cI q) D cI [.ref (q 1), .int x1, .int x2, .int x3] σ r τ := by
  refine k_met (Y := YX2_hasCells) (cT_same _ _) (by decide) rfl (Nat.le_of_ble_eq_true rfl) (List.forall_mem_cons.mpr ⟨rfl, List.forall_mem_cons.mpr ⟨rfl, List.forall_mem_cons.mpr ⟨rfl, List.forall_mem_cons.mpr ⟨rfl, fun _ h => absurd h List.not_mem_nil⟩⟩⟩⟩) (fun X hD hI => ?_) h
  subst hD hI
  show KO X YX2_hasCells (cT (k_I X) q) 0 0 (k_Q k_ei X (cT (k_I X) q)) 0 [some (.ref (q 1)), some (.int x1), some (.int x2), some (.int x3)] [] σ _
  unfold fX2_hasCells
  refine k_iload_n (pc := 0) dX2_hasCells_0 rfl ?_
  refine k_if_lt (pc := 1) 34 dX2_hasCells_1 (by decide) ?_ ?_
  · refine k_iconst (pc := 34) (v := 0) dX2_hasCells_34 (by decide) ?_
    exact k_zreturn (pc := 35) rfl dX2_hasCells_35
  · refine k_iload_n (pc := 4) dX2_hasCells_4 rfl ?_
    refine k_if_lt (pc := 5) 34 dX2_hasCells_5 (by decide) ?_ ?_
    · refine k_iconst (pc := 34) (v := 0) dX2_hasCells_34 (by decide) ?_
      exact k_zreturn (pc := 35) rfl dX2_hasCells_35
    · refine k_iload_n (pc := 8) dX2_hasCells_8 rfl ?_
      refine k_aload_n (pc := 9) dX2_hasCells_9 rfl ?_
      refine k_gTX2_lengths (pc := 10) kwf_X2_18 rfl dX2_hasCells_10 ?_
      refine k_iload_n (pc := 13) dX2_hasCells_13 rfl ?_
      refine k_lT10 (pc := 14) dX2_hasCells_14 ?_
      refine k_icmp_gt (pc := 15) 34 dX2_hasCells_15 (by decide) ?_ ?_
      · refine k_iconst (pc := 34) (v := 0) dX2_hasCells_34 (by decide) ?_
        exact k_zreturn (pc := 35) rfl dX2_hasCells_35
      · refine k_iload_n (pc := 18) dX2_hasCells_18 rfl ?_
        refine k_aload_n (pc := 19) dX2_hasCells_19 rfl ?_
        refine k_gTX2_lengths (pc := 20) kwf_X2_18 rfl dX2_hasCells_20 ?_
        refine k_iload_n (pc := 23) dX2_hasCells_23 rfl ?_
        refine k_lT10 (pc := 24) dX2_hasCells_24 ?_
        refine k_iload_n (pc := 25) dX2_hasCells_25 rfl ?_
        refine k_isub (pc := 26) dX2_hasCells_26 ?_
        refine k_icmp_gt (pc := 27) 34 dX2_hasCells_27 (by decide) ?_ ?_
        · refine k_iconst (pc := 34) (v := 0) dX2_hasCells_34 (by decide) ?_
          exact k_zreturn (pc := 35) rfl dX2_hasCells_35
        · refine k_iconst (pc := 30) (v := 1) dX2_hasCells_30 (by decide) ?_
          refine k_goto (pc := 31) 35 dX2_hasCells_31 (by decide) ?_
          exact k_zreturn (pc := 35) rfl dX2_hasCells_35
-- TallTales$Sheets.faultOf(IIII)I
theorem ckX2_faultOf : k_Vok yX2_faultOf cX2_faultOf 5 (some .int) 4 := ⟨kwk_X2_faultOf, kwi_X2_faultOf, kwv_X2_faultOf, kwn_X2, by decide, by decide +kernel⟩
abbrev rmX2_faultOf : Room := { frames := 1, cells := 0, slots := 0, locals := 23 }
abbrev YX2_faultOf : k_Y := (rmX2_faultOf, cX2_faultOf, 5, RX2, (some .int))
noncomputable def fX2_faultOf (σ : k_S) (x1 x2 x3 x4 : Int32) : Option (Int32 × k_S) := k_ob (fX2_hasRow σ x1) fun r1 σ2 => (if r1 = 0 then some (1, σ2) else k_gd (x1) 4 ((if σ2.2 2 (Int32.toNatClampNeg (x1)) = x2 then (if x4 < 0 then some (4, σ2) else k_ob (fX2_hasCells σ2 x1 x3 x4) fun r3 σ4 => (if r3 = 0 then some (3, σ4) else some (0, σ4))) else some (2, σ2))))
set_option maxRecDepth 100000 in
set_option maxHeartbeats 4000000 in
theorem kX2_faultOf {D : va_G} {cI : ClassId} {q : Nat → Nat} {σ : k_S} {x1 x2 x3 x4 : Int32} {r : Int32} {τ : k_S} (h : fX2_faultOf σ x1 x2 x3 x4 = some (r, τ)) : k_Ct k_ei yX2_faultOf cX2_faultOf 5 (some .int) rmX2_faultOf (cT cI q) D cI [.ref (q 1), .int x1, .int x2, .int x3, .int x4] σ r τ := by
  refine k_met (Y := YX2_faultOf) (cT_same _ _) (by decide) rfl (Nat.le_of_ble_eq_true rfl) (List.forall_mem_cons.mpr ⟨rfl, List.forall_mem_cons.mpr ⟨rfl, List.forall_mem_cons.mpr ⟨rfl, List.forall_mem_cons.mpr ⟨rfl, List.forall_mem_cons.mpr ⟨rfl, fun _ h => absurd h List.not_mem_nil⟩⟩⟩⟩⟩) (fun X hD hI => ?_) h
  subst hD hI
  show KO X YX2_faultOf (cT (k_I X) q) 0 0 (k_Q k_ei X (cT (k_I X) q)) 0 [some (.ref (q 1)), some (.int x1), some (.int x2), some (.int x3), some (.int x4)] [] σ _
  unfold fX2_faultOf
  refine k_aload_n (pc := 0) dX2_faultOf_0 rfl ?_
  refine k_iload_n (pc := 1) dX2_faultOf_1 rfl ?_
  refine k_vi1 (pc := 2) (cT_same _ _) ckX2_hasRow kwm_X2_27 cT_rv1 ⟨rfl, rfl⟩ ⟨Nat.le_of_ble_eq_true rfl, Nat.le_of_ble_eq_true rfl⟩ ⟨Nat.zero_le _, Nat.zero_le _⟩ (Nat.le_of_ble_eq_true rfl) dX2_faultOf_2 (fun _ _ hf => kX2_hasRow hf) (fun r1 σ2 => ?_)
  refine k_if_ne (pc := 5) 10 dX2_faultOf_5 (by decide) ?_ ?_
  · refine k_aload_n (pc := 10) dX2_faultOf_10 rfl ?_
    refine k_gTX2_sorts (pc := 11) kwf_X2_15 rfl dX2_faultOf_11 ?_
    refine k_iload_n (pc := 14) dX2_faultOf_14 rfl ?_
    refine k_lT9 (pc := 15) dX2_faultOf_15 ?_
    refine k_iload_n (pc := 16) dX2_faultOf_16 rfl ?_
    refine k_icmp_eq (pc := 17) 22 dX2_faultOf_17 (by decide) ?_ ?_
    · refine k_iload (pc := 22) dX2_faultOf_22 rfl ?_
      refine k_if_ge (pc := 24) 29 dX2_faultOf_24 (by decide) ?_ ?_
      · refine k_aload_n (pc := 29) dX2_faultOf_29 rfl ?_
        refine k_iload_n (pc := 30) dX2_faultOf_30 rfl ?_
        refine k_iload_n (pc := 31) dX2_faultOf_31 rfl ?_
        refine k_iload (pc := 32) dX2_faultOf_32 rfl ?_
        refine k_vi3 (pc := 34) (cT_same _ _) ckX2_hasCells kwm_X2_31 cT_rv1 ⟨rfl, rfl⟩ ⟨Nat.le_of_ble_eq_true rfl, Nat.le_of_ble_eq_true rfl⟩ ⟨Nat.zero_le _, Nat.zero_le _⟩ (Nat.le_of_ble_eq_true rfl) dX2_faultOf_34 (fun _ _ hf => kX2_hasCells hf) (fun r3 σ4 => ?_)
        refine k_if_eq (pc := 37) 44 dX2_faultOf_37 (by decide) ?_ ?_
        · refine k_iconst (pc := 44) (v := 3) dX2_faultOf_44 (by decide) ?_
          exact k_ireturn (pc := 45) rfl dX2_faultOf_45
        · refine k_iconst (pc := 40) (v := 0) dX2_faultOf_40 (by decide) ?_
          refine k_goto (pc := 41) 45 dX2_faultOf_41 (by decide) ?_
          exact k_ireturn (pc := 45) rfl dX2_faultOf_45
      · refine k_iconst (pc := 27) (v := 4) dX2_faultOf_27 (by decide) ?_
        exact k_ireturn (pc := 28) rfl dX2_faultOf_28
    · refine k_iconst (pc := 20) (v := 2) dX2_faultOf_20 (by decide) ?_
      exact k_ireturn (pc := 21) rfl dX2_faultOf_21
  · refine k_iconst (pc := 8) (v := 1) dX2_faultOf_8 (by decide) ?_
    exact k_ireturn (pc := 9) rfl dX2_faultOf_9
-- TallTales.faulty(I)I
theorem ckX6_faulty : k_Vok yX6_faulty cX6_faulty 2 (some .int) 1 := ⟨kwk_X6_faulty, kwi_X6_faulty, kwv_X6_faulty, kwn_X6, by decide, by decide +kernel⟩
abbrev rmX6_faulty : Room := { frames := 0, cells := 0, slots := 0, locals := 0 }
abbrev YX6_faulty : k_Y := (rmX6_faulty, cX6_faulty, 2, RX6, (some .int))
noncomputable def fX6_faulty (σ : k_S) (x1 : Int32) : Option (Int32 × k_S) := k_bn (k_sf σ 1 (x1)) fun σ1 => some (((-10) - x1), σ1)
set_option maxRecDepth 100000 in
set_option maxHeartbeats 4000000 in
theorem kX6_faulty {D : va_G} {cI : ClassId} {q : Nat → Nat} {σ : k_S} {x1 : Int32} {r : Int32} {τ : k_S} (h : fX6_faulty σ x1 = some (r, τ)) : k_Ct k_ei yX6_faulty cX6_faulty 2 (some .int) rmX6_faulty (cT cI q) D cI [.ref (q 0), .int x1] σ r τ := by
  refine k_met (Y := YX6_faulty) (cT_same _ _) (by decide) rfl (Nat.le_of_ble_eq_true rfl) (List.forall_mem_cons.mpr ⟨rfl, List.forall_mem_cons.mpr ⟨rfl, fun _ h => absurd h List.not_mem_nil⟩⟩) (fun X hD hI => ?_) h
  subst hD hI
  show KO X YX6_faulty (cT (k_I X) q) 0 0 (k_Q k_ei X (cT (k_I X) q)) 0 [some (.ref (q 0)), some (.int x1)] [] σ _
  unfold fX6_faulty
  refine k_aload_n (pc := 0) dX6_faulty_0 rfl ?_
  refine k_iload_n (pc := 1) dX6_faulty_1 rfl ?_
  refine k_pTX6_fault (pc := 2) kwf_X6_61 rfl dX6_faulty_2 (fun σ1 => ?_)
  refine k_bipush (pc := 5) (v := (-10)) dX6_faulty_5 (by decide) ?_
  refine k_iload_n (pc := 7) dX6_faulty_7 rfl ?_
  refine k_isub (pc := 8) dX6_faulty_8 ?_
  exact k_ireturn (pc := 9) rfl dX6_faulty_9
-- TallTales$Sheets.take(III[I)V
theorem ckX2_take : k_Vok yX2_take cX2_take 5 none 4 := ⟨kwk_X2_take, kwi_X2_take, kwv_X2_take, kwn_X2, by decide, by decide +kernel⟩
abbrev rmX2_take_a11 : Room := { frames := 1, cells := 0, slots := 0, locals := 48 }
abbrev YX2_take_a11 : k_Y := (rmX2_take_a11, cX2_take, 5, RX2, none)
noncomputable def fX2_take_a11 (σ : k_S) (x1 x2 x3 : Int32) : Option (Unit × k_S) := k_gc (((x1 * 60) + x2)) (0) (x3) 240 60 (k_bn (k_sc σ 1 4 (((x1 * 60) + x2)) (0) (x3)) fun σ1 => some ((), σ1))
set_option maxRecDepth 100000 in
set_option maxHeartbeats 4000000 in
theorem kX2_take_a11 {D : va_G} {cI : ClassId} {q : Nat → Nat} {σ : k_S} {x1 x2 x3 : Int32} {r : Unit} {τ : k_S} (h : fX2_take_a11 σ x1 x2 x3 = some (r, τ)) : k_Ct k_ev yX2_take cX2_take 5 none rmX2_take_a11 (cT cI q) D cI [.ref (q 1), .int x1, .int x2, .int x3, .ref (q 11)] σ r τ := by
  refine k_met (Y := YX2_take_a11) (cT_same _ _) (by decide) rfl (Nat.le_of_ble_eq_true rfl) (List.forall_mem_cons.mpr ⟨rfl, List.forall_mem_cons.mpr ⟨rfl, List.forall_mem_cons.mpr ⟨rfl, List.forall_mem_cons.mpr ⟨rfl, List.forall_mem_cons.mpr ⟨rfl, fun _ h => absurd h List.not_mem_nil⟩⟩⟩⟩⟩) (fun X hD hI => ?_) h
  subst hD hI
  show KO X YX2_take_a11 (cT (k_I X) q) 0 0 (k_Q k_ev X (cT (k_I X) q)) 0 [some (.ref (q 1)), some (.int x1), some (.int x2), some (.int x3), some (.ref (q 11))] [] σ _
  unfold fX2_take_a11
  refine k_aload_n (pc := 0) dX2_take_0 rfl ?_
  refine k_gTX2_cells (pc := 1) kwf_X2_9 rfl dX2_take_1 ?_
  refine k_iload_n (pc := 4) dX2_take_4 rfl ?_
  refine k_bipush (pc := 5) (v := 60) dX2_take_5 (by decide) ?_
  refine k_imul (pc := 7) dX2_take_7 ?_
  refine k_iload_n (pc := 8) dX2_take_8 rfl ?_
  refine k_iadd (pc := 9) dX2_take_9 ?_
  refine k_aload (pc := 10) dX2_take_10 rfl ?_
  refine k_iconst (pc := 12) (v := 0) dX2_take_12 (by decide) ?_
  refine k_iload_n (pc := 13) dX2_take_13 rfl ?_
  refine k_cT_8_11 (pc := 14) kwm_X2_38 ⟨Nat.le_of_ble_eq_true rfl, Nat.le_of_ble_eq_true rfl⟩ dX2_take_14 (fun σ1 => ?_)
  exact k_return (pc := 17) rfl dX2_take_17
-- TallTales$Text.isDigit(I)Z
theorem ckX4_isDigit : k_Sok yX4_isDigit cX4_isDigit 1 (some .boolean) 1 := ⟨kwk_X4_isDigit, kws_X4_isDigit, kwn_X4, by decide, by decide +kernel⟩
abbrev rmX4_isDigit : Room := { frames := 0, cells := 0, slots := 0, locals := 0 }
abbrev YX4_isDigit : k_Y := (rmX4_isDigit, cX4_isDigit, 1, RX4, (some .boolean))
noncomputable def fX4_isDigit (σ : k_S) (x0 : Int32) : Option (Int32 × k_S) := (if x0 < 48 then k_z (0) (some (0, σ)) else (if 57 < x0 then k_z (0) (some (0, σ)) else k_z (1) (some (1, σ))))
set_option maxRecDepth 100000 in
set_option maxHeartbeats 4000000 in
theorem kX4_isDigit {D : va_G} {cI : ClassId} {q : Nat → Nat} {σ : k_S} {x0 : Int32} {r : Int32} {τ : k_S} (h : fX4_isDigit σ x0 = some (r, τ)) : k_Ct k_ei yX4_isDigit cX4_isDigit 1 (some .boolean) rmX4_isDigit (cT cI q) D cI [.int x0] σ r τ := by
  refine k_met (Y := YX4_isDigit) (cT_same _ _) (by decide) rfl (Nat.le_of_ble_eq_true rfl) (List.forall_mem_cons.mpr ⟨rfl, fun _ h => absurd h List.not_mem_nil⟩) (fun X hD hI => ?_) h
  subst hD hI
  show KO X YX4_isDigit (cT (k_I X) q) 0 0 (k_Q k_ei X (cT (k_I X) q)) 0 [some (.int x0)] [] σ _
  unfold fX4_isDigit
  refine k_iload_n (pc := 0) dX4_isDigit_0 rfl ?_
  refine k_bipush (pc := 1) (v := 48) dX4_isDigit_1 (by decide) ?_
  refine k_icmp_lt (pc := 3) 16 dX4_isDigit_3 (by decide) ?_ ?_
  · refine k_iconst (pc := 16) (v := 0) dX4_isDigit_16 (by decide) ?_
    exact k_zreturn (pc := 17) rfl dX4_isDigit_17
  · refine k_iload_n (pc := 6) dX4_isDigit_6 rfl ?_
    refine k_bipush (pc := 7) (v := 57) dX4_isDigit_7 (by decide) ?_
    refine k_icmp_gt (pc := 9) 16 dX4_isDigit_9 (by decide) ?_ ?_
    · refine k_iconst (pc := 16) (v := 0) dX4_isDigit_16 (by decide) ?_
      exact k_zreturn (pc := 17) rfl dX4_isDigit_17
    · refine k_iconst (pc := 12) (v := 1) dX4_isDigit_12 (by decide) ?_
      refine k_goto (pc := 13) 17 dX4_isDigit_13 (by decide) ?_
      exact k_zreturn (pc := 17) rfl dX4_isDigit_17
-- TallTales$Text.goesOn(I)Z
theorem ckX4_goesOn : k_Vok yX4_goesOn cX4_goesOn 3 (some .boolean) 1 := ⟨kwk_X4_goesOn, kwi_X4_goesOn, kwv_X4_goesOn, kwn_X4, by decide, by decide +kernel⟩
abbrev rmX4_goesOn : Room := { frames := 1, cells := 0, slots := 0, locals := 20 }
abbrev YX4_goesOn : k_Y := (rmX4_goesOn, cX4_goesOn, 3, RX4, (some .boolean))
noncomputable def fX4_goesOn_c116 (σ : k_S) : Option (Int32 × k_S) := k_z (1) (some (1, σ))
set_option maxRecDepth 100000 in
set_option maxHeartbeats 4000000 in
theorem kX4_goesOn_c116 {X : k_C} {q : Nat → Nat} (σ : k_S) : KO X YX4_goesOn (cT (k_I X) q) 0 0 (k_Q k_ei X (cT (k_I X) q)) 116 [some (.ref (q 2)), none, none] [] σ (fX4_goesOn_c116 σ) := by
  unfold fX4_goesOn_c116
  refine k_iconst (pc := 116) (v := 1) dX4_goesOn_116 (by decide) ?_
  refine k_goto (pc := 117) 121 dX4_goesOn_117 (by decide) ?_
  exact k_zreturn (pc := 121) rfl dX4_goesOn_121
noncomputable def fX4_goesOn_c180 (σ : k_S) : Option (Int32 × k_S) := k_z (1) (some (1, σ))
set_option maxRecDepth 100000 in
set_option maxHeartbeats 4000000 in
theorem kX4_goesOn_c180 {X : k_C} {q : Nat → Nat} (σ : k_S) : KO X YX4_goesOn (cT (k_I X) q) 0 0 (k_Q k_ei X (cT (k_I X) q)) 180 [some (.ref (q 2)), none, none] [] σ (fX4_goesOn_c180 σ) := by
  unfold fX4_goesOn_c180
  refine k_iconst (pc := 180) (v := 1) dX4_goesOn_180 (by decide) ?_
  refine k_goto (pc := 181) 185 dX4_goesOn_181 (by decide) ?_
  exact k_zreturn (pc := 185) rfl dX4_goesOn_185
noncomputable def fX4_goesOn (σ : k_S) (x1 : Int32) : Option (Int32 × k_S) := k_gd (x1) 60 (k_bn (σ.2 4 (Int32.toNatClampNeg (x1))) fun v1 => (if x1 = 0 then (if v1 = 105 then k_z (1) (some (1, σ)) else k_z (0) (some (0, σ))) else (if x1 = 1 then (if v1 < 50 then k_z (0) (some (0, σ)) else (if 53 < v1 then k_z (0) (some (0, σ)) else k_z (1) (some (1, σ)))) else (if ((x1 - 2) - (x1 - 2) / 5 * 5) = 0 then (if v1 = 59 then (if x1 < 52 then k_z (1) (some (1, σ)) else k_z (0) (some (0, σ))) else k_z (0) (some (0, σ))) else (if ((x1 - 2) - (x1 - 2) / 5 * 5) = 1 then (if v1 = 116 then fX4_goesOn_c116 σ else (if v1 = 103 then fX4_goesOn_c116 σ else (if v1 = 119 then fX4_goesOn_c116 σ else k_z (0) (some (0, σ))))) else (if ((x1 - 2) - (x1 - 2) / 5 * 5) = 2 then (if v1 < 48 then k_z (0) (some (0, σ)) else k_gd (1) 60 ((if v1 < σ.2 4 (Int32.toNatClampNeg (1)) then k_z (1) (some (1, σ)) else k_z (0) (some (0, σ))))) else (if ((x1 - 2) - (x1 - 2) / 5 * 5) = 3 then k_ob (fX4_isDigit σ v1) fun r3 σ4 => (if r3 = 0 then k_z (0) (some (0, σ4)) else (if v1 = 48 then (if (x1 + 1) < σ4.1 2 then k_gd ((x1 + 1)) 60 ((if σ4.2 4 (Int32.toNatClampNeg ((x1 + 1))) = 48 then k_z (0) (some (0, σ4)) else fX4_goesOn_c180 σ4)) else fX4_goesOn_c180 σ4) else fX4_goesOn_c180 σ4)) else k_ob (fX4_isDigit σ v1) fun r5 σ6 => k_z (r5) (some (r5, σ6)))))))))
set_option maxRecDepth 100000 in
set_option maxHeartbeats 4000000 in
theorem kX4_goesOn {D : va_G} {cI : ClassId} {q : Nat → Nat} {σ : k_S} {x1 : Int32} {r : Int32} {τ : k_S} (h : fX4_goesOn σ x1 = some (r, τ)) : k_Ct k_ei yX4_goesOn cX4_goesOn 3 (some .boolean) rmX4_goesOn (cT cI q) D cI [.ref (q 2), .int x1] σ r τ := by
  refine k_met (Y := YX4_goesOn) (cT_same _ _) (by decide) rfl (Nat.le_of_ble_eq_true rfl) (List.forall_mem_cons.mpr ⟨rfl, List.forall_mem_cons.mpr ⟨rfl, fun _ h => absurd h List.not_mem_nil⟩⟩) (fun X hD hI => ?_) h
  subst hD hI
  show KO X YX4_goesOn (cT (k_I X) q) 0 0 (k_Q k_ei X (cT (k_I X) q)) 0 [some (.ref (q 2)), some (.int x1), none] [] σ _
  unfold fX4_goesOn
  refine k_aload_n (pc := 0) dX4_goesOn_0 rfl ?_
  refine k_gTX4_codes (pc := 1) kwf_X4_9 rfl dX4_goesOn_1 ?_
  refine k_iload_n (pc := 4) dX4_goesOn_4 rfl ?_
  refine k_lT11 (pc := 5) dX4_goesOn_5 ?_
  refine k_ist2 (pc := 6) dX4_goesOn_6 (by decide) (fun v1 => ?_)
  refine k_iload_n (pc := 7) dX4_goesOn_7 rfl ?_
  refine k_if_ne (pc := 8) 23 dX4_goesOn_8 (by decide) ?_ ?_
  · refine k_iload_n (pc := 23) dX4_goesOn_23 rfl ?_
    refine k_iconst (pc := 24) (v := 1) dX4_goesOn_24 (by decide) ?_
    refine k_icmp_ne (pc := 25) 46 dX4_goesOn_25 (by decide) ?_ ?_
    · refine k_iload_n (pc := 46) dX4_goesOn_46 rfl ?_
      refine k_iconst (pc := 47) (v := 2) dX4_goesOn_47 (by decide) ?_
      refine k_isub (pc := 48) dX4_goesOn_48 ?_
      refine k_iconst (pc := 49) (v := 5) dX4_goesOn_49 (by decide) ?_
      refine k_irem (pc := 50) dX4_goesOn_50 (by decide) ?_
      refine KO.ite (c := ((x1 - 2) - (x1 - 2) / 5 * 5) = 0) (fun hs2_0 => ?_) (fun hs2_0 => ?_)
      · refine k_tableIn (off := 29) (pc := 51) 80 dX4_goesOn_51 hs2_0 (by decide) (by decide) (by decide) (by decide) ?_
        refine k_iload_n (pc := 80) dX4_goesOn_80 rfl ?_
        refine k_bipush (pc := 81) (v := 59) dX4_goesOn_81 (by decide) ?_
        refine k_icmp_ne (pc := 83) 96 dX4_goesOn_83 (by decide) ?_ ?_
        · refine k_iconst (pc := 96) (v := 0) dX4_goesOn_96 (by decide) ?_
          exact k_zreturn (pc := 97) rfl dX4_goesOn_97
        · refine k_iload_n (pc := 86) dX4_goesOn_86 rfl ?_
          refine k_bipush (pc := 87) (v := 52) dX4_goesOn_87 (by decide) ?_
          refine k_icmp_ge (pc := 89) 96 dX4_goesOn_89 (by decide) ?_ ?_
          · refine k_iconst (pc := 96) (v := 0) dX4_goesOn_96 (by decide) ?_
            exact k_zreturn (pc := 97) rfl dX4_goesOn_97
          · refine k_iconst (pc := 92) (v := 1) dX4_goesOn_92 (by decide) ?_
            refine k_goto (pc := 93) 97 dX4_goesOn_93 (by decide) ?_
            exact k_zreturn (pc := 97) rfl dX4_goesOn_97
      · refine KO.ite (c := ((x1 - 2) - (x1 - 2) / 5 * 5) = 1) (fun hs2_1 => ?_) (fun hs2_1 => ?_)
        · refine k_tableIn (off := 47) (pc := 51) 98 dX4_goesOn_51 hs2_1 (by decide) (by decide) (by decide) (by decide) ?_
          refine k_iload_n (pc := 98) dX4_goesOn_98 rfl ?_
          refine k_bipush (pc := 99) (v := 116) dX4_goesOn_99 (by decide) ?_
          refine k_icmp_eq (pc := 101) 116 dX4_goesOn_101 (by decide) ?_ ?_
          · refine k_fg1 ?_
            refine k_fg2 ?_
            exact kX4_goesOn_c116 σ
          · refine k_iload_n (pc := 104) dX4_goesOn_104 rfl ?_
            refine k_bipush (pc := 105) (v := 103) dX4_goesOn_105 (by decide) ?_
            refine k_icmp_eq (pc := 107) 116 dX4_goesOn_107 (by decide) ?_ ?_
            · refine k_fg1 ?_
              refine k_fg2 ?_
              exact kX4_goesOn_c116 σ
            · refine k_iload_n (pc := 110) dX4_goesOn_110 rfl ?_
              refine k_bipush (pc := 111) (v := 119) dX4_goesOn_111 (by decide) ?_
              refine k_icmp_ne (pc := 113) 120 dX4_goesOn_113 (by decide) ?_ ?_
              · refine k_iconst (pc := 120) (v := 0) dX4_goesOn_120 (by decide) ?_
                exact k_zreturn (pc := 121) rfl dX4_goesOn_121
              · refine k_fg1 ?_
                refine k_fg2 ?_
                exact kX4_goesOn_c116 σ
        · refine KO.ite (c := ((x1 - 2) - (x1 - 2) / 5 * 5) = 2) (fun hs2_2 => ?_) (fun hs2_2 => ?_)
          · refine k_tableIn (off := 71) (pc := 51) 122 dX4_goesOn_51 hs2_2 (by decide) (by decide) (by decide) (by decide) ?_
            refine k_iload_n (pc := 122) dX4_goesOn_122 rfl ?_
            refine k_bipush (pc := 123) (v := 48) dX4_goesOn_123 (by decide) ?_
            refine k_icmp_lt (pc := 125) 142 dX4_goesOn_125 (by decide) ?_ ?_
            · refine k_iconst (pc := 142) (v := 0) dX4_goesOn_142 (by decide) ?_
              exact k_zreturn (pc := 143) rfl dX4_goesOn_143
            · refine k_iload_n (pc := 128) dX4_goesOn_128 rfl ?_
              refine k_aload_n (pc := 129) dX4_goesOn_129 rfl ?_
              refine k_gTX4_codes (pc := 130) kwf_X4_9 rfl dX4_goesOn_130 ?_
              refine k_iconst (pc := 133) (v := 1) dX4_goesOn_133 (by decide) ?_
              refine k_lT11 (pc := 134) dX4_goesOn_134 ?_
              refine k_icmp_ge (pc := 135) 142 dX4_goesOn_135 (by decide) ?_ ?_
              · refine k_iconst (pc := 142) (v := 0) dX4_goesOn_142 (by decide) ?_
                exact k_zreturn (pc := 143) rfl dX4_goesOn_143
              · refine k_iconst (pc := 138) (v := 1) dX4_goesOn_138 (by decide) ?_
                refine k_goto (pc := 139) 143 dX4_goesOn_139 (by decide) ?_
                exact k_zreturn (pc := 143) rfl dX4_goesOn_143
          · refine KO.ite (c := ((x1 - 2) - (x1 - 2) / 5 * 5) = 3) (fun hs2_3 => ?_) (fun hs2_3 => ?_)
            · refine k_tableIn (off := 93) (pc := 51) 144 dX4_goesOn_51 hs2_3 (by decide) (by decide) (by decide) (by decide) ?_
              refine k_iload_n (pc := 144) dX4_goesOn_144 rfl ?_
              refine k_si1 (pc := 145) (cT_same _ _) ckX4_isDigit kwm_X4_23 ⟨rfl, rfl⟩ ⟨Nat.le_of_ble_eq_true rfl, Nat.le_of_ble_eq_true rfl⟩ ⟨Nat.zero_le _, Nat.zero_le _⟩ (Nat.le_of_ble_eq_true rfl) dX4_goesOn_145 (fun _ _ hf => kX4_isDigit hf) (fun r3 σ4 => ?_)
              refine k_if_eq (pc := 148) 184 dX4_goesOn_148 (by decide) ?_ ?_
              · refine k_iconst (pc := 184) (v := 0) dX4_goesOn_184 (by decide) ?_
                exact k_zreturn (pc := 185) rfl dX4_goesOn_185
              · refine k_iload_n (pc := 151) dX4_goesOn_151 rfl ?_
                refine k_bipush (pc := 152) (v := 48) dX4_goesOn_152 (by decide) ?_
                refine k_icmp_ne (pc := 154) 180 dX4_goesOn_154 (by decide) ?_ ?_
                · refine k_fg1 ?_
                  refine k_fg2 ?_
                  exact kX4_goesOn_c180 σ4
                · refine k_iload_n (pc := 157) dX4_goesOn_157 rfl ?_
                  refine k_iconst (pc := 158) (v := 1) dX4_goesOn_158 (by decide) ?_
                  refine k_iadd (pc := 159) dX4_goesOn_159 ?_
                  refine k_aload_n (pc := 160) dX4_goesOn_160 rfl ?_
                  refine k_gTX4_length (pc := 161) kwf_X4_15 rfl dX4_goesOn_161 ?_
                  refine k_icmp_ge (pc := 164) 180 dX4_goesOn_164 (by decide) ?_ ?_
                  · refine k_fg1 ?_
                    refine k_fg2 ?_
                    exact kX4_goesOn_c180 σ4
                  · refine k_aload_n (pc := 167) dX4_goesOn_167 rfl ?_
                    refine k_gTX4_codes (pc := 168) kwf_X4_9 rfl dX4_goesOn_168 ?_
                    refine k_iload_n (pc := 171) dX4_goesOn_171 rfl ?_
                    refine k_iconst (pc := 172) (v := 1) dX4_goesOn_172 (by decide) ?_
                    refine k_iadd (pc := 173) dX4_goesOn_173 ?_
                    refine k_lT11 (pc := 174) dX4_goesOn_174 ?_
                    refine k_bipush (pc := 175) (v := 48) dX4_goesOn_175 (by decide) ?_
                    refine k_icmp_eq (pc := 177) 184 dX4_goesOn_177 (by decide) ?_ ?_
                    · refine k_iconst (pc := 184) (v := 0) dX4_goesOn_184 (by decide) ?_
                      exact k_zreturn (pc := 185) rfl dX4_goesOn_185
                    · refine k_fg1 ?_
                      refine k_fg2 ?_
                      exact kX4_goesOn_c180 σ4
            · refine k_tableOut (pc := 51) 186 dX4_goesOn_51 (by have g0 := lv_neT (a := 0) hs2_0 (by decide); have g1 := lv_neT (a := 1) hs2_1 (by decide); have g2 := lv_neT (a := 2) hs2_2 (by decide); have g3 := lv_neT (a := 3) hs2_3 (by decide); omega) (by decide) ?_
              refine k_iload_n (pc := 186) dX4_goesOn_186 rfl ?_
              refine k_si1 (pc := 187) (cT_same _ _) ckX4_isDigit kwm_X4_23 ⟨rfl, rfl⟩ ⟨Nat.le_of_ble_eq_true rfl, Nat.le_of_ble_eq_true rfl⟩ ⟨Nat.zero_le _, Nat.zero_le _⟩ (Nat.le_of_ble_eq_true rfl) dX4_goesOn_187 (fun _ _ hf => kX4_isDigit hf) (fun r5 σ6 => ?_)
              exact k_zreturn (pc := 190) rfl dX4_goesOn_190
    · refine k_iload_n (pc := 28) dX4_goesOn_28 rfl ?_
      refine k_bipush (pc := 29) (v := 50) dX4_goesOn_29 (by decide) ?_
      refine k_icmp_lt (pc := 31) 44 dX4_goesOn_31 (by decide) ?_ ?_
      · refine k_iconst (pc := 44) (v := 0) dX4_goesOn_44 (by decide) ?_
        exact k_zreturn (pc := 45) rfl dX4_goesOn_45
      · refine k_iload_n (pc := 34) dX4_goesOn_34 rfl ?_
        refine k_bipush (pc := 35) (v := 53) dX4_goesOn_35 (by decide) ?_
        refine k_icmp_gt (pc := 37) 44 dX4_goesOn_37 (by decide) ?_ ?_
        · refine k_iconst (pc := 44) (v := 0) dX4_goesOn_44 (by decide) ?_
          exact k_zreturn (pc := 45) rfl dX4_goesOn_45
        · refine k_iconst (pc := 40) (v := 1) dX4_goesOn_40 (by decide) ?_
          refine k_goto (pc := 41) 45 dX4_goesOn_41 (by decide) ?_
          exact k_zreturn (pc := 45) rfl dX4_goesOn_45
  · refine k_iload_n (pc := 11) dX4_goesOn_11 rfl ?_
    refine k_bipush (pc := 12) (v := 105) dX4_goesOn_12 (by decide) ?_
    refine k_icmp_ne (pc := 14) 21 dX4_goesOn_14 (by decide) ?_ ?_
    · refine k_iconst (pc := 21) (v := 0) dX4_goesOn_21 (by decide) ?_
      exact k_zreturn (pc := 22) rfl dX4_goesOn_22
    · refine k_iconst (pc := 17) (v := 1) dX4_goesOn_17 (by decide) ?_
      refine k_goto (pc := 18) 22 dX4_goesOn_18 (by decide) ?_
      exact k_zreturn (pc := 22) rfl dX4_goesOn_22
-- TallTales$Text.firstFault()I
theorem ckX4_firstFault : k_Vok yX4_firstFault cX4_firstFault 2 (some .int) 0 := ⟨kwk_X4_firstFault, kwi_X4_firstFault, kwv_X4_firstFault, kwn_X4, by decide, by decide +kernel⟩
abbrev rmX4_firstFault : Room := { frames := 2, cells := 0, slots := 0, locals := 42 }
abbrev YX4_firstFault : k_Y := (rmX4_firstFault, cX4_firstFault, 2, RX4, (some .int))
noncomputable def fX4_firstFault_c50 (σ : k_S) (s0 : Int32) : Option (Int32 × k_S) := k_bn (s0) fun v1 => (if v1 = 0 then some (σ.1 2, σ) else some ((-1), σ))
set_option maxRecDepth 100000 in
set_option maxHeartbeats 4000000 in
theorem kX4_firstFault_c50 {X : k_C} {q : Nat → Nat} (σ : k_S) (s0 : Int32) : KO X YX4_firstFault (cT (k_I X) q) 0 0 (k_Q k_ei X (cT (k_I X) q)) 50 [some (.ref (q 2)), none] [.int s0] σ (fX4_firstFault_c50 σ s0) := by
  unfold fX4_firstFault_c50
  refine k_ist1 (pc := 50) dX4_firstFault_50 (by decide) (fun v1 => ?_)
  refine k_iload_n (pc := 51) dX4_firstFault_51 rfl ?_
  refine k_if_eq (pc := 52) 59 dX4_firstFault_52 (by decide) ?_ ?_
  · refine k_aload_n (pc := 59) dX4_firstFault_59 rfl ?_
    refine k_gTX4_length (pc := 60) kwf_X4_15 rfl dX4_firstFault_60 ?_
    exact k_ireturn (pc := 63) rfl dX4_firstFault_63
  · refine k_iconst (pc := 55) (v := (-1)) dX4_firstFault_55 (by decide) ?_
    refine k_goto (pc := 56) 63 dX4_firstFault_56 (by decide) ?_
    exact k_ireturn (pc := 63) rfl dX4_firstFault_63
noncomputable def fX4_firstFault_c49 (σ : k_S) : Option (Int32 × k_S) := fX4_firstFault_c50 σ 0
set_option maxRecDepth 100000 in
set_option maxHeartbeats 4000000 in
theorem kX4_firstFault_c49 {X : k_C} {q : Nat → Nat} (σ : k_S) : KO X YX4_firstFault (cT (k_I X) q) 0 0 (k_Q k_ei X (cT (k_I X) q)) 49 [some (.ref (q 2)), none] [] σ (fX4_firstFault_c49 σ) := by
  unfold fX4_firstFault_c49
  refine k_iconst (pc := 49) (v := 0) dX4_firstFault_49 (by decide) ?_
  exact kX4_firstFault_c50 σ 0
noncomputable def fX4_firstFault_c2 : Nat → k_S → Int32 → Option (Int32 × k_S)
  | 0, _, _ => none
  | n + 1, σ, l1 => (if l1 < σ.1 2 then k_ob (fX4_goesOn σ l1) fun r1 σ2 => (if r1 = 0 then some (l1, σ2) else k_bn (l1 + 1) fun v3 => fX4_firstFault_c2 n σ2 v3) else (if 2 < σ.1 2 then (if ((σ.1 2 - 2) - (σ.1 2 - 2) / 5 * 5) = 0 then fX4_firstFault_c50 σ 1 else fX4_firstFault_c49 σ) else fX4_firstFault_c49 σ))
theorem fX4_firstFault_c2_s (n : Nat) (σ : k_S) (l1 : Int32) : fX4_firstFault_c2 (n + 1) σ l1 = (if l1 < σ.1 2 then k_ob (fX4_goesOn σ l1) fun r1 σ2 => (if r1 = 0 then some (l1, σ2) else k_bn (l1 + 1) fun v3 => fX4_firstFault_c2 n σ2 v3) else (if 2 < σ.1 2 then (if ((σ.1 2 - 2) - (σ.1 2 - 2) / 5 * 5) = 0 then fX4_firstFault_c50 σ 1 else fX4_firstFault_c49 σ) else fX4_firstFault_c49 σ)) := rfl
set_option maxRecDepth 100000 in
set_option maxHeartbeats 4000000 in
theorem kX4_firstFault_c2 {X : k_C} {q : Nat → Nat} : ∀ (n : Nat) (σ : k_S) (l1 : Int32), KO X YX4_firstFault (cT (k_I X) q) 0 0 (k_Q k_ei X (cT (k_I X) q)) 2 [some (.ref (q 2)), some (.int l1)] [] σ (fX4_firstFault_c2 n σ l1) := by
  intro n
  induction n with
  | zero => intros; exact KO.nil
  | succ n ih =>
    intro σ l1
    rw [fX4_firstFault_c2_s]
    refine k_iload_n (pc := 2) dX4_firstFault_2 rfl ?_
    refine k_aload_n (pc := 3) dX4_firstFault_3 rfl ?_
    refine k_gTX4_length (pc := 4) kwf_X4_15 rfl dX4_firstFault_4 ?_
    refine k_icmp_ge (pc := 7) 26 dX4_firstFault_7 (by decide) ?_ ?_
    · refine k_aload_n (pc := 26) dX4_firstFault_26 rfl ?_
      refine k_gTX4_length (pc := 27) kwf_X4_15 rfl dX4_firstFault_27 ?_
      refine k_iconst (pc := 30) (v := 2) dX4_firstFault_30 (by decide) ?_
      refine k_icmp_le (pc := 31) 49 dX4_firstFault_31 (by decide) ?_ ?_
      · refine k_fg1 ?_
        exact kX4_firstFault_c49 σ
      · refine k_aload_n (pc := 34) dX4_firstFault_34 rfl ?_
        refine k_gTX4_length (pc := 35) kwf_X4_15 rfl dX4_firstFault_35 ?_
        refine k_iconst (pc := 38) (v := 2) dX4_firstFault_38 (by decide) ?_
        refine k_isub (pc := 39) dX4_firstFault_39 ?_
        refine k_iconst (pc := 40) (v := 5) dX4_firstFault_40 (by decide) ?_
        refine k_irem (pc := 41) dX4_firstFault_41 (by decide) ?_
        refine k_if_ne (pc := 42) 49 dX4_firstFault_42 (by decide) ?_ ?_
        · refine k_fg1 ?_
          exact kX4_firstFault_c49 σ
        · refine k_iconst (pc := 45) (v := 1) dX4_firstFault_45 (by decide) ?_
          refine k_goto (pc := 46) 50 dX4_firstFault_46 (by decide) ?_
          refine k_fg1 ?_
          exact kX4_firstFault_c50 σ 1
    · refine k_aload_n (pc := 10) dX4_firstFault_10 rfl ?_
      refine k_iload_n (pc := 11) dX4_firstFault_11 rfl ?_
      refine k_vi1 (pc := 12) (cT_same _ _) ckX4_goesOn kwm_X4_19 cT_rv2 ⟨rfl, rfl⟩ ⟨Nat.le_of_ble_eq_true rfl, Nat.le_of_ble_eq_true rfl⟩ ⟨Nat.zero_le _, Nat.zero_le _⟩ (Nat.le_of_ble_eq_true rfl) dX4_firstFault_12 (fun _ _ hf => kX4_goesOn hf) (fun r1 σ2 => ?_)
      refine k_if_ne (pc := 15) 20 dX4_firstFault_15 (by decide) ?_ ?_
      · refine k_iinc1 (pc := 20) (w := 1) dX4_firstFault_20 rfl (by decide) (by decide) (fun v3 => ?_)
        refine k_goto (pc := 23) 2 dX4_firstFault_23 (by decide) ?_
        exact ih σ2 v3
      · refine k_iload_n (pc := 18) dX4_firstFault_18 rfl ?_
        exact k_ireturn (pc := 19) rfl dX4_firstFault_19
noncomputable def fX4_firstFault (σ : k_S) : Option (Int32 × k_S) := k_bn (0) fun v1 => fX4_firstFault_c2 k_F σ v1
set_option maxRecDepth 100000 in
set_option maxHeartbeats 4000000 in
theorem kX4_firstFault {D : va_G} {cI : ClassId} {q : Nat → Nat} {σ : k_S} {r : Int32} {τ : k_S} (h : fX4_firstFault σ = some (r, τ)) : k_Ct k_ei yX4_firstFault cX4_firstFault 2 (some .int) rmX4_firstFault (cT cI q) D cI [.ref (q 2)] σ r τ := by
  refine k_met (Y := YX4_firstFault) (cT_same _ _) (by decide) rfl (Nat.le_of_ble_eq_true rfl) (List.forall_mem_cons.mpr ⟨rfl, fun _ h => absurd h List.not_mem_nil⟩) (fun X hD hI => ?_) h
  subst hD hI
  show KO X YX4_firstFault (cT (k_I X) q) 0 0 (k_Q k_ei X (cT (k_I X) q)) 0 [some (.ref (q 2)), none] [] σ _
  unfold fX4_firstFault
  refine k_iconst (pc := 0) (v := 0) dX4_firstFault_0 (by decide) ?_
  refine k_ist1 (pc := 1) dX4_firstFault_1 (by decide) (fun v1 => ?_)
  exact kX4_firstFault_c2 k_F σ v1
-- TallTales$Text.guests()I
theorem ckX4_guests : k_Vok yX4_guests cX4_guests 1 (some .int) 0 := ⟨kwk_X4_guests, kwi_X4_guests, kwv_X4_guests, kwn_X4, by decide, by decide +kernel⟩
abbrev rmX4_guests : Room := { frames := 0, cells := 0, slots := 0, locals := 0 }
abbrev YX4_guests : k_Y := (rmX4_guests, cX4_guests, 1, RX4, (some .int))
noncomputable def fX4_guests (σ : k_S) : Option (Int32 × k_S) := k_gd (1) 60 (some ((σ.2 4 (Int32.toNatClampNeg (1)) - 48), σ))
set_option maxRecDepth 100000 in
set_option maxHeartbeats 4000000 in
theorem kX4_guests {D : va_G} {cI : ClassId} {q : Nat → Nat} {σ : k_S} {r : Int32} {τ : k_S} (h : fX4_guests σ = some (r, τ)) : k_Ct k_ei yX4_guests cX4_guests 1 (some .int) rmX4_guests (cT cI q) D cI [.ref (q 2)] σ r τ := by
  refine k_met (Y := YX4_guests) (cT_same _ _) (by decide) rfl (Nat.le_of_ble_eq_true rfl) (List.forall_mem_cons.mpr ⟨rfl, fun _ h => absurd h List.not_mem_nil⟩) (fun X hD hI => ?_) h
  subst hD hI
  show KO X YX4_guests (cT (k_I X) q) 0 0 (k_Q k_ei X (cT (k_I X) q)) 0 [some (.ref (q 2))] [] σ _
  unfold fX4_guests
  refine k_aload_n (pc := 0) dX4_guests_0 rfl ?_
  refine k_gTX4_codes (pc := 1) kwf_X4_9 rfl dX4_guests_1 ?_
  refine k_iconst (pc := 4) (v := 1) dX4_guests_4 (by decide) ?_
  refine k_lT11 (pc := 5) dX4_guests_5 ?_
  refine k_bipush (pc := 6) (v := 48) dX4_guests_6 (by decide) ?_
  refine k_isub (pc := 8) dX4_guests_8 ?_
  exact k_ireturn (pc := 9) rfl dX4_guests_9
-- TallTales$Text.tales()I
theorem ckX4_tales : k_Vok yX4_tales cX4_tales 1 (some .int) 0 := ⟨kwk_X4_tales, kwi_X4_tales, kwv_X4_tales, kwn_X4, by decide, by decide +kernel⟩
abbrev rmX4_tales : Room := { frames := 0, cells := 0, slots := 0, locals := 0 }
abbrev YX4_tales : k_Y := (rmX4_tales, cX4_tales, 1, RX4, (some .int))
noncomputable def fX4_tales (σ : k_S) : Option (Int32 × k_S) := some (((σ.1 2 - 2) / 5), σ)
set_option maxRecDepth 100000 in
set_option maxHeartbeats 4000000 in
theorem kX4_tales {D : va_G} {cI : ClassId} {q : Nat → Nat} {σ : k_S} {r : Int32} {τ : k_S} (h : fX4_tales σ = some (r, τ)) : k_Ct k_ei yX4_tales cX4_tales 1 (some .int) rmX4_tales (cT cI q) D cI [.ref (q 2)] σ r τ := by
  refine k_met (Y := YX4_tales) (cT_same _ _) (by decide) rfl (Nat.le_of_ble_eq_true rfl) (List.forall_mem_cons.mpr ⟨rfl, fun _ h => absurd h List.not_mem_nil⟩) (fun X hD hI => ?_) h
  subst hD hI
  show KO X YX4_tales (cT (k_I X) q) 0 0 (k_Q k_ei X (cT (k_I X) q)) 0 [some (.ref (q 2))] [] σ _
  unfold fX4_tales
  refine k_aload_n (pc := 0) dX4_tales_0 rfl ?_
  refine k_gTX4_length (pc := 1) kwf_X4_15 rfl dX4_tales_1 ?_
  refine k_iconst (pc := 4) (v := 2) dX4_tales_4 (by decide) ?_
  refine k_isub (pc := 5) dX4_tales_5 ?_
  refine k_iconst (pc := 6) (v := 5) dX4_tales_6 (by decide) ?_
  refine k_idiv (pc := 7) dX4_tales_7 (by decide) ?_
  exact k_ireturn (pc := 8) rfl dX4_tales_8
-- TallTales$Text.kindOf(I)I
theorem ckX4_kindOf : k_Vok yX4_kindOf cX4_kindOf 3 (some .int) 1 := ⟨kwk_X4_kindOf, kwi_X4_kindOf, kwv_X4_kindOf, kwn_X4, by decide, by decide +kernel⟩
abbrev rmX4_kindOf : Room := { frames := 0, cells := 0, slots := 0, locals := 0 }
abbrev YX4_kindOf : k_Y := (rmX4_kindOf, cX4_kindOf, 3, RX4, (some .int))
noncomputable def fX4_kindOf (σ : k_S) (x1 : Int32) : Option (Int32 × k_S) := k_gd (((2 + (x1 * 5)) + 1)) 60 (k_bn (σ.2 4 (Int32.toNatClampNeg (((2 + (x1 * 5)) + 1)))) fun v1 => (if v1 = 119 then some (2, σ) else (if v1 = 103 then some (1, σ) else some (0, σ))))
set_option maxRecDepth 100000 in
set_option maxHeartbeats 4000000 in
theorem kX4_kindOf {D : va_G} {cI : ClassId} {q : Nat → Nat} {σ : k_S} {x1 : Int32} {r : Int32} {τ : k_S} (h : fX4_kindOf σ x1 = some (r, τ)) : k_Ct k_ei yX4_kindOf cX4_kindOf 3 (some .int) rmX4_kindOf (cT cI q) D cI [.ref (q 2), .int x1] σ r τ := by
  refine k_met (Y := YX4_kindOf) (cT_same _ _) (by decide) rfl (Nat.le_of_ble_eq_true rfl) (List.forall_mem_cons.mpr ⟨rfl, List.forall_mem_cons.mpr ⟨rfl, fun _ h => absurd h List.not_mem_nil⟩⟩) (fun X hD hI => ?_) h
  subst hD hI
  show KO X YX4_kindOf (cT (k_I X) q) 0 0 (k_Q k_ei X (cT (k_I X) q)) 0 [some (.ref (q 2)), some (.int x1), none] [] σ _
  unfold fX4_kindOf
  refine k_aload_n (pc := 0) dX4_kindOf_0 rfl ?_
  refine k_gTX4_codes (pc := 1) kwf_X4_9 rfl dX4_kindOf_1 ?_
  refine k_iconst (pc := 4) (v := 2) dX4_kindOf_4 (by decide) ?_
  refine k_iload_n (pc := 5) dX4_kindOf_5 rfl ?_
  refine k_iconst (pc := 6) (v := 5) dX4_kindOf_6 (by decide) ?_
  refine k_imul (pc := 7) dX4_kindOf_7 ?_
  refine k_iadd (pc := 8) dX4_kindOf_8 ?_
  refine k_iconst (pc := 9) (v := 1) dX4_kindOf_9 (by decide) ?_
  refine k_iadd (pc := 10) dX4_kindOf_10 ?_
  refine k_lT11 (pc := 11) dX4_kindOf_11 ?_
  refine k_ist2 (pc := 12) dX4_kindOf_12 (by decide) (fun v1 => ?_)
  refine k_iload_n (pc := 13) dX4_kindOf_13 rfl ?_
  refine k_bipush (pc := 14) (v := 119) dX4_kindOf_14 (by decide) ?_
  refine k_icmp_ne (pc := 16) 23 dX4_kindOf_16 (by decide) ?_ ?_
  · refine k_iload_n (pc := 23) dX4_kindOf_23 rfl ?_
    refine k_bipush (pc := 24) (v := 103) dX4_kindOf_24 (by decide) ?_
    refine k_icmp_ne (pc := 26) 33 dX4_kindOf_26 (by decide) ?_ ?_
    · refine k_iconst (pc := 33) (v := 0) dX4_kindOf_33 (by decide) ?_
      exact k_ireturn (pc := 34) rfl dX4_kindOf_34
    · refine k_iconst (pc := 29) (v := 1) dX4_kindOf_29 (by decide) ?_
      refine k_goto (pc := 30) 34 dX4_kindOf_30 (by decide) ?_
      exact k_ireturn (pc := 34) rfl dX4_kindOf_34
  · refine k_iconst (pc := 19) (v := 2) dX4_kindOf_19 (by decide) ?_
    refine k_goto (pc := 20) 34 dX4_kindOf_20 (by decide) ?_
    exact k_ireturn (pc := 34) rfl dX4_kindOf_34
-- TallTales$Text.ownerOf(I)I
theorem ckX4_ownerOf : k_Vok yX4_ownerOf cX4_ownerOf 2 (some .int) 1 := ⟨kwk_X4_ownerOf, kwi_X4_ownerOf, kwv_X4_ownerOf, kwn_X4, by decide, by decide +kernel⟩
abbrev rmX4_ownerOf : Room := { frames := 0, cells := 0, slots := 0, locals := 0 }
abbrev YX4_ownerOf : k_Y := (rmX4_ownerOf, cX4_ownerOf, 2, RX4, (some .int))
noncomputable def fX4_ownerOf (σ : k_S) (x1 : Int32) : Option (Int32 × k_S) := k_gd (((2 + (x1 * 5)) + 2)) 60 (some ((σ.2 4 (Int32.toNatClampNeg (((2 + (x1 * 5)) + 2))) - 48), σ))
set_option maxRecDepth 100000 in
set_option maxHeartbeats 4000000 in
theorem kX4_ownerOf {D : va_G} {cI : ClassId} {q : Nat → Nat} {σ : k_S} {x1 : Int32} {r : Int32} {τ : k_S} (h : fX4_ownerOf σ x1 = some (r, τ)) : k_Ct k_ei yX4_ownerOf cX4_ownerOf 2 (some .int) rmX4_ownerOf (cT cI q) D cI [.ref (q 2), .int x1] σ r τ := by
  refine k_met (Y := YX4_ownerOf) (cT_same _ _) (by decide) rfl (Nat.le_of_ble_eq_true rfl) (List.forall_mem_cons.mpr ⟨rfl, List.forall_mem_cons.mpr ⟨rfl, fun _ h => absurd h List.not_mem_nil⟩⟩) (fun X hD hI => ?_) h
  subst hD hI
  show KO X YX4_ownerOf (cT (k_I X) q) 0 0 (k_Q k_ei X (cT (k_I X) q)) 0 [some (.ref (q 2)), some (.int x1)] [] σ _
  unfold fX4_ownerOf
  refine k_aload_n (pc := 0) dX4_ownerOf_0 rfl ?_
  refine k_gTX4_codes (pc := 1) kwf_X4_9 rfl dX4_ownerOf_1 ?_
  refine k_iconst (pc := 4) (v := 2) dX4_ownerOf_4 (by decide) ?_
  refine k_iload_n (pc := 5) dX4_ownerOf_5 rfl ?_
  refine k_iconst (pc := 6) (v := 5) dX4_ownerOf_6 (by decide) ?_
  refine k_imul (pc := 7) dX4_ownerOf_7 ?_
  refine k_iadd (pc := 8) dX4_ownerOf_8 ?_
  refine k_iconst (pc := 9) (v := 2) dX4_ownerOf_9 (by decide) ?_
  refine k_iadd (pc := 10) dX4_ownerOf_10 ?_
  refine k_lT11 (pc := 11) dX4_ownerOf_11 ?_
  refine k_bipush (pc := 12) (v := 48) dX4_ownerOf_12 (by decide) ?_
  refine k_isub (pc := 14) dX4_ownerOf_14 ?_
  exact k_ireturn (pc := 15) rfl dX4_ownerOf_15
-- TallTales$Text.heightOf(I)I
theorem ckX4_heightOf : k_Vok yX4_heightOf cX4_heightOf 3 (some .int) 1 := ⟨kwk_X4_heightOf, kwi_X4_heightOf, kwv_X4_heightOf, kwn_X4, by decide, by decide +kernel⟩
abbrev rmX4_heightOf : Room := { frames := 0, cells := 0, slots := 0, locals := 0 }
abbrev YX4_heightOf : k_Y := (rmX4_heightOf, cX4_heightOf, 3, RX4, (some .int))
noncomputable def fX4_heightOf (σ : k_S) (x1 : Int32) : Option (Int32 × k_S) := k_bn (((2 + (x1 * 5)) + 3)) fun v1 => k_gd (v1) 60 (k_gd ((v1 + 1)) 60 (some (((((σ.2 4 (Int32.toNatClampNeg (v1)) - 48) * 10) + σ.2 4 (Int32.toNatClampNeg ((v1 + 1)))) - 48), σ)))
set_option maxRecDepth 100000 in
set_option maxHeartbeats 4000000 in
theorem kX4_heightOf {D : va_G} {cI : ClassId} {q : Nat → Nat} {σ : k_S} {x1 : Int32} {r : Int32} {τ : k_S} (h : fX4_heightOf σ x1 = some (r, τ)) : k_Ct k_ei yX4_heightOf cX4_heightOf 3 (some .int) rmX4_heightOf (cT cI q) D cI [.ref (q 2), .int x1] σ r τ := by
  refine k_met (Y := YX4_heightOf) (cT_same _ _) (by decide) rfl (Nat.le_of_ble_eq_true rfl) (List.forall_mem_cons.mpr ⟨rfl, List.forall_mem_cons.mpr ⟨rfl, fun _ h => absurd h List.not_mem_nil⟩⟩) (fun X hD hI => ?_) h
  subst hD hI
  show KO X YX4_heightOf (cT (k_I X) q) 0 0 (k_Q k_ei X (cT (k_I X) q)) 0 [some (.ref (q 2)), some (.int x1), none] [] σ _
  unfold fX4_heightOf
  refine k_iconst (pc := 0) (v := 2) dX4_heightOf_0 (by decide) ?_
  refine k_iload_n (pc := 1) dX4_heightOf_1 rfl ?_
  refine k_iconst (pc := 2) (v := 5) dX4_heightOf_2 (by decide) ?_
  refine k_imul (pc := 3) dX4_heightOf_3 ?_
  refine k_iadd (pc := 4) dX4_heightOf_4 ?_
  refine k_iconst (pc := 5) (v := 3) dX4_heightOf_5 (by decide) ?_
  refine k_iadd (pc := 6) dX4_heightOf_6 ?_
  refine k_ist2 (pc := 7) dX4_heightOf_7 (by decide) (fun v1 => ?_)
  refine k_aload_n (pc := 8) dX4_heightOf_8 rfl ?_
  refine k_gTX4_codes (pc := 9) kwf_X4_9 rfl dX4_heightOf_9 ?_
  refine k_iload_n (pc := 12) dX4_heightOf_12 rfl ?_
  refine k_lT11 (pc := 13) dX4_heightOf_13 ?_
  refine k_bipush (pc := 14) (v := 48) dX4_heightOf_14 (by decide) ?_
  refine k_isub (pc := 16) dX4_heightOf_16 ?_
  refine k_bipush (pc := 17) (v := 10) dX4_heightOf_17 (by decide) ?_
  refine k_imul (pc := 19) dX4_heightOf_19 ?_
  refine k_aload_n (pc := 20) dX4_heightOf_20 rfl ?_
  refine k_gTX4_codes (pc := 21) kwf_X4_9 rfl dX4_heightOf_21 ?_
  refine k_iload_n (pc := 24) dX4_heightOf_24 rfl ?_
  refine k_iconst (pc := 25) (v := 1) dX4_heightOf_25 (by decide) ?_
  refine k_iadd (pc := 26) dX4_heightOf_26 ?_
  refine k_lT11 (pc := 27) dX4_heightOf_27 ?_
  refine k_iadd (pc := 28) dX4_heightOf_28 ?_
  refine k_bipush (pc := 29) (v := 48) dX4_heightOf_29 (by decide) ?_
  refine k_isub (pc := 31) dX4_heightOf_31 ?_
  exact k_ireturn (pc := 32) rfl dX4_heightOf_32
-- TallTales$House.hasTale(I)Z
theorem ckX0_hasTale : k_Vok yX0_hasTale cX0_hasTale 2 (some .boolean) 1 := ⟨kwk_X0_hasTale, kwi_X0_hasTale, kwv_X0_hasTale, kwn_X0, by decide, by decide +kernel⟩
abbrev rmX0_hasTale : Room := { frames := 0, cells := 0, slots := 0, locals := 0 }
abbrev YX0_hasTale : k_Y := (rmX0_hasTale, cX0_hasTale, 2, RX0, (some .boolean))
noncomputable def fX0_hasTale (σ : k_S) (x1 : Int32) : Option (Int32 × k_S) := (if x1 < 0 then k_z (0) (some (0, σ)) else (if x1 < σ.1 4 then k_z (1) (some (1, σ)) else k_z (0) (some (0, σ))))
set_option maxRecDepth 100000 in
set_option maxHeartbeats 4000000 in
theorem kX0_hasTale {D : va_G} {cI : ClassId} {q : Nat → Nat} {σ : k_S} {x1 : Int32} {r : Int32} {τ : k_S} (h : fX0_hasTale σ x1 = some (r, τ)) : k_Ct k_ei yX0_hasTale cX0_hasTale 2 (some .boolean) rmX0_hasTale (cT cI q) D cI [.ref (q 3), .int x1] σ r τ := by
  refine k_met (Y := YX0_hasTale) (cT_same _ _) (by decide) rfl (Nat.le_of_ble_eq_true rfl) (List.forall_mem_cons.mpr ⟨rfl, List.forall_mem_cons.mpr ⟨rfl, fun _ h => absurd h List.not_mem_nil⟩⟩) (fun X hD hI => ?_) h
  subst hD hI
  show KO X YX0_hasTale (cT (k_I X) q) 0 0 (k_Q k_ei X (cT (k_I X) q)) 0 [some (.ref (q 3)), some (.int x1)] [] σ _
  unfold fX0_hasTale
  refine k_iload_n (pc := 0) dX0_hasTale_0 rfl ?_
  refine k_if_lt (pc := 1) 16 dX0_hasTale_1 (by decide) ?_ ?_
  · refine k_iconst (pc := 16) (v := 0) dX0_hasTale_16 (by decide) ?_
    exact k_zreturn (pc := 17) rfl dX0_hasTale_17
  · refine k_iload_n (pc := 4) dX0_hasTale_4 rfl ?_
    refine k_aload_n (pc := 5) dX0_hasTale_5 rfl ?_
    refine k_gTX0_tales (pc := 6) kwf_X0_51 rfl dX0_hasTale_6 ?_
    refine k_icmp_ge (pc := 9) 16 dX0_hasTale_9 (by decide) ?_ ?_
    · refine k_iconst (pc := 16) (v := 0) dX0_hasTale_16 (by decide) ?_
      exact k_zreturn (pc := 17) rfl dX0_hasTale_17
    · refine k_iconst (pc := 12) (v := 1) dX0_hasTale_12 (by decide) ?_
      refine k_goto (pc := 13) 17 dX0_hasTale_13 (by decide) ?_
      exact k_zreturn (pc := 17) rfl dX0_hasTale_17
-- TallTales$House.keepTold(II)V
theorem ckX0_keepTold : k_Vok yX0_keepTold cX0_keepTold 3 none 2 := ⟨kwk_X0_keepTold, kwi_X0_keepTold, kwv_X0_keepTold, kwn_X0, by decide, by decide +kernel⟩
abbrev rmX0_keepTold : Room := { frames := 1, cells := 0, slots := 0, locals := 21 }
abbrev YX0_keepTold : k_Y := (rmX0_keepTold, cX0_keepTold, 3, RX0, none)
noncomputable def fX0_keepTold (σ : k_S) (x1 x2 : Int32) : Option (Unit × k_S) := k_ob (fX0_hasTale σ x1) fun r1 σ2 => (if r1 = 0 then some ((), σ2) else k_gd (x1) 10 (k_gd (x1) 10 (k_bn (k_sa σ2 8 (x1) ((σ2.2 8 (Int32.toNatClampNeg (x1)) + 1))) fun σ3 => k_gd (x1) 10 (k_bn (k_sa σ3 9 (x1) (x2)) fun σ4 => some ((), σ4)))))
set_option maxRecDepth 100000 in
set_option maxHeartbeats 4000000 in
theorem kX0_keepTold {D : va_G} {cI : ClassId} {q : Nat → Nat} {σ : k_S} {x1 x2 : Int32} {r : Unit} {τ : k_S} (h : fX0_keepTold σ x1 x2 = some (r, τ)) : k_Ct k_ev yX0_keepTold cX0_keepTold 3 none rmX0_keepTold (cT cI q) D cI [.ref (q 3), .int x1, .int x2] σ r τ := by
  refine k_met (Y := YX0_keepTold) (cT_same _ _) (by decide) rfl (Nat.le_of_ble_eq_true rfl) (List.forall_mem_cons.mpr ⟨rfl, List.forall_mem_cons.mpr ⟨rfl, List.forall_mem_cons.mpr ⟨rfl, fun _ h => absurd h List.not_mem_nil⟩⟩⟩) (fun X hD hI => ?_) h
  subst hD hI
  show KO X YX0_keepTold (cT (k_I X) q) 0 0 (k_Q k_ev X (cT (k_I X) q)) 0 [some (.ref (q 3)), some (.int x1), some (.int x2)] [] σ _
  unfold fX0_keepTold
  refine k_aload_n (pc := 0) dX0_keepTold_0 rfl ?_
  refine k_iload_n (pc := 1) dX0_keepTold_1 rfl ?_
  refine k_vi1 (pc := 2) (cT_same _ _) ckX0_hasTale kwm_X0_91 cT_rv3 ⟨rfl, rfl⟩ ⟨Nat.le_of_ble_eq_true rfl, Nat.le_of_ble_eq_true rfl⟩ ⟨Nat.zero_le _, Nat.zero_le _⟩ (Nat.le_of_ble_eq_true rfl) dX0_keepTold_2 (fun _ _ hf => kX0_hasTale hf) (fun r1 σ2 => ?_)
  refine k_if_ne (pc := 5) 9 dX0_keepTold_5 (by decide) ?_ ?_
  · refine k_aload_n (pc := 9) dX0_keepTold_9 rfl ?_
    refine k_gTX0_told (pc := 10) kwf_X0_21 rfl dX0_keepTold_10 ?_
    refine k_iload_n (pc := 13) dX0_keepTold_13 rfl ?_
    refine k_dup2 (pc := 14) dX0_keepTold_14 rfl rfl ?_
    refine k_lT15 (pc := 15) dX0_keepTold_15 ?_
    refine k_iconst (pc := 16) (v := 1) dX0_keepTold_16 (by decide) ?_
    refine k_iadd (pc := 17) dX0_keepTold_17 ?_
    refine k_sT15 (pc := 18) dX0_keepTold_18 (fun σ3 => ?_)
    refine k_aload_n (pc := 19) dX0_keepTold_19 rfl ?_
    refine k_gTX0_last (pc := 20) kwf_X0_24 rfl dX0_keepTold_20 ?_
    refine k_iload_n (pc := 23) dX0_keepTold_23 rfl ?_
    refine k_iload_n (pc := 24) dX0_keepTold_24 rfl ?_
    refine k_sT16 (pc := 25) dX0_keepTold_25 (fun σ4 => ?_)
    exact k_return (pc := 26) rfl dX0_keepTold_26
  · exact k_return (pc := 8) rfl dX0_keepTold_8
-- TallTales$House.goBack(I)V
theorem ckX0_goBack : k_Vok yX0_goBack cX0_goBack 4 none 1 := ⟨kwk_X0_goBack, kwi_X0_goBack, kwv_X0_goBack, kwn_X0, by decide, by decide +kernel⟩
abbrev rmX0_goBack : Room := { frames := 2, cells := 0, slots := 0, locals := 60 }
abbrev YX0_goBack : k_Y := (rmX0_goBack, cX0_goBack, 4, RX0, none)
noncomputable def fX0_goBack_c48 (kh38 : k_S → Int32 → Option (Unit × k_S)) : Nat → k_S → Int32 → Int32 → Option (Unit × k_S)
  | 0, _, _, _ => none
  | n + 1, σ, l2, l3 => (if l3 < σ.1 3 then k_gd (((l2 * 5) + l3)) 300 (k_ob (fX0_keepTold σ (σ.2 11 (Int32.toNatClampNeg (((l2 * 5) + l3)))) l2) fun r2 σ3 => k_bn (l3 + 1) fun v4 => fX0_goBack_c48 kh38 n σ3 l2 v4) else k_bn (l2 + 1) fun v1 => kh38 σ v1)
theorem fX0_goBack_c48_s (kh38 : k_S → Int32 → Option (Unit × k_S)) (n : Nat) (σ : k_S) (l2 l3 : Int32) : fX0_goBack_c48 kh38 (n + 1) σ l2 l3 = (if l3 < σ.1 3 then k_gd (((l2 * 5) + l3)) 300 (k_ob (fX0_keepTold σ (σ.2 11 (Int32.toNatClampNeg (((l2 * 5) + l3)))) l2) fun r2 σ3 => k_bn (l3 + 1) fun v4 => fX0_goBack_c48 kh38 n σ3 l2 v4) else k_bn (l2 + 1) fun v1 => kh38 σ v1) := rfl
set_option maxRecDepth 100000 in
set_option maxHeartbeats 4000000 in
theorem kX0_goBack_c48 {X : k_C} {q : Nat → Nat} (kh38 : k_S → Int32 → Option (Unit × k_S)) (hk38 : ∀ (σ : k_S) (l2 : Int32), KO X YX0_goBack (cT (k_I X) q) 0 0 (k_Q k_ev X (cT (k_I X) q)) 38 [some (.ref (q 3)), none, some (.int l2), none] [] σ (kh38 σ l2)) : ∀ (n : Nat) (σ : k_S) (l2 l3 : Int32), KO X YX0_goBack (cT (k_I X) q) 0 0 (k_Q k_ev X (cT (k_I X) q)) 48 [some (.ref (q 3)), none, some (.int l2), some (.int l3)] [] σ (fX0_goBack_c48 kh38 n σ l2 l3) := by
  intro n
  induction n with
  | zero => intros; exact KO.nil
  | succ n ih =>
    intro σ l2 l3
    rw [fX0_goBack_c48_s]
    refine k_iload_n (pc := 48) dX0_goBack_48 rfl ?_
    refine k_aload_n (pc := 49) dX0_goBack_49 rfl ?_
    refine k_gTX0_guests (pc := 50) kwf_X0_45 rfl dX0_goBack_50 ?_
    refine k_icmp_ge (pc := 53) 77 dX0_goBack_53 (by decide) ?_ ?_
    · refine k_iinc2 (pc := 77) (w := 1) dX0_goBack_77 rfl (by decide) (by decide) (fun v1 => ?_)
      refine k_goto (pc := 80) 38 dX0_goBack_80 (by decide) ?_
      refine k_fg3 ?_
      exact hk38 σ v1
    · refine k_aload_n (pc := 56) dX0_goBack_56 rfl ?_
      refine k_aload_n (pc := 57) dX0_goBack_57 rfl ?_
      refine k_gTX0_nightTale (pc := 58) kwf_X0_30 rfl dX0_goBack_58 ?_
      refine k_iload_n (pc := 61) dX0_goBack_61 rfl ?_
      refine k_iconst (pc := 62) (v := 5) dX0_goBack_62 (by decide) ?_
      refine k_imul (pc := 63) dX0_goBack_63 ?_
      refine k_iload_n (pc := 64) dX0_goBack_64 rfl ?_
      refine k_iadd (pc := 65) dX0_goBack_65 ?_
      refine k_lT18 (pc := 66) dX0_goBack_66 ?_
      refine k_iload_n (pc := 67) dX0_goBack_67 rfl ?_
      refine k_vv2 (pc := 68) (cT_same _ _) ckX0_keepTold kwm_X0_100 cT_rv3 ⟨rfl, rfl⟩ ⟨Nat.le_of_ble_eq_true rfl, Nat.le_of_ble_eq_true rfl⟩ ⟨Nat.zero_le _, Nat.zero_le _⟩ (Nat.le_of_ble_eq_true rfl) dX0_goBack_68 (fun _ _ hf => kX0_keepTold hf) (fun r2 σ3 => ?_)
      refine k_iinc3 (pc := 71) (w := 1) dX0_goBack_71 rfl (by decide) (by decide) (fun v4 => ?_)
      refine k_goto (pc := 74) 48 dX0_goBack_74 (by decide) ?_
      exact ih σ3 l2 v4
noncomputable def fX0_goBack_c38 : Nat → k_S → Int32 → Option (Unit × k_S)
  | 0, _, _ => none
  | n + 1, σ, l2 => (if l2 < σ.1 6 then k_bn (0) fun v1 => fX0_goBack_c48 (fX0_goBack_c38 n) k_F σ l2 v1 else some ((), σ))
theorem fX0_goBack_c38_s (n : Nat) (σ : k_S) (l2 : Int32) : fX0_goBack_c38 (n + 1) σ l2 = (if l2 < σ.1 6 then k_bn (0) fun v1 => fX0_goBack_c48 (fX0_goBack_c38 n) k_F σ l2 v1 else some ((), σ)) := rfl
set_option maxRecDepth 100000 in
set_option maxHeartbeats 4000000 in
theorem kX0_goBack_c38 {X : k_C} {q : Nat → Nat} : ∀ (n : Nat) (σ : k_S) (l2 : Int32), KO X YX0_goBack (cT (k_I X) q) 0 0 (k_Q k_ev X (cT (k_I X) q)) 38 [some (.ref (q 3)), none, some (.int l2), none] [] σ (fX0_goBack_c38 n σ l2) := by
  intro n
  induction n with
  | zero => intros; exact KO.nil
  | succ n ih =>
    intro σ l2
    rw [fX0_goBack_c38_s]
    refine k_iload_n (pc := 38) dX0_goBack_38 rfl ?_
    refine k_aload_n (pc := 39) dX0_goBack_39 rfl ?_
    refine k_gTX0_nights (pc := 40) kwf_X0_66 rfl dX0_goBack_40 ?_
    refine k_icmp_ge (pc := 43) 83 dX0_goBack_43 (by decide) ?_ ?_
    · exact k_return (pc := 83) rfl dX0_goBack_83
    · refine k_iconst (pc := 46) (v := 0) dX0_goBack_46 (by decide) ?_
      refine k_ist3 (pc := 47) dX0_goBack_47 (by decide) (fun v1 => ?_)
      exact kX0_goBack_c48 (fX0_goBack_c38 n) ih k_F σ l2 v1
noncomputable def fX0_goBack (σ : k_S) (x1 : Int32) : Option (Unit × k_S) := k_bn (k_sf σ 6 ((σ.1 6 - x1))) fun σ1 => k_bn (k_sA σ1 10 (k_fl (σ1.2 10) 0 5 ((-9)))) fun σ2 => k_bn (k_sA σ2 8 (k_fl (σ2.2 8) 0 10 (0))) fun σ3 => k_bn (k_sA σ3 9 (k_fl (σ3.2 9) 0 10 ((-9)))) fun σ4 => k_bn (0) fun v5 => fX0_goBack_c38 k_F σ4 v5
set_option maxRecDepth 100000 in
set_option maxHeartbeats 4000000 in
theorem kX0_goBack {D : va_G} {cI : ClassId} {q : Nat → Nat} {σ : k_S} {x1 : Int32} {r : Unit} {τ : k_S} (h : fX0_goBack σ x1 = some (r, τ)) : k_Ct k_ev yX0_goBack cX0_goBack 4 none rmX0_goBack (cT cI q) D cI [.ref (q 3), .int x1] σ r τ := by
  refine k_met (Y := YX0_goBack) (cT_same _ _) (by decide) rfl (Nat.le_of_ble_eq_true rfl) (List.forall_mem_cons.mpr ⟨rfl, List.forall_mem_cons.mpr ⟨rfl, fun _ h => absurd h List.not_mem_nil⟩⟩) (fun X hD hI => ?_) h
  subst hD hI
  show KO X YX0_goBack (cT (k_I X) q) 0 0 (k_Q k_ev X (cT (k_I X) q)) 0 [some (.ref (q 3)), some (.int x1), none, none] [] σ _
  unfold fX0_goBack
  refine k_aload_n (pc := 0) dX0_goBack_0 rfl ?_
  refine k_dup (pc := 1) dX0_goBack_1 rfl ?_
  refine k_gTX0_nights (pc := 2) kwf_X0_66 rfl dX0_goBack_2 ?_
  refine k_iload_n (pc := 5) dX0_goBack_5 rfl ?_
  refine k_isub (pc := 6) dX0_goBack_6 ?_
  refine k_pTX0_nights (pc := 7) kwf_X0_66 rfl dX0_goBack_7 (fun σ1 => ?_)
  refine k_aload_n (pc := 10) dX0_goBack_10 rfl ?_
  refine k_gTX0_chosen (pc := 11) kwf_X0_27 rfl dX0_goBack_11 ?_
  refine k_bipush (pc := 14) (v := (-9)) dX0_goBack_14 (by decide) ?_
  refine k_fT2_17 (pc := 16) kwm_X0_104 ⟨Nat.le_of_ble_eq_true rfl, Nat.le_of_ble_eq_true rfl⟩ dX0_goBack_16 (fun σ2 => ?_)
  refine k_aload_n (pc := 19) dX0_goBack_19 rfl ?_
  refine k_gTX0_told (pc := 20) kwf_X0_21 rfl dX0_goBack_20 ?_
  refine k_iconst (pc := 23) (v := 0) dX0_goBack_23 (by decide) ?_
  refine k_fT2_15 (pc := 24) kwm_X0_104 ⟨Nat.le_of_ble_eq_true rfl, Nat.le_of_ble_eq_true rfl⟩ dX0_goBack_24 (fun σ3 => ?_)
  refine k_aload_n (pc := 27) dX0_goBack_27 rfl ?_
  refine k_gTX0_last (pc := 28) kwf_X0_24 rfl dX0_goBack_28 ?_
  refine k_bipush (pc := 31) (v := (-9)) dX0_goBack_31 (by decide) ?_
  refine k_fT2_16 (pc := 33) kwm_X0_104 ⟨Nat.le_of_ble_eq_true rfl, Nat.le_of_ble_eq_true rfl⟩ dX0_goBack_33 (fun σ4 => ?_)
  refine k_iconst (pc := 36) (v := 0) dX0_goBack_36 (by decide) ?_
  refine k_ist2 (pc := 37) dX0_goBack_37 (by decide) (fun v5 => ?_)
  refine k_fg1 ?_
  exact kX0_goBack_c38 k_F σ4 v5
-- TallTales$House.open(LTallTales$Text;)V
theorem ckX0_open : k_Vok yX0_open cX0_open 3 none 1 := ⟨kwk_X0_open, kwi_X0_open, kwv_X0_open, kwn_X0, by decide, by decide +kernel⟩
abbrev rmX0_open : Room := { frames := 3, cells := 0, slots := 0, locals := 83 }
abbrev YX0_open : k_Y := (rmX0_open, cX0_open, 3, RX0, none)
noncomputable def fX0_open_c18 : Nat → k_S → Int32 → Option (Unit × k_S)
  | 0, _, _ => none
  | n + 1, σ, l2 => (if l2 < σ.1 4 then k_ob (fX4_kindOf σ l2) fun r4 σ5 => k_gd (l2) 10 (k_bn (k_sa σ5 5 (l2) (r4)) fun σ6 => k_ob (fX4_ownerOf σ6 l2) fun r7 σ8 => k_gd (l2) 10 (k_bn (k_sa σ8 6 (l2) (r7)) fun σ9 => k_ob (fX4_heightOf σ9 l2) fun r10 σ11 => k_gd (l2) 10 (k_bn (k_sa σ11 7 (l2) (r10)) fun σ12 => k_bn (l2 + 1) fun v13 => fX0_open_c18 n σ12 v13))) else k_bn (k_sf σ 5 (99)) fun σ1 => k_ob (fX0_goBack σ1 (σ1.1 6)) fun r2 σ3 => some ((), σ3))
theorem fX0_open_c18_s (n : Nat) (σ : k_S) (l2 : Int32) : fX0_open_c18 (n + 1) σ l2 = (if l2 < σ.1 4 then k_ob (fX4_kindOf σ l2) fun r4 σ5 => k_gd (l2) 10 (k_bn (k_sa σ5 5 (l2) (r4)) fun σ6 => k_ob (fX4_ownerOf σ6 l2) fun r7 σ8 => k_gd (l2) 10 (k_bn (k_sa σ8 6 (l2) (r7)) fun σ9 => k_ob (fX4_heightOf σ9 l2) fun r10 σ11 => k_gd (l2) 10 (k_bn (k_sa σ11 7 (l2) (r10)) fun σ12 => k_bn (l2 + 1) fun v13 => fX0_open_c18 n σ12 v13))) else k_bn (k_sf σ 5 (99)) fun σ1 => k_ob (fX0_goBack σ1 (σ1.1 6)) fun r2 σ3 => some ((), σ3)) := rfl
set_option maxRecDepth 100000 in
set_option maxHeartbeats 4000000 in
theorem kX0_open_c18 {X : k_C} {q : Nat → Nat} : ∀ (n : Nat) (σ : k_S) (l2 : Int32), KO X YX0_open (cT (k_I X) q) 0 0 (k_Q k_ev X (cT (k_I X) q)) 18 [some (.ref (q 3)), some (.ref (q 2)), some (.int l2)] [] σ (fX0_open_c18 n σ l2) := by
  intro n
  induction n with
  | zero => intros; exact KO.nil
  | succ n ih =>
    intro σ l2
    rw [fX0_open_c18_s]
    refine k_iload_n (pc := 18) dX0_open_18 rfl ?_
    refine k_aload_n (pc := 19) dX0_open_19 rfl ?_
    refine k_gTX0_tales (pc := 20) kwf_X0_51 rfl dX0_open_20 ?_
    refine k_icmp_ge (pc := 23) 65 dX0_open_23 (by decide) ?_ ?_
    · refine k_aload_n (pc := 65) dX0_open_65 rfl ?_
      refine k_bipush (pc := 66) (v := 99) dX0_open_66 (by decide) ?_
      refine k_pTX0_memory (pc := 68) kwf_X0_63 rfl dX0_open_68 (fun σ1 => ?_)
      refine k_aload_n (pc := 71) dX0_open_71 rfl ?_
      refine k_aload_n (pc := 72) dX0_open_72 rfl ?_
      refine k_gTX0_nights (pc := 73) kwf_X0_66 rfl dX0_open_73 ?_
      refine k_vv1 (pc := 76) (cT_same _ _) ckX0_goBack kwm_X0_69 cT_rv3 ⟨rfl, rfl⟩ ⟨Nat.le_of_ble_eq_true rfl, Nat.le_of_ble_eq_true rfl⟩ ⟨Nat.zero_le _, Nat.zero_le _⟩ (Nat.le_of_ble_eq_true rfl) dX0_open_76 (fun _ _ hf => kX0_goBack hf) (fun r2 σ3 => ?_)
      exact k_return (pc := 79) rfl dX0_open_79
    · refine k_aload_n (pc := 26) dX0_open_26 rfl ?_
      refine k_gTX0_kinds (pc := 27) kwf_X0_9 rfl dX0_open_27 ?_
      refine k_iload_n (pc := 30) dX0_open_30 rfl ?_
      refine k_aload_n (pc := 31) dX0_open_31 rfl ?_
      refine k_iload_n (pc := 32) dX0_open_32 rfl ?_
      refine k_vi1 (pc := 33) (cT_same _ _) ckX4_kindOf kwm_X0_53 cT_rv2 ⟨rfl, rfl⟩ ⟨Nat.le_of_ble_eq_true rfl, Nat.le_of_ble_eq_true rfl⟩ ⟨Nat.zero_le _, Nat.zero_le _⟩ (Nat.le_of_ble_eq_true rfl) dX0_open_33 (fun _ _ hf => kX4_kindOf hf) (fun r4 σ5 => ?_)
      refine k_sT12 (pc := 36) dX0_open_36 (fun σ6 => ?_)
      refine k_aload_n (pc := 37) dX0_open_37 rfl ?_
      refine k_gTX0_owners (pc := 38) kwf_X0_15 rfl dX0_open_38 ?_
      refine k_iload_n (pc := 41) dX0_open_41 rfl ?_
      refine k_aload_n (pc := 42) dX0_open_42 rfl ?_
      refine k_iload_n (pc := 43) dX0_open_43 rfl ?_
      refine k_vi1 (pc := 44) (cT_same _ _) ckX4_ownerOf kwm_X0_57 cT_rv2 ⟨rfl, rfl⟩ ⟨Nat.le_of_ble_eq_true rfl, Nat.le_of_ble_eq_true rfl⟩ ⟨Nat.zero_le _, Nat.zero_le _⟩ (Nat.le_of_ble_eq_true rfl) dX0_open_44 (fun _ _ hf => kX4_ownerOf hf) (fun r7 σ8 => ?_)
      refine k_sT13 (pc := 47) dX0_open_47 (fun σ9 => ?_)
      refine k_aload_n (pc := 48) dX0_open_48 rfl ?_
      refine k_gTX0_heights (pc := 49) kwf_X0_18 rfl dX0_open_49 ?_
      refine k_iload_n (pc := 52) dX0_open_52 rfl ?_
      refine k_aload_n (pc := 53) dX0_open_53 rfl ?_
      refine k_iload_n (pc := 54) dX0_open_54 rfl ?_
      refine k_vi1 (pc := 55) (cT_same _ _) ckX4_heightOf kwm_X0_60 cT_rv2 ⟨rfl, rfl⟩ ⟨Nat.le_of_ble_eq_true rfl, Nat.le_of_ble_eq_true rfl⟩ ⟨Nat.zero_le _, Nat.zero_le _⟩ (Nat.le_of_ble_eq_true rfl) dX0_open_55 (fun _ _ hf => kX4_heightOf hf) (fun r10 σ11 => ?_)
      refine k_sT14 (pc := 58) dX0_open_58 (fun σ12 => ?_)
      refine k_iinc2 (pc := 59) (w := 1) dX0_open_59 rfl (by decide) (by decide) (fun v13 => ?_)
      refine k_goto (pc := 62) 18 dX0_open_62 (by decide) ?_
      exact ih σ12 v13
noncomputable def fX0_open (σ : k_S) : Option (Unit × k_S) := k_ob (fX4_guests σ) fun r1 σ2 => k_bn (k_sf σ2 3 (r1)) fun σ3 => k_ob (fX4_tales σ3) fun r4 σ5 => k_bn (k_sf σ5 4 (r4)) fun σ6 => k_bn (0) fun v7 => fX0_open_c18 k_F σ6 v7
set_option maxRecDepth 100000 in
set_option maxHeartbeats 4000000 in
theorem kX0_open {D : va_G} {cI : ClassId} {q : Nat → Nat} {σ : k_S} {r : Unit} {τ : k_S} (h : fX0_open σ = some (r, τ)) : k_Ct k_ev yX0_open cX0_open 3 none rmX0_open (cT cI q) D cI [.ref (q 3), .ref (q 2)] σ r τ := by
  refine k_met (Y := YX0_open) (cT_same _ _) (by decide) rfl (Nat.le_of_ble_eq_true rfl) (List.forall_mem_cons.mpr ⟨rfl, List.forall_mem_cons.mpr ⟨rfl, fun _ h => absurd h List.not_mem_nil⟩⟩) (fun X hD hI => ?_) h
  subst hD hI
  show KO X YX0_open (cT (k_I X) q) 0 0 (k_Q k_ev X (cT (k_I X) q)) 0 [some (.ref (q 3)), some (.ref (q 2)), none] [] σ _
  unfold fX0_open
  refine k_aload_n (pc := 0) dX0_open_0 rfl ?_
  refine k_aload_n (pc := 1) dX0_open_1 rfl ?_
  refine k_vi0 (pc := 2) (cT_same _ _) ckX4_guests kwm_X0_39 cT_rv2 ⟨rfl, rfl⟩ ⟨Nat.le_of_ble_eq_true rfl, Nat.le_of_ble_eq_true rfl⟩ ⟨Nat.zero_le _, Nat.zero_le _⟩ (Nat.le_of_ble_eq_true rfl) dX0_open_2 (fun _ _ hf => kX4_guests hf) (fun r1 σ2 => ?_)
  refine k_pTX0_guests (pc := 5) kwf_X0_45 rfl dX0_open_5 (fun σ3 => ?_)
  refine k_aload_n (pc := 8) dX0_open_8 rfl ?_
  refine k_aload_n (pc := 9) dX0_open_9 rfl ?_
  refine k_vi0 (pc := 10) (cT_same _ _) ckX4_tales kwm_X0_48 cT_rv2 ⟨rfl, rfl⟩ ⟨Nat.le_of_ble_eq_true rfl, Nat.le_of_ble_eq_true rfl⟩ ⟨Nat.zero_le _, Nat.zero_le _⟩ (Nat.le_of_ble_eq_true rfl) dX0_open_10 (fun _ _ hf => kX4_tales hf) (fun r4 σ5 => ?_)
  refine k_pTX0_tales (pc := 13) kwf_X0_51 rfl dX0_open_13 (fun σ6 => ?_)
  refine k_iconst (pc := 16) (v := 0) dX0_open_16 (by decide) ?_
  refine k_ist2 (pc := 17) dX0_open_17 (by decide) (fun v7 => ?_)
  exact kX0_open_c18 k_F σ6 v7
-- TallTales.inn(IIII)I
theorem ckX6_inn : k_Vok yX6_inn cX6_inn 7 (some .int) 4 := ⟨kwk_X6_inn, kwi_X6_inn, kwv_X6_inn, kwn_X6, by decide, by decide +kernel⟩
abbrev rmX6_inn : Room := { frames := 4, cells := 0, slots := 0, locals := 105 }
abbrev YX6_inn : k_Y := (rmX6_inn, cX6_inn, 7, RX6, (some .int))
noncomputable def fX6_inn (σ : k_S) (x1 x2 x3 x4 : Int32) : Option (Int32 × k_S) := k_bn (k_sf σ 1 (0)) fun σ1 => k_ob (fX6_isSheet σ1 x1) fun r2 σ3 => (if r2 = 0 then some ((-1), σ3) else k_ob (fX6_isSort σ3 x2) fun r4 σ5 => (if r4 = 0 then some ((-2), σ5) else k_ob (fX2_faultOf σ5 x1 x2 x3 x4) fun r6 σ7 => k_bn (r6) fun v8 => (if v8 = 0 then k_bn (k_sf σ7 2 (x4)) fun σ9 => k_ob (fX2_take_a11 σ9 x1 x3 x4) fun r10 σ11 => k_ob (fX4_firstFault σ11) fun r12 σ13 => k_bn (r12) fun v14 => (if v14 = (-1) then k_ob (fX0_open σ13) fun r15 σ16 => some (σ16.1 4, σ16) else some (((-100) - v14), σ13)) else k_ob (fX6_faulty σ7 v8) fun r17 σ18 => some (r17, σ18))))
set_option maxRecDepth 100000 in
set_option maxHeartbeats 4000000 in
theorem kX6_inn {D : va_G} {cI : ClassId} {q : Nat → Nat} {σ : k_S} {x1 x2 x3 x4 : Int32} {r : Int32} {τ : k_S} (h : fX6_inn σ x1 x2 x3 x4 = some (r, τ)) : k_Ct k_ei yX6_inn cX6_inn 7 (some .int) rmX6_inn (cT cI q) D cI [.ref (q 0), .int x1, .int x2, .int x3, .int x4] σ r τ := by
  refine k_met (Y := YX6_inn) (cT_same _ _) (by decide) rfl (Nat.le_of_ble_eq_true rfl) (List.forall_mem_cons.mpr ⟨rfl, List.forall_mem_cons.mpr ⟨rfl, List.forall_mem_cons.mpr ⟨rfl, List.forall_mem_cons.mpr ⟨rfl, List.forall_mem_cons.mpr ⟨rfl, fun _ h => absurd h List.not_mem_nil⟩⟩⟩⟩⟩) (fun X hD hI => ?_) h
  subst hD hI
  show KO X YX6_inn (cT (k_I X) q) 0 0 (k_Q k_ei X (cT (k_I X) q)) 0 [some (.ref (q 0)), some (.int x1), some (.int x2), some (.int x3), some (.int x4), none, none] [] σ _
  unfold fX6_inn
  refine k_aload_n (pc := 0) dX6_inn_0 rfl ?_
  refine k_iconst (pc := 1) (v := 0) dX6_inn_1 (by decide) ?_
  refine k_pTX6_fault (pc := 2) kwf_X6_61 rfl dX6_inn_2 (fun σ1 => ?_)
  refine k_iload_n (pc := 5) dX6_inn_5 rfl ?_
  refine k_si1 (pc := 6) (cT_same _ _) ckX6_isSheet kwm_X6_65 ⟨rfl, rfl⟩ ⟨Nat.le_of_ble_eq_true rfl, Nat.le_of_ble_eq_true rfl⟩ ⟨Nat.zero_le _, Nat.zero_le _⟩ (Nat.le_of_ble_eq_true rfl) dX6_inn_6 (fun _ _ hf => kX6_isSheet hf) (fun r2 σ3 => ?_)
  refine k_if_ne (pc := 9) 14 dX6_inn_9 (by decide) ?_ ?_
  · refine k_iload_n (pc := 14) dX6_inn_14 rfl ?_
    refine k_si1 (pc := 15) (cT_same _ _) ckX6_isSort kwm_X6_69 ⟨rfl, rfl⟩ ⟨Nat.le_of_ble_eq_true rfl, Nat.le_of_ble_eq_true rfl⟩ ⟨Nat.zero_le _, Nat.zero_le _⟩ (Nat.le_of_ble_eq_true rfl) dX6_inn_15 (fun _ _ hf => kX6_isSort hf) (fun r4 σ5 => ?_)
    refine k_if_ne (pc := 18) 24 dX6_inn_18 (by decide) ?_ ?_
    · refine k_aload_n (pc := 24) dX6_inn_24 rfl ?_
      refine k_gTX6_sheets (pc := 25) kwf_X6_12 rfl dX6_inn_25 ?_
      refine k_iload_n (pc := 28) dX6_inn_28 rfl ?_
      refine k_iload_n (pc := 29) dX6_inn_29 rfl ?_
      refine k_iload_n (pc := 30) dX6_inn_30 rfl ?_
      refine k_iload (pc := 31) dX6_inn_31 rfl ?_
      refine k_vi4 (pc := 33) (cT_same _ _) ckX2_faultOf kwm_X6_72 cT_rv1 ⟨rfl, rfl⟩ ⟨Nat.le_of_ble_eq_true rfl, Nat.le_of_ble_eq_true rfl⟩ ⟨Nat.zero_le _, Nat.zero_le _⟩ (Nat.le_of_ble_eq_true rfl) dX6_inn_33 (fun _ _ hf => kX2_faultOf hf) (fun r6 σ7 => ?_)
      refine k_ist5 (pc := 36) dX6_inn_36 (by decide) (fun v8 => ?_)
      refine k_iload (pc := 38) dX6_inn_38 rfl ?_
      refine k_if_eq (pc := 40) 50 dX6_inn_40 (by decide) ?_ ?_
      · refine k_aload_n (pc := 50) dX6_inn_50 rfl ?_
        refine k_gTX6_text (pc := 51) kwf_X6_21 rfl dX6_inn_51 ?_
        refine k_iload (pc := 54) dX6_inn_54 rfl ?_
        refine k_pTX4_length (pc := 56) kwf_X6_80 rfl dX6_inn_56 (fun σ9 => ?_)
        refine k_aload_n (pc := 59) dX6_inn_59 rfl ?_
        refine k_gTX6_sheets (pc := 60) kwf_X6_12 rfl dX6_inn_60 ?_
        refine k_iload_n (pc := 63) dX6_inn_63 rfl ?_
        refine k_iload_n (pc := 64) dX6_inn_64 rfl ?_
        refine k_iload (pc := 65) dX6_inn_65 rfl ?_
        refine k_aload_n (pc := 67) dX6_inn_67 rfl ?_
        refine k_gTX6_text (pc := 68) kwf_X6_21 rfl dX6_inn_68 ?_
        refine k_gTX4_codes (pc := 71) kwf_X6_83 rfl dX6_inn_71 ?_
        refine k_vv4 (pc := 74) (cT_same _ _) ckX2_take kwm_X6_86 cT_rv1 ⟨rfl, rfl⟩ ⟨Nat.le_of_ble_eq_true rfl, Nat.le_of_ble_eq_true rfl⟩ ⟨Nat.zero_le _, Nat.zero_le _⟩ (Nat.le_of_ble_eq_true rfl) dX6_inn_74 (fun _ _ hf => kX2_take_a11 hf) (fun r10 σ11 => ?_)
        refine k_aload_n (pc := 77) dX6_inn_77 rfl ?_
        refine k_gTX6_text (pc := 78) kwf_X6_21 rfl dX6_inn_78 ?_
        refine k_vi0 (pc := 81) (cT_same _ _) ckX4_firstFault kwm_X6_90 cT_rv2 ⟨rfl, rfl⟩ ⟨Nat.le_of_ble_eq_true rfl, Nat.le_of_ble_eq_true rfl⟩ ⟨Nat.zero_le _, Nat.zero_le _⟩ (Nat.le_of_ble_eq_true rfl) dX6_inn_81 (fun _ _ hf => kX4_firstFault hf) (fun r12 σ13 => ?_)
        refine k_ist6 (pc := 84) dX6_inn_84 (by decide) (fun v14 => ?_)
        refine k_iload (pc := 86) dX6_inn_86 rfl ?_
        refine k_iconst (pc := 88) (v := (-1)) dX6_inn_88 (by decide) ?_
        refine k_icmp_eq (pc := 89) 98 dX6_inn_89 (by decide) ?_ ?_
        · refine k_aload_n (pc := 98) dX6_inn_98 rfl ?_
          refine k_gTX6_house (pc := 99) kwf_X6_28 rfl dX6_inn_99 ?_
          refine k_aload_n (pc := 102) dX6_inn_102 rfl ?_
          refine k_gTX6_text (pc := 103) kwf_X6_21 rfl dX6_inn_103 ?_
          refine k_vv1 (pc := 106) (cT_same _ _) ckX0_open kwm_X6_94 cT_rv3 ⟨rfl, rfl⟩ ⟨Nat.le_of_ble_eq_true rfl, Nat.le_of_ble_eq_true rfl⟩ ⟨Nat.zero_le _, Nat.zero_le _⟩ (Nat.le_of_ble_eq_true rfl) dX6_inn_106 (fun _ _ hf => kX0_open hf) (fun r15 σ16 => ?_)
          refine k_aload_n (pc := 109) dX6_inn_109 rfl ?_
          refine k_gTX6_house (pc := 110) kwf_X6_28 rfl dX6_inn_110 ?_
          refine k_gTX0_tales (pc := 113) kwf_X6_98 rfl dX6_inn_113 ?_
          exact k_ireturn (pc := 116) rfl dX6_inn_116
        · refine k_bipush (pc := 92) (v := (-100)) dX6_inn_92 (by decide) ?_
          refine k_iload (pc := 94) dX6_inn_94 rfl ?_
          refine k_isub (pc := 96) dX6_inn_96 ?_
          exact k_ireturn (pc := 97) rfl dX6_inn_97
      · refine k_aload_n (pc := 43) dX6_inn_43 rfl ?_
        refine k_iload (pc := 44) dX6_inn_44 rfl ?_
        refine k_vi1 (pc := 46) (cT_same _ _) ckX6_faulty kwm_X6_76 cT_rv0 ⟨rfl, rfl⟩ ⟨Nat.le_of_ble_eq_true rfl, Nat.le_of_ble_eq_true rfl⟩ ⟨Nat.zero_le _, Nat.zero_le _⟩ (Nat.le_of_ble_eq_true rfl) dX6_inn_46 (fun _ _ hf => kX6_faulty hf) (fun r17 σ18 => ?_)
        exact k_ireturn (pc := 49) rfl dX6_inn_49
    · refine k_bipush (pc := 21) (v := (-2)) dX6_inn_21 (by decide) ?_
      exact k_ireturn (pc := 23) rfl dX6_inn_23
  · refine k_iconst (pc := 12) (v := (-1)) dX6_inn_12 (by decide) ?_
    exact k_ireturn (pc := 13) rfl dX6_inn_13
-- TallTales$House.tallWhenTold(II)I
theorem ckX0_tallWhenTold : k_Vok yX0_tallWhenTold cX0_tallWhenTold 3 (some .int) 2 := ⟨kwk_X0_tallWhenTold, kwi_X0_tallWhenTold, kwv_X0_tallWhenTold, kwn_X0, by decide, by decide +kernel⟩
abbrev rmX0_tallWhenTold : Room := { frames := 0, cells := 0, slots := 0, locals := 0 }
abbrev YX0_tallWhenTold : k_Y := (rmX0_tallWhenTold, cX0_tallWhenTold, 3, RX0, (some .int))
noncomputable def fX0_tallWhenTold (σ : k_S) (x1 x2 : Int32) : Option (Int32 × k_S) := k_gd (x1) 10 ((if σ.2 5 (Int32.toNatClampNeg (x1)) = 1 then k_gd (x1) 10 (some ((σ.2 7 (Int32.toNatClampNeg (x1)) + (10 * x2)), σ)) else (if σ.2 5 (Int32.toNatClampNeg (x1)) = 2 then k_gd (x1) 10 (some ((σ.2 7 (Int32.toNatClampNeg (x1)) + 900), σ)) else k_gd (x1) 10 (some (σ.2 7 (Int32.toNatClampNeg (x1)), σ)))))
set_option maxRecDepth 100000 in
set_option maxHeartbeats 4000000 in
theorem kX0_tallWhenTold {D : va_G} {cI : ClassId} {q : Nat → Nat} {σ : k_S} {x1 x2 : Int32} {r : Int32} {τ : k_S} (h : fX0_tallWhenTold σ x1 x2 = some (r, τ)) : k_Ct k_ei yX0_tallWhenTold cX0_tallWhenTold 3 (some .int) rmX0_tallWhenTold (cT cI q) D cI [.ref (q 3), .int x1, .int x2] σ r τ := by
  refine k_met (Y := YX0_tallWhenTold) (cT_same _ _) (by decide) rfl (Nat.le_of_ble_eq_true rfl) (List.forall_mem_cons.mpr ⟨rfl, List.forall_mem_cons.mpr ⟨rfl, List.forall_mem_cons.mpr ⟨rfl, fun _ h => absurd h List.not_mem_nil⟩⟩⟩) (fun X hD hI => ?_) h
  subst hD hI
  show KO X YX0_tallWhenTold (cT (k_I X) q) 0 0 (k_Q k_ei X (cT (k_I X) q)) 0 [some (.ref (q 3)), some (.int x1), some (.int x2)] [] σ _
  unfold fX0_tallWhenTold
  refine k_aload_n (pc := 0) dX0_tallWhenTold_0 rfl ?_
  refine k_gTX0_kinds (pc := 1) kwf_X0_9 rfl dX0_tallWhenTold_1 ?_
  refine k_iload_n (pc := 4) dX0_tallWhenTold_4 rfl ?_
  refine k_lT12 (pc := 5) dX0_tallWhenTold_5 ?_
  refine KO.ite (c := σ.2 5 (Int32.toNatClampNeg (x1)) = 1) (fun hs1_0 => ?_) (fun hs1_0 => ?_)
  · refine k_lookup (off := 26) (pc := 6) 32 dX0_tallWhenTold_6 (by decide) (by rw [hs1_0]; decide) (by decide) ?_
    refine k_aload_n (pc := 32) dX0_tallWhenTold_32 rfl ?_
    refine k_gTX0_heights (pc := 33) kwf_X0_18 rfl dX0_tallWhenTold_33 ?_
    refine k_iload_n (pc := 36) dX0_tallWhenTold_36 rfl ?_
    refine k_lT14 (pc := 37) dX0_tallWhenTold_37 ?_
    refine k_bipush (pc := 38) (v := 10) dX0_tallWhenTold_38 (by decide) ?_
    refine k_iload_n (pc := 40) dX0_tallWhenTold_40 rfl ?_
    refine k_imul (pc := 41) dX0_tallWhenTold_41 ?_
    refine k_iadd (pc := 42) dX0_tallWhenTold_42 ?_
    exact k_ireturn (pc := 43) rfl dX0_tallWhenTold_43
  · refine KO.ite (c := σ.2 5 (Int32.toNatClampNeg (x1)) = 2) (fun hs1_1 => ?_) (fun hs1_1 => ?_)
    · refine k_lookup (off := 38) (pc := 6) 44 dX0_tallWhenTold_6 (by decide) (by rw [hs1_1]; decide) (by decide) ?_
      refine k_aload_n (pc := 44) dX0_tallWhenTold_44 rfl ?_
      refine k_gTX0_heights (pc := 45) kwf_X0_18 rfl dX0_tallWhenTold_45 ?_
      refine k_iload_n (pc := 48) dX0_tallWhenTold_48 rfl ?_
      refine k_lT14 (pc := 49) dX0_tallWhenTold_49 ?_
      refine k_sipush (pc := 50) (v := 900) dX0_tallWhenTold_50 (by decide) ?_
      refine k_iadd (pc := 53) dX0_tallWhenTold_53 ?_
      exact k_ireturn (pc := 54) rfl dX0_tallWhenTold_54
    · refine k_lookup (off := 49) (pc := 6) 55 dX0_tallWhenTold_6 (by decide) (by refine (lv_osw hs1_0 rfl).trans ?_; refine (lv_osw hs1_1 rfl).trans ?_; rfl) (by decide) ?_
      refine k_aload_n (pc := 55) dX0_tallWhenTold_55 rfl ?_
      refine k_gTX0_heights (pc := 56) kwf_X0_18 rfl dX0_tallWhenTold_56 ?_
      refine k_iload_n (pc := 59) dX0_tallWhenTold_59 rfl ?_
      refine k_lT14 (pc := 60) dX0_tallWhenTold_60 ?_
      exact k_ireturn (pc := 61) rfl dX0_tallWhenTold_61
-- TallTales$House.tallOf(I)I
theorem ckX0_tallOf : k_Vok yX0_tallOf cX0_tallOf 2 (some .int) 1 := ⟨kwk_X0_tallOf, kwi_X0_tallOf, kwv_X0_tallOf, kwn_X0, by decide, by decide +kernel⟩
abbrev rmX0_tallOf : Room := { frames := 1, cells := 0, slots := 0, locals := 22 }
abbrev YX0_tallOf : k_Y := (rmX0_tallOf, cX0_tallOf, 2, RX0, (some .int))
noncomputable def fX0_tallOf (σ : k_S) (x1 : Int32) : Option (Int32 × k_S) := k_gd (x1) 10 (k_ob (fX0_tallWhenTold σ x1 (σ.2 8 (Int32.toNatClampNeg (x1)))) fun r1 σ2 => some (r1, σ2))
set_option maxRecDepth 100000 in
set_option maxHeartbeats 4000000 in
theorem kX0_tallOf {D : va_G} {cI : ClassId} {q : Nat → Nat} {σ : k_S} {x1 : Int32} {r : Int32} {τ : k_S} (h : fX0_tallOf σ x1 = some (r, τ)) : k_Ct k_ei yX0_tallOf cX0_tallOf 2 (some .int) rmX0_tallOf (cT cI q) D cI [.ref (q 3), .int x1] σ r τ := by
  refine k_met (Y := YX0_tallOf) (cT_same _ _) (by decide) rfl (Nat.le_of_ble_eq_true rfl) (List.forall_mem_cons.mpr ⟨rfl, List.forall_mem_cons.mpr ⟨rfl, fun _ h => absurd h List.not_mem_nil⟩⟩) (fun X hD hI => ?_) h
  subst hD hI
  show KO X YX0_tallOf (cT (k_I X) q) 0 0 (k_Q k_ei X (cT (k_I X) q)) 0 [some (.ref (q 3)), some (.int x1)] [] σ _
  unfold fX0_tallOf
  refine k_aload_n (pc := 0) dX0_tallOf_0 rfl ?_
  refine k_iload_n (pc := 1) dX0_tallOf_1 rfl ?_
  refine k_aload_n (pc := 2) dX0_tallOf_2 rfl ?_
  refine k_gTX0_told (pc := 3) kwf_X0_21 rfl dX0_tallOf_3 ?_
  refine k_iload_n (pc := 6) dX0_tallOf_6 rfl ?_
  refine k_lT15 (pc := 7) dX0_tallOf_7 ?_
  refine k_vi2 (pc := 8) (cT_same _ _) ckX0_tallWhenTold kwm_X0_77 cT_rv3 ⟨rfl, rfl⟩ ⟨Nat.le_of_ble_eq_true rfl, Nat.le_of_ble_eq_true rfl⟩ ⟨Nat.zero_le _, Nat.zero_le _⟩ (Nat.le_of_ble_eq_true rfl) dX0_tallOf_8 (fun _ _ hf => kX0_tallWhenTold hf) (fun r1 σ2 => ?_)
  exact k_ireturn (pc := 11) rfl dX0_tallOf_11
-- TallTales$House.mayBeTold(IIII)Z
theorem ckX0_mayBeTold : k_Vok yX0_mayBeTold cX0_mayBeTold 5 (some .boolean) 4 := ⟨kwk_X0_mayBeTold, kwi_X0_mayBeTold, kwv_X0_mayBeTold, kwn_X0, by decide, by decide +kernel⟩
abbrev rmX0_mayBeTold : Room := { frames := 0, cells := 0, slots := 0, locals := 0 }
abbrev YX0_mayBeTold : k_Y := (rmX0_mayBeTold, cX0_mayBeTold, 5, RX0, (some .boolean))
noncomputable def fX0_mayBeTold (σ : k_S) (x1 x2 x3 x4 : Int32) : Option (Int32 × k_S) := (if x2 = 0 then k_z (1) (some (1, σ)) else k_gd (x1) 10 ((if σ.2 5 (Int32.toNatClampNeg (x1)) = 1 then (if x3 = (x4 - 1) then k_z (0) (some (0, σ)) else k_z (1) (some (1, σ))) else (if σ.2 5 (Int32.toNatClampNeg (x1)) = 2 then k_z (0) (some (0, σ)) else (if x4 < ((x3 + 1) + σ.1 5) then k_z (0) (some (0, σ)) else k_z (1) (some (1, σ)))))))
set_option maxRecDepth 100000 in
set_option maxHeartbeats 4000000 in
theorem kX0_mayBeTold {D : va_G} {cI : ClassId} {q : Nat → Nat} {σ : k_S} {x1 x2 x3 x4 : Int32} {r : Int32} {τ : k_S} (h : fX0_mayBeTold σ x1 x2 x3 x4 = some (r, τ)) : k_Ct k_ei yX0_mayBeTold cX0_mayBeTold 5 (some .boolean) rmX0_mayBeTold (cT cI q) D cI [.ref (q 3), .int x1, .int x2, .int x3, .int x4] σ r τ := by
  refine k_met (Y := YX0_mayBeTold) (cT_same _ _) (by decide) rfl (Nat.le_of_ble_eq_true rfl) (List.forall_mem_cons.mpr ⟨rfl, List.forall_mem_cons.mpr ⟨rfl, List.forall_mem_cons.mpr ⟨rfl, List.forall_mem_cons.mpr ⟨rfl, List.forall_mem_cons.mpr ⟨rfl, fun _ h => absurd h List.not_mem_nil⟩⟩⟩⟩⟩) (fun X hD hI => ?_) h
  subst hD hI
  show KO X YX0_mayBeTold (cT (k_I X) q) 0 0 (k_Q k_ei X (cT (k_I X) q)) 0 [some (.ref (q 3)), some (.int x1), some (.int x2), some (.int x3), some (.int x4)] [] σ _
  unfold fX0_mayBeTold
  refine k_iload_n (pc := 0) dX0_mayBeTold_0 rfl ?_
  refine k_if_ne (pc := 1) 6 dX0_mayBeTold_1 (by decide) ?_ ?_
  · refine k_aload_n (pc := 6) dX0_mayBeTold_6 rfl ?_
    refine k_gTX0_kinds (pc := 7) kwf_X0_9 rfl dX0_mayBeTold_7 ?_
    refine k_iload_n (pc := 10) dX0_mayBeTold_10 rfl ?_
    refine k_lT12 (pc := 11) dX0_mayBeTold_11 ?_
    refine KO.ite (c := σ.2 5 (Int32.toNatClampNeg (x1)) = 1) (fun hs1_0 => ?_) (fun hs1_0 => ?_)
    · refine k_lookup (off := 28) (pc := 12) 40 dX0_mayBeTold_12 (by decide) (by rw [hs1_0]; decide) (by decide) ?_
      refine k_iload_n (pc := 40) dX0_mayBeTold_40 rfl ?_
      refine k_iload (pc := 41) dX0_mayBeTold_41 rfl ?_
      refine k_iconst (pc := 43) (v := 1) dX0_mayBeTold_43 (by decide) ?_
      refine k_isub (pc := 44) dX0_mayBeTold_44 ?_
      refine k_icmp_eq (pc := 45) 52 dX0_mayBeTold_45 (by decide) ?_ ?_
      · refine k_iconst (pc := 52) (v := 0) dX0_mayBeTold_52 (by decide) ?_
        exact k_zreturn (pc := 53) rfl dX0_mayBeTold_53
      · refine k_iconst (pc := 48) (v := 1) dX0_mayBeTold_48 (by decide) ?_
        refine k_goto (pc := 49) 53 dX0_mayBeTold_49 (by decide) ?_
        exact k_zreturn (pc := 53) rfl dX0_mayBeTold_53
    · refine KO.ite (c := σ.2 5 (Int32.toNatClampNeg (x1)) = 2) (fun hs1_1 => ?_) (fun hs1_1 => ?_)
      · refine k_lookup (off := 42) (pc := 12) 54 dX0_mayBeTold_12 (by decide) (by rw [hs1_1]; decide) (by decide) ?_
        refine k_iconst (pc := 54) (v := 0) dX0_mayBeTold_54 (by decide) ?_
        exact k_zreturn (pc := 55) rfl dX0_mayBeTold_55
      · refine k_lookup (off := 44) (pc := 12) 56 dX0_mayBeTold_12 (by decide) (by refine (lv_osw hs1_0 rfl).trans ?_; refine (lv_osw hs1_1 rfl).trans ?_; rfl) (by decide) ?_
        refine k_iload (pc := 56) dX0_mayBeTold_56 rfl ?_
        refine k_iload_n (pc := 58) dX0_mayBeTold_58 rfl ?_
        refine k_iconst (pc := 59) (v := 1) dX0_mayBeTold_59 (by decide) ?_
        refine k_iadd (pc := 60) dX0_mayBeTold_60 ?_
        refine k_aload_n (pc := 61) dX0_mayBeTold_61 rfl ?_
        refine k_gTX0_memory (pc := 62) kwf_X0_63 rfl dX0_mayBeTold_62 ?_
        refine k_iadd (pc := 65) dX0_mayBeTold_65 ?_
        refine k_icmp_lt (pc := 66) 73 dX0_mayBeTold_66 (by decide) ?_ ?_
        · refine k_iconst (pc := 73) (v := 0) dX0_mayBeTold_73 (by decide) ?_
          exact k_zreturn (pc := 74) rfl dX0_mayBeTold_74
        · refine k_iconst (pc := 69) (v := 1) dX0_mayBeTold_69 (by decide) ?_
          refine k_goto (pc := 70) 74 dX0_mayBeTold_70 (by decide) ?_
          exact k_zreturn (pc := 74) rfl dX0_mayBeTold_74
  · refine k_iconst (pc := 4) (v := 1) dX0_mayBeTold_4 (by decide) ?_
    exact k_zreturn (pc := 5) rfl dX0_mayBeTold_5
-- TallTales$House.isTellable(I)Z
theorem ckX0_isTellable : k_Vok yX0_isTellable cX0_isTellable 2 (some .boolean) 1 := ⟨kwk_X0_isTellable, kwi_X0_isTellable, kwv_X0_isTellable, kwn_X0, by decide, by decide +kernel⟩
abbrev rmX0_isTellable : Room := { frames := 1, cells := 0, slots := 0, locals := 24 }
abbrev YX0_isTellable : k_Y := (rmX0_isTellable, cX0_isTellable, 2, RX0, (some .boolean))
noncomputable def fX0_isTellable (σ : k_S) (x1 : Int32) : Option (Int32 × k_S) := k_gd (x1) 10 (k_gd (x1) 10 (k_ob (fX0_mayBeTold σ x1 (σ.2 8 (Int32.toNatClampNeg (x1))) (σ.2 9 (Int32.toNatClampNeg (x1))) (σ.1 6)) fun r1 σ2 => k_z (r1) (some (r1, σ2))))
set_option maxRecDepth 100000 in
set_option maxHeartbeats 4000000 in
theorem kX0_isTellable {D : va_G} {cI : ClassId} {q : Nat → Nat} {σ : k_S} {x1 : Int32} {r : Int32} {τ : k_S} (h : fX0_isTellable σ x1 = some (r, τ)) : k_Ct k_ei yX0_isTellable cX0_isTellable 2 (some .boolean) rmX0_isTellable (cT cI q) D cI [.ref (q 3), .int x1] σ r τ := by
  refine k_met (Y := YX0_isTellable) (cT_same _ _) (by decide) rfl (Nat.le_of_ble_eq_true rfl) (List.forall_mem_cons.mpr ⟨rfl, List.forall_mem_cons.mpr ⟨rfl, fun _ h => absurd h List.not_mem_nil⟩⟩) (fun X hD hI => ?_) h
  subst hD hI
  show KO X YX0_isTellable (cT (k_I X) q) 0 0 (k_Q k_ei X (cT (k_I X) q)) 0 [some (.ref (q 3)), some (.int x1)] [] σ _
  unfold fX0_isTellable
  refine k_aload_n (pc := 0) dX0_isTellable_0 rfl ?_
  refine k_iload_n (pc := 1) dX0_isTellable_1 rfl ?_
  refine k_aload_n (pc := 2) dX0_isTellable_2 rfl ?_
  refine k_gTX0_told (pc := 3) kwf_X0_21 rfl dX0_isTellable_3 ?_
  refine k_iload_n (pc := 6) dX0_isTellable_6 rfl ?_
  refine k_lT15 (pc := 7) dX0_isTellable_7 ?_
  refine k_aload_n (pc := 8) dX0_isTellable_8 rfl ?_
  refine k_gTX0_last (pc := 9) kwf_X0_24 rfl dX0_isTellable_9 ?_
  refine k_iload_n (pc := 12) dX0_isTellable_12 rfl ?_
  refine k_lT16 (pc := 13) dX0_isTellable_13 ?_
  refine k_aload_n (pc := 14) dX0_isTellable_14 rfl ?_
  refine k_gTX0_nights (pc := 15) kwf_X0_66 rfl dX0_isTellable_15 ?_
  refine k_vi4 (pc := 18) (cT_same _ _) ckX0_mayBeTold kwm_X0_73 cT_rv3 ⟨rfl, rfl⟩ ⟨Nat.le_of_ble_eq_true rfl, Nat.le_of_ble_eq_true rfl⟩ ⟨Nat.zero_le _, Nat.zero_le _⟩ (Nat.le_of_ble_eq_true rfl) dX0_isTellable_18 (fun _ _ hf => kX0_mayBeTold hf) (fun r1 σ2 => ?_)
  exact k_zreturn (pc := 21) rfl dX0_isTellable_21
-- TallTales.ofTale(II)I
theorem ckX6_ofTale : k_Vok yX6_ofTale cX6_ofTale 3 (some .int) 2 := ⟨kwk_X6_ofTale, kwi_X6_ofTale, kwv_X6_ofTale, kwn_X6, by decide, by decide +kernel⟩
abbrev rmX6_ofTale : Room := { frames := 2, cells := 0, slots := 0, locals := 45 }
abbrev YX6_ofTale : k_Y := (rmX6_ofTale, cX6_ofTale, 3, RX6, (some .int))
noncomputable def fX6_ofTale (σ : k_S) (x1 x2 : Int32) : Option (Int32 × k_S) := k_ob (fX0_hasTale σ x1) fun r1 σ2 => (if r1 = 0 then some ((-1), σ2) else (if x2 = 0 then k_gd (x1) 10 (some (σ2.2 5 (Int32.toNatClampNeg (x1)), σ2)) else (if x2 = 1 then k_gd (x1) 10 (some (σ2.2 6 (Int32.toNatClampNeg (x1)), σ2)) else (if x2 = 2 then k_gd (x1) 10 (some (σ2.2 7 (Int32.toNatClampNeg (x1)), σ2)) else (if x2 = 3 then k_gd (x1) 10 (some (σ2.2 8 (Int32.toNatClampNeg (x1)), σ2)) else (if x2 = 4 then k_gd (x1) 10 (some (σ2.2 9 (Int32.toNatClampNeg (x1)), σ2)) else (if x2 = 5 then k_ob (fX0_isTellable σ2 x1) fun r4 σ5 => (if r4 = 0 then some (0, σ5) else some (1, σ5)) else (if x2 = 6 then k_ob (fX0_tallOf σ2 x1) fun r6 σ7 => some (r6, σ7) else some ((-2), σ2)))))))))
set_option maxRecDepth 100000 in
set_option maxHeartbeats 4000000 in
theorem kX6_ofTale {D : va_G} {cI : ClassId} {q : Nat → Nat} {σ : k_S} {x1 x2 : Int32} {r : Int32} {τ : k_S} (h : fX6_ofTale σ x1 x2 = some (r, τ)) : k_Ct k_ei yX6_ofTale cX6_ofTale 3 (some .int) rmX6_ofTale (cT cI q) D cI [.ref (q 0), .int x1, .int x2] σ r τ := by
  refine k_met (Y := YX6_ofTale) (cT_same _ _) (by decide) rfl (Nat.le_of_ble_eq_true rfl) (List.forall_mem_cons.mpr ⟨rfl, List.forall_mem_cons.mpr ⟨rfl, List.forall_mem_cons.mpr ⟨rfl, fun _ h => absurd h List.not_mem_nil⟩⟩⟩) (fun X hD hI => ?_) h
  subst hD hI
  show KO X YX6_ofTale (cT (k_I X) q) 0 0 (k_Q k_ei X (cT (k_I X) q)) 0 [some (.ref (q 0)), some (.int x1), some (.int x2)] [] σ _
  unfold fX6_ofTale
  refine k_aload_n (pc := 0) dX6_ofTale_0 rfl ?_
  refine k_gTX6_house (pc := 1) kwf_X6_28 rfl dX6_ofTale_1 ?_
  refine k_iload_n (pc := 4) dX6_ofTale_4 rfl ?_
  refine k_vi1 (pc := 5) (cT_same _ _) ckX0_hasTale kwm_X6_101 cT_rv3 ⟨rfl, rfl⟩ ⟨Nat.le_of_ble_eq_true rfl, Nat.le_of_ble_eq_true rfl⟩ ⟨Nat.zero_le _, Nat.zero_le _⟩ (Nat.le_of_ble_eq_true rfl) dX6_ofTale_5 (fun _ _ hf => kX0_hasTale hf) (fun r1 σ2 => ?_)
  refine k_if_ne (pc := 8) 13 dX6_ofTale_8 (by decide) ?_ ?_
  · refine k_iload_n (pc := 13) dX6_ofTale_13 rfl ?_
    refine KO.ite (c := x2 = 0) (fun hs3_0 => ?_) (fun hs3_0 => ?_)
    · refine k_tableIn (off := 42) (pc := 14) 56 dX6_ofTale_14 hs3_0 (by decide) (by decide) (by decide) (by decide) ?_
      refine k_aload_n (pc := 56) dX6_ofTale_56 rfl ?_
      refine k_gTX6_house (pc := 57) kwf_X6_28 rfl dX6_ofTale_57 ?_
      refine k_gTX0_kinds (pc := 60) kwf_X6_104 rfl dX6_ofTale_60 ?_
      refine k_iload_n (pc := 63) dX6_ofTale_63 rfl ?_
      refine k_lT12 (pc := 64) dX6_ofTale_64 ?_
      exact k_ireturn (pc := 65) rfl dX6_ofTale_65
    · refine KO.ite (c := x2 = 1) (fun hs3_1 => ?_) (fun hs3_1 => ?_)
      · refine k_tableIn (off := 52) (pc := 14) 66 dX6_ofTale_14 hs3_1 (by decide) (by decide) (by decide) (by decide) ?_
        refine k_aload_n (pc := 66) dX6_ofTale_66 rfl ?_
        refine k_gTX6_house (pc := 67) kwf_X6_28 rfl dX6_ofTale_67 ?_
        refine k_gTX0_owners (pc := 70) kwf_X6_107 rfl dX6_ofTale_70 ?_
        refine k_iload_n (pc := 73) dX6_ofTale_73 rfl ?_
        refine k_lT13 (pc := 74) dX6_ofTale_74 ?_
        exact k_ireturn (pc := 75) rfl dX6_ofTale_75
      · refine KO.ite (c := x2 = 2) (fun hs3_2 => ?_) (fun hs3_2 => ?_)
        · refine k_tableIn (off := 62) (pc := 14) 76 dX6_ofTale_14 hs3_2 (by decide) (by decide) (by decide) (by decide) ?_
          refine k_aload_n (pc := 76) dX6_ofTale_76 rfl ?_
          refine k_gTX6_house (pc := 77) kwf_X6_28 rfl dX6_ofTale_77 ?_
          refine k_gTX0_heights (pc := 80) kwf_X6_110 rfl dX6_ofTale_80 ?_
          refine k_iload_n (pc := 83) dX6_ofTale_83 rfl ?_
          refine k_lT14 (pc := 84) dX6_ofTale_84 ?_
          exact k_ireturn (pc := 85) rfl dX6_ofTale_85
        · refine KO.ite (c := x2 = 3) (fun hs3_3 => ?_) (fun hs3_3 => ?_)
          · refine k_tableIn (off := 72) (pc := 14) 86 dX6_ofTale_14 hs3_3 (by decide) (by decide) (by decide) (by decide) ?_
            refine k_aload_n (pc := 86) dX6_ofTale_86 rfl ?_
            refine k_gTX6_house (pc := 87) kwf_X6_28 rfl dX6_ofTale_87 ?_
            refine k_gTX0_told (pc := 90) kwf_X6_113 rfl dX6_ofTale_90 ?_
            refine k_iload_n (pc := 93) dX6_ofTale_93 rfl ?_
            refine k_lT15 (pc := 94) dX6_ofTale_94 ?_
            exact k_ireturn (pc := 95) rfl dX6_ofTale_95
          · refine KO.ite (c := x2 = 4) (fun hs3_4 => ?_) (fun hs3_4 => ?_)
            · refine k_tableIn (off := 82) (pc := 14) 96 dX6_ofTale_14 hs3_4 (by decide) (by decide) (by decide) (by decide) ?_
              refine k_aload_n (pc := 96) dX6_ofTale_96 rfl ?_
              refine k_gTX6_house (pc := 97) kwf_X6_28 rfl dX6_ofTale_97 ?_
              refine k_gTX0_last (pc := 100) kwf_X6_116 rfl dX6_ofTale_100 ?_
              refine k_iload_n (pc := 103) dX6_ofTale_103 rfl ?_
              refine k_lT16 (pc := 104) dX6_ofTale_104 ?_
              exact k_ireturn (pc := 105) rfl dX6_ofTale_105
            · refine KO.ite (c := x2 = 5) (fun hs3_5 => ?_) (fun hs3_5 => ?_)
              · refine k_tableIn (off := 92) (pc := 14) 106 dX6_ofTale_14 hs3_5 (by decide) (by decide) (by decide) (by decide) ?_
                refine k_aload_n (pc := 106) dX6_ofTale_106 rfl ?_
                refine k_gTX6_house (pc := 107) kwf_X6_28 rfl dX6_ofTale_107 ?_
                refine k_iload_n (pc := 110) dX6_ofTale_110 rfl ?_
                refine k_vi1 (pc := 111) (cT_same _ _) ckX0_isTellable kwm_X6_119 cT_rv3 ⟨rfl, rfl⟩ ⟨Nat.le_of_ble_eq_true rfl, Nat.le_of_ble_eq_true rfl⟩ ⟨Nat.zero_le _, Nat.zero_le _⟩ (Nat.le_of_ble_eq_true rfl) dX6_ofTale_111 (fun _ _ hf => kX0_isTellable hf) (fun r4 σ5 => ?_)
                refine k_if_eq (pc := 114) 121 dX6_ofTale_114 (by decide) ?_ ?_
                · refine k_iconst (pc := 121) (v := 0) dX6_ofTale_121 (by decide) ?_
                  exact k_ireturn (pc := 122) rfl dX6_ofTale_122
                · refine k_iconst (pc := 117) (v := 1) dX6_ofTale_117 (by decide) ?_
                  refine k_goto (pc := 118) 122 dX6_ofTale_118 (by decide) ?_
                  exact k_ireturn (pc := 122) rfl dX6_ofTale_122
              · refine KO.ite (c := x2 = 6) (fun hs3_6 => ?_) (fun hs3_6 => ?_)
                · refine k_tableIn (off := 109) (pc := 14) 123 dX6_ofTale_14 hs3_6 (by decide) (by decide) (by decide) (by decide) ?_
                  refine k_aload_n (pc := 123) dX6_ofTale_123 rfl ?_
                  refine k_gTX6_house (pc := 124) kwf_X6_28 rfl dX6_ofTale_124 ?_
                  refine k_iload_n (pc := 127) dX6_ofTale_127 rfl ?_
                  refine k_vi1 (pc := 128) (cT_same _ _) ckX0_tallOf kwm_X6_122 cT_rv3 ⟨rfl, rfl⟩ ⟨Nat.le_of_ble_eq_true rfl, Nat.le_of_ble_eq_true rfl⟩ ⟨Nat.zero_le _, Nat.zero_le _⟩ (Nat.le_of_ble_eq_true rfl) dX6_ofTale_128 (fun _ _ hf => kX0_tallOf hf) (fun r6 σ7 => ?_)
                  exact k_ireturn (pc := 131) rfl dX6_ofTale_131
                · refine k_tableOut (pc := 14) 132 dX6_ofTale_14 (by have g0 := lv_neT (a := 0) hs3_0 (by decide); have g1 := lv_neT (a := 1) hs3_1 (by decide); have g2 := lv_neT (a := 2) hs3_2 (by decide); have g3 := lv_neT (a := 3) hs3_3 (by decide); have g4 := lv_neT (a := 4) hs3_4 (by decide); have g5 := lv_neT (a := 5) hs3_5 (by decide); have g6 := lv_neT (a := 6) hs3_6 (by decide); omega) (by decide) ?_
                  refine k_bipush (pc := 132) (v := (-2)) dX6_ofTale_132 (by decide) ?_
                  exact k_ireturn (pc := 134) rfl dX6_ofTale_134
  · refine k_iconst (pc := 11) (v := (-1)) dX6_ofTale_11 (by decide) ?_
    exact k_ireturn (pc := 12) rfl dX6_ofTale_12
-- TallTales$House.isOpen()Z
theorem ckX0_isOpen : k_Vok yX0_isOpen cX0_isOpen 1 (some .boolean) 0 := ⟨kwk_X0_isOpen, kwi_X0_isOpen, kwv_X0_isOpen, kwn_X0, by decide, by decide +kernel⟩
abbrev rmX0_isOpen : Room := { frames := 0, cells := 0, slots := 0, locals := 0 }
abbrev YX0_isOpen : k_Y := (rmX0_isOpen, cX0_isOpen, 1, RX0, (some .boolean))
noncomputable def fX0_isOpen (σ : k_S) : Option (Int32 × k_S) := (if 0 < σ.1 3 then k_z (1) (some (1, σ)) else k_z (0) (some (0, σ)))
set_option maxRecDepth 100000 in
set_option maxHeartbeats 4000000 in
theorem kX0_isOpen {D : va_G} {cI : ClassId} {q : Nat → Nat} {σ : k_S} {r : Int32} {τ : k_S} (h : fX0_isOpen σ = some (r, τ)) : k_Ct k_ei yX0_isOpen cX0_isOpen 1 (some .boolean) rmX0_isOpen (cT cI q) D cI [.ref (q 3)] σ r τ := by
  refine k_met (Y := YX0_isOpen) (cT_same _ _) (by decide) rfl (Nat.le_of_ble_eq_true rfl) (List.forall_mem_cons.mpr ⟨rfl, fun _ h => absurd h List.not_mem_nil⟩) (fun X hD hI => ?_) h
  subst hD hI
  show KO X YX0_isOpen (cT (k_I X) q) 0 0 (k_Q k_ei X (cT (k_I X) q)) 0 [some (.ref (q 3))] [] σ _
  unfold fX0_isOpen
  refine k_aload_n (pc := 0) dX0_isOpen_0 rfl ?_
  refine k_gTX0_guests (pc := 1) kwf_X0_45 rfl dX0_isOpen_1 ?_
  refine k_if_le (pc := 4) 11 dX0_isOpen_4 (by decide) ?_ ?_
  · refine k_iconst (pc := 11) (v := 0) dX0_isOpen_11 (by decide) ?_
    exact k_zreturn (pc := 12) rfl dX0_isOpen_12
  · refine k_iconst (pc := 7) (v := 1) dX0_isOpen_7 (by decide) ?_
    refine k_goto (pc := 8) 12 dX0_isOpen_8 (by decide) ?_
    exact k_zreturn (pc := 12) rfl dX0_isOpen_12
-- TallTales.memory(I)I
theorem ckX6_memory : k_Vok yX6_memory cX6_memory 3 (some .int) 1 := ⟨kwk_X6_memory, kwi_X6_memory, kwv_X6_memory, kwn_X6, by decide, by decide +kernel⟩
abbrev rmX6_memory : Room := { frames := 1, cells := 0, slots := 0, locals := 20 }
abbrev YX6_memory : k_Y := (rmX6_memory, cX6_memory, 3, RX6, (some .int))
noncomputable def fX6_memory (σ : k_S) (x1 : Int32) : Option (Int32 × k_S) := (if x1 < 0 then some ((-2), σ) else (if 99 < x1 then some ((-2), σ) else k_ob (fX0_isOpen σ) fun r1 σ2 => (if r1 = 0 then some ((-3), σ2) else k_bn (σ2.1 5) fun v3 => k_bn (k_sf σ2 5 (x1)) fun σ4 => some (v3, σ4))))
set_option maxRecDepth 100000 in
set_option maxHeartbeats 4000000 in
theorem kX6_memory {D : va_G} {cI : ClassId} {q : Nat → Nat} {σ : k_S} {x1 : Int32} {r : Int32} {τ : k_S} (h : fX6_memory σ x1 = some (r, τ)) : k_Ct k_ei yX6_memory cX6_memory 3 (some .int) rmX6_memory (cT cI q) D cI [.ref (q 0), .int x1] σ r τ := by
  refine k_met (Y := YX6_memory) (cT_same _ _) (by decide) rfl (Nat.le_of_ble_eq_true rfl) (List.forall_mem_cons.mpr ⟨rfl, List.forall_mem_cons.mpr ⟨rfl, fun _ h => absurd h List.not_mem_nil⟩⟩) (fun X hD hI => ?_) h
  subst hD hI
  show KO X YX6_memory (cT (k_I X) q) 0 0 (k_Q k_ei X (cT (k_I X) q)) 0 [some (.ref (q 0)), some (.int x1), none] [] σ _
  unfold fX6_memory
  refine k_iload_n (pc := 0) dX6_memory_0 rfl ?_
  refine k_if_lt (pc := 1) 10 dX6_memory_1 (by decide) ?_ ?_
  · refine k_bipush (pc := 10) (v := (-2)) dX6_memory_10 (by decide) ?_
    exact k_ireturn (pc := 12) rfl dX6_memory_12
  · refine k_iload_n (pc := 4) dX6_memory_4 rfl ?_
    refine k_bipush (pc := 5) (v := 99) dX6_memory_5 (by decide) ?_
    refine k_icmp_le (pc := 7) 13 dX6_memory_7 (by decide) ?_ ?_
    · refine k_aload_n (pc := 13) dX6_memory_13 rfl ?_
      refine k_gTX6_house (pc := 14) kwf_X6_28 rfl dX6_memory_14 ?_
      refine k_vi0 (pc := 17) (cT_same _ _) ckX0_isOpen kwm_X6_125 cT_rv3 ⟨rfl, rfl⟩ ⟨Nat.le_of_ble_eq_true rfl, Nat.le_of_ble_eq_true rfl⟩ ⟨Nat.zero_le _, Nat.zero_le _⟩ (Nat.le_of_ble_eq_true rfl) dX6_memory_17 (fun _ _ hf => kX0_isOpen hf) (fun r1 σ2 => ?_)
      refine k_if_ne (pc := 20) 26 dX6_memory_20 (by decide) ?_ ?_
      · refine k_aload_n (pc := 26) dX6_memory_26 rfl ?_
        refine k_gTX6_house (pc := 27) kwf_X6_28 rfl dX6_memory_27 ?_
        refine k_gTX0_memory (pc := 30) kwf_X6_129 rfl dX6_memory_30 ?_
        refine k_ist2 (pc := 33) dX6_memory_33 (by decide) (fun v3 => ?_)
        refine k_aload_n (pc := 34) dX6_memory_34 rfl ?_
        refine k_gTX6_house (pc := 35) kwf_X6_28 rfl dX6_memory_35 ?_
        refine k_iload_n (pc := 38) dX6_memory_38 rfl ?_
        refine k_pTX0_memory (pc := 39) kwf_X6_129 rfl dX6_memory_39 (fun σ4 => ?_)
        refine k_iload_n (pc := 42) dX6_memory_42 rfl ?_
        exact k_ireturn (pc := 43) rfl dX6_memory_43
      · refine k_bipush (pc := 23) (v := (-3)) dX6_memory_23 (by decide) ?_
        exact k_ireturn (pc := 25) rfl dX6_memory_25
    · refine k_bipush (pc := 10) (v := (-2)) dX6_memory_10 (by decide) ?_
      exact k_ireturn (pc := 12) rfl dX6_memory_12
-- TallTales$House.hasGuest(I)Z
theorem ckX0_hasGuest : k_Vok yX0_hasGuest cX0_hasGuest 2 (some .boolean) 1 := ⟨kwk_X0_hasGuest, kwi_X0_hasGuest, kwv_X0_hasGuest, kwn_X0, by decide, by decide +kernel⟩
abbrev rmX0_hasGuest : Room := { frames := 0, cells := 0, slots := 0, locals := 0 }
abbrev YX0_hasGuest : k_Y := (rmX0_hasGuest, cX0_hasGuest, 2, RX0, (some .boolean))
noncomputable def fX0_hasGuest (σ : k_S) (x1 : Int32) : Option (Int32 × k_S) := (if x1 < 0 then k_z (0) (some (0, σ)) else (if x1 < σ.1 3 then k_z (1) (some (1, σ)) else k_z (0) (some (0, σ))))
set_option maxRecDepth 100000 in
set_option maxHeartbeats 4000000 in
theorem kX0_hasGuest {D : va_G} {cI : ClassId} {q : Nat → Nat} {σ : k_S} {x1 : Int32} {r : Int32} {τ : k_S} (h : fX0_hasGuest σ x1 = some (r, τ)) : k_Ct k_ei yX0_hasGuest cX0_hasGuest 2 (some .boolean) rmX0_hasGuest (cT cI q) D cI [.ref (q 3), .int x1] σ r τ := by
  refine k_met (Y := YX0_hasGuest) (cT_same _ _) (by decide) rfl (Nat.le_of_ble_eq_true rfl) (List.forall_mem_cons.mpr ⟨rfl, List.forall_mem_cons.mpr ⟨rfl, fun _ h => absurd h List.not_mem_nil⟩⟩) (fun X hD hI => ?_) h
  subst hD hI
  show KO X YX0_hasGuest (cT (k_I X) q) 0 0 (k_Q k_ei X (cT (k_I X) q)) 0 [some (.ref (q 3)), some (.int x1)] [] σ _
  unfold fX0_hasGuest
  refine k_iload_n (pc := 0) dX0_hasGuest_0 rfl ?_
  refine k_if_lt (pc := 1) 16 dX0_hasGuest_1 (by decide) ?_ ?_
  · refine k_iconst (pc := 16) (v := 0) dX0_hasGuest_16 (by decide) ?_
    exact k_zreturn (pc := 17) rfl dX0_hasGuest_17
  · refine k_iload_n (pc := 4) dX0_hasGuest_4 rfl ?_
    refine k_aload_n (pc := 5) dX0_hasGuest_5 rfl ?_
    refine k_gTX0_guests (pc := 6) kwf_X0_45 rfl dX0_hasGuest_6 ?_
    refine k_icmp_ge (pc := 9) 16 dX0_hasGuest_9 (by decide) ?_ ?_
    · refine k_iconst (pc := 16) (v := 0) dX0_hasGuest_16 (by decide) ?_
      exact k_zreturn (pc := 17) rfl dX0_hasGuest_17
    · refine k_iconst (pc := 12) (v := 1) dX0_hasGuest_12 (by decide) ?_
      refine k_goto (pc := 13) 17 dX0_hasGuest_13 (by decide) ?_
      exact k_zreturn (pc := 17) rfl dX0_hasGuest_17
-- TallTales.choose(II)I
theorem ckX6_choose : k_Vok yX6_choose cX6_choose 4 (some .int) 2 := ⟨kwk_X6_choose, kwi_X6_choose, kwv_X6_choose, kwn_X6, by decide, by decide +kernel⟩
abbrev rmX6_choose : Room := { frames := 2, cells := 0, slots := 0, locals := 45 }
abbrev YX6_choose : k_Y := (rmX6_choose, cX6_choose, 4, RX6, (some .int))
noncomputable def fX6_choose_c59 (σ : k_S) (l1 l2 : Int32) : Option (Int32 × k_S) := k_gd (l1) 5 (k_bn (σ.2 10 (Int32.toNatClampNeg (l1))) fun v1 => k_gd (l1) 5 (k_bn (k_sa σ 10 (l1) (l2)) fun σ2 => some (v1, σ2)))
set_option maxRecDepth 100000 in
set_option maxHeartbeats 4000000 in
theorem kX6_choose_c59 {X : k_C} {q : Nat → Nat} (σ : k_S) (l1 l2 : Int32) : KO X YX6_choose (cT (k_I X) q) 0 0 (k_Q k_ei X (cT (k_I X) q)) 59 [some (.ref (q 0)), some (.int l1), some (.int l2), none] [] σ (fX6_choose_c59 σ l1 l2) := by
  unfold fX6_choose_c59
  refine k_aload_n (pc := 59) dX6_choose_59 rfl ?_
  refine k_gTX6_house (pc := 60) kwf_X6_28 rfl dX6_choose_60 ?_
  refine k_gTX0_chosen (pc := 63) kwf_X6_135 rfl dX6_choose_63 ?_
  refine k_iload_n (pc := 66) dX6_choose_66 rfl ?_
  refine k_lT17 (pc := 67) dX6_choose_67 ?_
  refine k_ist3 (pc := 68) dX6_choose_68 (by decide) (fun v1 => ?_)
  refine k_aload_n (pc := 69) dX6_choose_69 rfl ?_
  refine k_gTX6_house (pc := 70) kwf_X6_28 rfl dX6_choose_70 ?_
  refine k_gTX0_chosen (pc := 73) kwf_X6_135 rfl dX6_choose_73 ?_
  refine k_iload_n (pc := 76) dX6_choose_76 rfl ?_
  refine k_iload_n (pc := 77) dX6_choose_77 rfl ?_
  refine k_sT17 (pc := 78) dX6_choose_78 (fun σ2 => ?_)
  refine k_iload_n (pc := 79) dX6_choose_79 rfl ?_
  exact k_ireturn (pc := 80) rfl dX6_choose_80
noncomputable def fX6_choose (σ : k_S) (x1 x2 : Int32) : Option (Int32 × k_S) := k_ob (fX0_hasGuest σ x1) fun r1 σ2 => (if r1 = 0 then some ((-1), σ2) else (if x2 = (-9) then fX6_choose_c59 σ2 x1 x2 else k_ob (fX0_hasTale σ2 x2) fun r3 σ4 => (if r3 = 0 then some ((-1), σ4) else k_gd (x2) 10 ((if σ4.2 6 (Int32.toNatClampNeg (x2)) = x1 then k_ob (fX0_isTellable σ4 x2) fun r5 σ6 => (if r5 = 0 then some ((-3), σ6) else fX6_choose_c59 σ6 x1 x2) else some ((-3), σ4))))))
set_option maxRecDepth 100000 in
set_option maxHeartbeats 4000000 in
theorem kX6_choose {D : va_G} {cI : ClassId} {q : Nat → Nat} {σ : k_S} {x1 x2 : Int32} {r : Int32} {τ : k_S} (h : fX6_choose σ x1 x2 = some (r, τ)) : k_Ct k_ei yX6_choose cX6_choose 4 (some .int) rmX6_choose (cT cI q) D cI [.ref (q 0), .int x1, .int x2] σ r τ := by
  refine k_met (Y := YX6_choose) (cT_same _ _) (by decide) rfl (Nat.le_of_ble_eq_true rfl) (List.forall_mem_cons.mpr ⟨rfl, List.forall_mem_cons.mpr ⟨rfl, List.forall_mem_cons.mpr ⟨rfl, fun _ h => absurd h List.not_mem_nil⟩⟩⟩) (fun X hD hI => ?_) h
  subst hD hI
  show KO X YX6_choose (cT (k_I X) q) 0 0 (k_Q k_ei X (cT (k_I X) q)) 0 [some (.ref (q 0)), some (.int x1), some (.int x2), none] [] σ _
  unfold fX6_choose
  refine k_aload_n (pc := 0) dX6_choose_0 rfl ?_
  refine k_gTX6_house (pc := 1) kwf_X6_28 rfl dX6_choose_1 ?_
  refine k_iload_n (pc := 4) dX6_choose_4 rfl ?_
  refine k_vi1 (pc := 5) (cT_same _ _) ckX0_hasGuest kwm_X6_132 cT_rv3 ⟨rfl, rfl⟩ ⟨Nat.le_of_ble_eq_true rfl, Nat.le_of_ble_eq_true rfl⟩ ⟨Nat.zero_le _, Nat.zero_le _⟩ (Nat.le_of_ble_eq_true rfl) dX6_choose_5 (fun _ _ hf => kX0_hasGuest hf) (fun r1 σ2 => ?_)
  refine k_if_ne (pc := 8) 13 dX6_choose_8 (by decide) ?_ ?_
  · refine k_iload_n (pc := 13) dX6_choose_13 rfl ?_
    refine k_bipush (pc := 14) (v := (-9)) dX6_choose_14 (by decide) ?_
    refine k_icmp_eq (pc := 16) 59 dX6_choose_16 (by decide) ?_ ?_
    · exact kX6_choose_c59 σ2 x1 x2
    · refine k_aload_n (pc := 19) dX6_choose_19 rfl ?_
      refine k_gTX6_house (pc := 20) kwf_X6_28 rfl dX6_choose_20 ?_
      refine k_iload_n (pc := 23) dX6_choose_23 rfl ?_
      refine k_vi1 (pc := 24) (cT_same _ _) ckX0_hasTale kwm_X6_101 cT_rv3 ⟨rfl, rfl⟩ ⟨Nat.le_of_ble_eq_true rfl, Nat.le_of_ble_eq_true rfl⟩ ⟨Nat.zero_le _, Nat.zero_le _⟩ (Nat.le_of_ble_eq_true rfl) dX6_choose_24 (fun _ _ hf => kX0_hasTale hf) (fun r3 σ4 => ?_)
      refine k_if_ne (pc := 27) 32 dX6_choose_27 (by decide) ?_ ?_
      · refine k_aload_n (pc := 32) dX6_choose_32 rfl ?_
        refine k_gTX6_house (pc := 33) kwf_X6_28 rfl dX6_choose_33 ?_
        refine k_gTX0_owners (pc := 36) kwf_X6_107 rfl dX6_choose_36 ?_
        refine k_iload_n (pc := 39) dX6_choose_39 rfl ?_
        refine k_lT13 (pc := 40) dX6_choose_40 ?_
        refine k_iload_n (pc := 41) dX6_choose_41 rfl ?_
        refine k_icmp_ne (pc := 42) 56 dX6_choose_42 (by decide) ?_ ?_
        · refine k_bipush (pc := 56) (v := (-3)) dX6_choose_56 (by decide) ?_
          exact k_ireturn (pc := 58) rfl dX6_choose_58
        · refine k_aload_n (pc := 45) dX6_choose_45 rfl ?_
          refine k_gTX6_house (pc := 46) kwf_X6_28 rfl dX6_choose_46 ?_
          refine k_iload_n (pc := 49) dX6_choose_49 rfl ?_
          refine k_vi1 (pc := 50) (cT_same _ _) ckX0_isTellable kwm_X6_119 cT_rv3 ⟨rfl, rfl⟩ ⟨Nat.le_of_ble_eq_true rfl, Nat.le_of_ble_eq_true rfl⟩ ⟨Nat.zero_le _, Nat.zero_le _⟩ (Nat.le_of_ble_eq_true rfl) dX6_choose_50 (fun _ _ hf => kX0_isTellable hf) (fun r5 σ6 => ?_)
          refine k_if_ne (pc := 53) 59 dX6_choose_53 (by decide) ?_ ?_
          · exact kX6_choose_c59 σ6 x1 x2
          · refine k_bipush (pc := 56) (v := (-3)) dX6_choose_56 (by decide) ?_
            exact k_ireturn (pc := 58) rfl dX6_choose_58
      · refine k_iconst (pc := 30) (v := (-1)) dX6_choose_30 (by decide) ?_
        exact k_ireturn (pc := 31) rfl dX6_choose_31
  · refine k_iconst (pc := 11) (v := (-1)) dX6_choose_11 (by decide) ?_
    exact k_ireturn (pc := 12) rfl dX6_choose_12
-- TallTales$House.tallsAsChosen(LTallTales$Talls;)V
theorem ckX0_tallsAsChosen : k_Vok yX0_tallsAsChosen cX0_tallsAsChosen 3 none 1 := ⟨kwk_X0_tallsAsChosen, kwi_X0_tallsAsChosen, kwv_X0_tallsAsChosen, kwn_X0, by decide, by decide +kernel⟩
abbrev rmX0_tallsAsChosen : Room := { frames := 2, cells := 0, slots := 0, locals := 43 }
abbrev YX0_tallsAsChosen : k_Y := (rmX0_tallsAsChosen, cX0_tallsAsChosen, 3, RX0, none)
noncomputable def fX0_tallsAsChosen_c50 (kh10 : k_S → Int32 → Option (Unit × k_S)) (σ : k_S) (l2 s1 s2 : Int32) : Option (Unit × k_S) := k_gd (s1) 5 (k_bn (k_sa σ 14 (s1) (s2)) fun σ1 => k_bn (l2 + 1) fun v2 => kh10 σ1 v2)
set_option maxRecDepth 100000 in
set_option maxHeartbeats 4000000 in
theorem kX0_tallsAsChosen_c50 {X : k_C} {q : Nat → Nat} (kh10 : k_S → Int32 → Option (Unit × k_S)) (hk10 : ∀ (σ : k_S) (l2 : Int32), KO X YX0_tallsAsChosen (cT (k_I X) q) 0 0 (k_Q k_ev X (cT (k_I X) q)) 10 [some (.ref (q 3)), some (.ref (q 4)), some (.int l2)] [] σ (kh10 σ l2)) (σ : k_S) (l2 s1 s2 : Int32) : KO X YX0_tallsAsChosen (cT (k_I X) q) 0 0 (k_Q k_ev X (cT (k_I X) q)) 50 [some (.ref (q 3)), some (.ref (q 4)), some (.int l2)] [.int s2, .int s1, .ref (q 21)] σ (fX0_tallsAsChosen_c50 kh10 σ l2 s1 s2) := by
  unfold fX0_tallsAsChosen_c50
  refine k_sT21 (pc := 50) dX0_tallsAsChosen_50 (fun σ1 => ?_)
  refine k_iinc2 (pc := 51) (w := 1) dX0_tallsAsChosen_51 rfl (by decide) (by decide) (fun v2 => ?_)
  refine k_goto (pc := 54) 10 dX0_tallsAsChosen_54 (by decide) ?_
  exact hk10 σ1 v2
noncomputable def fX0_tallsAsChosen_c10 : Nat → k_S → Int32 → Option (Unit × k_S)
  | 0, _, _ => none
  | n + 1, σ, l2 => (if l2 < σ.1 3 then k_gd (l2) 5 (k_ob (fX0_hasTale σ (σ.2 10 (Int32.toNatClampNeg (l2)))) fun r1 σ2 => (if r1 = 0 then fX0_tallsAsChosen_c50 (fX0_tallsAsChosen_c10 n) σ2 l2 l2 0 else k_gd (l2) 5 (k_ob (fX0_tallOf σ2 (σ2.2 10 (Int32.toNatClampNeg (l2)))) fun r3 σ4 => fX0_tallsAsChosen_c50 (fX0_tallsAsChosen_c10 n) σ4 l2 l2 r3))) else some ((), σ))
theorem fX0_tallsAsChosen_c10_s (n : Nat) (σ : k_S) (l2 : Int32) : fX0_tallsAsChosen_c10 (n + 1) σ l2 = (if l2 < σ.1 3 then k_gd (l2) 5 (k_ob (fX0_hasTale σ (σ.2 10 (Int32.toNatClampNeg (l2)))) fun r1 σ2 => (if r1 = 0 then fX0_tallsAsChosen_c50 (fX0_tallsAsChosen_c10 n) σ2 l2 l2 0 else k_gd (l2) 5 (k_ob (fX0_tallOf σ2 (σ2.2 10 (Int32.toNatClampNeg (l2)))) fun r3 σ4 => fX0_tallsAsChosen_c50 (fX0_tallsAsChosen_c10 n) σ4 l2 l2 r3))) else some ((), σ)) := rfl
set_option maxRecDepth 100000 in
set_option maxHeartbeats 4000000 in
theorem kX0_tallsAsChosen_c10 {X : k_C} {q : Nat → Nat} : ∀ (n : Nat) (σ : k_S) (l2 : Int32), KO X YX0_tallsAsChosen (cT (k_I X) q) 0 0 (k_Q k_ev X (cT (k_I X) q)) 10 [some (.ref (q 3)), some (.ref (q 4)), some (.int l2)] [] σ (fX0_tallsAsChosen_c10 n σ l2) := by
  intro n
  induction n with
  | zero => intros; exact KO.nil
  | succ n ih =>
    intro σ l2
    rw [fX0_tallsAsChosen_c10_s]
    refine k_iload_n (pc := 10) dX0_tallsAsChosen_10 rfl ?_
    refine k_aload_n (pc := 11) dX0_tallsAsChosen_11 rfl ?_
    refine k_gTX0_guests (pc := 12) kwf_X0_45 rfl dX0_tallsAsChosen_12 ?_
    refine k_icmp_ge (pc := 15) 57 dX0_tallsAsChosen_15 (by decide) ?_ ?_
    · exact k_return (pc := 57) rfl dX0_tallsAsChosen_57
    · refine k_aload_n (pc := 18) dX0_tallsAsChosen_18 rfl ?_
      refine k_gTX3_of (pc := 19) kwf_X0_88 rfl dX0_tallsAsChosen_19 ?_
      refine k_iload_n (pc := 22) dX0_tallsAsChosen_22 rfl ?_
      refine k_aload_n (pc := 23) dX0_tallsAsChosen_23 rfl ?_
      refine k_aload_n (pc := 24) dX0_tallsAsChosen_24 rfl ?_
      refine k_gTX0_chosen (pc := 25) kwf_X0_27 rfl dX0_tallsAsChosen_25 ?_
      refine k_iload_n (pc := 28) dX0_tallsAsChosen_28 rfl ?_
      refine k_lT17 (pc := 29) dX0_tallsAsChosen_29 ?_
      refine k_vi1 (pc := 30) (cT_same _ _) ckX0_hasTale kwm_X0_91 cT_rv3 ⟨rfl, rfl⟩ ⟨Nat.le_of_ble_eq_true rfl, Nat.le_of_ble_eq_true rfl⟩ ⟨Nat.zero_le _, Nat.zero_le _⟩ (Nat.le_of_ble_eq_true rfl) dX0_tallsAsChosen_30 (fun _ _ hf => kX0_hasTale hf) (fun r1 σ2 => ?_)
      refine k_if_eq (pc := 33) 49 dX0_tallsAsChosen_33 (by decide) ?_ ?_
      · refine k_iconst (pc := 49) (v := 0) dX0_tallsAsChosen_49 (by decide) ?_
        exact kX0_tallsAsChosen_c50 (fX0_tallsAsChosen_c10 n) ih σ2 l2 l2 0
      · refine k_aload_n (pc := 36) dX0_tallsAsChosen_36 rfl ?_
        refine k_aload_n (pc := 37) dX0_tallsAsChosen_37 rfl ?_
        refine k_gTX0_chosen (pc := 38) kwf_X0_27 rfl dX0_tallsAsChosen_38 ?_
        refine k_iload_n (pc := 41) dX0_tallsAsChosen_41 rfl ?_
        refine k_lT17 (pc := 42) dX0_tallsAsChosen_42 ?_
        refine k_vi1 (pc := 43) (cT_same _ _) ckX0_tallOf kwm_X0_94 cT_rv3 ⟨rfl, rfl⟩ ⟨Nat.le_of_ble_eq_true rfl, Nat.le_of_ble_eq_true rfl⟩ ⟨Nat.zero_le _, Nat.zero_le _⟩ (Nat.le_of_ble_eq_true rfl) dX0_tallsAsChosen_43 (fun _ _ hf => kX0_tallOf hf) (fun r3 σ4 => ?_)
        refine k_goto (pc := 46) 50 dX0_tallsAsChosen_46 (by decide) ?_
        exact kX0_tallsAsChosen_c50 (fX0_tallsAsChosen_c10 n) ih σ4 l2 l2 r3
noncomputable def fX0_tallsAsChosen (σ : k_S) : Option (Unit × k_S) := k_bn (k_sf σ 7 (σ.1 3)) fun σ1 => k_bn (0) fun v2 => fX0_tallsAsChosen_c10 k_F σ1 v2
set_option maxRecDepth 100000 in
set_option maxHeartbeats 4000000 in
theorem kX0_tallsAsChosen {D : va_G} {cI : ClassId} {q : Nat → Nat} {σ : k_S} {r : Unit} {τ : k_S} (h : fX0_tallsAsChosen σ = some (r, τ)) : k_Ct k_ev yX0_tallsAsChosen cX0_tallsAsChosen 3 none rmX0_tallsAsChosen (cT cI q) D cI [.ref (q 3), .ref (q 4)] σ r τ := by
  refine k_met (Y := YX0_tallsAsChosen) (cT_same _ _) (by decide) rfl (Nat.le_of_ble_eq_true rfl) (List.forall_mem_cons.mpr ⟨rfl, List.forall_mem_cons.mpr ⟨rfl, fun _ h => absurd h List.not_mem_nil⟩⟩) (fun X hD hI => ?_) h
  subst hD hI
  show KO X YX0_tallsAsChosen (cT (k_I X) q) 0 0 (k_Q k_ev X (cT (k_I X) q)) 0 [some (.ref (q 3)), some (.ref (q 4)), none] [] σ _
  unfold fX0_tallsAsChosen
  refine k_aload_n (pc := 0) dX0_tallsAsChosen_0 rfl ?_
  refine k_aload_n (pc := 1) dX0_tallsAsChosen_1 rfl ?_
  refine k_gTX0_guests (pc := 2) kwf_X0_45 rfl dX0_tallsAsChosen_2 ?_
  refine k_pTX3_guests (pc := 5) kwf_X0_85 rfl dX0_tallsAsChosen_5 (fun σ1 => ?_)
  refine k_iconst (pc := 8) (v := 0) dX0_tallsAsChosen_8 (by decide) ?_
  refine k_ist2 (pc := 9) dX0_tallsAsChosen_9 (by decide) (fun v2 => ?_)
  exact kX0_tallsAsChosen_c10 k_F σ1 v2
-- TallTales$Talls.placeOf(II)I
theorem ckX3_placeOf : k_Vok yX3_placeOf cX3_placeOf 5 (some .int) 2 := ⟨kwk_X3_placeOf, kwi_X3_placeOf, kwv_X3_placeOf, kwn_X3, by decide, by decide +kernel⟩
abbrev rmX3_placeOf : Room := { frames := 0, cells := 0, slots := 0, locals := 0 }
abbrev YX3_placeOf : k_Y := (rmX3_placeOf, cX3_placeOf, 5, RX3, (some .int))
noncomputable def fX3_placeOf_c54 (kh5 : k_S → Int32 → Int32 → Int32 → Int32 → Option (Int32 × k_S)) (σ : k_S) (l1 l2 l3 l4 : Int32) : Option (Int32 × k_S) := k_bn (l4 + 1) fun v1 => kh5 σ l1 l2 l3 v1
set_option maxRecDepth 100000 in
set_option maxHeartbeats 4000000 in
theorem kX3_placeOf_c54 {X : k_C} {q : Nat → Nat} (kh5 : k_S → Int32 → Int32 → Int32 → Int32 → Option (Int32 × k_S)) (hk5 : ∀ (σ : k_S) (l1 l2 l3 l4 : Int32), KO X YX3_placeOf (cT (k_I X) q) 0 0 (k_Q k_ei X (cT (k_I X) q)) 5 [some (.ref (q 4)), some (.int l1), some (.int l2), some (.int l3), some (.int l4)] [] σ (kh5 σ l1 l2 l3 l4)) (σ : k_S) (l1 l2 l3 l4 : Int32) : KO X YX3_placeOf (cT (k_I X) q) 0 0 (k_Q k_ei X (cT (k_I X) q)) 54 [some (.ref (q 4)), some (.int l1), some (.int l2), some (.int l3), some (.int l4)] [] σ (fX3_placeOf_c54 kh5 σ l1 l2 l3 l4) := by
  unfold fX3_placeOf_c54
  refine k_iinc4 (pc := 54) (w := 1) dX3_placeOf_54 rfl (by decide) (by decide) (fun v1 => ?_)
  refine k_goto (pc := 57) 5 dX3_placeOf_57 (by decide) ?_
  exact hk5 σ l1 l2 l3 v1
noncomputable def fX3_placeOf_c51 (kh5 : k_S → Int32 → Int32 → Int32 → Int32 → Option (Int32 × k_S)) (σ : k_S) (l1 l2 l3 l4 : Int32) : Option (Int32 × k_S) := k_bn (l3 + 1) fun v1 => fX3_placeOf_c54 kh5 σ l1 l2 v1 l4
set_option maxRecDepth 100000 in
set_option maxHeartbeats 4000000 in
theorem kX3_placeOf_c51 {X : k_C} {q : Nat → Nat} (kh5 : k_S → Int32 → Int32 → Int32 → Int32 → Option (Int32 × k_S)) (hk5 : ∀ (σ : k_S) (l1 l2 l3 l4 : Int32), KO X YX3_placeOf (cT (k_I X) q) 0 0 (k_Q k_ei X (cT (k_I X) q)) 5 [some (.ref (q 4)), some (.int l1), some (.int l2), some (.int l3), some (.int l4)] [] σ (kh5 σ l1 l2 l3 l4)) (σ : k_S) (l1 l2 l3 l4 : Int32) : KO X YX3_placeOf (cT (k_I X) q) 0 0 (k_Q k_ei X (cT (k_I X) q)) 51 [some (.ref (q 4)), some (.int l1), some (.int l2), some (.int l3), some (.int l4)] [] σ (fX3_placeOf_c51 kh5 σ l1 l2 l3 l4) := by
  unfold fX3_placeOf_c51
  refine k_iinc3 (pc := 51) (w := 1) dX3_placeOf_51 rfl (by decide) (by decide) (fun v1 => ?_)
  exact kX3_placeOf_c54 kh5 hk5 σ l1 l2 v1 l4
noncomputable def fX3_placeOf_c5 : Nat → k_S → Int32 → Int32 → Int32 → Int32 → Option (Int32 × k_S)
  | 0, _, _, _, _, _ => none
  | n + 1, σ, l1, l2, l3, l4 => (if l4 < σ.1 7 then (if l4 = l1 then fX3_placeOf_c54 (fX3_placeOf_c5 n) σ l1 l2 l3 l4 else k_gd (l4) 5 ((if l2 < σ.2 14 (Int32.toNatClampNeg (l4)) then fX3_placeOf_c51 (fX3_placeOf_c5 n) σ l1 l2 l3 l4 else k_gd (l4) 5 ((if σ.2 14 (Int32.toNatClampNeg (l4)) = l2 then (if l4 < l1 then fX3_placeOf_c51 (fX3_placeOf_c5 n) σ l1 l2 l3 l4 else fX3_placeOf_c54 (fX3_placeOf_c5 n) σ l1 l2 l3 l4) else fX3_placeOf_c54 (fX3_placeOf_c5 n) σ l1 l2 l3 l4))))) else some (l3, σ))
theorem fX3_placeOf_c5_s (n : Nat) (σ : k_S) (l1 l2 l3 l4 : Int32) : fX3_placeOf_c5 (n + 1) σ l1 l2 l3 l4 = (if l4 < σ.1 7 then (if l4 = l1 then fX3_placeOf_c54 (fX3_placeOf_c5 n) σ l1 l2 l3 l4 else k_gd (l4) 5 ((if l2 < σ.2 14 (Int32.toNatClampNeg (l4)) then fX3_placeOf_c51 (fX3_placeOf_c5 n) σ l1 l2 l3 l4 else k_gd (l4) 5 ((if σ.2 14 (Int32.toNatClampNeg (l4)) = l2 then (if l4 < l1 then fX3_placeOf_c51 (fX3_placeOf_c5 n) σ l1 l2 l3 l4 else fX3_placeOf_c54 (fX3_placeOf_c5 n) σ l1 l2 l3 l4) else fX3_placeOf_c54 (fX3_placeOf_c5 n) σ l1 l2 l3 l4))))) else some (l3, σ)) := rfl
set_option maxRecDepth 100000 in
set_option maxHeartbeats 4000000 in
theorem kX3_placeOf_c5 {X : k_C} {q : Nat → Nat} : ∀ (n : Nat) (σ : k_S) (l1 l2 l3 l4 : Int32), KO X YX3_placeOf (cT (k_I X) q) 0 0 (k_Q k_ei X (cT (k_I X) q)) 5 [some (.ref (q 4)), some (.int l1), some (.int l2), some (.int l3), some (.int l4)] [] σ (fX3_placeOf_c5 n σ l1 l2 l3 l4) := by
  intro n
  induction n with
  | zero => intros; exact KO.nil
  | succ n ih =>
    intro σ l1 l2 l3 l4
    rw [fX3_placeOf_c5_s]
    refine k_iload (pc := 5) dX3_placeOf_5 rfl ?_
    refine k_aload_n (pc := 7) dX3_placeOf_7 rfl ?_
    refine k_gTX3_guests (pc := 8) kwf_X3_15 rfl dX3_placeOf_8 ?_
    refine k_icmp_ge (pc := 11) 60 dX3_placeOf_11 (by decide) ?_ ?_
    · refine k_iload_n (pc := 60) dX3_placeOf_60 rfl ?_
      exact k_ireturn (pc := 61) rfl dX3_placeOf_61
    · refine k_iload (pc := 14) dX3_placeOf_14 rfl ?_
      refine k_iload_n (pc := 16) dX3_placeOf_16 rfl ?_
      refine k_icmp_ne (pc := 17) 23 dX3_placeOf_17 (by decide) ?_ ?_
      · refine k_aload_n (pc := 23) dX3_placeOf_23 rfl ?_
        refine k_gTX3_of (pc := 24) kwf_X3_9 rfl dX3_placeOf_24 ?_
        refine k_iload (pc := 27) dX3_placeOf_27 rfl ?_
        refine k_lT21 (pc := 29) dX3_placeOf_29 ?_
        refine k_iload_n (pc := 30) dX3_placeOf_30 rfl ?_
        refine k_icmp_gt (pc := 31) 51 dX3_placeOf_31 (by decide) ?_ ?_
        · exact kX3_placeOf_c51 (fX3_placeOf_c5 n) ih σ l1 l2 l3 l4
        · refine k_aload_n (pc := 34) dX3_placeOf_34 rfl ?_
          refine k_gTX3_of (pc := 35) kwf_X3_9 rfl dX3_placeOf_35 ?_
          refine k_iload (pc := 38) dX3_placeOf_38 rfl ?_
          refine k_lT21 (pc := 40) dX3_placeOf_40 ?_
          refine k_iload_n (pc := 41) dX3_placeOf_41 rfl ?_
          refine k_icmp_ne (pc := 42) 54 dX3_placeOf_42 (by decide) ?_ ?_
          · exact kX3_placeOf_c54 (fX3_placeOf_c5 n) ih σ l1 l2 l3 l4
          · refine k_iload (pc := 45) dX3_placeOf_45 rfl ?_
            refine k_iload_n (pc := 47) dX3_placeOf_47 rfl ?_
            refine k_icmp_ge (pc := 48) 54 dX3_placeOf_48 (by decide) ?_ ?_
            · exact kX3_placeOf_c54 (fX3_placeOf_c5 n) ih σ l1 l2 l3 l4
            · exact kX3_placeOf_c51 (fX3_placeOf_c5 n) ih σ l1 l2 l3 l4
      · refine k_goto (pc := 20) 54 dX3_placeOf_20 (by decide) ?_
        exact kX3_placeOf_c54 (fX3_placeOf_c5 n) ih σ l1 l2 l3 l4
noncomputable def fX3_placeOf (σ : k_S) (x1 x2 : Int32) : Option (Int32 × k_S) := k_bn (0) fun v1 => k_bn (0) fun v2 => fX3_placeOf_c5 k_F σ x1 x2 v1 v2
set_option maxRecDepth 100000 in
set_option maxHeartbeats 4000000 in
theorem kX3_placeOf {D : va_G} {cI : ClassId} {q : Nat → Nat} {σ : k_S} {x1 x2 : Int32} {r : Int32} {τ : k_S} (h : fX3_placeOf σ x1 x2 = some (r, τ)) : k_Ct k_ei yX3_placeOf cX3_placeOf 5 (some .int) rmX3_placeOf (cT cI q) D cI [.ref (q 4), .int x1, .int x2] σ r τ := by
  refine k_met (Y := YX3_placeOf) (cT_same _ _) (by decide) rfl (Nat.le_of_ble_eq_true rfl) (List.forall_mem_cons.mpr ⟨rfl, List.forall_mem_cons.mpr ⟨rfl, List.forall_mem_cons.mpr ⟨rfl, fun _ h => absurd h List.not_mem_nil⟩⟩⟩) (fun X hD hI => ?_) h
  subst hD hI
  show KO X YX3_placeOf (cT (k_I X) q) 0 0 (k_Q k_ei X (cT (k_I X) q)) 0 [some (.ref (q 4)), some (.int x1), some (.int x2), none, none] [] σ _
  unfold fX3_placeOf
  refine k_iconst (pc := 0) (v := 0) dX3_placeOf_0 (by decide) ?_
  refine k_ist3 (pc := 1) dX3_placeOf_1 (by decide) (fun v1 => ?_)
  refine k_iconst (pc := 2) (v := 0) dX3_placeOf_2 (by decide) ?_
  refine k_ist4 (pc := 3) dX3_placeOf_3 (by decide) (fun v2 => ?_)
  exact kX3_placeOf_c5 k_F σ x1 x2 v1 v2
-- TallTales$House.goBy(LTallTales$Talls;)I
theorem ckX0_goBy : k_Vok yX0_goBy cX0_goBy 5 (some .int) 1 := ⟨kwk_X0_goBy, kwi_X0_goBy, kwv_X0_goBy, kwn_X0, by decide, by decide +kernel⟩
abbrev rmX0_goBy : Room := { frames := 2, cells := 0, slots := 0, locals := 60 }
abbrev YX0_goBy : k_Y := (rmX0_goBy, cX0_goBy, 5, RX0, (some .int))
noncomputable def fX0_goBy_c79 (kh5 : k_S → Int32 → Int32 → Option (Int32 × k_S)) (σ : k_S) (l2 l3 : Int32) : Option (Int32 × k_S) := k_bn (l3 + 1) fun v1 => kh5 σ l2 v1
set_option maxRecDepth 100000 in
set_option maxHeartbeats 4000000 in
theorem kX0_goBy_c79 {X : k_C} {q : Nat → Nat} (kh5 : k_S → Int32 → Int32 → Option (Int32 × k_S)) (hk5 : ∀ (σ : k_S) (l2 l3 : Int32), KO X YX0_goBy (cT (k_I X) q) 0 0 (k_Q k_ei X (cT (k_I X) q)) 5 [some (.ref (q 3)), some (.ref (q 4)), some (.int l2), some (.int l3), none] [] σ (kh5 σ l2 l3)) (σ : k_S) (l2 l3 : Int32) : KO X YX0_goBy (cT (k_I X) q) 0 0 (k_Q k_ei X (cT (k_I X) q)) 79 [some (.ref (q 3)), some (.ref (q 4)), some (.int l2), some (.int l3), none] [] σ (fX0_goBy_c79 kh5 σ l2 l3) := by
  unfold fX0_goBy_c79
  refine k_iinc3 (pc := 79) (w := 1) dX0_goBy_79 rfl (by decide) (by decide) (fun v1 => ?_)
  refine k_goto (pc := 82) 5 dX0_goBy_82 (by decide) ?_
  exact hk5 σ l2 v1
noncomputable def fX0_goBy_c87 : Nat → k_S → Int32 → Int32 → Option (Int32 × k_S)
  | 0, _, _, _ => none
  | n + 1, σ, l2, l3 => (if l3 < σ.1 3 then k_gd (l3) 5 (k_ob (fX0_keepTold σ (σ.2 10 (Int32.toNatClampNeg (l3))) (σ.1 6)) fun r3 σ4 => k_bn (l3 + 1) fun v5 => fX0_goBy_c87 n σ4 l2 v5) else k_bn (k_sf σ 6 ((σ.1 6 + 1))) fun σ1 => k_bn (k_sA σ1 10 (k_fl (σ1.2 10) 0 5 ((-9)))) fun σ2 => some (l2, σ2))
theorem fX0_goBy_c87_s (n : Nat) (σ : k_S) (l2 l3 : Int32) : fX0_goBy_c87 (n + 1) σ l2 l3 = (if l3 < σ.1 3 then k_gd (l3) 5 (k_ob (fX0_keepTold σ (σ.2 10 (Int32.toNatClampNeg (l3))) (σ.1 6)) fun r3 σ4 => k_bn (l3 + 1) fun v5 => fX0_goBy_c87 n σ4 l2 v5) else k_bn (k_sf σ 6 ((σ.1 6 + 1))) fun σ1 => k_bn (k_sA σ1 10 (k_fl (σ1.2 10) 0 5 ((-9)))) fun σ2 => some (l2, σ2)) := rfl
set_option maxRecDepth 100000 in
set_option maxHeartbeats 4000000 in
theorem kX0_goBy_c87 {X : k_C} {q : Nat → Nat} : ∀ (n : Nat) (σ : k_S) (l2 l3 : Int32), KO X YX0_goBy (cT (k_I X) q) 0 0 (k_Q k_ei X (cT (k_I X) q)) 87 [some (.ref (q 3)), some (.ref (q 4)), some (.int l2), some (.int l3), none] [] σ (fX0_goBy_c87 n σ l2 l3) := by
  intro n
  induction n with
  | zero => intros; exact KO.nil
  | succ n ih =>
    intro σ l2 l3
    rw [fX0_goBy_c87_s]
    refine k_iload_n (pc := 87) dX0_goBy_87 rfl ?_
    refine k_aload_n (pc := 88) dX0_goBy_88 rfl ?_
    refine k_gTX0_guests (pc := 89) kwf_X0_45 rfl dX0_goBy_89 ?_
    refine k_icmp_ge (pc := 92) 115 dX0_goBy_92 (by decide) ?_ ?_
    · refine k_aload_n (pc := 115) dX0_goBy_115 rfl ?_
      refine k_dup (pc := 116) dX0_goBy_116 rfl ?_
      refine k_gTX0_nights (pc := 117) kwf_X0_66 rfl dX0_goBy_117 ?_
      refine k_iconst (pc := 120) (v := 1) dX0_goBy_120 (by decide) ?_
      refine k_iadd (pc := 121) dX0_goBy_121 ?_
      refine k_pTX0_nights (pc := 122) kwf_X0_66 rfl dX0_goBy_122 (fun σ1 => ?_)
      refine k_aload_n (pc := 125) dX0_goBy_125 rfl ?_
      refine k_gTX0_chosen (pc := 126) kwf_X0_27 rfl dX0_goBy_126 ?_
      refine k_bipush (pc := 129) (v := (-9)) dX0_goBy_129 (by decide) ?_
      refine k_fT2_17 (pc := 131) kwm_X0_104 ⟨Nat.le_of_ble_eq_true rfl, Nat.le_of_ble_eq_true rfl⟩ dX0_goBy_131 (fun σ2 => ?_)
      refine k_iload_n (pc := 134) dX0_goBy_134 rfl ?_
      exact k_ireturn (pc := 135) rfl dX0_goBy_135
    · refine k_aload_n (pc := 95) dX0_goBy_95 rfl ?_
      refine k_aload_n (pc := 96) dX0_goBy_96 rfl ?_
      refine k_gTX0_chosen (pc := 97) kwf_X0_27 rfl dX0_goBy_97 ?_
      refine k_iload_n (pc := 100) dX0_goBy_100 rfl ?_
      refine k_lT17 (pc := 101) dX0_goBy_101 ?_
      refine k_aload_n (pc := 102) dX0_goBy_102 rfl ?_
      refine k_gTX0_nights (pc := 103) kwf_X0_66 rfl dX0_goBy_103 ?_
      refine k_vv2 (pc := 106) (cT_same _ _) ckX0_keepTold kwm_X0_100 cT_rv3 ⟨rfl, rfl⟩ ⟨Nat.le_of_ble_eq_true rfl, Nat.le_of_ble_eq_true rfl⟩ ⟨Nat.zero_le _, Nat.zero_le _⟩ (Nat.le_of_ble_eq_true rfl) dX0_goBy_106 (fun _ _ hf => kX0_keepTold hf) (fun r3 σ4 => ?_)
      refine k_iinc3 (pc := 109) (w := 1) dX0_goBy_109 rfl (by decide) (by decide) (fun v5 => ?_)
      refine k_goto (pc := 112) 87 dX0_goBy_112 (by decide) ?_
      exact ih σ4 l2 v5
noncomputable def fX0_goBy_c5 : Nat → k_S → Int32 → Int32 → Option (Int32 × k_S)
  | 0, _, _, _ => none
  | n + 1, σ, l2, l3 => (if l3 < σ.1 3 then k_bn (((σ.1 6 * 5) + l3)) fun v2 => k_gd (l3) 5 (k_gd (v2) 300 (k_bn (k_sa σ 11 (v2) (σ.2 10 (Int32.toNatClampNeg (l3)))) fun σ3 => k_gd (l3) 5 (k_gd (v2) 300 (k_bn (k_sa σ3 13 (v2) (σ3.2 14 (Int32.toNatClampNeg (l3)))) fun σ4 => k_gd (l3) 5 (k_ob (fX3_placeOf σ4 l3 (σ4.2 14 (Int32.toNatClampNeg (l3)))) fun r5 σ6 => k_gd (v2) 300 (k_bn (k_sa σ6 12 (v2) (r5)) fun σ7 => k_gd (v2) 300 ((if σ7.2 12 (Int32.toNatClampNeg (v2)) = 0 then k_bn (l3) fun v8 => fX0_goBy_c79 (fX0_goBy_c5 n) σ7 v8 l3 else fX0_goBy_c79 (fX0_goBy_c5 n) σ7 l2 l3)))))))) else k_bn (0) fun v1 => fX0_goBy_c87 k_F σ l2 v1)
theorem fX0_goBy_c5_s (n : Nat) (σ : k_S) (l2 l3 : Int32) : fX0_goBy_c5 (n + 1) σ l2 l3 = (if l3 < σ.1 3 then k_bn (((σ.1 6 * 5) + l3)) fun v2 => k_gd (l3) 5 (k_gd (v2) 300 (k_bn (k_sa σ 11 (v2) (σ.2 10 (Int32.toNatClampNeg (l3)))) fun σ3 => k_gd (l3) 5 (k_gd (v2) 300 (k_bn (k_sa σ3 13 (v2) (σ3.2 14 (Int32.toNatClampNeg (l3)))) fun σ4 => k_gd (l3) 5 (k_ob (fX3_placeOf σ4 l3 (σ4.2 14 (Int32.toNatClampNeg (l3)))) fun r5 σ6 => k_gd (v2) 300 (k_bn (k_sa σ6 12 (v2) (r5)) fun σ7 => k_gd (v2) 300 ((if σ7.2 12 (Int32.toNatClampNeg (v2)) = 0 then k_bn (l3) fun v8 => fX0_goBy_c79 (fX0_goBy_c5 n) σ7 v8 l3 else fX0_goBy_c79 (fX0_goBy_c5 n) σ7 l2 l3)))))))) else k_bn (0) fun v1 => fX0_goBy_c87 k_F σ l2 v1) := rfl
set_option maxRecDepth 100000 in
set_option maxHeartbeats 4000000 in
theorem kX0_goBy_c5 {X : k_C} {q : Nat → Nat} : ∀ (n : Nat) (σ : k_S) (l2 l3 : Int32), KO X YX0_goBy (cT (k_I X) q) 0 0 (k_Q k_ei X (cT (k_I X) q)) 5 [some (.ref (q 3)), some (.ref (q 4)), some (.int l2), some (.int l3), none] [] σ (fX0_goBy_c5 n σ l2 l3) := by
  intro n
  induction n with
  | zero => intros; exact KO.nil
  | succ n ih =>
    intro σ l2 l3
    rw [fX0_goBy_c5_s]
    refine k_iload_n (pc := 5) dX0_goBy_5 rfl ?_
    refine k_aload_n (pc := 6) dX0_goBy_6 rfl ?_
    refine k_gTX0_guests (pc := 7) kwf_X0_45 rfl dX0_goBy_7 ?_
    refine k_icmp_ge (pc := 10) 85 dX0_goBy_10 (by decide) ?_ ?_
    · refine k_iconst (pc := 85) (v := 0) dX0_goBy_85 (by decide) ?_
      refine k_ist3 (pc := 86) dX0_goBy_86 (by decide) (fun v1 => ?_)
      exact kX0_goBy_c87 k_F σ l2 v1
    · refine k_aload_n (pc := 13) dX0_goBy_13 rfl ?_
      refine k_gTX0_nights (pc := 14) kwf_X0_66 rfl dX0_goBy_14 ?_
      refine k_iconst (pc := 17) (v := 5) dX0_goBy_17 (by decide) ?_
      refine k_imul (pc := 18) dX0_goBy_18 ?_
      refine k_iload_n (pc := 19) dX0_goBy_19 rfl ?_
      refine k_iadd (pc := 20) dX0_goBy_20 ?_
      refine k_ist4 (pc := 21) dX0_goBy_21 (by decide) (fun v2 => ?_)
      refine k_aload_n (pc := 23) dX0_goBy_23 rfl ?_
      refine k_gTX0_nightTale (pc := 24) kwf_X0_30 rfl dX0_goBy_24 ?_
      refine k_iload (pc := 27) dX0_goBy_27 rfl ?_
      refine k_aload_n (pc := 29) dX0_goBy_29 rfl ?_
      refine k_gTX0_chosen (pc := 30) kwf_X0_27 rfl dX0_goBy_30 ?_
      refine k_iload_n (pc := 33) dX0_goBy_33 rfl ?_
      refine k_lT17 (pc := 34) dX0_goBy_34 ?_
      refine k_sT18 (pc := 35) dX0_goBy_35 (fun σ3 => ?_)
      refine k_aload_n (pc := 36) dX0_goBy_36 rfl ?_
      refine k_gTX0_nightTall (pc := 37) kwf_X0_36 rfl dX0_goBy_37 ?_
      refine k_iload (pc := 40) dX0_goBy_40 rfl ?_
      refine k_aload_n (pc := 42) dX0_goBy_42 rfl ?_
      refine k_gTX3_of (pc := 43) kwf_X0_88 rfl dX0_goBy_43 ?_
      refine k_iload_n (pc := 46) dX0_goBy_46 rfl ?_
      refine k_lT21 (pc := 47) dX0_goBy_47 ?_
      refine k_sT20 (pc := 48) dX0_goBy_48 (fun σ4 => ?_)
      refine k_aload_n (pc := 49) dX0_goBy_49 rfl ?_
      refine k_gTX0_nightPlace (pc := 50) kwf_X0_33 rfl dX0_goBy_50 ?_
      refine k_iload (pc := 53) dX0_goBy_53 rfl ?_
      refine k_aload_n (pc := 55) dX0_goBy_55 rfl ?_
      refine k_iload_n (pc := 56) dX0_goBy_56 rfl ?_
      refine k_aload_n (pc := 57) dX0_goBy_57 rfl ?_
      refine k_gTX3_of (pc := 58) kwf_X0_88 rfl dX0_goBy_58 ?_
      refine k_iload_n (pc := 61) dX0_goBy_61 rfl ?_
      refine k_lT21 (pc := 62) dX0_goBy_62 ?_
      refine k_vi2 (pc := 63) (cT_same _ _) ckX3_placeOf kwm_X0_97 cT_rv4 ⟨rfl, rfl⟩ ⟨Nat.le_of_ble_eq_true rfl, Nat.le_of_ble_eq_true rfl⟩ ⟨Nat.zero_le _, Nat.zero_le _⟩ (Nat.le_of_ble_eq_true rfl) dX0_goBy_63 (fun _ _ hf => kX3_placeOf hf) (fun r5 σ6 => ?_)
      refine k_sT19 (pc := 66) dX0_goBy_66 (fun σ7 => ?_)
      refine k_aload_n (pc := 67) dX0_goBy_67 rfl ?_
      refine k_gTX0_nightPlace (pc := 68) kwf_X0_33 rfl dX0_goBy_68 ?_
      refine k_iload (pc := 71) dX0_goBy_71 rfl ?_
      refine k_lT19 (pc := 73) dX0_goBy_73 ?_
      refine k_if_ne (pc := 74) 79 dX0_goBy_74 (by decide) ?_ ?_
      · refine k_fg4 ?_
        exact kX0_goBy_c79 (fX0_goBy_c5 n) ih σ7 l2 l3
      · refine k_iload_n (pc := 77) dX0_goBy_77 rfl ?_
        refine k_ist2 (pc := 78) dX0_goBy_78 (by decide) (fun v8 => ?_)
        refine k_fg4 ?_
        exact kX0_goBy_c79 (fX0_goBy_c5 n) ih σ7 v8 l3
noncomputable def fX0_goBy (σ : k_S) : Option (Int32 × k_S) := k_bn ((-9)) fun v1 => k_bn (0) fun v2 => fX0_goBy_c5 k_F σ v1 v2
set_option maxRecDepth 100000 in
set_option maxHeartbeats 4000000 in
theorem kX0_goBy {D : va_G} {cI : ClassId} {q : Nat → Nat} {σ : k_S} {r : Int32} {τ : k_S} (h : fX0_goBy σ = some (r, τ)) : k_Ct k_ei yX0_goBy cX0_goBy 5 (some .int) rmX0_goBy (cT cI q) D cI [.ref (q 3), .ref (q 4)] σ r τ := by
  refine k_met (Y := YX0_goBy) (cT_same _ _) (by decide) rfl (Nat.le_of_ble_eq_true rfl) (List.forall_mem_cons.mpr ⟨rfl, List.forall_mem_cons.mpr ⟨rfl, fun _ h => absurd h List.not_mem_nil⟩⟩) (fun X hD hI => ?_) h
  subst hD hI
  show KO X YX0_goBy (cT (k_I X) q) 0 0 (k_Q k_ei X (cT (k_I X) q)) 0 [some (.ref (q 3)), some (.ref (q 4)), none, none, none] [] σ _
  unfold fX0_goBy
  refine k_bipush (pc := 0) (v := (-9)) dX0_goBy_0 (by decide) ?_
  refine k_ist2 (pc := 2) dX0_goBy_2 (by decide) (fun v1 => ?_)
  refine k_iconst (pc := 3) (v := 0) dX0_goBy_3 (by decide) ?_
  refine k_ist3 (pc := 4) dX0_goBy_4 (by decide) (fun v2 => ?_)
  exact kX0_goBy_c5 k_F σ v1 v2
-- TallTales.night()I
theorem ckX6_night : k_Vok yX6_night cX6_night 1 (some .int) 0 := ⟨kwk_X6_night, kwi_X6_night, kwv_X6_night, kwn_X6, by decide, by decide +kernel⟩
abbrev rmX6_night : Room := { frames := 3, cells := 0, slots := 0, locals := 84 }
abbrev YX6_night : k_Y := (rmX6_night, cX6_night, 1, RX6, (some .int))
noncomputable def fX6_night (σ : k_S) : Option (Int32 × k_S) := k_ob (fX0_isOpen σ) fun r1 σ2 => (if r1 = 0 then some ((-3), σ2) else (if σ2.1 6 < 60 then k_ob (fX0_tallsAsChosen σ2) fun r3 σ4 => k_ob (fX0_goBy σ4) fun r5 σ6 => some (r5, σ6) else some ((-4), σ2)))
set_option maxRecDepth 100000 in
set_option maxHeartbeats 4000000 in
theorem kX6_night {D : va_G} {cI : ClassId} {q : Nat → Nat} {σ : k_S} {r : Int32} {τ : k_S} (h : fX6_night σ = some (r, τ)) : k_Ct k_ei yX6_night cX6_night 1 (some .int) rmX6_night (cT cI q) D cI [.ref (q 0)] σ r τ := by
  refine k_met (Y := YX6_night) (cT_same _ _) (by decide) rfl (Nat.le_of_ble_eq_true rfl) (List.forall_mem_cons.mpr ⟨rfl, fun _ h => absurd h List.not_mem_nil⟩) (fun X hD hI => ?_) h
  subst hD hI
  show KO X YX6_night (cT (k_I X) q) 0 0 (k_Q k_ei X (cT (k_I X) q)) 0 [some (.ref (q 0))] [] σ _
  unfold fX6_night
  refine k_aload_n (pc := 0) dX6_night_0 rfl ?_
  refine k_gTX6_house (pc := 1) kwf_X6_28 rfl dX6_night_1 ?_
  refine k_vi0 (pc := 4) (cT_same _ _) ckX0_isOpen kwm_X6_125 cT_rv3 ⟨rfl, rfl⟩ ⟨Nat.le_of_ble_eq_true rfl, Nat.le_of_ble_eq_true rfl⟩ ⟨Nat.zero_le _, Nat.zero_le _⟩ (Nat.le_of_ble_eq_true rfl) dX6_night_4 (fun _ _ hf => kX0_isOpen hf) (fun r1 σ2 => ?_)
  refine k_if_ne (pc := 7) 13 dX6_night_7 (by decide) ?_ ?_
  · refine k_aload_n (pc := 13) dX6_night_13 rfl ?_
    refine k_gTX6_house (pc := 14) kwf_X6_28 rfl dX6_night_14 ?_
    refine k_gTX0_nights (pc := 17) kwf_X6_138 rfl dX6_night_17 ?_
    refine k_bipush (pc := 20) (v := 60) dX6_night_20 (by decide) ?_
    refine k_icmp_lt (pc := 22) 28 dX6_night_22 (by decide) ?_ ?_
    · refine k_aload_n (pc := 28) dX6_night_28 rfl ?_
      refine k_gTX6_house (pc := 29) kwf_X6_28 rfl dX6_night_29 ?_
      refine k_aload_n (pc := 32) dX6_night_32 rfl ?_
      refine k_gTX6_talls (pc := 33) kwf_X6_35 rfl dX6_night_33 ?_
      refine k_vv1 (pc := 36) (cT_same _ _) ckX0_tallsAsChosen kwm_X6_141 cT_rv3 ⟨rfl, rfl⟩ ⟨Nat.le_of_ble_eq_true rfl, Nat.le_of_ble_eq_true rfl⟩ ⟨Nat.zero_le _, Nat.zero_le _⟩ (Nat.le_of_ble_eq_true rfl) dX6_night_36 (fun _ _ hf => kX0_tallsAsChosen hf) (fun r3 σ4 => ?_)
      refine k_aload_n (pc := 39) dX6_night_39 rfl ?_
      refine k_gTX6_house (pc := 40) kwf_X6_28 rfl dX6_night_40 ?_
      refine k_aload_n (pc := 43) dX6_night_43 rfl ?_
      refine k_gTX6_talls (pc := 44) kwf_X6_35 rfl dX6_night_44 ?_
      refine k_vi1 (pc := 47) (cT_same _ _) ckX0_goBy kwm_X6_145 cT_rv3 ⟨rfl, rfl⟩ ⟨Nat.le_of_ble_eq_true rfl, Nat.le_of_ble_eq_true rfl⟩ ⟨Nat.zero_le _, Nat.zero_le _⟩ (Nat.le_of_ble_eq_true rfl) dX6_night_47 (fun _ _ hf => kX0_goBy hf) (fun r5 σ6 => ?_)
      exact k_ireturn (pc := 50) rfl dX6_night_50
    · refine k_bipush (pc := 25) (v := (-4)) dX6_night_25 (by decide) ?_
      exact k_ireturn (pc := 27) rfl dX6_night_27
  · refine k_bipush (pc := 10) (v := (-3)) dX6_night_10 (by decide) ?_
    exact k_ireturn (pc := 12) rfl dX6_night_12
-- TallTales$House.hasNight(I)Z
theorem ckX0_hasNight : k_Vok yX0_hasNight cX0_hasNight 2 (some .boolean) 1 := ⟨kwk_X0_hasNight, kwi_X0_hasNight, kwv_X0_hasNight, kwn_X0, by decide, by decide +kernel⟩
abbrev rmX0_hasNight : Room := { frames := 0, cells := 0, slots := 0, locals := 0 }
abbrev YX0_hasNight : k_Y := (rmX0_hasNight, cX0_hasNight, 2, RX0, (some .boolean))
noncomputable def fX0_hasNight (σ : k_S) (x1 : Int32) : Option (Int32 × k_S) := (if x1 < 0 then k_z (0) (some (0, σ)) else (if x1 < σ.1 6 then k_z (1) (some (1, σ)) else k_z (0) (some (0, σ))))
set_option maxRecDepth 100000 in
set_option maxHeartbeats 4000000 in
theorem kX0_hasNight {D : va_G} {cI : ClassId} {q : Nat → Nat} {σ : k_S} {x1 : Int32} {r : Int32} {τ : k_S} (h : fX0_hasNight σ x1 = some (r, τ)) : k_Ct k_ei yX0_hasNight cX0_hasNight 2 (some .boolean) rmX0_hasNight (cT cI q) D cI [.ref (q 3), .int x1] σ r τ := by
  refine k_met (Y := YX0_hasNight) (cT_same _ _) (by decide) rfl (Nat.le_of_ble_eq_true rfl) (List.forall_mem_cons.mpr ⟨rfl, List.forall_mem_cons.mpr ⟨rfl, fun _ h => absurd h List.not_mem_nil⟩⟩) (fun X hD hI => ?_) h
  subst hD hI
  show KO X YX0_hasNight (cT (k_I X) q) 0 0 (k_Q k_ei X (cT (k_I X) q)) 0 [some (.ref (q 3)), some (.int x1)] [] σ _
  unfold fX0_hasNight
  refine k_iload_n (pc := 0) dX0_hasNight_0 rfl ?_
  refine k_if_lt (pc := 1) 16 dX0_hasNight_1 (by decide) ?_ ?_
  · refine k_iconst (pc := 16) (v := 0) dX0_hasNight_16 (by decide) ?_
    exact k_zreturn (pc := 17) rfl dX0_hasNight_17
  · refine k_iload_n (pc := 4) dX0_hasNight_4 rfl ?_
    refine k_aload_n (pc := 5) dX0_hasNight_5 rfl ?_
    refine k_gTX0_nights (pc := 6) kwf_X0_66 rfl dX0_hasNight_6 ?_
    refine k_icmp_ge (pc := 9) 16 dX0_hasNight_9 (by decide) ?_ ?_
    · refine k_iconst (pc := 16) (v := 0) dX0_hasNight_16 (by decide) ?_
      exact k_zreturn (pc := 17) rfl dX0_hasNight_17
    · refine k_iconst (pc := 12) (v := 1) dX0_hasNight_12 (by decide) ?_
      refine k_goto (pc := 13) 17 dX0_hasNight_13 (by decide) ?_
      exact k_zreturn (pc := 17) rfl dX0_hasNight_17
-- TallTales.ofNight(III)I
theorem ckX6_ofNight : k_Vok yX6_ofNight cX6_ofNight 5 (some .int) 3 := ⟨kwk_X6_ofNight, kwi_X6_ofNight, kwv_X6_ofNight, kwn_X6, by decide, by decide +kernel⟩
abbrev rmX6_ofNight : Room := { frames := 1, cells := 0, slots := 0, locals := 21 }
abbrev YX6_ofNight : k_Y := (rmX6_ofNight, cX6_ofNight, 5, RX6, (some .int))
noncomputable def fX6_ofNight (σ : k_S) (x1 x2 x3 : Int32) : Option (Int32 × k_S) := k_ob (fX0_hasNight σ x1) fun r1 σ2 => (if r1 = 0 then some ((-1), σ2) else k_ob (fX0_hasGuest σ2 x2) fun r3 σ4 => (if r3 = 0 then some ((-1), σ4) else k_bn (((x1 * 5) + x2)) fun v5 => (if x3 = 0 then k_gd (v5) 300 (some (σ4.2 11 (Int32.toNatClampNeg (v5)), σ4)) else (if x3 = 1 then k_gd (v5) 300 (some (σ4.2 12 (Int32.toNatClampNeg (v5)), σ4)) else (if x3 = 2 then k_gd (v5) 300 (some (σ4.2 13 (Int32.toNatClampNeg (v5)), σ4)) else some ((-2), σ4))))))
set_option maxRecDepth 100000 in
set_option maxHeartbeats 4000000 in
theorem kX6_ofNight {D : va_G} {cI : ClassId} {q : Nat → Nat} {σ : k_S} {x1 x2 x3 : Int32} {r : Int32} {τ : k_S} (h : fX6_ofNight σ x1 x2 x3 = some (r, τ)) : k_Ct k_ei yX6_ofNight cX6_ofNight 5 (some .int) rmX6_ofNight (cT cI q) D cI [.ref (q 0), .int x1, .int x2, .int x3] σ r τ := by
  refine k_met (Y := YX6_ofNight) (cT_same _ _) (by decide) rfl (Nat.le_of_ble_eq_true rfl) (List.forall_mem_cons.mpr ⟨rfl, List.forall_mem_cons.mpr ⟨rfl, List.forall_mem_cons.mpr ⟨rfl, List.forall_mem_cons.mpr ⟨rfl, fun _ h => absurd h List.not_mem_nil⟩⟩⟩⟩) (fun X hD hI => ?_) h
  subst hD hI
  show KO X YX6_ofNight (cT (k_I X) q) 0 0 (k_Q k_ei X (cT (k_I X) q)) 0 [some (.ref (q 0)), some (.int x1), some (.int x2), some (.int x3), none] [] σ _
  unfold fX6_ofNight
  refine k_aload_n (pc := 0) dX6_ofNight_0 rfl ?_
  refine k_gTX6_house (pc := 1) kwf_X6_28 rfl dX6_ofNight_1 ?_
  refine k_iload_n (pc := 4) dX6_ofNight_4 rfl ?_
  refine k_vi1 (pc := 5) (cT_same _ _) ckX0_hasNight kwm_X6_149 cT_rv3 ⟨rfl, rfl⟩ ⟨Nat.le_of_ble_eq_true rfl, Nat.le_of_ble_eq_true rfl⟩ ⟨Nat.zero_le _, Nat.zero_le _⟩ (Nat.le_of_ble_eq_true rfl) dX6_ofNight_5 (fun _ _ hf => kX0_hasNight hf) (fun r1 σ2 => ?_)
  refine k_if_eq (pc := 8) 22 dX6_ofNight_8 (by decide) ?_ ?_
  · refine k_iconst (pc := 22) (v := (-1)) dX6_ofNight_22 (by decide) ?_
    exact k_ireturn (pc := 23) rfl dX6_ofNight_23
  · refine k_aload_n (pc := 11) dX6_ofNight_11 rfl ?_
    refine k_gTX6_house (pc := 12) kwf_X6_28 rfl dX6_ofNight_12 ?_
    refine k_iload_n (pc := 15) dX6_ofNight_15 rfl ?_
    refine k_vi1 (pc := 16) (cT_same _ _) ckX0_hasGuest kwm_X6_132 cT_rv3 ⟨rfl, rfl⟩ ⟨Nat.le_of_ble_eq_true rfl, Nat.le_of_ble_eq_true rfl⟩ ⟨Nat.zero_le _, Nat.zero_le _⟩ (Nat.le_of_ble_eq_true rfl) dX6_ofNight_16 (fun _ _ hf => kX0_hasGuest hf) (fun r3 σ4 => ?_)
    refine k_if_ne (pc := 19) 24 dX6_ofNight_19 (by decide) ?_ ?_
    · refine k_iload_n (pc := 24) dX6_ofNight_24 rfl ?_
      refine k_iconst (pc := 25) (v := 5) dX6_ofNight_25 (by decide) ?_
      refine k_imul (pc := 26) dX6_ofNight_26 ?_
      refine k_iload_n (pc := 27) dX6_ofNight_27 rfl ?_
      refine k_iadd (pc := 28) dX6_ofNight_28 ?_
      refine k_ist4 (pc := 29) dX6_ofNight_29 (by decide) (fun v5 => ?_)
      refine k_iload_n (pc := 31) dX6_ofNight_31 rfl ?_
      refine KO.ite (c := x3 = 0) (fun hs6_0 => ?_) (fun hs6_0 => ?_)
      · refine k_tableIn (off := 28) (pc := 32) 60 dX6_ofNight_32 hs6_0 (by decide) (by decide) (by decide) (by decide) ?_
        refine k_aload_n (pc := 60) dX6_ofNight_60 rfl ?_
        refine k_gTX6_house (pc := 61) kwf_X6_28 rfl dX6_ofNight_61 ?_
        refine k_gTX0_nightTale (pc := 64) kwf_X6_152 rfl dX6_ofNight_64 ?_
        refine k_iload (pc := 67) dX6_ofNight_67 rfl ?_
        refine k_lT18 (pc := 69) dX6_ofNight_69 ?_
        exact k_ireturn (pc := 70) rfl dX6_ofNight_70
      · refine KO.ite (c := x3 = 1) (fun hs6_1 => ?_) (fun hs6_1 => ?_)
        · refine k_tableIn (off := 39) (pc := 32) 71 dX6_ofNight_32 hs6_1 (by decide) (by decide) (by decide) (by decide) ?_
          refine k_aload_n (pc := 71) dX6_ofNight_71 rfl ?_
          refine k_gTX6_house (pc := 72) kwf_X6_28 rfl dX6_ofNight_72 ?_
          refine k_gTX0_nightPlace (pc := 75) kwf_X6_155 rfl dX6_ofNight_75 ?_
          refine k_iload (pc := 78) dX6_ofNight_78 rfl ?_
          refine k_lT19 (pc := 80) dX6_ofNight_80 ?_
          exact k_ireturn (pc := 81) rfl dX6_ofNight_81
        · refine KO.ite (c := x3 = 2) (fun hs6_2 => ?_) (fun hs6_2 => ?_)
          · refine k_tableIn (off := 50) (pc := 32) 82 dX6_ofNight_32 hs6_2 (by decide) (by decide) (by decide) (by decide) ?_
            refine k_aload_n (pc := 82) dX6_ofNight_82 rfl ?_
            refine k_gTX6_house (pc := 83) kwf_X6_28 rfl dX6_ofNight_83 ?_
            refine k_gTX0_nightTall (pc := 86) kwf_X6_158 rfl dX6_ofNight_86 ?_
            refine k_iload (pc := 89) dX6_ofNight_89 rfl ?_
            refine k_lT20 (pc := 91) dX6_ofNight_91 ?_
            exact k_ireturn (pc := 92) rfl dX6_ofNight_92
          · refine k_tableOut (pc := 32) 93 dX6_ofNight_32 (by have g0 := lv_neT (a := 0) hs6_0 (by decide); have g1 := lv_neT (a := 1) hs6_1 (by decide); have g2 := lv_neT (a := 2) hs6_2 (by decide); omega) (by decide) ?_
            refine k_bipush (pc := 93) (v := (-2)) dX6_ofNight_93 (by decide) ?_
            exact k_ireturn (pc := 95) rfl dX6_ofNight_95
    · refine k_iconst (pc := 22) (v := (-1)) dX6_ofNight_22 (by decide) ?_
      exact k_ireturn (pc := 23) rfl dX6_ofNight_23
-- TallTales.undo(I)I
theorem ckX6_undo : k_Vok yX6_undo cX6_undo 2 (some .int) 1 := ⟨kwk_X6_undo, kwi_X6_undo, kwv_X6_undo, kwn_X6, by decide, by decide +kernel⟩
abbrev rmX6_undo : Room := { frames := 3, cells := 0, slots := 0, locals := 83 }
abbrev YX6_undo : k_Y := (rmX6_undo, cX6_undo, 2, RX6, (some .int))
noncomputable def fX6_undo (σ : k_S) (x1 : Int32) : Option (Int32 × k_S) := (if x1 < 0 then some ((-2), σ) else (if σ.1 6 < x1 then some ((-2), σ) else k_ob (fX0_goBack σ x1) fun r1 σ2 => some (σ2.1 6, σ2)))
set_option maxRecDepth 100000 in
set_option maxHeartbeats 4000000 in
theorem kX6_undo {D : va_G} {cI : ClassId} {q : Nat → Nat} {σ : k_S} {x1 : Int32} {r : Int32} {τ : k_S} (h : fX6_undo σ x1 = some (r, τ)) : k_Ct k_ei yX6_undo cX6_undo 2 (some .int) rmX6_undo (cT cI q) D cI [.ref (q 0), .int x1] σ r τ := by
  refine k_met (Y := YX6_undo) (cT_same _ _) (by decide) rfl (Nat.le_of_ble_eq_true rfl) (List.forall_mem_cons.mpr ⟨rfl, List.forall_mem_cons.mpr ⟨rfl, fun _ h => absurd h List.not_mem_nil⟩⟩) (fun X hD hI => ?_) h
  subst hD hI
  show KO X YX6_undo (cT (k_I X) q) 0 0 (k_Q k_ei X (cT (k_I X) q)) 0 [some (.ref (q 0)), some (.int x1)] [] σ _
  unfold fX6_undo
  refine k_iload_n (pc := 0) dX6_undo_0 rfl ?_
  refine k_if_lt (pc := 1) 15 dX6_undo_1 (by decide) ?_ ?_
  · refine k_bipush (pc := 15) (v := (-2)) dX6_undo_15 (by decide) ?_
    exact k_ireturn (pc := 17) rfl dX6_undo_17
  · refine k_iload_n (pc := 4) dX6_undo_4 rfl ?_
    refine k_aload_n (pc := 5) dX6_undo_5 rfl ?_
    refine k_gTX6_house (pc := 6) kwf_X6_28 rfl dX6_undo_6 ?_
    refine k_gTX0_nights (pc := 9) kwf_X6_138 rfl dX6_undo_9 ?_
    refine k_icmp_le (pc := 12) 18 dX6_undo_12 (by decide) ?_ ?_
    · refine k_aload_n (pc := 18) dX6_undo_18 rfl ?_
      refine k_gTX6_house (pc := 19) kwf_X6_28 rfl dX6_undo_19 ?_
      refine k_iload_n (pc := 22) dX6_undo_22 rfl ?_
      refine k_vv1 (pc := 23) (cT_same _ _) ckX0_goBack kwm_X6_161 cT_rv3 ⟨rfl, rfl⟩ ⟨Nat.le_of_ble_eq_true rfl, Nat.le_of_ble_eq_true rfl⟩ ⟨Nat.zero_le _, Nat.zero_le _⟩ (Nat.le_of_ble_eq_true rfl) dX6_undo_23 (fun _ _ hf => kX0_goBack hf) (fun r1 σ2 => ?_)
      refine k_aload_n (pc := 26) dX6_undo_26 rfl ?_
      refine k_gTX6_house (pc := 27) kwf_X6_28 rfl dX6_undo_27 ?_
      refine k_gTX0_nights (pc := 30) kwf_X6_138 rfl dX6_undo_30 ?_
      exact k_ireturn (pc := 33) rfl dX6_undo_33
    · refine k_bipush (pc := 15) (v := (-2)) dX6_undo_15 (by decide) ?_
      exact k_ireturn (pc := 17) rfl dX6_undo_17
-- TallTales$House.nightsAt(II)I
theorem ckX0_nightsAt : k_Vok yX0_nightsAt cX0_nightsAt 5 (some .int) 2 := ⟨kwk_X0_nightsAt, kwi_X0_nightsAt, kwv_X0_nightsAt, kwn_X0, by decide, by decide +kernel⟩
abbrev rmX0_nightsAt : Room := { frames := 0, cells := 0, slots := 0, locals := 0 }
abbrev YX0_nightsAt : k_Y := (rmX0_nightsAt, cX0_nightsAt, 5, RX0, (some .int))
noncomputable def fX0_nightsAt_c32 (kh5 : k_S → Int32 → Int32 → Int32 → Int32 → Option (Int32 × k_S)) (σ : k_S) (l1 l2 l3 l4 : Int32) : Option (Int32 × k_S) := k_bn (l4 + 1) fun v1 => kh5 σ l1 l2 l3 v1
set_option maxRecDepth 100000 in
set_option maxHeartbeats 4000000 in
theorem kX0_nightsAt_c32 {X : k_C} {q : Nat → Nat} (kh5 : k_S → Int32 → Int32 → Int32 → Int32 → Option (Int32 × k_S)) (hk5 : ∀ (σ : k_S) (l1 l2 l3 l4 : Int32), KO X YX0_nightsAt (cT (k_I X) q) 0 0 (k_Q k_ei X (cT (k_I X) q)) 5 [some (.ref (q 3)), some (.int l1), some (.int l2), some (.int l3), some (.int l4)] [] σ (kh5 σ l1 l2 l3 l4)) (σ : k_S) (l1 l2 l3 l4 : Int32) : KO X YX0_nightsAt (cT (k_I X) q) 0 0 (k_Q k_ei X (cT (k_I X) q)) 32 [some (.ref (q 3)), some (.int l1), some (.int l2), some (.int l3), some (.int l4)] [] σ (fX0_nightsAt_c32 kh5 σ l1 l2 l3 l4) := by
  unfold fX0_nightsAt_c32
  refine k_iinc4 (pc := 32) (w := 1) dX0_nightsAt_32 rfl (by decide) (by decide) (fun v1 => ?_)
  refine k_goto (pc := 35) 5 dX0_nightsAt_35 (by decide) ?_
  exact hk5 σ l1 l2 l3 v1
noncomputable def fX0_nightsAt_c5 : Nat → k_S → Int32 → Int32 → Int32 → Int32 → Option (Int32 × k_S)
  | 0, _, _, _, _, _ => none
  | n + 1, σ, l1, l2, l3, l4 => (if l4 < σ.1 6 then k_gd (((l4 * 5) + l1)) 300 ((if σ.2 12 (Int32.toNatClampNeg (((l4 * 5) + l1))) = l2 then k_bn (l3 + 1) fun v1 => fX0_nightsAt_c32 (fX0_nightsAt_c5 n) σ l1 l2 v1 l4 else fX0_nightsAt_c32 (fX0_nightsAt_c5 n) σ l1 l2 l3 l4)) else some (l3, σ))
theorem fX0_nightsAt_c5_s (n : Nat) (σ : k_S) (l1 l2 l3 l4 : Int32) : fX0_nightsAt_c5 (n + 1) σ l1 l2 l3 l4 = (if l4 < σ.1 6 then k_gd (((l4 * 5) + l1)) 300 ((if σ.2 12 (Int32.toNatClampNeg (((l4 * 5) + l1))) = l2 then k_bn (l3 + 1) fun v1 => fX0_nightsAt_c32 (fX0_nightsAt_c5 n) σ l1 l2 v1 l4 else fX0_nightsAt_c32 (fX0_nightsAt_c5 n) σ l1 l2 l3 l4)) else some (l3, σ)) := rfl
set_option maxRecDepth 100000 in
set_option maxHeartbeats 4000000 in
theorem kX0_nightsAt_c5 {X : k_C} {q : Nat → Nat} : ∀ (n : Nat) (σ : k_S) (l1 l2 l3 l4 : Int32), KO X YX0_nightsAt (cT (k_I X) q) 0 0 (k_Q k_ei X (cT (k_I X) q)) 5 [some (.ref (q 3)), some (.int l1), some (.int l2), some (.int l3), some (.int l4)] [] σ (fX0_nightsAt_c5 n σ l1 l2 l3 l4) := by
  intro n
  induction n with
  | zero => intros; exact KO.nil
  | succ n ih =>
    intro σ l1 l2 l3 l4
    rw [fX0_nightsAt_c5_s]
    refine k_iload (pc := 5) dX0_nightsAt_5 rfl ?_
    refine k_aload_n (pc := 7) dX0_nightsAt_7 rfl ?_
    refine k_gTX0_nights (pc := 8) kwf_X0_66 rfl dX0_nightsAt_8 ?_
    refine k_icmp_ge (pc := 11) 38 dX0_nightsAt_11 (by decide) ?_ ?_
    · refine k_iload_n (pc := 38) dX0_nightsAt_38 rfl ?_
      exact k_ireturn (pc := 39) rfl dX0_nightsAt_39
    · refine k_aload_n (pc := 14) dX0_nightsAt_14 rfl ?_
      refine k_gTX0_nightPlace (pc := 15) kwf_X0_33 rfl dX0_nightsAt_15 ?_
      refine k_iload (pc := 18) dX0_nightsAt_18 rfl ?_
      refine k_iconst (pc := 20) (v := 5) dX0_nightsAt_20 (by decide) ?_
      refine k_imul (pc := 21) dX0_nightsAt_21 ?_
      refine k_iload_n (pc := 22) dX0_nightsAt_22 rfl ?_
      refine k_iadd (pc := 23) dX0_nightsAt_23 ?_
      refine k_lT19 (pc := 24) dX0_nightsAt_24 ?_
      refine k_iload_n (pc := 25) dX0_nightsAt_25 rfl ?_
      refine k_icmp_ne (pc := 26) 32 dX0_nightsAt_26 (by decide) ?_ ?_
      · exact kX0_nightsAt_c32 (fX0_nightsAt_c5 n) ih σ l1 l2 l3 l4
      · refine k_iinc3 (pc := 29) (w := 1) dX0_nightsAt_29 rfl (by decide) (by decide) (fun v1 => ?_)
        exact kX0_nightsAt_c32 (fX0_nightsAt_c5 n) ih σ l1 l2 v1 l4
noncomputable def fX0_nightsAt (σ : k_S) (x1 x2 : Int32) : Option (Int32 × k_S) := k_bn (0) fun v1 => k_bn (0) fun v2 => fX0_nightsAt_c5 k_F σ x1 x2 v1 v2
set_option maxRecDepth 100000 in
set_option maxHeartbeats 4000000 in
theorem kX0_nightsAt {D : va_G} {cI : ClassId} {q : Nat → Nat} {σ : k_S} {x1 x2 : Int32} {r : Int32} {τ : k_S} (h : fX0_nightsAt σ x1 x2 = some (r, τ)) : k_Ct k_ei yX0_nightsAt cX0_nightsAt 5 (some .int) rmX0_nightsAt (cT cI q) D cI [.ref (q 3), .int x1, .int x2] σ r τ := by
  refine k_met (Y := YX0_nightsAt) (cT_same _ _) (by decide) rfl (Nat.le_of_ble_eq_true rfl) (List.forall_mem_cons.mpr ⟨rfl, List.forall_mem_cons.mpr ⟨rfl, List.forall_mem_cons.mpr ⟨rfl, fun _ h => absurd h List.not_mem_nil⟩⟩⟩) (fun X hD hI => ?_) h
  subst hD hI
  show KO X YX0_nightsAt (cT (k_I X) q) 0 0 (k_Q k_ei X (cT (k_I X) q)) 0 [some (.ref (q 3)), some (.int x1), some (.int x2), none, none] [] σ _
  unfold fX0_nightsAt
  refine k_iconst (pc := 0) (v := 0) dX0_nightsAt_0 (by decide) ?_
  refine k_ist3 (pc := 1) dX0_nightsAt_1 (by decide) (fun v1 => ?_)
  refine k_iconst (pc := 2) (v := 0) dX0_nightsAt_2 (by decide) ?_
  refine k_ist4 (pc := 3) dX0_nightsAt_3 (by decide) (fun v2 => ?_)
  exact kX0_nightsAt_c5 k_F σ x1 x2 v1 v2
-- TallTales.lay(II)I
theorem ckX6_lay : k_Vok yX6_lay cX6_lay 3 (some .int) 2 := ⟨kwk_X6_lay, kwi_X6_lay, kwv_X6_lay, kwn_X6, by decide, by decide +kernel⟩
abbrev rmX6_lay : Room := { frames := 1, cells := 0, slots := 0, locals := 24 }
abbrev YX6_lay : k_Y := (rmX6_lay, cX6_lay, 3, RX6, (some .int))
noncomputable def fX6_lay (σ : k_S) (x1 x2 : Int32) : Option (Int32 × k_S) := k_ob (fX0_hasGuest σ x1) fun r1 σ2 => (if r1 = 0 then some ((-1), σ2) else k_ob (fX0_hasGuest σ2 x2) fun r3 σ4 => (if r3 = 0 then some ((-1), σ4) else k_ob (fX0_nightsAt σ4 x1 x2) fun r5 σ6 => some (r5, σ6)))
set_option maxRecDepth 100000 in
set_option maxHeartbeats 4000000 in
theorem kX6_lay {D : va_G} {cI : ClassId} {q : Nat → Nat} {σ : k_S} {x1 x2 : Int32} {r : Int32} {τ : k_S} (h : fX6_lay σ x1 x2 = some (r, τ)) : k_Ct k_ei yX6_lay cX6_lay 3 (some .int) rmX6_lay (cT cI q) D cI [.ref (q 0), .int x1, .int x2] σ r τ := by
  refine k_met (Y := YX6_lay) (cT_same _ _) (by decide) rfl (Nat.le_of_ble_eq_true rfl) (List.forall_mem_cons.mpr ⟨rfl, List.forall_mem_cons.mpr ⟨rfl, List.forall_mem_cons.mpr ⟨rfl, fun _ h => absurd h List.not_mem_nil⟩⟩⟩) (fun X hD hI => ?_) h
  subst hD hI
  show KO X YX6_lay (cT (k_I X) q) 0 0 (k_Q k_ei X (cT (k_I X) q)) 0 [some (.ref (q 0)), some (.int x1), some (.int x2)] [] σ _
  unfold fX6_lay
  refine k_aload_n (pc := 0) dX6_lay_0 rfl ?_
  refine k_gTX6_house (pc := 1) kwf_X6_28 rfl dX6_lay_1 ?_
  refine k_iload_n (pc := 4) dX6_lay_4 rfl ?_
  refine k_vi1 (pc := 5) (cT_same _ _) ckX0_hasGuest kwm_X6_132 cT_rv3 ⟨rfl, rfl⟩ ⟨Nat.le_of_ble_eq_true rfl, Nat.le_of_ble_eq_true rfl⟩ ⟨Nat.zero_le _, Nat.zero_le _⟩ (Nat.le_of_ble_eq_true rfl) dX6_lay_5 (fun _ _ hf => kX0_hasGuest hf) (fun r1 σ2 => ?_)
  refine k_if_eq (pc := 8) 22 dX6_lay_8 (by decide) ?_ ?_
  · refine k_iconst (pc := 22) (v := (-1)) dX6_lay_22 (by decide) ?_
    exact k_ireturn (pc := 23) rfl dX6_lay_23
  · refine k_aload_n (pc := 11) dX6_lay_11 rfl ?_
    refine k_gTX6_house (pc := 12) kwf_X6_28 rfl dX6_lay_12 ?_
    refine k_iload_n (pc := 15) dX6_lay_15 rfl ?_
    refine k_vi1 (pc := 16) (cT_same _ _) ckX0_hasGuest kwm_X6_132 cT_rv3 ⟨rfl, rfl⟩ ⟨Nat.le_of_ble_eq_true rfl, Nat.le_of_ble_eq_true rfl⟩ ⟨Nat.zero_le _, Nat.zero_le _⟩ (Nat.le_of_ble_eq_true rfl) dX6_lay_16 (fun _ _ hf => kX0_hasGuest hf) (fun r3 σ4 => ?_)
    refine k_if_ne (pc := 19) 24 dX6_lay_19 (by decide) ?_ ?_
    · refine k_aload_n (pc := 24) dX6_lay_24 rfl ?_
      refine k_gTX6_house (pc := 25) kwf_X6_28 rfl dX6_lay_25 ?_
      refine k_iload_n (pc := 28) dX6_lay_28 rfl ?_
      refine k_iload_n (pc := 29) dX6_lay_29 rfl ?_
      refine k_vi2 (pc := 30) (cT_same _ _) ckX0_nightsAt kwm_X6_165 cT_rv3 ⟨rfl, rfl⟩ ⟨Nat.le_of_ble_eq_true rfl, Nat.le_of_ble_eq_true rfl⟩ ⟨Nat.zero_le _, Nat.zero_le _⟩ (Nat.le_of_ble_eq_true rfl) dX6_lay_30 (fun _ _ hf => kX0_nightsAt hf) (fun r5 σ6 => ?_)
      exact k_ireturn (pc := 33) rfl dX6_lay_33
    · refine k_iconst (pc := 22) (v := (-1)) dX6_lay_22 (by decide) ?_
      exact k_ireturn (pc := 23) rfl dX6_lay_23
end
