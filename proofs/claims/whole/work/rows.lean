section
-- ===== PART A: goes FIRST, ahead of the names: the tables' words, and 'selects' of the private methods out of them =====
/-- a private method of a class that the tables say can be made, by its rows of tables_1 -/
def lw_okq (q : MethodName × Nat) : Prop := (q.1.cls ≠ "java/lang/invoke/MethodHandle" ∧ q.1.cls ≠ "java/lang/invoke/VarHandle") ∧ Cond.instantiable q.1.cls q.2 ∈ tables_1 ∧ Cond.privateMethod q.1 ∈ tables_1 ∧ Cond.instanceMethod q.1 ∈ tables_1
theorem lw_p0 : lw_okq (⟨"TallTales", "faulty", "(I)I"⟩, 9) := ⟨⟨by decide +kernel, by decide +kernel⟩, List.mem_of_getElem? (i := 13) (by decide +kernel), List.mem_of_getElem? (i := 256) (by decide +kernel), List.mem_of_getElem? (i := 257) (by decide +kernel)⟩
theorem lw_p1 : lw_okq (⟨"TallTales", "bestReply", "(IIZ)I"⟩, 9) := ⟨⟨by decide +kernel, by decide +kernel⟩, List.mem_of_getElem? (i := 13) (by decide +kernel), List.mem_of_getElem? (i := 406) (by decide +kernel), List.mem_of_getElem? (i := 407) (by decide +kernel)⟩
theorem lw_p2 : lw_okq (⟨"TallTales", "isBetterReply", "(III)Z"⟩, 9) := ⟨⟨by decide +kernel, by decide +kernel⟩, List.mem_of_getElem? (i := 13) (by decide +kernel), List.mem_of_getElem? (i := 415) (by decide +kernel), List.mem_of_getElem? (i := 416) (by decide +kernel)⟩
theorem lw_p3 : lw_okq (⟨"TallTales", "canHaveTold", "(II)I"⟩, 9) := ⟨⟨by decide +kernel, by decide +kernel⟩, List.mem_of_getElem? (i := 13) (by decide +kernel), List.mem_of_getElem? (i := 510) (by decide +kernel), List.mem_of_getElem? (i := 511) (by decide +kernel)⟩
theorem lw_p4 : lw_okq (⟨"TallTales", "tellAsGrown", "(I)I"⟩, 9) := ⟨⟨by decide +kernel, by decide +kernel⟩, List.mem_of_getElem? (i := 13) (by decide +kernel), List.mem_of_getElem? (i := 581) (by decide +kernel), List.mem_of_getElem? (i := 582) (by decide +kernel)⟩
theorem lw_p5 : lw_okq (⟨"TallTales", "leaveTrace", "(I)V"⟩, 9) := ⟨⟨by decide +kernel, by decide +kernel⟩, List.mem_of_getElem? (i := 13) (by decide +kernel), List.mem_of_getElem? (i := 585) (by decide +kernel), List.mem_of_getElem? (i := 586) (by decide +kernel)⟩
theorem lw_p6 : lw_okq (⟨"TallTales", "tellAsTale", "(I)I"⟩, 9) := ⟨⟨by decide +kernel, by decide +kernel⟩, List.mem_of_getElem? (i := 13) (by decide +kernel), List.mem_of_getElem? (i := 589) (by decide +kernel), List.mem_of_getElem? (i := 590) (by decide +kernel)⟩
theorem lw_p7 : lw_okq (⟨"TallTales", "tellAsTrue", "(I)I"⟩, 9) := ⟨⟨by decide +kernel, by decide +kernel⟩, List.mem_of_getElem? (i := 13) (by decide +kernel), List.mem_of_getElem? (i := 593) (by decide +kernel), List.mem_of_getElem? (i := 594) (by decide +kernel)⟩
theorem lw_p8 : lw_okq (⟨"TallTalesModel", "against", "(IIII)I"⟩, 31) := ⟨⟨by decide +kernel, by decide +kernel⟩, List.mem_of_getElem? (i := 617) (by decide +kernel), List.mem_of_getElem? (i := 730) (by decide +kernel), List.mem_of_getElem? (i := 731) (by decide +kernel)⟩
theorem lw_p9 : lw_okq (⟨"TallTalesModel", "fails", "(I)I"⟩, 31) := ⟨⟨by decide +kernel, by decide +kernel⟩, List.mem_of_getElem? (i := 617) (by decide +kernel), List.mem_of_getElem? (i := 734) (by decide +kernel), List.mem_of_getElem? (i := 735) (by decide +kernel)⟩
theorem lw_p10 : lw_okq (⟨"TallTalesModel", "readInn", "(I)Z"⟩, 31) := ⟨⟨by decide +kernel, by decide +kernel⟩, List.mem_of_getElem? (i := 617) (by decide +kernel), List.mem_of_getElem? (i := 738) (by decide +kernel), List.mem_of_getElem? (i := 739) (by decide +kernel)⟩
theorem lw_p11 : lw_okq (⟨"TallTalesModel", "digitAt", "(II)I"⟩, 31) := ⟨⟨by decide +kernel, by decide +kernel⟩, List.mem_of_getElem? (i := 617) (by decide +kernel), List.mem_of_getElem? (i := 742) (by decide +kernel), List.mem_of_getElem? (i := 743) (by decide +kernel)⟩
theorem lw_p12 : lw_okq (⟨"TallTalesModel", "readTale", "(I)Z"⟩, 31) := ⟨⟨by decide +kernel, by decide +kernel⟩, List.mem_of_getElem? (i := 617) (by decide +kernel), List.mem_of_getElem? (i := 746) (by decide +kernel), List.mem_of_getElem? (i := 747) (by decide +kernel)⟩
theorem lw_p13 : lw_okq (⟨"TallTalesModel", "countTold", "()V"⟩, 31) := ⟨⟨by decide +kernel, by decide +kernel⟩, List.mem_of_getElem? (i := 617) (by decide +kernel), List.mem_of_getElem? (i := 750) (by decide +kernel), List.mem_of_getElem? (i := 751) (by decide +kernel)⟩
theorem lw_p14 : lw_okq (⟨"TallTalesModel", "chooseNone", "()V"⟩, 31) := ⟨⟨by decide +kernel, by decide +kernel⟩, List.mem_of_getElem? (i := 617) (by decide +kernel), List.mem_of_getElem? (i := 754) (by decide +kernel), List.mem_of_getElem? (i := 755) (by decide +kernel)⟩
theorem lw_p15 : lw_okq (⟨"TallTalesModel", "isTale", "(I)Z"⟩, 31) := ⟨⟨by decide +kernel, by decide +kernel⟩, List.mem_of_getElem? (i := 617) (by decide +kernel), List.mem_of_getElem? (i := 762) (by decide +kernel), List.mem_of_getElem? (i := 763) (by decide +kernel)⟩
def lw_privs_1 : List (MethodName × Nat) := [(⟨"TallTales", "faulty", "(I)I"⟩, 9), (⟨"TallTales", "bestReply", "(IIZ)I"⟩, 9), (⟨"TallTales", "isBetterReply", "(III)Z"⟩, 9), (⟨"TallTales", "canHaveTold", "(II)I"⟩, 9), (⟨"TallTales", "tellAsGrown", "(I)I"⟩, 9), (⟨"TallTales", "leaveTrace", "(I)V"⟩, 9), (⟨"TallTales", "tellAsTale", "(I)I"⟩, 9), (⟨"TallTales", "tellAsTrue", "(I)I"⟩, 9), (⟨"TallTalesModel", "against", "(IIII)I"⟩, 31), (⟨"TallTalesModel", "fails", "(I)I"⟩, 31), (⟨"TallTalesModel", "readInn", "(I)Z"⟩, 31), (⟨"TallTalesModel", "digitAt", "(II)I"⟩, 31), (⟨"TallTalesModel", "readTale", "(I)Z"⟩, 31), (⟨"TallTalesModel", "countTold", "()V"⟩, 31), (⟨"TallTalesModel", "chooseNone", "()V"⟩, 31), (⟨"TallTalesModel", "isTale", "(I)Z"⟩, 31)]
theorem lw_r1 : ∀ q ∈ lw_privs_1, lw_okq q := List.forall_mem_cons.mpr ⟨lw_p0, List.forall_mem_cons.mpr ⟨lw_p1, List.forall_mem_cons.mpr ⟨lw_p2, List.forall_mem_cons.mpr ⟨lw_p3, List.forall_mem_cons.mpr ⟨lw_p4, List.forall_mem_cons.mpr ⟨lw_p5, List.forall_mem_cons.mpr ⟨lw_p6, List.forall_mem_cons.mpr ⟨lw_p7, List.forall_mem_cons.mpr ⟨lw_p8, List.forall_mem_cons.mpr ⟨lw_p9, List.forall_mem_cons.mpr ⟨lw_p10, List.forall_mem_cons.mpr ⟨lw_p11, List.forall_mem_cons.mpr ⟨lw_p12, List.forall_mem_cons.mpr ⟨lw_p13, List.forall_mem_cons.mpr ⟨lw_p14, List.forall_mem_cons.mpr ⟨lw_p15, fun _ h => absurd h List.not_mem_nil⟩⟩⟩⟩⟩⟩⟩⟩⟩⟩⟩⟩⟩⟩⟩⟩
theorem lw_p16 : lw_okq (⟨"TallTalesModel", "mayNow", "(I)Z"⟩, 31) := ⟨⟨by decide +kernel, by decide +kernel⟩, List.mem_of_getElem? (i := 617) (by decide +kernel), List.mem_of_getElem? (i := 766) (by decide +kernel), List.mem_of_getElem? (i := 767) (by decide +kernel)⟩
theorem lw_p17 : lw_okq (⟨"TallTalesModel", "mayBe", "(IIII)Z"⟩, 31) := ⟨⟨by decide +kernel, by decide +kernel⟩, List.mem_of_getElem? (i := 617) (by decide +kernel), List.mem_of_getElem? (i := 770) (by decide +kernel), List.mem_of_getElem? (i := 771) (by decide +kernel)⟩
theorem lw_p18 : lw_okq (⟨"TallTalesModel", "tallNow", "(I)I"⟩, 31) := ⟨⟨by decide +kernel, by decide +kernel⟩, List.mem_of_getElem? (i := 617) (by decide +kernel), List.mem_of_getElem? (i := 774) (by decide +kernel), List.mem_of_getElem? (i := 775) (by decide +kernel)⟩
theorem lw_p19 : lw_okq (⟨"TallTalesModel", "tallBy", "(II)I"⟩, 31) := ⟨⟨by decide +kernel, by decide +kernel⟩, List.mem_of_getElem? (i := 617) (by decide +kernel), List.mem_of_getElem? (i := 778) (by decide +kernel), List.mem_of_getElem? (i := 779) (by decide +kernel)⟩
theorem lw_p20 : lw_okq (⟨"TallTalesModel", "isGuest", "(I)Z"⟩, 31) := ⟨⟨by decide +kernel, by decide +kernel⟩, List.mem_of_getElem? (i := 617) (by decide +kernel), List.mem_of_getElem? (i := 790) (by decide +kernel), List.mem_of_getElem? (i := 791) (by decide +kernel)⟩
theorem lw_p21 : lw_okq (⟨"TallTalesModel", "layTall", "()V"⟩, 31) := ⟨⟨by decide +kernel, by decide +kernel⟩, List.mem_of_getElem? (i := 617) (by decide +kernel), List.mem_of_getElem? (i := 798) (by decide +kernel), List.mem_of_getElem? (i := 799) (by decide +kernel)⟩
theorem lw_p22 : lw_okq (⟨"TallTalesModel", "inBed", "()I"⟩, 31) := ⟨⟨by decide +kernel, by decide +kernel⟩, List.mem_of_getElem? (i := 617) (by decide +kernel), List.mem_of_getElem? (i := 802) (by decide +kernel), List.mem_of_getElem? (i := 803) (by decide +kernel)⟩
theorem lw_p23 : lw_okq (⟨"TallTalesModel", "placeOf", "(I)I"⟩, 31) := ⟨⟨by decide +kernel, by decide +kernel⟩, List.mem_of_getElem? (i := 617) (by decide +kernel), List.mem_of_getElem? (i := 806) (by decide +kernel), List.mem_of_getElem? (i := 807) (by decide +kernel)⟩
theorem lw_p24 : lw_okq (⟨"TallTalesModel", "isNight", "(I)Z"⟩, 31) := ⟨⟨by decide +kernel, by decide +kernel⟩, List.mem_of_getElem? (i := 617) (by decide +kernel), List.mem_of_getElem? (i := 814) (by decide +kernel), List.mem_of_getElem? (i := 815) (by decide +kernel)⟩
theorem lw_p25 : lw_okq (⟨"TallTalesModel", "layNight", "(I)V"⟩, 31) := ⟨⟨by decide +kernel, by decide +kernel⟩, List.mem_of_getElem? (i := 617) (by decide +kernel), List.mem_of_getElem? (i := 818) (by decide +kernel), List.mem_of_getElem? (i := 819) (by decide +kernel)⟩
theorem lw_p26 : lw_okq (⟨"TallTalesModel", "need", "(I)I"⟩, 31) := ⟨⟨by decide +kernel, by decide +kernel⟩, List.mem_of_getElem? (i := 617) (by decide +kernel), List.mem_of_getElem? (i := 834) (by decide +kernel), List.mem_of_getElem? (i := 835) (by decide +kernel)⟩
theorem lw_p27 : lw_okq (⟨"TallTalesModel", "offer", "(II)V"⟩, 31) := ⟨⟨by decide +kernel, by decide +kernel⟩, List.mem_of_getElem? (i := 617) (by decide +kernel), List.mem_of_getElem? (i := 842) (by decide +kernel), List.mem_of_getElem? (i := 843) (by decide +kernel)⟩
theorem lw_p28 : lw_okq (⟨"TallTalesModel", "found", "(I)I"⟩, 31) := ⟨⟨by decide +kernel, by decide +kernel⟩, List.mem_of_getElem? (i := 617) (by decide +kernel), List.mem_of_getElem? (i := 846) (by decide +kernel), List.mem_of_getElem? (i := 847) (by decide +kernel)⟩
theorem lw_p29 : lw_okq (⟨"TallTalesModel", "isChosen", "(I)Z"⟩, 31) := ⟨⟨by decide +kernel, by decide +kernel⟩, List.mem_of_getElem? (i := 617) (by decide +kernel), List.mem_of_getElem? (i := 854) (by decide +kernel), List.mem_of_getElem? (i := 855) (by decide +kernel)⟩
theorem lw_p30 : lw_okq (⟨"TallTalesModel", "findRests", "()I"⟩, 31) := ⟨⟨by decide +kernel, by decide +kernel⟩, List.mem_of_getElem? (i := 617) (by decide +kernel), List.mem_of_getElem? (i := 866) (by decide +kernel), List.mem_of_getElem? (i := 867) (by decide +kernel)⟩
theorem lw_p31 : lw_okq (⟨"TallTalesModel", "nextOwn", "(II)I"⟩, 31) := ⟨⟨by decide +kernel, by decide +kernel⟩, List.mem_of_getElem? (i := 617) (by decide +kernel), List.mem_of_getElem? (i := 870) (by decide +kernel), List.mem_of_getElem? (i := 871) (by decide +kernel)⟩
def lw_privs_2 : List (MethodName × Nat) := [(⟨"TallTalesModel", "mayNow", "(I)Z"⟩, 31), (⟨"TallTalesModel", "mayBe", "(IIII)Z"⟩, 31), (⟨"TallTalesModel", "tallNow", "(I)I"⟩, 31), (⟨"TallTalesModel", "tallBy", "(II)I"⟩, 31), (⟨"TallTalesModel", "isGuest", "(I)Z"⟩, 31), (⟨"TallTalesModel", "layTall", "()V"⟩, 31), (⟨"TallTalesModel", "inBed", "()I"⟩, 31), (⟨"TallTalesModel", "placeOf", "(I)I"⟩, 31), (⟨"TallTalesModel", "isNight", "(I)Z"⟩, 31), (⟨"TallTalesModel", "layNight", "(I)V"⟩, 31), (⟨"TallTalesModel", "need", "(I)I"⟩, 31), (⟨"TallTalesModel", "offer", "(II)V"⟩, 31), (⟨"TallTalesModel", "found", "(I)I"⟩, 31), (⟨"TallTalesModel", "isChosen", "(I)Z"⟩, 31), (⟨"TallTalesModel", "findRests", "()I"⟩, 31), (⟨"TallTalesModel", "nextOwn", "(II)I"⟩, 31)]
theorem lw_r2 : ∀ q ∈ lw_privs_2, lw_okq q := List.forall_mem_cons.mpr ⟨lw_p16, List.forall_mem_cons.mpr ⟨lw_p17, List.forall_mem_cons.mpr ⟨lw_p18, List.forall_mem_cons.mpr ⟨lw_p19, List.forall_mem_cons.mpr ⟨lw_p20, List.forall_mem_cons.mpr ⟨lw_p21, List.forall_mem_cons.mpr ⟨lw_p22, List.forall_mem_cons.mpr ⟨lw_p23, List.forall_mem_cons.mpr ⟨lw_p24, List.forall_mem_cons.mpr ⟨lw_p25, List.forall_mem_cons.mpr ⟨lw_p26, List.forall_mem_cons.mpr ⟨lw_p27, List.forall_mem_cons.mpr ⟨lw_p28, List.forall_mem_cons.mpr ⟨lw_p29, List.forall_mem_cons.mpr ⟨lw_p30, List.forall_mem_cons.mpr ⟨lw_p31, fun _ h => absurd h List.not_mem_nil⟩⟩⟩⟩⟩⟩⟩⟩⟩⟩⟩⟩⟩⟩⟩⟩
theorem lw_p32 : lw_okq (⟨"TallTalesModel", "isRest", "()Z"⟩, 31) := ⟨⟨by decide +kernel, by decide +kernel⟩, List.mem_of_getElem? (i := 617) (by decide +kernel), List.mem_of_getElem? (i := 874) (by decide +kernel), List.mem_of_getElem? (i := 875) (by decide +kernel)⟩
theorem lw_p33 : lw_okq (⟨"TallTalesModel", "layTells", "()V"⟩, 31) := ⟨⟨by decide +kernel, by decide +kernel⟩, List.mem_of_getElem? (i := 617) (by decide +kernel), List.mem_of_getElem? (i := 878) (by decide +kernel), List.mem_of_getElem? (i := 879) (by decide +kernel)⟩
theorem lw_p34 : lw_okq (⟨"TallTalesModel", "nextTells", "()Z"⟩, 31) := ⟨⟨by decide +kernel, by decide +kernel⟩, List.mem_of_getElem? (i := 617) (by decide +kernel), List.mem_of_getElem? (i := 882) (by decide +kernel), List.mem_of_getElem? (i := 883) (by decide +kernel)⟩
theorem lw_p35 : lw_okq (⟨"TallTalesModel", "findWinter", "(III)I"⟩, 31) := ⟨⟨by decide +kernel, by decide +kernel⟩, List.mem_of_getElem? (i := 617) (by decide +kernel), List.mem_of_getElem? (i := 890) (by decide +kernel), List.mem_of_getElem? (i := 891) (by decide +kernel)⟩
theorem lw_p36 : lw_okq (⟨"TallTalesModel", "mayWinter", "(IIII)Z"⟩, 31) := ⟨⟨by decide +kernel, by decide +kernel⟩, List.mem_of_getElem? (i := 617) (by decide +kernel), List.mem_of_getElem? (i := 894) (by decide +kernel), List.mem_of_getElem? (i := 895) (by decide +kernel)⟩
theorem lw_p37 : lw_okq (⟨"TallTalesModel", "strong", "(I)I"⟩, 31) := ⟨⟨by decide +kernel, by decide +kernel⟩, List.mem_of_getElem? (i := 617) (by decide +kernel), List.mem_of_getElem? (i := 905) (by decide +kernel), List.mem_of_getElem? (i := 906) (by decide +kernel)⟩
theorem lw_p38 : lw_okq (⟨"TallTalesModel", "areAllGuests", "(I)Z"⟩, 31) := ⟨⟨by decide +kernel, by decide +kernel⟩, List.mem_of_getElem? (i := 617) (by decide +kernel), List.mem_of_getElem? (i := 913) (by decide +kernel), List.mem_of_getElem? (i := 914) (by decide +kernel)⟩
theorem lw_p39 : lw_okq (⟨"TallTalesModel", "timesBefore", "(II)I"⟩, 31) := ⟨⟨by decide +kernel, by decide +kernel⟩, List.mem_of_getElem? (i := 617) (by decide +kernel), List.mem_of_getElem? (i := 917) (by decide +kernel), List.mem_of_getElem? (i := 918) (by decide +kernel)⟩
theorem lw_p40 : lw_okq (⟨"TallTalesModel", "doLie", "(I)Z"⟩, 31) := ⟨⟨by decide +kernel, by decide +kernel⟩, List.mem_of_getElem? (i := 617) (by decide +kernel), List.mem_of_getElem? (i := 921) (by decide +kernel), List.mem_of_getElem? (i := 922) (by decide +kernel)⟩
theorem lw_p41 : lw_okq (⟨"TallTalesModel", "lost", "(I)J"⟩, 31) := ⟨⟨by decide +kernel, by decide +kernel⟩, List.mem_of_getElem? (i := 617) (by decide +kernel), List.mem_of_getElem? (i := 942) (by decide +kernel), List.mem_of_getElem? (i := 943) (by decide +kernel)⟩
theorem lw_p42 : lw_okq (⟨"TallTalesModel", "begins", "(I)V"⟩, 31) := ⟨⟨by decide +kernel, by decide +kernel⟩, List.mem_of_getElem? (i := 617) (by decide +kernel), List.mem_of_getElem? (i := 954) (by decide +kernel), List.mem_of_getElem? (i := 955) (by decide +kernel)⟩
def lw_privs_3 : List (MethodName × Nat) := [(⟨"TallTalesModel", "isRest", "()Z"⟩, 31), (⟨"TallTalesModel", "layTells", "()V"⟩, 31), (⟨"TallTalesModel", "nextTells", "()Z"⟩, 31), (⟨"TallTalesModel", "findWinter", "(III)I"⟩, 31), (⟨"TallTalesModel", "mayWinter", "(IIII)Z"⟩, 31), (⟨"TallTalesModel", "strong", "(I)I"⟩, 31), (⟨"TallTalesModel", "areAllGuests", "(I)Z"⟩, 31), (⟨"TallTalesModel", "timesBefore", "(II)I"⟩, 31), (⟨"TallTalesModel", "doLie", "(I)Z"⟩, 31), (⟨"TallTalesModel", "lost", "(I)J"⟩, 31), (⟨"TallTalesModel", "begins", "(I)V"⟩, 31)]
theorem lw_r3 : ∀ q ∈ lw_privs_3, lw_okq q := List.forall_mem_cons.mpr ⟨lw_p32, List.forall_mem_cons.mpr ⟨lw_p33, List.forall_mem_cons.mpr ⟨lw_p34, List.forall_mem_cons.mpr ⟨lw_p35, List.forall_mem_cons.mpr ⟨lw_p36, List.forall_mem_cons.mpr ⟨lw_p37, List.forall_mem_cons.mpr ⟨lw_p38, List.forall_mem_cons.mpr ⟨lw_p39, List.forall_mem_cons.mpr ⟨lw_p40, List.forall_mem_cons.mpr ⟨lw_p41, List.forall_mem_cons.mpr ⟨lw_p42, fun _ h => absurd h List.not_mem_nil⟩⟩⟩⟩⟩⟩⟩⟩⟩⟩⟩
def lw_privs : List (MethodName × Nat) := lw_privs_1 ++ (lw_privs_2 ++ (lw_privs_3))
def lw_tbl : List Cond := k2_sels lw_privs ++ tables_1
theorem lw_privs_ok : ∀ q ∈ lw_privs, lw_okq q := by
  show ∀ q ∈ lw_privs_1 ++ (lw_privs_2 ++ (lw_privs_3)), lw_okq q
  exact List.forall_mem_append.mpr ⟨lw_r1, List.forall_mem_append.mpr ⟨lw_r2, lw_r3⟩⟩

theorem goodIn_r {big : List Cond} (ws : List Cond) (ps : List Nat) (hp : ws = ps.filterMap (fun i => big[i]?)) (h : ws.all goodWord = true) : GoodIn big ws := by
  intro w hw
  have h1 := List.all_eq_true.mp h w hw
  rw [hp] at hw
  obtain ⟨i, -, hi⟩ := List.mem_filterMap.mp hw
  have hm : w ∈ big := by first | exact List.mem_of_getElem? hi | exact List.getElem?_mem hi
  exact ⟨hm, good_of_word h1⟩
theorem goodIn_app {big a b : List Cond} (ha : GoodIn big a) (hb : GoodIn big b) : GoodIn big (a ++ b) := fun w h => (List.mem_append.mp h).elim (ha w) (hb w)
theorem goodIn_ca {big a b : List Cond} {c : Cond} (ha : GoodIn big (c :: a)) (hb : GoodIn big b) : GoodIn big (c :: (a ++ b)) := fun w h => (List.mem_cons.mp h).elim (fun e => ha w (List.mem_cons.mpr (Or.inl e))) (fun h => (List.mem_append.mp h).elim (fun h => ha w (List.mem_cons.mpr (Or.inr h))) (hb w))
theorem goodIn_sub {big ws : List Cond} (hm : ∀ w ∈ ws, w ∈ big) (h : ws.all goodWord = true) : GoodIn big ws := fun w hw => ⟨hm w hw, good_of_word (List.all_eq_true.mp h w hw)⟩
def RX0 : String := "TallTales$House"
def TX0 : u_T := fun k => match k with
  | 0 => ("TallTales$House", "guests", "I", false)
  | 1 => ("TallTales$House", "tales", "I", false)
  | 2 => ("TallTales$House", "memory", "I", false)
  | 3 => ("TallTales$House", "nights", "I", false)
  | 4 => ("TallTales$House", "kinds", "[I", true)
  | 5 => ("TallTales$House", "owners", "[I", true)
  | 6 => ("TallTales$House", "heights", "[I", true)
  | 7 => ("TallTales$House", "told", "[I", true)
  | 8 => ("TallTales$House", "last", "[I", true)
  | 9 => ("TallTales$House", "chosen", "[I", true)
  | 10 => ("TallTales$House", "nightTale", "[I", true)
  | 11 => ("TallTales$House", "nightPlace", "[I", true)
  | _ => ("TallTales$House", "nightTall", "[I", true)
def tyX0 : Nat → FieldType := fun k => match k with
  | 0 => .int
  | 1 => .int
  | 2 => .int
  | 3 => .int
  | 4 => .array .int
  | 5 => .array .int
  | 6 => .array .int
  | 7 => .array .int
  | 8 => .array .int
  | 9 => .array .int
  | 10 => .array .int
  | 11 => .array .int
  | _ => .array .int
abbrev wsX00 : List Cond := u_ws RX0 TX0 13
theorem nmX0 : ∀ a, a < 13 → ∀ b, b < 13 → a ≠ b → (TX0 a).2.1 ≠ (TX0 b).2.1 := by decide +kernel
theorem tyX0_ok : ∀ k, k < 13 → parseFieldDescriptor (TX0 k).2.2.1 = some (tyX0 k) := by decide +kernel
abbrev cX0_init : ByteArray := prog_2_method_1_code
def yX0_init : MethodName := ⟨RX0, "<init>", "()V"⟩
abbrev cX0_open : ByteArray := prog_2_method_2_code
def yX0_open : MethodName := ⟨RX0, "open", "(LTallTales$Text;)V"⟩
abbrev cX0_isOpen : ByteArray := prog_2_method_3_code
def yX0_isOpen : MethodName := ⟨RX0, "isOpen", "()Z"⟩
abbrev cX0_hasGuest : ByteArray := prog_2_method_4_code
def yX0_hasGuest : MethodName := ⟨RX0, "hasGuest", "(I)Z"⟩
abbrev cX0_hasTale : ByteArray := prog_2_method_5_code
def yX0_hasTale : MethodName := ⟨RX0, "hasTale", "(I)Z"⟩
abbrev cX0_hasNight : ByteArray := prog_2_method_6_code
def yX0_hasNight : MethodName := ⟨RX0, "hasNight", "(I)Z"⟩
abbrev cX0_mayBeTold : ByteArray := prog_2_method_7_code
def yX0_mayBeTold : MethodName := ⟨RX0, "mayBeTold", "(IIII)Z"⟩
abbrev cX0_isTellable : ByteArray := prog_2_method_8_code
def yX0_isTellable : MethodName := ⟨RX0, "isTellable", "(I)Z"⟩
abbrev cX0_tallWhenTold : ByteArray := prog_2_method_9_code
def yX0_tallWhenTold : MethodName := ⟨RX0, "tallWhenTold", "(II)I"⟩
abbrev cX0_tallOf : ByteArray := prog_2_method_10_code
def yX0_tallOf : MethodName := ⟨RX0, "tallOf", "(I)I"⟩
abbrev cX0_isOffered : ByteArray := prog_2_method_11_code
def yX0_isOffered : MethodName := ⟨RX0, "isOffered", "(IIZ)Z"⟩
abbrev cX0_tallsAsChosen : ByteArray := prog_2_method_12_code
def yX0_tallsAsChosen : MethodName := ⟨RX0, "tallsAsChosen", "(LTallTales$Talls;)V"⟩
abbrev cX0_tallsOfNight : ByteArray := prog_2_method_13_code
def yX0_tallsOfNight : MethodName := ⟨RX0, "tallsOfNight", "(ILTallTales$Talls;)V"⟩
abbrev cX0_goBy : ByteArray := prog_2_method_14_code
def yX0_goBy : MethodName := ⟨RX0, "goBy", "(LTallTales$Talls;)I"⟩
abbrev cX0_keepTold : ByteArray := prog_2_method_15_code
def yX0_keepTold : MethodName := ⟨RX0, "keepTold", "(II)V"⟩
abbrev cX0_goBack : ByteArray := prog_2_method_16_code
def yX0_goBack : MethodName := ⟨RX0, "goBack", "(I)V"⟩
abbrev cX0_nightsAt : ByteArray := prog_2_method_17_code
def yX0_nightsAt : MethodName := ⟨RX0, "nightsAt", "(II)I"⟩
abbrev cX0_timesToldBefore : ByteArray := prog_2_method_18_code
def yX0_timesToldBefore : MethodName := ⟨RX0, "timesToldBefore", "(II)I"⟩
abbrev cX0_ownerAfter : ByteArray := prog_2_method_19_code
def yX0_ownerAfter : MethodName := ⟨RX0, "ownerAfter", "(III)I"⟩
abbrev cX0_strongAfter : ByteArray := prog_2_method_20_code
def yX0_strongAfter : MethodName := ⟨RX0, "strongAfter", "(III)I"⟩
abbrev cX0_isRowOfAll : ByteArray := prog_2_method_21_code
def yX0_isRowOfAll : MethodName := ⟨RX0, "isRowOfAll", "([I)Z"⟩
def RX1 : String := "TallTales$Rests"
def TX1 : u_T := fun k => match k with
  | 0 => ("TallTales$Rests", "house", "LTallTales$House;", true)
  | 1 => ("TallTales$Rests", "talls", "LTallTales$Talls;", true)
  | 2 => ("TallTales$Rests", "picks", "[I", true)
  | 3 => ("TallTales$Rests", "first", "[I", true)
  | _ => ("TallTales$Rests", "count", "I", false)
def tyX1 : Nat → FieldType := fun k => match k with
  | 0 => .object "TallTales$House"
  | 1 => .object "TallTales$Talls"
  | 2 => .array .int
  | 3 => .array .int
  | _ => .int
abbrev wsX10 : List Cond := u_ws RX1 TX1 5
theorem nmX1 : ∀ a, a < 5 → ∀ b, b < 5 → a ≠ b → (TX1 a).2.1 ≠ (TX1 b).2.1 := by decide +kernel
theorem tyX1_ok : ∀ k, k < 5 → parseFieldDescriptor (TX1 k).2.2.1 = some (tyX1 k) := by decide +kernel
abbrev cX1_init : ByteArray := prog_3_method_1_code
def yX1_init : MethodName := ⟨RX1, "<init>", "(LTallTales$House;LTallTales$Talls;)V"⟩
abbrev cX1_find : ByteArray := prog_3_method_2_code
def yX1_find : MethodName := ⟨RX1, "find", "()V"⟩
abbrev cX1_keepRest : ByteArray := prog_3_method_3_code
def yX1_keepRest : MethodName := ⟨RX1, "keepRest", "()V"⟩
abbrev cX1_ownAfter : ByteArray := prog_3_method_4_code
def yX1_ownAfter : MethodName := ⟨RX1, "ownAfter", "(II)I"⟩
abbrev cX1_goOn : ByteArray := prog_3_method_5_code
def yX1_goOn : MethodName := ⟨RX1, "goOn", "()Z"⟩
abbrev cX1_isRest : ByteArray := prog_3_method_6_code
def yX1_isRest : MethodName := ⟨RX1, "isRest", "()Z"⟩
abbrev cX1_canDoBetter : ByteArray := prog_3_method_7_code
def yX1_canDoBetter : MethodName := ⟨RX1, "canDoBetter", "(I)Z"⟩
def RX2 : String := "TallTales$Sheets"
def TX2 : u_T := fun k => match k with
  | 0 => ("TallTales$Sheets", "cells", "[I", true)
  | 1 => ("TallTales$Sheets", "sorts", "[I", true)
  | _ => ("TallTales$Sheets", "lengths", "[I", true)
def tyX2 : Nat → FieldType := fun k => match k with
  | 0 => .array .int
  | 1 => .array .int
  | _ => .array .int
abbrev wsX20 : List Cond := u_ws RX2 TX2 3
theorem nmX2 : ∀ a, a < 3 → ∀ b, b < 3 → a ≠ b → (TX2 a).2.1 ≠ (TX2 b).2.1 := by decide +kernel
theorem tyX2_ok : ∀ k, k < 3 → parseFieldDescriptor (TX2 k).2.2.1 = some (tyX2 k) := by decide +kernel
abbrev cX2_init : ByteArray := prog_4_method_1_code
def yX2_init : MethodName := ⟨RX2, "<init>", "()V"⟩
abbrev cX2_hasRow : ByteArray := prog_4_method_2_code
def yX2_hasRow : MethodName := ⟨RX2, "hasRow", "(I)Z"⟩
abbrev cX2_hasCells : ByteArray := prog_4_method_3_code
def yX2_hasCells : MethodName := ⟨RX2, "hasCells", "(III)Z"⟩
abbrev cX2_faultOf : ByteArray := prog_4_method_4_code
def yX2_faultOf : MethodName := ⟨RX2, "faultOf", "(IIII)I"⟩
abbrev cX2_makeRow : ByteArray := prog_4_method_5_code
def yX2_makeRow : MethodName := ⟨RX2, "makeRow", "(III)V"⟩
abbrev cX2_dropRow : ByteArray := prog_4_method_6_code
def yX2_dropRow : MethodName := ⟨RX2, "dropRow", "(I)Z"⟩
abbrev cX2_read : ByteArray := prog_4_method_7_code
def yX2_read : MethodName := ⟨RX2, "read", "(II)I"⟩
abbrev cX2_write : ByteArray := prog_4_method_8_code
def yX2_write : MethodName := ⟨RX2, "write", "(III)V"⟩
abbrev cX2_take : ByteArray := prog_4_method_9_code
def yX2_take : MethodName := ⟨RX2, "take", "(III[I)V"⟩
abbrev cX2_move : ByteArray := prog_4_method_10_code
def yX2_move : MethodName := ⟨RX2, "move", "(IIIII)V"⟩
def RX3 : String := "TallTales$Talls"
def TX3 : u_T := fun k => match k with
  | 0 => ("TallTales$Talls", "of", "[I", true)
  | _ => ("TallTales$Talls", "guests", "I", false)
def tyX3 : Nat → FieldType := fun k => match k with
  | 0 => .array .int
  | _ => .int
abbrev wsX30 : List Cond := u_ws RX3 TX3 2
theorem nmX3 : ∀ a, a < 2 → ∀ b, b < 2 → a ≠ b → (TX3 a).2.1 ≠ (TX3 b).2.1 := by decide +kernel
theorem tyX3_ok : ∀ k, k < 2 → parseFieldDescriptor (TX3 k).2.2.1 = some (tyX3 k) := by decide +kernel
abbrev cX3_init : ByteArray := prog_5_method_1_code
def yX3_init : MethodName := ⟨RX3, "<init>", "()V"⟩
abbrev cX3_placeOf : ByteArray := prog_5_method_2_code
def yX3_placeOf : MethodName := ⟨RX3, "placeOf", "(II)I"⟩
abbrev cX3_needOf : ByteArray := prog_5_method_3_code
def yX3_needOf : MethodName := ⟨RX3, "needOf", "(I)I"⟩
abbrev cX3_noLessThan : ByteArray := prog_5_method_4_code
def yX3_noLessThan : MethodName := ⟨RX3, "noLessThan", "(I)I"⟩
abbrev cX3_layAs : ByteArray := prog_5_method_5_code
def yX3_layAs : MethodName := ⟨RX3, "layAs", "([I)Z"⟩
def RX4 : String := "TallTales$Text"
def TX4 : u_T := fun k => match k with
  | 0 => ("TallTales$Text", "codes", "[I", true)
  | _ => ("TallTales$Text", "length", "I", false)
def tyX4 : Nat → FieldType := fun k => match k with
  | 0 => .array .int
  | _ => .int
abbrev wsX40 : List Cond := u_ws RX4 TX4 2
theorem nmX4 : ∀ a, a < 2 → ∀ b, b < 2 → a ≠ b → (TX4 a).2.1 ≠ (TX4 b).2.1 := by decide +kernel
theorem tyX4_ok : ∀ k, k < 2 → parseFieldDescriptor (TX4 k).2.2.1 = some (tyX4 k) := by decide +kernel
abbrev cX4_init : ByteArray := prog_6_method_1_code
def yX4_init : MethodName := ⟨RX4, "<init>", "()V"⟩
abbrev cX4_firstFault : ByteArray := prog_6_method_2_code
def yX4_firstFault : MethodName := ⟨RX4, "firstFault", "()I"⟩
abbrev cX4_goesOn : ByteArray := prog_6_method_3_code
def yX4_goesOn : MethodName := ⟨RX4, "goesOn", "(I)Z"⟩
abbrev cX4_isDigit : ByteArray := prog_6_method_4_code
def yX4_isDigit : MethodName := ⟨RX4, "isDigit", "(I)Z"⟩
abbrev cX4_guests : ByteArray := prog_6_method_5_code
def yX4_guests : MethodName := ⟨RX4, "guests", "()I"⟩
abbrev cX4_tales : ByteArray := prog_6_method_6_code
def yX4_tales : MethodName := ⟨RX4, "tales", "()I"⟩
abbrev cX4_kindOf : ByteArray := prog_6_method_7_code
def yX4_kindOf : MethodName := ⟨RX4, "kindOf", "(I)I"⟩
abbrev cX4_ownerOf : ByteArray := prog_6_method_8_code
def yX4_ownerOf : MethodName := ⟨RX4, "ownerOf", "(I)I"⟩
abbrev cX4_heightOf : ByteArray := prog_6_method_9_code
def yX4_heightOf : MethodName := ⟨RX4, "heightOf", "(I)I"⟩
def RX5 : String := "TallTales$Winter"
def TX5 : u_T := fun k => match k with
  | 0 => ("TallTales$Winter", "house", "LTallTales$House;", true)
  | 1 => ("TallTales$Winter", "numbers", "[I", true)
  | 2 => ("TallTales$Winter", "ahead", "[I", true)
  | 3 => ("TallTales$Winter", "told", "[I", true)
  | 4 => ("TallTales$Winter", "last", "[I", true)
  | 5 => ("TallTales$Winter", "row", "[I", true)
  | 6 => ("TallTales$Winter", "first", "[I", true)
  | 7 => ("TallTales$Winter", "guest", "I", false)
  | 8 => ("TallTales$Winter", "length", "I", false)
  | _ => ("TallTales$Winter", "most", "I", false)
def tyX5 : Nat → FieldType := fun k => match k with
  | 0 => .object "TallTales$House"
  | 1 => .array .int
  | 2 => .array .int
  | 3 => .array .int
  | 4 => .array .int
  | 5 => .array .int
  | 6 => .array .int
  | 7 => .int
  | 8 => .int
  | _ => .int
abbrev wsX50 : List Cond := u_ws RX5 TX5 10
theorem nmX5 : ∀ a, a < 10 → ∀ b, b < 10 → a ≠ b → (TX5 a).2.1 ≠ (TX5 b).2.1 := by decide +kernel
theorem tyX5_ok : ∀ k, k < 10 → parseFieldDescriptor (TX5 k).2.2.1 = some (tyX5 k) := by decide +kernel
abbrev cX5_init : ByteArray := prog_7_method_1_code
def yX5_init : MethodName := ⟨RX5, "<init>", "(LTallTales$House;)V"⟩
abbrev cX5_find : ByteArray := prog_7_method_2_code
def yX5_find : MethodName := ⟨RX5, "find", "(II)V"⟩
abbrev cX5_isWithinReach : ByteArray := prog_7_method_3_code
def yX5_isWithinReach : MethodName := ⟨RX5, "isWithinReach", "(I)Z"⟩
abbrev cX5_wins : ByteArray := prog_7_method_4_code
def yX5_wins : MethodName := ⟨RX5, "wins", "(II)Z"⟩
abbrev cX5_search : ByteArray := prog_7_method_5_code
def yX5_search : MethodName := ⟨RX5, "search", "(LTallTales$Winter;II)V"⟩
def RX6 : String := "TallTales"
def TX6 : u_T := fun k => match k with
  | 0 => ("TallTales", "sheets", "LTallTales$Sheets;", true)
  | 1 => ("TallTales", "text", "LTallTales$Text;", true)
  | 2 => ("TallTales", "house", "LTallTales$House;", true)
  | 3 => ("TallTales", "talls", "LTallTales$Talls;", true)
  | 4 => ("TallTales", "rests", "LTallTales$Rests;", true)
  | 5 => ("TallTales", "winter", "LTallTales$Winter;", true)
  | 6 => ("TallTales", "lying", "[I", true)
  | 7 => ("TallTales", "trace", "I", false)
  | _ => ("TallTales", "fault", "I", false)
def tyX6 : Nat → FieldType := fun k => match k with
  | 0 => .object "TallTales$Sheets"
  | 1 => .object "TallTales$Text"
  | 2 => .object "TallTales$House"
  | 3 => .object "TallTales$Talls"
  | 4 => .object "TallTales$Rests"
  | 5 => .object "TallTales$Winter"
  | 6 => .array .int
  | 7 => .int
  | _ => .int
abbrev wsX60 : List Cond := u_ws RX6 TX6 9
theorem nmX6 : ∀ a, a < 9 → ∀ b, b < 9 → a ≠ b → (TX6 a).2.1 ≠ (TX6 b).2.1 := by decide +kernel
theorem tyX6_ok : ∀ k, k < 9 → parseFieldDescriptor (TX6 k).2.2.1 = some (tyX6 k) := by decide +kernel
abbrev cX6_init : ByteArray := prog_1_method_1_code
def yX6_init : MethodName := ⟨RX6, "<init>", "()V"⟩
abbrev cX6_inn : ByteArray := prog_1_method_2_code
def yX6_inn : MethodName := ⟨RX6, "inn", "(IIII)I"⟩
abbrev cX6_ofTale : ByteArray := prog_1_method_3_code
def yX6_ofTale : MethodName := ⟨RX6, "ofTale", "(II)I"⟩
abbrev cX6_memory : ByteArray := prog_1_method_4_code
def yX6_memory : MethodName := ⟨RX6, "memory", "(I)I"⟩
abbrev cX6_choose : ByteArray := prog_1_method_5_code
def yX6_choose : MethodName := ⟨RX6, "choose", "(II)I"⟩
abbrev cX6_night : ByteArray := prog_1_method_6_code
def yX6_night : MethodName := ⟨RX6, "night", "()I"⟩
abbrev cX6_ofNight : ByteArray := prog_1_method_7_code
def yX6_ofNight : MethodName := ⟨RX6, "ofNight", "(III)I"⟩
abbrev cX6_undo : ByteArray := prog_1_method_8_code
def yX6_undo : MethodName := ⟨RX6, "undo", "(I)I"⟩
abbrev cX6_lay : ByteArray := prog_1_method_9_code
def yX6_lay : MethodName := ⟨RX6, "lay", "(II)I"⟩
abbrev cX6_tonight : ByteArray := prog_1_method_10_code
def yX6_tonight : MethodName := ⟨RX6, "tonight", "(II)I"⟩
abbrev cX6_answer : ByteArray := prog_1_method_11_code
def yX6_answer : MethodName := ⟨RX6, "answer", "(II)I"⟩
abbrev cX6_borrowed : ByteArray := prog_1_method_12_code
def yX6_borrowed : MethodName := ⟨RX6, "borrowed", "(II)I"⟩
abbrev cX6_bishop : ByteArray := prog_1_method_13_code
def yX6_bishop : MethodName := ⟨RX6, "bishop", "(I)I"⟩
abbrev cX6_rests : ByteArray := prog_1_method_14_code
def yX6_rests : MethodName := ⟨RX6, "rests", "(I)I"⟩
abbrev cX6_winter : ByteArray := prog_1_method_15_code
def yX6_winter : MethodName := ⟨RX6, "winter", "(IIIIII)I"⟩
abbrev cX6_trade : ByteArray := prog_1_method_16_code
def yX6_trade : MethodName := ⟨RX6, "trade", "(II)I"⟩
abbrev cX6_toldBy : ByteArray := prog_1_method_17_code
def yX6_toldBy : MethodName := ⟨RX6, "toldBy", "(IIIII)I"⟩
abbrev cX6_sheet : ByteArray := prog_1_method_18_code
def yX6_sheet : MethodName := ⟨RX6, "sheet", "(III)I"⟩
abbrev cX6_lose : ByteArray := prog_1_method_19_code
def yX6_lose : MethodName := ⟨RX6, "lose", "(I)I"⟩
abbrev cX6_put : ByteArray := prog_1_method_20_code
def yX6_put : MethodName := ⟨RX6, "put", "(III)I"⟩
abbrev cX6_cell : ByteArray := prog_1_method_21_code
def yX6_cell : MethodName := ⟨RX6, "cell", "(III)J"⟩
abbrev cX6_copy : ByteArray := prog_1_method_22_code
def yX6_copy : MethodName := ⟨RX6, "copy", "(IIIII)I"⟩
abbrev cX6_tell : ByteArray := prog_1_method_23_code
def yX6_tell : MethodName := ⟨RX6, "tell", "(I)I"⟩
abbrev cX6_swear : ByteArray := prog_1_method_24_code
def yX6_swear : MethodName := ⟨RX6, "swear", "(I)I"⟩
abbrev cX6_as : ByteArray := prog_1_method_25_code
def yX6_as : MethodName := ⟨RX6, "as", "(II)I"⟩
abbrev cX6_trace : ByteArray := prog_1_method_26_code
def yX6_trace : MethodName := ⟨RX6, "trace", "()I"⟩
abbrev cX6_fault : ByteArray := prog_1_method_27_code
def yX6_fault : MethodName := ⟨RX6, "fault", "()I"⟩
abbrev cX6_many : ByteArray := prog_1_method_28_code
def yX6_many : MethodName := ⟨RX6, "many", "(I)I"⟩
abbrev cX6_isSheet : ByteArray := prog_1_method_29_code
def yX6_isSheet : MethodName := ⟨RX6, "isSheet", "(I)Z"⟩
abbrev cX6_isSort : ByteArray := prog_1_method_30_code
def yX6_isSort : MethodName := ⟨RX6, "isSort", "(I)Z"⟩
abbrev cX6_faulty : ByteArray := prog_1_method_31_code
def yX6_faulty : MethodName := ⟨RX6, "faulty", "(I)I"⟩
abbrev cX6_bestReply : ByteArray := prog_1_method_32_code
def yX6_bestReply : MethodName := ⟨RX6, "bestReply", "(IIZ)I"⟩
abbrev cX6_isBetterReply : ByteArray := prog_1_method_33_code
def yX6_isBetterReply : MethodName := ⟨RX6, "isBetterReply", "(III)Z"⟩
abbrev cX6_canHaveTold : ByteArray := prog_1_method_34_code
def yX6_canHaveTold : MethodName := ⟨RX6, "canHaveTold", "(II)I"⟩
abbrev cX6_leaveTrace : ByteArray := prog_1_method_35_code
def yX6_leaveTrace : MethodName := ⟨RX6, "leaveTrace", "(I)V"⟩
abbrev cX6_tellAsTale : ByteArray := prog_1_method_36_code
def yX6_tellAsTale : MethodName := ⟨RX6, "tellAsTale", "(I)I"⟩
abbrev cX6_tellAsGrown : ByteArray := prog_1_method_37_code
def yX6_tellAsGrown : MethodName := ⟨RX6, "tellAsGrown", "(I)I"⟩
abbrev cX6_tellAsTrue : ByteArray := prog_1_method_38_code
def yX6_tellAsTrue : MethodName := ⟨RX6, "tellAsTrue", "(I)I"⟩
def RX7 : String := "TallTalesModel"
def TX7 : u_T := fun k => match k with
  | 0 => ("TallTalesModel", "fault", "I", false)
  | 1 => ("TallTalesModel", "trace", "I", false)
  | 2 => ("TallTalesModel", "sorts", "[I", true)
  | 3 => ("TallTalesModel", "sheetLong", "[I", true)
  | 4 => ("TallTalesModel", "cells", "[I", true)
  | 5 => ("TallTalesModel", "guests", "I", false)
  | 6 => ("TallTalesModel", "tales", "I", false)
  | 7 => ("TallTalesModel", "memory", "I", false)
  | 8 => ("TallTalesModel", "kind", "[I", true)
  | 9 => ("TallTalesModel", "whose", "[I", true)
  | 10 => ("TallTalesModel", "high", "[I", true)
  | 11 => ("TallTalesModel", "at", "I", false)
  | 12 => ("TallTalesModel", "readGuests", "I", false)
  | 13 => ("TallTalesModel", "readTales", "I", false)
  | 14 => ("TallTalesModel", "readKind", "[I", true)
  | 15 => ("TallTalesModel", "readWhose", "[I", true)
  | 16 => ("TallTalesModel", "readHigh", "[I", true)
  | 17 => ("TallTalesModel", "over", "I", false)
  | 18 => ("TallTalesModel", "nightTold", "[I", true)
  | 19 => ("TallTalesModel", "nightTall", "[I", true)
  | 20 => ("TallTalesModel", "chosen", "[I", true)
  | 21 => ("TallTalesModel", "times", "[I", true)
  | 22 => ("TallTalesModel", "last", "[I", true)
  | 23 => ("TallTalesModel", "tall", "[I", true)
  | 24 => ("TallTalesModel", "bestTale", "I", false)
  | 25 => ("TallTalesModel", "bestPlace", "I", false)
  | 26 => ("TallTalesModel", "bestTall", "I", false)
  | 27 => ("TallTalesModel", "tells", "[I", true)
  | 28 => ("TallTalesModel", "firstRest", "[I", true)
  | 29 => ("TallTalesModel", "winterTells", "[I", true)
  | _ => ("TallTalesModel", "winterBest", "[I", true)
def tyX7 : Nat → FieldType := fun k => match k with
  | 0 => .int
  | 1 => .int
  | 2 => .array .int
  | 3 => .array .int
  | 4 => .array .int
  | 5 => .int
  | 6 => .int
  | 7 => .int
  | 8 => .array .int
  | 9 => .array .int
  | 10 => .array .int
  | 11 => .int
  | 12 => .int
  | 13 => .int
  | 14 => .array .int
  | 15 => .array .int
  | 16 => .array .int
  | 17 => .int
  | 18 => .array .int
  | 19 => .array .int
  | 20 => .array .int
  | 21 => .array .int
  | 22 => .array .int
  | 23 => .array .int
  | 24 => .int
  | 25 => .int
  | 26 => .int
  | 27 => .array .int
  | 28 => .array .int
  | 29 => .array .int
  | _ => .array .int
abbrev wsX70 : List Cond := u_ws RX7 TX7 31
theorem nmX7 : ∀ a, a < 31 → ∀ b, b < 31 → a ≠ b → (TX7 a).2.1 ≠ (TX7 b).2.1 := by decide +kernel
theorem tyX7_ok : ∀ k, k < 31 → parseFieldDescriptor (TX7 k).2.2.1 = some (tyX7 k) := by decide +kernel
abbrev cX7_init : ByteArray := prog_9_method_1_code
def yX7_init : MethodName := ⟨RX7, "<init>", "()V"⟩
abbrev cX7_fails : ByteArray := prog_9_method_3_code
def yX7_fails : MethodName := ⟨RX7, "fails", "(I)I"⟩
abbrev cX7_lost : ByteArray := prog_9_method_4_code
def yX7_lost : MethodName := ⟨RX7, "lost", "(I)J"⟩
abbrev cX7_within : ByteArray := prog_9_method_5_code
def yX7_within : MethodName := ⟨RX7, "within", "(III)Z"⟩
abbrev cX7_isSheet : ByteArray := prog_9_method_6_code
def yX7_isSheet : MethodName := ⟨RX7, "isSheet", "(I)Z"⟩
abbrev cX7_isSort : ByteArray := prog_9_method_7_code
def yX7_isSort : MethodName := ⟨RX7, "isSort", "(I)Z"⟩
abbrev cX7_against : ByteArray := prog_9_method_8_code
def yX7_against : MethodName := ⟨RX7, "against", "(IIII)I"⟩
abbrev cX7_isGuest : ByteArray := prog_9_method_9_code
def yX7_isGuest : MethodName := ⟨RX7, "isGuest", "(I)Z"⟩
abbrev cX7_isTale : ByteArray := prog_9_method_10_code
def yX7_isTale : MethodName := ⟨RX7, "isTale", "(I)Z"⟩
abbrev cX7_digitAt : ByteArray := prog_9_method_11_code
def yX7_digitAt : MethodName := ⟨RX7, "digitAt", "(II)I"⟩
abbrev cX7_inn : ByteArray := prog_9_method_12_code
def yX7_inn : MethodName := ⟨RX7, "inn", "(IIII)I"⟩
abbrev cX7_readInn : ByteArray := prog_9_method_13_code
def yX7_readInn : MethodName := ⟨RX7, "readInn", "(I)Z"⟩
abbrev cX7_readTale : ByteArray := prog_9_method_14_code
def yX7_readTale : MethodName := ⟨RX7, "readTale", "(I)Z"⟩
abbrev cX7_chooseNone : ByteArray := prog_9_method_15_code
def yX7_chooseNone : MethodName := ⟨RX7, "chooseNone", "()V"⟩
abbrev cX7_countTold : ByteArray := prog_9_method_16_code
def yX7_countTold : MethodName := ⟨RX7, "countTold", "()V"⟩
abbrev cX7_mayBe : ByteArray := prog_9_method_17_code
def yX7_mayBe : MethodName := ⟨RX7, "mayBe", "(IIII)Z"⟩
abbrev cX7_mayNow : ByteArray := prog_9_method_18_code
def yX7_mayNow : MethodName := ⟨RX7, "mayNow", "(I)Z"⟩
abbrev cX7_tallBy : ByteArray := prog_9_method_19_code
def yX7_tallBy : MethodName := ⟨RX7, "tallBy", "(II)I"⟩
abbrev cX7_tallNow : ByteArray := prog_9_method_20_code
def yX7_tallNow : MethodName := ⟨RX7, "tallNow", "(I)I"⟩
abbrev cX7_ofTale : ByteArray := prog_9_method_21_code
def yX7_ofTale : MethodName := ⟨RX7, "ofTale", "(II)I"⟩
abbrev cX7_memory : ByteArray := prog_9_method_22_code
def yX7_memory : MethodName := ⟨RX7, "memory", "(I)I"⟩
abbrev cX7_choose : ByteArray := prog_9_method_23_code
def yX7_choose : MethodName := ⟨RX7, "choose", "(II)I"⟩
abbrev cX7_layTall : ByteArray := prog_9_method_24_code
def yX7_layTall : MethodName := ⟨RX7, "layTall", "()V"⟩
abbrev cX7_placeOf : ByteArray := prog_9_method_25_code
def yX7_placeOf : MethodName := ⟨RX7, "placeOf", "(I)I"⟩
abbrev cX7_inBed : ByteArray := prog_9_method_26_code
def yX7_inBed : MethodName := ⟨RX7, "inBed", "()I"⟩
abbrev cX7_night : ByteArray := prog_9_method_27_code
def yX7_night : MethodName := ⟨RX7, "night", "()I"⟩
abbrev cX7_isNight : ByteArray := prog_9_method_28_code
def yX7_isNight : MethodName := ⟨RX7, "isNight", "(I)Z"⟩
abbrev cX7_layNight : ByteArray := prog_9_method_29_code
def yX7_layNight : MethodName := ⟨RX7, "layNight", "(I)V"⟩
abbrev cX7_ofNight : ByteArray := prog_9_method_30_code
def yX7_ofNight : MethodName := ⟨RX7, "ofNight", "(III)I"⟩
abbrev cX7_undo : ByteArray := prog_9_method_31_code
def yX7_undo : MethodName := ⟨RX7, "undo", "(I)I"⟩
abbrev cX7_lay : ByteArray := prog_9_method_32_code
def yX7_lay : MethodName := ⟨RX7, "lay", "(II)I"⟩
abbrev cX7_need : ByteArray := prog_9_method_33_code
def yX7_need : MethodName := ⟨RX7, "need", "(I)I"⟩
abbrev cX7_tonight : ByteArray := prog_9_method_34_code
def yX7_tonight : MethodName := ⟨RX7, "tonight", "(II)I"⟩
abbrev cX7_offer : ByteArray := prog_9_method_35_code
def yX7_offer : MethodName := ⟨RX7, "offer", "(II)V"⟩
abbrev cX7_isChosen : ByteArray := prog_9_method_36_code
def yX7_isChosen : MethodName := ⟨RX7, "isChosen", "(I)Z"⟩
abbrev cX7_found : ByteArray := prog_9_method_37_code
def yX7_found : MethodName := ⟨RX7, "found", "(I)I"⟩
abbrev cX7_answer : ByteArray := prog_9_method_38_code
def yX7_answer : MethodName := ⟨RX7, "answer", "(II)I"⟩
abbrev cX7_borrowed : ByteArray := prog_9_method_39_code
def yX7_borrowed : MethodName := ⟨RX7, "borrowed", "(II)I"⟩
abbrev cX7_bishop : ByteArray := prog_9_method_40_code
def yX7_bishop : MethodName := ⟨RX7, "bishop", "(I)I"⟩
abbrev cX7_nextOwn : ByteArray := prog_9_method_41_code
def yX7_nextOwn : MethodName := ⟨RX7, "nextOwn", "(II)I"⟩
abbrev cX7_layTells : ByteArray := prog_9_method_42_code
def yX7_layTells : MethodName := ⟨RX7, "layTells", "()V"⟩
abbrev cX7_isRest : ByteArray := prog_9_method_43_code
def yX7_isRest : MethodName := ⟨RX7, "isRest", "()Z"⟩
abbrev cX7_nextTells : ByteArray := prog_9_method_44_code
def yX7_nextTells : MethodName := ⟨RX7, "nextTells", "()Z"⟩
abbrev cX7_findRests : ByteArray := prog_9_method_45_code
def yX7_findRests : MethodName := ⟨RX7, "findRests", "()I"⟩
abbrev cX7_rests : ByteArray := prog_9_method_46_code
def yX7_rests : MethodName := ⟨RX7, "rests", "(I)I"⟩
abbrev cX7_mayWinter : ByteArray := prog_9_method_47_code
def yX7_mayWinter : MethodName := ⟨RX7, "mayWinter", "(IIII)Z"⟩
abbrev cX7_nightsOf : ByteArray := prog_9_method_48_code
def yX7_nightsOf : MethodName := ⟨RX7, "nightsOf", "([II)I"⟩
abbrev cX7_findWinter : ByteArray := prog_9_method_49_code
def yX7_findWinter : MethodName := ⟨RX7, "findWinter", "(III)I"⟩
abbrev cX7_winter : ByteArray := prog_9_method_50_code
def yX7_winter : MethodName := ⟨RX7, "winter", "(IIIIII)I"⟩
abbrev cX7_strong : ByteArray := prog_9_method_51_code
def yX7_strong : MethodName := ⟨RX7, "strong", "(I)I"⟩
abbrev cX7_trade : ByteArray := prog_9_method_52_code
def yX7_trade : MethodName := ⟨RX7, "trade", "(II)I"⟩
abbrev cX7_areAllGuests : ByteArray := prog_9_method_53_code
def yX7_areAllGuests : MethodName := ⟨RX7, "areAllGuests", "(I)Z"⟩
abbrev cX7_doLie : ByteArray := prog_9_method_54_code
def yX7_doLie : MethodName := ⟨RX7, "doLie", "(I)Z"⟩
abbrev cX7_timesBefore : ByteArray := prog_9_method_55_code
def yX7_timesBefore : MethodName := ⟨RX7, "timesBefore", "(II)I"⟩
abbrev cX7_toldBy : ByteArray := prog_9_method_56_code
def yX7_toldBy : MethodName := ⟨RX7, "toldBy", "(IIIII)I"⟩
abbrev cX7_sheet : ByteArray := prog_9_method_57_code
def yX7_sheet : MethodName := ⟨RX7, "sheet", "(III)I"⟩
abbrev cX7_lose : ByteArray := prog_9_method_58_code
def yX7_lose : MethodName := ⟨RX7, "lose", "(I)I"⟩
abbrev cX7_put : ByteArray := prog_9_method_59_code
def yX7_put : MethodName := ⟨RX7, "put", "(III)I"⟩
abbrev cX7_cell : ByteArray := prog_9_method_60_code
def yX7_cell : MethodName := ⟨RX7, "cell", "(III)J"⟩
abbrev cX7_copy : ByteArray := prog_9_method_61_code
def yX7_copy : MethodName := ⟨RX7, "copy", "(IIIII)I"⟩
abbrev cX7_begins : ByteArray := prog_9_method_62_code
def yX7_begins : MethodName := ⟨RX7, "begins", "(I)V"⟩
abbrev cX7_tell : ByteArray := prog_9_method_63_code
def yX7_tell : MethodName := ⟨RX7, "tell", "(I)I"⟩
abbrev cX7_swear : ByteArray := prog_9_method_64_code
def yX7_swear : MethodName := ⟨RX7, "swear", "(I)I"⟩
abbrev cX7_as : ByteArray := prog_9_method_65_code
def yX7_as : MethodName := ⟨RX7, "as", "(II)I"⟩
abbrev cX7_trace : ByteArray := prog_9_method_66_code
def yX7_trace : MethodName := ⟨RX7, "trace", "()I"⟩
abbrev cX7_fault : ByteArray := prog_9_method_67_code
def yX7_fault : MethodName := ⟨RX7, "fault", "()I"⟩
abbrev cX7_many : ByteArray := prog_9_method_68_code
def yX7_many : MethodName := ⟨RX7, "many", "(I)I"⟩
def RJ9 : String := "java/lang/Math"
def TJ9 : u_T := fun k => match k with
  | _ => ("", "", "", false)
def tyJ9 : Nat → FieldType := fun k => match k with
  | _ => .int
abbrev wsJ90 : List Cond := u_ws RJ9 TJ9 0
theorem nmJ9 : ∀ a, a < 0 → ∀ b, b < 0 → a ≠ b → (TJ9 a).2.1 ≠ (TJ9 b).2.1 := by decide +kernel
theorem tyJ9_ok : ∀ k, k < 0 → parseFieldDescriptor (TJ9 k).2.2.1 = some (tyJ9 k) := by decide +kernel
abbrev cJ9_max_7cf53 : ByteArray := prog_10_method_65_code
def yJ9_max_7cf53 : MethodName := ⟨RJ9, "max", "(II)I"⟩
def RJ10 : String := "java/lang/System"
def TJ10 : u_T := fun k => match k with
  | _ => ("", "", "", false)
def tyJ10 : Nat → FieldType := fun k => match k with
  | _ => .int
abbrev wsJ100 : List Cond := u_ws RJ10 TJ10 0
theorem nmJ10 : ∀ a, a < 0 → ∀ b, b < 0 → a ≠ b → (TJ10 a).2.1 ≠ (TJ10 b).2.1 := by decide +kernel
theorem tyJ10_ok : ∀ k, k < 0 → parseFieldDescriptor (TJ10 k).2.2.1 = some (tyJ10 k) := by decide +kernel
def RJ7 : String := "java/util/Arrays"
def TJ7 : u_T := fun k => match k with
  | _ => ("", "", "", false)
def tyJ7 : Nat → FieldType := fun k => match k with
  | _ => .int
abbrev wsJ70 : List Cond := u_ws RJ7 TJ7 0
theorem nmJ7 : ∀ a, a < 0 → ∀ b, b < 0 → a ≠ b → (TJ7 a).2.1 ≠ (TJ7 b).2.1 := by decide +kernel
theorem tyJ7_ok : ∀ k, k < 0 → parseFieldDescriptor (TJ7 k).2.2.1 = some (tyJ7 k) := by decide +kernel
abbrev cJ7_rangeCheck_23922 : ByteArray := prog_12_method_30_code
def yJ7_rangeCheck_23922 : MethodName := ⟨RJ7, "rangeCheck", "(III)V"⟩
abbrev cJ7_fill_53178 : ByteArray := prog_12_method_103_code
def yJ7_fill_53178 : MethodName := ⟨RJ7, "fill", "([II)V"⟩
abbrev cJ7_fill_fda19 : ByteArray := prog_12_method_104_code
def yJ7_fill_fda19 : MethodName := ⟨RJ7, "fill", "([IIII)V"⟩
def RL : String := "TallTalesLaw"
abbrev cL_law : ByteArray := code
def yL_law : MethodName := ⟨RL, "law", "([I)Z"⟩
abbrev vwCl : List vw_C := [(RX0, TX0, 13), (RX1, TX1, 5), (RX2, TX2, 3), (RX3, TX3, 2), (RX4, TX4, 2), (RX5, TX5, 10), (RX6, TX6, 9), (RX7, TX7, 31)]
end
section
/-! ===== words: each by its place in the tables (by program: wip/gen/words.py) ===== -/
def k_ws : List Cond := lw_tbl.filter goodWord
theorem k_in {w : Cond} (h : w ∈ lw_tbl) (g : goodWord w = true) : w ∈ k_ws := List.mem_filter.mpr ⟨h, g⟩
theorem k_good {w : Cond} (h : w ∈ k_ws) : w ∈ lw_tbl ∧ goodWord w = true := List.mem_filter.mp h
theorem k_lay {ws : List Cond} (h : GoodIn lw_tbl ws) : ∀ w ∈ ws, w ∈ k_ws := fun w hw => k_in (h w hw).1 (by rcases (h w hw).2 with q | ⟨ty, rfl⟩ <;> first | rfl | (cases w <;> first | rfl | exact q))
theorem k_in0 (i : Nat) {w : Cond} (h : (k2_sels lw_privs)[i]? = some w) (g : goodWord w = true) : w ∈ k_ws := k_in (List.mem_append_left _ (List.mem_of_getElem? h)) g
theorem k_in1 (i : Nat) {w : Cond} (h : tables_1_1[i]? = some w) (g : goodWord w = true) : w ∈ k_ws := k_in (List.mem_append_right _ (List.mem_append_left _ (List.mem_of_getElem? h))) g
theorem k_in2 (i : Nat) {w : Cond} (h : tables_1_2[i]? = some w) (g : goodWord w = true) : w ∈ k_ws := k_in (List.mem_append_right _ (List.mem_append_right _ (List.mem_append_left _ (List.mem_of_getElem? h)))) g
theorem k_in3 (i : Nat) {w : Cond} (h : tables_1_3[i]? = some w) (g : goodWord w = true) : w ∈ k_ws := k_in (List.mem_append_right _ (List.mem_append_right _ (List.mem_append_right _ (List.mem_append_left _ (List.mem_of_getElem? h))))) g
theorem k_in4 (i : Nat) {w : Cond} (h : tables_1_4[i]? = some w) (g : goodWord w = true) : w ∈ k_ws := k_in (List.mem_append_right _ (List.mem_append_right _ (List.mem_append_right _ (List.mem_append_right _ (List.mem_append_left _ (List.mem_of_getElem? h)))))) g
theorem k_in5 (i : Nat) {w : Cond} (h : tables_1_5[i]? = some w) (g : goodWord w = true) : w ∈ k_ws := k_in (List.mem_append_right _ (List.mem_append_right _ (List.mem_append_right _ (List.mem_append_right _ (List.mem_append_right _ (List.mem_of_getElem? h)))))) g
theorem kwn_L : Cond.initialized RL ∈ k_ws := k_in1 0 (by decide +kernel) (by decide +kernel)
theorem kwn_X6 : Cond.initialized RX6 ∈ k_ws := k_in1 1 (by decide +kernel) (by decide +kernel)
theorem kwn_X2 : Cond.initialized RX2 ∈ k_ws := k_in1 2 (by decide +kernel) (by decide +kernel)
theorem kwn_J7 : Cond.initialized RJ7 ∈ k_ws := k_in1 3 (by decide +kernel) (by decide +kernel)
theorem kwn_X4 : Cond.initialized RX4 ∈ k_ws := k_in1 4 (by decide +kernel) (by decide +kernel)
theorem kwn_X0 : Cond.initialized RX0 ∈ k_ws := k_in1 5 (by decide +kernel) (by decide +kernel)
theorem kwn_X3 : Cond.initialized RX3 ∈ k_ws := k_in1 6 (by decide +kernel) (by decide +kernel)
theorem kwn_X1 : Cond.initialized RX1 ∈ k_ws := k_in1 7 (by decide +kernel) (by decide +kernel)
theorem kwn_X5 : Cond.initialized RX5 ∈ k_ws := k_in1 8 (by decide +kernel) (by decide +kernel)
theorem kwn_X7 : Cond.initialized RX7 ∈ k_ws := k_in1 9 (by decide +kernel) (by decide +kernel)
theorem kwn_J10 : Cond.initialized RJ10 ∈ k_ws := k_in1 10 (by decide +kernel) (by decide +kernel)
theorem kwn_J9 : Cond.initialized RJ9 ∈ k_ws := k_in1 11 (by decide +kernel) (by decide +kernel)
theorem kwc_L_7 : Cond.classLink RL 7 RX6 ∈ k_ws := k_in1 12 (by decide +kernel) (by decide +kernel)
theorem kwx_X6 : Cond.instantiable RX6 9 ∈ k_ws := k_in1 13 (by decide +kernel) (by decide +kernel)
theorem kwm_L_9 : Cond.methodLink RL 9 yX6_init ∈ k_ws := k_in1 14 (by decide +kernel) (by decide +kernel)
theorem kwi_X6_init : Cond.instanceMethod yX6_init ∈ k_ws := k_in1 15 (by decide +kernel) (by decide +kernel)
theorem kwk_X6_init : Cond.code yX6_init cX6_init 1 .none ∈ k_ws := k_in1 16 (by decide +kernel) (by decide +kernel)
theorem kwm_X6_3 : Cond.methodLink RX6 3 objectInit ∈ k_ws := k_in1 17 (by decide +kernel) (by decide +kernel)
theorem kwi_objectInit : Cond.instanceMethod objectInit ∈ k_ws := k_in1 18 (by decide +kernel) (by decide +kernel)
theorem kwk_objectInit : Cond.code objectInit ⟨#[0xb1]⟩ 1 none ∈ k_ws := k_in1 19 (by decide +kernel) (by decide +kernel)
theorem kwc_X6_9 : Cond.classLink RX6 9 RX2 ∈ k_ws := k_in1 20 (by decide +kernel) (by decide +kernel)
theorem kwx_X2 : Cond.instantiable RX2 3 ∈ k_ws := k_in1 21 (by decide +kernel) (by decide +kernel)
theorem kwm_X6_11 : Cond.methodLink RX6 11 yX2_init ∈ k_ws := k_in1 22 (by decide +kernel) (by decide +kernel)
theorem kwi_X2_init : Cond.instanceMethod yX2_init ∈ k_ws := k_in1 23 (by decide +kernel) (by decide +kernel)
theorem kwk_X2_init : Cond.code yX2_init cX2_init 1 .none ∈ k_ws := k_in1 24 (by decide +kernel) (by decide +kernel)
theorem kwm_X2_3 : Cond.methodLink RX2 3 objectInit ∈ k_ws := k_in1 25 (by decide +kernel) (by decide +kernel)
theorem kwm_X2_21 : Cond.methodLink RX2 21 yJ7_fill_53178 ∈ k_ws := k_in1 26 (by decide +kernel) (by decide +kernel)
theorem kws_J7_fill_53178 : Cond.static yJ7_fill_53178 ∈ k_ws := k_in1 27 (by decide +kernel) (by decide +kernel)
theorem kwk_J7_fill_53178 : Cond.code yJ7_fill_53178 cJ7_fill_53178 4 .none ∈ k_ws := k_in1 28 (by decide +kernel) (by decide +kernel)
theorem kwf_X2_9 : Cond.fieldLink RX2 9 "TallTales$Sheets" "cells" "[I" ∈ k_ws := k_in1 29 (by decide +kernel) (by decide +kernel)
theorem kwf_X2_15 : Cond.fieldLink RX2 15 "TallTales$Sheets" "sorts" "[I" ∈ k_ws := k_in1 30 (by decide +kernel) (by decide +kernel)
theorem kwf_X6_240 : Cond.fieldLink RX6 240 "TallTales$Sheets" "sorts" "[I" ∈ k_ws := k_in1 31 (by decide +kernel) (by decide +kernel)
theorem kwf_X2_18 : Cond.fieldLink RX2 18 "TallTales$Sheets" "lengths" "[I" ∈ k_ws := k_in1 32 (by decide +kernel) (by decide +kernel)
theorem kwa_int : Cond.arrayClass Jvm.ClassFile.FieldType.int ∈ k_ws := k_in1 40 (by decide +kernel) (by decide +kernel)
theorem kwc_X6_18 : Cond.classLink RX6 18 RX4 ∈ k_ws := k_in1 41 (by decide +kernel) (by decide +kernel)
theorem kwx_X4 : Cond.instantiable RX4 2 ∈ k_ws := k_in1 42 (by decide +kernel) (by decide +kernel)
theorem kwm_X6_20 : Cond.methodLink RX6 20 yX4_init ∈ k_ws := k_in1 43 (by decide +kernel) (by decide +kernel)
theorem kwi_X4_init : Cond.instanceMethod yX4_init ∈ k_ws := k_in1 44 (by decide +kernel) (by decide +kernel)
theorem kwk_X4_init : Cond.code yX4_init cX4_init 1 .none ∈ k_ws := k_in1 45 (by decide +kernel) (by decide +kernel)
theorem kwm_X4_3 : Cond.methodLink RX4 3 objectInit ∈ k_ws := k_in1 46 (by decide +kernel) (by decide +kernel)
theorem kwf_X4_9 : Cond.fieldLink RX4 9 "TallTales$Text" "codes" "[I" ∈ k_ws := k_in1 47 (by decide +kernel) (by decide +kernel)
theorem kwf_X6_83 : Cond.fieldLink RX6 83 "TallTales$Text" "codes" "[I" ∈ k_ws := k_in1 48 (by decide +kernel) (by decide +kernel)
theorem kwf_X4_15 : Cond.fieldLink RX4 15 "TallTales$Text" "length" "I" ∈ k_ws := k_in1 49 (by decide +kernel) (by decide +kernel)
theorem kwf_X6_80 : Cond.fieldLink RX6 80 "TallTales$Text" "length" "I" ∈ k_ws := k_in1 50 (by decide +kernel) (by decide +kernel)
theorem kwc_X6_25 : Cond.classLink RX6 25 RX0 ∈ k_ws := k_in1 56 (by decide +kernel) (by decide +kernel)
theorem kwx_X0 : Cond.instantiable RX0 13 ∈ k_ws := k_in1 57 (by decide +kernel) (by decide +kernel)
theorem kwm_X6_27 : Cond.methodLink RX6 27 yX0_init ∈ k_ws := k_in1 58 (by decide +kernel) (by decide +kernel)
theorem kwi_X0_init : Cond.instanceMethod yX0_init ∈ k_ws := k_in1 59 (by decide +kernel) (by decide +kernel)
theorem kwk_X0_init : Cond.code yX0_init cX0_init 1 .none ∈ k_ws := k_in1 60 (by decide +kernel) (by decide +kernel)
theorem kwm_X0_3 : Cond.methodLink RX0 3 objectInit ∈ k_ws := k_in1 61 (by decide +kernel) (by decide +kernel)
theorem kwf_X0_45 : Cond.fieldLink RX0 45 "TallTales$House" "guests" "I" ∈ k_ws := k_in1 62 (by decide +kernel) (by decide +kernel)
theorem kwf_X1_30 : Cond.fieldLink RX1 30 "TallTales$House" "guests" "I" ∈ k_ws := k_in1 63 (by decide +kernel) (by decide +kernel)
theorem kwf_X6_208 : Cond.fieldLink RX6 208 "TallTales$House" "guests" "I" ∈ k_ws := k_in1 64 (by decide +kernel) (by decide +kernel)
theorem kwf_X0_51 : Cond.fieldLink RX0 51 "TallTales$House" "tales" "I" ∈ k_ws := k_in1 65 (by decide +kernel) (by decide +kernel)
theorem kwf_X6_98 : Cond.fieldLink RX6 98 "TallTales$House" "tales" "I" ∈ k_ws := k_in1 66 (by decide +kernel) (by decide +kernel)
theorem kwf_X5_62 : Cond.fieldLink RX5 62 "TallTales$House" "tales" "I" ∈ k_ws := k_in1 67 (by decide +kernel) (by decide +kernel)
theorem kwf_X1_60 : Cond.fieldLink RX1 60 "TallTales$House" "tales" "I" ∈ k_ws := k_in1 68 (by decide +kernel) (by decide +kernel)
theorem kwf_X0_63 : Cond.fieldLink RX0 63 "TallTales$House" "memory" "I" ∈ k_ws := k_in1 69 (by decide +kernel) (by decide +kernel)
theorem kwf_X6_129 : Cond.fieldLink RX6 129 "TallTales$House" "memory" "I" ∈ k_ws := k_in1 70 (by decide +kernel) (by decide +kernel)
theorem kwf_X0_66 : Cond.fieldLink RX0 66 "TallTales$House" "nights" "I" ∈ k_ws := k_in1 71 (by decide +kernel) (by decide +kernel)
theorem kwf_X5_72 : Cond.fieldLink RX5 72 "TallTales$House" "nights" "I" ∈ k_ws := k_in1 72 (by decide +kernel) (by decide +kernel)
theorem kwf_X6_138 : Cond.fieldLink RX6 138 "TallTales$House" "nights" "I" ∈ k_ws := k_in1 73 (by decide +kernel) (by decide +kernel)
theorem kwf_X0_9 : Cond.fieldLink RX0 9 "TallTales$House" "kinds" "[I" ∈ k_ws := k_in1 74 (by decide +kernel) (by decide +kernel)
theorem kwf_X6_104 : Cond.fieldLink RX6 104 "TallTales$House" "kinds" "[I" ∈ k_ws := k_in1 75 (by decide +kernel) (by decide +kernel)
theorem kwf_X0_15 : Cond.fieldLink RX0 15 "TallTales$House" "owners" "[I" ∈ k_ws := k_in1 76 (by decide +kernel) (by decide +kernel)
theorem kwf_X5_65 : Cond.fieldLink RX5 65 "TallTales$House" "owners" "[I" ∈ k_ws := k_in1 77 (by decide +kernel) (by decide +kernel)
theorem kwf_X6_107 : Cond.fieldLink RX6 107 "TallTales$House" "owners" "[I" ∈ k_ws := k_in1 78 (by decide +kernel) (by decide +kernel)
theorem kwf_X1_63 : Cond.fieldLink RX1 63 "TallTales$House" "owners" "[I" ∈ k_ws := k_in1 79 (by decide +kernel) (by decide +kernel)
theorem kwf_X0_18 : Cond.fieldLink RX0 18 "TallTales$House" "heights" "[I" ∈ k_ws := k_in1 80 (by decide +kernel) (by decide +kernel)
theorem kwf_X6_110 : Cond.fieldLink RX6 110 "TallTales$House" "heights" "[I" ∈ k_ws := k_in1 81 (by decide +kernel) (by decide +kernel)
theorem kwf_X0_21 : Cond.fieldLink RX0 21 "TallTales$House" "told" "[I" ∈ k_ws := k_in1 82 (by decide +kernel) (by decide +kernel)
theorem kwf_X5_44 : Cond.fieldLink RX5 44 "TallTales$House" "told" "[I" ∈ k_ws := k_in1 83 (by decide +kernel) (by decide +kernel)
theorem kwf_X6_113 : Cond.fieldLink RX6 113 "TallTales$House" "told" "[I" ∈ k_ws := k_in1 84 (by decide +kernel) (by decide +kernel)
theorem kwf_X0_24 : Cond.fieldLink RX0 24 "TallTales$House" "last" "[I" ∈ k_ws := k_in1 85 (by decide +kernel) (by decide +kernel)
theorem kwf_X5_53 : Cond.fieldLink RX5 53 "TallTales$House" "last" "[I" ∈ k_ws := k_in1 86 (by decide +kernel) (by decide +kernel)
theorem kwf_X6_116 : Cond.fieldLink RX6 116 "TallTales$House" "last" "[I" ∈ k_ws := k_in1 87 (by decide +kernel) (by decide +kernel)
theorem kwf_X0_27 : Cond.fieldLink RX0 27 "TallTales$House" "chosen" "[I" ∈ k_ws := k_in1 88 (by decide +kernel) (by decide +kernel)
theorem kwf_X6_135 : Cond.fieldLink RX6 135 "TallTales$House" "chosen" "[I" ∈ k_ws := k_in1 89 (by decide +kernel) (by decide +kernel)
theorem kwf_X0_30 : Cond.fieldLink RX0 30 "TallTales$House" "nightTale" "[I" ∈ k_ws := k_in1 90 (by decide +kernel) (by decide +kernel)
theorem kwf_X6_152 : Cond.fieldLink RX6 152 "TallTales$House" "nightTale" "[I" ∈ k_ws := k_in1 91 (by decide +kernel) (by decide +kernel)
theorem kwf_X0_33 : Cond.fieldLink RX0 33 "TallTales$House" "nightPlace" "[I" ∈ k_ws := k_in1 92 (by decide +kernel) (by decide +kernel)
theorem kwf_X6_155 : Cond.fieldLink RX6 155 "TallTales$House" "nightPlace" "[I" ∈ k_ws := k_in1 93 (by decide +kernel) (by decide +kernel)
theorem kwf_X0_36 : Cond.fieldLink RX0 36 "TallTales$House" "nightTall" "[I" ∈ k_ws := k_in1 94 (by decide +kernel) (by decide +kernel)
theorem kwf_X6_158 : Cond.fieldLink RX6 158 "TallTales$House" "nightTall" "[I" ∈ k_ws := k_in1 95 (by decide +kernel) (by decide +kernel)
theorem kwc_X6_32 : Cond.classLink RX6 32 RX3 ∈ k_ws := k_in1 123 (by decide +kernel) (by decide +kernel)
theorem kwx_X3 : Cond.instantiable RX3 2 ∈ k_ws := k_in1 124 (by decide +kernel) (by decide +kernel)
theorem kwm_X6_34 : Cond.methodLink RX6 34 yX3_init ∈ k_ws := k_in1 125 (by decide +kernel) (by decide +kernel)
theorem kwi_X3_init : Cond.instanceMethod yX3_init ∈ k_ws := k_in1 126 (by decide +kernel) (by decide +kernel)
theorem kwk_X3_init : Cond.code yX3_init cX3_init 1 .none ∈ k_ws := k_in1 127 (by decide +kernel) (by decide +kernel)
theorem kwm_X3_3 : Cond.methodLink RX3 3 objectInit ∈ k_ws := k_in1 128 (by decide +kernel) (by decide +kernel)
theorem kwf_X3_9 : Cond.fieldLink RX3 9 "TallTales$Talls" "of" "[I" ∈ k_ws := k_in1 129 (by decide +kernel) (by decide +kernel)
theorem kwf_X1_73 : Cond.fieldLink RX1 73 "TallTales$Talls" "of" "[I" ∈ k_ws := k_in1 130 (by decide +kernel) (by decide +kernel)
theorem kwf_X6_169 : Cond.fieldLink RX6 169 "TallTales$Talls" "of" "[I" ∈ k_ws := k_in1 131 (by decide +kernel) (by decide +kernel)
theorem kwf_X0_88 : Cond.fieldLink RX0 88 "TallTales$Talls" "of" "[I" ∈ k_ws := k_in1 132 (by decide +kernel) (by decide +kernel)
theorem kwf_X3_15 : Cond.fieldLink RX3 15 "TallTales$Talls" "guests" "I" ∈ k_ws := k_in1 133 (by decide +kernel) (by decide +kernel)
theorem kwf_X1_70 : Cond.fieldLink RX1 70 "TallTales$Talls" "guests" "I" ∈ k_ws := k_in1 134 (by decide +kernel) (by decide +kernel)
theorem kwf_X0_85 : Cond.fieldLink RX0 85 "TallTales$Talls" "guests" "I" ∈ k_ws := k_in1 135 (by decide +kernel) (by decide +kernel)
theorem kwc_X6_39 : Cond.classLink RX6 39 RX1 ∈ k_ws := k_in1 141 (by decide +kernel) (by decide +kernel)
theorem kwx_X1 : Cond.instantiable RX1 5 ∈ k_ws := k_in1 142 (by decide +kernel) (by decide +kernel)
theorem kwm_X6_41 : Cond.methodLink RX6 41 yX1_init ∈ k_ws := k_in1 143 (by decide +kernel) (by decide +kernel)
theorem kwi_X1_init : Cond.instanceMethod yX1_init ∈ k_ws := k_in1 144 (by decide +kernel) (by decide +kernel)
theorem kwk_X1_init : Cond.code yX1_init cX1_init 3 .none ∈ k_ws := k_in1 145 (by decide +kernel) (by decide +kernel)
theorem kwm_X1_3 : Cond.methodLink RX1 3 objectInit ∈ k_ws := k_in1 146 (by decide +kernel) (by decide +kernel)
theorem kwf_X1_18 : Cond.fieldLink RX1 18 "TallTales$Rests" "house" "LTallTales$House;" ∈ k_ws := k_in1 147 (by decide +kernel) (by decide +kernel)
theorem kwf_X1_22 : Cond.fieldLink RX1 22 "TallTales$Rests" "talls" "LTallTales$Talls;" ∈ k_ws := k_in1 148 (by decide +kernel) (by decide +kernel)
theorem kwf_X1_9 : Cond.fieldLink RX1 9 "TallTales$Rests" "picks" "[I" ∈ k_ws := k_in1 149 (by decide +kernel) (by decide +kernel)
theorem kwf_X1_15 : Cond.fieldLink RX1 15 "TallTales$Rests" "first" "[I" ∈ k_ws := k_in1 150 (by decide +kernel) (by decide +kernel)
theorem kwf_X6_191 : Cond.fieldLink RX6 191 "TallTales$Rests" "first" "[I" ∈ k_ws := k_in1 151 (by decide +kernel) (by decide +kernel)
theorem kwf_X1_26 : Cond.fieldLink RX1 26 "TallTales$Rests" "count" "I" ∈ k_ws := k_in1 152 (by decide +kernel) (by decide +kernel)
theorem kwf_X6_188 : Cond.fieldLink RX6 188 "TallTales$Rests" "count" "I" ∈ k_ws := k_in1 153 (by decide +kernel) (by decide +kernel)
theorem kwc_X6_48 : Cond.classLink RX6 48 RX5 ∈ k_ws := k_in1 165 (by decide +kernel) (by decide +kernel)
theorem kwx_X5 : Cond.instantiable RX5 10 ∈ k_ws := k_in1 166 (by decide +kernel) (by decide +kernel)
theorem kwm_X6_50 : Cond.methodLink RX6 50 yX5_init ∈ k_ws := k_in1 167 (by decide +kernel) (by decide +kernel)
theorem kwi_X5_init : Cond.instanceMethod yX5_init ∈ k_ws := k_in1 168 (by decide +kernel) (by decide +kernel)
theorem kwk_X5_init : Cond.code yX5_init cX5_init 2 .none ∈ k_ws := k_in1 169 (by decide +kernel) (by decide +kernel)
theorem kwm_X5_3 : Cond.methodLink RX5 3 objectInit ∈ k_ws := k_in1 170 (by decide +kernel) (by decide +kernel)
theorem kwf_X5_30 : Cond.fieldLink RX5 30 "TallTales$Winter" "house" "LTallTales$House;" ∈ k_ws := k_in1 171 (by decide +kernel) (by decide +kernel)
theorem kwf_X5_9 : Cond.fieldLink RX5 9 "TallTales$Winter" "numbers" "[I" ∈ k_ws := k_in1 172 (by decide +kernel) (by decide +kernel)
theorem kwf_X6_194 : Cond.fieldLink RX6 194 "TallTales$Winter" "numbers" "[I" ∈ k_ws := k_in1 173 (by decide +kernel) (by decide +kernel)
theorem kwf_X5_15 : Cond.fieldLink RX5 15 "TallTales$Winter" "ahead" "[I" ∈ k_ws := k_in1 174 (by decide +kernel) (by decide +kernel)
theorem kwf_X5_18 : Cond.fieldLink RX5 18 "TallTales$Winter" "told" "[I" ∈ k_ws := k_in1 175 (by decide +kernel) (by decide +kernel)
theorem kwf_X5_21 : Cond.fieldLink RX5 21 "TallTales$Winter" "last" "[I" ∈ k_ws := k_in1 176 (by decide +kernel) (by decide +kernel)
theorem kwf_X5_24 : Cond.fieldLink RX5 24 "TallTales$Winter" "row" "[I" ∈ k_ws := k_in1 177 (by decide +kernel) (by decide +kernel)
theorem kwf_X5_27 : Cond.fieldLink RX5 27 "TallTales$Winter" "first" "[I" ∈ k_ws := k_in1 178 (by decide +kernel) (by decide +kernel)
theorem kwf_X6_203 : Cond.fieldLink RX6 203 "TallTales$Winter" "first" "[I" ∈ k_ws := k_in1 179 (by decide +kernel) (by decide +kernel)
theorem kwf_X5_34 : Cond.fieldLink RX5 34 "TallTales$Winter" "guest" "I" ∈ k_ws := k_in1 180 (by decide +kernel) (by decide +kernel)
theorem kwf_X5_38 : Cond.fieldLink RX5 38 "TallTales$Winter" "length" "I" ∈ k_ws := k_in1 181 (by decide +kernel) (by decide +kernel)
theorem kwf_X5_41 : Cond.fieldLink RX5 41 "TallTales$Winter" "most" "I" ∈ k_ws := k_in1 182 (by decide +kernel) (by decide +kernel)
theorem kwf_X6_200 : Cond.fieldLink RX6 200 "TallTales$Winter" "most" "I" ∈ k_ws := k_in1 183 (by decide +kernel) (by decide +kernel)
theorem kwf_X6_12 : Cond.fieldLink RX6 12 "TallTales" "sheets" "LTallTales$Sheets;" ∈ k_ws := k_in1 205 (by decide +kernel) (by decide +kernel)
theorem kwf_X6_21 : Cond.fieldLink RX6 21 "TallTales" "text" "LTallTales$Text;" ∈ k_ws := k_in1 206 (by decide +kernel) (by decide +kernel)
theorem kwf_X6_28 : Cond.fieldLink RX6 28 "TallTales" "house" "LTallTales$House;" ∈ k_ws := k_in1 207 (by decide +kernel) (by decide +kernel)
theorem kwf_X6_35 : Cond.fieldLink RX6 35 "TallTales" "talls" "LTallTales$Talls;" ∈ k_ws := k_in1 208 (by decide +kernel) (by decide +kernel)
theorem kwf_X6_44 : Cond.fieldLink RX6 44 "TallTales" "rests" "LTallTales$Rests;" ∈ k_ws := k_in1 209 (by decide +kernel) (by decide +kernel)
theorem kwf_X6_53 : Cond.fieldLink RX6 53 "TallTales" "winter" "LTallTales$Winter;" ∈ k_ws := k_in1 210 (by decide +kernel) (by decide +kernel)
theorem kwf_X6_57 : Cond.fieldLink RX6 57 "TallTales" "lying" "[I" ∈ k_ws := k_in1 211 (by decide +kernel) (by decide +kernel)
theorem kwf_X6_259 : Cond.fieldLink RX6 259 "TallTales" "trace" "I" ∈ k_ws := k_in1 212 (by decide +kernel) (by decide +kernel)
theorem kwf_X6_61 : Cond.fieldLink RX6 61 "TallTales" "fault" "I" ∈ k_ws := k_in1 213 (by decide +kernel) (by decide +kernel)
theorem kwm_L_13 : Cond.methodLink RL 13 yX6_inn ∈ k_ws := k_in1 233 (by decide +kernel) (by decide +kernel)
theorem kwi_X6_inn : Cond.instanceMethod yX6_inn ∈ k_ws := k_in1 234 (by decide +kernel) (by decide +kernel)
theorem kwv_X6_inn : Cond.selects RX6 yX6_inn yX6_inn ∈ k_ws := k_in1 235 (by decide +kernel) (by decide +kernel)
theorem kwk_X6_inn : Cond.code yX6_inn cX6_inn 7 (.some .int) ∈ k_ws := k_in1 236 (by decide +kernel) (by decide +kernel)
theorem kwm_X6_65 : Cond.methodLink RX6 65 yX6_isSheet ∈ k_ws := k_in1 237 (by decide +kernel) (by decide +kernel)
theorem kws_X6_isSheet : Cond.static yX6_isSheet ∈ k_ws := k_in1 238 (by decide +kernel) (by decide +kernel)
theorem kwk_X6_isSheet : Cond.code yX6_isSheet cX6_isSheet 1 (.some .boolean) ∈ k_ws := k_in1 239 (by decide +kernel) (by decide +kernel)
theorem kwm_X6_69 : Cond.methodLink RX6 69 yX6_isSort ∈ k_ws := k_in2 0 (by decide +kernel) (by decide +kernel)
theorem kws_X6_isSort : Cond.static yX6_isSort ∈ k_ws := k_in2 1 (by decide +kernel) (by decide +kernel)
theorem kwk_X6_isSort : Cond.code yX6_isSort cX6_isSort 1 (.some .boolean) ∈ k_ws := k_in2 2 (by decide +kernel) (by decide +kernel)
theorem kwm_X6_72 : Cond.methodLink RX6 72 yX2_faultOf ∈ k_ws := k_in2 3 (by decide +kernel) (by decide +kernel)
theorem kwi_X2_faultOf : Cond.instanceMethod yX2_faultOf ∈ k_ws := k_in2 4 (by decide +kernel) (by decide +kernel)
theorem kwv_X2_faultOf : Cond.selects RX2 yX2_faultOf yX2_faultOf ∈ k_ws := k_in2 5 (by decide +kernel) (by decide +kernel)
theorem kwk_X2_faultOf : Cond.code yX2_faultOf cX2_faultOf 5 (.some .int) ∈ k_ws := k_in2 6 (by decide +kernel) (by decide +kernel)
theorem kwm_X2_27 : Cond.methodLink RX2 27 yX2_hasRow ∈ k_ws := k_in2 7 (by decide +kernel) (by decide +kernel)
theorem kwi_X2_hasRow : Cond.instanceMethod yX2_hasRow ∈ k_ws := k_in2 8 (by decide +kernel) (by decide +kernel)
theorem kwv_X2_hasRow : Cond.selects RX2 yX2_hasRow yX2_hasRow ∈ k_ws := k_in2 9 (by decide +kernel) (by decide +kernel)
theorem kwk_X2_hasRow : Cond.code yX2_hasRow cX2_hasRow 2 (.some .boolean) ∈ k_ws := k_in2 10 (by decide +kernel) (by decide +kernel)
theorem kwm_X2_31 : Cond.methodLink RX2 31 yX2_hasCells ∈ k_ws := k_in2 11 (by decide +kernel) (by decide +kernel)
theorem kwi_X2_hasCells : Cond.instanceMethod yX2_hasCells ∈ k_ws := k_in2 12 (by decide +kernel) (by decide +kernel)
theorem kwv_X2_hasCells : Cond.selects RX2 yX2_hasCells yX2_hasCells ∈ k_ws := k_in2 13 (by decide +kernel) (by decide +kernel)
theorem kwk_X2_hasCells : Cond.code yX2_hasCells cX2_hasCells 4 (.some .boolean) ∈ k_ws := k_in2 14 (by decide +kernel) (by decide +kernel)
theorem kwm_X6_76 : Cond.methodLink RX6 76 yX6_faulty ∈ k_ws := k_in2 15 (by decide +kernel) (by decide +kernel)
theorem kwi_X6_faulty : Cond.instanceMethod yX6_faulty ∈ k_ws := k_in2 17 (by decide +kernel) (by decide +kernel)
theorem kwk_X6_faulty : Cond.code yX6_faulty cX6_faulty 2 (.some .int) ∈ k_ws := k_in2 18 (by decide +kernel) (by decide +kernel)
theorem kwm_X6_86 : Cond.methodLink RX6 86 yX2_take ∈ k_ws := k_in2 19 (by decide +kernel) (by decide +kernel)
theorem kwi_X2_take : Cond.instanceMethod yX2_take ∈ k_ws := k_in2 20 (by decide +kernel) (by decide +kernel)
theorem kwv_X2_take : Cond.selects RX2 yX2_take yX2_take ∈ k_ws := k_in2 21 (by decide +kernel) (by decide +kernel)
theorem kwk_X2_take : Cond.code yX2_take cX2_take 5 .none ∈ k_ws := k_in2 22 (by decide +kernel) (by decide +kernel)
theorem kwm_X2_38 : Cond.methodLink RX2 38 arraycopyName ∈ k_ws := k_in2 23 (by decide +kernel) (by decide +kernel)
theorem kws_arraycopy : Cond.static arraycopyName ∈ k_ws := k_in2 24 (by decide +kernel) (by decide +kernel)
theorem kwt_arraycopy : Cond.native arraycopyName ∈ k_ws := k_in2 25 (by decide +kernel) (by decide +kernel)
theorem kwm_X6_90 : Cond.methodLink RX6 90 yX4_firstFault ∈ k_ws := k_in2 26 (by decide +kernel) (by decide +kernel)
theorem kwi_X4_firstFault : Cond.instanceMethod yX4_firstFault ∈ k_ws := k_in2 27 (by decide +kernel) (by decide +kernel)
theorem kwv_X4_firstFault : Cond.selects RX4 yX4_firstFault yX4_firstFault ∈ k_ws := k_in2 28 (by decide +kernel) (by decide +kernel)
theorem kwk_X4_firstFault : Cond.code yX4_firstFault cX4_firstFault 2 (.some .int) ∈ k_ws := k_in2 29 (by decide +kernel) (by decide +kernel)
theorem kwm_X4_19 : Cond.methodLink RX4 19 yX4_goesOn ∈ k_ws := k_in2 30 (by decide +kernel) (by decide +kernel)
theorem kwi_X4_goesOn : Cond.instanceMethod yX4_goesOn ∈ k_ws := k_in2 31 (by decide +kernel) (by decide +kernel)
theorem kwv_X4_goesOn : Cond.selects RX4 yX4_goesOn yX4_goesOn ∈ k_ws := k_in2 32 (by decide +kernel) (by decide +kernel)
theorem kwk_X4_goesOn : Cond.code yX4_goesOn cX4_goesOn 3 (.some .boolean) ∈ k_ws := k_in2 33 (by decide +kernel) (by decide +kernel)
theorem kwm_X4_23 : Cond.methodLink RX4 23 yX4_isDigit ∈ k_ws := k_in2 34 (by decide +kernel) (by decide +kernel)
theorem kws_X4_isDigit : Cond.static yX4_isDigit ∈ k_ws := k_in2 35 (by decide +kernel) (by decide +kernel)
theorem kwk_X4_isDigit : Cond.code yX4_isDigit cX4_isDigit 1 (.some .boolean) ∈ k_ws := k_in2 36 (by decide +kernel) (by decide +kernel)
theorem kwm_X6_94 : Cond.methodLink RX6 94 yX0_open ∈ k_ws := k_in2 37 (by decide +kernel) (by decide +kernel)
theorem kwi_X0_open : Cond.instanceMethod yX0_open ∈ k_ws := k_in2 38 (by decide +kernel) (by decide +kernel)
theorem kwv_X0_open : Cond.selects RX0 yX0_open yX0_open ∈ k_ws := k_in2 39 (by decide +kernel) (by decide +kernel)
theorem kwk_X0_open : Cond.code yX0_open cX0_open 3 .none ∈ k_ws := k_in2 40 (by decide +kernel) (by decide +kernel)
theorem kwm_X0_39 : Cond.methodLink RX0 39 yX4_guests ∈ k_ws := k_in2 41 (by decide +kernel) (by decide +kernel)
theorem kwi_X4_guests : Cond.instanceMethod yX4_guests ∈ k_ws := k_in2 42 (by decide +kernel) (by decide +kernel)
theorem kwv_X4_guests : Cond.selects RX4 yX4_guests yX4_guests ∈ k_ws := k_in2 43 (by decide +kernel) (by decide +kernel)
theorem kwk_X4_guests : Cond.code yX4_guests cX4_guests 1 (.some .int) ∈ k_ws := k_in2 44 (by decide +kernel) (by decide +kernel)
theorem kwm_X0_48 : Cond.methodLink RX0 48 yX4_tales ∈ k_ws := k_in2 45 (by decide +kernel) (by decide +kernel)
theorem kwi_X4_tales : Cond.instanceMethod yX4_tales ∈ k_ws := k_in2 46 (by decide +kernel) (by decide +kernel)
theorem kwv_X4_tales : Cond.selects RX4 yX4_tales yX4_tales ∈ k_ws := k_in2 47 (by decide +kernel) (by decide +kernel)
theorem kwk_X4_tales : Cond.code yX4_tales cX4_tales 1 (.some .int) ∈ k_ws := k_in2 48 (by decide +kernel) (by decide +kernel)
theorem kwm_X0_53 : Cond.methodLink RX0 53 yX4_kindOf ∈ k_ws := k_in2 49 (by decide +kernel) (by decide +kernel)
theorem kwi_X4_kindOf : Cond.instanceMethod yX4_kindOf ∈ k_ws := k_in2 50 (by decide +kernel) (by decide +kernel)
theorem kwv_X4_kindOf : Cond.selects RX4 yX4_kindOf yX4_kindOf ∈ k_ws := k_in2 51 (by decide +kernel) (by decide +kernel)
theorem kwk_X4_kindOf : Cond.code yX4_kindOf cX4_kindOf 3 (.some .int) ∈ k_ws := k_in2 52 (by decide +kernel) (by decide +kernel)
theorem kwm_X0_57 : Cond.methodLink RX0 57 yX4_ownerOf ∈ k_ws := k_in2 53 (by decide +kernel) (by decide +kernel)
theorem kwi_X4_ownerOf : Cond.instanceMethod yX4_ownerOf ∈ k_ws := k_in2 54 (by decide +kernel) (by decide +kernel)
theorem kwv_X4_ownerOf : Cond.selects RX4 yX4_ownerOf yX4_ownerOf ∈ k_ws := k_in2 55 (by decide +kernel) (by decide +kernel)
theorem kwk_X4_ownerOf : Cond.code yX4_ownerOf cX4_ownerOf 2 (.some .int) ∈ k_ws := k_in2 56 (by decide +kernel) (by decide +kernel)
theorem kwm_X0_60 : Cond.methodLink RX0 60 yX4_heightOf ∈ k_ws := k_in2 57 (by decide +kernel) (by decide +kernel)
theorem kwi_X4_heightOf : Cond.instanceMethod yX4_heightOf ∈ k_ws := k_in2 58 (by decide +kernel) (by decide +kernel)
theorem kwv_X4_heightOf : Cond.selects RX4 yX4_heightOf yX4_heightOf ∈ k_ws := k_in2 59 (by decide +kernel) (by decide +kernel)
theorem kwk_X4_heightOf : Cond.code yX4_heightOf cX4_heightOf 3 (.some .int) ∈ k_ws := k_in2 60 (by decide +kernel) (by decide +kernel)
theorem kwm_X0_69 : Cond.methodLink RX0 69 yX0_goBack ∈ k_ws := k_in2 61 (by decide +kernel) (by decide +kernel)
theorem kwi_X0_goBack : Cond.instanceMethod yX0_goBack ∈ k_ws := k_in2 62 (by decide +kernel) (by decide +kernel)
theorem kwv_X0_goBack : Cond.selects RX0 yX0_goBack yX0_goBack ∈ k_ws := k_in2 63 (by decide +kernel) (by decide +kernel)
theorem kwk_X0_goBack : Cond.code yX0_goBack cX0_goBack 4 .none ∈ k_ws := k_in2 64 (by decide +kernel) (by decide +kernel)
theorem kwm_X0_104 : Cond.methodLink RX0 104 yJ7_fill_53178 ∈ k_ws := k_in2 65 (by decide +kernel) (by decide +kernel)
theorem kwm_X0_100 : Cond.methodLink RX0 100 yX0_keepTold ∈ k_ws := k_in2 66 (by decide +kernel) (by decide +kernel)
theorem kwi_X0_keepTold : Cond.instanceMethod yX0_keepTold ∈ k_ws := k_in2 67 (by decide +kernel) (by decide +kernel)
theorem kwv_X0_keepTold : Cond.selects RX0 yX0_keepTold yX0_keepTold ∈ k_ws := k_in2 68 (by decide +kernel) (by decide +kernel)
theorem kwk_X0_keepTold : Cond.code yX0_keepTold cX0_keepTold 3 .none ∈ k_ws := k_in2 69 (by decide +kernel) (by decide +kernel)
theorem kwm_X0_91 : Cond.methodLink RX0 91 yX0_hasTale ∈ k_ws := k_in2 70 (by decide +kernel) (by decide +kernel)
theorem kwi_X0_hasTale : Cond.instanceMethod yX0_hasTale ∈ k_ws := k_in2 71 (by decide +kernel) (by decide +kernel)
theorem kwv_X0_hasTale : Cond.selects RX0 yX0_hasTale yX0_hasTale ∈ k_ws := k_in2 72 (by decide +kernel) (by decide +kernel)
theorem kwk_X0_hasTale : Cond.code yX0_hasTale cX0_hasTale 2 (.some .boolean) ∈ k_ws := k_in2 73 (by decide +kernel) (by decide +kernel)
theorem kwm_L_18 : Cond.methodLink RL 18 yX6_ofTale ∈ k_ws := k_in2 74 (by decide +kernel) (by decide +kernel)
theorem kwi_X6_ofTale : Cond.instanceMethod yX6_ofTale ∈ k_ws := k_in2 75 (by decide +kernel) (by decide +kernel)
theorem kwv_X6_ofTale : Cond.selects RX6 yX6_ofTale yX6_ofTale ∈ k_ws := k_in2 76 (by decide +kernel) (by decide +kernel)
theorem kwk_X6_ofTale : Cond.code yX6_ofTale cX6_ofTale 3 (.some .int) ∈ k_ws := k_in2 77 (by decide +kernel) (by decide +kernel)
theorem kwm_X6_101 : Cond.methodLink RX6 101 yX0_hasTale ∈ k_ws := k_in2 78 (by decide +kernel) (by decide +kernel)
theorem kwm_X6_119 : Cond.methodLink RX6 119 yX0_isTellable ∈ k_ws := k_in2 79 (by decide +kernel) (by decide +kernel)
theorem kwi_X0_isTellable : Cond.instanceMethod yX0_isTellable ∈ k_ws := k_in2 80 (by decide +kernel) (by decide +kernel)
theorem kwv_X0_isTellable : Cond.selects RX0 yX0_isTellable yX0_isTellable ∈ k_ws := k_in2 81 (by decide +kernel) (by decide +kernel)
theorem kwk_X0_isTellable : Cond.code yX0_isTellable cX0_isTellable 2 (.some .boolean) ∈ k_ws := k_in2 82 (by decide +kernel) (by decide +kernel)
theorem kwm_X0_73 : Cond.methodLink RX0 73 yX0_mayBeTold ∈ k_ws := k_in2 83 (by decide +kernel) (by decide +kernel)
theorem kwi_X0_mayBeTold : Cond.instanceMethod yX0_mayBeTold ∈ k_ws := k_in2 84 (by decide +kernel) (by decide +kernel)
theorem kwv_X0_mayBeTold : Cond.selects RX0 yX0_mayBeTold yX0_mayBeTold ∈ k_ws := k_in2 85 (by decide +kernel) (by decide +kernel)
theorem kwk_X0_mayBeTold : Cond.code yX0_mayBeTold cX0_mayBeTold 5 (.some .boolean) ∈ k_ws := k_in2 86 (by decide +kernel) (by decide +kernel)
theorem kwm_X6_122 : Cond.methodLink RX6 122 yX0_tallOf ∈ k_ws := k_in2 87 (by decide +kernel) (by decide +kernel)
theorem kwi_X0_tallOf : Cond.instanceMethod yX0_tallOf ∈ k_ws := k_in2 88 (by decide +kernel) (by decide +kernel)
theorem kwv_X0_tallOf : Cond.selects RX0 yX0_tallOf yX0_tallOf ∈ k_ws := k_in2 89 (by decide +kernel) (by decide +kernel)
theorem kwk_X0_tallOf : Cond.code yX0_tallOf cX0_tallOf 2 (.some .int) ∈ k_ws := k_in2 90 (by decide +kernel) (by decide +kernel)
theorem kwm_X0_77 : Cond.methodLink RX0 77 yX0_tallWhenTold ∈ k_ws := k_in2 91 (by decide +kernel) (by decide +kernel)
theorem kwi_X0_tallWhenTold : Cond.instanceMethod yX0_tallWhenTold ∈ k_ws := k_in2 92 (by decide +kernel) (by decide +kernel)
theorem kwv_X0_tallWhenTold : Cond.selects RX0 yX0_tallWhenTold yX0_tallWhenTold ∈ k_ws := k_in2 93 (by decide +kernel) (by decide +kernel)
theorem kwk_X0_tallWhenTold : Cond.code yX0_tallWhenTold cX0_tallWhenTold 3 (.some .int) ∈ k_ws := k_in2 94 (by decide +kernel) (by decide +kernel)
theorem kwm_L_23 : Cond.methodLink RL 23 yX6_memory ∈ k_ws := k_in2 95 (by decide +kernel) (by decide +kernel)
theorem kwi_X6_memory : Cond.instanceMethod yX6_memory ∈ k_ws := k_in2 96 (by decide +kernel) (by decide +kernel)
theorem kwv_X6_memory : Cond.selects RX6 yX6_memory yX6_memory ∈ k_ws := k_in2 97 (by decide +kernel) (by decide +kernel)
theorem kwk_X6_memory : Cond.code yX6_memory cX6_memory 3 (.some .int) ∈ k_ws := k_in2 98 (by decide +kernel) (by decide +kernel)
theorem kwm_X6_125 : Cond.methodLink RX6 125 yX0_isOpen ∈ k_ws := k_in2 99 (by decide +kernel) (by decide +kernel)
theorem kwi_X0_isOpen : Cond.instanceMethod yX0_isOpen ∈ k_ws := k_in2 100 (by decide +kernel) (by decide +kernel)
theorem kwv_X0_isOpen : Cond.selects RX0 yX0_isOpen yX0_isOpen ∈ k_ws := k_in2 101 (by decide +kernel) (by decide +kernel)
theorem kwk_X0_isOpen : Cond.code yX0_isOpen cX0_isOpen 1 (.some .boolean) ∈ k_ws := k_in2 102 (by decide +kernel) (by decide +kernel)
theorem kwm_L_28 : Cond.methodLink RL 28 yX6_choose ∈ k_ws := k_in2 103 (by decide +kernel) (by decide +kernel)
theorem kwi_X6_choose : Cond.instanceMethod yX6_choose ∈ k_ws := k_in2 104 (by decide +kernel) (by decide +kernel)
theorem kwv_X6_choose : Cond.selects RX6 yX6_choose yX6_choose ∈ k_ws := k_in2 105 (by decide +kernel) (by decide +kernel)
theorem kwk_X6_choose : Cond.code yX6_choose cX6_choose 4 (.some .int) ∈ k_ws := k_in2 106 (by decide +kernel) (by decide +kernel)
theorem kwm_X6_132 : Cond.methodLink RX6 132 yX0_hasGuest ∈ k_ws := k_in2 107 (by decide +kernel) (by decide +kernel)
theorem kwi_X0_hasGuest : Cond.instanceMethod yX0_hasGuest ∈ k_ws := k_in2 108 (by decide +kernel) (by decide +kernel)
theorem kwv_X0_hasGuest : Cond.selects RX0 yX0_hasGuest yX0_hasGuest ∈ k_ws := k_in2 109 (by decide +kernel) (by decide +kernel)
theorem kwk_X0_hasGuest : Cond.code yX0_hasGuest cX0_hasGuest 2 (.some .boolean) ∈ k_ws := k_in2 110 (by decide +kernel) (by decide +kernel)
theorem kwm_L_32 : Cond.methodLink RL 32 yX6_night ∈ k_ws := k_in2 111 (by decide +kernel) (by decide +kernel)
theorem kwi_X6_night : Cond.instanceMethod yX6_night ∈ k_ws := k_in2 112 (by decide +kernel) (by decide +kernel)
theorem kwv_X6_night : Cond.selects RX6 yX6_night yX6_night ∈ k_ws := k_in2 113 (by decide +kernel) (by decide +kernel)
theorem kwk_X6_night : Cond.code yX6_night cX6_night 1 (.some .int) ∈ k_ws := k_in2 114 (by decide +kernel) (by decide +kernel)
theorem kwm_X6_141 : Cond.methodLink RX6 141 yX0_tallsAsChosen ∈ k_ws := k_in2 115 (by decide +kernel) (by decide +kernel)
theorem kwi_X0_tallsAsChosen : Cond.instanceMethod yX0_tallsAsChosen ∈ k_ws := k_in2 116 (by decide +kernel) (by decide +kernel)
theorem kwv_X0_tallsAsChosen : Cond.selects RX0 yX0_tallsAsChosen yX0_tallsAsChosen ∈ k_ws := k_in2 117 (by decide +kernel) (by decide +kernel)
theorem kwk_X0_tallsAsChosen : Cond.code yX0_tallsAsChosen cX0_tallsAsChosen 3 .none ∈ k_ws := k_in2 118 (by decide +kernel) (by decide +kernel)
theorem kwm_X0_94 : Cond.methodLink RX0 94 yX0_tallOf ∈ k_ws := k_in2 119 (by decide +kernel) (by decide +kernel)
theorem kwm_X6_145 : Cond.methodLink RX6 145 yX0_goBy ∈ k_ws := k_in2 120 (by decide +kernel) (by decide +kernel)
theorem kwi_X0_goBy : Cond.instanceMethod yX0_goBy ∈ k_ws := k_in2 121 (by decide +kernel) (by decide +kernel)
theorem kwv_X0_goBy : Cond.selects RX0 yX0_goBy yX0_goBy ∈ k_ws := k_in2 122 (by decide +kernel) (by decide +kernel)
theorem kwk_X0_goBy : Cond.code yX0_goBy cX0_goBy 5 (.some .int) ∈ k_ws := k_in2 123 (by decide +kernel) (by decide +kernel)
theorem kwm_X0_97 : Cond.methodLink RX0 97 yX3_placeOf ∈ k_ws := k_in2 124 (by decide +kernel) (by decide +kernel)
theorem kwi_X3_placeOf : Cond.instanceMethod yX3_placeOf ∈ k_ws := k_in2 125 (by decide +kernel) (by decide +kernel)
theorem kwv_X3_placeOf : Cond.selects RX3 yX3_placeOf yX3_placeOf ∈ k_ws := k_in2 126 (by decide +kernel) (by decide +kernel)
theorem kwk_X3_placeOf : Cond.code yX3_placeOf cX3_placeOf 5 (.some .int) ∈ k_ws := k_in2 127 (by decide +kernel) (by decide +kernel)
theorem kwm_L_37 : Cond.methodLink RL 37 yX6_ofNight ∈ k_ws := k_in2 128 (by decide +kernel) (by decide +kernel)
theorem kwi_X6_ofNight : Cond.instanceMethod yX6_ofNight ∈ k_ws := k_in2 129 (by decide +kernel) (by decide +kernel)
theorem kwv_X6_ofNight : Cond.selects RX6 yX6_ofNight yX6_ofNight ∈ k_ws := k_in2 130 (by decide +kernel) (by decide +kernel)
theorem kwk_X6_ofNight : Cond.code yX6_ofNight cX6_ofNight 5 (.some .int) ∈ k_ws := k_in2 131 (by decide +kernel) (by decide +kernel)
theorem kwm_X6_149 : Cond.methodLink RX6 149 yX0_hasNight ∈ k_ws := k_in2 132 (by decide +kernel) (by decide +kernel)
theorem kwi_X0_hasNight : Cond.instanceMethod yX0_hasNight ∈ k_ws := k_in2 133 (by decide +kernel) (by decide +kernel)
theorem kwv_X0_hasNight : Cond.selects RX0 yX0_hasNight yX0_hasNight ∈ k_ws := k_in2 134 (by decide +kernel) (by decide +kernel)
theorem kwk_X0_hasNight : Cond.code yX0_hasNight cX0_hasNight 2 (.some .boolean) ∈ k_ws := k_in2 135 (by decide +kernel) (by decide +kernel)
theorem kwm_L_42 : Cond.methodLink RL 42 yX6_undo ∈ k_ws := k_in2 136 (by decide +kernel) (by decide +kernel)
theorem kwi_X6_undo : Cond.instanceMethod yX6_undo ∈ k_ws := k_in2 137 (by decide +kernel) (by decide +kernel)
theorem kwv_X6_undo : Cond.selects RX6 yX6_undo yX6_undo ∈ k_ws := k_in2 138 (by decide +kernel) (by decide +kernel)
theorem kwk_X6_undo : Cond.code yX6_undo cX6_undo 2 (.some .int) ∈ k_ws := k_in2 139 (by decide +kernel) (by decide +kernel)
theorem kwm_X6_161 : Cond.methodLink RX6 161 yX0_goBack ∈ k_ws := k_in2 140 (by decide +kernel) (by decide +kernel)
theorem kwm_L_46 : Cond.methodLink RL 46 yX6_lay ∈ k_ws := k_in2 141 (by decide +kernel) (by decide +kernel)
theorem kwi_X6_lay : Cond.instanceMethod yX6_lay ∈ k_ws := k_in2 142 (by decide +kernel) (by decide +kernel)
theorem kwv_X6_lay : Cond.selects RX6 yX6_lay yX6_lay ∈ k_ws := k_in2 143 (by decide +kernel) (by decide +kernel)
theorem kwk_X6_lay : Cond.code yX6_lay cX6_lay 3 (.some .int) ∈ k_ws := k_in2 144 (by decide +kernel) (by decide +kernel)
theorem kwm_X6_165 : Cond.methodLink RX6 165 yX0_nightsAt ∈ k_ws := k_in2 145 (by decide +kernel) (by decide +kernel)
theorem kwi_X0_nightsAt : Cond.instanceMethod yX0_nightsAt ∈ k_ws := k_in2 146 (by decide +kernel) (by decide +kernel)
theorem kwv_X0_nightsAt : Cond.selects RX0 yX0_nightsAt yX0_nightsAt ∈ k_ws := k_in2 147 (by decide +kernel) (by decide +kernel)
theorem kwk_X0_nightsAt : Cond.code yX0_nightsAt cX0_nightsAt 5 (.some .int) ∈ k_ws := k_in2 148 (by decide +kernel) (by decide +kernel)
theorem kwm_L_50 : Cond.methodLink RL 50 yX6_tonight ∈ k_ws := k_in2 149 (by decide +kernel) (by decide +kernel)
theorem kwi_X6_tonight : Cond.instanceMethod yX6_tonight ∈ k_ws := k_in2 150 (by decide +kernel) (by decide +kernel)
theorem kwv_X6_tonight : Cond.selects RX6 yX6_tonight yX6_tonight ∈ k_ws := k_in2 151 (by decide +kernel) (by decide +kernel)
theorem kwk_X6_tonight : Cond.code yX6_tonight cX6_tonight 3 (.some .int) ∈ k_ws := k_in2 152 (by decide +kernel) (by decide +kernel)
theorem kwm_X6_172 : Cond.methodLink RX6 172 yX3_placeOf ∈ k_ws := k_in2 153 (by decide +kernel) (by decide +kernel)
theorem kwm_X6_175 : Cond.methodLink RX6 175 yX3_needOf ∈ k_ws := k_in2 154 (by decide +kernel) (by decide +kernel)
theorem kwi_X3_needOf : Cond.instanceMethod yX3_needOf ∈ k_ws := k_in2 155 (by decide +kernel) (by decide +kernel)
theorem kwv_X3_needOf : Cond.selects RX3 yX3_needOf yX3_needOf ∈ k_ws := k_in2 156 (by decide +kernel) (by decide +kernel)
theorem kwk_X3_needOf : Cond.code yX3_needOf cX3_needOf 4 (.some .int) ∈ k_ws := k_in2 157 (by decide +kernel) (by decide +kernel)
theorem kwm_X3_19 : Cond.methodLink RX3 19 Lib.Math.max.name ∈ k_ws := k_in2 158 (by decide +kernel) (by decide +kernel)
theorem kws_max : Cond.static Lib.Math.max.name ∈ k_ws := k_in2 159 (by decide +kernel) (by decide +kernel)
theorem kwk_max : Cond.code Lib.Math.max.name Lib.Math.max.code 2 (some .int) ∈ k_ws := k_in2 160 (by decide +kernel) (by decide +kernel)
theorem kwm_L_54 : Cond.methodLink RL 54 yX6_answer ∈ k_ws := k_in2 161 (by decide +kernel) (by decide +kernel)
theorem kwi_X6_answer : Cond.instanceMethod yX6_answer ∈ k_ws := k_in2 162 (by decide +kernel) (by decide +kernel)
theorem kwv_X6_answer : Cond.selects RX6 yX6_answer yX6_answer ∈ k_ws := k_in2 163 (by decide +kernel) (by decide +kernel)
theorem kwk_X6_answer : Cond.code yX6_answer cX6_answer 3 (.some .int) ∈ k_ws := k_in2 164 (by decide +kernel) (by decide +kernel)
theorem kwm_X6_178 : Cond.methodLink RX6 178 yX6_bestReply ∈ k_ws := k_in2 165 (by decide +kernel) (by decide +kernel)
theorem kwi_X6_bestReply : Cond.instanceMethod yX6_bestReply ∈ k_ws := k_in2 167 (by decide +kernel) (by decide +kernel)
theorem kwk_X6_bestReply : Cond.code yX6_bestReply cX6_bestReply 6 (.some .int) ∈ k_ws := k_in2 168 (by decide +kernel) (by decide +kernel)
theorem kwm_X6_262 : Cond.methodLink RX6 262 yX0_isOffered ∈ k_ws := k_in2 169 (by decide +kernel) (by decide +kernel)
theorem kwi_X0_isOffered : Cond.instanceMethod yX0_isOffered ∈ k_ws := k_in2 170 (by decide +kernel) (by decide +kernel)
theorem kwv_X0_isOffered : Cond.selects RX0 yX0_isOffered yX0_isOffered ∈ k_ws := k_in2 171 (by decide +kernel) (by decide +kernel)
theorem kwk_X0_isOffered : Cond.code yX0_isOffered cX0_isOffered 5 (.some .boolean) ∈ k_ws := k_in2 172 (by decide +kernel) (by decide +kernel)
theorem kwm_X0_81 : Cond.methodLink RX0 81 yX0_isTellable ∈ k_ws := k_in2 173 (by decide +kernel) (by decide +kernel)
theorem kwm_X6_266 : Cond.methodLink RX6 266 yX6_isBetterReply ∈ k_ws := k_in2 174 (by decide +kernel) (by decide +kernel)
theorem kwi_X6_isBetterReply : Cond.instanceMethod yX6_isBetterReply ∈ k_ws := k_in2 176 (by decide +kernel) (by decide +kernel)
theorem kwk_X6_isBetterReply : Cond.code yX6_isBetterReply cX6_isBetterReply 8 (.some .boolean) ∈ k_ws := k_in2 177 (by decide +kernel) (by decide +kernel)
theorem kwm_L_58 : Cond.methodLink RL 58 yX6_borrowed ∈ k_ws := k_in2 178 (by decide +kernel) (by decide +kernel)
theorem kwi_X6_borrowed : Cond.instanceMethod yX6_borrowed ∈ k_ws := k_in2 179 (by decide +kernel) (by decide +kernel)
theorem kwv_X6_borrowed : Cond.selects RX6 yX6_borrowed yX6_borrowed ∈ k_ws := k_in2 180 (by decide +kernel) (by decide +kernel)
theorem kwk_X6_borrowed : Cond.code yX6_borrowed cX6_borrowed 3 (.some .int) ∈ k_ws := k_in2 181 (by decide +kernel) (by decide +kernel)
theorem kwm_L_62 : Cond.methodLink RL 62 yX6_bishop ∈ k_ws := k_in2 182 (by decide +kernel) (by decide +kernel)
theorem kwi_X6_bishop : Cond.instanceMethod yX6_bishop ∈ k_ws := k_in2 183 (by decide +kernel) (by decide +kernel)
theorem kwv_X6_bishop : Cond.selects RX6 yX6_bishop yX6_bishop ∈ k_ws := k_in2 184 (by decide +kernel) (by decide +kernel)
theorem kwk_X6_bishop : Cond.code yX6_bishop cX6_bishop 2 (.some .int) ∈ k_ws := k_in2 185 (by decide +kernel) (by decide +kernel)
theorem kwm_X6_182 : Cond.methodLink RX6 182 yX3_noLessThan ∈ k_ws := k_in2 186 (by decide +kernel) (by decide +kernel)
theorem kwi_X3_noLessThan : Cond.instanceMethod yX3_noLessThan ∈ k_ws := k_in2 187 (by decide +kernel) (by decide +kernel)
theorem kwv_X3_noLessThan : Cond.selects RX3 yX3_noLessThan yX3_noLessThan ∈ k_ws := k_in2 188 (by decide +kernel) (by decide +kernel)
theorem kwk_X3_noLessThan : Cond.code yX3_noLessThan cX3_noLessThan 4 (.some .int) ∈ k_ws := k_in2 189 (by decide +kernel) (by decide +kernel)
theorem kwm_L_66 : Cond.methodLink RL 66 yX6_rests ∈ k_ws := k_in2 190 (by decide +kernel) (by decide +kernel)
theorem kwi_X6_rests : Cond.instanceMethod yX6_rests ∈ k_ws := k_in2 191 (by decide +kernel) (by decide +kernel)
theorem kwv_X6_rests : Cond.selects RX6 yX6_rests yX6_rests ∈ k_ws := k_in2 192 (by decide +kernel) (by decide +kernel)
theorem kwk_X6_rests : Cond.code yX6_rests cX6_rests 2 (.some .int) ∈ k_ws := k_in2 193 (by decide +kernel) (by decide +kernel)
theorem kwm_X6_185 : Cond.methodLink RX6 185 yX1_find ∈ k_ws := k_in2 194 (by decide +kernel) (by decide +kernel)
theorem kwi_X1_find : Cond.instanceMethod yX1_find ∈ k_ws := k_in2 195 (by decide +kernel) (by decide +kernel)
theorem kwv_X1_find : Cond.selects RX1 yX1_find yX1_find ∈ k_ws := k_in2 196 (by decide +kernel) (by decide +kernel)
theorem kwk_X1_find : Cond.code yX1_find cX1_find 3 .none ∈ k_ws := k_in2 197 (by decide +kernel) (by decide +kernel)
theorem kwm_X1_35 : Cond.methodLink RX1 35 yX1_ownAfter ∈ k_ws := k_in2 198 (by decide +kernel) (by decide +kernel)
theorem kwi_X1_ownAfter : Cond.instanceMethod yX1_ownAfter ∈ k_ws := k_in2 199 (by decide +kernel) (by decide +kernel)
theorem kwv_X1_ownAfter : Cond.selects RX1 yX1_ownAfter yX1_ownAfter ∈ k_ws := k_in2 200 (by decide +kernel) (by decide +kernel)
theorem kwk_X1_ownAfter : Cond.code yX1_ownAfter cX1_ownAfter 4 (.some .int) ∈ k_ws := k_in2 201 (by decide +kernel) (by decide +kernel)
theorem kwm_X1_55 : Cond.methodLink RX1 55 Lib.Math.max.name ∈ k_ws := k_in2 202 (by decide +kernel) (by decide +kernel)
theorem kwm_X1_66 : Cond.methodLink RX1 66 yX0_isTellable ∈ k_ws := k_in2 203 (by decide +kernel) (by decide +kernel)
theorem kwm_X1_39 : Cond.methodLink RX1 39 yX1_isRest ∈ k_ws := k_in2 204 (by decide +kernel) (by decide +kernel)
theorem kwi_X1_isRest : Cond.instanceMethod yX1_isRest ∈ k_ws := k_in2 205 (by decide +kernel) (by decide +kernel)
theorem kwv_X1_isRest : Cond.selects RX1 yX1_isRest yX1_isRest ∈ k_ws := k_in2 206 (by decide +kernel) (by decide +kernel)
theorem kwk_X1_isRest : Cond.code yX1_isRest cX1_isRest 2 (.some .boolean) ∈ k_ws := k_in2 207 (by decide +kernel) (by decide +kernel)
theorem kwm_X1_76 : Cond.methodLink RX1 76 yX0_hasTale ∈ k_ws := k_in2 208 (by decide +kernel) (by decide +kernel)
theorem kwm_X1_79 : Cond.methodLink RX1 79 yX0_tallOf ∈ k_ws := k_in2 209 (by decide +kernel) (by decide +kernel)
theorem kwm_X1_83 : Cond.methodLink RX1 83 yX1_canDoBetter ∈ k_ws := k_in2 210 (by decide +kernel) (by decide +kernel)
theorem kwi_X1_canDoBetter : Cond.instanceMethod yX1_canDoBetter ∈ k_ws := k_in2 211 (by decide +kernel) (by decide +kernel)
theorem kwv_X1_canDoBetter : Cond.selects RX1 yX1_canDoBetter yX1_canDoBetter ∈ k_ws := k_in2 212 (by decide +kernel) (by decide +kernel)
theorem kwk_X1_canDoBetter : Cond.code yX1_canDoBetter cX1_canDoBetter 4 (.some .boolean) ∈ k_ws := k_in2 213 (by decide +kernel) (by decide +kernel)
theorem kwm_X1_86 : Cond.methodLink RX1 86 yX3_placeOf ∈ k_ws := k_in2 214 (by decide +kernel) (by decide +kernel)
theorem kwm_X1_89 : Cond.methodLink RX1 89 yX0_isOffered ∈ k_ws := k_in2 215 (by decide +kernel) (by decide +kernel)
theorem kwm_X1_43 : Cond.methodLink RX1 43 yX1_keepRest ∈ k_ws := k_in2 216 (by decide +kernel) (by decide +kernel)
theorem kwi_X1_keepRest : Cond.instanceMethod yX1_keepRest ∈ k_ws := k_in2 217 (by decide +kernel) (by decide +kernel)
theorem kwv_X1_keepRest : Cond.selects RX1 yX1_keepRest yX1_keepRest ∈ k_ws := k_in2 218 (by decide +kernel) (by decide +kernel)
theorem kwk_X1_keepRest : Cond.code yX1_keepRest cX1_keepRest 1 .none ∈ k_ws := k_in2 219 (by decide +kernel) (by decide +kernel)
theorem kwm_X1_49 : Cond.methodLink RX1 49 arraycopyName ∈ k_ws := k_in2 220 (by decide +kernel) (by decide +kernel)
theorem kwm_X1_46 : Cond.methodLink RX1 46 yX1_goOn ∈ k_ws := k_in2 221 (by decide +kernel) (by decide +kernel)
theorem kwi_X1_goOn : Cond.instanceMethod yX1_goOn ∈ k_ws := k_in2 222 (by decide +kernel) (by decide +kernel)
theorem kwv_X1_goOn : Cond.selects RX1 yX1_goOn yX1_goOn ∈ k_ws := k_in2 223 (by decide +kernel) (by decide +kernel)
theorem kwk_X1_goOn : Cond.code yX1_goOn cX1_goOn 3 (.some .boolean) ∈ k_ws := k_in2 224 (by decide +kernel) (by decide +kernel)
theorem kwm_L_70 : Cond.methodLink RL 70 yX6_winter ∈ k_ws := k_in2 225 (by decide +kernel) (by decide +kernel)
theorem kwi_X6_winter : Cond.instanceMethod yX6_winter ∈ k_ws := k_in2 226 (by decide +kernel) (by decide +kernel)
theorem kwv_X6_winter : Cond.selects RX6 yX6_winter yX6_winter ∈ k_ws := k_in2 227 (by decide +kernel) (by decide +kernel)
theorem kwk_X6_winter : Cond.code yX6_winter cX6_winter 8 (.some .int) ∈ k_ws := k_in2 228 (by decide +kernel) (by decide +kernel)
theorem kwm_X6_197 : Cond.methodLink RX6 197 yX5_find ∈ k_ws := k_in2 229 (by decide +kernel) (by decide +kernel)
theorem kwi_X5_find : Cond.instanceMethod yX5_find ∈ k_ws := k_in2 230 (by decide +kernel) (by decide +kernel)
theorem kwv_X5_find : Cond.selects RX5 yX5_find yX5_find ∈ k_ws := k_in2 231 (by decide +kernel) (by decide +kernel)
theorem kwk_X5_find : Cond.code yX5_find cX5_find 4 .none ∈ k_ws := k_in2 232 (by decide +kernel) (by decide +kernel)
theorem kwm_X5_47 : Cond.methodLink RX5 47 arraycopyName ∈ k_ws := k_in2 233 (by decide +kernel) (by decide +kernel)
theorem kwm_X5_54 : Cond.methodLink RX5 54 yX5_isWithinReach ∈ k_ws := k_in2 234 (by decide +kernel) (by decide +kernel)
theorem kwi_X5_isWithinReach : Cond.instanceMethod yX5_isWithinReach ∈ k_ws := k_in2 235 (by decide +kernel) (by decide +kernel)
theorem kwv_X5_isWithinReach : Cond.selects RX5 yX5_isWithinReach yX5_isWithinReach ∈ k_ws := k_in2 236 (by decide +kernel) (by decide +kernel)
theorem kwk_X5_isWithinReach : Cond.code yX5_isWithinReach cX5_isWithinReach 3 (.some .boolean) ∈ k_ws := k_in2 237 (by decide +kernel) (by decide +kernel)
theorem kwm_X5_68 : Cond.methodLink RX5 68 yX0_tallWhenTold ∈ k_ws := k_in2 238 (by decide +kernel) (by decide +kernel)
theorem kwm_X5_58 : Cond.methodLink RX5 58 yX5_search ∈ k_ws := k_in2 239 (by decide +kernel) (by decide +kernel)
theorem kws_X5_search : Cond.static yX5_search ∈ k_ws := k_in3 0 (by decide +kernel) (by decide +kernel)
theorem kwk_X5_search : Cond.code yX5_search cX5_search 5 .none ∈ k_ws := k_in3 1 (by decide +kernel) (by decide +kernel)
theorem kwm_X5_79 : Cond.methodLink RX5 79 yX5_wins ∈ k_ws := k_in3 2 (by decide +kernel) (by decide +kernel)
theorem kwi_X5_wins : Cond.instanceMethod yX5_wins ∈ k_ws := k_in3 3 (by decide +kernel) (by decide +kernel)
theorem kwv_X5_wins : Cond.selects RX5 yX5_wins yX5_wins ∈ k_ws := k_in3 4 (by decide +kernel) (by decide +kernel)
theorem kwk_X5_wins : Cond.code yX5_wins cX5_wins 3 (.some .boolean) ∈ k_ws := k_in3 5 (by decide +kernel) (by decide +kernel)
theorem kwm_X5_75 : Cond.methodLink RX5 75 yX0_mayBeTold ∈ k_ws := k_in3 6 (by decide +kernel) (by decide +kernel)
theorem kwm_L_75 : Cond.methodLink RL 75 yX6_trade ∈ k_ws := k_in3 7 (by decide +kernel) (by decide +kernel)
theorem kwi_X6_trade : Cond.instanceMethod yX6_trade ∈ k_ws := k_in3 8 (by decide +kernel) (by decide +kernel)
theorem kwv_X6_trade : Cond.selects RX6 yX6_trade yX6_trade ∈ k_ws := k_in3 9 (by decide +kernel) (by decide +kernel)
theorem kwk_X6_trade : Cond.code yX6_trade cX6_trade 4 (.some .int) ∈ k_ws := k_in3 10 (by decide +kernel) (by decide +kernel)
theorem kwm_X6_204 : Cond.methodLink RX6 204 yX0_strongAfter ∈ k_ws := k_in3 11 (by decide +kernel) (by decide +kernel)
theorem kwi_X0_strongAfter : Cond.instanceMethod yX0_strongAfter ∈ k_ws := k_in3 12 (by decide +kernel) (by decide +kernel)
theorem kwv_X0_strongAfter : Cond.selects RX0 yX0_strongAfter yX0_strongAfter ∈ k_ws := k_in3 13 (by decide +kernel) (by decide +kernel)
theorem kwk_X0_strongAfter : Cond.code yX0_strongAfter cX0_strongAfter 7 (.some .int) ∈ k_ws := k_in3 14 (by decide +kernel) (by decide +kernel)
theorem kwm_X0_110 : Cond.methodLink RX0 110 yX0_ownerAfter ∈ k_ws := k_in3 15 (by decide +kernel) (by decide +kernel)
theorem kwi_X0_ownerAfter : Cond.instanceMethod yX0_ownerAfter ∈ k_ws := k_in3 16 (by decide +kernel) (by decide +kernel)
theorem kwv_X0_ownerAfter : Cond.selects RX0 yX0_ownerAfter yX0_ownerAfter ∈ k_ws := k_in3 17 (by decide +kernel) (by decide +kernel)
theorem kwk_X0_ownerAfter : Cond.code yX0_ownerAfter cX0_ownerAfter 4 (.some .int) ∈ k_ws := k_in3 18 (by decide +kernel) (by decide +kernel)
theorem kwm_X0_114 : Cond.methodLink RX0 114 Lib.Math.max.name ∈ k_ws := k_in3 19 (by decide +kernel) (by decide +kernel)
theorem kwm_L_79 : Cond.methodLink RL 79 yX6_toldBy ∈ k_ws := k_in3 20 (by decide +kernel) (by decide +kernel)
theorem kwi_X6_toldBy : Cond.instanceMethod yX6_toldBy ∈ k_ws := k_in3 21 (by decide +kernel) (by decide +kernel)
theorem kwv_X6_toldBy : Cond.selects RX6 yX6_toldBy yX6_toldBy ∈ k_ws := k_in3 22 (by decide +kernel) (by decide +kernel)
theorem kwk_X6_toldBy : Cond.code yX6_toldBy cX6_toldBy 7 (.some .int) ∈ k_ws := k_in3 23 (by decide +kernel) (by decide +kernel)
theorem kwm_X6_211 : Cond.methodLink RX6 211 yX0_isRowOfAll ∈ k_ws := k_in3 24 (by decide +kernel) (by decide +kernel)
theorem kwi_X0_isRowOfAll : Cond.instanceMethod yX0_isRowOfAll ∈ k_ws := k_in3 25 (by decide +kernel) (by decide +kernel)
theorem kwv_X0_isRowOfAll : Cond.selects RX0 yX0_isRowOfAll yX0_isRowOfAll ∈ k_ws := k_in3 26 (by decide +kernel) (by decide +kernel)
theorem kwk_X0_isRowOfAll : Cond.code yX0_isRowOfAll cX0_isRowOfAll 4 (.some .boolean) ∈ k_ws := k_in3 27 (by decide +kernel) (by decide +kernel)
theorem kwm_X0_119 : Cond.methodLink RX0 119 yX0_hasGuest ∈ k_ws := k_in3 28 (by decide +kernel) (by decide +kernel)
theorem kwm_X6_215 : Cond.methodLink RX6 215 yX6_canHaveTold ∈ k_ws := k_in3 29 (by decide +kernel) (by decide +kernel)
theorem kwi_X6_canHaveTold : Cond.instanceMethod yX6_canHaveTold ∈ k_ws := k_in3 31 (by decide +kernel) (by decide +kernel)
theorem kwk_X6_canHaveTold : Cond.code yX6_canHaveTold cX6_canHaveTold 5 (.some .int) ∈ k_ws := k_in3 32 (by decide +kernel) (by decide +kernel)
theorem kwm_X6_269 : Cond.methodLink RX6 269 yX0_tallsOfNight ∈ k_ws := k_in3 33 (by decide +kernel) (by decide +kernel)
theorem kwi_X0_tallsOfNight : Cond.instanceMethod yX0_tallsOfNight ∈ k_ws := k_in3 34 (by decide +kernel) (by decide +kernel)
theorem kwv_X0_tallsOfNight : Cond.selects RX0 yX0_tallsOfNight yX0_tallsOfNight ∈ k_ws := k_in3 35 (by decide +kernel) (by decide +kernel)
theorem kwk_X0_tallsOfNight : Cond.code yX0_tallsOfNight cX0_tallsOfNight 4 .none ∈ k_ws := k_in3 36 (by decide +kernel) (by decide +kernel)
theorem kwm_X6_273 : Cond.methodLink RX6 273 yX0_timesToldBefore ∈ k_ws := k_in3 37 (by decide +kernel) (by decide +kernel)
theorem kwi_X0_timesToldBefore : Cond.instanceMethod yX0_timesToldBefore ∈ k_ws := k_in3 38 (by decide +kernel) (by decide +kernel)
theorem kwv_X0_timesToldBefore : Cond.selects RX0 yX0_timesToldBefore yX0_timesToldBefore ∈ k_ws := k_in3 39 (by decide +kernel) (by decide +kernel)
theorem kwk_X0_timesToldBefore : Cond.code yX0_timesToldBefore cX0_timesToldBefore 5 (.some .int) ∈ k_ws := k_in3 40 (by decide +kernel) (by decide +kernel)
theorem kwm_X6_276 : Cond.methodLink RX6 276 yX0_tallWhenTold ∈ k_ws := k_in3 41 (by decide +kernel) (by decide +kernel)
theorem kwm_X6_279 : Cond.methodLink RX6 279 yX3_layAs ∈ k_ws := k_in3 42 (by decide +kernel) (by decide +kernel)
theorem kwi_X3_layAs : Cond.instanceMethod yX3_layAs ∈ k_ws := k_in3 43 (by decide +kernel) (by decide +kernel)
theorem kwv_X3_layAs : Cond.selects RX3 yX3_layAs yX3_layAs ∈ k_ws := k_in3 44 (by decide +kernel) (by decide +kernel)
theorem kwk_X3_layAs : Cond.code yX3_layAs cX3_layAs 4 (.some .boolean) ∈ k_ws := k_in3 45 (by decide +kernel) (by decide +kernel)
theorem kwm_X3_25 : Cond.methodLink RX3 25 yX3_placeOf ∈ k_ws := k_in3 46 (by decide +kernel) (by decide +kernel)
theorem kwm_L_84 : Cond.methodLink RL 84 yX6_sheet ∈ k_ws := k_in3 47 (by decide +kernel) (by decide +kernel)
theorem kwi_X6_sheet : Cond.instanceMethod yX6_sheet ∈ k_ws := k_in3 48 (by decide +kernel) (by decide +kernel)
theorem kwv_X6_sheet : Cond.selects RX6 yX6_sheet yX6_sheet ∈ k_ws := k_in3 49 (by decide +kernel) (by decide +kernel)
theorem kwk_X6_sheet : Cond.code yX6_sheet cX6_sheet 4 (.some .int) ∈ k_ws := k_in3 50 (by decide +kernel) (by decide +kernel)
theorem kwm_X6_218 : Cond.methodLink RX6 218 yX2_makeRow ∈ k_ws := k_in3 51 (by decide +kernel) (by decide +kernel)
theorem kwi_X2_makeRow : Cond.instanceMethod yX2_makeRow ∈ k_ws := k_in3 52 (by decide +kernel) (by decide +kernel)
theorem kwv_X2_makeRow : Cond.selects RX2 yX2_makeRow yX2_makeRow ∈ k_ws := k_in3 53 (by decide +kernel) (by decide +kernel)
theorem kwk_X2_makeRow : Cond.code yX2_makeRow cX2_makeRow 4 .none ∈ k_ws := k_in3 54 (by decide +kernel) (by decide +kernel)
theorem kwm_X2_35 : Cond.methodLink RX2 35 yJ7_fill_fda19 ∈ k_ws := k_in3 55 (by decide +kernel) (by decide +kernel)
theorem kws_J7_fill_fda19 : Cond.static yJ7_fill_fda19 ∈ k_ws := k_in3 56 (by decide +kernel) (by decide +kernel)
theorem kwk_J7_fill_fda19 : Cond.code yJ7_fill_fda19 cJ7_fill_fda19 5 .none ∈ k_ws := k_in3 57 (by decide +kernel) (by decide +kernel)
theorem kwm_J7_13 : Cond.methodLink RJ7 13 yJ7_rangeCheck_23922 ∈ k_ws := k_in3 58 (by decide +kernel) (by decide +kernel)
theorem kws_J7_rangeCheck_23922 : Cond.static yJ7_rangeCheck_23922 ∈ k_ws := k_in3 59 (by decide +kernel) (by decide +kernel)
theorem kwk_J7_rangeCheck_23922 : Cond.code yJ7_rangeCheck_23922 cJ7_rangeCheck_23922 3 .none ∈ k_ws := k_in3 60 (by decide +kernel) (by decide +kernel)
theorem kwm_L_88 : Cond.methodLink RL 88 yX6_lose ∈ k_ws := k_in3 61 (by decide +kernel) (by decide +kernel)
theorem kwi_X6_lose : Cond.instanceMethod yX6_lose ∈ k_ws := k_in3 62 (by decide +kernel) (by decide +kernel)
theorem kwv_X6_lose : Cond.selects RX6 yX6_lose yX6_lose ∈ k_ws := k_in3 63 (by decide +kernel) (by decide +kernel)
theorem kwk_X6_lose : Cond.code yX6_lose cX6_lose 2 (.some .int) ∈ k_ws := k_in3 64 (by decide +kernel) (by decide +kernel)
theorem kwm_X6_222 : Cond.methodLink RX6 222 yX2_dropRow ∈ k_ws := k_in3 65 (by decide +kernel) (by decide +kernel)
theorem kwi_X2_dropRow : Cond.instanceMethod yX2_dropRow ∈ k_ws := k_in3 66 (by decide +kernel) (by decide +kernel)
theorem kwv_X2_dropRow : Cond.selects RX2 yX2_dropRow yX2_dropRow ∈ k_ws := k_in3 67 (by decide +kernel) (by decide +kernel)
theorem kwk_X2_dropRow : Cond.code yX2_dropRow cX2_dropRow 3 (.some .boolean) ∈ k_ws := k_in3 68 (by decide +kernel) (by decide +kernel)
theorem kwm_L_92 : Cond.methodLink RL 92 yX6_put ∈ k_ws := k_in3 69 (by decide +kernel) (by decide +kernel)
theorem kwi_X6_put : Cond.instanceMethod yX6_put ∈ k_ws := k_in3 70 (by decide +kernel) (by decide +kernel)
theorem kwv_X6_put : Cond.selects RX6 yX6_put yX6_put ∈ k_ws := k_in3 71 (by decide +kernel) (by decide +kernel)
theorem kwk_X6_put : Cond.code yX6_put cX6_put 4 (.some .int) ∈ k_ws := k_in3 72 (by decide +kernel) (by decide +kernel)
theorem kwm_X6_225 : Cond.methodLink RX6 225 yX2_hasRow ∈ k_ws := k_in3 73 (by decide +kernel) (by decide +kernel)
theorem kwm_X6_228 : Cond.methodLink RX6 228 yX2_hasCells ∈ k_ws := k_in3 74 (by decide +kernel) (by decide +kernel)
theorem kwm_X6_232 : Cond.methodLink RX6 232 yX2_write ∈ k_ws := k_in3 75 (by decide +kernel) (by decide +kernel)
theorem kwi_X2_write : Cond.instanceMethod yX2_write ∈ k_ws := k_in3 76 (by decide +kernel) (by decide +kernel)
theorem kwv_X2_write : Cond.selects RX2 yX2_write yX2_write ∈ k_ws := k_in3 77 (by decide +kernel) (by decide +kernel)
theorem kwk_X2_write : Cond.code yX2_write cX2_write 5 .none ∈ k_ws := k_in3 78 (by decide +kernel) (by decide +kernel)
theorem kwm_L_96 : Cond.methodLink RL 96 yX6_cell ∈ k_ws := k_in3 79 (by decide +kernel) (by decide +kernel)
theorem kwi_X6_cell : Cond.instanceMethod yX6_cell ∈ k_ws := k_in3 80 (by decide +kernel) (by decide +kernel)
theorem kwv_X6_cell : Cond.selects RX6 yX6_cell yX6_cell ∈ k_ws := k_in3 81 (by decide +kernel) (by decide +kernel)
theorem kwk_X6_cell : Cond.code yX6_cell cX6_cell 5 (.some .long) ∈ k_ws := k_in3 82 (by decide +kernel) (by decide +kernel)
theorem kwl_X6_235 : Cond.constantLong RX6 235 (-9223372036854775808 : Int64) ∈ k_ws := k_in3 83 (by decide +kernel) (by decide +kernel)
theorem kwm_X6_237 : Cond.methodLink RX6 237 yX2_read ∈ k_ws := k_in3 84 (by decide +kernel) (by decide +kernel)
theorem kwi_X2_read : Cond.instanceMethod yX2_read ∈ k_ws := k_in3 85 (by decide +kernel) (by decide +kernel)
theorem kwv_X2_read : Cond.selects RX2 yX2_read yX2_read ∈ k_ws := k_in3 86 (by decide +kernel) (by decide +kernel)
theorem kwk_X2_read : Cond.code yX2_read cX2_read 3 (.some .int) ∈ k_ws := k_in3 87 (by decide +kernel) (by decide +kernel)
theorem kwm_L_101 : Cond.methodLink RL 101 yX6_copy ∈ k_ws := k_in3 88 (by decide +kernel) (by decide +kernel)
theorem kwi_X6_copy : Cond.instanceMethod yX6_copy ∈ k_ws := k_in3 89 (by decide +kernel) (by decide +kernel)
theorem kwv_X6_copy : Cond.selects RX6 yX6_copy yX6_copy ∈ k_ws := k_in3 90 (by decide +kernel) (by decide +kernel)
theorem kwk_X6_copy : Cond.code yX6_copy cX6_copy 6 (.some .int) ∈ k_ws := k_in3 91 (by decide +kernel) (by decide +kernel)
theorem kwm_X6_243 : Cond.methodLink RX6 243 yX2_move ∈ k_ws := k_in3 92 (by decide +kernel) (by decide +kernel)
theorem kwi_X2_move : Cond.instanceMethod yX2_move ∈ k_ws := k_in3 93 (by decide +kernel) (by decide +kernel)
theorem kwv_X2_move : Cond.selects RX2 yX2_move yX2_move ∈ k_ws := k_in3 94 (by decide +kernel) (by decide +kernel)
theorem kwk_X2_move : Cond.code yX2_move cX2_move 6 .none ∈ k_ws := k_in3 95 (by decide +kernel) (by decide +kernel)
theorem kwm_L_105 : Cond.methodLink RL 105 yX6_tell ∈ k_ws := k_in3 96 (by decide +kernel) (by decide +kernel)
theorem kwi_X6_tell : Cond.instanceMethod yX6_tell ∈ k_ws := k_in3 97 (by decide +kernel) (by decide +kernel)
theorem kwv_X6_tell : Cond.selects RX6 yX6_tell yX6_tell ∈ k_ws := k_in3 98 (by decide +kernel) (by decide +kernel)
theorem kwk_X6_tell : Cond.code yX6_tell cX6_tell 2 (.some .int) ∈ k_ws := k_in3 99 (by decide +kernel) (by decide +kernel)
theorem kwm_X6_247 : Cond.methodLink RX6 247 yX6_tellAsGrown ∈ k_ws := k_in3 100 (by decide +kernel) (by decide +kernel)
theorem kwi_X6_tellAsGrown : Cond.instanceMethod yX6_tellAsGrown ∈ k_ws := k_in3 102 (by decide +kernel) (by decide +kernel)
theorem kwk_X6_tellAsGrown : Cond.code yX6_tellAsGrown cX6_tellAsGrown 2 (.some .int) ∈ k_ws := k_in3 103 (by decide +kernel) (by decide +kernel)
theorem kwm_X6_256 : Cond.methodLink RX6 256 yX6_leaveTrace ∈ k_ws := k_in3 104 (by decide +kernel) (by decide +kernel)
theorem kwi_X6_leaveTrace : Cond.instanceMethod yX6_leaveTrace ∈ k_ws := k_in3 106 (by decide +kernel) (by decide +kernel)
theorem kwk_X6_leaveTrace : Cond.code yX6_leaveTrace cX6_leaveTrace 2 .none ∈ k_ws := k_in3 107 (by decide +kernel) (by decide +kernel)
theorem kwm_X6_253 : Cond.methodLink RX6 253 yX6_tellAsTale ∈ k_ws := k_in3 108 (by decide +kernel) (by decide +kernel)
theorem kwi_X6_tellAsTale : Cond.instanceMethod yX6_tellAsTale ∈ k_ws := k_in3 110 (by decide +kernel) (by decide +kernel)
theorem kwk_X6_tellAsTale : Cond.code yX6_tellAsTale cX6_tellAsTale 2 (.some .int) ∈ k_ws := k_in3 111 (by decide +kernel) (by decide +kernel)
theorem kwm_X6_250 : Cond.methodLink RX6 250 yX6_tellAsTrue ∈ k_ws := k_in3 112 (by decide +kernel) (by decide +kernel)
theorem kwi_X6_tellAsTrue : Cond.instanceMethod yX6_tellAsTrue ∈ k_ws := k_in3 114 (by decide +kernel) (by decide +kernel)
theorem kwk_X6_tellAsTrue : Cond.code yX6_tellAsTrue cX6_tellAsTrue 3 (.some .int) ∈ k_ws := k_in3 115 (by decide +kernel) (by decide +kernel)
theorem kwm_L_109 : Cond.methodLink RL 109 yX6_swear ∈ k_ws := k_in3 116 (by decide +kernel) (by decide +kernel)
theorem kwi_X6_swear : Cond.instanceMethod yX6_swear ∈ k_ws := k_in3 117 (by decide +kernel) (by decide +kernel)
theorem kwv_X6_swear : Cond.selects RX6 yX6_swear yX6_swear ∈ k_ws := k_in3 118 (by decide +kernel) (by decide +kernel)
theorem kwk_X6_swear : Cond.code yX6_swear cX6_swear 2 (.some .int) ∈ k_ws := k_in3 119 (by decide +kernel) (by decide +kernel)
theorem kwm_L_113 : Cond.methodLink RL 113 yX6_as ∈ k_ws := k_in3 120 (by decide +kernel) (by decide +kernel)
theorem kwi_X6_as : Cond.instanceMethod yX6_as ∈ k_ws := k_in3 121 (by decide +kernel) (by decide +kernel)
theorem kwv_X6_as : Cond.selects RX6 yX6_as yX6_as ∈ k_ws := k_in3 122 (by decide +kernel) (by decide +kernel)
theorem kwk_X6_as : Cond.code yX6_as cX6_as 3 (.some .int) ∈ k_ws := k_in3 123 (by decide +kernel) (by decide +kernel)
theorem kwm_L_117 : Cond.methodLink RL 117 yX6_trace ∈ k_ws := k_in3 124 (by decide +kernel) (by decide +kernel)
theorem kwi_X6_trace : Cond.instanceMethod yX6_trace ∈ k_ws := k_in3 125 (by decide +kernel) (by decide +kernel)
theorem kwv_X6_trace : Cond.selects RX6 yX6_trace yX6_trace ∈ k_ws := k_in3 126 (by decide +kernel) (by decide +kernel)
theorem kwk_X6_trace : Cond.code yX6_trace cX6_trace 1 (.some .int) ∈ k_ws := k_in3 127 (by decide +kernel) (by decide +kernel)
theorem kwm_L_121 : Cond.methodLink RL 121 yX6_fault ∈ k_ws := k_in3 128 (by decide +kernel) (by decide +kernel)
theorem kwi_X6_fault : Cond.instanceMethod yX6_fault ∈ k_ws := k_in3 129 (by decide +kernel) (by decide +kernel)
theorem kwv_X6_fault : Cond.selects RX6 yX6_fault yX6_fault ∈ k_ws := k_in3 130 (by decide +kernel) (by decide +kernel)
theorem kwk_X6_fault : Cond.code yX6_fault cX6_fault 1 (.some .int) ∈ k_ws := k_in3 131 (by decide +kernel) (by decide +kernel)
theorem kwm_L_125 : Cond.methodLink RL 125 yX6_many ∈ k_ws := k_in3 132 (by decide +kernel) (by decide +kernel)
theorem kwi_X6_many : Cond.instanceMethod yX6_many ∈ k_ws := k_in3 133 (by decide +kernel) (by decide +kernel)
theorem kwv_X6_many : Cond.selects RX6 yX6_many yX6_many ∈ k_ws := k_in3 134 (by decide +kernel) (by decide +kernel)
theorem kwk_X6_many : Cond.code yX6_many cX6_many 2 (.some .int) ∈ k_ws := k_in3 135 (by decide +kernel) (by decide +kernel)
theorem kwc_L_10 : Cond.classLink RL 10 RX7 ∈ k_ws := k_in3 136 (by decide +kernel) (by decide +kernel)
theorem kwx_X7 : Cond.instantiable RX7 31 ∈ k_ws := k_in3 137 (by decide +kernel) (by decide +kernel)
theorem kwm_L_12 : Cond.methodLink RL 12 yX7_init ∈ k_ws := k_in3 138 (by decide +kernel) (by decide +kernel)
theorem kwi_X7_init : Cond.instanceMethod yX7_init ∈ k_ws := k_in3 139 (by decide +kernel) (by decide +kernel)
theorem kwk_X7_init : Cond.code yX7_init cX7_init 1 .none ∈ k_ws := k_in3 140 (by decide +kernel) (by decide +kernel)
theorem kwm_X7_1 : Cond.methodLink RX7 1 objectInit ∈ k_ws := k_in3 141 (by decide +kernel) (by decide +kernel)
theorem kwf_X7_67 : Cond.fieldLink RX7 67 "TallTalesModel" "fault" "I" ∈ k_ws := k_in3 142 (by decide +kernel) (by decide +kernel)
theorem kwf_X7_230 : Cond.fieldLink RX7 230 "TallTalesModel" "trace" "I" ∈ k_ws := k_in3 143 (by decide +kernel) (by decide +kernel)
theorem kwf_X7_9 : Cond.fieldLink RX7 9 "TallTalesModel" "sorts" "[I" ∈ k_ws := k_in3 144 (by decide +kernel) (by decide +kernel)
theorem kwf_X7_13 : Cond.fieldLink RX7 13 "TallTalesModel" "sheetLong" "[I" ∈ k_ws := k_in3 145 (by decide +kernel) (by decide +kernel)
theorem kwf_X7_16 : Cond.fieldLink RX7 16 "TallTalesModel" "cells" "[I" ∈ k_ws := k_in3 146 (by decide +kernel) (by decide +kernel)
theorem kwf_X7_77 : Cond.fieldLink RX7 77 "TallTalesModel" "guests" "I" ∈ k_ws := k_in3 147 (by decide +kernel) (by decide +kernel)
theorem kwf_X7_80 : Cond.fieldLink RX7 80 "TallTalesModel" "tales" "I" ∈ k_ws := k_in3 148 (by decide +kernel) (by decide +kernel)
theorem kwf_X7_110 : Cond.fieldLink RX7 110 "TallTalesModel" "memory" "I" ∈ k_ws := k_in3 149 (by decide +kernel) (by decide +kernel)
theorem kwf_X7_19 : Cond.fieldLink RX7 19 "TallTalesModel" "kind" "[I" ∈ k_ws := k_in3 150 (by decide +kernel) (by decide +kernel)
theorem kwf_X7_22 : Cond.fieldLink RX7 22 "TallTalesModel" "whose" "[I" ∈ k_ws := k_in3 151 (by decide +kernel) (by decide +kernel)
theorem kwf_X7_25 : Cond.fieldLink RX7 25 "TallTalesModel" "high" "[I" ∈ k_ws := k_in3 152 (by decide +kernel) (by decide +kernel)
theorem kwf_X7_98 : Cond.fieldLink RX7 98 "TallTalesModel" "at" "I" ∈ k_ws := k_in3 153 (by decide +kernel) (by decide +kernel)
theorem kwf_X7_104 : Cond.fieldLink RX7 104 "TallTalesModel" "readGuests" "I" ∈ k_ws := k_in3 154 (by decide +kernel) (by decide +kernel)
theorem kwf_X7_107 : Cond.fieldLink RX7 107 "TallTalesModel" "readTales" "I" ∈ k_ws := k_in3 155 (by decide +kernel) (by decide +kernel)
theorem kwf_X7_28 : Cond.fieldLink RX7 28 "TallTalesModel" "readKind" "[I" ∈ k_ws := k_in3 156 (by decide +kernel) (by decide +kernel)
theorem kwf_X7_31 : Cond.fieldLink RX7 31 "TallTalesModel" "readWhose" "[I" ∈ k_ws := k_in3 157 (by decide +kernel) (by decide +kernel)
theorem kwf_X7_34 : Cond.fieldLink RX7 34 "TallTalesModel" "readHigh" "[I" ∈ k_ws := k_in3 158 (by decide +kernel) (by decide +kernel)
theorem kwf_X7_113 : Cond.fieldLink RX7 113 "TallTalesModel" "over" "I" ∈ k_ws := k_in3 159 (by decide +kernel) (by decide +kernel)
theorem kwf_X7_37 : Cond.fieldLink RX7 37 "TallTalesModel" "nightTold" "[I" ∈ k_ws := k_in3 160 (by decide +kernel) (by decide +kernel)
theorem kwf_X7_40 : Cond.fieldLink RX7 40 "TallTalesModel" "nightTall" "[I" ∈ k_ws := k_in3 161 (by decide +kernel) (by decide +kernel)
theorem kwf_X7_43 : Cond.fieldLink RX7 43 "TallTalesModel" "chosen" "[I" ∈ k_ws := k_in3 162 (by decide +kernel) (by decide +kernel)
theorem kwf_X7_46 : Cond.fieldLink RX7 46 "TallTalesModel" "times" "[I" ∈ k_ws := k_in3 163 (by decide +kernel) (by decide +kernel)
theorem kwf_X7_49 : Cond.fieldLink RX7 49 "TallTalesModel" "last" "[I" ∈ k_ws := k_in3 164 (by decide +kernel) (by decide +kernel)
theorem kwf_X7_52 : Cond.fieldLink RX7 52 "TallTalesModel" "tall" "[I" ∈ k_ws := k_in3 165 (by decide +kernel) (by decide +kernel)
theorem kwf_X7_168 : Cond.fieldLink RX7 168 "TallTalesModel" "bestTale" "I" ∈ k_ws := k_in3 166 (by decide +kernel) (by decide +kernel)
theorem kwf_X7_171 : Cond.fieldLink RX7 171 "TallTalesModel" "bestPlace" "I" ∈ k_ws := k_in3 167 (by decide +kernel) (by decide +kernel)
theorem kwf_X7_174 : Cond.fieldLink RX7 174 "TallTalesModel" "bestTall" "I" ∈ k_ws := k_in3 168 (by decide +kernel) (by decide +kernel)
theorem kwf_X7_55 : Cond.fieldLink RX7 55 "TallTalesModel" "tells" "[I" ∈ k_ws := k_in3 169 (by decide +kernel) (by decide +kernel)
theorem kwf_X7_58 : Cond.fieldLink RX7 58 "TallTalesModel" "firstRest" "[I" ∈ k_ws := k_in3 170 (by decide +kernel) (by decide +kernel)
theorem kwf_X7_61 : Cond.fieldLink RX7 61 "TallTalesModel" "winterTells" "[I" ∈ k_ws := k_in3 171 (by decide +kernel) (by decide +kernel)
theorem kwf_X7_64 : Cond.fieldLink RX7 64 "TallTalesModel" "winterBest" "[I" ∈ k_ws := k_in3 172 (by decide +kernel) (by decide +kernel)
theorem kwm_L_17 : Cond.methodLink RL 17 yX7_inn ∈ k_ws := k_in3 236 (by decide +kernel) (by decide +kernel)
theorem kwi_X7_inn : Cond.instanceMethod yX7_inn ∈ k_ws := k_in3 237 (by decide +kernel) (by decide +kernel)
theorem kwv_X7_inn : Cond.selects RX7 yX7_inn yX7_inn ∈ k_ws := k_in3 238 (by decide +kernel) (by decide +kernel)
theorem kwk_X7_inn : Cond.code yX7_inn cX7_inn 8 (.some .int) ∈ k_ws := k_in3 239 (by decide +kernel) (by decide +kernel)
theorem kwm_X7_83 : Cond.methodLink RX7 83 yX7_isSheet ∈ k_ws := k_in4 0 (by decide +kernel) (by decide +kernel)
theorem kws_X7_isSheet : Cond.static yX7_isSheet ∈ k_ws := k_in4 1 (by decide +kernel) (by decide +kernel)
theorem kwk_X7_isSheet : Cond.code yX7_isSheet cX7_isSheet 1 (.some .boolean) ∈ k_ws := k_in4 2 (by decide +kernel) (by decide +kernel)
theorem kwm_X7_73 : Cond.methodLink RX7 73 yX7_within ∈ k_ws := k_in4 3 (by decide +kernel) (by decide +kernel)
theorem kws_X7_within : Cond.static yX7_within ∈ k_ws := k_in4 4 (by decide +kernel) (by decide +kernel)
theorem kwk_X7_within : Cond.code yX7_within cX7_within 3 (.some .boolean) ∈ k_ws := k_in4 5 (by decide +kernel) (by decide +kernel)
theorem kwm_X7_87 : Cond.methodLink RX7 87 yX7_isSort ∈ k_ws := k_in4 6 (by decide +kernel) (by decide +kernel)
theorem kws_X7_isSort : Cond.static yX7_isSort ∈ k_ws := k_in4 7 (by decide +kernel) (by decide +kernel)
theorem kwk_X7_isSort : Cond.code yX7_isSort cX7_isSort 1 (.some .boolean) ∈ k_ws := k_in4 8 (by decide +kernel) (by decide +kernel)
theorem kwm_X7_90 : Cond.methodLink RX7 90 yX7_against ∈ k_ws := k_in4 9 (by decide +kernel) (by decide +kernel)
theorem kwi_X7_against : Cond.instanceMethod yX7_against ∈ k_ws := k_in4 11 (by decide +kernel) (by decide +kernel)
theorem kwk_X7_against : Cond.code yX7_against cX7_against 5 (.some .int) ∈ k_ws := k_in4 12 (by decide +kernel) (by decide +kernel)
theorem kwm_X7_94 : Cond.methodLink RX7 94 yX7_fails ∈ k_ws := k_in4 13 (by decide +kernel) (by decide +kernel)
theorem kwi_X7_fails : Cond.instanceMethod yX7_fails ∈ k_ws := k_in4 15 (by decide +kernel) (by decide +kernel)
theorem kwk_X7_fails : Cond.code yX7_fails cX7_fails 2 (.some .int) ∈ k_ws := k_in4 16 (by decide +kernel) (by decide +kernel)
theorem kwm_X7_101 : Cond.methodLink RX7 101 yX7_readInn ∈ k_ws := k_in4 17 (by decide +kernel) (by decide +kernel)
theorem kwi_X7_readInn : Cond.instanceMethod yX7_readInn ∈ k_ws := k_in4 19 (by decide +kernel) (by decide +kernel)
theorem kwk_X7_readInn : Cond.code yX7_readInn cX7_readInn 2 (.some .boolean) ∈ k_ws := k_in4 20 (by decide +kernel) (by decide +kernel)
theorem kwm_X7_122 : Cond.methodLink RX7 122 yX7_digitAt ∈ k_ws := k_in4 21 (by decide +kernel) (by decide +kernel)
theorem kwi_X7_digitAt : Cond.instanceMethod yX7_digitAt ∈ k_ws := k_in4 23 (by decide +kernel) (by decide +kernel)
theorem kwk_X7_digitAt : Cond.code yX7_digitAt cX7_digitAt 3 (.some .int) ∈ k_ws := k_in4 24 (by decide +kernel) (by decide +kernel)
theorem kwm_X7_126 : Cond.methodLink RX7 126 yX7_readTale ∈ k_ws := k_in4 25 (by decide +kernel) (by decide +kernel)
theorem kwi_X7_readTale : Cond.instanceMethod yX7_readTale ∈ k_ws := k_in4 27 (by decide +kernel) (by decide +kernel)
theorem kwk_X7_readTale : Cond.code yX7_readTale cX7_readTale 6 (.some .boolean) ∈ k_ws := k_in4 28 (by decide +kernel) (by decide +kernel)
theorem kwm_X7_116 : Cond.methodLink RX7 116 yX7_countTold ∈ k_ws := k_in4 29 (by decide +kernel) (by decide +kernel)
theorem kwi_X7_countTold : Cond.instanceMethod yX7_countTold ∈ k_ws := k_in4 31 (by decide +kernel) (by decide +kernel)
theorem kwk_X7_countTold : Cond.code yX7_countTold cX7_countTold 2 .none ∈ k_ws := k_in4 32 (by decide +kernel) (by decide +kernel)
theorem kwm_X7_119 : Cond.methodLink RX7 119 yX7_chooseNone ∈ k_ws := k_in4 33 (by decide +kernel) (by decide +kernel)
theorem kwi_X7_chooseNone : Cond.instanceMethod yX7_chooseNone ∈ k_ws := k_in4 35 (by decide +kernel) (by decide +kernel)
theorem kwk_X7_chooseNone : Cond.code yX7_chooseNone cX7_chooseNone 2 .none ∈ k_ws := k_in4 36 (by decide +kernel) (by decide +kernel)
theorem kwm_L_22 : Cond.methodLink RL 22 yX7_ofTale ∈ k_ws := k_in4 37 (by decide +kernel) (by decide +kernel)
theorem kwi_X7_ofTale : Cond.instanceMethod yX7_ofTale ∈ k_ws := k_in4 38 (by decide +kernel) (by decide +kernel)
theorem kwv_X7_ofTale : Cond.selects RX7 yX7_ofTale yX7_ofTale ∈ k_ws := k_in4 39 (by decide +kernel) (by decide +kernel)
theorem kwk_X7_ofTale : Cond.code yX7_ofTale cX7_ofTale 3 (.some .int) ∈ k_ws := k_in4 40 (by decide +kernel) (by decide +kernel)
theorem kwm_X7_136 : Cond.methodLink RX7 136 yX7_isTale ∈ k_ws := k_in4 41 (by decide +kernel) (by decide +kernel)
theorem kwi_X7_isTale : Cond.instanceMethod yX7_isTale ∈ k_ws := k_in4 43 (by decide +kernel) (by decide +kernel)
theorem kwk_X7_isTale : Cond.code yX7_isTale cX7_isTale 2 (.some .boolean) ∈ k_ws := k_in4 44 (by decide +kernel) (by decide +kernel)
theorem kwm_X7_139 : Cond.methodLink RX7 139 yX7_mayNow ∈ k_ws := k_in4 45 (by decide +kernel) (by decide +kernel)
theorem kwi_X7_mayNow : Cond.instanceMethod yX7_mayNow ∈ k_ws := k_in4 47 (by decide +kernel) (by decide +kernel)
theorem kwk_X7_mayNow : Cond.code yX7_mayNow cX7_mayNow 2 (.some .boolean) ∈ k_ws := k_in4 48 (by decide +kernel) (by decide +kernel)
theorem kwm_X7_129 : Cond.methodLink RX7 129 yX7_mayBe ∈ k_ws := k_in4 49 (by decide +kernel) (by decide +kernel)
theorem kwi_X7_mayBe : Cond.instanceMethod yX7_mayBe ∈ k_ws := k_in4 51 (by decide +kernel) (by decide +kernel)
theorem kwk_X7_mayBe : Cond.code yX7_mayBe cX7_mayBe 5 (.some .boolean) ∈ k_ws := k_in4 52 (by decide +kernel) (by decide +kernel)
theorem kwm_X7_142 : Cond.methodLink RX7 142 yX7_tallNow ∈ k_ws := k_in4 53 (by decide +kernel) (by decide +kernel)
theorem kwi_X7_tallNow : Cond.instanceMethod yX7_tallNow ∈ k_ws := k_in4 55 (by decide +kernel) (by decide +kernel)
theorem kwk_X7_tallNow : Cond.code yX7_tallNow cX7_tallNow 2 (.some .int) ∈ k_ws := k_in4 56 (by decide +kernel) (by decide +kernel)
theorem kwm_X7_133 : Cond.methodLink RX7 133 yX7_tallBy ∈ k_ws := k_in4 57 (by decide +kernel) (by decide +kernel)
theorem kwi_X7_tallBy : Cond.instanceMethod yX7_tallBy ∈ k_ws := k_in4 59 (by decide +kernel) (by decide +kernel)
theorem kwk_X7_tallBy : Cond.code yX7_tallBy cX7_tallBy 3 (.some .int) ∈ k_ws := k_in4 60 (by decide +kernel) (by decide +kernel)
theorem kwm_L_27 : Cond.methodLink RL 27 yX7_memory ∈ k_ws := k_in4 61 (by decide +kernel) (by decide +kernel)
theorem kwi_X7_memory : Cond.instanceMethod yX7_memory ∈ k_ws := k_in4 62 (by decide +kernel) (by decide +kernel)
theorem kwv_X7_memory : Cond.selects RX7 yX7_memory yX7_memory ∈ k_ws := k_in4 63 (by decide +kernel) (by decide +kernel)
theorem kwk_X7_memory : Cond.code yX7_memory cX7_memory 3 (.some .int) ∈ k_ws := k_in4 64 (by decide +kernel) (by decide +kernel)
theorem kwm_L_31 : Cond.methodLink RL 31 yX7_choose ∈ k_ws := k_in4 65 (by decide +kernel) (by decide +kernel)
theorem kwi_X7_choose : Cond.instanceMethod yX7_choose ∈ k_ws := k_in4 66 (by decide +kernel) (by decide +kernel)
theorem kwv_X7_choose : Cond.selects RX7 yX7_choose yX7_choose ∈ k_ws := k_in4 67 (by decide +kernel) (by decide +kernel)
theorem kwk_X7_choose : Cond.code yX7_choose cX7_choose 4 (.some .int) ∈ k_ws := k_in4 68 (by decide +kernel) (by decide +kernel)
theorem kwm_X7_145 : Cond.methodLink RX7 145 yX7_isGuest ∈ k_ws := k_in4 69 (by decide +kernel) (by decide +kernel)
theorem kwi_X7_isGuest : Cond.instanceMethod yX7_isGuest ∈ k_ws := k_in4 71 (by decide +kernel) (by decide +kernel)
theorem kwk_X7_isGuest : Cond.code yX7_isGuest cX7_isGuest 2 (.some .boolean) ∈ k_ws := k_in4 72 (by decide +kernel) (by decide +kernel)
theorem kwm_L_36 : Cond.methodLink RL 36 yX7_night ∈ k_ws := k_in4 73 (by decide +kernel) (by decide +kernel)
theorem kwi_X7_night : Cond.instanceMethod yX7_night ∈ k_ws := k_in4 74 (by decide +kernel) (by decide +kernel)
theorem kwv_X7_night : Cond.selects RX7 yX7_night yX7_night ∈ k_ws := k_in4 75 (by decide +kernel) (by decide +kernel)
theorem kwk_X7_night : Cond.code yX7_night cX7_night 2 (.some .int) ∈ k_ws := k_in4 76 (by decide +kernel) (by decide +kernel)
theorem kwm_X7_151 : Cond.methodLink RX7 151 yX7_layTall ∈ k_ws := k_in4 77 (by decide +kernel) (by decide +kernel)
theorem kwi_X7_layTall : Cond.instanceMethod yX7_layTall ∈ k_ws := k_in4 79 (by decide +kernel) (by decide +kernel)
theorem kwk_X7_layTall : Cond.code yX7_layTall cX7_layTall 2 .none ∈ k_ws := k_in4 80 (by decide +kernel) (by decide +kernel)
theorem kwm_X7_154 : Cond.methodLink RX7 154 yX7_inBed ∈ k_ws := k_in4 81 (by decide +kernel) (by decide +kernel)
theorem kwi_X7_inBed : Cond.instanceMethod yX7_inBed ∈ k_ws := k_in4 83 (by decide +kernel) (by decide +kernel)
theorem kwk_X7_inBed : Cond.code yX7_inBed cX7_inBed 2 (.some .int) ∈ k_ws := k_in4 84 (by decide +kernel) (by decide +kernel)
theorem kwm_X7_148 : Cond.methodLink RX7 148 yX7_placeOf ∈ k_ws := k_in4 85 (by decide +kernel) (by decide +kernel)
theorem kwi_X7_placeOf : Cond.instanceMethod yX7_placeOf ∈ k_ws := k_in4 87 (by decide +kernel) (by decide +kernel)
theorem kwk_X7_placeOf : Cond.code yX7_placeOf cX7_placeOf 4 (.some .int) ∈ k_ws := k_in4 88 (by decide +kernel) (by decide +kernel)
theorem kwm_L_41 : Cond.methodLink RL 41 yX7_ofNight ∈ k_ws := k_in4 89 (by decide +kernel) (by decide +kernel)
theorem kwi_X7_ofNight : Cond.instanceMethod yX7_ofNight ∈ k_ws := k_in4 90 (by decide +kernel) (by decide +kernel)
theorem kwv_X7_ofNight : Cond.selects RX7 yX7_ofNight yX7_ofNight ∈ k_ws := k_in4 91 (by decide +kernel) (by decide +kernel)
theorem kwk_X7_ofNight : Cond.code yX7_ofNight cX7_ofNight 4 (.some .int) ∈ k_ws := k_in4 92 (by decide +kernel) (by decide +kernel)
theorem kwm_X7_158 : Cond.methodLink RX7 158 yX7_isNight ∈ k_ws := k_in4 93 (by decide +kernel) (by decide +kernel)
theorem kwi_X7_isNight : Cond.instanceMethod yX7_isNight ∈ k_ws := k_in4 95 (by decide +kernel) (by decide +kernel)
theorem kwk_X7_isNight : Cond.code yX7_isNight cX7_isNight 2 (.some .boolean) ∈ k_ws := k_in4 96 (by decide +kernel) (by decide +kernel)
theorem kwm_X7_161 : Cond.methodLink RX7 161 yX7_layNight ∈ k_ws := k_in4 97 (by decide +kernel) (by decide +kernel)
theorem kwi_X7_layNight : Cond.instanceMethod yX7_layNight ∈ k_ws := k_in4 99 (by decide +kernel) (by decide +kernel)
theorem kwk_X7_layNight : Cond.code yX7_layNight cX7_layNight 3 .none ∈ k_ws := k_in4 100 (by decide +kernel) (by decide +kernel)
theorem kwm_L_45 : Cond.methodLink RL 45 yX7_undo ∈ k_ws := k_in4 101 (by decide +kernel) (by decide +kernel)
theorem kwi_X7_undo : Cond.instanceMethod yX7_undo ∈ k_ws := k_in4 102 (by decide +kernel) (by decide +kernel)
theorem kwv_X7_undo : Cond.selects RX7 yX7_undo yX7_undo ∈ k_ws := k_in4 103 (by decide +kernel) (by decide +kernel)
theorem kwk_X7_undo : Cond.code yX7_undo cX7_undo 2 (.some .int) ∈ k_ws := k_in4 104 (by decide +kernel) (by decide +kernel)
theorem kwm_L_49 : Cond.methodLink RL 49 yX7_lay ∈ k_ws := k_in4 105 (by decide +kernel) (by decide +kernel)
theorem kwi_X7_lay : Cond.instanceMethod yX7_lay ∈ k_ws := k_in4 106 (by decide +kernel) (by decide +kernel)
theorem kwv_X7_lay : Cond.selects RX7 yX7_lay yX7_lay ∈ k_ws := k_in4 107 (by decide +kernel) (by decide +kernel)
theorem kwk_X7_lay : Cond.code yX7_lay cX7_lay 5 (.some .int) ∈ k_ws := k_in4 108 (by decide +kernel) (by decide +kernel)
theorem kwm_L_53 : Cond.methodLink RL 53 yX7_tonight ∈ k_ws := k_in4 109 (by decide +kernel) (by decide +kernel)
theorem kwi_X7_tonight : Cond.instanceMethod yX7_tonight ∈ k_ws := k_in4 110 (by decide +kernel) (by decide +kernel)
theorem kwv_X7_tonight : Cond.selects RX7 yX7_tonight yX7_tonight ∈ k_ws := k_in4 111 (by decide +kernel) (by decide +kernel)
theorem kwk_X7_tonight : Cond.code yX7_tonight cX7_tonight 3 (.some .int) ∈ k_ws := k_in4 112 (by decide +kernel) (by decide +kernel)
theorem kwm_X7_165 : Cond.methodLink RX7 165 yX7_need ∈ k_ws := k_in4 113 (by decide +kernel) (by decide +kernel)
theorem kwi_X7_need : Cond.instanceMethod yX7_need ∈ k_ws := k_in4 115 (by decide +kernel) (by decide +kernel)
theorem kwk_X7_need : Cond.code yX7_need cX7_need 5 (.some .int) ∈ k_ws := k_in4 116 (by decide +kernel) (by decide +kernel)
theorem kwm_L_57 : Cond.methodLink RL 57 yX7_answer ∈ k_ws := k_in4 117 (by decide +kernel) (by decide +kernel)
theorem kwi_X7_answer : Cond.instanceMethod yX7_answer ∈ k_ws := k_in4 118 (by decide +kernel) (by decide +kernel)
theorem kwv_X7_answer : Cond.selects RX7 yX7_answer yX7_answer ∈ k_ws := k_in4 119 (by decide +kernel) (by decide +kernel)
theorem kwk_X7_answer : Cond.code yX7_answer cX7_answer 4 (.some .int) ∈ k_ws := k_in4 120 (by decide +kernel) (by decide +kernel)
theorem kwm_X7_177 : Cond.methodLink RX7 177 yX7_offer ∈ k_ws := k_in4 121 (by decide +kernel) (by decide +kernel)
theorem kwi_X7_offer : Cond.instanceMethod yX7_offer ∈ k_ws := k_in4 123 (by decide +kernel) (by decide +kernel)
theorem kwk_X7_offer : Cond.code yX7_offer cX7_offer 5 .none ∈ k_ws := k_in4 124 (by decide +kernel) (by decide +kernel)
theorem kwm_X7_181 : Cond.methodLink RX7 181 yX7_found ∈ k_ws := k_in4 125 (by decide +kernel) (by decide +kernel)
theorem kwi_X7_found : Cond.instanceMethod yX7_found ∈ k_ws := k_in4 127 (by decide +kernel) (by decide +kernel)
theorem kwk_X7_found : Cond.code yX7_found cX7_found 2 (.some .int) ∈ k_ws := k_in4 128 (by decide +kernel) (by decide +kernel)
theorem kwm_L_61 : Cond.methodLink RL 61 yX7_borrowed ∈ k_ws := k_in4 129 (by decide +kernel) (by decide +kernel)
theorem kwi_X7_borrowed : Cond.instanceMethod yX7_borrowed ∈ k_ws := k_in4 130 (by decide +kernel) (by decide +kernel)
theorem kwv_X7_borrowed : Cond.selects RX7 yX7_borrowed yX7_borrowed ∈ k_ws := k_in4 131 (by decide +kernel) (by decide +kernel)
theorem kwk_X7_borrowed : Cond.code yX7_borrowed cX7_borrowed 4 (.some .int) ∈ k_ws := k_in4 132 (by decide +kernel) (by decide +kernel)
theorem kwm_X7_184 : Cond.methodLink RX7 184 yX7_isChosen ∈ k_ws := k_in4 133 (by decide +kernel) (by decide +kernel)
theorem kwi_X7_isChosen : Cond.instanceMethod yX7_isChosen ∈ k_ws := k_in4 135 (by decide +kernel) (by decide +kernel)
theorem kwk_X7_isChosen : Cond.code yX7_isChosen cX7_isChosen 3 (.some .boolean) ∈ k_ws := k_in4 136 (by decide +kernel) (by decide +kernel)
theorem kwm_L_65 : Cond.methodLink RL 65 yX7_bishop ∈ k_ws := k_in4 137 (by decide +kernel) (by decide +kernel)
theorem kwi_X7_bishop : Cond.instanceMethod yX7_bishop ∈ k_ws := k_in4 138 (by decide +kernel) (by decide +kernel)
theorem kwv_X7_bishop : Cond.selects RX7 yX7_bishop yX7_bishop ∈ k_ws := k_in4 139 (by decide +kernel) (by decide +kernel)
theorem kwk_X7_bishop : Cond.code yX7_bishop cX7_bishop 4 (.some .int) ∈ k_ws := k_in4 140 (by decide +kernel) (by decide +kernel)
theorem kwm_L_69 : Cond.methodLink RL 69 yX7_rests ∈ k_ws := k_in4 141 (by decide +kernel) (by decide +kernel)
theorem kwi_X7_rests : Cond.instanceMethod yX7_rests ∈ k_ws := k_in4 142 (by decide +kernel) (by decide +kernel)
theorem kwv_X7_rests : Cond.selects RX7 yX7_rests yX7_rests ∈ k_ws := k_in4 143 (by decide +kernel) (by decide +kernel)
theorem kwk_X7_rests : Cond.code yX7_rests cX7_rests 3 (.some .int) ∈ k_ws := k_in4 144 (by decide +kernel) (by decide +kernel)
theorem kwm_X7_200 : Cond.methodLink RX7 200 yX7_findRests ∈ k_ws := k_in4 145 (by decide +kernel) (by decide +kernel)
theorem kwi_X7_findRests : Cond.instanceMethod yX7_findRests ∈ k_ws := k_in4 147 (by decide +kernel) (by decide +kernel)
theorem kwk_X7_findRests : Cond.code yX7_findRests cX7_findRests 4 (.some .int) ∈ k_ws := k_in4 148 (by decide +kernel) (by decide +kernel)
theorem kwm_X7_190 : Cond.methodLink RX7 190 yX7_nextOwn ∈ k_ws := k_in4 149 (by decide +kernel) (by decide +kernel)
theorem kwi_X7_nextOwn : Cond.instanceMethod yX7_nextOwn ∈ k_ws := k_in4 151 (by decide +kernel) (by decide +kernel)
theorem kwk_X7_nextOwn : Cond.code yX7_nextOwn cX7_nextOwn 4 (.some .int) ∈ k_ws := k_in4 152 (by decide +kernel) (by decide +kernel)
theorem kwm_X7_193 : Cond.methodLink RX7 193 yX7_isRest ∈ k_ws := k_in4 153 (by decide +kernel) (by decide +kernel)
theorem kwi_X7_isRest : Cond.instanceMethod yX7_isRest ∈ k_ws := k_in4 155 (by decide +kernel) (by decide +kernel)
theorem kwk_X7_isRest : Cond.code yX7_isRest cX7_isRest 4 (.some .boolean) ∈ k_ws := k_in4 156 (by decide +kernel) (by decide +kernel)
theorem kwm_X7_187 : Cond.methodLink RX7 187 yX7_layTells ∈ k_ws := k_in4 157 (by decide +kernel) (by decide +kernel)
theorem kwi_X7_layTells : Cond.instanceMethod yX7_layTells ∈ k_ws := k_in4 159 (by decide +kernel) (by decide +kernel)
theorem kwk_X7_layTells : Cond.code yX7_layTells cX7_layTells 2 .none ∈ k_ws := k_in4 160 (by decide +kernel) (by decide +kernel)
theorem kwm_X7_197 : Cond.methodLink RX7 197 yX7_nextTells ∈ k_ws := k_in4 161 (by decide +kernel) (by decide +kernel)
theorem kwi_X7_nextTells : Cond.instanceMethod yX7_nextTells ∈ k_ws := k_in4 163 (by decide +kernel) (by decide +kernel)
theorem kwk_X7_nextTells : Cond.code yX7_nextTells cX7_nextTells 3 (.some .boolean) ∈ k_ws := k_in4 164 (by decide +kernel) (by decide +kernel)
theorem kwm_L_74 : Cond.methodLink RL 74 yX7_winter ∈ k_ws := k_in4 165 (by decide +kernel) (by decide +kernel)
theorem kwi_X7_winter : Cond.instanceMethod yX7_winter ∈ k_ws := k_in4 166 (by decide +kernel) (by decide +kernel)
theorem kwv_X7_winter : Cond.selects RX7 yX7_winter yX7_winter ∈ k_ws := k_in4 167 (by decide +kernel) (by decide +kernel)
theorem kwk_X7_winter : Cond.code yX7_winter cX7_winter 9 (.some .int) ∈ k_ws := k_in4 168 (by decide +kernel) (by decide +kernel)
theorem kwm_X7_210 : Cond.methodLink RX7 210 yX7_findWinter ∈ k_ws := k_in4 169 (by decide +kernel) (by decide +kernel)
theorem kwi_X7_findWinter : Cond.instanceMethod yX7_findWinter ∈ k_ws := k_in4 171 (by decide +kernel) (by decide +kernel)
theorem kwk_X7_findWinter : Cond.code yX7_findWinter cX7_findWinter 8 (.some .int) ∈ k_ws := k_in4 172 (by decide +kernel) (by decide +kernel)
theorem kwm_X7_203 : Cond.methodLink RX7 203 yX7_mayWinter ∈ k_ws := k_in4 173 (by decide +kernel) (by decide +kernel)
theorem kwi_X7_mayWinter : Cond.instanceMethod yX7_mayWinter ∈ k_ws := k_in4 175 (by decide +kernel) (by decide +kernel)
theorem kwk_X7_mayWinter : Cond.code yX7_mayWinter cX7_mayWinter 8 (.some .boolean) ∈ k_ws := k_in4 176 (by decide +kernel) (by decide +kernel)
theorem kwm_X7_206 : Cond.methodLink RX7 206 yX7_nightsOf ∈ k_ws := k_in4 177 (by decide +kernel) (by decide +kernel)
theorem kws_X7_nightsOf : Cond.static yX7_nightsOf ∈ k_ws := k_in4 178 (by decide +kernel) (by decide +kernel)
theorem kwk_X7_nightsOf : Cond.code yX7_nightsOf cX7_nightsOf 4 (.some .int) ∈ k_ws := k_in4 179 (by decide +kernel) (by decide +kernel)
theorem kwm_L_78 : Cond.methodLink RL 78 yX7_trade ∈ k_ws := k_in4 180 (by decide +kernel) (by decide +kernel)
theorem kwi_X7_trade : Cond.instanceMethod yX7_trade ∈ k_ws := k_in4 181 (by decide +kernel) (by decide +kernel)
theorem kwv_X7_trade : Cond.selects RX7 yX7_trade yX7_trade ∈ k_ws := k_in4 182 (by decide +kernel) (by decide +kernel)
theorem kwk_X7_trade : Cond.code yX7_trade cX7_trade 7 (.some .int) ∈ k_ws := k_in4 183 (by decide +kernel) (by decide +kernel)
theorem kwm_X7_214 : Cond.methodLink RX7 214 yX7_strong ∈ k_ws := k_in4 184 (by decide +kernel) (by decide +kernel)
theorem kwi_X7_strong : Cond.instanceMethod yX7_strong ∈ k_ws := k_in4 186 (by decide +kernel) (by decide +kernel)
theorem kwk_X7_strong : Cond.code yX7_strong cX7_strong 5 (.some .int) ∈ k_ws := k_in4 187 (by decide +kernel) (by decide +kernel)
theorem kwm_L_83 : Cond.methodLink RL 83 yX7_toldBy ∈ k_ws := k_in4 188 (by decide +kernel) (by decide +kernel)
theorem kwi_X7_toldBy : Cond.instanceMethod yX7_toldBy ∈ k_ws := k_in4 189 (by decide +kernel) (by decide +kernel)
theorem kwv_X7_toldBy : Cond.selects RX7 yX7_toldBy yX7_toldBy ∈ k_ws := k_in4 190 (by decide +kernel) (by decide +kernel)
theorem kwk_X7_toldBy : Cond.code yX7_toldBy cX7_toldBy 10 (.some .int) ∈ k_ws := k_in4 191 (by decide +kernel) (by decide +kernel)
theorem kwm_X7_217 : Cond.methodLink RX7 217 yX7_areAllGuests ∈ k_ws := k_in4 192 (by decide +kernel) (by decide +kernel)
theorem kwi_X7_areAllGuests : Cond.instanceMethod yX7_areAllGuests ∈ k_ws := k_in4 194 (by decide +kernel) (by decide +kernel)
theorem kwk_X7_areAllGuests : Cond.code yX7_areAllGuests cX7_areAllGuests 4 (.some .boolean) ∈ k_ws := k_in4 195 (by decide +kernel) (by decide +kernel)
theorem kwm_X7_220 : Cond.methodLink RX7 220 yX7_timesBefore ∈ k_ws := k_in4 196 (by decide +kernel) (by decide +kernel)
theorem kwi_X7_timesBefore : Cond.instanceMethod yX7_timesBefore ∈ k_ws := k_in4 198 (by decide +kernel) (by decide +kernel)
theorem kwk_X7_timesBefore : Cond.code yX7_timesBefore cX7_timesBefore 5 (.some .int) ∈ k_ws := k_in4 199 (by decide +kernel) (by decide +kernel)
theorem kwm_X7_223 : Cond.methodLink RX7 223 yX7_doLie ∈ k_ws := k_in4 200 (by decide +kernel) (by decide +kernel)
theorem kwi_X7_doLie : Cond.instanceMethod yX7_doLie ∈ k_ws := k_in4 202 (by decide +kernel) (by decide +kernel)
theorem kwk_X7_doLie : Cond.code yX7_doLie cX7_doLie 3 (.some .boolean) ∈ k_ws := k_in4 203 (by decide +kernel) (by decide +kernel)
theorem kwm_L_87 : Cond.methodLink RL 87 yX7_sheet ∈ k_ws := k_in4 204 (by decide +kernel) (by decide +kernel)
theorem kwi_X7_sheet : Cond.instanceMethod yX7_sheet ∈ k_ws := k_in4 205 (by decide +kernel) (by decide +kernel)
theorem kwv_X7_sheet : Cond.selects RX7 yX7_sheet yX7_sheet ∈ k_ws := k_in4 206 (by decide +kernel) (by decide +kernel)
theorem kwk_X7_sheet : Cond.code yX7_sheet cX7_sheet 5 (.some .int) ∈ k_ws := k_in4 207 (by decide +kernel) (by decide +kernel)
theorem kwm_L_91 : Cond.methodLink RL 91 yX7_lose ∈ k_ws := k_in4 208 (by decide +kernel) (by decide +kernel)
theorem kwi_X7_lose : Cond.instanceMethod yX7_lose ∈ k_ws := k_in4 209 (by decide +kernel) (by decide +kernel)
theorem kwv_X7_lose : Cond.selects RX7 yX7_lose yX7_lose ∈ k_ws := k_in4 210 (by decide +kernel) (by decide +kernel)
theorem kwk_X7_lose : Cond.code yX7_lose cX7_lose 3 (.some .int) ∈ k_ws := k_in4 211 (by decide +kernel) (by decide +kernel)
theorem kwm_L_95 : Cond.methodLink RL 95 yX7_put ∈ k_ws := k_in4 212 (by decide +kernel) (by decide +kernel)
theorem kwi_X7_put : Cond.instanceMethod yX7_put ∈ k_ws := k_in4 213 (by decide +kernel) (by decide +kernel)
theorem kwv_X7_put : Cond.selects RX7 yX7_put yX7_put ∈ k_ws := k_in4 214 (by decide +kernel) (by decide +kernel)
theorem kwk_X7_put : Cond.code yX7_put cX7_put 4 (.some .int) ∈ k_ws := k_in4 215 (by decide +kernel) (by decide +kernel)
theorem kwm_L_100 : Cond.methodLink RL 100 yX7_cell ∈ k_ws := k_in4 216 (by decide +kernel) (by decide +kernel)
theorem kwi_X7_cell : Cond.instanceMethod yX7_cell ∈ k_ws := k_in4 217 (by decide +kernel) (by decide +kernel)
theorem kwv_X7_cell : Cond.selects RX7 yX7_cell yX7_cell ∈ k_ws := k_in4 218 (by decide +kernel) (by decide +kernel)
theorem kwk_X7_cell : Cond.code yX7_cell cX7_cell 4 (.some .long) ∈ k_ws := k_in4 219 (by decide +kernel) (by decide +kernel)
theorem kwl_X7_71 : Cond.constantLong RX7 71 (-9223372036854775808 : Int64) ∈ k_ws := k_in4 220 (by decide +kernel) (by decide +kernel)
theorem kwm_X7_226 : Cond.methodLink RX7 226 yX7_lost ∈ k_ws := k_in4 221 (by decide +kernel) (by decide +kernel)
theorem kwi_X7_lost : Cond.instanceMethod yX7_lost ∈ k_ws := k_in4 223 (by decide +kernel) (by decide +kernel)
theorem kwk_X7_lost : Cond.code yX7_lost cX7_lost 2 (.some .long) ∈ k_ws := k_in4 224 (by decide +kernel) (by decide +kernel)
theorem kwm_L_104 : Cond.methodLink RL 104 yX7_copy ∈ k_ws := k_in4 225 (by decide +kernel) (by decide +kernel)
theorem kwi_X7_copy : Cond.instanceMethod yX7_copy ∈ k_ws := k_in4 226 (by decide +kernel) (by decide +kernel)
theorem kwv_X7_copy : Cond.selects RX7 yX7_copy yX7_copy ∈ k_ws := k_in4 227 (by decide +kernel) (by decide +kernel)
theorem kwk_X7_copy : Cond.code yX7_copy cX7_copy 10 (.some .int) ∈ k_ws := k_in4 228 (by decide +kernel) (by decide +kernel)
theorem kwm_L_108 : Cond.methodLink RL 108 yX7_tell ∈ k_ws := k_in4 229 (by decide +kernel) (by decide +kernel)
theorem kwi_X7_tell : Cond.instanceMethod yX7_tell ∈ k_ws := k_in4 230 (by decide +kernel) (by decide +kernel)
theorem kwv_X7_tell : Cond.selects RX7 yX7_tell yX7_tell ∈ k_ws := k_in4 231 (by decide +kernel) (by decide +kernel)
theorem kwk_X7_tell : Cond.code yX7_tell cX7_tell 3 (.some .int) ∈ k_ws := k_in4 232 (by decide +kernel) (by decide +kernel)
theorem kwm_X7_233 : Cond.methodLink RX7 233 yX7_begins ∈ k_ws := k_in4 233 (by decide +kernel) (by decide +kernel)
theorem kwi_X7_begins : Cond.instanceMethod yX7_begins ∈ k_ws := k_in4 235 (by decide +kernel) (by decide +kernel)
theorem kwk_X7_begins : Cond.code yX7_begins cX7_begins 2 .none ∈ k_ws := k_in4 236 (by decide +kernel) (by decide +kernel)
theorem kwm_L_112 : Cond.methodLink RL 112 yX7_swear ∈ k_ws := k_in4 237 (by decide +kernel) (by decide +kernel)
theorem kwi_X7_swear : Cond.instanceMethod yX7_swear ∈ k_ws := k_in4 238 (by decide +kernel) (by decide +kernel)
theorem kwv_X7_swear : Cond.selects RX7 yX7_swear yX7_swear ∈ k_ws := k_in4 239 (by decide +kernel) (by decide +kernel)
theorem kwk_X7_swear : Cond.code yX7_swear cX7_swear 2 (.some .int) ∈ k_ws := k_in5 0 (by decide +kernel) (by decide +kernel)
theorem kwm_L_116 : Cond.methodLink RL 116 yX7_as ∈ k_ws := k_in5 1 (by decide +kernel) (by decide +kernel)
theorem kwi_X7_as : Cond.instanceMethod yX7_as ∈ k_ws := k_in5 2 (by decide +kernel) (by decide +kernel)
theorem kwv_X7_as : Cond.selects RX7 yX7_as yX7_as ∈ k_ws := k_in5 3 (by decide +kernel) (by decide +kernel)
theorem kwk_X7_as : Cond.code yX7_as cX7_as 3 (.some .int) ∈ k_ws := k_in5 4 (by decide +kernel) (by decide +kernel)
theorem kwm_L_120 : Cond.methodLink RL 120 yX7_trace ∈ k_ws := k_in5 5 (by decide +kernel) (by decide +kernel)
theorem kwi_X7_trace : Cond.instanceMethod yX7_trace ∈ k_ws := k_in5 6 (by decide +kernel) (by decide +kernel)
theorem kwv_X7_trace : Cond.selects RX7 yX7_trace yX7_trace ∈ k_ws := k_in5 7 (by decide +kernel) (by decide +kernel)
theorem kwk_X7_trace : Cond.code yX7_trace cX7_trace 1 (.some .int) ∈ k_ws := k_in5 8 (by decide +kernel) (by decide +kernel)
theorem kwm_L_124 : Cond.methodLink RL 124 yX7_fault ∈ k_ws := k_in5 9 (by decide +kernel) (by decide +kernel)
theorem kwi_X7_fault : Cond.instanceMethod yX7_fault ∈ k_ws := k_in5 10 (by decide +kernel) (by decide +kernel)
theorem kwv_X7_fault : Cond.selects RX7 yX7_fault yX7_fault ∈ k_ws := k_in5 11 (by decide +kernel) (by decide +kernel)
theorem kwk_X7_fault : Cond.code yX7_fault cX7_fault 1 (.some .int) ∈ k_ws := k_in5 12 (by decide +kernel) (by decide +kernel)
theorem kwm_L_128 : Cond.methodLink RL 128 yX7_many ∈ k_ws := k_in5 13 (by decide +kernel) (by decide +kernel)
theorem kwi_X7_many : Cond.instanceMethod yX7_many ∈ k_ws := k_in5 14 (by decide +kernel) (by decide +kernel)
theorem kwv_X7_many : Cond.selects RX7 yX7_many yX7_many ∈ k_ws := k_in5 15 (by decide +kernel) (by decide +kernel)
theorem kwk_X7_many : Cond.code yX7_many cX7_many 2 (.some .int) ∈ k_ws := k_in5 16 (by decide +kernel) (by decide +kernel)
theorem kwv_X6_faulty : Cond.selects RX6 yX6_faulty yX6_faulty ∈ k_ws := k_in0 0 (by decide +kernel) (by decide +kernel)
theorem kwv_X6_bestReply : Cond.selects RX6 yX6_bestReply yX6_bestReply ∈ k_ws := k_in0 1 (by decide +kernel) (by decide +kernel)
theorem kwv_X6_isBetterReply : Cond.selects RX6 yX6_isBetterReply yX6_isBetterReply ∈ k_ws := k_in0 2 (by decide +kernel) (by decide +kernel)
theorem kwv_X6_canHaveTold : Cond.selects RX6 yX6_canHaveTold yX6_canHaveTold ∈ k_ws := k_in0 3 (by decide +kernel) (by decide +kernel)
theorem kwv_X6_tellAsGrown : Cond.selects RX6 yX6_tellAsGrown yX6_tellAsGrown ∈ k_ws := k_in0 4 (by decide +kernel) (by decide +kernel)
theorem kwv_X6_leaveTrace : Cond.selects RX6 yX6_leaveTrace yX6_leaveTrace ∈ k_ws := k_in0 5 (by decide +kernel) (by decide +kernel)
theorem kwv_X6_tellAsTale : Cond.selects RX6 yX6_tellAsTale yX6_tellAsTale ∈ k_ws := k_in0 6 (by decide +kernel) (by decide +kernel)
theorem kwv_X6_tellAsTrue : Cond.selects RX6 yX6_tellAsTrue yX6_tellAsTrue ∈ k_ws := k_in0 7 (by decide +kernel) (by decide +kernel)
theorem kwv_X7_against : Cond.selects RX7 yX7_against yX7_against ∈ k_ws := k_in0 8 (by decide +kernel) (by decide +kernel)
theorem kwv_X7_fails : Cond.selects RX7 yX7_fails yX7_fails ∈ k_ws := k_in0 9 (by decide +kernel) (by decide +kernel)
theorem kwv_X7_readInn : Cond.selects RX7 yX7_readInn yX7_readInn ∈ k_ws := k_in0 10 (by decide +kernel) (by decide +kernel)
theorem kwv_X7_digitAt : Cond.selects RX7 yX7_digitAt yX7_digitAt ∈ k_ws := k_in0 11 (by decide +kernel) (by decide +kernel)
theorem kwv_X7_readTale : Cond.selects RX7 yX7_readTale yX7_readTale ∈ k_ws := k_in0 12 (by decide +kernel) (by decide +kernel)
theorem kwv_X7_countTold : Cond.selects RX7 yX7_countTold yX7_countTold ∈ k_ws := k_in0 13 (by decide +kernel) (by decide +kernel)
theorem kwv_X7_chooseNone : Cond.selects RX7 yX7_chooseNone yX7_chooseNone ∈ k_ws := k_in0 14 (by decide +kernel) (by decide +kernel)
theorem kwv_X7_isTale : Cond.selects RX7 yX7_isTale yX7_isTale ∈ k_ws := k_in0 15 (by decide +kernel) (by decide +kernel)
theorem kwv_X7_mayNow : Cond.selects RX7 yX7_mayNow yX7_mayNow ∈ k_ws := k_in0 16 (by decide +kernel) (by decide +kernel)
theorem kwv_X7_mayBe : Cond.selects RX7 yX7_mayBe yX7_mayBe ∈ k_ws := k_in0 17 (by decide +kernel) (by decide +kernel)
theorem kwv_X7_tallNow : Cond.selects RX7 yX7_tallNow yX7_tallNow ∈ k_ws := k_in0 18 (by decide +kernel) (by decide +kernel)
theorem kwv_X7_tallBy : Cond.selects RX7 yX7_tallBy yX7_tallBy ∈ k_ws := k_in0 19 (by decide +kernel) (by decide +kernel)
theorem kwv_X7_isGuest : Cond.selects RX7 yX7_isGuest yX7_isGuest ∈ k_ws := k_in0 20 (by decide +kernel) (by decide +kernel)
theorem kwv_X7_layTall : Cond.selects RX7 yX7_layTall yX7_layTall ∈ k_ws := k_in0 21 (by decide +kernel) (by decide +kernel)
theorem kwv_X7_inBed : Cond.selects RX7 yX7_inBed yX7_inBed ∈ k_ws := k_in0 22 (by decide +kernel) (by decide +kernel)
theorem kwv_X7_placeOf : Cond.selects RX7 yX7_placeOf yX7_placeOf ∈ k_ws := k_in0 23 (by decide +kernel) (by decide +kernel)
theorem kwv_X7_isNight : Cond.selects RX7 yX7_isNight yX7_isNight ∈ k_ws := k_in0 24 (by decide +kernel) (by decide +kernel)
theorem kwv_X7_layNight : Cond.selects RX7 yX7_layNight yX7_layNight ∈ k_ws := k_in0 25 (by decide +kernel) (by decide +kernel)
theorem kwv_X7_need : Cond.selects RX7 yX7_need yX7_need ∈ k_ws := k_in0 26 (by decide +kernel) (by decide +kernel)
theorem kwv_X7_offer : Cond.selects RX7 yX7_offer yX7_offer ∈ k_ws := k_in0 27 (by decide +kernel) (by decide +kernel)
theorem kwv_X7_found : Cond.selects RX7 yX7_found yX7_found ∈ k_ws := k_in0 28 (by decide +kernel) (by decide +kernel)
theorem kwv_X7_isChosen : Cond.selects RX7 yX7_isChosen yX7_isChosen ∈ k_ws := k_in0 29 (by decide +kernel) (by decide +kernel)
theorem kwv_X7_findRests : Cond.selects RX7 yX7_findRests yX7_findRests ∈ k_ws := k_in0 30 (by decide +kernel) (by decide +kernel)
theorem kwv_X7_nextOwn : Cond.selects RX7 yX7_nextOwn yX7_nextOwn ∈ k_ws := k_in0 31 (by decide +kernel) (by decide +kernel)
theorem kwv_X7_isRest : Cond.selects RX7 yX7_isRest yX7_isRest ∈ k_ws := k_in0 32 (by decide +kernel) (by decide +kernel)
theorem kwv_X7_layTells : Cond.selects RX7 yX7_layTells yX7_layTells ∈ k_ws := k_in0 33 (by decide +kernel) (by decide +kernel)
theorem kwv_X7_nextTells : Cond.selects RX7 yX7_nextTells yX7_nextTells ∈ k_ws := k_in0 34 (by decide +kernel) (by decide +kernel)
theorem kwv_X7_findWinter : Cond.selects RX7 yX7_findWinter yX7_findWinter ∈ k_ws := k_in0 35 (by decide +kernel) (by decide +kernel)
theorem kwv_X7_mayWinter : Cond.selects RX7 yX7_mayWinter yX7_mayWinter ∈ k_ws := k_in0 36 (by decide +kernel) (by decide +kernel)
theorem kwv_X7_strong : Cond.selects RX7 yX7_strong yX7_strong ∈ k_ws := k_in0 37 (by decide +kernel) (by decide +kernel)
theorem kwv_X7_areAllGuests : Cond.selects RX7 yX7_areAllGuests yX7_areAllGuests ∈ k_ws := k_in0 38 (by decide +kernel) (by decide +kernel)
theorem kwv_X7_timesBefore : Cond.selects RX7 yX7_timesBefore yX7_timesBefore ∈ k_ws := k_in0 39 (by decide +kernel) (by decide +kernel)
theorem kwv_X7_doLie : Cond.selects RX7 yX7_doLie yX7_doLie ∈ k_ws := k_in0 40 (by decide +kernel) (by decide +kernel)
theorem kwv_X7_lost : Cond.selects RX7 yX7_lost yX7_lost ∈ k_ws := k_in0 41 (by decide +kernel) (by decide +kernel)
theorem kwv_X7_begins : Cond.selects RX7 yX7_begins yX7_begins ∈ k_ws := k_in0 42 (by decide +kernel) (by decide +kernel)
theorem kinX0 : ∀ w ∈ wsX00, w ∈ k_ws := k_lay (goodIn_r (big := lw_tbl) _ [139, 141, 143, 145, 147, 149, 151, 153, 155, 157, 159, 161, 163] (by decide +kernel) (by decide +kernel))
theorem kinX1 : ∀ w ∈ wsX10, w ∈ k_ws := k_lay (goodIn_r (big := lw_tbl) _ [197, 199, 201, 203, 205] (by decide +kernel) (by decide +kernel))
theorem kinX2 : ∀ w ∈ wsX20, w ∈ k_ws := k_lay (goodIn_r (big := lw_tbl) _ [76, 78, 80] (by decide +kernel) (by decide +kernel))
theorem kinX3 : ∀ w ∈ wsX30, w ∈ k_ws := k_lay (goodIn_r (big := lw_tbl) _ [179, 181] (by decide +kernel) (by decide +kernel))
theorem kinX4 : ∀ w ∈ wsX40, w ∈ k_ws := k_lay (goodIn_r (big := lw_tbl) _ [94, 96] (by decide +kernel) (by decide +kernel))
theorem kinX5 : ∀ w ∈ wsX50, w ∈ k_ws := k_lay (goodIn_r (big := lw_tbl) _ [227, 229, 231, 233, 235, 237, 239, 241, 243, 245] (by decide +kernel) (by decide +kernel))
theorem kinX6 : ∀ w ∈ wsX60, w ∈ k_ws := k_lay (goodIn_r (big := lw_tbl) _ [257, 259, 261, 263, 265, 267, 269, 271, 273] (by decide +kernel) (by decide +kernel))
theorem kinX7 : ∀ w ∈ wsX70, w ∈ k_ws := k_lay (goodIn_r (big := lw_tbl) _ [696, 698, 700, 702, 704, 706, 708, 710, 712, 714, 716, 718, 720, 722, 724, 726, 728, 730, 732, 734, 736, 738, 740, 742, 744, 746, 748, 750, 752, 754, 756] (by decide +kernel) (by decide +kernel))
end
section
/-! ===== k: a layer of own rows. 'KO .. pc L st σ o': from the machine state (pc, locals L, stack st, world σ) the method ends as o says, if o says anything ===== -/
-- pure words
def k_gd {α : Type} (i : Int32) (n : Nat) (o : Option α) : Option α := if i < 0 ∨ n ≤ i.toNatClampNeg then none else o
def k_bn {α β : Type} (x : α) (k : α → β) : β := k x
def k_ob {α β γ : Type} (o : Option (α × β)) (k : α → β → Option γ) : Option γ := match o with | none => none | some a => k a.1 a.2
def k_mx (x y : Int32) : Int32 := if x < y then y else x
def k_z {α : Type} (x : Int32) (o : Option α) : Option α := if x = 0 then o else if x = 1 then o else none
def k_gc {α : Type} (sp dp n : Int32) (n0 n1 : Nat) (o : Option α) : Option α := if sp < 0 ∨ dp < 0 ∨ n < 0 ∨ n0 < sp.toNatClampNeg + n.toNatClampNeg ∨ n1 < dp.toNatClampNeg + n.toNatClampNeg then none else o
-- one room for numbers: fields by number, arrays by number
abbrev k_S : Type := (Nat → Int32) × (Nat → Nat → Int32)
def k_up {α : Type} (f : Nat → α) (k : Nat) (v : α) : Nat → α := fun j => if j = k then v else f j
def k_sf (σ : k_S) (k : Nat) (v : Int32) : k_S := (k_up σ.1 k v, σ.2)
def k_sA (σ : k_S) (a : Nat) (g : Nat → Int32) : k_S := (σ.1, k_up σ.2 a g)
def k_sa (σ : k_S) (a : Nat) (i v : Int32) : k_S := k_sA σ a (upd (σ.2 a) i.toNatClampNeg v)
def k_sc (σ : k_S) (a0 a1 : Nat) (sp dp n : Int32) : k_S := k_sA σ a1 (va_cpy (σ.2 a0) (σ.2 a1) sp.toNatClampNeg dp.toNatClampNeg n.toNatClampNeg)
-- the run of a method: all that stays the same while it runs
abbrev k_C : Type := (Program × Launch × Env × State × MethodId × Array Value) × (List Frame × Method × Code × va_G × ClassId × (Nat → Prop)) × Room
def k_p (X : k_C) : Program := X.1.1
def k_l (X : k_C) : Launch := X.1.2.1
def k_e (X : k_C) : Env := X.1.2.2.1
def k_s (X : k_C) : State := X.1.2.2.2.1
def k_m (X : k_C) : MethodId := X.1.2.2.2.2.1
def k_a (X : k_C) : Array Value := X.1.2.2.2.2.2
def k_b (X : k_C) : List Frame := X.2.1.1
def k_M (X : k_C) : Method := X.2.1.2.1
def k_c (X : k_C) : Code := X.2.1.2.2.1
def k_D (X : k_C) : va_G := X.2.1.2.2.2.1
def k_I (X : k_C) : ClassId := X.2.1.2.2.2.2.1
def k_A (X : k_C) : Nat → Prop := X.2.1.2.2.2.2.2
def k_R (X : k_C) : Room := X.2.2
-- a method: its room, code, number of locals, class, answer's type
abbrev k_Y : Type := Room × ByteArray × Nat × String × Option FieldType
def k_W (X : k_C) (H : Heap) (locs : List Loc) (kc ks : Nat) (Q : State → Prop) (g : JFrame) : Prop := W (k_p X) (k_l X) (k_e X) (k_R X) (k_s X) (k_m X) (k_a X) (k_b X) (k_M X) (k_c X) H locs kc ks Q g
-- the locals: what is held at each place, of one word each
def k_L (ls : Array Slot) (nL : Nat) (L : List (Option Value)) : Prop := ls.size = nL ∧ lv_wf ls ∧ ∀ (i : Nat) (v : Value), L[i]? = some (some v) → ls[i]? = some (.val v) ∧ v.category = 1
def k_same {S : Type} (cw : S → va_W) : Prop := ∀ (σ τ : S) (k : Nat) (q : Nat × va_E), (cw σ)[k]? = some q → ∃ e : va_E, (cw τ)[k]? = some (q.1, e)
def k_G {S : Type} (X : k_C) (Y : k_Y) (cw : S → va_W) : Prop :=
  (k_p X).tables.exec = Jvm.exec ∧ (k_c X).code = Y.2.1 ∧ (k_c X).maxLocals = Y.2.2.1 ∧ (k_s X).vm.findClass Y.2.2.2.1 = some (k_m X).cls ∧ (∀ w ∈ k_ws, w.before (k_a X) (k_s X) = true) ∧ va_K (k_D X) vwCl [(k_I X, .int)] (k_s X) ∧ (∀ q, (k_s X).heap.size ≤ q → k_A X q) ∧ (∀ σ, va_D (k_A X) (cw σ)) ∧ k_R X = Y.1 ∧ (k_M X).locks = false ∧ (k_M X).sig.returnType = Y.2.2.2.2
def KO {S Rt : Type} (X : k_C) (Y : k_Y) (cw : S → va_W) (kc ks : Nat) (Q : Rt → S → State → Prop) (pc : Nat) (L : List (Option Value)) (st : List Value) (σ : S) (o : Option (Rt × S)) : Prop :=
  k_G X Y cw → ∀ (r : Rt) (σ' : S), o = some (r, σ') → ∀ (H : Heap) (locs : List Loc) (ls : Array Slot), va_P (k_D X) vwCl (cw σ) H → va_S (k_A X) (k_s X).heap H locs → k_L ls Y.2.2.1 L → k_W X H locs kc ks (Q r σ') (F0 (k_m X) pc ls st)
def k_Q {S Rt : Type} (emb : Rt → Option Value) (X : k_C) (cw : S → va_W) (r : Rt) (σ' : S) : State → Prop :=
  MQ (k_b X) (fun _ st oc t => (oc = .returned (emb r) ∧ va_P (k_D X) vwCl (cw σ') t.heap) ∧ va_F (k_A X) st t) (k_a X) (k_s X) 0 0 (k_A X)
abbrev k_ei : Int32 → Option Value := fun r => some (.int r)
abbrev k_ev : Unit → Option Value := fun _ => none
abbrev k_el : Int64 → Option Value := fun r => some (.long r)
-- locals
theorem k_L.at {ls : Array Slot} {nL : Nat} {L : List (Option Value)} (h : k_L ls nL L) {i : Nat} {v : Value} (hi : L[i]? = some (some v)) : ls[i]? = some (.val v) := (h.2.2 i v hi).1
theorem k_pairs (L : List (Option Value)) (q : Nat × Value) : q ∈ (List.range L.length).filterMap (fun j => (L[j]?.join).map (fun v => (j, v))) ↔ L[q.1]? = some (some q.2) := by
  constructor
  · intro hq
    obtain ⟨j, -, hj⟩ := List.mem_filterMap.mp hq
    cases hL : L[j]? with
    | none => rw [hL] at hj; cases hj
    | some o =>
      rw [hL] at hj
      cases o with
      | none => cases hj
      | some v => cases hj; exact hL
  · intro hj
    exact List.mem_filterMap.mpr ⟨q.1, List.mem_range.mpr (List.getElem?_eq_some_iff.mp hj).1, by rw [hj]; rfl⟩
theorem k_L.of_has {ls ls' : Array Slot} {nL : Nat} {L : List (Option Value)} (h : k_L ls nL L) {i : Nat} {v : Value} (h2 : lv_has ls' nL ((i, v) :: ((List.range L.length).filterMap (fun j => (L[j]?.join).map (fun v => (j, v)))).filter (fun q => !(q.1 == i) && !(q.1 + 1 == i && q.2.category == 2)))) (hc : v.category = 1) : k_L ls' nL (L.set i (some v)) := by
  refine ⟨h2.1, h2.2.1, fun j w hj => ?_⟩
  by_cases hji : j = i
  · subst hji
    have hw : w = v := by
      rw [List.getElem?_set] at hj
      by_cases hlt : j < L.length
      · simp [hlt] at hj; exact hj.symm
      · simp [hlt] at hj
    subst hw
    exact ⟨h2.2.2 (j, w) List.mem_cons_self, hc⟩
  · rw [List.getElem?_set_ne (Ne.symm hji)] at hj
    have hcw := (h.2.2 j w hj).2
    refine ⟨h2.2.2 (j, w) (List.mem_cons_of_mem _ (List.mem_filter.mpr ⟨(k_pairs L (j, w)).mpr hj, ?_⟩)), hcw⟩
    simp [hji, hcw]
theorem k_L.fg {ls : Array Slot} {nL : Nat} {L : List (Option Value)} (i : Nat) (h : k_L ls nL L) : k_L ls nL (L.set i none) := by
  refine ⟨h.1, h.2.1, fun j w hj => h.2.2 j w ?_⟩
  by_cases hji : j = i
  · subst hji
    rw [List.getElem?_set] at hj
    by_cases hlt : j < L.length <;> simp [hlt] at hj
  · rwa [List.getElem?_set_ne (Ne.symm hji)] at hj
theorem k_L.entry (vs : List Value) {n : Nat} (h : vs.length ≤ n) (hc : ∀ v ∈ vs, v.category = 1) : k_L ((lg_sl vs ++ List.replicate (n - (lg_sl vs).length) Slot.unset).toArray) n (vs.map some ++ List.replicate (n - vs.length) none) := by
  have hsl : ∀ us : List Value, (∀ v ∈ us, v.category = 1) → lg_sl us = us.map Slot.val := by
    intro us
    induction us with
    | nil => intro _; rfl
    | cons u us ih =>
      intro hu
      have h1 : ¬ u.category = 2 := by rw [hu u List.mem_cons_self]; decide
      have h2 := ih (fun v hv => hu v (List.mem_cons_of_mem _ hv))
      show (if u.category = 2 then [Slot.val u, .second] else [.val u]) ++ lg_sl us = _
      rw [if_neg h1, h2]; rfl
  have e := hsl vs hc
  have hlen : (lg_sl vs).length = vs.length := by rw [e, List.length_map]
  have h0 := lv_entry vs (n := n) (by rw [hlen]; exact h)
  refine ⟨h0.1, h0.2.1, fun i v hi => ?_⟩
  have hlt : i < vs.length := by
    rcases Nat.lt_or_ge i vs.length with q | q
    · exact q
    · rw [List.getElem?_append_right (by simpa using q)] at hi
      simp [List.getElem?_replicate] at hi
  rw [List.getElem?_append_left (by simpa using hlt), List.getElem?_map] at hi
  cases hv : vs[i]? with
  | none => rw [hv] at hi; cases hi
  | some u =>
    rw [hv] at hi
    cases hi
    refine ⟨?_, hc v (List.mem_of_getElem? hv)⟩
    rw [e]
    rw [List.getElem?_toArray, List.getElem?_append_left (by simpa using hlt), List.getElem?_map, hv]
    rfl
section KR
variable {S Rt : Type} {X : k_C} {Y : k_Y} {cw : S → va_W} {kc ks : Nat} {Q : Rt → S → State → Prop} {pc pc' : Nat} {L L' : List (Option Value)} {st st' : List Value} {σ : S} {o o1 o2 : Option (Rt × S)}
theorem KO.lift (h : k_G X Y cw → ∀ (H : Heap) (locs : List Loc) (ls : Array Slot) (Q' : State → Prop), va_P (k_D X) vwCl (cw σ) H → va_S (k_A X) (k_s X).heap H locs → k_L ls Y.2.2.1 L → k_W X H locs kc ks Q' (F0 (k_m X) pc' ls st') → k_W X H locs kc ks Q' (F0 (k_m X) pc ls st)) (kk : KO X Y cw kc ks Q pc' L st' σ o) : KO X Y cw kc ks Q pc L st σ o :=
  fun g r σ' ho H locs ls hP hS hL => h g H locs ls _ hP hS hL (kk g r σ' ho H locs ls hP hS hL)
theorem KO.nil : KO X Y cw kc ks Q pc L st σ Option.none := fun _ _ _ ho => by cases ho
theorem KO.at (h : pc' = pc) (kk : KO X Y cw kc ks Q pc L st σ o) : KO X Y cw kc ks Q pc' L st σ o := h ▸ kk
theorem KO.fg (i : Nat) (kk : KO X Y cw kc ks Q pc (L.set i none) st σ o) : KO X Y cw kc ks Q pc L st σ o := fun g r σ' ho H locs ls hP hS hL => kk g r σ' ho H locs ls hP hS (hL.fg i)
theorem KO.ite {c : Prop} [Decidable c] (k1 : c → KO X Y cw kc ks Q pc L st σ o1) (k2 : ¬ c → KO X Y cw kc ks Q pc L st σ o2) : KO X Y cw kc ks Q pc L st σ (if c then o1 else o2) := by
  by_cases h : c
  · rw [if_pos h]; exact k1 h
  · rw [if_neg h]; exact k2 h
theorem k_iconst {n : Int} {v : Int32} (hd : decode Y.2.1 pc = .ok (.iconst n, 1)) (hv : Int32.ofInt n = v) (kk : KO X Y cw kc ks Q (pc + 1) L (.int v :: st) σ o) : KO X Y cw kc ks Q pc L st σ o :=
  kk.lift fun g _ _ _ _ _ _ _ k => lv_iconst g.1 g.2.1 hd hv k
theorem k_bipush {n : Int} {v : Int32} (hd : decode Y.2.1 pc = .ok (.bipush n, 2)) (hv : (Int8.ofInt n).toInt32 = v) (kk : KO X Y cw kc ks Q (pc + 2) L (.int v :: st) σ o) : KO X Y cw kc ks Q pc L st σ o :=
  kk.lift fun g _ _ _ _ _ _ _ k => lv_bipush g.1 g.2.1 hd hv k
theorem k_sipush {n : Int} {v : Int32} (hd : decode Y.2.1 pc = .ok (.sipush n, 3)) (hv : (Int16.ofInt n).toInt32 = v) (kk : KO X Y cw kc ks Q (pc + 3) L (.int v :: st) σ o) : KO X Y cw kc ks Q pc L st σ o :=
  kk.lift fun g _ _ _ _ _ _ _ k => lv_sipush g.1 g.2.1 hd hv k
theorem k_ldc2 {index : Nat} {v : Int64} (hw : Cond.constantLong Y.2.2.2.1 index v ∈ k_ws) (hd : decode Y.2.1 pc = .ok (.ldc2_w index, 3)) (kk : KO X Y cw kc ks Q (pc + 3) L (.long v :: st) σ o) : KO X Y cw kc ks Q pc L st σ o :=
  kk.lift fun g _ _ _ _ _ _ _ k => lv_ldc2 g.1 g.2.1 g.2.2.2.1 (g.2.2.2.2.1 _ hw) hd k
theorem k_iload_n {i : Fin 4} {x : Int32} (hd : decode Y.2.1 pc = .ok (.iload_n i, 1)) (hL : L[(i : Nat)]? = some (some (.int x))) (kk : KO X Y cw kc ks Q (pc + 1) L (.int x :: st) σ o) : KO X Y cw kc ks Q pc L st σ o :=
  kk.lift fun g _ _ _ _ _ _ h k => lv_iload_n g.1 g.2.1 hd rfl (h.at hL) k
theorem k_iload {i : Nat} {x : Int32} (hd : decode Y.2.1 pc = .ok (.iload i, 2)) (hL : L[i]? = some (some (.int x))) (kk : KO X Y cw kc ks Q (pc + 2) L (.int x :: st) σ o) : KO X Y cw kc ks Q pc L st σ o :=
  kk.lift fun g _ _ _ _ _ _ h k => lv_iload g.1 g.2.1 hd (h.at hL) k
theorem k_aload_n {i : Fin 4} {x : Nat} (hd : decode Y.2.1 pc = .ok (.aload_n i, 1)) (hL : L[(i : Nat)]? = some (some (.ref x))) (kk : KO X Y cw kc ks Q (pc + 1) L (.ref x :: st) σ o) : KO X Y cw kc ks Q pc L st σ o :=
  kk.lift fun g _ _ _ _ _ _ h k => lv_aload_n g.1 g.2.1 hd rfl (h.at hL) k
theorem k_aload {i : Nat} {x : Nat} (hd : decode Y.2.1 pc = .ok (.aload i, 2)) (hL : L[i]? = some (some (.ref x))) (kk : KO X Y cw kc ks Q (pc + 2) L (.ref x :: st) σ o) : KO X Y cw kc ks Q pc L st σ o :=
  kk.lift fun g _ _ _ _ _ _ h k => lv_aload g.1 g.2.1 hd (h.at hL) k
theorem k_iadd {x y : Int32} (hd : decode Y.2.1 pc = .ok (.iadd, 1)) (kk : KO X Y cw kc ks Q (pc + 1) L (.int (x + y) :: st) σ o) : KO X Y cw kc ks Q pc L (.int y :: .int x :: st) σ o :=
  kk.lift fun g _ _ _ _ _ _ _ k => lv_iadd g.1 g.2.1 hd k
theorem k_isub {x y : Int32} (hd : decode Y.2.1 pc = .ok (.isub, 1)) (kk : KO X Y cw kc ks Q (pc + 1) L (.int (x - y) :: st) σ o) : KO X Y cw kc ks Q pc L (.int y :: .int x :: st) σ o :=
  kk.lift fun g _ _ _ _ _ _ _ k => lv_isub g.1 g.2.1 hd k
theorem k_imul {x y : Int32} (hd : decode Y.2.1 pc = .ok (.imul, 1)) (kk : KO X Y cw kc ks Q (pc + 1) L (.int (x * y) :: st) σ o) : KO X Y cw kc ks Q pc L (.int y :: .int x :: st) σ o :=
  kk.lift fun g _ _ _ _ _ _ _ k => lv_imul g.1 g.2.1 hd k
theorem k_iand {x y : Int32} (hd : decode Y.2.1 pc = .ok (.iand, 1)) (kk : KO X Y cw kc ks Q (pc + 1) L (.int (x &&& y) :: st) σ o) : KO X Y cw kc ks Q pc L (.int y :: .int x :: st) σ o :=
  kk.lift fun g _ _ _ _ _ _ _ k => lv_iand g.1 g.2.1 hd k
theorem k_ior {x y : Int32} (hd : decode Y.2.1 pc = .ok (.ior, 1)) (kk : KO X Y cw kc ks Q (pc + 1) L (.int (x ||| y) :: st) σ o) : KO X Y cw kc ks Q pc L (.int y :: .int x :: st) σ o :=
  kk.lift fun g _ _ _ _ _ _ _ k => lv_ior g.1 g.2.1 hd k
theorem k_ishl {x y : Int32} (hd : decode Y.2.1 pc = .ok (.ishl, 1)) (kk : KO X Y cw kc ks Q (pc + 1) L (.int (x <<< (y &&& 31)) :: st) σ o) : KO X Y cw kc ks Q pc L (.int y :: .int x :: st) σ o :=
  kk.lift fun g _ _ _ _ _ _ _ k => lv_ishl g.1 g.2.1 hd k
theorem k_idiv {x y : Int32} (hd : decode Y.2.1 pc = .ok (.idiv, 1)) (hne : ¬ y = 0) (kk : KO X Y cw kc ks Q (pc + 1) L (.int (x / y) :: st) σ o) : KO X Y cw kc ks Q pc L (.int y :: .int x :: st) σ o :=
  kk.lift fun g _ _ _ _ _ _ _ k => lv_idiv g.1 g.2.1 hd hne k
theorem k_irem {x y : Int32} (hd : decode Y.2.1 pc = .ok (.irem, 1)) (hne : ¬ y = 0) (kk : KO X Y cw kc ks Q (pc + 1) L (.int (x - x / y * y) :: st) σ o) : KO X Y cw kc ks Q pc L (.int y :: .int x :: st) σ o :=
  kk.lift fun g _ _ _ _ _ _ _ k => lv_irem g.1 g.2.1 hd hne k
theorem k_i2l {x : Int32} (hd : decode Y.2.1 pc = .ok (.i2l, 1)) (kk : KO X Y cw kc ks Q (pc + 1) L (.long x.toInt64 :: st) σ o) : KO X Y cw kc ks Q pc L (.int x :: st) σ o :=
  kk.lift fun g _ _ _ _ _ _ _ k => lv_i2l g.1 g.2.1 hd rfl k
theorem k_i2b {x : Int32} (hd : decode Y.2.1 pc = .ok (.i2b, 1)) (kk : KO X Y cw kc ks Q (pc + 1) L (.int x.toInt8.toInt32 :: st) σ o) : KO X Y cw kc ks Q pc L (.int x :: st) σ o :=
  kk.lift fun g _ _ _ _ _ _ _ k => lv_i2b g.1 g.2.1 hd rfl k
theorem k_i2s {x : Int32} (hd : decode Y.2.1 pc = .ok (.i2s, 1)) (kk : KO X Y cw kc ks Q (pc + 1) L (.int x.toInt16.toInt32 :: st) σ o) : KO X Y cw kc ks Q pc L (.int x :: st) σ o :=
  kk.lift fun g _ _ _ _ _ _ _ k => lv_i2s g.1 g.2.1 hd rfl k
theorem k_dup {a : Value} (hd : decode Y.2.1 pc = .ok (.dup, 1)) (hc : a.category = 1) (kk : KO X Y cw kc ks Q (pc + 1) L (a :: a :: st) σ o) : KO X Y cw kc ks Q pc L (a :: st) σ o :=
  kk.lift fun g _ _ _ _ _ _ _ k => lv_dup g.1 g.2.1 hd hc k
theorem k_dup2 {a b : Value} (hd : decode Y.2.1 pc = .ok (.dup2, 1)) (hc : a.category = 1) (hc2 : b.category = 1) (kk : KO X Y cw kc ks Q (pc + 1) L (a :: b :: a :: b :: st) σ o) : KO X Y cw kc ks Q pc L (a :: b :: st) σ o :=
  kk.lift fun g _ _ _ _ _ _ _ k => lv_dup2_11 g.1 g.2.1 hd hc hc2 k
theorem k_lcmp {x y : Int64} (hd : decode Y.2.1 pc = .ok (.lcmp, 1)) (kk : KO X Y cw kc ks Q (pc + 1) L (.int (lg_cmp x y) :: st) σ o) : KO X Y cw kc ks Q pc L (.long y :: .long x :: st) σ o :=
  kk.lift fun g _ _ _ _ _ _ _ k => W.lcmp g.1 g.2.1 hd k
theorem k_goto {off : Int} (tgt : Nat) (hd : decode Y.2.1 pc = .ok (.goto off, 3)) (ht : (pc : Int) + off = (tgt : Int)) (kk : KO X Y cw kc ks Q tgt L st σ o) : KO X Y cw kc ks Q pc L st σ o :=
  kk.lift fun g _ _ _ _ _ _ _ k => lv_goto g.1 g.2.1 hd ht k
end KR
end
section
/-! ===== k, second part: branches, stores, fields, arrays, ends (by program: wip/gen/k2.py) ===== -/
section KR2
variable {S Rt : Type} {X : k_C} {Y : k_Y} {cw : S → va_W} {kc ks : Nat} {Q : Rt → S → State → Prop} {pc pc' : Nat} {L L' : List (Option Value)} {st st' : List Value} {σ : S} {o o1 o2 : Option (Rt × S)}
theorem k_if_eq {x : Int32} {off : Int} (tgt : Nat) (hd : decode Y.2.1 pc = .ok (.ifCond .eq off, 3)) (ht : (pc : Int) + off = (tgt : Int)) (kt : KO X Y cw kc ks Q tgt L st σ o1) (kf : KO X Y cw kc ks Q (pc + 3) L st σ o2) : KO X Y cw kc ks Q pc L (.int x :: st) σ (if x = 0 then o1 else o2) := by
  intro g r σ' ho H locs ls hP hS hL
  by_cases hc : x = 0
  · rw [if_pos hc] at ho
    exact lv_if_eq g.1 g.2.1 hd ht (fun _ => kt g r σ' ho H locs ls hP hS hL) (fun q => absurd hc q)
  · rw [if_neg hc] at ho
    exact lv_if_eq g.1 g.2.1 hd ht (fun q => absurd q hc) (fun _ => kf g r σ' ho H locs ls hP hS hL)
theorem k_if_ne {x : Int32} {off : Int} (tgt : Nat) (hd : decode Y.2.1 pc = .ok (.ifCond .ne off, 3)) (ht : (pc : Int) + off = (tgt : Int)) (kt : KO X Y cw kc ks Q tgt L st σ o1) (kf : KO X Y cw kc ks Q (pc + 3) L st σ o2) : KO X Y cw kc ks Q pc L (.int x :: st) σ (if x = 0 then o2 else o1) := by
  intro g r σ' ho H locs ls hP hS hL
  by_cases hc : x = 0
  · rw [if_pos hc] at ho
    exact lv_if_ne g.1 g.2.1 hd ht (fun q => absurd hc q) (fun _ => kf g r σ' ho H locs ls hP hS hL)
  · rw [if_neg hc] at ho
    exact lv_if_ne g.1 g.2.1 hd ht (fun _ => kt g r σ' ho H locs ls hP hS hL) (fun q => absurd q hc)
theorem k_if_lt {x : Int32} {off : Int} (tgt : Nat) (hd : decode Y.2.1 pc = .ok (.ifCond .lt off, 3)) (ht : (pc : Int) + off = (tgt : Int)) (kt : KO X Y cw kc ks Q tgt L st σ o1) (kf : KO X Y cw kc ks Q (pc + 3) L st σ o2) : KO X Y cw kc ks Q pc L (.int x :: st) σ (if x < 0 then o1 else o2) := by
  intro g r σ' ho H locs ls hP hS hL
  by_cases hc : x < 0
  · rw [if_pos hc] at ho
    exact lv_if_lt g.1 g.2.1 hd ht (fun _ => kt g r σ' ho H locs ls hP hS hL) (fun q => absurd hc q)
  · rw [if_neg hc] at ho
    exact lv_if_lt g.1 g.2.1 hd ht (fun q => absurd q hc) (fun _ => kf g r σ' ho H locs ls hP hS hL)
theorem k_if_ge {x : Int32} {off : Int} (tgt : Nat) (hd : decode Y.2.1 pc = .ok (.ifCond .ge off, 3)) (ht : (pc : Int) + off = (tgt : Int)) (kt : KO X Y cw kc ks Q tgt L st σ o1) (kf : KO X Y cw kc ks Q (pc + 3) L st σ o2) : KO X Y cw kc ks Q pc L (.int x :: st) σ (if x < 0 then o2 else o1) := by
  intro g r σ' ho H locs ls hP hS hL
  by_cases hc : x < 0
  · rw [if_pos hc] at ho
    exact lv_if_ge g.1 g.2.1 hd ht (fun q => absurd hc (Int32.not_lt.mpr q)) (fun _ => kf g r σ' ho H locs ls hP hS hL)
  · rw [if_neg hc] at ho
    exact lv_if_ge g.1 g.2.1 hd ht (fun _ => kt g r σ' ho H locs ls hP hS hL) (fun q => absurd (Int32.not_le.mp q) hc)
theorem k_if_gt {x : Int32} {off : Int} (tgt : Nat) (hd : decode Y.2.1 pc = .ok (.ifCond .gt off, 3)) (ht : (pc : Int) + off = (tgt : Int)) (kt : KO X Y cw kc ks Q tgt L st σ o1) (kf : KO X Y cw kc ks Q (pc + 3) L st σ o2) : KO X Y cw kc ks Q pc L (.int x :: st) σ (if 0 < x then o1 else o2) := by
  intro g r σ' ho H locs ls hP hS hL
  by_cases hc : 0 < x
  · rw [if_pos hc] at ho
    exact lv_if_gt g.1 g.2.1 hd ht (fun _ => kt g r σ' ho H locs ls hP hS hL) (fun q => absurd hc q)
  · rw [if_neg hc] at ho
    exact lv_if_gt g.1 g.2.1 hd ht (fun q => absurd q hc) (fun _ => kf g r σ' ho H locs ls hP hS hL)
theorem k_if_le {x : Int32} {off : Int} (tgt : Nat) (hd : decode Y.2.1 pc = .ok (.ifCond .le off, 3)) (ht : (pc : Int) + off = (tgt : Int)) (kt : KO X Y cw kc ks Q tgt L st σ o1) (kf : KO X Y cw kc ks Q (pc + 3) L st σ o2) : KO X Y cw kc ks Q pc L (.int x :: st) σ (if 0 < x then o2 else o1) := by
  intro g r σ' ho H locs ls hP hS hL
  by_cases hc : 0 < x
  · rw [if_pos hc] at ho
    exact lv_if_le g.1 g.2.1 hd ht (fun q => absurd hc (Int32.not_lt.mpr q)) (fun _ => kf g r σ' ho H locs ls hP hS hL)
  · rw [if_neg hc] at ho
    exact lv_if_le g.1 g.2.1 hd ht (fun _ => kt g r σ' ho H locs ls hP hS hL) (fun q => absurd (Int32.not_le.mp q) hc)
theorem k_icmp_eq {x y : Int32} {off : Int} (tgt : Nat) (hd : decode Y.2.1 pc = .ok (.if_icmp .eq off, 3)) (ht : (pc : Int) + off = (tgt : Int)) (kt : KO X Y cw kc ks Q tgt L st σ o1) (kf : KO X Y cw kc ks Q (pc + 3) L st σ o2) : KO X Y cw kc ks Q pc L (.int y :: .int x :: st) σ (if x = y then o1 else o2) := by
  intro g r σ' ho H locs ls hP hS hL
  by_cases hc : x = y
  · rw [if_pos hc] at ho
    exact lv_icmp_eq g.1 g.2.1 hd ht (fun _ => kt g r σ' ho H locs ls hP hS hL) (fun q => absurd hc q)
  · rw [if_neg hc] at ho
    exact lv_icmp_eq g.1 g.2.1 hd ht (fun q => absurd q hc) (fun _ => kf g r σ' ho H locs ls hP hS hL)
theorem k_icmp_ne {x y : Int32} {off : Int} (tgt : Nat) (hd : decode Y.2.1 pc = .ok (.if_icmp .ne off, 3)) (ht : (pc : Int) + off = (tgt : Int)) (kt : KO X Y cw kc ks Q tgt L st σ o1) (kf : KO X Y cw kc ks Q (pc + 3) L st σ o2) : KO X Y cw kc ks Q pc L (.int y :: .int x :: st) σ (if x = y then o2 else o1) := by
  intro g r σ' ho H locs ls hP hS hL
  by_cases hc : x = y
  · rw [if_pos hc] at ho
    exact lv_icmp_ne g.1 g.2.1 hd ht (fun q => absurd hc q) (fun _ => kf g r σ' ho H locs ls hP hS hL)
  · rw [if_neg hc] at ho
    exact lv_icmp_ne g.1 g.2.1 hd ht (fun _ => kt g r σ' ho H locs ls hP hS hL) (fun q => absurd q hc)
theorem k_icmp_lt {x y : Int32} {off : Int} (tgt : Nat) (hd : decode Y.2.1 pc = .ok (.if_icmp .lt off, 3)) (ht : (pc : Int) + off = (tgt : Int)) (kt : KO X Y cw kc ks Q tgt L st σ o1) (kf : KO X Y cw kc ks Q (pc + 3) L st σ o2) : KO X Y cw kc ks Q pc L (.int y :: .int x :: st) σ (if x < y then o1 else o2) := by
  intro g r σ' ho H locs ls hP hS hL
  by_cases hc : x < y
  · rw [if_pos hc] at ho
    exact lv_icmp_lt g.1 g.2.1 hd ht (fun _ => kt g r σ' ho H locs ls hP hS hL) (fun q => absurd hc q)
  · rw [if_neg hc] at ho
    exact lv_icmp_lt g.1 g.2.1 hd ht (fun q => absurd q hc) (fun _ => kf g r σ' ho H locs ls hP hS hL)
theorem k_icmp_ge {x y : Int32} {off : Int} (tgt : Nat) (hd : decode Y.2.1 pc = .ok (.if_icmp .ge off, 3)) (ht : (pc : Int) + off = (tgt : Int)) (kt : KO X Y cw kc ks Q tgt L st σ o1) (kf : KO X Y cw kc ks Q (pc + 3) L st σ o2) : KO X Y cw kc ks Q pc L (.int y :: .int x :: st) σ (if x < y then o2 else o1) := by
  intro g r σ' ho H locs ls hP hS hL
  by_cases hc : x < y
  · rw [if_pos hc] at ho
    exact lv_icmp_ge g.1 g.2.1 hd ht (fun q => absurd hc (Int32.not_lt.mpr q)) (fun _ => kf g r σ' ho H locs ls hP hS hL)
  · rw [if_neg hc] at ho
    exact lv_icmp_ge g.1 g.2.1 hd ht (fun _ => kt g r σ' ho H locs ls hP hS hL) (fun q => absurd (Int32.not_le.mp q) hc)
theorem k_icmp_gt {x y : Int32} {off : Int} (tgt : Nat) (hd : decode Y.2.1 pc = .ok (.if_icmp .gt off, 3)) (ht : (pc : Int) + off = (tgt : Int)) (kt : KO X Y cw kc ks Q tgt L st σ o1) (kf : KO X Y cw kc ks Q (pc + 3) L st σ o2) : KO X Y cw kc ks Q pc L (.int y :: .int x :: st) σ (if y < x then o1 else o2) := by
  intro g r σ' ho H locs ls hP hS hL
  by_cases hc : y < x
  · rw [if_pos hc] at ho
    exact lv_icmp_gt g.1 g.2.1 hd ht (fun _ => kt g r σ' ho H locs ls hP hS hL) (fun q => absurd hc q)
  · rw [if_neg hc] at ho
    exact lv_icmp_gt g.1 g.2.1 hd ht (fun q => absurd q hc) (fun _ => kf g r σ' ho H locs ls hP hS hL)
theorem k_icmp_le {x y : Int32} {off : Int} (tgt : Nat) (hd : decode Y.2.1 pc = .ok (.if_icmp .le off, 3)) (ht : (pc : Int) + off = (tgt : Int)) (kt : KO X Y cw kc ks Q tgt L st σ o1) (kf : KO X Y cw kc ks Q (pc + 3) L st σ o2) : KO X Y cw kc ks Q pc L (.int y :: .int x :: st) σ (if y < x then o2 else o1) := by
  intro g r σ' ho H locs ls hP hS hL
  by_cases hc : y < x
  · rw [if_pos hc] at ho
    exact lv_icmp_le g.1 g.2.1 hd ht (fun q => absurd hc (Int32.not_lt.mpr q)) (fun _ => kf g r σ' ho H locs ls hP hS hL)
  · rw [if_neg hc] at ho
    exact lv_icmp_le g.1 g.2.1 hd ht (fun _ => kt g r σ' ho H locs ls hP hS hL) (fun q => absurd (Int32.not_le.mp q) hc)
theorem k_lookup {dflt : Int} {ps : Array (Int × Int)} {len : Nat} {x : Int32} {off : Int} (tgt : Nat) (hd : decode Y.2.1 pc = .ok (.lookupswitch dflt ps, len)) (hp : (ps.toList.zip (ps.toList.drop 1)).all (fun (a, next) => a.1 < next.1) = true) (ho : Op.lookupswitch.offset ps.toList dflt x.toInt = off) (ht : (pc : Int) + off = (tgt : Int)) (kk : KO X Y cw kc ks Q tgt L st σ o) : KO X Y cw kc ks Q pc L (.int x :: st) σ o :=
  kk.lift fun g _ _ _ _ _ _ _ k => lv_lookup g.1 g.2.1 hd hp ho ht k
theorem k_tableOut {dflt lo hi : Int} {offs : Array Int} {len : Nat} {x : Int32} (tgt : Nat) (hd : decode Y.2.1 pc = .ok (.tableswitch dflt lo hi offs, len)) (h : x.toInt < lo ∨ hi < x.toInt) (ht : (pc : Int) + dflt = (tgt : Int)) (kk : KO X Y cw kc ks Q tgt L st σ o) : KO X Y cw kc ks Q pc L (.int x :: st) σ o :=
  kk.lift fun g _ _ _ _ _ _ _ k => lv_tableOut g.1 g.2.1 hd h ht k
theorem k_tableIn {dflt lo hi : Int} {offs : Array Int} {len : Nat} {x v : Int32} {off : Int} (tgt : Nat) (hd : decode Y.2.1 pc = .ok (.tableswitch dflt lo hi offs, len)) (hx : x = v) (h1 : lo ≤ v.toInt) (h2 : v.toInt ≤ hi) (ho : offs[(v.toInt - lo).toNat]? = some off) (ht : (pc : Int) + off = (tgt : Int)) (kk : KO X Y cw kc ks Q tgt L st σ o) : KO X Y cw kc ks Q pc L (.int x :: st) σ o := by
  subst hx
  exact kk.lift fun g _ _ _ _ _ _ _ k => lv_tableIn g.1 g.2.1 hd (by omega) (by omega) ho ht k
theorem k_set (i : Nat) {v : Value} {pc' : Nat} {k : Rt → S → State → Prop} (hi : i < Y.2.2.1) (hc : v.category = 1) (hst : k_G X Y cw → ∀ (H : Heap) (locs : List Loc) (ls : Array Slot) (Q' : State → Prop), k_L ls Y.2.2.1 L → (∀ ls' : Array Slot, k_L ls' Y.2.2.1 (L.set i (some v)) → k_W X H locs kc ks Q' (F0 (k_m X) pc' ls' st')) → k_W X H locs kc ks Q' (F0 (k_m X) pc ls st)) (kk : KO X Y cw kc ks Q pc' (L.set i (some v)) st' σ o) : KO X Y cw kc ks Q pc L st σ o :=
  fun g r σ' ho H locs ls hP hS hL => hst g H locs ls _ hL (fun ls' hL' => kk g r σ' ho H locs ls' hP hS hL')
theorem k_istG (i : Nat) {x : Int32} (hd : (∃ k : Fin 4, decode Y.2.1 pc = .ok (.istore_n k, 1) ∧ (k : Nat) = i ∧ pc' = pc + 1) ∨ (decode Y.2.1 pc = .ok (.istore i, 2) ∧ pc' = pc + 2)) (hi : i < Y.2.2.1) (kk : KO X Y cw kc ks Q pc' (L.set i (some (.int x))) st σ o) : KO X Y cw kc ks Q pc L (.int x :: st) σ o := by
  intro g r σ' ho H locs ls hP hS hL
  let l : List (Nat × Value) := (List.range L.length).filterMap (fun j => (L[j]?.join).map (fun v => (j, v)))
  have hm : ∀ q : Nat × Value, q ∈ l ↔ L[q.1]? = some (some q.2) := k_pairs L
  have hl : lv_has ls Y.2.2.1 l := ⟨hL.1, hL.2.1, fun q hq => (hL.2.2 _ _ ((hm q).mp hq)).1⟩
  have fin : ∀ ls' : Array Slot, lv_has ls' Y.2.2.1 ((i, Value.int x) :: l.filter (fun q => !(q.1 == i) && !(q.1 + 1 == i && q.2.category == 2))) → k_W X H locs kc ks (Q r σ') (F0 (k_m X) pc' ls' st) := fun ls' h2 => kk g r σ' ho H locs ls' hP hS (k_L.of_has hL h2 rfl)
  rcases hd with ⟨k, hd, hk, rfl⟩ | ⟨hd, rfl⟩
  · exact lv_istore_n g.1 g.2.1 hd hk hl hi rfl fin
  · exact lv_istore g.1 g.2.1 hd hl hi rfl fin
theorem k_astG (i : Nat) {x : Nat} (hd : ∃ k : Fin 4, decode Y.2.1 pc = .ok (.astore_n k, 1) ∧ (k : Nat) = i) (hi : i < Y.2.2.1) (kk : KO X Y cw kc ks Q (pc + 1) (L.set i (some (.ref x))) st σ o) : KO X Y cw kc ks Q pc L (.ref x :: st) σ o := by
  intro g r σ' ho H locs ls hP hS hL
  let l : List (Nat × Value) := (List.range L.length).filterMap (fun j => (L[j]?.join).map (fun v => (j, v)))
  have hm : ∀ q : Nat × Value, q ∈ l ↔ L[q.1]? = some (some q.2) := k_pairs L
  have hl : lv_has ls Y.2.2.1 l := ⟨hL.1, hL.2.1, fun q hq => (hL.2.2 _ _ ((hm q).mp hq)).1⟩
  have fin : ∀ ls' : Array Slot, lv_has ls' Y.2.2.1 ((i, Value.ref x) :: l.filter (fun q => !(q.1 == i) && !(q.1 + 1 == i && q.2.category == 2))) → k_W X H locs kc ks (Q r σ') (F0 (k_m X) (pc + 1) ls' st) := fun ls' h2 => kk g r σ' ho H locs ls' hP hS (k_L.of_has hL h2 rfl)
  obtain ⟨k, hd, hk⟩ := hd
  exact lv_astore_n g.1 g.2.1 hd hk hl hi rfl fin
theorem k_iincG (i : Nat) {n : Int} {x v : Int32} (hd : decode Y.2.1 pc = .ok (.iinc i n, 3)) (hx : L[i]? = some (some (.int x))) (hv : x + Int32.ofInt n = v) (hi : i < Y.2.2.1) (kk : KO X Y cw kc ks Q (pc + 3) (L.set i (some (.int v))) st σ o) : KO X Y cw kc ks Q pc L st σ o := by
  intro g r σ' ho H locs ls hP hS hL
  let l : List (Nat × Value) := (List.range L.length).filterMap (fun j => (L[j]?.join).map (fun v => (j, v)))
  have hm : ∀ q : Nat × Value, q ∈ l ↔ L[q.1]? = some (some q.2) := k_pairs L
  have hl : lv_has ls Y.2.2.1 l := ⟨hL.1, hL.2.1, fun q hq => (hL.2.2 _ _ ((hm q).mp hq)).1⟩
  obtain ⟨k, hk⟩ := List.getElem?_of_mem ((hm (i, .int x)).mpr hx)
  exact lv_iinc g.1 g.2.1 hd hl hk hv hi rfl fun ls' h2 => kk g r σ' ho H locs ls' hP hS (k_L.of_has hL h2 rfl)
theorem k_ist0 {a0 : Option Value} {x : Int32} {k : Int32 → Option (Rt × S)} (hd : decode Y.2.1 pc = .ok (.istore_n 0, 1)) (hi : 0 < Y.2.2.1) (kk : ∀ x' : Int32, KO X Y cw kc ks Q (pc + 1) (some (.int x') :: L) st σ (k x')) : KO X Y cw kc ks Q pc (a0 :: L) (.int x :: st) σ (k_bn x k) := k_istG 0 (.inl ⟨0, hd, rfl, rfl⟩) hi (kk x)
theorem k_iinc0 {a : Option Value} {n : Int} {x w : Int32} {k : Int32 → Option (Rt × S)} (hd : decode Y.2.1 pc = .ok (.iinc 0 n, 3)) (ha : a = some (.int x)) (hw : Int32.ofInt n = w) (hi : 0 < Y.2.2.1) (kk : ∀ x' : Int32, KO X Y cw kc ks Q (pc + 3) (some (.int x') :: L) st σ (k x')) : KO X Y cw kc ks Q pc (a :: L) st σ (k_bn (x + w) k) := by
  subst ha hw
  exact k_iincG 0 hd rfl rfl hi (kk _)
theorem k_fg0 {a0 : Option Value} (kk : KO X Y cw kc ks Q pc (none :: L) st σ o) : KO X Y cw kc ks Q pc (a0 :: L) st σ o := KO.fg 0 kk
theorem k_ist1 {a0 a1 : Option Value} {x : Int32} {k : Int32 → Option (Rt × S)} (hd : decode Y.2.1 pc = .ok (.istore_n 1, 1)) (hi : 1 < Y.2.2.1) (kk : ∀ x' : Int32, KO X Y cw kc ks Q (pc + 1) (a0 :: some (.int x') :: L) st σ (k x')) : KO X Y cw kc ks Q pc (a0 :: a1 :: L) (.int x :: st) σ (k_bn x k) := k_istG 1 (.inl ⟨1, hd, rfl, rfl⟩) hi (kk x)
theorem k_iinc1 {a0 a : Option Value} {n : Int} {x w : Int32} {k : Int32 → Option (Rt × S)} (hd : decode Y.2.1 pc = .ok (.iinc 1 n, 3)) (ha : a = some (.int x)) (hw : Int32.ofInt n = w) (hi : 1 < Y.2.2.1) (kk : ∀ x' : Int32, KO X Y cw kc ks Q (pc + 3) (a0 :: some (.int x') :: L) st σ (k x')) : KO X Y cw kc ks Q pc (a0 :: a :: L) st σ (k_bn (x + w) k) := by
  subst ha hw
  exact k_iincG 1 hd rfl rfl hi (kk _)
theorem k_fg1 {a0 a1 : Option Value} (kk : KO X Y cw kc ks Q pc (a0 :: none :: L) st σ o) : KO X Y cw kc ks Q pc (a0 :: a1 :: L) st σ o := KO.fg 1 kk
theorem k_ist2 {a0 a1 a2 : Option Value} {x : Int32} {k : Int32 → Option (Rt × S)} (hd : decode Y.2.1 pc = .ok (.istore_n 2, 1)) (hi : 2 < Y.2.2.1) (kk : ∀ x' : Int32, KO X Y cw kc ks Q (pc + 1) (a0 :: a1 :: some (.int x') :: L) st σ (k x')) : KO X Y cw kc ks Q pc (a0 :: a1 :: a2 :: L) (.int x :: st) σ (k_bn x k) := k_istG 2 (.inl ⟨2, hd, rfl, rfl⟩) hi (kk x)
theorem k_iinc2 {a0 a1 a : Option Value} {n : Int} {x w : Int32} {k : Int32 → Option (Rt × S)} (hd : decode Y.2.1 pc = .ok (.iinc 2 n, 3)) (ha : a = some (.int x)) (hw : Int32.ofInt n = w) (hi : 2 < Y.2.2.1) (kk : ∀ x' : Int32, KO X Y cw kc ks Q (pc + 3) (a0 :: a1 :: some (.int x') :: L) st σ (k x')) : KO X Y cw kc ks Q pc (a0 :: a1 :: a :: L) st σ (k_bn (x + w) k) := by
  subst ha hw
  exact k_iincG 2 hd rfl rfl hi (kk _)
theorem k_fg2 {a0 a1 a2 : Option Value} (kk : KO X Y cw kc ks Q pc (a0 :: a1 :: none :: L) st σ o) : KO X Y cw kc ks Q pc (a0 :: a1 :: a2 :: L) st σ o := KO.fg 2 kk
theorem k_ist3 {a0 a1 a2 a3 : Option Value} {x : Int32} {k : Int32 → Option (Rt × S)} (hd : decode Y.2.1 pc = .ok (.istore_n 3, 1)) (hi : 3 < Y.2.2.1) (kk : ∀ x' : Int32, KO X Y cw kc ks Q (pc + 1) (a0 :: a1 :: a2 :: some (.int x') :: L) st σ (k x')) : KO X Y cw kc ks Q pc (a0 :: a1 :: a2 :: a3 :: L) (.int x :: st) σ (k_bn x k) := k_istG 3 (.inl ⟨3, hd, rfl, rfl⟩) hi (kk x)
theorem k_iinc3 {a0 a1 a2 a : Option Value} {n : Int} {x w : Int32} {k : Int32 → Option (Rt × S)} (hd : decode Y.2.1 pc = .ok (.iinc 3 n, 3)) (ha : a = some (.int x)) (hw : Int32.ofInt n = w) (hi : 3 < Y.2.2.1) (kk : ∀ x' : Int32, KO X Y cw kc ks Q (pc + 3) (a0 :: a1 :: a2 :: some (.int x') :: L) st σ (k x')) : KO X Y cw kc ks Q pc (a0 :: a1 :: a2 :: a :: L) st σ (k_bn (x + w) k) := by
  subst ha hw
  exact k_iincG 3 hd rfl rfl hi (kk _)
theorem k_fg3 {a0 a1 a2 a3 : Option Value} (kk : KO X Y cw kc ks Q pc (a0 :: a1 :: a2 :: none :: L) st σ o) : KO X Y cw kc ks Q pc (a0 :: a1 :: a2 :: a3 :: L) st σ o := KO.fg 3 kk
theorem k_ist4 {a0 a1 a2 a3 a4 : Option Value} {x : Int32} {k : Int32 → Option (Rt × S)} (hd : decode Y.2.1 pc = .ok (.istore 4, 2)) (hi : 4 < Y.2.2.1) (kk : ∀ x' : Int32, KO X Y cw kc ks Q (pc + 2) (a0 :: a1 :: a2 :: a3 :: some (.int x') :: L) st σ (k x')) : KO X Y cw kc ks Q pc (a0 :: a1 :: a2 :: a3 :: a4 :: L) (.int x :: st) σ (k_bn x k) := k_istG 4 (.inr ⟨hd, rfl⟩) hi (kk x)
theorem k_iinc4 {a0 a1 a2 a3 a : Option Value} {n : Int} {x w : Int32} {k : Int32 → Option (Rt × S)} (hd : decode Y.2.1 pc = .ok (.iinc 4 n, 3)) (ha : a = some (.int x)) (hw : Int32.ofInt n = w) (hi : 4 < Y.2.2.1) (kk : ∀ x' : Int32, KO X Y cw kc ks Q (pc + 3) (a0 :: a1 :: a2 :: a3 :: some (.int x') :: L) st σ (k x')) : KO X Y cw kc ks Q pc (a0 :: a1 :: a2 :: a3 :: a :: L) st σ (k_bn (x + w) k) := by
  subst ha hw
  exact k_iincG 4 hd rfl rfl hi (kk _)
theorem k_fg4 {a0 a1 a2 a3 a4 : Option Value} (kk : KO X Y cw kc ks Q pc (a0 :: a1 :: a2 :: a3 :: none :: L) st σ o) : KO X Y cw kc ks Q pc (a0 :: a1 :: a2 :: a3 :: a4 :: L) st σ o := KO.fg 4 kk
theorem k_ist5 {a0 a1 a2 a3 a4 a5 : Option Value} {x : Int32} {k : Int32 → Option (Rt × S)} (hd : decode Y.2.1 pc = .ok (.istore 5, 2)) (hi : 5 < Y.2.2.1) (kk : ∀ x' : Int32, KO X Y cw kc ks Q (pc + 2) (a0 :: a1 :: a2 :: a3 :: a4 :: some (.int x') :: L) st σ (k x')) : KO X Y cw kc ks Q pc (a0 :: a1 :: a2 :: a3 :: a4 :: a5 :: L) (.int x :: st) σ (k_bn x k) := k_istG 5 (.inr ⟨hd, rfl⟩) hi (kk x)
theorem k_iinc5 {a0 a1 a2 a3 a4 a : Option Value} {n : Int} {x w : Int32} {k : Int32 → Option (Rt × S)} (hd : decode Y.2.1 pc = .ok (.iinc 5 n, 3)) (ha : a = some (.int x)) (hw : Int32.ofInt n = w) (hi : 5 < Y.2.2.1) (kk : ∀ x' : Int32, KO X Y cw kc ks Q (pc + 3) (a0 :: a1 :: a2 :: a3 :: a4 :: some (.int x') :: L) st σ (k x')) : KO X Y cw kc ks Q pc (a0 :: a1 :: a2 :: a3 :: a4 :: a :: L) st σ (k_bn (x + w) k) := by
  subst ha hw
  exact k_iincG 5 hd rfl rfl hi (kk _)
theorem k_fg5 {a0 a1 a2 a3 a4 a5 : Option Value} (kk : KO X Y cw kc ks Q pc (a0 :: a1 :: a2 :: a3 :: a4 :: none :: L) st σ o) : KO X Y cw kc ks Q pc (a0 :: a1 :: a2 :: a3 :: a4 :: a5 :: L) st σ o := KO.fg 5 kk
theorem k_ist6 {a0 a1 a2 a3 a4 a5 a6 : Option Value} {x : Int32} {k : Int32 → Option (Rt × S)} (hd : decode Y.2.1 pc = .ok (.istore 6, 2)) (hi : 6 < Y.2.2.1) (kk : ∀ x' : Int32, KO X Y cw kc ks Q (pc + 2) (a0 :: a1 :: a2 :: a3 :: a4 :: a5 :: some (.int x') :: L) st σ (k x')) : KO X Y cw kc ks Q pc (a0 :: a1 :: a2 :: a3 :: a4 :: a5 :: a6 :: L) (.int x :: st) σ (k_bn x k) := k_istG 6 (.inr ⟨hd, rfl⟩) hi (kk x)
theorem k_iinc6 {a0 a1 a2 a3 a4 a5 a : Option Value} {n : Int} {x w : Int32} {k : Int32 → Option (Rt × S)} (hd : decode Y.2.1 pc = .ok (.iinc 6 n, 3)) (ha : a = some (.int x)) (hw : Int32.ofInt n = w) (hi : 6 < Y.2.2.1) (kk : ∀ x' : Int32, KO X Y cw kc ks Q (pc + 3) (a0 :: a1 :: a2 :: a3 :: a4 :: a5 :: some (.int x') :: L) st σ (k x')) : KO X Y cw kc ks Q pc (a0 :: a1 :: a2 :: a3 :: a4 :: a5 :: a :: L) st σ (k_bn (x + w) k) := by
  subst ha hw
  exact k_iincG 6 hd rfl rfl hi (kk _)
theorem k_fg6 {a0 a1 a2 a3 a4 a5 a6 : Option Value} (kk : KO X Y cw kc ks Q pc (a0 :: a1 :: a2 :: a3 :: a4 :: a5 :: none :: L) st σ o) : KO X Y cw kc ks Q pc (a0 :: a1 :: a2 :: a3 :: a4 :: a5 :: a6 :: L) st σ o := KO.fg 6 kk
theorem k_ist7 {a0 a1 a2 a3 a4 a5 a6 a7 : Option Value} {x : Int32} {k : Int32 → Option (Rt × S)} (hd : decode Y.2.1 pc = .ok (.istore 7, 2)) (hi : 7 < Y.2.2.1) (kk : ∀ x' : Int32, KO X Y cw kc ks Q (pc + 2) (a0 :: a1 :: a2 :: a3 :: a4 :: a5 :: a6 :: some (.int x') :: L) st σ (k x')) : KO X Y cw kc ks Q pc (a0 :: a1 :: a2 :: a3 :: a4 :: a5 :: a6 :: a7 :: L) (.int x :: st) σ (k_bn x k) := k_istG 7 (.inr ⟨hd, rfl⟩) hi (kk x)
theorem k_iinc7 {a0 a1 a2 a3 a4 a5 a6 a : Option Value} {n : Int} {x w : Int32} {k : Int32 → Option (Rt × S)} (hd : decode Y.2.1 pc = .ok (.iinc 7 n, 3)) (ha : a = some (.int x)) (hw : Int32.ofInt n = w) (hi : 7 < Y.2.2.1) (kk : ∀ x' : Int32, KO X Y cw kc ks Q (pc + 3) (a0 :: a1 :: a2 :: a3 :: a4 :: a5 :: a6 :: some (.int x') :: L) st σ (k x')) : KO X Y cw kc ks Q pc (a0 :: a1 :: a2 :: a3 :: a4 :: a5 :: a6 :: a :: L) st σ (k_bn (x + w) k) := by
  subst ha hw
  exact k_iincG 7 hd rfl rfl hi (kk _)
theorem k_fg7 {a0 a1 a2 a3 a4 a5 a6 a7 : Option Value} (kk : KO X Y cw kc ks Q pc (a0 :: a1 :: a2 :: a3 :: a4 :: a5 :: a6 :: none :: L) st σ o) : KO X Y cw kc ks Q pc (a0 :: a1 :: a2 :: a3 :: a4 :: a5 :: a6 :: a7 :: L) st σ o := KO.fg 7 kk
theorem k_ist8 {a0 a1 a2 a3 a4 a5 a6 a7 a8 : Option Value} {x : Int32} {k : Int32 → Option (Rt × S)} (hd : decode Y.2.1 pc = .ok (.istore 8, 2)) (hi : 8 < Y.2.2.1) (kk : ∀ x' : Int32, KO X Y cw kc ks Q (pc + 2) (a0 :: a1 :: a2 :: a3 :: a4 :: a5 :: a6 :: a7 :: some (.int x') :: L) st σ (k x')) : KO X Y cw kc ks Q pc (a0 :: a1 :: a2 :: a3 :: a4 :: a5 :: a6 :: a7 :: a8 :: L) (.int x :: st) σ (k_bn x k) := k_istG 8 (.inr ⟨hd, rfl⟩) hi (kk x)
theorem k_iinc8 {a0 a1 a2 a3 a4 a5 a6 a7 a : Option Value} {n : Int} {x w : Int32} {k : Int32 → Option (Rt × S)} (hd : decode Y.2.1 pc = .ok (.iinc 8 n, 3)) (ha : a = some (.int x)) (hw : Int32.ofInt n = w) (hi : 8 < Y.2.2.1) (kk : ∀ x' : Int32, KO X Y cw kc ks Q (pc + 3) (a0 :: a1 :: a2 :: a3 :: a4 :: a5 :: a6 :: a7 :: some (.int x') :: L) st σ (k x')) : KO X Y cw kc ks Q pc (a0 :: a1 :: a2 :: a3 :: a4 :: a5 :: a6 :: a7 :: a :: L) st σ (k_bn (x + w) k) := by
  subst ha hw
  exact k_iincG 8 hd rfl rfl hi (kk _)
theorem k_fg8 {a0 a1 a2 a3 a4 a5 a6 a7 a8 : Option Value} (kk : KO X Y cw kc ks Q pc (a0 :: a1 :: a2 :: a3 :: a4 :: a5 :: a6 :: a7 :: none :: L) st σ o) : KO X Y cw kc ks Q pc (a0 :: a1 :: a2 :: a3 :: a4 :: a5 :: a6 :: a7 :: a8 :: L) st σ o := KO.fg 8 kk
theorem k_ist9 {a0 a1 a2 a3 a4 a5 a6 a7 a8 a9 : Option Value} {x : Int32} {k : Int32 → Option (Rt × S)} (hd : decode Y.2.1 pc = .ok (.istore 9, 2)) (hi : 9 < Y.2.2.1) (kk : ∀ x' : Int32, KO X Y cw kc ks Q (pc + 2) (a0 :: a1 :: a2 :: a3 :: a4 :: a5 :: a6 :: a7 :: a8 :: some (.int x') :: L) st σ (k x')) : KO X Y cw kc ks Q pc (a0 :: a1 :: a2 :: a3 :: a4 :: a5 :: a6 :: a7 :: a8 :: a9 :: L) (.int x :: st) σ (k_bn x k) := k_istG 9 (.inr ⟨hd, rfl⟩) hi (kk x)
theorem k_iinc9 {a0 a1 a2 a3 a4 a5 a6 a7 a8 a : Option Value} {n : Int} {x w : Int32} {k : Int32 → Option (Rt × S)} (hd : decode Y.2.1 pc = .ok (.iinc 9 n, 3)) (ha : a = some (.int x)) (hw : Int32.ofInt n = w) (hi : 9 < Y.2.2.1) (kk : ∀ x' : Int32, KO X Y cw kc ks Q (pc + 3) (a0 :: a1 :: a2 :: a3 :: a4 :: a5 :: a6 :: a7 :: a8 :: some (.int x') :: L) st σ (k x')) : KO X Y cw kc ks Q pc (a0 :: a1 :: a2 :: a3 :: a4 :: a5 :: a6 :: a7 :: a8 :: a :: L) st σ (k_bn (x + w) k) := by
  subst ha hw
  exact k_iincG 9 hd rfl rfl hi (kk _)
theorem k_fg9 {a0 a1 a2 a3 a4 a5 a6 a7 a8 a9 : Option Value} (kk : KO X Y cw kc ks Q pc (a0 :: a1 :: a2 :: a3 :: a4 :: a5 :: a6 :: a7 :: a8 :: none :: L) st σ o) : KO X Y cw kc ks Q pc (a0 :: a1 :: a2 :: a3 :: a4 :: a5 :: a6 :: a7 :: a8 :: a9 :: L) st σ o := KO.fg 9 kk
theorem k_ist10 {a0 a1 a2 a3 a4 a5 a6 a7 a8 a9 a10 : Option Value} {x : Int32} {k : Int32 → Option (Rt × S)} (hd : decode Y.2.1 pc = .ok (.istore 10, 2)) (hi : 10 < Y.2.2.1) (kk : ∀ x' : Int32, KO X Y cw kc ks Q (pc + 2) (a0 :: a1 :: a2 :: a3 :: a4 :: a5 :: a6 :: a7 :: a8 :: a9 :: some (.int x') :: L) st σ (k x')) : KO X Y cw kc ks Q pc (a0 :: a1 :: a2 :: a3 :: a4 :: a5 :: a6 :: a7 :: a8 :: a9 :: a10 :: L) (.int x :: st) σ (k_bn x k) := k_istG 10 (.inr ⟨hd, rfl⟩) hi (kk x)
theorem k_iinc10 {a0 a1 a2 a3 a4 a5 a6 a7 a8 a9 a : Option Value} {n : Int} {x w : Int32} {k : Int32 → Option (Rt × S)} (hd : decode Y.2.1 pc = .ok (.iinc 10 n, 3)) (ha : a = some (.int x)) (hw : Int32.ofInt n = w) (hi : 10 < Y.2.2.1) (kk : ∀ x' : Int32, KO X Y cw kc ks Q (pc + 3) (a0 :: a1 :: a2 :: a3 :: a4 :: a5 :: a6 :: a7 :: a8 :: a9 :: some (.int x') :: L) st σ (k x')) : KO X Y cw kc ks Q pc (a0 :: a1 :: a2 :: a3 :: a4 :: a5 :: a6 :: a7 :: a8 :: a9 :: a :: L) st σ (k_bn (x + w) k) := by
  subst ha hw
  exact k_iincG 10 hd rfl rfl hi (kk _)
theorem k_fg10 {a0 a1 a2 a3 a4 a5 a6 a7 a8 a9 a10 : Option Value} (kk : KO X Y cw kc ks Q pc (a0 :: a1 :: a2 :: a3 :: a4 :: a5 :: a6 :: a7 :: a8 :: a9 :: none :: L) st σ o) : KO X Y cw kc ks Q pc (a0 :: a1 :: a2 :: a3 :: a4 :: a5 :: a6 :: a7 :: a8 :: a9 :: a10 :: L) st σ o := KO.fg 10 kk
-- fields: the object's cell stands at place k of the world, in class ci of 'vwCl'
theorem k_get {own ref C : String} {T : u_T} {N index ci : Nat} {a : Nat} {fs : List Value} (k : Nat) (hcell : (cw σ)[k]? = some (a, .inr (ci, fs))) (hcl : vwCl[ci]? = some (C, T, N)) (hin : ∀ w ∈ u_ws C T N, w ∈ k_ws) (j : Nat) (hj : j < N) {v : Value} (hv : fs[j]? = some v) (hown : own = Y.2.2.2.1) (hw : Cond.fieldLink own index ref (T j).2.1 (T j).2.2.1 ∈ k_ws) (href : (T j).1 = ref) (hd : decode Y.2.1 pc = .ok (.getfield index, 3)) (kk : KO X Y cw kc ks Q (pc + 3) L (v :: st) σ o) : KO X Y cw kc ks Q pc L (.ref a :: st) σ o := by
  subst hown
  exact kk.lift fun g _ _ _ _ hP _ _ kq => va_get (D := k_D X) g.1 g.2.1 g.2.2.2.2.1 hin g.2.2.2.1 g.2.2.2.2.2.1 hP k hcell hcl j hj (g.2.2.2.2.1 _ hw) (fun _ h9 => by rw [← href]; exact h9) hv hd kq
theorem k_put {own ref C : String} {T : u_T} {N index ci : Nat} {a : Nat} {fs : List Value} (k : Nat) (hcell : (cw σ)[k]? = some (a, .inr (ci, fs))) (hcl : vwCl[ci]? = some (C, T, N)) (hin : ∀ w ∈ u_ws C T N, w ∈ k_ws) {ty : Nat → FieldType} (hty : ∀ k, k < N → parseFieldDescriptor (T k).2.2.1 = some (ty k)) (hnm : ∀ a, a < N → ∀ b, b < N → a ≠ b → (T a).2.1 ≠ (T b).2.1) (j : Nat) (hj : j < N) (hfin : (T j).2.2.2 = false) (hti : ty j = .int) (hlen : fs.length = N) {x : Int32} {σ1 : S} (hset : (cw σ).set k (a, .inr (ci, fs.set j (.int x))) = cw σ1) (hown : own = Y.2.2.2.1) (hw : Cond.fieldLink own index ref (T j).2.1 (T j).2.2.1 ∈ k_ws) (href : (T j).1 = ref) (hd : decode Y.2.1 pc = .ok (.putfield index, 3)) {kf : S → Option (Rt × S)} (kk : ∀ σ' : S, KO X Y cw kc ks Q (pc + 3) L st σ' (kf σ')) : KO X Y cw kc ks Q pc L (.int x :: .ref a :: st) σ (k_bn σ1 kf) := by
  subst hown
  intro g r σ' ho H locs ls hP hS hL
  have hpd : parseFieldDescriptor (T j).2.2.1 = some .int := by rw [hty j hj, hti]
  exact va_put (D := k_D X) g.1 g.2.1 g.2.2.2.2.1 hin ty hty hnm g.2.2.2.1 g.2.2.2.2.2.1 hP (g.2.2.2.2.2.2.2.1 σ) hS k hcell hcl j hj (g.2.2.2.2.1 _ hw) (fun _ h9 => by rw [← href]; exact h9) hfin hpd rfl rfl (by rw [hlen]; exact hj) hd (fun H1 locs1 hP1 _ hS1 => kk σ1 g r σ' ho H1 locs1 ls (by rw [← hset]; exact hP1) hS1 hL)
-- arrays of ints: the array's cell stands at place k of the world
theorem k_iald {a n : Nat} {f : Nat → Int32} (k : Nat) (hcell : (cw σ)[k]? = some (a, .inl (k_I X, n, .inl f))) {i : Int32} (hd : decode Y.2.1 pc = .ok (.iaload, 1)) (kk : KO X Y cw kc ks Q (pc + 1) L (.int (f i.toNatClampNeg) :: st) σ o) : KO X Y cw kc ks Q pc L (.int i :: .ref a :: st) σ (k_gd i n o) := by
  intro g r σ' ho H locs ls hP hS hL
  by_cases hi : i < 0 ∨ n ≤ i.toNatClampNeg
  · rw [k_gd, if_pos hi] at ho; cases ho
  · rw [k_gd, if_neg hi] at ho
    exact va_iald (D := k_D X) g.1 g.2.1 g.2.2.2.2.2.1 hP k 0 hcell rfl hi hd (kk g r σ' ho H locs ls hP hS hL)
theorem k_iast {a n : Nat} {f : Nat → Int32} (k : Nat) (hcell : (cw σ)[k]? = some (a, .inl (k_I X, n, .inl f))) {i x : Int32} {σ1 : S} (hset : (cw σ).set k (a, .inl (k_I X, n, .inl (upd f i.toNatClampNeg x))) = cw σ1) (hd : decode Y.2.1 pc = .ok (.iastore, 1)) {kf : S → Option (Rt × S)} (kk : ∀ σ' : S, KO X Y cw kc ks Q (pc + 1) L st σ' (kf σ')) : KO X Y cw kc ks Q pc L (.int x :: .int i :: .ref a :: st) σ (k_gd i n (k_bn σ1 kf)) := by
  intro g r σ' ho H locs ls hP hS hL
  by_cases hi : i < 0 ∨ n ≤ i.toNatClampNeg
  · rw [k_gd, if_pos hi] at ho; cases ho
  · rw [k_gd, if_neg hi] at ho
    exact va_iast (D := k_D X) g.1 g.2.1 g.2.2.2.2.2.1 hP (g.2.2.2.2.2.2.2.1 σ) hS k 0 hcell rfl hi hd (fun H1 locs1 hP1 _ hS1 => kk σ1 g r σ' ho H1 locs1 ls (by rw [← hset]; exact hP1) hS1 hL)
theorem k_alen {a n : Nat} {f : Nat → Int32} (k : Nat) (hcell : (cw σ)[k]? = some (a, .inl (k_I X, n, .inl f))) {v : Int32} (hv : Int32.ofNat n = v) (hd : decode Y.2.1 pc = .ok (.arraylength, 1)) (kk : KO X Y cw kc ks Q (pc + 1) L (.int v :: st) σ o) : KO X Y cw kc ks Q pc L (.ref a :: st) σ o :=
  kk.lift fun g _ _ _ _ hP _ _ kq => va_alen (D := k_D X) g.1 g.2.1 g.2.2.2.2.2.1 hP k 0 hcell rfl hv hd kq
theorem k_copy {a0 a1 n0 n1 index : Nat} {f0 f1 : Nat → Int32} (k0 k1 : Nat) (h0 : (cw σ)[k0]? = some (a0, .inl (k_I X, n0, .inl f0))) (h1 : (cw σ)[k1]? = some (a1, .inl (k_I X, n1, .inl f1))) {sp dp n : Int32} {σ1 : S} (hset : (cw σ).set k1 (a1, .inl (k_I X, n1, .inl (va_cpy f0 f1 sp.toNatClampNeg dp.toNatClampNeg n.toNatClampNeg))) = cw σ1) (hw : Cond.methodLink Y.2.2.2.1 index arraycopyName ∈ k_ws) (hR : 1 ≤ Y.1.frames ∧ (st.map fun v => v.category).sum + (nativeFrameWords "java/lang/System" "arraycopy" 5 + 11) ≤ Y.1.locals) (hd : decode Y.2.1 pc = .ok (.invokestatic index, 3)) {kf : S → Option (Rt × S)} (kk : ∀ σ' : S, KO X Y cw kc ks Q (pc + 3) L st σ' (kf σ')) : KO X Y cw kc ks Q pc L (.int n :: .int dp :: .ref a1 :: .int sp :: .ref a0 :: st) σ (k_gc sp dp n n0 n1 (k_bn σ1 kf)) := by
  intro g r σ' ho H locs ls hP hS hL
  by_cases hi : sp < 0 ∨ dp < 0 ∨ n < 0 ∨ n0 < sp.toNatClampNeg + n.toNatClampNeg ∨ n1 < dp.toNatClampNeg + n.toNatClampNeg
  · rw [k_gc, if_pos hi] at ho; cases ho
  · rw [k_gc, if_neg hi] at ho
    have hr : k_R X = Y.1 := g.2.2.2.2.2.2.2.2.1
    exact va_copyi (D := k_D X) g.1 g.2.1 (by rw [g.2.2.1, hL.1]) g.2.2.2.1 (g.2.2.2.2.1 _ hw) (g.2.2.2.2.1 _ kwt_arraycopy) (g.2.2.2.2.1 _ kws_arraycopy) (g.2.2.2.2.1 _ kwn_J10) g.2.2.2.2.2.1 hP (g.2.2.2.2.2.2.2.1 σ) hS k0 k1 0 0 h0 h1 rfl rfl rfl (fun h => hi (.inl h)) (fun h => hi (.inr (.inl h))) (fun h => hi (.inr (.inr (.inl h)))) (Nat.le_of_not_lt fun h => hi (.inr (.inr (.inr (.inl h))))) (Nat.le_of_not_lt fun h => hi (.inr (.inr (.inr (.inr h))))) (fun _ _ => rfl) (by rw [hr]; exact hR.1) (by rw [hr]; exact hR.2) hd (fun H1 locs1 hP1 _ hS1 => kk σ1 g r σ' ho H1 locs1 ls (by rw [← hset]; exact hP1) hS1 hL)
theorem k_max {index : Nat} {x y : Int32} (hw : Cond.methodLink Y.2.2.2.1 index Lib.Math.max.name ∈ k_ws) (hR : 1 ≤ Y.1.frames ∧ (st.map fun v => v.category).sum + 13 ≤ Y.1.locals) (hk : kc ≤ Y.1.cells ∧ ks ≤ Y.1.slots) (hd : decode Y.2.1 pc = .ok (.invokestatic index, 3)) (kk : KO X Y cw kc ks Q (pc + 3) L (.int (k_mx x y) :: st) σ o) : KO X Y cw kc ks Q pc L (.int y :: .int x :: st) σ o :=
  kk.lift fun g _ _ _ _ _ _ hL kq => by
    have hr : k_R X = Y.1 := g.2.2.2.2.2.2.2.2.1
    exact va_mmax g.1 g.2.1 (by rw [g.2.2.1, hL.1]) g.2.2.2.1 (g.2.2.2.2.1 _ hw) (g.2.2.2.2.1 _ kws_max) (g.2.2.2.2.1 _ kwn_J9) (g.2.2.2.2.1 _ kwk_max) (by rw [hr]; exact hR.1) (by rw [hr]; exact hR.2) (by rw [hr]; exact hk.1) (by rw [hr]; exact hk.2) hd kq
-- ends
theorem k_ireturn {x : Int32} {σ : S} (hr : Y.2.2.2.2 = some .int) (hd : decode Y.2.1 pc = .ok (.ireturn, 1)) : KO X Y cw 0 0 (k_Q k_ei X cw) pc L [.int x] σ (some (x, σ)) := by
  intro g r σ' ho H locs ls hP hS hL
  cases ho
  exact W.iret g.1 g.2.1 (by rw [g.2.2.2.2.2.2.2.2.2.2, hr]) (fun t ht _ => ⟨⟨rfl, by rw [ht]; exact hP⟩, hS.F ht⟩) hS.2.2 hd g.2.2.2.2.2.2.2.2.2.1
theorem k_zreturn {x : Int32} {σ : S} (hr : Y.2.2.2.2 = some .boolean) (hd : decode Y.2.1 pc = .ok (.ireturn, 1)) : KO X Y cw 0 0 (k_Q k_ei X cw) pc L [.int x] σ (k_z x (some (x, σ))) := by
  intro g r σ' ho H locs ls hP hS hL
  have hz : (x = 0 ∨ x = 1) ∧ r = x ∧ σ' = σ := by
    unfold k_z at ho
    split at ho
    · next h => cases ho; exact ⟨.inl h, rfl, rfl⟩
    · split at ho
      · next h => cases ho; exact ⟨.inr h, rfl, rfl⟩
      · cases ho
  obtain ⟨hx, rfl, rfl⟩ := hz
  exact W.zret g.1 g.2.1 (by rw [g.2.2.2.2.2.2.2.2.2.2, hr]) (by rcases hx with rfl | rfl <;> rfl) (fun t ht _ => ⟨⟨rfl, by rw [ht]; exact hP⟩, hS.F ht⟩) hS.2.2 hd g.2.2.2.2.2.2.2.2.2.1
theorem k_lreturn {x : Int64} {σ : S} (hr : Y.2.2.2.2 = some .long) (hd : decode Y.2.1 pc = .ok (.lreturn, 1)) : KO X Y cw 0 0 (k_Q k_el X cw) pc L [.long x] σ (some (x, σ)) := by
  intro g r σ' ho H locs ls hP hS hL
  cases ho
  exact W.lret g.1 g.2.1 (by rw [g.2.2.2.2.2.2.2.2.2.2, hr]) (fun t ht _ => ⟨⟨rfl, by rw [ht]; exact hP⟩, hS.F ht⟩) hS.2.2 hd g.2.2.2.2.2.2.2.2.2.1
theorem k_return {σ : S} (hr : Y.2.2.2.2 = none) (hd : decode Y.2.1 pc = .ok (.return_, 1)) : KO X Y cw 0 0 (k_Q k_ev X cw) pc L [] σ (some ((), σ)) := by
  intro g r σ' ho H locs ls hP hS hL
  cases ho
  exact W.vret g.1 g.2.1 (by rw [g.2.2.2.2.2.2.2.2.2.2, hr]) (fun t ht _ => ⟨⟨rfl, by rw [ht]; exact hP⟩, hS.F ht⟩) hS.2.2 hd g.2.2.2.2.2.2.2.2.2.1
end KR2
end
section
/-! ===== k, third part: contracts, calls, a method's entry (by program: wip/gen/k3.py) ===== -/
/-- a contract: from arguments as and world σ the method answers r, and the world is σ' -/
def k_Ct {S Rt : Type} (emb : Rt → Option Value) (y : MethodName) (bytes : ByteArray) (maxL : Nat) (ret : Option FieldType) (rm : Room) (cw : S → va_W) (D : va_G) (cI : ClassId) (as : List Value) (σ : S) (r : Rt) (σ' : S) : Prop :=
  ∀ (l : Launch) (sz : Nat), Met l y (.code y bytes maxL ret :: k_ws) rm (va_Pc as (fun U => U.heap.size = sz ∧ va_P D vwCl (cw σ) U.heap ∧ va_K D vwCl [(cI, .int)] U ∧ ∀ τ, va_D (fun _ => True) (cw τ))) (fun _ st oc t => (oc = .returned (emb r) ∧ va_P D vwCl (cw σ') t.heap) ∧ va_F (va_A (cw σ) sz) st t) 0 0 (va_A (cw σ) sz)
theorem k_Asame {S : Type} {cw : S → va_W} (h : k_same cw) (σ τ : S) (sz : Nat) (q : Nat) (hq : va_A (cw σ) sz q) : va_A (cw τ) sz q := by
  rcases hq with ⟨k, e, hk⟩ | hq
  · obtain ⟨e', he⟩ := h σ τ k (q, e) hk
    exact Or.inl ⟨k, e', he⟩
  · exact Or.inr hq
theorem k_met {S Rt : Type} {emb : Rt → Option Value} {y : MethodName} {Y : k_Y} {cw : S → va_W} {D : va_G} {cI : ClassId} {as : List Value} {σ : S} {o : Option (Rt × S)} (hsame : k_same cw) (hcl : plainName y.cls = true) (hown : y.cls = Y.2.2.2.1) (hlen : as.length ≤ Y.2.2.1) (hcat : ∀ v ∈ as, v.category = 1)
    (h : ∀ X : k_C, k_D X = D → k_I X = cI → KO X Y cw 0 0 (k_Q emb X cw) 0 (as.map some ++ List.replicate (Y.2.2.1 - as.length) none) [] σ o) {r : Rt} {σ' : S} (ho : o = some (r, σ')) : k_Ct emb y Y.2.1 Y.2.2.1 Y.2.2.2.2 Y.1 cw D cI as σ r σ' := by
  intro l sz
  refine Met.ofW (cc := Y.2.1) (maxL := Y.2.2.1) (ret := Y.2.2.2.2) hcl rfl ?_
  intro p e s m args below meth c s₁ B hml hv
  obtain ⟨rfl, hsz, hP, hK, hD0⟩ := hv
  have hts0 := atoms_spec (ws := .code y Y.2.1 Y.2.2.1 Y.2.2.2.2 :: k_ws) B.pre
  have hfc : s.vm.findClass y.cls = some m.cls := findClass_of_methodNamed B.named
  rw [lg_entry_eq]
  let X : k_C := ((p, l, e, s, m, as.toArray), (below, meth, c, D, cI, va_A (cw σ) sz), Y.1)
  have hG : k_G X Y cw := by
    refine ⟨B.exec, B.bytes, hml, by rw [← hown]; exact hfc, fun w hw => hts0 w (List.mem_cons_of_mem _ hw), hK, fun q hq => Or.inr (by rw [← hsz]; exact hq), fun τ => ?_, rfl, B.notSynchronized, B.returns⟩
    exact (hD0 τ).weaken fun k q hk _ => k_Asame hsame τ σ sz q.1 (va_A.in hk)
  have hL := k_L.entry as hlen hcat
  exact h X rfl rfl hG r σ' ho s.heap [] _ hP va_S.rf hL
section KR3
variable {S Rt : Type} {X : k_C} {Y : k_Y} {cw : S → va_W} {kc ks : Nat} {Q : Rt → S → State → Prop} {pc pc' : Nat} {L L' : List (Option Value)} {st st' : List Value} {σ : S} {o o1 o2 : Option (Rt × S)}
/-- behind a call -/
theorem k_run {p : Program} {l : Launch} {e : Env} {R : Room} {s : State} {m : MethodId} {args : Array Value} {below : List Frame} {meth : Method} {c : Code} {H : Heap} {locs : List Loc} {cells slots : Nat} {Q : State → Prop} {pc : Nat} {ls : Array Slot} {rest st0 : List Value} {A0 A1 : Nat → Prop} {H0 : Heap} {free : Addr → Prop} {v : Option Value} {B : Heap → Prop}
    (hr : va_Run p l e R s m args below meth c H locs cells slots 0 0 (F0 m pc ls st0) rest (fun st oc t => (oc = .returned v ∧ B t.heap) ∧ va_F A1 st t) free) (hS : va_S A0 H0 H locs) (hA : ∀ q, q < H.size → A1 q → A0 q) (hf : ∀ q, free q → A0 q)
    (kk : ∀ (H1 : Heap) (locs1 : List Loc), B H1 → (∀ q : Nat, q < H.size → ¬ A1 q → H1[q]? = H[q]?) → va_S A0 H0 H1 locs1 → W p l e R s m args below meth c H1 locs1 cells slots Q (F0 m (pc + 3) ls (v.toList ++ rest))) : W p l e R s m args below meth c H locs cells slots Q (F0 m pc ls st0) := by
  intro T hT X
  obtain ⟨v', st₀, t, T', L, h0, X', hL, e1, e2, ⟨⟨hv, hb⟩, hz, hk⟩, st⟩ := hr T hT X
  cases hv
  rw [h0] at hz hk
  obtain ⟨t2, a1, b1⟩ := kk T'.heap (locs ++ L) (by rw [e1]; exact hb) (fun q h1 h2 => by rw [e1]; exact hk q h1 h2)
    ⟨Nat.le_trans hS.1 (by rw [e1]; exact hz), fun q h1 h2 => by rw [e1, hk q (Nat.lt_of_lt_of_le h1 hS.1) (fun z => h2 (hA q (Nat.lt_of_lt_of_le h1 hS.1) z))]; exact hS.2.1 q h1 h2, fun q hq => by
      rcases List.mem_append.mp hq with h | h
      · exact hS.2.2 q h
      · exact hf _ (hL q h)⟩ T' rfl X'
  exact ⟨t2, st t2 a1, b1⟩
/-- a callee's world inside the caller's: at every state the callee's cells are among the caller's; a new state of the callee makes one of the caller's -/
def k_In {S S0 : Type} (cw : S → va_W) (σ : S) (cw0 : S0 → va_W) (σ0 : S0) (put : S0 → S) : Prop :=
  k_same cw0 ∧ (∀ (k : Nat) (q : Nat × va_E), (cw0 σ0)[k]? = some q → ∃ j : Nat, (cw σ)[j]? = some q) ∧ (∀ A : Nat → Prop, (∀ τ, va_D A (cw τ)) → ∀ τ0, va_D A (cw0 τ0)) ∧
  ∀ (τ0 : S0) (k : Nat) (q : Nat × va_E), (cw (put τ0))[k]? = some q → (∃ j : Nat, (cw0 τ0)[j]? = some q) ∨ (∃ j : Nat, (cw σ)[j]? = some q) ∧ ∀ (A : Nat → Prop), va_D A (cw σ) → ∀ (i : Nat) (q0 : Nat × va_E), (cw0 σ0)[i]? = some q0 → q0.1 ≠ q.1
theorem k_In.id {cw : S → va_W} (h : k_same cw) (σ : S) : k_In cw σ cw σ id := ⟨h, fun k q hk => ⟨k, hk⟩, fun _ hD τ0 => hD τ0, fun _ k q hk => Or.inl ⟨k, hk⟩⟩
theorem k_In.P {S0 : Type} {cw : S → va_W} {σ : S} {cw0 : S0 → va_W} {σ0 : S0} {put : S0 → S} {D : va_G} {H : Heap} (h : k_In cw σ cw0 σ0 put) (hP : va_P D vwCl (cw σ) H) : va_P D vwCl (cw0 σ0) H := fun k q hk => by
  obtain ⟨j, hj⟩ := h.2.1 k q hk
  exact hP j q hj
theorem k_In.back {S0 : Type} {cw : S → va_W} {σ : S} {cw0 : S0 → va_W} {σ0 τ0 : S0} {put : S0 → S} {D : va_G} {H H1 : Heap} {A : Nat → Prop} (h : k_In cw σ cw0 σ0 put) (hD : va_D A (cw σ)) (hP : va_P D vwCl (cw σ) H) (hk : ∀ q : Nat, q < H.size → ¬ va_A (cw0 σ0) H.size q → H1[q]? = H[q]?) (hP1 : va_P D vwCl (cw0 τ0) H1) : va_P D vwCl (cw (put τ0)) H1 := by
  intro k q hq
  rcases h.2.2.2 τ0 k q hq with ⟨j, hj⟩ | ⟨⟨j, hj⟩, hap⟩
  · exact hP1 j q hj
  · have hlt := (hP j q hj).lt
    refine (hP j q hj).kept (hk q.1 hlt fun hA => ?_)
    rcases hA with ⟨i, e, hi⟩ | hA
    · exact hap A hD i _ hi rfl
    · exact absurd hlt (Nat.not_lt.mpr hA)
theorem k_goodIn {c' : Cond} (hc : c' ∈ k_ws) : GoodIn k_ws (c' :: k_ws) := by
  have hg : ∀ w, w ∈ k_ws → w ∈ k_ws ∧ ((w.onTables && w.keeps) = true ∨ ∃ ty, w = .arrayClass ty) := fun w hw => ⟨hw, good_of_word (k_good hw).2⟩
  intro w hw
  rcases List.mem_cons.mp hw with rfl | hw
  · exact hg _ hc
  · exact hg w hw
/-- what the tables say of a callee -/
def k_Vok (y : MethodName) (bytes : ByteArray) (maxL : Nat) (ret : Option FieldType) (n : Nat) : Prop :=
  Cond.code y bytes maxL ret ∈ k_ws ∧ Cond.instanceMethod y ∈ k_ws ∧ Cond.selects y.cls y y ∈ k_ws ∧ Cond.initialized y.cls ∈ k_ws ∧ (y.cls ≠ "java/lang/invoke/MethodHandle" ∧ y.cls ≠ "java/lang/invoke/VarHandle") ∧ (parseMethodDescriptor y.desc).map (fun d => d.parameters.length) = some n
def k_Sok (y : MethodName) (bytes : ByteArray) (maxL : Nat) (ret : Option FieldType) (n : Nat) : Prop :=
  Cond.code y bytes maxL ret ∈ k_ws ∧ Cond.static y ∈ k_ws ∧ Cond.initialized y.cls ∈ k_ws ∧ (y.cls ≠ "java/lang/invoke/MethodHandle" ∧ y.cls ≠ "java/lang/invoke/VarHandle") ∧ (parseMethodDescriptor y.desc).map (fun d => d.parameters.length) = some n
theorem k_callB {y : MethodName} {bytes : ByteArray} {maxL : Nat} {ret : Option FieldType} {n index : Nat} {rm : Room} (g : k_G X Y cw) (hco : Cond.code y bytes maxL ret ∈ k_ws) (hini : Cond.initialized y.cls ∈ k_ws) (hmh : y.cls ≠ "java/lang/invoke/MethodHandle" ∧ y.cls ≠ "java/lang/invoke/VarHandle") (hn : (parseMethodDescriptor y.desc).map (fun d => d.parameters.length) = some n) (hm : Cond.methodLink Y.2.2.2.1 index y ∈ k_ws) (hrm : rm.cells = 0 ∧ rm.slots = 0) (hR : rm.frames + 1 ≤ Y.1.frames ∧ 8 + (maxL + 11) + rm.locals ≤ Y.1.locals) : CallB (k_R X) (k_s X) (k_a X) Y.2.2.2.1 index y bytes maxL ret (.code y bytes maxL ret :: k_ws) rm 0 0 n := by
  have hr : k_R X = Y.1 := g.2.2.2.2.2.2.2.2.1
  exact callB_of (ws' := k_ws) n g.2.2.2.2.1 (k_goodIn hco) rfl hrm.1 hrm.2 (g.2.2.2.2.1 _ hini) (g.2.2.2.2.1 _ hm) ⟨hmh.1, hmh.2, hn⟩ (by rw [hr]; exact hR)
theorem k_blind {D : va_G} {cI : ClassId} {S0 : Type} {cw0 : S0 → va_W} {σ0 : S0} {sz : Nat} {as : List Value} : FrameBlind (va_Pc as (fun U => U.heap.size = sz ∧ va_P D vwCl (cw0 σ0) U.heap ∧ va_K D vwCl [(cI, .int)] U ∧ ∀ τ, va_D (fun _ => True) (cw0 τ))) := by
  intro a U g mk q
  obtain ⟨q0, q1, qP, qK, qD⟩ := q
  exact ⟨q0, q1, qP, va_K.moved (u := U) (U := U.calling g mk a) (Vm.Alike.refl U.vm) qK, qD⟩
/-- an instance method's call -/
theorem k_callV {S0 R0 : Type} {emb : R0 → Option Value} {y : MethodName} {bytes : ByteArray} {maxL : Nat} {ret : Option FieldType} {n index : Nat} {rm : Room} {cw0 : S0 → va_W} {σ0 : S0} {put : S0 → S} {b : Nat} {As : List Value} {f : Option (R0 × S0)} {kf : R0 → S0 → Option (Rt × S)} {stk : List Value}
    (hin : k_In cw σ cw0 σ0 put) (hok : k_Vok y bytes maxL ret n) (hm : Cond.methodLink Y.2.2.2.1 index y ∈ k_ws) (hrv : ∃ (k ci : Nat) (fs : List Value) (q : vw_C), (cw σ)[k]? = some (b, .inr (ci, fs)) ∧ vwCl[ci]? = some q ∧ q.1 = y.cls) (hlen : As.length = n) (hrm : rm.cells = 0 ∧ rm.slots = 0) (hR : rm.frames + 1 ≤ Y.1.frames ∧ 8 + (maxL + 11) + rm.locals ≤ Y.1.locals) (hk : kc ≤ Y.1.cells ∧ ks ≤ Y.1.slots) (hcat : (st.map fun v => v.category).sum ≤ 8) (hd : decode Y.2.1 pc = .ok (.invokevirtual index, 3)) (hstk : stk = As.reverse ++ .ref b :: st)
    (hM : ∀ r τ, f = some (r, τ) → k_Ct emb y bytes maxL ret rm cw0 (k_D X) (k_I X) (.ref b :: As) σ0 r τ) (kk : ∀ r τ, KO X Y cw kc ks Q (pc + 3) L ((emb r).toList ++ st) (put τ) (kf r τ)) : KO X Y cw kc ks Q pc L stk σ (k_ob f kf) := by
  subst hstk
  intro g r σ' ho H locs ls hP hS hL
  cases hf : f with
  | none => rw [hf] at ho; cases ho
  | some a =>
    obtain ⟨r0, τ⟩ := a
    rw [hf] at ho
    obtain ⟨hco, hi, hs, hini, hmh, hn⟩ := hok
    have hK := g.2.2.2.2.2.1
    have hrun := va_runV (As := As) (rest := st) (cells := kc) (slots := ks) (locs := locs) (g := F0 (k_m X) pc ls (As.reverse ++ .ref b :: st)) (nL := Y.2.2.1) (C := y.cls) ⟨g.1, g.2.1, g.2.2.1, g.2.2.2.1, g.2.2.2.2.1⟩ (hM r0 τ hf (k_l X) H.size) ⟨k_callB g hco hini hmh hn hm hrm hR, g.2.2.2.2.1 _ hi, g.2.2.2.2.1 _ hs⟩ ⟨k_blind, (by
        obtain ⟨k, ci, fs, q, h1, h2, h3⟩ := hrv
        obtain ⟨cell, c1, c2, c3⟩ := va_recv hK hP h2 h1
        exact ⟨cell, c1, c2, by rw [← h3]; exact c3⟩), fun U hU hW => ⟨rfl, by rw [hU], by rw [hU]; exact hin.P hP, va_K.moved hW.alike hK, fun τ0 => (hin.2.2.1 _ g.2.2.2.2.2.2.2.1 τ0).weaken (fun _ _ _ _ => trivial)⟩⟩ rfl hlen hL.1 rfl (lv_room hcat) hd (by rw [g.2.2.2.2.2.2.2.2.1]; exact hk) (p := k_p X) (e := k_e X) (below := k_b X) (meth := k_M X) (c := k_c X) (m := k_m X)
    have hA0 : ∀ q, va_A (cw0 σ0) H.size q → k_A X q := by
      intro q hq
      rcases hq with ⟨k, e, hk0⟩ | hq
      · exact (hin.2.2.1 _ g.2.2.2.2.2.2.2.1 σ0).2 k _ hk0
      · exact g.2.2.2.2.2.2.1 q (Nat.le_trans hS.1 hq)
    exact k_run (B := va_P (k_D X) vwCl (cw0 τ)) hrun hS (fun q _ h => hA0 q h) hA0 (fun H1 locs1 hB hk1 hS1 => kk r0 τ g r σ' ho H1 locs1 ls (hin.back (g.2.2.2.2.2.2.2.1 σ) hP hk1 hB) hS1 hL)
/-- a static method's call -/
theorem k_callS {S0 R0 : Type} {emb : R0 → Option Value} {y : MethodName} {bytes : ByteArray} {maxL : Nat} {ret : Option FieldType} {n index : Nat} {rm : Room} {cw0 : S0 → va_W} {σ0 : S0} {put : S0 → S} {As : List Value} {f : Option (R0 × S0)} {kf : R0 → S0 → Option (Rt × S)} {stk : List Value}
    (hin : k_In cw σ cw0 σ0 put) (hok : k_Sok y bytes maxL ret n) (hm : Cond.methodLink Y.2.2.2.1 index y ∈ k_ws) (hlen : As.length = n) (hrm : rm.cells = 0 ∧ rm.slots = 0) (hR : rm.frames + 1 ≤ Y.1.frames ∧ 8 + (maxL + 11) + rm.locals ≤ Y.1.locals) (hk : kc ≤ Y.1.cells ∧ ks ≤ Y.1.slots) (hcat : (st.map fun v => v.category).sum ≤ 8) (hd : decode Y.2.1 pc = .ok (.invokestatic index, 3)) (hstk : stk = As.reverse ++ st)
    (hM : ∀ r τ, f = some (r, τ) → k_Ct emb y bytes maxL ret rm cw0 (k_D X) (k_I X) As σ0 r τ) (kk : ∀ r τ, KO X Y cw kc ks Q (pc + 3) L ((emb r).toList ++ st) (put τ) (kf r τ)) : KO X Y cw kc ks Q pc L stk σ (k_ob f kf) := by
  subst hstk
  intro g r σ' ho H locs ls hP hS hL
  cases hf : f with
  | none => rw [hf] at ho; cases ho
  | some a =>
    obtain ⟨r0, τ⟩ := a
    rw [hf] at ho
    obtain ⟨hco, hs, hini, hmh, hn⟩ := hok
    have hK := g.2.2.2.2.2.1
    have hrun := va_runS (As := As) (rest := st) (cells := kc) (slots := ks) (locs := locs) (g := F0 (k_m X) pc ls (As.reverse ++ st)) (nL := Y.2.2.1) ⟨g.1, g.2.1, g.2.2.1, g.2.2.2.1, g.2.2.2.2.1⟩ (hM r0 τ hf (k_l X) H.size) ⟨k_callB g hco hini hmh hn hm hrm hR, g.2.2.2.2.1 _ hs⟩ ⟨k_blind, fun U hU hW => ⟨rfl, by rw [hU], by rw [hU]; exact hin.P hP, va_K.moved hW.alike hK, fun τ0 => (hin.2.2.1 _ g.2.2.2.2.2.2.2.1 τ0).weaken (fun _ _ _ _ => trivial)⟩⟩ rfl hlen hL.1 rfl (lv_room hcat) hd (by rw [g.2.2.2.2.2.2.2.2.1]; exact hk) (p := k_p X) (e := k_e X) (below := k_b X) (meth := k_M X) (c := k_c X) (m := k_m X)
    have hA0 : ∀ q, va_A (cw0 σ0) H.size q → k_A X q := by
      intro q hq
      rcases hq with ⟨k, e, hk0⟩ | hq
      · exact (hin.2.2.1 _ g.2.2.2.2.2.2.2.1 σ0).2 k _ hk0
      · exact g.2.2.2.2.2.2.1 q (Nat.le_trans hS.1 hq)
    exact k_run (B := va_P (k_D X) vwCl (cw0 τ)) hrun hS (fun q _ h => hA0 q h) hA0 (fun H1 locs1 hB hk1 hS1 => kk r0 τ g r σ' ho H1 locs1 ls (hin.back (g.2.2.2.2.2.2.2.1 σ) hP hk1 hB) hS1 hL)
theorem k_Vi0 {S0 : Type} {y : MethodName} {bytes : ByteArray} {maxL : Nat} {ret : Option FieldType} {index : Nat} {rm : Room} {cw0 : S0 → va_W} {σ0 : S0} {put : S0 → S} {b : Nat} {f : Option (Int32 × S0)} {kf : Int32 → S0 → Option (Rt × S)} (hin : k_In cw σ cw0 σ0 put) (hok : k_Vok y bytes maxL ret 0) (hm : Cond.methodLink Y.2.2.2.1 index y ∈ k_ws) (hrv : ∃ (k ci : Nat) (fs : List Value) (q : vw_C), (cw σ)[k]? = some (b, .inr (ci, fs)) ∧ vwCl[ci]? = some q ∧ q.1 = y.cls) (hrm : rm.cells = 0 ∧ rm.slots = 0) (hR : rm.frames + 1 ≤ Y.1.frames ∧ 8 + (maxL + 11) + rm.locals ≤ Y.1.locals) (hk : kc ≤ Y.1.cells ∧ ks ≤ Y.1.slots) (hcat : (st.map fun v => v.category).sum ≤ 8) (hd : decode Y.2.1 pc = .ok (.invokevirtual index, 3)) (hM : ∀ r τ, f = some (r, τ) → k_Ct k_ei y bytes maxL ret rm cw0 (k_D X) (k_I X) (.ref b :: []) σ0 r τ) (kk : ∀ r τ, KO X Y cw kc ks Q (pc + 3) L (.int r :: st) (put τ) (kf r τ)) : KO X Y cw kc ks Q pc L (.ref b :: st) σ (k_ob f kf) := k_callV (As := []) hin hok hm hrv rfl hrm hR hk hcat hd rfl hM kk
theorem k_Si0 {S0 : Type} {y : MethodName} {bytes : ByteArray} {maxL : Nat} {ret : Option FieldType} {index : Nat} {rm : Room} {cw0 : S0 → va_W} {σ0 : S0} {put : S0 → S} {f : Option (Int32 × S0)} {kf : Int32 → S0 → Option (Rt × S)} (hin : k_In cw σ cw0 σ0 put) (hok : k_Sok y bytes maxL ret 0) (hm : Cond.methodLink Y.2.2.2.1 index y ∈ k_ws) (hrm : rm.cells = 0 ∧ rm.slots = 0) (hR : rm.frames + 1 ≤ Y.1.frames ∧ 8 + (maxL + 11) + rm.locals ≤ Y.1.locals) (hk : kc ≤ Y.1.cells ∧ ks ≤ Y.1.slots) (hcat : (st.map fun v => v.category).sum ≤ 8) (hd : decode Y.2.1 pc = .ok (.invokestatic index, 3)) (hM : ∀ r τ, f = some (r, τ) → k_Ct k_ei y bytes maxL ret rm cw0 (k_D X) (k_I X) [] σ0 r τ) (kk : ∀ r τ, KO X Y cw kc ks Q (pc + 3) L (.int r :: st) (put τ) (kf r τ)) : KO X Y cw kc ks Q pc L (st) σ (k_ob f kf) := k_callS (As := []) hin hok hm rfl hrm hR hk hcat hd rfl hM kk
theorem k_Vv0 {S0 : Type} {y : MethodName} {bytes : ByteArray} {maxL : Nat} {ret : Option FieldType} {index : Nat} {rm : Room} {cw0 : S0 → va_W} {σ0 : S0} {put : S0 → S} {b : Nat} {f : Option (Unit × S0)} {kf : Unit → S0 → Option (Rt × S)} (hin : k_In cw σ cw0 σ0 put) (hok : k_Vok y bytes maxL ret 0) (hm : Cond.methodLink Y.2.2.2.1 index y ∈ k_ws) (hrv : ∃ (k ci : Nat) (fs : List Value) (q : vw_C), (cw σ)[k]? = some (b, .inr (ci, fs)) ∧ vwCl[ci]? = some q ∧ q.1 = y.cls) (hrm : rm.cells = 0 ∧ rm.slots = 0) (hR : rm.frames + 1 ≤ Y.1.frames ∧ 8 + (maxL + 11) + rm.locals ≤ Y.1.locals) (hk : kc ≤ Y.1.cells ∧ ks ≤ Y.1.slots) (hcat : (st.map fun v => v.category).sum ≤ 8) (hd : decode Y.2.1 pc = .ok (.invokevirtual index, 3)) (hM : ∀ r τ, f = some (r, τ) → k_Ct k_ev y bytes maxL ret rm cw0 (k_D X) (k_I X) (.ref b :: []) σ0 r τ) (kk : ∀ r τ, KO X Y cw kc ks Q (pc + 3) L (st) (put τ) (kf r τ)) : KO X Y cw kc ks Q pc L (.ref b :: st) σ (k_ob f kf) := k_callV (As := []) hin hok hm hrv rfl hrm hR hk hcat hd rfl hM kk
theorem k_Sv0 {S0 : Type} {y : MethodName} {bytes : ByteArray} {maxL : Nat} {ret : Option FieldType} {index : Nat} {rm : Room} {cw0 : S0 → va_W} {σ0 : S0} {put : S0 → S} {f : Option (Unit × S0)} {kf : Unit → S0 → Option (Rt × S)} (hin : k_In cw σ cw0 σ0 put) (hok : k_Sok y bytes maxL ret 0) (hm : Cond.methodLink Y.2.2.2.1 index y ∈ k_ws) (hrm : rm.cells = 0 ∧ rm.slots = 0) (hR : rm.frames + 1 ≤ Y.1.frames ∧ 8 + (maxL + 11) + rm.locals ≤ Y.1.locals) (hk : kc ≤ Y.1.cells ∧ ks ≤ Y.1.slots) (hcat : (st.map fun v => v.category).sum ≤ 8) (hd : decode Y.2.1 pc = .ok (.invokestatic index, 3)) (hM : ∀ r τ, f = some (r, τ) → k_Ct k_ev y bytes maxL ret rm cw0 (k_D X) (k_I X) [] σ0 r τ) (kk : ∀ r τ, KO X Y cw kc ks Q (pc + 3) L (st) (put τ) (kf r τ)) : KO X Y cw kc ks Q pc L (st) σ (k_ob f kf) := k_callS (As := []) hin hok hm rfl hrm hR hk hcat hd rfl hM kk
theorem k_Vi1 {S0 : Type} {y : MethodName} {bytes : ByteArray} {maxL : Nat} {ret : Option FieldType} {index : Nat} {rm : Room} {cw0 : S0 → va_W} {σ0 : S0} {put : S0 → S} {b : Nat} {v1 : Value} {f : Option (Int32 × S0)} {kf : Int32 → S0 → Option (Rt × S)} (hin : k_In cw σ cw0 σ0 put) (hok : k_Vok y bytes maxL ret 1) (hm : Cond.methodLink Y.2.2.2.1 index y ∈ k_ws) (hrv : ∃ (k ci : Nat) (fs : List Value) (q : vw_C), (cw σ)[k]? = some (b, .inr (ci, fs)) ∧ vwCl[ci]? = some q ∧ q.1 = y.cls) (hrm : rm.cells = 0 ∧ rm.slots = 0) (hR : rm.frames + 1 ≤ Y.1.frames ∧ 8 + (maxL + 11) + rm.locals ≤ Y.1.locals) (hk : kc ≤ Y.1.cells ∧ ks ≤ Y.1.slots) (hcat : (st.map fun v => v.category).sum ≤ 8) (hd : decode Y.2.1 pc = .ok (.invokevirtual index, 3)) (hM : ∀ r τ, f = some (r, τ) → k_Ct k_ei y bytes maxL ret rm cw0 (k_D X) (k_I X) (.ref b :: [v1]) σ0 r τ) (kk : ∀ r τ, KO X Y cw kc ks Q (pc + 3) L (.int r :: st) (put τ) (kf r τ)) : KO X Y cw kc ks Q pc L (v1 :: .ref b :: st) σ (k_ob f kf) := k_callV (As := [v1]) hin hok hm hrv rfl hrm hR hk hcat hd rfl hM kk
theorem k_Si1 {S0 : Type} {y : MethodName} {bytes : ByteArray} {maxL : Nat} {ret : Option FieldType} {index : Nat} {rm : Room} {cw0 : S0 → va_W} {σ0 : S0} {put : S0 → S} {v1 : Value} {f : Option (Int32 × S0)} {kf : Int32 → S0 → Option (Rt × S)} (hin : k_In cw σ cw0 σ0 put) (hok : k_Sok y bytes maxL ret 1) (hm : Cond.methodLink Y.2.2.2.1 index y ∈ k_ws) (hrm : rm.cells = 0 ∧ rm.slots = 0) (hR : rm.frames + 1 ≤ Y.1.frames ∧ 8 + (maxL + 11) + rm.locals ≤ Y.1.locals) (hk : kc ≤ Y.1.cells ∧ ks ≤ Y.1.slots) (hcat : (st.map fun v => v.category).sum ≤ 8) (hd : decode Y.2.1 pc = .ok (.invokestatic index, 3)) (hM : ∀ r τ, f = some (r, τ) → k_Ct k_ei y bytes maxL ret rm cw0 (k_D X) (k_I X) [v1] σ0 r τ) (kk : ∀ r τ, KO X Y cw kc ks Q (pc + 3) L (.int r :: st) (put τ) (kf r τ)) : KO X Y cw kc ks Q pc L (v1 :: st) σ (k_ob f kf) := k_callS (As := [v1]) hin hok hm rfl hrm hR hk hcat hd rfl hM kk
theorem k_Vv1 {S0 : Type} {y : MethodName} {bytes : ByteArray} {maxL : Nat} {ret : Option FieldType} {index : Nat} {rm : Room} {cw0 : S0 → va_W} {σ0 : S0} {put : S0 → S} {b : Nat} {v1 : Value} {f : Option (Unit × S0)} {kf : Unit → S0 → Option (Rt × S)} (hin : k_In cw σ cw0 σ0 put) (hok : k_Vok y bytes maxL ret 1) (hm : Cond.methodLink Y.2.2.2.1 index y ∈ k_ws) (hrv : ∃ (k ci : Nat) (fs : List Value) (q : vw_C), (cw σ)[k]? = some (b, .inr (ci, fs)) ∧ vwCl[ci]? = some q ∧ q.1 = y.cls) (hrm : rm.cells = 0 ∧ rm.slots = 0) (hR : rm.frames + 1 ≤ Y.1.frames ∧ 8 + (maxL + 11) + rm.locals ≤ Y.1.locals) (hk : kc ≤ Y.1.cells ∧ ks ≤ Y.1.slots) (hcat : (st.map fun v => v.category).sum ≤ 8) (hd : decode Y.2.1 pc = .ok (.invokevirtual index, 3)) (hM : ∀ r τ, f = some (r, τ) → k_Ct k_ev y bytes maxL ret rm cw0 (k_D X) (k_I X) (.ref b :: [v1]) σ0 r τ) (kk : ∀ r τ, KO X Y cw kc ks Q (pc + 3) L (st) (put τ) (kf r τ)) : KO X Y cw kc ks Q pc L (v1 :: .ref b :: st) σ (k_ob f kf) := k_callV (As := [v1]) hin hok hm hrv rfl hrm hR hk hcat hd rfl hM kk
theorem k_Sv1 {S0 : Type} {y : MethodName} {bytes : ByteArray} {maxL : Nat} {ret : Option FieldType} {index : Nat} {rm : Room} {cw0 : S0 → va_W} {σ0 : S0} {put : S0 → S} {v1 : Value} {f : Option (Unit × S0)} {kf : Unit → S0 → Option (Rt × S)} (hin : k_In cw σ cw0 σ0 put) (hok : k_Sok y bytes maxL ret 1) (hm : Cond.methodLink Y.2.2.2.1 index y ∈ k_ws) (hrm : rm.cells = 0 ∧ rm.slots = 0) (hR : rm.frames + 1 ≤ Y.1.frames ∧ 8 + (maxL + 11) + rm.locals ≤ Y.1.locals) (hk : kc ≤ Y.1.cells ∧ ks ≤ Y.1.slots) (hcat : (st.map fun v => v.category).sum ≤ 8) (hd : decode Y.2.1 pc = .ok (.invokestatic index, 3)) (hM : ∀ r τ, f = some (r, τ) → k_Ct k_ev y bytes maxL ret rm cw0 (k_D X) (k_I X) [v1] σ0 r τ) (kk : ∀ r τ, KO X Y cw kc ks Q (pc + 3) L (st) (put τ) (kf r τ)) : KO X Y cw kc ks Q pc L (v1 :: st) σ (k_ob f kf) := k_callS (As := [v1]) hin hok hm rfl hrm hR hk hcat hd rfl hM kk
theorem k_Vi2 {S0 : Type} {y : MethodName} {bytes : ByteArray} {maxL : Nat} {ret : Option FieldType} {index : Nat} {rm : Room} {cw0 : S0 → va_W} {σ0 : S0} {put : S0 → S} {b : Nat} {v1 v2 : Value} {f : Option (Int32 × S0)} {kf : Int32 → S0 → Option (Rt × S)} (hin : k_In cw σ cw0 σ0 put) (hok : k_Vok y bytes maxL ret 2) (hm : Cond.methodLink Y.2.2.2.1 index y ∈ k_ws) (hrv : ∃ (k ci : Nat) (fs : List Value) (q : vw_C), (cw σ)[k]? = some (b, .inr (ci, fs)) ∧ vwCl[ci]? = some q ∧ q.1 = y.cls) (hrm : rm.cells = 0 ∧ rm.slots = 0) (hR : rm.frames + 1 ≤ Y.1.frames ∧ 8 + (maxL + 11) + rm.locals ≤ Y.1.locals) (hk : kc ≤ Y.1.cells ∧ ks ≤ Y.1.slots) (hcat : (st.map fun v => v.category).sum ≤ 8) (hd : decode Y.2.1 pc = .ok (.invokevirtual index, 3)) (hM : ∀ r τ, f = some (r, τ) → k_Ct k_ei y bytes maxL ret rm cw0 (k_D X) (k_I X) (.ref b :: [v1, v2]) σ0 r τ) (kk : ∀ r τ, KO X Y cw kc ks Q (pc + 3) L (.int r :: st) (put τ) (kf r τ)) : KO X Y cw kc ks Q pc L (v2 :: v1 :: .ref b :: st) σ (k_ob f kf) := k_callV (As := [v1, v2]) hin hok hm hrv rfl hrm hR hk hcat hd rfl hM kk
theorem k_Si2 {S0 : Type} {y : MethodName} {bytes : ByteArray} {maxL : Nat} {ret : Option FieldType} {index : Nat} {rm : Room} {cw0 : S0 → va_W} {σ0 : S0} {put : S0 → S} {v1 v2 : Value} {f : Option (Int32 × S0)} {kf : Int32 → S0 → Option (Rt × S)} (hin : k_In cw σ cw0 σ0 put) (hok : k_Sok y bytes maxL ret 2) (hm : Cond.methodLink Y.2.2.2.1 index y ∈ k_ws) (hrm : rm.cells = 0 ∧ rm.slots = 0) (hR : rm.frames + 1 ≤ Y.1.frames ∧ 8 + (maxL + 11) + rm.locals ≤ Y.1.locals) (hk : kc ≤ Y.1.cells ∧ ks ≤ Y.1.slots) (hcat : (st.map fun v => v.category).sum ≤ 8) (hd : decode Y.2.1 pc = .ok (.invokestatic index, 3)) (hM : ∀ r τ, f = some (r, τ) → k_Ct k_ei y bytes maxL ret rm cw0 (k_D X) (k_I X) [v1, v2] σ0 r τ) (kk : ∀ r τ, KO X Y cw kc ks Q (pc + 3) L (.int r :: st) (put τ) (kf r τ)) : KO X Y cw kc ks Q pc L (v2 :: v1 :: st) σ (k_ob f kf) := k_callS (As := [v1, v2]) hin hok hm rfl hrm hR hk hcat hd rfl hM kk
theorem k_Vv2 {S0 : Type} {y : MethodName} {bytes : ByteArray} {maxL : Nat} {ret : Option FieldType} {index : Nat} {rm : Room} {cw0 : S0 → va_W} {σ0 : S0} {put : S0 → S} {b : Nat} {v1 v2 : Value} {f : Option (Unit × S0)} {kf : Unit → S0 → Option (Rt × S)} (hin : k_In cw σ cw0 σ0 put) (hok : k_Vok y bytes maxL ret 2) (hm : Cond.methodLink Y.2.2.2.1 index y ∈ k_ws) (hrv : ∃ (k ci : Nat) (fs : List Value) (q : vw_C), (cw σ)[k]? = some (b, .inr (ci, fs)) ∧ vwCl[ci]? = some q ∧ q.1 = y.cls) (hrm : rm.cells = 0 ∧ rm.slots = 0) (hR : rm.frames + 1 ≤ Y.1.frames ∧ 8 + (maxL + 11) + rm.locals ≤ Y.1.locals) (hk : kc ≤ Y.1.cells ∧ ks ≤ Y.1.slots) (hcat : (st.map fun v => v.category).sum ≤ 8) (hd : decode Y.2.1 pc = .ok (.invokevirtual index, 3)) (hM : ∀ r τ, f = some (r, τ) → k_Ct k_ev y bytes maxL ret rm cw0 (k_D X) (k_I X) (.ref b :: [v1, v2]) σ0 r τ) (kk : ∀ r τ, KO X Y cw kc ks Q (pc + 3) L (st) (put τ) (kf r τ)) : KO X Y cw kc ks Q pc L (v2 :: v1 :: .ref b :: st) σ (k_ob f kf) := k_callV (As := [v1, v2]) hin hok hm hrv rfl hrm hR hk hcat hd rfl hM kk
theorem k_Sv2 {S0 : Type} {y : MethodName} {bytes : ByteArray} {maxL : Nat} {ret : Option FieldType} {index : Nat} {rm : Room} {cw0 : S0 → va_W} {σ0 : S0} {put : S0 → S} {v1 v2 : Value} {f : Option (Unit × S0)} {kf : Unit → S0 → Option (Rt × S)} (hin : k_In cw σ cw0 σ0 put) (hok : k_Sok y bytes maxL ret 2) (hm : Cond.methodLink Y.2.2.2.1 index y ∈ k_ws) (hrm : rm.cells = 0 ∧ rm.slots = 0) (hR : rm.frames + 1 ≤ Y.1.frames ∧ 8 + (maxL + 11) + rm.locals ≤ Y.1.locals) (hk : kc ≤ Y.1.cells ∧ ks ≤ Y.1.slots) (hcat : (st.map fun v => v.category).sum ≤ 8) (hd : decode Y.2.1 pc = .ok (.invokestatic index, 3)) (hM : ∀ r τ, f = some (r, τ) → k_Ct k_ev y bytes maxL ret rm cw0 (k_D X) (k_I X) [v1, v2] σ0 r τ) (kk : ∀ r τ, KO X Y cw kc ks Q (pc + 3) L (st) (put τ) (kf r τ)) : KO X Y cw kc ks Q pc L (v2 :: v1 :: st) σ (k_ob f kf) := k_callS (As := [v1, v2]) hin hok hm rfl hrm hR hk hcat hd rfl hM kk
theorem k_Vi3 {S0 : Type} {y : MethodName} {bytes : ByteArray} {maxL : Nat} {ret : Option FieldType} {index : Nat} {rm : Room} {cw0 : S0 → va_W} {σ0 : S0} {put : S0 → S} {b : Nat} {v1 v2 v3 : Value} {f : Option (Int32 × S0)} {kf : Int32 → S0 → Option (Rt × S)} (hin : k_In cw σ cw0 σ0 put) (hok : k_Vok y bytes maxL ret 3) (hm : Cond.methodLink Y.2.2.2.1 index y ∈ k_ws) (hrv : ∃ (k ci : Nat) (fs : List Value) (q : vw_C), (cw σ)[k]? = some (b, .inr (ci, fs)) ∧ vwCl[ci]? = some q ∧ q.1 = y.cls) (hrm : rm.cells = 0 ∧ rm.slots = 0) (hR : rm.frames + 1 ≤ Y.1.frames ∧ 8 + (maxL + 11) + rm.locals ≤ Y.1.locals) (hk : kc ≤ Y.1.cells ∧ ks ≤ Y.1.slots) (hcat : (st.map fun v => v.category).sum ≤ 8) (hd : decode Y.2.1 pc = .ok (.invokevirtual index, 3)) (hM : ∀ r τ, f = some (r, τ) → k_Ct k_ei y bytes maxL ret rm cw0 (k_D X) (k_I X) (.ref b :: [v1, v2, v3]) σ0 r τ) (kk : ∀ r τ, KO X Y cw kc ks Q (pc + 3) L (.int r :: st) (put τ) (kf r τ)) : KO X Y cw kc ks Q pc L (v3 :: v2 :: v1 :: .ref b :: st) σ (k_ob f kf) := k_callV (As := [v1, v2, v3]) hin hok hm hrv rfl hrm hR hk hcat hd rfl hM kk
theorem k_Si3 {S0 : Type} {y : MethodName} {bytes : ByteArray} {maxL : Nat} {ret : Option FieldType} {index : Nat} {rm : Room} {cw0 : S0 → va_W} {σ0 : S0} {put : S0 → S} {v1 v2 v3 : Value} {f : Option (Int32 × S0)} {kf : Int32 → S0 → Option (Rt × S)} (hin : k_In cw σ cw0 σ0 put) (hok : k_Sok y bytes maxL ret 3) (hm : Cond.methodLink Y.2.2.2.1 index y ∈ k_ws) (hrm : rm.cells = 0 ∧ rm.slots = 0) (hR : rm.frames + 1 ≤ Y.1.frames ∧ 8 + (maxL + 11) + rm.locals ≤ Y.1.locals) (hk : kc ≤ Y.1.cells ∧ ks ≤ Y.1.slots) (hcat : (st.map fun v => v.category).sum ≤ 8) (hd : decode Y.2.1 pc = .ok (.invokestatic index, 3)) (hM : ∀ r τ, f = some (r, τ) → k_Ct k_ei y bytes maxL ret rm cw0 (k_D X) (k_I X) [v1, v2, v3] σ0 r τ) (kk : ∀ r τ, KO X Y cw kc ks Q (pc + 3) L (.int r :: st) (put τ) (kf r τ)) : KO X Y cw kc ks Q pc L (v3 :: v2 :: v1 :: st) σ (k_ob f kf) := k_callS (As := [v1, v2, v3]) hin hok hm rfl hrm hR hk hcat hd rfl hM kk
theorem k_Vv3 {S0 : Type} {y : MethodName} {bytes : ByteArray} {maxL : Nat} {ret : Option FieldType} {index : Nat} {rm : Room} {cw0 : S0 → va_W} {σ0 : S0} {put : S0 → S} {b : Nat} {v1 v2 v3 : Value} {f : Option (Unit × S0)} {kf : Unit → S0 → Option (Rt × S)} (hin : k_In cw σ cw0 σ0 put) (hok : k_Vok y bytes maxL ret 3) (hm : Cond.methodLink Y.2.2.2.1 index y ∈ k_ws) (hrv : ∃ (k ci : Nat) (fs : List Value) (q : vw_C), (cw σ)[k]? = some (b, .inr (ci, fs)) ∧ vwCl[ci]? = some q ∧ q.1 = y.cls) (hrm : rm.cells = 0 ∧ rm.slots = 0) (hR : rm.frames + 1 ≤ Y.1.frames ∧ 8 + (maxL + 11) + rm.locals ≤ Y.1.locals) (hk : kc ≤ Y.1.cells ∧ ks ≤ Y.1.slots) (hcat : (st.map fun v => v.category).sum ≤ 8) (hd : decode Y.2.1 pc = .ok (.invokevirtual index, 3)) (hM : ∀ r τ, f = some (r, τ) → k_Ct k_ev y bytes maxL ret rm cw0 (k_D X) (k_I X) (.ref b :: [v1, v2, v3]) σ0 r τ) (kk : ∀ r τ, KO X Y cw kc ks Q (pc + 3) L (st) (put τ) (kf r τ)) : KO X Y cw kc ks Q pc L (v3 :: v2 :: v1 :: .ref b :: st) σ (k_ob f kf) := k_callV (As := [v1, v2, v3]) hin hok hm hrv rfl hrm hR hk hcat hd rfl hM kk
theorem k_Sv3 {S0 : Type} {y : MethodName} {bytes : ByteArray} {maxL : Nat} {ret : Option FieldType} {index : Nat} {rm : Room} {cw0 : S0 → va_W} {σ0 : S0} {put : S0 → S} {v1 v2 v3 : Value} {f : Option (Unit × S0)} {kf : Unit → S0 → Option (Rt × S)} (hin : k_In cw σ cw0 σ0 put) (hok : k_Sok y bytes maxL ret 3) (hm : Cond.methodLink Y.2.2.2.1 index y ∈ k_ws) (hrm : rm.cells = 0 ∧ rm.slots = 0) (hR : rm.frames + 1 ≤ Y.1.frames ∧ 8 + (maxL + 11) + rm.locals ≤ Y.1.locals) (hk : kc ≤ Y.1.cells ∧ ks ≤ Y.1.slots) (hcat : (st.map fun v => v.category).sum ≤ 8) (hd : decode Y.2.1 pc = .ok (.invokestatic index, 3)) (hM : ∀ r τ, f = some (r, τ) → k_Ct k_ev y bytes maxL ret rm cw0 (k_D X) (k_I X) [v1, v2, v3] σ0 r τ) (kk : ∀ r τ, KO X Y cw kc ks Q (pc + 3) L (st) (put τ) (kf r τ)) : KO X Y cw kc ks Q pc L (v3 :: v2 :: v1 :: st) σ (k_ob f kf) := k_callS (As := [v1, v2, v3]) hin hok hm rfl hrm hR hk hcat hd rfl hM kk
theorem k_Vl3 {S0 : Type} {y : MethodName} {bytes : ByteArray} {maxL : Nat} {ret : Option FieldType} {index : Nat} {rm : Room} {cw0 : S0 → va_W} {σ0 : S0} {put : S0 → S} {b : Nat} {v1 v2 v3 : Value} {f : Option (Int64 × S0)} {kf : Int64 → S0 → Option (Rt × S)} (hin : k_In cw σ cw0 σ0 put) (hok : k_Vok y bytes maxL ret 3) (hm : Cond.methodLink Y.2.2.2.1 index y ∈ k_ws) (hrv : ∃ (k ci : Nat) (fs : List Value) (q : vw_C), (cw σ)[k]? = some (b, .inr (ci, fs)) ∧ vwCl[ci]? = some q ∧ q.1 = y.cls) (hrm : rm.cells = 0 ∧ rm.slots = 0) (hR : rm.frames + 1 ≤ Y.1.frames ∧ 8 + (maxL + 11) + rm.locals ≤ Y.1.locals) (hk : kc ≤ Y.1.cells ∧ ks ≤ Y.1.slots) (hcat : (st.map fun v => v.category).sum ≤ 8) (hd : decode Y.2.1 pc = .ok (.invokevirtual index, 3)) (hM : ∀ r τ, f = some (r, τ) → k_Ct k_el y bytes maxL ret rm cw0 (k_D X) (k_I X) (.ref b :: [v1, v2, v3]) σ0 r τ) (kk : ∀ r τ, KO X Y cw kc ks Q (pc + 3) L (.long r :: st) (put τ) (kf r τ)) : KO X Y cw kc ks Q pc L (v3 :: v2 :: v1 :: .ref b :: st) σ (k_ob f kf) := k_callV (As := [v1, v2, v3]) hin hok hm hrv rfl hrm hR hk hcat hd rfl hM kk
theorem k_Vi4 {S0 : Type} {y : MethodName} {bytes : ByteArray} {maxL : Nat} {ret : Option FieldType} {index : Nat} {rm : Room} {cw0 : S0 → va_W} {σ0 : S0} {put : S0 → S} {b : Nat} {v1 v2 v3 v4 : Value} {f : Option (Int32 × S0)} {kf : Int32 → S0 → Option (Rt × S)} (hin : k_In cw σ cw0 σ0 put) (hok : k_Vok y bytes maxL ret 4) (hm : Cond.methodLink Y.2.2.2.1 index y ∈ k_ws) (hrv : ∃ (k ci : Nat) (fs : List Value) (q : vw_C), (cw σ)[k]? = some (b, .inr (ci, fs)) ∧ vwCl[ci]? = some q ∧ q.1 = y.cls) (hrm : rm.cells = 0 ∧ rm.slots = 0) (hR : rm.frames + 1 ≤ Y.1.frames ∧ 8 + (maxL + 11) + rm.locals ≤ Y.1.locals) (hk : kc ≤ Y.1.cells ∧ ks ≤ Y.1.slots) (hcat : (st.map fun v => v.category).sum ≤ 8) (hd : decode Y.2.1 pc = .ok (.invokevirtual index, 3)) (hM : ∀ r τ, f = some (r, τ) → k_Ct k_ei y bytes maxL ret rm cw0 (k_D X) (k_I X) (.ref b :: [v1, v2, v3, v4]) σ0 r τ) (kk : ∀ r τ, KO X Y cw kc ks Q (pc + 3) L (.int r :: st) (put τ) (kf r τ)) : KO X Y cw kc ks Q pc L (v4 :: v3 :: v2 :: v1 :: .ref b :: st) σ (k_ob f kf) := k_callV (As := [v1, v2, v3, v4]) hin hok hm hrv rfl hrm hR hk hcat hd rfl hM kk
theorem k_Si4 {S0 : Type} {y : MethodName} {bytes : ByteArray} {maxL : Nat} {ret : Option FieldType} {index : Nat} {rm : Room} {cw0 : S0 → va_W} {σ0 : S0} {put : S0 → S} {v1 v2 v3 v4 : Value} {f : Option (Int32 × S0)} {kf : Int32 → S0 → Option (Rt × S)} (hin : k_In cw σ cw0 σ0 put) (hok : k_Sok y bytes maxL ret 4) (hm : Cond.methodLink Y.2.2.2.1 index y ∈ k_ws) (hrm : rm.cells = 0 ∧ rm.slots = 0) (hR : rm.frames + 1 ≤ Y.1.frames ∧ 8 + (maxL + 11) + rm.locals ≤ Y.1.locals) (hk : kc ≤ Y.1.cells ∧ ks ≤ Y.1.slots) (hcat : (st.map fun v => v.category).sum ≤ 8) (hd : decode Y.2.1 pc = .ok (.invokestatic index, 3)) (hM : ∀ r τ, f = some (r, τ) → k_Ct k_ei y bytes maxL ret rm cw0 (k_D X) (k_I X) [v1, v2, v3, v4] σ0 r τ) (kk : ∀ r τ, KO X Y cw kc ks Q (pc + 3) L (.int r :: st) (put τ) (kf r τ)) : KO X Y cw kc ks Q pc L (v4 :: v3 :: v2 :: v1 :: st) σ (k_ob f kf) := k_callS (As := [v1, v2, v3, v4]) hin hok hm rfl hrm hR hk hcat hd rfl hM kk
theorem k_Vv4 {S0 : Type} {y : MethodName} {bytes : ByteArray} {maxL : Nat} {ret : Option FieldType} {index : Nat} {rm : Room} {cw0 : S0 → va_W} {σ0 : S0} {put : S0 → S} {b : Nat} {v1 v2 v3 v4 : Value} {f : Option (Unit × S0)} {kf : Unit → S0 → Option (Rt × S)} (hin : k_In cw σ cw0 σ0 put) (hok : k_Vok y bytes maxL ret 4) (hm : Cond.methodLink Y.2.2.2.1 index y ∈ k_ws) (hrv : ∃ (k ci : Nat) (fs : List Value) (q : vw_C), (cw σ)[k]? = some (b, .inr (ci, fs)) ∧ vwCl[ci]? = some q ∧ q.1 = y.cls) (hrm : rm.cells = 0 ∧ rm.slots = 0) (hR : rm.frames + 1 ≤ Y.1.frames ∧ 8 + (maxL + 11) + rm.locals ≤ Y.1.locals) (hk : kc ≤ Y.1.cells ∧ ks ≤ Y.1.slots) (hcat : (st.map fun v => v.category).sum ≤ 8) (hd : decode Y.2.1 pc = .ok (.invokevirtual index, 3)) (hM : ∀ r τ, f = some (r, τ) → k_Ct k_ev y bytes maxL ret rm cw0 (k_D X) (k_I X) (.ref b :: [v1, v2, v3, v4]) σ0 r τ) (kk : ∀ r τ, KO X Y cw kc ks Q (pc + 3) L (st) (put τ) (kf r τ)) : KO X Y cw kc ks Q pc L (v4 :: v3 :: v2 :: v1 :: .ref b :: st) σ (k_ob f kf) := k_callV (As := [v1, v2, v3, v4]) hin hok hm hrv rfl hrm hR hk hcat hd rfl hM kk
theorem k_Sv4 {S0 : Type} {y : MethodName} {bytes : ByteArray} {maxL : Nat} {ret : Option FieldType} {index : Nat} {rm : Room} {cw0 : S0 → va_W} {σ0 : S0} {put : S0 → S} {v1 v2 v3 v4 : Value} {f : Option (Unit × S0)} {kf : Unit → S0 → Option (Rt × S)} (hin : k_In cw σ cw0 σ0 put) (hok : k_Sok y bytes maxL ret 4) (hm : Cond.methodLink Y.2.2.2.1 index y ∈ k_ws) (hrm : rm.cells = 0 ∧ rm.slots = 0) (hR : rm.frames + 1 ≤ Y.1.frames ∧ 8 + (maxL + 11) + rm.locals ≤ Y.1.locals) (hk : kc ≤ Y.1.cells ∧ ks ≤ Y.1.slots) (hcat : (st.map fun v => v.category).sum ≤ 8) (hd : decode Y.2.1 pc = .ok (.invokestatic index, 3)) (hM : ∀ r τ, f = some (r, τ) → k_Ct k_ev y bytes maxL ret rm cw0 (k_D X) (k_I X) [v1, v2, v3, v4] σ0 r τ) (kk : ∀ r τ, KO X Y cw kc ks Q (pc + 3) L (st) (put τ) (kf r τ)) : KO X Y cw kc ks Q pc L (v4 :: v3 :: v2 :: v1 :: st) σ (k_ob f kf) := k_callS (As := [v1, v2, v3, v4]) hin hok hm rfl hrm hR hk hcat hd rfl hM kk
theorem k_Vi5 {S0 : Type} {y : MethodName} {bytes : ByteArray} {maxL : Nat} {ret : Option FieldType} {index : Nat} {rm : Room} {cw0 : S0 → va_W} {σ0 : S0} {put : S0 → S} {b : Nat} {v1 v2 v3 v4 v5 : Value} {f : Option (Int32 × S0)} {kf : Int32 → S0 → Option (Rt × S)} (hin : k_In cw σ cw0 σ0 put) (hok : k_Vok y bytes maxL ret 5) (hm : Cond.methodLink Y.2.2.2.1 index y ∈ k_ws) (hrv : ∃ (k ci : Nat) (fs : List Value) (q : vw_C), (cw σ)[k]? = some (b, .inr (ci, fs)) ∧ vwCl[ci]? = some q ∧ q.1 = y.cls) (hrm : rm.cells = 0 ∧ rm.slots = 0) (hR : rm.frames + 1 ≤ Y.1.frames ∧ 8 + (maxL + 11) + rm.locals ≤ Y.1.locals) (hk : kc ≤ Y.1.cells ∧ ks ≤ Y.1.slots) (hcat : (st.map fun v => v.category).sum ≤ 8) (hd : decode Y.2.1 pc = .ok (.invokevirtual index, 3)) (hM : ∀ r τ, f = some (r, τ) → k_Ct k_ei y bytes maxL ret rm cw0 (k_D X) (k_I X) (.ref b :: [v1, v2, v3, v4, v5]) σ0 r τ) (kk : ∀ r τ, KO X Y cw kc ks Q (pc + 3) L (.int r :: st) (put τ) (kf r τ)) : KO X Y cw kc ks Q pc L (v5 :: v4 :: v3 :: v2 :: v1 :: .ref b :: st) σ (k_ob f kf) := k_callV (As := [v1, v2, v3, v4, v5]) hin hok hm hrv rfl hrm hR hk hcat hd rfl hM kk
theorem k_Si5 {S0 : Type} {y : MethodName} {bytes : ByteArray} {maxL : Nat} {ret : Option FieldType} {index : Nat} {rm : Room} {cw0 : S0 → va_W} {σ0 : S0} {put : S0 → S} {v1 v2 v3 v4 v5 : Value} {f : Option (Int32 × S0)} {kf : Int32 → S0 → Option (Rt × S)} (hin : k_In cw σ cw0 σ0 put) (hok : k_Sok y bytes maxL ret 5) (hm : Cond.methodLink Y.2.2.2.1 index y ∈ k_ws) (hrm : rm.cells = 0 ∧ rm.slots = 0) (hR : rm.frames + 1 ≤ Y.1.frames ∧ 8 + (maxL + 11) + rm.locals ≤ Y.1.locals) (hk : kc ≤ Y.1.cells ∧ ks ≤ Y.1.slots) (hcat : (st.map fun v => v.category).sum ≤ 8) (hd : decode Y.2.1 pc = .ok (.invokestatic index, 3)) (hM : ∀ r τ, f = some (r, τ) → k_Ct k_ei y bytes maxL ret rm cw0 (k_D X) (k_I X) [v1, v2, v3, v4, v5] σ0 r τ) (kk : ∀ r τ, KO X Y cw kc ks Q (pc + 3) L (.int r :: st) (put τ) (kf r τ)) : KO X Y cw kc ks Q pc L (v5 :: v4 :: v3 :: v2 :: v1 :: st) σ (k_ob f kf) := k_callS (As := [v1, v2, v3, v4, v5]) hin hok hm rfl hrm hR hk hcat hd rfl hM kk
theorem k_Vv5 {S0 : Type} {y : MethodName} {bytes : ByteArray} {maxL : Nat} {ret : Option FieldType} {index : Nat} {rm : Room} {cw0 : S0 → va_W} {σ0 : S0} {put : S0 → S} {b : Nat} {v1 v2 v3 v4 v5 : Value} {f : Option (Unit × S0)} {kf : Unit → S0 → Option (Rt × S)} (hin : k_In cw σ cw0 σ0 put) (hok : k_Vok y bytes maxL ret 5) (hm : Cond.methodLink Y.2.2.2.1 index y ∈ k_ws) (hrv : ∃ (k ci : Nat) (fs : List Value) (q : vw_C), (cw σ)[k]? = some (b, .inr (ci, fs)) ∧ vwCl[ci]? = some q ∧ q.1 = y.cls) (hrm : rm.cells = 0 ∧ rm.slots = 0) (hR : rm.frames + 1 ≤ Y.1.frames ∧ 8 + (maxL + 11) + rm.locals ≤ Y.1.locals) (hk : kc ≤ Y.1.cells ∧ ks ≤ Y.1.slots) (hcat : (st.map fun v => v.category).sum ≤ 8) (hd : decode Y.2.1 pc = .ok (.invokevirtual index, 3)) (hM : ∀ r τ, f = some (r, τ) → k_Ct k_ev y bytes maxL ret rm cw0 (k_D X) (k_I X) (.ref b :: [v1, v2, v3, v4, v5]) σ0 r τ) (kk : ∀ r τ, KO X Y cw kc ks Q (pc + 3) L (st) (put τ) (kf r τ)) : KO X Y cw kc ks Q pc L (v5 :: v4 :: v3 :: v2 :: v1 :: .ref b :: st) σ (k_ob f kf) := k_callV (As := [v1, v2, v3, v4, v5]) hin hok hm hrv rfl hrm hR hk hcat hd rfl hM kk
theorem k_Sv5 {S0 : Type} {y : MethodName} {bytes : ByteArray} {maxL : Nat} {ret : Option FieldType} {index : Nat} {rm : Room} {cw0 : S0 → va_W} {σ0 : S0} {put : S0 → S} {v1 v2 v3 v4 v5 : Value} {f : Option (Unit × S0)} {kf : Unit → S0 → Option (Rt × S)} (hin : k_In cw σ cw0 σ0 put) (hok : k_Sok y bytes maxL ret 5) (hm : Cond.methodLink Y.2.2.2.1 index y ∈ k_ws) (hrm : rm.cells = 0 ∧ rm.slots = 0) (hR : rm.frames + 1 ≤ Y.1.frames ∧ 8 + (maxL + 11) + rm.locals ≤ Y.1.locals) (hk : kc ≤ Y.1.cells ∧ ks ≤ Y.1.slots) (hcat : (st.map fun v => v.category).sum ≤ 8) (hd : decode Y.2.1 pc = .ok (.invokestatic index, 3)) (hM : ∀ r τ, f = some (r, τ) → k_Ct k_ev y bytes maxL ret rm cw0 (k_D X) (k_I X) [v1, v2, v3, v4, v5] σ0 r τ) (kk : ∀ r τ, KO X Y cw kc ks Q (pc + 3) L (st) (put τ) (kf r τ)) : KO X Y cw kc ks Q pc L (v5 :: v4 :: v3 :: v2 :: v1 :: st) σ (k_ob f kf) := k_callS (As := [v1, v2, v3, v4, v5]) hin hok hm rfl hrm hR hk hcat hd rfl hM kk
theorem k_Vi6 {S0 : Type} {y : MethodName} {bytes : ByteArray} {maxL : Nat} {ret : Option FieldType} {index : Nat} {rm : Room} {cw0 : S0 → va_W} {σ0 : S0} {put : S0 → S} {b : Nat} {v1 v2 v3 v4 v5 v6 : Value} {f : Option (Int32 × S0)} {kf : Int32 → S0 → Option (Rt × S)} (hin : k_In cw σ cw0 σ0 put) (hok : k_Vok y bytes maxL ret 6) (hm : Cond.methodLink Y.2.2.2.1 index y ∈ k_ws) (hrv : ∃ (k ci : Nat) (fs : List Value) (q : vw_C), (cw σ)[k]? = some (b, .inr (ci, fs)) ∧ vwCl[ci]? = some q ∧ q.1 = y.cls) (hrm : rm.cells = 0 ∧ rm.slots = 0) (hR : rm.frames + 1 ≤ Y.1.frames ∧ 8 + (maxL + 11) + rm.locals ≤ Y.1.locals) (hk : kc ≤ Y.1.cells ∧ ks ≤ Y.1.slots) (hcat : (st.map fun v => v.category).sum ≤ 8) (hd : decode Y.2.1 pc = .ok (.invokevirtual index, 3)) (hM : ∀ r τ, f = some (r, τ) → k_Ct k_ei y bytes maxL ret rm cw0 (k_D X) (k_I X) (.ref b :: [v1, v2, v3, v4, v5, v6]) σ0 r τ) (kk : ∀ r τ, KO X Y cw kc ks Q (pc + 3) L (.int r :: st) (put τ) (kf r τ)) : KO X Y cw kc ks Q pc L (v6 :: v5 :: v4 :: v3 :: v2 :: v1 :: .ref b :: st) σ (k_ob f kf) := k_callV (As := [v1, v2, v3, v4, v5, v6]) hin hok hm hrv rfl hrm hR hk hcat hd rfl hM kk
theorem k_Si6 {S0 : Type} {y : MethodName} {bytes : ByteArray} {maxL : Nat} {ret : Option FieldType} {index : Nat} {rm : Room} {cw0 : S0 → va_W} {σ0 : S0} {put : S0 → S} {v1 v2 v3 v4 v5 v6 : Value} {f : Option (Int32 × S0)} {kf : Int32 → S0 → Option (Rt × S)} (hin : k_In cw σ cw0 σ0 put) (hok : k_Sok y bytes maxL ret 6) (hm : Cond.methodLink Y.2.2.2.1 index y ∈ k_ws) (hrm : rm.cells = 0 ∧ rm.slots = 0) (hR : rm.frames + 1 ≤ Y.1.frames ∧ 8 + (maxL + 11) + rm.locals ≤ Y.1.locals) (hk : kc ≤ Y.1.cells ∧ ks ≤ Y.1.slots) (hcat : (st.map fun v => v.category).sum ≤ 8) (hd : decode Y.2.1 pc = .ok (.invokestatic index, 3)) (hM : ∀ r τ, f = some (r, τ) → k_Ct k_ei y bytes maxL ret rm cw0 (k_D X) (k_I X) [v1, v2, v3, v4, v5, v6] σ0 r τ) (kk : ∀ r τ, KO X Y cw kc ks Q (pc + 3) L (.int r :: st) (put τ) (kf r τ)) : KO X Y cw kc ks Q pc L (v6 :: v5 :: v4 :: v3 :: v2 :: v1 :: st) σ (k_ob f kf) := k_callS (As := [v1, v2, v3, v4, v5, v6]) hin hok hm rfl hrm hR hk hcat hd rfl hM kk
theorem k_Vv6 {S0 : Type} {y : MethodName} {bytes : ByteArray} {maxL : Nat} {ret : Option FieldType} {index : Nat} {rm : Room} {cw0 : S0 → va_W} {σ0 : S0} {put : S0 → S} {b : Nat} {v1 v2 v3 v4 v5 v6 : Value} {f : Option (Unit × S0)} {kf : Unit → S0 → Option (Rt × S)} (hin : k_In cw σ cw0 σ0 put) (hok : k_Vok y bytes maxL ret 6) (hm : Cond.methodLink Y.2.2.2.1 index y ∈ k_ws) (hrv : ∃ (k ci : Nat) (fs : List Value) (q : vw_C), (cw σ)[k]? = some (b, .inr (ci, fs)) ∧ vwCl[ci]? = some q ∧ q.1 = y.cls) (hrm : rm.cells = 0 ∧ rm.slots = 0) (hR : rm.frames + 1 ≤ Y.1.frames ∧ 8 + (maxL + 11) + rm.locals ≤ Y.1.locals) (hk : kc ≤ Y.1.cells ∧ ks ≤ Y.1.slots) (hcat : (st.map fun v => v.category).sum ≤ 8) (hd : decode Y.2.1 pc = .ok (.invokevirtual index, 3)) (hM : ∀ r τ, f = some (r, τ) → k_Ct k_ev y bytes maxL ret rm cw0 (k_D X) (k_I X) (.ref b :: [v1, v2, v3, v4, v5, v6]) σ0 r τ) (kk : ∀ r τ, KO X Y cw kc ks Q (pc + 3) L (st) (put τ) (kf r τ)) : KO X Y cw kc ks Q pc L (v6 :: v5 :: v4 :: v3 :: v2 :: v1 :: .ref b :: st) σ (k_ob f kf) := k_callV (As := [v1, v2, v3, v4, v5, v6]) hin hok hm hrv rfl hrm hR hk hcat hd rfl hM kk
theorem k_Sv6 {S0 : Type} {y : MethodName} {bytes : ByteArray} {maxL : Nat} {ret : Option FieldType} {index : Nat} {rm : Room} {cw0 : S0 → va_W} {σ0 : S0} {put : S0 → S} {v1 v2 v3 v4 v5 v6 : Value} {f : Option (Unit × S0)} {kf : Unit → S0 → Option (Rt × S)} (hin : k_In cw σ cw0 σ0 put) (hok : k_Sok y bytes maxL ret 6) (hm : Cond.methodLink Y.2.2.2.1 index y ∈ k_ws) (hrm : rm.cells = 0 ∧ rm.slots = 0) (hR : rm.frames + 1 ≤ Y.1.frames ∧ 8 + (maxL + 11) + rm.locals ≤ Y.1.locals) (hk : kc ≤ Y.1.cells ∧ ks ≤ Y.1.slots) (hcat : (st.map fun v => v.category).sum ≤ 8) (hd : decode Y.2.1 pc = .ok (.invokestatic index, 3)) (hM : ∀ r τ, f = some (r, τ) → k_Ct k_ev y bytes maxL ret rm cw0 (k_D X) (k_I X) [v1, v2, v3, v4, v5, v6] σ0 r τ) (kk : ∀ r τ, KO X Y cw kc ks Q (pc + 3) L (st) (put τ) (kf r τ)) : KO X Y cw kc ks Q pc L (v6 :: v5 :: v4 :: v3 :: v2 :: v1 :: st) σ (k_ob f kf) := k_callS (As := [v1, v2, v3, v4, v5, v6]) hin hok hm rfl hrm hR hk hcat hd rfl hM kk
end KR3
end
section
/-! ===== worlds: the class (cT), the reference (cM); fields and arrays by number (by program: wip/gen/worlds.py) ===== -/
theorem k_same_of {S : Type} {cw : S → va_W} (h : ∀ σ τ, (cw σ).map Prod.fst = (cw τ).map Prod.fst) : k_same cw := by
  intro σ τ k q hk
  have h1 : ((cw τ).map Prod.fst)[k]? = some q.1 := by rw [← h σ τ, List.getElem?_map, hk]; rfl
  rw [List.getElem?_map] at h1
  cases hq : (cw τ)[k]? with
  | none => rw [hq] at h1; cases h1
  | some q2 => rw [hq] at h1; exact ⟨q2.2, by rw [← (Option.some.inj h1 : q2.1 = q.1)]⟩
/-- T: TallTales.sheets: ref 1; TallTales.text: ref 2; TallTales.house: ref 3; TallTales.talls: ref 4; TallTales.rests: ref 5; TallTales.winter: ref 6; TallTales.lying: ref 7; TallTales.trace: int 0; TallTales.fault: int 1; TallTales$Sheets.cells: ref 8; TallTales$Sheets.sorts: ref 9; TallTales$Sheets.lengths: ref 10; TallTales$Text.codes: ref 11; TallTales$Text.length: int 2; TallTales$House.guests: int 3; TallTales$House.tales: int 4; TallTales$House.memory: int 5; TallTales$House.nights: int 6; TallTales$House.kinds: ref 12; TallTales$House.owners: ref 13; TallTales$House.heights: ref 14; TallTales$House.told: ref 15; TallTales$House.last: ref 16; TallTales$House.chosen: ref 17; TallTales$House.nightTale: ref 18; TallTales$House.nightPlace: ref 19; TallTales$House.nightTall: ref 20; TallTales$Talls.of: ref 21; TallTales$Talls.guests: int 7; TallTales$Rests.house: ref 3; TallTales$Rests.talls: ref 4; TallTales$Rests.picks: ref 22; TallTales$Rests.first: ref 23; TallTales$Rests.count: int 8; TallTales$Winter.house: ref 3; TallTales$Winter.numbers: ref 24; TallTales$Winter.ahead: ref 25; TallTales$Winter.told: ref 26; TallTales$Winter.last: ref 27; TallTales$Winter.row: ref 28; TallTales$Winter.first: ref 29; TallTales$Winter.guest: int 9; TallTales$Winter.length: int 10; TallTales$Winter.most: int 11 -/
def cT (cI : ClassId) (q : Nat → Nat) (σ : k_S) : va_W := [(q 0, .inr (6, [.ref (q 1), .ref (q 2), .ref (q 3), .ref (q 4), .ref (q 5), .ref (q 6), .ref (q 7), .int (σ.1 0), .int (σ.1 1)])), (q 1, .inr (2, [.ref (q 8), .ref (q 9), .ref (q 10)])), (q 2, .inr (4, [.ref (q 11), .int (σ.1 2)])), (q 3, .inr (0, [.int (σ.1 3), .int (σ.1 4), .int (σ.1 5), .int (σ.1 6), .ref (q 12), .ref (q 13), .ref (q 14), .ref (q 15), .ref (q 16), .ref (q 17), .ref (q 18), .ref (q 19), .ref (q 20)])), (q 4, .inr (3, [.ref (q 21), .int (σ.1 7)])), (q 5, .inr (1, [.ref (q 3), .ref (q 4), .ref (q 22), .ref (q 23), .int (σ.1 8)])), (q 6, .inr (5, [.ref (q 3), .ref (q 24), .ref (q 25), .ref (q 26), .ref (q 27), .ref (q 28), .ref (q 29), .int (σ.1 9), .int (σ.1 10), .int (σ.1 11)])), (q 7, .inl (cI, 5, .inl (σ.2 0))), (q 8, .inl (cI, 240, .inl (σ.2 1))), (q 9, .inl (cI, 4, .inl (σ.2 2))), (q 10, .inl (cI, 4, .inl (σ.2 3))), (q 11, .inl (cI, 60, .inl (σ.2 4))), (q 12, .inl (cI, 10, .inl (σ.2 5))), (q 13, .inl (cI, 10, .inl (σ.2 6))), (q 14, .inl (cI, 10, .inl (σ.2 7))), (q 15, .inl (cI, 10, .inl (σ.2 8))), (q 16, .inl (cI, 10, .inl (σ.2 9))), (q 17, .inl (cI, 5, .inl (σ.2 10))), (q 18, .inl (cI, 300, .inl (σ.2 11))), (q 19, .inl (cI, 300, .inl (σ.2 12))), (q 20, .inl (cI, 300, .inl (σ.2 13))), (q 21, .inl (cI, 5, .inl (σ.2 14))), (q 22, .inl (cI, 5, .inl (σ.2 15))), (q 23, .inl (cI, 5, .inl (σ.2 16))), (q 24, .inl (cI, 6, .inl (σ.2 17))), (q 25, .inl (cI, 7, .inl (σ.2 18))), (q 26, .inl (cI, 10, .inl (σ.2 19))), (q 27, .inl (cI, 10, .inl (σ.2 20))), (q 28, .inl (cI, 6, .inl (σ.2 21))), (q 29, .inl (cI, 6, .inl (σ.2 22)))]
theorem cT_same (cI : ClassId) (q : Nat → Nat) : k_same (cT cI q) := k_same_of fun _ _ => rfl
theorem cT_rv0 {cI : ClassId} {q : Nat → Nat} {σ : k_S} : ∃ (k ci : Nat) (fs : List Value) (qc : vw_C), (cT cI q σ)[k]? = some (q 0, .inr (ci, fs)) ∧ vwCl[ci]? = some qc ∧ qc.1 = RX6 := ⟨0, 6, _, _, rfl, rfl, rfl⟩
theorem cT_rv1 {cI : ClassId} {q : Nat → Nat} {σ : k_S} : ∃ (k ci : Nat) (fs : List Value) (qc : vw_C), (cT cI q σ)[k]? = some (q 1, .inr (ci, fs)) ∧ vwCl[ci]? = some qc ∧ qc.1 = RX2 := ⟨1, 2, _, _, rfl, rfl, rfl⟩
theorem cT_rv2 {cI : ClassId} {q : Nat → Nat} {σ : k_S} : ∃ (k ci : Nat) (fs : List Value) (qc : vw_C), (cT cI q σ)[k]? = some (q 2, .inr (ci, fs)) ∧ vwCl[ci]? = some qc ∧ qc.1 = RX4 := ⟨2, 4, _, _, rfl, rfl, rfl⟩
theorem cT_rv3 {cI : ClassId} {q : Nat → Nat} {σ : k_S} : ∃ (k ci : Nat) (fs : List Value) (qc : vw_C), (cT cI q σ)[k]? = some (q 3, .inr (ci, fs)) ∧ vwCl[ci]? = some qc ∧ qc.1 = RX0 := ⟨3, 0, _, _, rfl, rfl, rfl⟩
theorem cT_rv4 {cI : ClassId} {q : Nat → Nat} {σ : k_S} : ∃ (k ci : Nat) (fs : List Value) (qc : vw_C), (cT cI q σ)[k]? = some (q 4, .inr (ci, fs)) ∧ vwCl[ci]? = some qc ∧ qc.1 = RX3 := ⟨4, 3, _, _, rfl, rfl, rfl⟩
theorem cT_rv5 {cI : ClassId} {q : Nat → Nat} {σ : k_S} : ∃ (k ci : Nat) (fs : List Value) (qc : vw_C), (cT cI q σ)[k]? = some (q 5, .inr (ci, fs)) ∧ vwCl[ci]? = some qc ∧ qc.1 = RX1 := ⟨5, 1, _, _, rfl, rfl, rfl⟩
theorem cT_rv6 {cI : ClassId} {q : Nat → Nat} {σ : k_S} : ∃ (k ci : Nat) (fs : List Value) (qc : vw_C), (cT cI q σ)[k]? = some (q 6, .inr (ci, fs)) ∧ vwCl[ci]? = some qc ∧ qc.1 = RX5 := ⟨6, 5, _, _, rfl, rfl, rfl⟩
theorem k_gTX6_sheets {Rt : Type} {X : k_C} {Y : k_Y} {q : Nat → Nat} {kc ks : Nat} {Q : Rt → k_S → State → Prop} {pc : Nat} {L : List (Option Value)} {st : List Value} {σ : k_S} {o : Option (Rt × k_S)} {own : String} {index : Nat} (hw : Cond.fieldLink own index "TallTales" "sheets" "LTallTales$Sheets;" ∈ k_ws) (hown : own = Y.2.2.2.1) (hd : decode Y.2.1 pc = .ok (.getfield index, 3)) (kk : KO X Y (cT (k_I X) q) kc ks Q (pc + 3) L (.ref (q 1) :: st) σ o) : KO X Y (cT (k_I X) q) kc ks Q pc L (.ref (q 0) :: st) σ o := k_get (T := TX6) (ci := 6) 0 rfl rfl kinX6 0 (by decide) rfl hown hw rfl hd kk
theorem k_gTX6_text {Rt : Type} {X : k_C} {Y : k_Y} {q : Nat → Nat} {kc ks : Nat} {Q : Rt → k_S → State → Prop} {pc : Nat} {L : List (Option Value)} {st : List Value} {σ : k_S} {o : Option (Rt × k_S)} {own : String} {index : Nat} (hw : Cond.fieldLink own index "TallTales" "text" "LTallTales$Text;" ∈ k_ws) (hown : own = Y.2.2.2.1) (hd : decode Y.2.1 pc = .ok (.getfield index, 3)) (kk : KO X Y (cT (k_I X) q) kc ks Q (pc + 3) L (.ref (q 2) :: st) σ o) : KO X Y (cT (k_I X) q) kc ks Q pc L (.ref (q 0) :: st) σ o := k_get (T := TX6) (ci := 6) 0 rfl rfl kinX6 1 (by decide) rfl hown hw rfl hd kk
theorem k_gTX6_house {Rt : Type} {X : k_C} {Y : k_Y} {q : Nat → Nat} {kc ks : Nat} {Q : Rt → k_S → State → Prop} {pc : Nat} {L : List (Option Value)} {st : List Value} {σ : k_S} {o : Option (Rt × k_S)} {own : String} {index : Nat} (hw : Cond.fieldLink own index "TallTales" "house" "LTallTales$House;" ∈ k_ws) (hown : own = Y.2.2.2.1) (hd : decode Y.2.1 pc = .ok (.getfield index, 3)) (kk : KO X Y (cT (k_I X) q) kc ks Q (pc + 3) L (.ref (q 3) :: st) σ o) : KO X Y (cT (k_I X) q) kc ks Q pc L (.ref (q 0) :: st) σ o := k_get (T := TX6) (ci := 6) 0 rfl rfl kinX6 2 (by decide) rfl hown hw rfl hd kk
theorem k_gTX6_talls {Rt : Type} {X : k_C} {Y : k_Y} {q : Nat → Nat} {kc ks : Nat} {Q : Rt → k_S → State → Prop} {pc : Nat} {L : List (Option Value)} {st : List Value} {σ : k_S} {o : Option (Rt × k_S)} {own : String} {index : Nat} (hw : Cond.fieldLink own index "TallTales" "talls" "LTallTales$Talls;" ∈ k_ws) (hown : own = Y.2.2.2.1) (hd : decode Y.2.1 pc = .ok (.getfield index, 3)) (kk : KO X Y (cT (k_I X) q) kc ks Q (pc + 3) L (.ref (q 4) :: st) σ o) : KO X Y (cT (k_I X) q) kc ks Q pc L (.ref (q 0) :: st) σ o := k_get (T := TX6) (ci := 6) 0 rfl rfl kinX6 3 (by decide) rfl hown hw rfl hd kk
theorem k_gTX6_rests {Rt : Type} {X : k_C} {Y : k_Y} {q : Nat → Nat} {kc ks : Nat} {Q : Rt → k_S → State → Prop} {pc : Nat} {L : List (Option Value)} {st : List Value} {σ : k_S} {o : Option (Rt × k_S)} {own : String} {index : Nat} (hw : Cond.fieldLink own index "TallTales" "rests" "LTallTales$Rests;" ∈ k_ws) (hown : own = Y.2.2.2.1) (hd : decode Y.2.1 pc = .ok (.getfield index, 3)) (kk : KO X Y (cT (k_I X) q) kc ks Q (pc + 3) L (.ref (q 5) :: st) σ o) : KO X Y (cT (k_I X) q) kc ks Q pc L (.ref (q 0) :: st) σ o := k_get (T := TX6) (ci := 6) 0 rfl rfl kinX6 4 (by decide) rfl hown hw rfl hd kk
theorem k_gTX6_winter {Rt : Type} {X : k_C} {Y : k_Y} {q : Nat → Nat} {kc ks : Nat} {Q : Rt → k_S → State → Prop} {pc : Nat} {L : List (Option Value)} {st : List Value} {σ : k_S} {o : Option (Rt × k_S)} {own : String} {index : Nat} (hw : Cond.fieldLink own index "TallTales" "winter" "LTallTales$Winter;" ∈ k_ws) (hown : own = Y.2.2.2.1) (hd : decode Y.2.1 pc = .ok (.getfield index, 3)) (kk : KO X Y (cT (k_I X) q) kc ks Q (pc + 3) L (.ref (q 6) :: st) σ o) : KO X Y (cT (k_I X) q) kc ks Q pc L (.ref (q 0) :: st) σ o := k_get (T := TX6) (ci := 6) 0 rfl rfl kinX6 5 (by decide) rfl hown hw rfl hd kk
theorem k_gTX6_lying {Rt : Type} {X : k_C} {Y : k_Y} {q : Nat → Nat} {kc ks : Nat} {Q : Rt → k_S → State → Prop} {pc : Nat} {L : List (Option Value)} {st : List Value} {σ : k_S} {o : Option (Rt × k_S)} {own : String} {index : Nat} (hw : Cond.fieldLink own index "TallTales" "lying" "[I" ∈ k_ws) (hown : own = Y.2.2.2.1) (hd : decode Y.2.1 pc = .ok (.getfield index, 3)) (kk : KO X Y (cT (k_I X) q) kc ks Q (pc + 3) L (.ref (q 7) :: st) σ o) : KO X Y (cT (k_I X) q) kc ks Q pc L (.ref (q 0) :: st) σ o := k_get (T := TX6) (ci := 6) 0 rfl rfl kinX6 6 (by decide) rfl hown hw rfl hd kk
theorem k_gTX6_trace {Rt : Type} {X : k_C} {Y : k_Y} {q : Nat → Nat} {kc ks : Nat} {Q : Rt → k_S → State → Prop} {pc : Nat} {L : List (Option Value)} {st : List Value} {σ : k_S} {o : Option (Rt × k_S)} {own : String} {index : Nat} (hw : Cond.fieldLink own index "TallTales" "trace" "I" ∈ k_ws) (hown : own = Y.2.2.2.1) (hd : decode Y.2.1 pc = .ok (.getfield index, 3)) (kk : KO X Y (cT (k_I X) q) kc ks Q (pc + 3) L (.int (σ.1 0) :: st) σ o) : KO X Y (cT (k_I X) q) kc ks Q pc L (.ref (q 0) :: st) σ o := k_get (T := TX6) (ci := 6) 0 rfl rfl kinX6 7 (by decide) rfl hown hw rfl hd kk
theorem k_pTX6_trace {Rt : Type} {X : k_C} {Y : k_Y} {q : Nat → Nat} {kc ks : Nat} {Q : Rt → k_S → State → Prop} {pc : Nat} {L : List (Option Value)} {st : List Value} {σ : k_S} {x : Int32} {kf : k_S → Option (Rt × k_S)} {own : String} {index : Nat} (hw : Cond.fieldLink own index "TallTales" "trace" "I" ∈ k_ws) (hown : own = Y.2.2.2.1) (hd : decode Y.2.1 pc = .ok (.putfield index, 3)) (kk : ∀ σ' : k_S, KO X Y (cT (k_I X) q) kc ks Q (pc + 3) L st σ' (kf σ')) : KO X Y (cT (k_I X) q) kc ks Q pc L (.int x :: .ref (q 0) :: st) σ (k_bn (k_sf σ 0 x) kf) := k_put (T := TX6) (ci := 6) 0 rfl rfl kinX6 tyX6_ok nmX6 7 (by decide) rfl rfl rfl rfl hown hw rfl hd kk
theorem k_gTX6_fault {Rt : Type} {X : k_C} {Y : k_Y} {q : Nat → Nat} {kc ks : Nat} {Q : Rt → k_S → State → Prop} {pc : Nat} {L : List (Option Value)} {st : List Value} {σ : k_S} {o : Option (Rt × k_S)} {own : String} {index : Nat} (hw : Cond.fieldLink own index "TallTales" "fault" "I" ∈ k_ws) (hown : own = Y.2.2.2.1) (hd : decode Y.2.1 pc = .ok (.getfield index, 3)) (kk : KO X Y (cT (k_I X) q) kc ks Q (pc + 3) L (.int (σ.1 1) :: st) σ o) : KO X Y (cT (k_I X) q) kc ks Q pc L (.ref (q 0) :: st) σ o := k_get (T := TX6) (ci := 6) 0 rfl rfl kinX6 8 (by decide) rfl hown hw rfl hd kk
theorem k_pTX6_fault {Rt : Type} {X : k_C} {Y : k_Y} {q : Nat → Nat} {kc ks : Nat} {Q : Rt → k_S → State → Prop} {pc : Nat} {L : List (Option Value)} {st : List Value} {σ : k_S} {x : Int32} {kf : k_S → Option (Rt × k_S)} {own : String} {index : Nat} (hw : Cond.fieldLink own index "TallTales" "fault" "I" ∈ k_ws) (hown : own = Y.2.2.2.1) (hd : decode Y.2.1 pc = .ok (.putfield index, 3)) (kk : ∀ σ' : k_S, KO X Y (cT (k_I X) q) kc ks Q (pc + 3) L st σ' (kf σ')) : KO X Y (cT (k_I X) q) kc ks Q pc L (.int x :: .ref (q 0) :: st) σ (k_bn (k_sf σ 1 x) kf) := k_put (T := TX6) (ci := 6) 0 rfl rfl kinX6 tyX6_ok nmX6 8 (by decide) rfl rfl rfl rfl hown hw rfl hd kk
theorem k_gTX2_cells {Rt : Type} {X : k_C} {Y : k_Y} {q : Nat → Nat} {kc ks : Nat} {Q : Rt → k_S → State → Prop} {pc : Nat} {L : List (Option Value)} {st : List Value} {σ : k_S} {o : Option (Rt × k_S)} {own : String} {index : Nat} (hw : Cond.fieldLink own index "TallTales$Sheets" "cells" "[I" ∈ k_ws) (hown : own = Y.2.2.2.1) (hd : decode Y.2.1 pc = .ok (.getfield index, 3)) (kk : KO X Y (cT (k_I X) q) kc ks Q (pc + 3) L (.ref (q 8) :: st) σ o) : KO X Y (cT (k_I X) q) kc ks Q pc L (.ref (q 1) :: st) σ o := k_get (T := TX2) (ci := 2) 1 rfl rfl kinX2 0 (by decide) rfl hown hw rfl hd kk
theorem k_gTX2_sorts {Rt : Type} {X : k_C} {Y : k_Y} {q : Nat → Nat} {kc ks : Nat} {Q : Rt → k_S → State → Prop} {pc : Nat} {L : List (Option Value)} {st : List Value} {σ : k_S} {o : Option (Rt × k_S)} {own : String} {index : Nat} (hw : Cond.fieldLink own index "TallTales$Sheets" "sorts" "[I" ∈ k_ws) (hown : own = Y.2.2.2.1) (hd : decode Y.2.1 pc = .ok (.getfield index, 3)) (kk : KO X Y (cT (k_I X) q) kc ks Q (pc + 3) L (.ref (q 9) :: st) σ o) : KO X Y (cT (k_I X) q) kc ks Q pc L (.ref (q 1) :: st) σ o := k_get (T := TX2) (ci := 2) 1 rfl rfl kinX2 1 (by decide) rfl hown hw rfl hd kk
theorem k_gTX2_lengths {Rt : Type} {X : k_C} {Y : k_Y} {q : Nat → Nat} {kc ks : Nat} {Q : Rt → k_S → State → Prop} {pc : Nat} {L : List (Option Value)} {st : List Value} {σ : k_S} {o : Option (Rt × k_S)} {own : String} {index : Nat} (hw : Cond.fieldLink own index "TallTales$Sheets" "lengths" "[I" ∈ k_ws) (hown : own = Y.2.2.2.1) (hd : decode Y.2.1 pc = .ok (.getfield index, 3)) (kk : KO X Y (cT (k_I X) q) kc ks Q (pc + 3) L (.ref (q 10) :: st) σ o) : KO X Y (cT (k_I X) q) kc ks Q pc L (.ref (q 1) :: st) σ o := k_get (T := TX2) (ci := 2) 1 rfl rfl kinX2 2 (by decide) rfl hown hw rfl hd kk
theorem k_gTX4_codes {Rt : Type} {X : k_C} {Y : k_Y} {q : Nat → Nat} {kc ks : Nat} {Q : Rt → k_S → State → Prop} {pc : Nat} {L : List (Option Value)} {st : List Value} {σ : k_S} {o : Option (Rt × k_S)} {own : String} {index : Nat} (hw : Cond.fieldLink own index "TallTales$Text" "codes" "[I" ∈ k_ws) (hown : own = Y.2.2.2.1) (hd : decode Y.2.1 pc = .ok (.getfield index, 3)) (kk : KO X Y (cT (k_I X) q) kc ks Q (pc + 3) L (.ref (q 11) :: st) σ o) : KO X Y (cT (k_I X) q) kc ks Q pc L (.ref (q 2) :: st) σ o := k_get (T := TX4) (ci := 4) 2 rfl rfl kinX4 0 (by decide) rfl hown hw rfl hd kk
theorem k_gTX4_length {Rt : Type} {X : k_C} {Y : k_Y} {q : Nat → Nat} {kc ks : Nat} {Q : Rt → k_S → State → Prop} {pc : Nat} {L : List (Option Value)} {st : List Value} {σ : k_S} {o : Option (Rt × k_S)} {own : String} {index : Nat} (hw : Cond.fieldLink own index "TallTales$Text" "length" "I" ∈ k_ws) (hown : own = Y.2.2.2.1) (hd : decode Y.2.1 pc = .ok (.getfield index, 3)) (kk : KO X Y (cT (k_I X) q) kc ks Q (pc + 3) L (.int (σ.1 2) :: st) σ o) : KO X Y (cT (k_I X) q) kc ks Q pc L (.ref (q 2) :: st) σ o := k_get (T := TX4) (ci := 4) 2 rfl rfl kinX4 1 (by decide) rfl hown hw rfl hd kk
theorem k_pTX4_length {Rt : Type} {X : k_C} {Y : k_Y} {q : Nat → Nat} {kc ks : Nat} {Q : Rt → k_S → State → Prop} {pc : Nat} {L : List (Option Value)} {st : List Value} {σ : k_S} {x : Int32} {kf : k_S → Option (Rt × k_S)} {own : String} {index : Nat} (hw : Cond.fieldLink own index "TallTales$Text" "length" "I" ∈ k_ws) (hown : own = Y.2.2.2.1) (hd : decode Y.2.1 pc = .ok (.putfield index, 3)) (kk : ∀ σ' : k_S, KO X Y (cT (k_I X) q) kc ks Q (pc + 3) L st σ' (kf σ')) : KO X Y (cT (k_I X) q) kc ks Q pc L (.int x :: .ref (q 2) :: st) σ (k_bn (k_sf σ 2 x) kf) := k_put (T := TX4) (ci := 4) 2 rfl rfl kinX4 tyX4_ok nmX4 1 (by decide) rfl rfl rfl rfl hown hw rfl hd kk
theorem k_gTX0_guests {Rt : Type} {X : k_C} {Y : k_Y} {q : Nat → Nat} {kc ks : Nat} {Q : Rt → k_S → State → Prop} {pc : Nat} {L : List (Option Value)} {st : List Value} {σ : k_S} {o : Option (Rt × k_S)} {own : String} {index : Nat} (hw : Cond.fieldLink own index "TallTales$House" "guests" "I" ∈ k_ws) (hown : own = Y.2.2.2.1) (hd : decode Y.2.1 pc = .ok (.getfield index, 3)) (kk : KO X Y (cT (k_I X) q) kc ks Q (pc + 3) L (.int (σ.1 3) :: st) σ o) : KO X Y (cT (k_I X) q) kc ks Q pc L (.ref (q 3) :: st) σ o := k_get (T := TX0) (ci := 0) 3 rfl rfl kinX0 0 (by decide) rfl hown hw rfl hd kk
theorem k_pTX0_guests {Rt : Type} {X : k_C} {Y : k_Y} {q : Nat → Nat} {kc ks : Nat} {Q : Rt → k_S → State → Prop} {pc : Nat} {L : List (Option Value)} {st : List Value} {σ : k_S} {x : Int32} {kf : k_S → Option (Rt × k_S)} {own : String} {index : Nat} (hw : Cond.fieldLink own index "TallTales$House" "guests" "I" ∈ k_ws) (hown : own = Y.2.2.2.1) (hd : decode Y.2.1 pc = .ok (.putfield index, 3)) (kk : ∀ σ' : k_S, KO X Y (cT (k_I X) q) kc ks Q (pc + 3) L st σ' (kf σ')) : KO X Y (cT (k_I X) q) kc ks Q pc L (.int x :: .ref (q 3) :: st) σ (k_bn (k_sf σ 3 x) kf) := k_put (T := TX0) (ci := 0) 3 rfl rfl kinX0 tyX0_ok nmX0 0 (by decide) rfl rfl rfl rfl hown hw rfl hd kk
theorem k_gTX0_tales {Rt : Type} {X : k_C} {Y : k_Y} {q : Nat → Nat} {kc ks : Nat} {Q : Rt → k_S → State → Prop} {pc : Nat} {L : List (Option Value)} {st : List Value} {σ : k_S} {o : Option (Rt × k_S)} {own : String} {index : Nat} (hw : Cond.fieldLink own index "TallTales$House" "tales" "I" ∈ k_ws) (hown : own = Y.2.2.2.1) (hd : decode Y.2.1 pc = .ok (.getfield index, 3)) (kk : KO X Y (cT (k_I X) q) kc ks Q (pc + 3) L (.int (σ.1 4) :: st) σ o) : KO X Y (cT (k_I X) q) kc ks Q pc L (.ref (q 3) :: st) σ o := k_get (T := TX0) (ci := 0) 3 rfl rfl kinX0 1 (by decide) rfl hown hw rfl hd kk
theorem k_pTX0_tales {Rt : Type} {X : k_C} {Y : k_Y} {q : Nat → Nat} {kc ks : Nat} {Q : Rt → k_S → State → Prop} {pc : Nat} {L : List (Option Value)} {st : List Value} {σ : k_S} {x : Int32} {kf : k_S → Option (Rt × k_S)} {own : String} {index : Nat} (hw : Cond.fieldLink own index "TallTales$House" "tales" "I" ∈ k_ws) (hown : own = Y.2.2.2.1) (hd : decode Y.2.1 pc = .ok (.putfield index, 3)) (kk : ∀ σ' : k_S, KO X Y (cT (k_I X) q) kc ks Q (pc + 3) L st σ' (kf σ')) : KO X Y (cT (k_I X) q) kc ks Q pc L (.int x :: .ref (q 3) :: st) σ (k_bn (k_sf σ 4 x) kf) := k_put (T := TX0) (ci := 0) 3 rfl rfl kinX0 tyX0_ok nmX0 1 (by decide) rfl rfl rfl rfl hown hw rfl hd kk
theorem k_gTX0_memory {Rt : Type} {X : k_C} {Y : k_Y} {q : Nat → Nat} {kc ks : Nat} {Q : Rt → k_S → State → Prop} {pc : Nat} {L : List (Option Value)} {st : List Value} {σ : k_S} {o : Option (Rt × k_S)} {own : String} {index : Nat} (hw : Cond.fieldLink own index "TallTales$House" "memory" "I" ∈ k_ws) (hown : own = Y.2.2.2.1) (hd : decode Y.2.1 pc = .ok (.getfield index, 3)) (kk : KO X Y (cT (k_I X) q) kc ks Q (pc + 3) L (.int (σ.1 5) :: st) σ o) : KO X Y (cT (k_I X) q) kc ks Q pc L (.ref (q 3) :: st) σ o := k_get (T := TX0) (ci := 0) 3 rfl rfl kinX0 2 (by decide) rfl hown hw rfl hd kk
theorem k_pTX0_memory {Rt : Type} {X : k_C} {Y : k_Y} {q : Nat → Nat} {kc ks : Nat} {Q : Rt → k_S → State → Prop} {pc : Nat} {L : List (Option Value)} {st : List Value} {σ : k_S} {x : Int32} {kf : k_S → Option (Rt × k_S)} {own : String} {index : Nat} (hw : Cond.fieldLink own index "TallTales$House" "memory" "I" ∈ k_ws) (hown : own = Y.2.2.2.1) (hd : decode Y.2.1 pc = .ok (.putfield index, 3)) (kk : ∀ σ' : k_S, KO X Y (cT (k_I X) q) kc ks Q (pc + 3) L st σ' (kf σ')) : KO X Y (cT (k_I X) q) kc ks Q pc L (.int x :: .ref (q 3) :: st) σ (k_bn (k_sf σ 5 x) kf) := k_put (T := TX0) (ci := 0) 3 rfl rfl kinX0 tyX0_ok nmX0 2 (by decide) rfl rfl rfl rfl hown hw rfl hd kk
theorem k_gTX0_nights {Rt : Type} {X : k_C} {Y : k_Y} {q : Nat → Nat} {kc ks : Nat} {Q : Rt → k_S → State → Prop} {pc : Nat} {L : List (Option Value)} {st : List Value} {σ : k_S} {o : Option (Rt × k_S)} {own : String} {index : Nat} (hw : Cond.fieldLink own index "TallTales$House" "nights" "I" ∈ k_ws) (hown : own = Y.2.2.2.1) (hd : decode Y.2.1 pc = .ok (.getfield index, 3)) (kk : KO X Y (cT (k_I X) q) kc ks Q (pc + 3) L (.int (σ.1 6) :: st) σ o) : KO X Y (cT (k_I X) q) kc ks Q pc L (.ref (q 3) :: st) σ o := k_get (T := TX0) (ci := 0) 3 rfl rfl kinX0 3 (by decide) rfl hown hw rfl hd kk
theorem k_pTX0_nights {Rt : Type} {X : k_C} {Y : k_Y} {q : Nat → Nat} {kc ks : Nat} {Q : Rt → k_S → State → Prop} {pc : Nat} {L : List (Option Value)} {st : List Value} {σ : k_S} {x : Int32} {kf : k_S → Option (Rt × k_S)} {own : String} {index : Nat} (hw : Cond.fieldLink own index "TallTales$House" "nights" "I" ∈ k_ws) (hown : own = Y.2.2.2.1) (hd : decode Y.2.1 pc = .ok (.putfield index, 3)) (kk : ∀ σ' : k_S, KO X Y (cT (k_I X) q) kc ks Q (pc + 3) L st σ' (kf σ')) : KO X Y (cT (k_I X) q) kc ks Q pc L (.int x :: .ref (q 3) :: st) σ (k_bn (k_sf σ 6 x) kf) := k_put (T := TX0) (ci := 0) 3 rfl rfl kinX0 tyX0_ok nmX0 3 (by decide) rfl rfl rfl rfl hown hw rfl hd kk
theorem k_gTX0_kinds {Rt : Type} {X : k_C} {Y : k_Y} {q : Nat → Nat} {kc ks : Nat} {Q : Rt → k_S → State → Prop} {pc : Nat} {L : List (Option Value)} {st : List Value} {σ : k_S} {o : Option (Rt × k_S)} {own : String} {index : Nat} (hw : Cond.fieldLink own index "TallTales$House" "kinds" "[I" ∈ k_ws) (hown : own = Y.2.2.2.1) (hd : decode Y.2.1 pc = .ok (.getfield index, 3)) (kk : KO X Y (cT (k_I X) q) kc ks Q (pc + 3) L (.ref (q 12) :: st) σ o) : KO X Y (cT (k_I X) q) kc ks Q pc L (.ref (q 3) :: st) σ o := k_get (T := TX0) (ci := 0) 3 rfl rfl kinX0 4 (by decide) rfl hown hw rfl hd kk
theorem k_gTX0_owners {Rt : Type} {X : k_C} {Y : k_Y} {q : Nat → Nat} {kc ks : Nat} {Q : Rt → k_S → State → Prop} {pc : Nat} {L : List (Option Value)} {st : List Value} {σ : k_S} {o : Option (Rt × k_S)} {own : String} {index : Nat} (hw : Cond.fieldLink own index "TallTales$House" "owners" "[I" ∈ k_ws) (hown : own = Y.2.2.2.1) (hd : decode Y.2.1 pc = .ok (.getfield index, 3)) (kk : KO X Y (cT (k_I X) q) kc ks Q (pc + 3) L (.ref (q 13) :: st) σ o) : KO X Y (cT (k_I X) q) kc ks Q pc L (.ref (q 3) :: st) σ o := k_get (T := TX0) (ci := 0) 3 rfl rfl kinX0 5 (by decide) rfl hown hw rfl hd kk
theorem k_gTX0_heights {Rt : Type} {X : k_C} {Y : k_Y} {q : Nat → Nat} {kc ks : Nat} {Q : Rt → k_S → State → Prop} {pc : Nat} {L : List (Option Value)} {st : List Value} {σ : k_S} {o : Option (Rt × k_S)} {own : String} {index : Nat} (hw : Cond.fieldLink own index "TallTales$House" "heights" "[I" ∈ k_ws) (hown : own = Y.2.2.2.1) (hd : decode Y.2.1 pc = .ok (.getfield index, 3)) (kk : KO X Y (cT (k_I X) q) kc ks Q (pc + 3) L (.ref (q 14) :: st) σ o) : KO X Y (cT (k_I X) q) kc ks Q pc L (.ref (q 3) :: st) σ o := k_get (T := TX0) (ci := 0) 3 rfl rfl kinX0 6 (by decide) rfl hown hw rfl hd kk
theorem k_gTX0_told {Rt : Type} {X : k_C} {Y : k_Y} {q : Nat → Nat} {kc ks : Nat} {Q : Rt → k_S → State → Prop} {pc : Nat} {L : List (Option Value)} {st : List Value} {σ : k_S} {o : Option (Rt × k_S)} {own : String} {index : Nat} (hw : Cond.fieldLink own index "TallTales$House" "told" "[I" ∈ k_ws) (hown : own = Y.2.2.2.1) (hd : decode Y.2.1 pc = .ok (.getfield index, 3)) (kk : KO X Y (cT (k_I X) q) kc ks Q (pc + 3) L (.ref (q 15) :: st) σ o) : KO X Y (cT (k_I X) q) kc ks Q pc L (.ref (q 3) :: st) σ o := k_get (T := TX0) (ci := 0) 3 rfl rfl kinX0 7 (by decide) rfl hown hw rfl hd kk
theorem k_gTX0_last {Rt : Type} {X : k_C} {Y : k_Y} {q : Nat → Nat} {kc ks : Nat} {Q : Rt → k_S → State → Prop} {pc : Nat} {L : List (Option Value)} {st : List Value} {σ : k_S} {o : Option (Rt × k_S)} {own : String} {index : Nat} (hw : Cond.fieldLink own index "TallTales$House" "last" "[I" ∈ k_ws) (hown : own = Y.2.2.2.1) (hd : decode Y.2.1 pc = .ok (.getfield index, 3)) (kk : KO X Y (cT (k_I X) q) kc ks Q (pc + 3) L (.ref (q 16) :: st) σ o) : KO X Y (cT (k_I X) q) kc ks Q pc L (.ref (q 3) :: st) σ o := k_get (T := TX0) (ci := 0) 3 rfl rfl kinX0 8 (by decide) rfl hown hw rfl hd kk
theorem k_gTX0_chosen {Rt : Type} {X : k_C} {Y : k_Y} {q : Nat → Nat} {kc ks : Nat} {Q : Rt → k_S → State → Prop} {pc : Nat} {L : List (Option Value)} {st : List Value} {σ : k_S} {o : Option (Rt × k_S)} {own : String} {index : Nat} (hw : Cond.fieldLink own index "TallTales$House" "chosen" "[I" ∈ k_ws) (hown : own = Y.2.2.2.1) (hd : decode Y.2.1 pc = .ok (.getfield index, 3)) (kk : KO X Y (cT (k_I X) q) kc ks Q (pc + 3) L (.ref (q 17) :: st) σ o) : KO X Y (cT (k_I X) q) kc ks Q pc L (.ref (q 3) :: st) σ o := k_get (T := TX0) (ci := 0) 3 rfl rfl kinX0 9 (by decide) rfl hown hw rfl hd kk
theorem k_gTX0_nightTale {Rt : Type} {X : k_C} {Y : k_Y} {q : Nat → Nat} {kc ks : Nat} {Q : Rt → k_S → State → Prop} {pc : Nat} {L : List (Option Value)} {st : List Value} {σ : k_S} {o : Option (Rt × k_S)} {own : String} {index : Nat} (hw : Cond.fieldLink own index "TallTales$House" "nightTale" "[I" ∈ k_ws) (hown : own = Y.2.2.2.1) (hd : decode Y.2.1 pc = .ok (.getfield index, 3)) (kk : KO X Y (cT (k_I X) q) kc ks Q (pc + 3) L (.ref (q 18) :: st) σ o) : KO X Y (cT (k_I X) q) kc ks Q pc L (.ref (q 3) :: st) σ o := k_get (T := TX0) (ci := 0) 3 rfl rfl kinX0 10 (by decide) rfl hown hw rfl hd kk
theorem k_gTX0_nightPlace {Rt : Type} {X : k_C} {Y : k_Y} {q : Nat → Nat} {kc ks : Nat} {Q : Rt → k_S → State → Prop} {pc : Nat} {L : List (Option Value)} {st : List Value} {σ : k_S} {o : Option (Rt × k_S)} {own : String} {index : Nat} (hw : Cond.fieldLink own index "TallTales$House" "nightPlace" "[I" ∈ k_ws) (hown : own = Y.2.2.2.1) (hd : decode Y.2.1 pc = .ok (.getfield index, 3)) (kk : KO X Y (cT (k_I X) q) kc ks Q (pc + 3) L (.ref (q 19) :: st) σ o) : KO X Y (cT (k_I X) q) kc ks Q pc L (.ref (q 3) :: st) σ o := k_get (T := TX0) (ci := 0) 3 rfl rfl kinX0 11 (by decide) rfl hown hw rfl hd kk
theorem k_gTX0_nightTall {Rt : Type} {X : k_C} {Y : k_Y} {q : Nat → Nat} {kc ks : Nat} {Q : Rt → k_S → State → Prop} {pc : Nat} {L : List (Option Value)} {st : List Value} {σ : k_S} {o : Option (Rt × k_S)} {own : String} {index : Nat} (hw : Cond.fieldLink own index "TallTales$House" "nightTall" "[I" ∈ k_ws) (hown : own = Y.2.2.2.1) (hd : decode Y.2.1 pc = .ok (.getfield index, 3)) (kk : KO X Y (cT (k_I X) q) kc ks Q (pc + 3) L (.ref (q 20) :: st) σ o) : KO X Y (cT (k_I X) q) kc ks Q pc L (.ref (q 3) :: st) σ o := k_get (T := TX0) (ci := 0) 3 rfl rfl kinX0 12 (by decide) rfl hown hw rfl hd kk
theorem k_gTX3_of {Rt : Type} {X : k_C} {Y : k_Y} {q : Nat → Nat} {kc ks : Nat} {Q : Rt → k_S → State → Prop} {pc : Nat} {L : List (Option Value)} {st : List Value} {σ : k_S} {o : Option (Rt × k_S)} {own : String} {index : Nat} (hw : Cond.fieldLink own index "TallTales$Talls" "of" "[I" ∈ k_ws) (hown : own = Y.2.2.2.1) (hd : decode Y.2.1 pc = .ok (.getfield index, 3)) (kk : KO X Y (cT (k_I X) q) kc ks Q (pc + 3) L (.ref (q 21) :: st) σ o) : KO X Y (cT (k_I X) q) kc ks Q pc L (.ref (q 4) :: st) σ o := k_get (T := TX3) (ci := 3) 4 rfl rfl kinX3 0 (by decide) rfl hown hw rfl hd kk
theorem k_gTX3_guests {Rt : Type} {X : k_C} {Y : k_Y} {q : Nat → Nat} {kc ks : Nat} {Q : Rt → k_S → State → Prop} {pc : Nat} {L : List (Option Value)} {st : List Value} {σ : k_S} {o : Option (Rt × k_S)} {own : String} {index : Nat} (hw : Cond.fieldLink own index "TallTales$Talls" "guests" "I" ∈ k_ws) (hown : own = Y.2.2.2.1) (hd : decode Y.2.1 pc = .ok (.getfield index, 3)) (kk : KO X Y (cT (k_I X) q) kc ks Q (pc + 3) L (.int (σ.1 7) :: st) σ o) : KO X Y (cT (k_I X) q) kc ks Q pc L (.ref (q 4) :: st) σ o := k_get (T := TX3) (ci := 3) 4 rfl rfl kinX3 1 (by decide) rfl hown hw rfl hd kk
theorem k_pTX3_guests {Rt : Type} {X : k_C} {Y : k_Y} {q : Nat → Nat} {kc ks : Nat} {Q : Rt → k_S → State → Prop} {pc : Nat} {L : List (Option Value)} {st : List Value} {σ : k_S} {x : Int32} {kf : k_S → Option (Rt × k_S)} {own : String} {index : Nat} (hw : Cond.fieldLink own index "TallTales$Talls" "guests" "I" ∈ k_ws) (hown : own = Y.2.2.2.1) (hd : decode Y.2.1 pc = .ok (.putfield index, 3)) (kk : ∀ σ' : k_S, KO X Y (cT (k_I X) q) kc ks Q (pc + 3) L st σ' (kf σ')) : KO X Y (cT (k_I X) q) kc ks Q pc L (.int x :: .ref (q 4) :: st) σ (k_bn (k_sf σ 7 x) kf) := k_put (T := TX3) (ci := 3) 4 rfl rfl kinX3 tyX3_ok nmX3 1 (by decide) rfl rfl rfl rfl hown hw rfl hd kk
theorem k_gTX1_house {Rt : Type} {X : k_C} {Y : k_Y} {q : Nat → Nat} {kc ks : Nat} {Q : Rt → k_S → State → Prop} {pc : Nat} {L : List (Option Value)} {st : List Value} {σ : k_S} {o : Option (Rt × k_S)} {own : String} {index : Nat} (hw : Cond.fieldLink own index "TallTales$Rests" "house" "LTallTales$House;" ∈ k_ws) (hown : own = Y.2.2.2.1) (hd : decode Y.2.1 pc = .ok (.getfield index, 3)) (kk : KO X Y (cT (k_I X) q) kc ks Q (pc + 3) L (.ref (q 3) :: st) σ o) : KO X Y (cT (k_I X) q) kc ks Q pc L (.ref (q 5) :: st) σ o := k_get (T := TX1) (ci := 1) 5 rfl rfl kinX1 0 (by decide) rfl hown hw rfl hd kk
theorem k_gTX1_talls {Rt : Type} {X : k_C} {Y : k_Y} {q : Nat → Nat} {kc ks : Nat} {Q : Rt → k_S → State → Prop} {pc : Nat} {L : List (Option Value)} {st : List Value} {σ : k_S} {o : Option (Rt × k_S)} {own : String} {index : Nat} (hw : Cond.fieldLink own index "TallTales$Rests" "talls" "LTallTales$Talls;" ∈ k_ws) (hown : own = Y.2.2.2.1) (hd : decode Y.2.1 pc = .ok (.getfield index, 3)) (kk : KO X Y (cT (k_I X) q) kc ks Q (pc + 3) L (.ref (q 4) :: st) σ o) : KO X Y (cT (k_I X) q) kc ks Q pc L (.ref (q 5) :: st) σ o := k_get (T := TX1) (ci := 1) 5 rfl rfl kinX1 1 (by decide) rfl hown hw rfl hd kk
theorem k_gTX1_picks {Rt : Type} {X : k_C} {Y : k_Y} {q : Nat → Nat} {kc ks : Nat} {Q : Rt → k_S → State → Prop} {pc : Nat} {L : List (Option Value)} {st : List Value} {σ : k_S} {o : Option (Rt × k_S)} {own : String} {index : Nat} (hw : Cond.fieldLink own index "TallTales$Rests" "picks" "[I" ∈ k_ws) (hown : own = Y.2.2.2.1) (hd : decode Y.2.1 pc = .ok (.getfield index, 3)) (kk : KO X Y (cT (k_I X) q) kc ks Q (pc + 3) L (.ref (q 22) :: st) σ o) : KO X Y (cT (k_I X) q) kc ks Q pc L (.ref (q 5) :: st) σ o := k_get (T := TX1) (ci := 1) 5 rfl rfl kinX1 2 (by decide) rfl hown hw rfl hd kk
theorem k_gTX1_first {Rt : Type} {X : k_C} {Y : k_Y} {q : Nat → Nat} {kc ks : Nat} {Q : Rt → k_S → State → Prop} {pc : Nat} {L : List (Option Value)} {st : List Value} {σ : k_S} {o : Option (Rt × k_S)} {own : String} {index : Nat} (hw : Cond.fieldLink own index "TallTales$Rests" "first" "[I" ∈ k_ws) (hown : own = Y.2.2.2.1) (hd : decode Y.2.1 pc = .ok (.getfield index, 3)) (kk : KO X Y (cT (k_I X) q) kc ks Q (pc + 3) L (.ref (q 23) :: st) σ o) : KO X Y (cT (k_I X) q) kc ks Q pc L (.ref (q 5) :: st) σ o := k_get (T := TX1) (ci := 1) 5 rfl rfl kinX1 3 (by decide) rfl hown hw rfl hd kk
theorem k_gTX1_count {Rt : Type} {X : k_C} {Y : k_Y} {q : Nat → Nat} {kc ks : Nat} {Q : Rt → k_S → State → Prop} {pc : Nat} {L : List (Option Value)} {st : List Value} {σ : k_S} {o : Option (Rt × k_S)} {own : String} {index : Nat} (hw : Cond.fieldLink own index "TallTales$Rests" "count" "I" ∈ k_ws) (hown : own = Y.2.2.2.1) (hd : decode Y.2.1 pc = .ok (.getfield index, 3)) (kk : KO X Y (cT (k_I X) q) kc ks Q (pc + 3) L (.int (σ.1 8) :: st) σ o) : KO X Y (cT (k_I X) q) kc ks Q pc L (.ref (q 5) :: st) σ o := k_get (T := TX1) (ci := 1) 5 rfl rfl kinX1 4 (by decide) rfl hown hw rfl hd kk
theorem k_pTX1_count {Rt : Type} {X : k_C} {Y : k_Y} {q : Nat → Nat} {kc ks : Nat} {Q : Rt → k_S → State → Prop} {pc : Nat} {L : List (Option Value)} {st : List Value} {σ : k_S} {x : Int32} {kf : k_S → Option (Rt × k_S)} {own : String} {index : Nat} (hw : Cond.fieldLink own index "TallTales$Rests" "count" "I" ∈ k_ws) (hown : own = Y.2.2.2.1) (hd : decode Y.2.1 pc = .ok (.putfield index, 3)) (kk : ∀ σ' : k_S, KO X Y (cT (k_I X) q) kc ks Q (pc + 3) L st σ' (kf σ')) : KO X Y (cT (k_I X) q) kc ks Q pc L (.int x :: .ref (q 5) :: st) σ (k_bn (k_sf σ 8 x) kf) := k_put (T := TX1) (ci := 1) 5 rfl rfl kinX1 tyX1_ok nmX1 4 (by decide) rfl rfl rfl rfl hown hw rfl hd kk
theorem k_gTX5_house {Rt : Type} {X : k_C} {Y : k_Y} {q : Nat → Nat} {kc ks : Nat} {Q : Rt → k_S → State → Prop} {pc : Nat} {L : List (Option Value)} {st : List Value} {σ : k_S} {o : Option (Rt × k_S)} {own : String} {index : Nat} (hw : Cond.fieldLink own index "TallTales$Winter" "house" "LTallTales$House;" ∈ k_ws) (hown : own = Y.2.2.2.1) (hd : decode Y.2.1 pc = .ok (.getfield index, 3)) (kk : KO X Y (cT (k_I X) q) kc ks Q (pc + 3) L (.ref (q 3) :: st) σ o) : KO X Y (cT (k_I X) q) kc ks Q pc L (.ref (q 6) :: st) σ o := k_get (T := TX5) (ci := 5) 6 rfl rfl kinX5 0 (by decide) rfl hown hw rfl hd kk
theorem k_gTX5_numbers {Rt : Type} {X : k_C} {Y : k_Y} {q : Nat → Nat} {kc ks : Nat} {Q : Rt → k_S → State → Prop} {pc : Nat} {L : List (Option Value)} {st : List Value} {σ : k_S} {o : Option (Rt × k_S)} {own : String} {index : Nat} (hw : Cond.fieldLink own index "TallTales$Winter" "numbers" "[I" ∈ k_ws) (hown : own = Y.2.2.2.1) (hd : decode Y.2.1 pc = .ok (.getfield index, 3)) (kk : KO X Y (cT (k_I X) q) kc ks Q (pc + 3) L (.ref (q 24) :: st) σ o) : KO X Y (cT (k_I X) q) kc ks Q pc L (.ref (q 6) :: st) σ o := k_get (T := TX5) (ci := 5) 6 rfl rfl kinX5 1 (by decide) rfl hown hw rfl hd kk
theorem k_gTX5_ahead {Rt : Type} {X : k_C} {Y : k_Y} {q : Nat → Nat} {kc ks : Nat} {Q : Rt → k_S → State → Prop} {pc : Nat} {L : List (Option Value)} {st : List Value} {σ : k_S} {o : Option (Rt × k_S)} {own : String} {index : Nat} (hw : Cond.fieldLink own index "TallTales$Winter" "ahead" "[I" ∈ k_ws) (hown : own = Y.2.2.2.1) (hd : decode Y.2.1 pc = .ok (.getfield index, 3)) (kk : KO X Y (cT (k_I X) q) kc ks Q (pc + 3) L (.ref (q 25) :: st) σ o) : KO X Y (cT (k_I X) q) kc ks Q pc L (.ref (q 6) :: st) σ o := k_get (T := TX5) (ci := 5) 6 rfl rfl kinX5 2 (by decide) rfl hown hw rfl hd kk
theorem k_gTX5_told {Rt : Type} {X : k_C} {Y : k_Y} {q : Nat → Nat} {kc ks : Nat} {Q : Rt → k_S → State → Prop} {pc : Nat} {L : List (Option Value)} {st : List Value} {σ : k_S} {o : Option (Rt × k_S)} {own : String} {index : Nat} (hw : Cond.fieldLink own index "TallTales$Winter" "told" "[I" ∈ k_ws) (hown : own = Y.2.2.2.1) (hd : decode Y.2.1 pc = .ok (.getfield index, 3)) (kk : KO X Y (cT (k_I X) q) kc ks Q (pc + 3) L (.ref (q 26) :: st) σ o) : KO X Y (cT (k_I X) q) kc ks Q pc L (.ref (q 6) :: st) σ o := k_get (T := TX5) (ci := 5) 6 rfl rfl kinX5 3 (by decide) rfl hown hw rfl hd kk
theorem k_gTX5_last {Rt : Type} {X : k_C} {Y : k_Y} {q : Nat → Nat} {kc ks : Nat} {Q : Rt → k_S → State → Prop} {pc : Nat} {L : List (Option Value)} {st : List Value} {σ : k_S} {o : Option (Rt × k_S)} {own : String} {index : Nat} (hw : Cond.fieldLink own index "TallTales$Winter" "last" "[I" ∈ k_ws) (hown : own = Y.2.2.2.1) (hd : decode Y.2.1 pc = .ok (.getfield index, 3)) (kk : KO X Y (cT (k_I X) q) kc ks Q (pc + 3) L (.ref (q 27) :: st) σ o) : KO X Y (cT (k_I X) q) kc ks Q pc L (.ref (q 6) :: st) σ o := k_get (T := TX5) (ci := 5) 6 rfl rfl kinX5 4 (by decide) rfl hown hw rfl hd kk
theorem k_gTX5_row {Rt : Type} {X : k_C} {Y : k_Y} {q : Nat → Nat} {kc ks : Nat} {Q : Rt → k_S → State → Prop} {pc : Nat} {L : List (Option Value)} {st : List Value} {σ : k_S} {o : Option (Rt × k_S)} {own : String} {index : Nat} (hw : Cond.fieldLink own index "TallTales$Winter" "row" "[I" ∈ k_ws) (hown : own = Y.2.2.2.1) (hd : decode Y.2.1 pc = .ok (.getfield index, 3)) (kk : KO X Y (cT (k_I X) q) kc ks Q (pc + 3) L (.ref (q 28) :: st) σ o) : KO X Y (cT (k_I X) q) kc ks Q pc L (.ref (q 6) :: st) σ o := k_get (T := TX5) (ci := 5) 6 rfl rfl kinX5 5 (by decide) rfl hown hw rfl hd kk
theorem k_gTX5_first {Rt : Type} {X : k_C} {Y : k_Y} {q : Nat → Nat} {kc ks : Nat} {Q : Rt → k_S → State → Prop} {pc : Nat} {L : List (Option Value)} {st : List Value} {σ : k_S} {o : Option (Rt × k_S)} {own : String} {index : Nat} (hw : Cond.fieldLink own index "TallTales$Winter" "first" "[I" ∈ k_ws) (hown : own = Y.2.2.2.1) (hd : decode Y.2.1 pc = .ok (.getfield index, 3)) (kk : KO X Y (cT (k_I X) q) kc ks Q (pc + 3) L (.ref (q 29) :: st) σ o) : KO X Y (cT (k_I X) q) kc ks Q pc L (.ref (q 6) :: st) σ o := k_get (T := TX5) (ci := 5) 6 rfl rfl kinX5 6 (by decide) rfl hown hw rfl hd kk
theorem k_gTX5_guest {Rt : Type} {X : k_C} {Y : k_Y} {q : Nat → Nat} {kc ks : Nat} {Q : Rt → k_S → State → Prop} {pc : Nat} {L : List (Option Value)} {st : List Value} {σ : k_S} {o : Option (Rt × k_S)} {own : String} {index : Nat} (hw : Cond.fieldLink own index "TallTales$Winter" "guest" "I" ∈ k_ws) (hown : own = Y.2.2.2.1) (hd : decode Y.2.1 pc = .ok (.getfield index, 3)) (kk : KO X Y (cT (k_I X) q) kc ks Q (pc + 3) L (.int (σ.1 9) :: st) σ o) : KO X Y (cT (k_I X) q) kc ks Q pc L (.ref (q 6) :: st) σ o := k_get (T := TX5) (ci := 5) 6 rfl rfl kinX5 7 (by decide) rfl hown hw rfl hd kk
theorem k_pTX5_guest {Rt : Type} {X : k_C} {Y : k_Y} {q : Nat → Nat} {kc ks : Nat} {Q : Rt → k_S → State → Prop} {pc : Nat} {L : List (Option Value)} {st : List Value} {σ : k_S} {x : Int32} {kf : k_S → Option (Rt × k_S)} {own : String} {index : Nat} (hw : Cond.fieldLink own index "TallTales$Winter" "guest" "I" ∈ k_ws) (hown : own = Y.2.2.2.1) (hd : decode Y.2.1 pc = .ok (.putfield index, 3)) (kk : ∀ σ' : k_S, KO X Y (cT (k_I X) q) kc ks Q (pc + 3) L st σ' (kf σ')) : KO X Y (cT (k_I X) q) kc ks Q pc L (.int x :: .ref (q 6) :: st) σ (k_bn (k_sf σ 9 x) kf) := k_put (T := TX5) (ci := 5) 6 rfl rfl kinX5 tyX5_ok nmX5 7 (by decide) rfl rfl rfl rfl hown hw rfl hd kk
theorem k_gTX5_length {Rt : Type} {X : k_C} {Y : k_Y} {q : Nat → Nat} {kc ks : Nat} {Q : Rt → k_S → State → Prop} {pc : Nat} {L : List (Option Value)} {st : List Value} {σ : k_S} {o : Option (Rt × k_S)} {own : String} {index : Nat} (hw : Cond.fieldLink own index "TallTales$Winter" "length" "I" ∈ k_ws) (hown : own = Y.2.2.2.1) (hd : decode Y.2.1 pc = .ok (.getfield index, 3)) (kk : KO X Y (cT (k_I X) q) kc ks Q (pc + 3) L (.int (σ.1 10) :: st) σ o) : KO X Y (cT (k_I X) q) kc ks Q pc L (.ref (q 6) :: st) σ o := k_get (T := TX5) (ci := 5) 6 rfl rfl kinX5 8 (by decide) rfl hown hw rfl hd kk
theorem k_pTX5_length {Rt : Type} {X : k_C} {Y : k_Y} {q : Nat → Nat} {kc ks : Nat} {Q : Rt → k_S → State → Prop} {pc : Nat} {L : List (Option Value)} {st : List Value} {σ : k_S} {x : Int32} {kf : k_S → Option (Rt × k_S)} {own : String} {index : Nat} (hw : Cond.fieldLink own index "TallTales$Winter" "length" "I" ∈ k_ws) (hown : own = Y.2.2.2.1) (hd : decode Y.2.1 pc = .ok (.putfield index, 3)) (kk : ∀ σ' : k_S, KO X Y (cT (k_I X) q) kc ks Q (pc + 3) L st σ' (kf σ')) : KO X Y (cT (k_I X) q) kc ks Q pc L (.int x :: .ref (q 6) :: st) σ (k_bn (k_sf σ 10 x) kf) := k_put (T := TX5) (ci := 5) 6 rfl rfl kinX5 tyX5_ok nmX5 8 (by decide) rfl rfl rfl rfl hown hw rfl hd kk
theorem k_gTX5_most {Rt : Type} {X : k_C} {Y : k_Y} {q : Nat → Nat} {kc ks : Nat} {Q : Rt → k_S → State → Prop} {pc : Nat} {L : List (Option Value)} {st : List Value} {σ : k_S} {o : Option (Rt × k_S)} {own : String} {index : Nat} (hw : Cond.fieldLink own index "TallTales$Winter" "most" "I" ∈ k_ws) (hown : own = Y.2.2.2.1) (hd : decode Y.2.1 pc = .ok (.getfield index, 3)) (kk : KO X Y (cT (k_I X) q) kc ks Q (pc + 3) L (.int (σ.1 11) :: st) σ o) : KO X Y (cT (k_I X) q) kc ks Q pc L (.ref (q 6) :: st) σ o := k_get (T := TX5) (ci := 5) 6 rfl rfl kinX5 9 (by decide) rfl hown hw rfl hd kk
theorem k_pTX5_most {Rt : Type} {X : k_C} {Y : k_Y} {q : Nat → Nat} {kc ks : Nat} {Q : Rt → k_S → State → Prop} {pc : Nat} {L : List (Option Value)} {st : List Value} {σ : k_S} {x : Int32} {kf : k_S → Option (Rt × k_S)} {own : String} {index : Nat} (hw : Cond.fieldLink own index "TallTales$Winter" "most" "I" ∈ k_ws) (hown : own = Y.2.2.2.1) (hd : decode Y.2.1 pc = .ok (.putfield index, 3)) (kk : ∀ σ' : k_S, KO X Y (cT (k_I X) q) kc ks Q (pc + 3) L st σ' (kf σ')) : KO X Y (cT (k_I X) q) kc ks Q pc L (.int x :: .ref (q 6) :: st) σ (k_bn (k_sf σ 11 x) kf) := k_put (T := TX5) (ci := 5) 6 rfl rfl kinX5 tyX5_ok nmX5 9 (by decide) rfl rfl rfl rfl hown hw rfl hd kk
theorem k_lT7 {Rt : Type} {X : k_C} {Y : k_Y} {q : Nat → Nat} {kc ks : Nat} {Q : Rt → k_S → State → Prop} {pc : Nat} {L : List (Option Value)} {st : List Value} {σ : k_S} {o : Option (Rt × k_S)} {i : Int32} (hd : decode Y.2.1 pc = .ok (.iaload, 1)) (kk : KO X Y (cT (k_I X) q) kc ks Q (pc + 1) L (.int (σ.2 0 i.toNatClampNeg) :: st) σ o) : KO X Y (cT (k_I X) q) kc ks Q pc L (.int i :: .ref (q 7) :: st) σ (k_gd i 5 o) := k_iald 7 rfl hd kk
theorem k_sT7 {Rt : Type} {X : k_C} {Y : k_Y} {q : Nat → Nat} {kc ks : Nat} {Q : Rt → k_S → State → Prop} {pc : Nat} {L : List (Option Value)} {st : List Value} {σ : k_S} {i x : Int32} {kf : k_S → Option (Rt × k_S)} (hd : decode Y.2.1 pc = .ok (.iastore, 1)) (kk : ∀ σ' : k_S, KO X Y (cT (k_I X) q) kc ks Q (pc + 1) L st σ' (kf σ')) : KO X Y (cT (k_I X) q) kc ks Q pc L (.int x :: .int i :: .ref (q 7) :: st) σ (k_gd i 5 (k_bn (k_sa σ 0 i x) kf)) := k_iast 7 rfl rfl hd kk
theorem k_lT8 {Rt : Type} {X : k_C} {Y : k_Y} {q : Nat → Nat} {kc ks : Nat} {Q : Rt → k_S → State → Prop} {pc : Nat} {L : List (Option Value)} {st : List Value} {σ : k_S} {o : Option (Rt × k_S)} {i : Int32} (hd : decode Y.2.1 pc = .ok (.iaload, 1)) (kk : KO X Y (cT (k_I X) q) kc ks Q (pc + 1) L (.int (σ.2 1 i.toNatClampNeg) :: st) σ o) : KO X Y (cT (k_I X) q) kc ks Q pc L (.int i :: .ref (q 8) :: st) σ (k_gd i 240 o) := k_iald 8 rfl hd kk
theorem k_sT8 {Rt : Type} {X : k_C} {Y : k_Y} {q : Nat → Nat} {kc ks : Nat} {Q : Rt → k_S → State → Prop} {pc : Nat} {L : List (Option Value)} {st : List Value} {σ : k_S} {i x : Int32} {kf : k_S → Option (Rt × k_S)} (hd : decode Y.2.1 pc = .ok (.iastore, 1)) (kk : ∀ σ' : k_S, KO X Y (cT (k_I X) q) kc ks Q (pc + 1) L st σ' (kf σ')) : KO X Y (cT (k_I X) q) kc ks Q pc L (.int x :: .int i :: .ref (q 8) :: st) σ (k_gd i 240 (k_bn (k_sa σ 1 i x) kf)) := k_iast 8 rfl rfl hd kk
theorem k_lT9 {Rt : Type} {X : k_C} {Y : k_Y} {q : Nat → Nat} {kc ks : Nat} {Q : Rt → k_S → State → Prop} {pc : Nat} {L : List (Option Value)} {st : List Value} {σ : k_S} {o : Option (Rt × k_S)} {i : Int32} (hd : decode Y.2.1 pc = .ok (.iaload, 1)) (kk : KO X Y (cT (k_I X) q) kc ks Q (pc + 1) L (.int (σ.2 2 i.toNatClampNeg) :: st) σ o) : KO X Y (cT (k_I X) q) kc ks Q pc L (.int i :: .ref (q 9) :: st) σ (k_gd i 4 o) := k_iald 9 rfl hd kk
theorem k_sT9 {Rt : Type} {X : k_C} {Y : k_Y} {q : Nat → Nat} {kc ks : Nat} {Q : Rt → k_S → State → Prop} {pc : Nat} {L : List (Option Value)} {st : List Value} {σ : k_S} {i x : Int32} {kf : k_S → Option (Rt × k_S)} (hd : decode Y.2.1 pc = .ok (.iastore, 1)) (kk : ∀ σ' : k_S, KO X Y (cT (k_I X) q) kc ks Q (pc + 1) L st σ' (kf σ')) : KO X Y (cT (k_I X) q) kc ks Q pc L (.int x :: .int i :: .ref (q 9) :: st) σ (k_gd i 4 (k_bn (k_sa σ 2 i x) kf)) := k_iast 9 rfl rfl hd kk
theorem k_lT10 {Rt : Type} {X : k_C} {Y : k_Y} {q : Nat → Nat} {kc ks : Nat} {Q : Rt → k_S → State → Prop} {pc : Nat} {L : List (Option Value)} {st : List Value} {σ : k_S} {o : Option (Rt × k_S)} {i : Int32} (hd : decode Y.2.1 pc = .ok (.iaload, 1)) (kk : KO X Y (cT (k_I X) q) kc ks Q (pc + 1) L (.int (σ.2 3 i.toNatClampNeg) :: st) σ o) : KO X Y (cT (k_I X) q) kc ks Q pc L (.int i :: .ref (q 10) :: st) σ (k_gd i 4 o) := k_iald 10 rfl hd kk
theorem k_sT10 {Rt : Type} {X : k_C} {Y : k_Y} {q : Nat → Nat} {kc ks : Nat} {Q : Rt → k_S → State → Prop} {pc : Nat} {L : List (Option Value)} {st : List Value} {σ : k_S} {i x : Int32} {kf : k_S → Option (Rt × k_S)} (hd : decode Y.2.1 pc = .ok (.iastore, 1)) (kk : ∀ σ' : k_S, KO X Y (cT (k_I X) q) kc ks Q (pc + 1) L st σ' (kf σ')) : KO X Y (cT (k_I X) q) kc ks Q pc L (.int x :: .int i :: .ref (q 10) :: st) σ (k_gd i 4 (k_bn (k_sa σ 3 i x) kf)) := k_iast 10 rfl rfl hd kk
theorem k_lT11 {Rt : Type} {X : k_C} {Y : k_Y} {q : Nat → Nat} {kc ks : Nat} {Q : Rt → k_S → State → Prop} {pc : Nat} {L : List (Option Value)} {st : List Value} {σ : k_S} {o : Option (Rt × k_S)} {i : Int32} (hd : decode Y.2.1 pc = .ok (.iaload, 1)) (kk : KO X Y (cT (k_I X) q) kc ks Q (pc + 1) L (.int (σ.2 4 i.toNatClampNeg) :: st) σ o) : KO X Y (cT (k_I X) q) kc ks Q pc L (.int i :: .ref (q 11) :: st) σ (k_gd i 60 o) := k_iald 11 rfl hd kk
theorem k_sT11 {Rt : Type} {X : k_C} {Y : k_Y} {q : Nat → Nat} {kc ks : Nat} {Q : Rt → k_S → State → Prop} {pc : Nat} {L : List (Option Value)} {st : List Value} {σ : k_S} {i x : Int32} {kf : k_S → Option (Rt × k_S)} (hd : decode Y.2.1 pc = .ok (.iastore, 1)) (kk : ∀ σ' : k_S, KO X Y (cT (k_I X) q) kc ks Q (pc + 1) L st σ' (kf σ')) : KO X Y (cT (k_I X) q) kc ks Q pc L (.int x :: .int i :: .ref (q 11) :: st) σ (k_gd i 60 (k_bn (k_sa σ 4 i x) kf)) := k_iast 11 rfl rfl hd kk
theorem k_lT12 {Rt : Type} {X : k_C} {Y : k_Y} {q : Nat → Nat} {kc ks : Nat} {Q : Rt → k_S → State → Prop} {pc : Nat} {L : List (Option Value)} {st : List Value} {σ : k_S} {o : Option (Rt × k_S)} {i : Int32} (hd : decode Y.2.1 pc = .ok (.iaload, 1)) (kk : KO X Y (cT (k_I X) q) kc ks Q (pc + 1) L (.int (σ.2 5 i.toNatClampNeg) :: st) σ o) : KO X Y (cT (k_I X) q) kc ks Q pc L (.int i :: .ref (q 12) :: st) σ (k_gd i 10 o) := k_iald 12 rfl hd kk
theorem k_sT12 {Rt : Type} {X : k_C} {Y : k_Y} {q : Nat → Nat} {kc ks : Nat} {Q : Rt → k_S → State → Prop} {pc : Nat} {L : List (Option Value)} {st : List Value} {σ : k_S} {i x : Int32} {kf : k_S → Option (Rt × k_S)} (hd : decode Y.2.1 pc = .ok (.iastore, 1)) (kk : ∀ σ' : k_S, KO X Y (cT (k_I X) q) kc ks Q (pc + 1) L st σ' (kf σ')) : KO X Y (cT (k_I X) q) kc ks Q pc L (.int x :: .int i :: .ref (q 12) :: st) σ (k_gd i 10 (k_bn (k_sa σ 5 i x) kf)) := k_iast 12 rfl rfl hd kk
theorem k_lT13 {Rt : Type} {X : k_C} {Y : k_Y} {q : Nat → Nat} {kc ks : Nat} {Q : Rt → k_S → State → Prop} {pc : Nat} {L : List (Option Value)} {st : List Value} {σ : k_S} {o : Option (Rt × k_S)} {i : Int32} (hd : decode Y.2.1 pc = .ok (.iaload, 1)) (kk : KO X Y (cT (k_I X) q) kc ks Q (pc + 1) L (.int (σ.2 6 i.toNatClampNeg) :: st) σ o) : KO X Y (cT (k_I X) q) kc ks Q pc L (.int i :: .ref (q 13) :: st) σ (k_gd i 10 o) := k_iald 13 rfl hd kk
theorem k_sT13 {Rt : Type} {X : k_C} {Y : k_Y} {q : Nat → Nat} {kc ks : Nat} {Q : Rt → k_S → State → Prop} {pc : Nat} {L : List (Option Value)} {st : List Value} {σ : k_S} {i x : Int32} {kf : k_S → Option (Rt × k_S)} (hd : decode Y.2.1 pc = .ok (.iastore, 1)) (kk : ∀ σ' : k_S, KO X Y (cT (k_I X) q) kc ks Q (pc + 1) L st σ' (kf σ')) : KO X Y (cT (k_I X) q) kc ks Q pc L (.int x :: .int i :: .ref (q 13) :: st) σ (k_gd i 10 (k_bn (k_sa σ 6 i x) kf)) := k_iast 13 rfl rfl hd kk
theorem k_lT14 {Rt : Type} {X : k_C} {Y : k_Y} {q : Nat → Nat} {kc ks : Nat} {Q : Rt → k_S → State → Prop} {pc : Nat} {L : List (Option Value)} {st : List Value} {σ : k_S} {o : Option (Rt × k_S)} {i : Int32} (hd : decode Y.2.1 pc = .ok (.iaload, 1)) (kk : KO X Y (cT (k_I X) q) kc ks Q (pc + 1) L (.int (σ.2 7 i.toNatClampNeg) :: st) σ o) : KO X Y (cT (k_I X) q) kc ks Q pc L (.int i :: .ref (q 14) :: st) σ (k_gd i 10 o) := k_iald 14 rfl hd kk
theorem k_sT14 {Rt : Type} {X : k_C} {Y : k_Y} {q : Nat → Nat} {kc ks : Nat} {Q : Rt → k_S → State → Prop} {pc : Nat} {L : List (Option Value)} {st : List Value} {σ : k_S} {i x : Int32} {kf : k_S → Option (Rt × k_S)} (hd : decode Y.2.1 pc = .ok (.iastore, 1)) (kk : ∀ σ' : k_S, KO X Y (cT (k_I X) q) kc ks Q (pc + 1) L st σ' (kf σ')) : KO X Y (cT (k_I X) q) kc ks Q pc L (.int x :: .int i :: .ref (q 14) :: st) σ (k_gd i 10 (k_bn (k_sa σ 7 i x) kf)) := k_iast 14 rfl rfl hd kk
theorem k_lT15 {Rt : Type} {X : k_C} {Y : k_Y} {q : Nat → Nat} {kc ks : Nat} {Q : Rt → k_S → State → Prop} {pc : Nat} {L : List (Option Value)} {st : List Value} {σ : k_S} {o : Option (Rt × k_S)} {i : Int32} (hd : decode Y.2.1 pc = .ok (.iaload, 1)) (kk : KO X Y (cT (k_I X) q) kc ks Q (pc + 1) L (.int (σ.2 8 i.toNatClampNeg) :: st) σ o) : KO X Y (cT (k_I X) q) kc ks Q pc L (.int i :: .ref (q 15) :: st) σ (k_gd i 10 o) := k_iald 15 rfl hd kk
theorem k_sT15 {Rt : Type} {X : k_C} {Y : k_Y} {q : Nat → Nat} {kc ks : Nat} {Q : Rt → k_S → State → Prop} {pc : Nat} {L : List (Option Value)} {st : List Value} {σ : k_S} {i x : Int32} {kf : k_S → Option (Rt × k_S)} (hd : decode Y.2.1 pc = .ok (.iastore, 1)) (kk : ∀ σ' : k_S, KO X Y (cT (k_I X) q) kc ks Q (pc + 1) L st σ' (kf σ')) : KO X Y (cT (k_I X) q) kc ks Q pc L (.int x :: .int i :: .ref (q 15) :: st) σ (k_gd i 10 (k_bn (k_sa σ 8 i x) kf)) := k_iast 15 rfl rfl hd kk
theorem k_lT16 {Rt : Type} {X : k_C} {Y : k_Y} {q : Nat → Nat} {kc ks : Nat} {Q : Rt → k_S → State → Prop} {pc : Nat} {L : List (Option Value)} {st : List Value} {σ : k_S} {o : Option (Rt × k_S)} {i : Int32} (hd : decode Y.2.1 pc = .ok (.iaload, 1)) (kk : KO X Y (cT (k_I X) q) kc ks Q (pc + 1) L (.int (σ.2 9 i.toNatClampNeg) :: st) σ o) : KO X Y (cT (k_I X) q) kc ks Q pc L (.int i :: .ref (q 16) :: st) σ (k_gd i 10 o) := k_iald 16 rfl hd kk
theorem k_sT16 {Rt : Type} {X : k_C} {Y : k_Y} {q : Nat → Nat} {kc ks : Nat} {Q : Rt → k_S → State → Prop} {pc : Nat} {L : List (Option Value)} {st : List Value} {σ : k_S} {i x : Int32} {kf : k_S → Option (Rt × k_S)} (hd : decode Y.2.1 pc = .ok (.iastore, 1)) (kk : ∀ σ' : k_S, KO X Y (cT (k_I X) q) kc ks Q (pc + 1) L st σ' (kf σ')) : KO X Y (cT (k_I X) q) kc ks Q pc L (.int x :: .int i :: .ref (q 16) :: st) σ (k_gd i 10 (k_bn (k_sa σ 9 i x) kf)) := k_iast 16 rfl rfl hd kk
theorem k_lT17 {Rt : Type} {X : k_C} {Y : k_Y} {q : Nat → Nat} {kc ks : Nat} {Q : Rt → k_S → State → Prop} {pc : Nat} {L : List (Option Value)} {st : List Value} {σ : k_S} {o : Option (Rt × k_S)} {i : Int32} (hd : decode Y.2.1 pc = .ok (.iaload, 1)) (kk : KO X Y (cT (k_I X) q) kc ks Q (pc + 1) L (.int (σ.2 10 i.toNatClampNeg) :: st) σ o) : KO X Y (cT (k_I X) q) kc ks Q pc L (.int i :: .ref (q 17) :: st) σ (k_gd i 5 o) := k_iald 17 rfl hd kk
theorem k_sT17 {Rt : Type} {X : k_C} {Y : k_Y} {q : Nat → Nat} {kc ks : Nat} {Q : Rt → k_S → State → Prop} {pc : Nat} {L : List (Option Value)} {st : List Value} {σ : k_S} {i x : Int32} {kf : k_S → Option (Rt × k_S)} (hd : decode Y.2.1 pc = .ok (.iastore, 1)) (kk : ∀ σ' : k_S, KO X Y (cT (k_I X) q) kc ks Q (pc + 1) L st σ' (kf σ')) : KO X Y (cT (k_I X) q) kc ks Q pc L (.int x :: .int i :: .ref (q 17) :: st) σ (k_gd i 5 (k_bn (k_sa σ 10 i x) kf)) := k_iast 17 rfl rfl hd kk
theorem k_lT18 {Rt : Type} {X : k_C} {Y : k_Y} {q : Nat → Nat} {kc ks : Nat} {Q : Rt → k_S → State → Prop} {pc : Nat} {L : List (Option Value)} {st : List Value} {σ : k_S} {o : Option (Rt × k_S)} {i : Int32} (hd : decode Y.2.1 pc = .ok (.iaload, 1)) (kk : KO X Y (cT (k_I X) q) kc ks Q (pc + 1) L (.int (σ.2 11 i.toNatClampNeg) :: st) σ o) : KO X Y (cT (k_I X) q) kc ks Q pc L (.int i :: .ref (q 18) :: st) σ (k_gd i 300 o) := k_iald 18 rfl hd kk
theorem k_sT18 {Rt : Type} {X : k_C} {Y : k_Y} {q : Nat → Nat} {kc ks : Nat} {Q : Rt → k_S → State → Prop} {pc : Nat} {L : List (Option Value)} {st : List Value} {σ : k_S} {i x : Int32} {kf : k_S → Option (Rt × k_S)} (hd : decode Y.2.1 pc = .ok (.iastore, 1)) (kk : ∀ σ' : k_S, KO X Y (cT (k_I X) q) kc ks Q (pc + 1) L st σ' (kf σ')) : KO X Y (cT (k_I X) q) kc ks Q pc L (.int x :: .int i :: .ref (q 18) :: st) σ (k_gd i 300 (k_bn (k_sa σ 11 i x) kf)) := k_iast 18 rfl rfl hd kk
theorem k_lT19 {Rt : Type} {X : k_C} {Y : k_Y} {q : Nat → Nat} {kc ks : Nat} {Q : Rt → k_S → State → Prop} {pc : Nat} {L : List (Option Value)} {st : List Value} {σ : k_S} {o : Option (Rt × k_S)} {i : Int32} (hd : decode Y.2.1 pc = .ok (.iaload, 1)) (kk : KO X Y (cT (k_I X) q) kc ks Q (pc + 1) L (.int (σ.2 12 i.toNatClampNeg) :: st) σ o) : KO X Y (cT (k_I X) q) kc ks Q pc L (.int i :: .ref (q 19) :: st) σ (k_gd i 300 o) := k_iald 19 rfl hd kk
theorem k_sT19 {Rt : Type} {X : k_C} {Y : k_Y} {q : Nat → Nat} {kc ks : Nat} {Q : Rt → k_S → State → Prop} {pc : Nat} {L : List (Option Value)} {st : List Value} {σ : k_S} {i x : Int32} {kf : k_S → Option (Rt × k_S)} (hd : decode Y.2.1 pc = .ok (.iastore, 1)) (kk : ∀ σ' : k_S, KO X Y (cT (k_I X) q) kc ks Q (pc + 1) L st σ' (kf σ')) : KO X Y (cT (k_I X) q) kc ks Q pc L (.int x :: .int i :: .ref (q 19) :: st) σ (k_gd i 300 (k_bn (k_sa σ 12 i x) kf)) := k_iast 19 rfl rfl hd kk
theorem k_lT20 {Rt : Type} {X : k_C} {Y : k_Y} {q : Nat → Nat} {kc ks : Nat} {Q : Rt → k_S → State → Prop} {pc : Nat} {L : List (Option Value)} {st : List Value} {σ : k_S} {o : Option (Rt × k_S)} {i : Int32} (hd : decode Y.2.1 pc = .ok (.iaload, 1)) (kk : KO X Y (cT (k_I X) q) kc ks Q (pc + 1) L (.int (σ.2 13 i.toNatClampNeg) :: st) σ o) : KO X Y (cT (k_I X) q) kc ks Q pc L (.int i :: .ref (q 20) :: st) σ (k_gd i 300 o) := k_iald 20 rfl hd kk
theorem k_sT20 {Rt : Type} {X : k_C} {Y : k_Y} {q : Nat → Nat} {kc ks : Nat} {Q : Rt → k_S → State → Prop} {pc : Nat} {L : List (Option Value)} {st : List Value} {σ : k_S} {i x : Int32} {kf : k_S → Option (Rt × k_S)} (hd : decode Y.2.1 pc = .ok (.iastore, 1)) (kk : ∀ σ' : k_S, KO X Y (cT (k_I X) q) kc ks Q (pc + 1) L st σ' (kf σ')) : KO X Y (cT (k_I X) q) kc ks Q pc L (.int x :: .int i :: .ref (q 20) :: st) σ (k_gd i 300 (k_bn (k_sa σ 13 i x) kf)) := k_iast 20 rfl rfl hd kk
theorem k_lT21 {Rt : Type} {X : k_C} {Y : k_Y} {q : Nat → Nat} {kc ks : Nat} {Q : Rt → k_S → State → Prop} {pc : Nat} {L : List (Option Value)} {st : List Value} {σ : k_S} {o : Option (Rt × k_S)} {i : Int32} (hd : decode Y.2.1 pc = .ok (.iaload, 1)) (kk : KO X Y (cT (k_I X) q) kc ks Q (pc + 1) L (.int (σ.2 14 i.toNatClampNeg) :: st) σ o) : KO X Y (cT (k_I X) q) kc ks Q pc L (.int i :: .ref (q 21) :: st) σ (k_gd i 5 o) := k_iald 21 rfl hd kk
theorem k_sT21 {Rt : Type} {X : k_C} {Y : k_Y} {q : Nat → Nat} {kc ks : Nat} {Q : Rt → k_S → State → Prop} {pc : Nat} {L : List (Option Value)} {st : List Value} {σ : k_S} {i x : Int32} {kf : k_S → Option (Rt × k_S)} (hd : decode Y.2.1 pc = .ok (.iastore, 1)) (kk : ∀ σ' : k_S, KO X Y (cT (k_I X) q) kc ks Q (pc + 1) L st σ' (kf σ')) : KO X Y (cT (k_I X) q) kc ks Q pc L (.int x :: .int i :: .ref (q 21) :: st) σ (k_gd i 5 (k_bn (k_sa σ 14 i x) kf)) := k_iast 21 rfl rfl hd kk
theorem k_lT22 {Rt : Type} {X : k_C} {Y : k_Y} {q : Nat → Nat} {kc ks : Nat} {Q : Rt → k_S → State → Prop} {pc : Nat} {L : List (Option Value)} {st : List Value} {σ : k_S} {o : Option (Rt × k_S)} {i : Int32} (hd : decode Y.2.1 pc = .ok (.iaload, 1)) (kk : KO X Y (cT (k_I X) q) kc ks Q (pc + 1) L (.int (σ.2 15 i.toNatClampNeg) :: st) σ o) : KO X Y (cT (k_I X) q) kc ks Q pc L (.int i :: .ref (q 22) :: st) σ (k_gd i 5 o) := k_iald 22 rfl hd kk
theorem k_sT22 {Rt : Type} {X : k_C} {Y : k_Y} {q : Nat → Nat} {kc ks : Nat} {Q : Rt → k_S → State → Prop} {pc : Nat} {L : List (Option Value)} {st : List Value} {σ : k_S} {i x : Int32} {kf : k_S → Option (Rt × k_S)} (hd : decode Y.2.1 pc = .ok (.iastore, 1)) (kk : ∀ σ' : k_S, KO X Y (cT (k_I X) q) kc ks Q (pc + 1) L st σ' (kf σ')) : KO X Y (cT (k_I X) q) kc ks Q pc L (.int x :: .int i :: .ref (q 22) :: st) σ (k_gd i 5 (k_bn (k_sa σ 15 i x) kf)) := k_iast 22 rfl rfl hd kk
theorem k_lT23 {Rt : Type} {X : k_C} {Y : k_Y} {q : Nat → Nat} {kc ks : Nat} {Q : Rt → k_S → State → Prop} {pc : Nat} {L : List (Option Value)} {st : List Value} {σ : k_S} {o : Option (Rt × k_S)} {i : Int32} (hd : decode Y.2.1 pc = .ok (.iaload, 1)) (kk : KO X Y (cT (k_I X) q) kc ks Q (pc + 1) L (.int (σ.2 16 i.toNatClampNeg) :: st) σ o) : KO X Y (cT (k_I X) q) kc ks Q pc L (.int i :: .ref (q 23) :: st) σ (k_gd i 5 o) := k_iald 23 rfl hd kk
theorem k_sT23 {Rt : Type} {X : k_C} {Y : k_Y} {q : Nat → Nat} {kc ks : Nat} {Q : Rt → k_S → State → Prop} {pc : Nat} {L : List (Option Value)} {st : List Value} {σ : k_S} {i x : Int32} {kf : k_S → Option (Rt × k_S)} (hd : decode Y.2.1 pc = .ok (.iastore, 1)) (kk : ∀ σ' : k_S, KO X Y (cT (k_I X) q) kc ks Q (pc + 1) L st σ' (kf σ')) : KO X Y (cT (k_I X) q) kc ks Q pc L (.int x :: .int i :: .ref (q 23) :: st) σ (k_gd i 5 (k_bn (k_sa σ 16 i x) kf)) := k_iast 23 rfl rfl hd kk
theorem k_lT24 {Rt : Type} {X : k_C} {Y : k_Y} {q : Nat → Nat} {kc ks : Nat} {Q : Rt → k_S → State → Prop} {pc : Nat} {L : List (Option Value)} {st : List Value} {σ : k_S} {o : Option (Rt × k_S)} {i : Int32} (hd : decode Y.2.1 pc = .ok (.iaload, 1)) (kk : KO X Y (cT (k_I X) q) kc ks Q (pc + 1) L (.int (σ.2 17 i.toNatClampNeg) :: st) σ o) : KO X Y (cT (k_I X) q) kc ks Q pc L (.int i :: .ref (q 24) :: st) σ (k_gd i 6 o) := k_iald 24 rfl hd kk
theorem k_sT24 {Rt : Type} {X : k_C} {Y : k_Y} {q : Nat → Nat} {kc ks : Nat} {Q : Rt → k_S → State → Prop} {pc : Nat} {L : List (Option Value)} {st : List Value} {σ : k_S} {i x : Int32} {kf : k_S → Option (Rt × k_S)} (hd : decode Y.2.1 pc = .ok (.iastore, 1)) (kk : ∀ σ' : k_S, KO X Y (cT (k_I X) q) kc ks Q (pc + 1) L st σ' (kf σ')) : KO X Y (cT (k_I X) q) kc ks Q pc L (.int x :: .int i :: .ref (q 24) :: st) σ (k_gd i 6 (k_bn (k_sa σ 17 i x) kf)) := k_iast 24 rfl rfl hd kk
theorem k_lT25 {Rt : Type} {X : k_C} {Y : k_Y} {q : Nat → Nat} {kc ks : Nat} {Q : Rt → k_S → State → Prop} {pc : Nat} {L : List (Option Value)} {st : List Value} {σ : k_S} {o : Option (Rt × k_S)} {i : Int32} (hd : decode Y.2.1 pc = .ok (.iaload, 1)) (kk : KO X Y (cT (k_I X) q) kc ks Q (pc + 1) L (.int (σ.2 18 i.toNatClampNeg) :: st) σ o) : KO X Y (cT (k_I X) q) kc ks Q pc L (.int i :: .ref (q 25) :: st) σ (k_gd i 7 o) := k_iald 25 rfl hd kk
theorem k_sT25 {Rt : Type} {X : k_C} {Y : k_Y} {q : Nat → Nat} {kc ks : Nat} {Q : Rt → k_S → State → Prop} {pc : Nat} {L : List (Option Value)} {st : List Value} {σ : k_S} {i x : Int32} {kf : k_S → Option (Rt × k_S)} (hd : decode Y.2.1 pc = .ok (.iastore, 1)) (kk : ∀ σ' : k_S, KO X Y (cT (k_I X) q) kc ks Q (pc + 1) L st σ' (kf σ')) : KO X Y (cT (k_I X) q) kc ks Q pc L (.int x :: .int i :: .ref (q 25) :: st) σ (k_gd i 7 (k_bn (k_sa σ 18 i x) kf)) := k_iast 25 rfl rfl hd kk
theorem k_lT26 {Rt : Type} {X : k_C} {Y : k_Y} {q : Nat → Nat} {kc ks : Nat} {Q : Rt → k_S → State → Prop} {pc : Nat} {L : List (Option Value)} {st : List Value} {σ : k_S} {o : Option (Rt × k_S)} {i : Int32} (hd : decode Y.2.1 pc = .ok (.iaload, 1)) (kk : KO X Y (cT (k_I X) q) kc ks Q (pc + 1) L (.int (σ.2 19 i.toNatClampNeg) :: st) σ o) : KO X Y (cT (k_I X) q) kc ks Q pc L (.int i :: .ref (q 26) :: st) σ (k_gd i 10 o) := k_iald 26 rfl hd kk
theorem k_sT26 {Rt : Type} {X : k_C} {Y : k_Y} {q : Nat → Nat} {kc ks : Nat} {Q : Rt → k_S → State → Prop} {pc : Nat} {L : List (Option Value)} {st : List Value} {σ : k_S} {i x : Int32} {kf : k_S → Option (Rt × k_S)} (hd : decode Y.2.1 pc = .ok (.iastore, 1)) (kk : ∀ σ' : k_S, KO X Y (cT (k_I X) q) kc ks Q (pc + 1) L st σ' (kf σ')) : KO X Y (cT (k_I X) q) kc ks Q pc L (.int x :: .int i :: .ref (q 26) :: st) σ (k_gd i 10 (k_bn (k_sa σ 19 i x) kf)) := k_iast 26 rfl rfl hd kk
theorem k_lT27 {Rt : Type} {X : k_C} {Y : k_Y} {q : Nat → Nat} {kc ks : Nat} {Q : Rt → k_S → State → Prop} {pc : Nat} {L : List (Option Value)} {st : List Value} {σ : k_S} {o : Option (Rt × k_S)} {i : Int32} (hd : decode Y.2.1 pc = .ok (.iaload, 1)) (kk : KO X Y (cT (k_I X) q) kc ks Q (pc + 1) L (.int (σ.2 20 i.toNatClampNeg) :: st) σ o) : KO X Y (cT (k_I X) q) kc ks Q pc L (.int i :: .ref (q 27) :: st) σ (k_gd i 10 o) := k_iald 27 rfl hd kk
theorem k_sT27 {Rt : Type} {X : k_C} {Y : k_Y} {q : Nat → Nat} {kc ks : Nat} {Q : Rt → k_S → State → Prop} {pc : Nat} {L : List (Option Value)} {st : List Value} {σ : k_S} {i x : Int32} {kf : k_S → Option (Rt × k_S)} (hd : decode Y.2.1 pc = .ok (.iastore, 1)) (kk : ∀ σ' : k_S, KO X Y (cT (k_I X) q) kc ks Q (pc + 1) L st σ' (kf σ')) : KO X Y (cT (k_I X) q) kc ks Q pc L (.int x :: .int i :: .ref (q 27) :: st) σ (k_gd i 10 (k_bn (k_sa σ 20 i x) kf)) := k_iast 27 rfl rfl hd kk
theorem k_lT28 {Rt : Type} {X : k_C} {Y : k_Y} {q : Nat → Nat} {kc ks : Nat} {Q : Rt → k_S → State → Prop} {pc : Nat} {L : List (Option Value)} {st : List Value} {σ : k_S} {o : Option (Rt × k_S)} {i : Int32} (hd : decode Y.2.1 pc = .ok (.iaload, 1)) (kk : KO X Y (cT (k_I X) q) kc ks Q (pc + 1) L (.int (σ.2 21 i.toNatClampNeg) :: st) σ o) : KO X Y (cT (k_I X) q) kc ks Q pc L (.int i :: .ref (q 28) :: st) σ (k_gd i 6 o) := k_iald 28 rfl hd kk
theorem k_sT28 {Rt : Type} {X : k_C} {Y : k_Y} {q : Nat → Nat} {kc ks : Nat} {Q : Rt → k_S → State → Prop} {pc : Nat} {L : List (Option Value)} {st : List Value} {σ : k_S} {i x : Int32} {kf : k_S → Option (Rt × k_S)} (hd : decode Y.2.1 pc = .ok (.iastore, 1)) (kk : ∀ σ' : k_S, KO X Y (cT (k_I X) q) kc ks Q (pc + 1) L st σ' (kf σ')) : KO X Y (cT (k_I X) q) kc ks Q pc L (.int x :: .int i :: .ref (q 28) :: st) σ (k_gd i 6 (k_bn (k_sa σ 21 i x) kf)) := k_iast 28 rfl rfl hd kk
theorem k_lT29 {Rt : Type} {X : k_C} {Y : k_Y} {q : Nat → Nat} {kc ks : Nat} {Q : Rt → k_S → State → Prop} {pc : Nat} {L : List (Option Value)} {st : List Value} {σ : k_S} {o : Option (Rt × k_S)} {i : Int32} (hd : decode Y.2.1 pc = .ok (.iaload, 1)) (kk : KO X Y (cT (k_I X) q) kc ks Q (pc + 1) L (.int (σ.2 22 i.toNatClampNeg) :: st) σ o) : KO X Y (cT (k_I X) q) kc ks Q pc L (.int i :: .ref (q 29) :: st) σ (k_gd i 6 o) := k_iald 29 rfl hd kk
theorem k_sT29 {Rt : Type} {X : k_C} {Y : k_Y} {q : Nat → Nat} {kc ks : Nat} {Q : Rt → k_S → State → Prop} {pc : Nat} {L : List (Option Value)} {st : List Value} {σ : k_S} {i x : Int32} {kf : k_S → Option (Rt × k_S)} (hd : decode Y.2.1 pc = .ok (.iastore, 1)) (kk : ∀ σ' : k_S, KO X Y (cT (k_I X) q) kc ks Q (pc + 1) L st σ' (kf σ')) : KO X Y (cT (k_I X) q) kc ks Q pc L (.int x :: .int i :: .ref (q 29) :: st) σ (k_gd i 6 (k_bn (k_sa σ 22 i x) kf)) := k_iast 29 rfl rfl hd kk
/-- M: TallTalesModel.fault: int 0; TallTalesModel.trace: int 1; TallTalesModel.sorts: ref 1; TallTalesModel.sheetLong: ref 2; TallTalesModel.cells: ref 3; TallTalesModel.guests: int 2; TallTalesModel.tales: int 3; TallTalesModel.memory: int 4; TallTalesModel.kind: ref 4; TallTalesModel.whose: ref 5; TallTalesModel.high: ref 6; TallTalesModel.at: int 5; TallTalesModel.readGuests: int 6; TallTalesModel.readTales: int 7; TallTalesModel.readKind: ref 7; TallTalesModel.readWhose: ref 8; TallTalesModel.readHigh: ref 9; TallTalesModel.over: int 8; TallTalesModel.nightTold: ref 10; TallTalesModel.nightTall: ref 11; TallTalesModel.chosen: ref 12; TallTalesModel.times: ref 13; TallTalesModel.last: ref 14; TallTalesModel.tall: ref 15; TallTalesModel.bestTale: int 9; TallTalesModel.bestPlace: int 10; TallTalesModel.bestTall: int 11; TallTalesModel.tells: ref 16; TallTalesModel.firstRest: ref 17; TallTalesModel.winterTells: ref 18; TallTalesModel.winterBest: ref 19 -/
def cM (cI : ClassId) (q : Nat → Nat) (σ : k_S) : va_W := [(q 0, .inr (7, [.int (σ.1 0), .int (σ.1 1), .ref (q 1), .ref (q 2), .ref (q 3), .int (σ.1 2), .int (σ.1 3), .int (σ.1 4), .ref (q 4), .ref (q 5), .ref (q 6), .int (σ.1 5), .int (σ.1 6), .int (σ.1 7), .ref (q 7), .ref (q 8), .ref (q 9), .int (σ.1 8), .ref (q 10), .ref (q 11), .ref (q 12), .ref (q 13), .ref (q 14), .ref (q 15), .int (σ.1 9), .int (σ.1 10), .int (σ.1 11), .ref (q 16), .ref (q 17), .ref (q 18), .ref (q 19)])), (q 1, .inl (cI, 4, .inl (σ.2 0))), (q 2, .inl (cI, 4, .inl (σ.2 1))), (q 3, .inl (cI, 240, .inl (σ.2 2))), (q 4, .inl (cI, 10, .inl (σ.2 3))), (q 5, .inl (cI, 10, .inl (σ.2 4))), (q 6, .inl (cI, 10, .inl (σ.2 5))), (q 7, .inl (cI, 10, .inl (σ.2 6))), (q 8, .inl (cI, 10, .inl (σ.2 7))), (q 9, .inl (cI, 10, .inl (σ.2 8))), (q 10, .inl (cI, 300, .inl (σ.2 9))), (q 11, .inl (cI, 300, .inl (σ.2 10))), (q 12, .inl (cI, 5, .inl (σ.2 11))), (q 13, .inl (cI, 10, .inl (σ.2 12))), (q 14, .inl (cI, 10, .inl (σ.2 13))), (q 15, .inl (cI, 5, .inl (σ.2 14))), (q 16, .inl (cI, 5, .inl (σ.2 15))), (q 17, .inl (cI, 5, .inl (σ.2 16))), (q 18, .inl (cI, 6, .inl (σ.2 17))), (q 19, .inl (cI, 6, .inl (σ.2 18)))]
theorem cM_same (cI : ClassId) (q : Nat → Nat) : k_same (cM cI q) := k_same_of fun _ _ => rfl
theorem cM_rv0 {cI : ClassId} {q : Nat → Nat} {σ : k_S} : ∃ (k ci : Nat) (fs : List Value) (qc : vw_C), (cM cI q σ)[k]? = some (q 0, .inr (ci, fs)) ∧ vwCl[ci]? = some qc ∧ qc.1 = RX7 := ⟨0, 7, _, _, rfl, rfl, rfl⟩
theorem k_gMX7_fault {Rt : Type} {X : k_C} {Y : k_Y} {q : Nat → Nat} {kc ks : Nat} {Q : Rt → k_S → State → Prop} {pc : Nat} {L : List (Option Value)} {st : List Value} {σ : k_S} {o : Option (Rt × k_S)} {own : String} {index : Nat} (hw : Cond.fieldLink own index "TallTalesModel" "fault" "I" ∈ k_ws) (hown : own = Y.2.2.2.1) (hd : decode Y.2.1 pc = .ok (.getfield index, 3)) (kk : KO X Y (cM (k_I X) q) kc ks Q (pc + 3) L (.int (σ.1 0) :: st) σ o) : KO X Y (cM (k_I X) q) kc ks Q pc L (.ref (q 0) :: st) σ o := k_get (T := TX7) (ci := 7) 0 rfl rfl kinX7 0 (by decide) rfl hown hw rfl hd kk
theorem k_pMX7_fault {Rt : Type} {X : k_C} {Y : k_Y} {q : Nat → Nat} {kc ks : Nat} {Q : Rt → k_S → State → Prop} {pc : Nat} {L : List (Option Value)} {st : List Value} {σ : k_S} {x : Int32} {kf : k_S → Option (Rt × k_S)} {own : String} {index : Nat} (hw : Cond.fieldLink own index "TallTalesModel" "fault" "I" ∈ k_ws) (hown : own = Y.2.2.2.1) (hd : decode Y.2.1 pc = .ok (.putfield index, 3)) (kk : ∀ σ' : k_S, KO X Y (cM (k_I X) q) kc ks Q (pc + 3) L st σ' (kf σ')) : KO X Y (cM (k_I X) q) kc ks Q pc L (.int x :: .ref (q 0) :: st) σ (k_bn (k_sf σ 0 x) kf) := k_put (T := TX7) (ci := 7) 0 rfl rfl kinX7 tyX7_ok nmX7 0 (by decide) rfl rfl rfl rfl hown hw rfl hd kk
theorem k_gMX7_trace {Rt : Type} {X : k_C} {Y : k_Y} {q : Nat → Nat} {kc ks : Nat} {Q : Rt → k_S → State → Prop} {pc : Nat} {L : List (Option Value)} {st : List Value} {σ : k_S} {o : Option (Rt × k_S)} {own : String} {index : Nat} (hw : Cond.fieldLink own index "TallTalesModel" "trace" "I" ∈ k_ws) (hown : own = Y.2.2.2.1) (hd : decode Y.2.1 pc = .ok (.getfield index, 3)) (kk : KO X Y (cM (k_I X) q) kc ks Q (pc + 3) L (.int (σ.1 1) :: st) σ o) : KO X Y (cM (k_I X) q) kc ks Q pc L (.ref (q 0) :: st) σ o := k_get (T := TX7) (ci := 7) 0 rfl rfl kinX7 1 (by decide) rfl hown hw rfl hd kk
theorem k_pMX7_trace {Rt : Type} {X : k_C} {Y : k_Y} {q : Nat → Nat} {kc ks : Nat} {Q : Rt → k_S → State → Prop} {pc : Nat} {L : List (Option Value)} {st : List Value} {σ : k_S} {x : Int32} {kf : k_S → Option (Rt × k_S)} {own : String} {index : Nat} (hw : Cond.fieldLink own index "TallTalesModel" "trace" "I" ∈ k_ws) (hown : own = Y.2.2.2.1) (hd : decode Y.2.1 pc = .ok (.putfield index, 3)) (kk : ∀ σ' : k_S, KO X Y (cM (k_I X) q) kc ks Q (pc + 3) L st σ' (kf σ')) : KO X Y (cM (k_I X) q) kc ks Q pc L (.int x :: .ref (q 0) :: st) σ (k_bn (k_sf σ 1 x) kf) := k_put (T := TX7) (ci := 7) 0 rfl rfl kinX7 tyX7_ok nmX7 1 (by decide) rfl rfl rfl rfl hown hw rfl hd kk
theorem k_gMX7_sorts {Rt : Type} {X : k_C} {Y : k_Y} {q : Nat → Nat} {kc ks : Nat} {Q : Rt → k_S → State → Prop} {pc : Nat} {L : List (Option Value)} {st : List Value} {σ : k_S} {o : Option (Rt × k_S)} {own : String} {index : Nat} (hw : Cond.fieldLink own index "TallTalesModel" "sorts" "[I" ∈ k_ws) (hown : own = Y.2.2.2.1) (hd : decode Y.2.1 pc = .ok (.getfield index, 3)) (kk : KO X Y (cM (k_I X) q) kc ks Q (pc + 3) L (.ref (q 1) :: st) σ o) : KO X Y (cM (k_I X) q) kc ks Q pc L (.ref (q 0) :: st) σ o := k_get (T := TX7) (ci := 7) 0 rfl rfl kinX7 2 (by decide) rfl hown hw rfl hd kk
theorem k_gMX7_sheetLong {Rt : Type} {X : k_C} {Y : k_Y} {q : Nat → Nat} {kc ks : Nat} {Q : Rt → k_S → State → Prop} {pc : Nat} {L : List (Option Value)} {st : List Value} {σ : k_S} {o : Option (Rt × k_S)} {own : String} {index : Nat} (hw : Cond.fieldLink own index "TallTalesModel" "sheetLong" "[I" ∈ k_ws) (hown : own = Y.2.2.2.1) (hd : decode Y.2.1 pc = .ok (.getfield index, 3)) (kk : KO X Y (cM (k_I X) q) kc ks Q (pc + 3) L (.ref (q 2) :: st) σ o) : KO X Y (cM (k_I X) q) kc ks Q pc L (.ref (q 0) :: st) σ o := k_get (T := TX7) (ci := 7) 0 rfl rfl kinX7 3 (by decide) rfl hown hw rfl hd kk
theorem k_gMX7_cells {Rt : Type} {X : k_C} {Y : k_Y} {q : Nat → Nat} {kc ks : Nat} {Q : Rt → k_S → State → Prop} {pc : Nat} {L : List (Option Value)} {st : List Value} {σ : k_S} {o : Option (Rt × k_S)} {own : String} {index : Nat} (hw : Cond.fieldLink own index "TallTalesModel" "cells" "[I" ∈ k_ws) (hown : own = Y.2.2.2.1) (hd : decode Y.2.1 pc = .ok (.getfield index, 3)) (kk : KO X Y (cM (k_I X) q) kc ks Q (pc + 3) L (.ref (q 3) :: st) σ o) : KO X Y (cM (k_I X) q) kc ks Q pc L (.ref (q 0) :: st) σ o := k_get (T := TX7) (ci := 7) 0 rfl rfl kinX7 4 (by decide) rfl hown hw rfl hd kk
theorem k_gMX7_guests {Rt : Type} {X : k_C} {Y : k_Y} {q : Nat → Nat} {kc ks : Nat} {Q : Rt → k_S → State → Prop} {pc : Nat} {L : List (Option Value)} {st : List Value} {σ : k_S} {o : Option (Rt × k_S)} {own : String} {index : Nat} (hw : Cond.fieldLink own index "TallTalesModel" "guests" "I" ∈ k_ws) (hown : own = Y.2.2.2.1) (hd : decode Y.2.1 pc = .ok (.getfield index, 3)) (kk : KO X Y (cM (k_I X) q) kc ks Q (pc + 3) L (.int (σ.1 2) :: st) σ o) : KO X Y (cM (k_I X) q) kc ks Q pc L (.ref (q 0) :: st) σ o := k_get (T := TX7) (ci := 7) 0 rfl rfl kinX7 5 (by decide) rfl hown hw rfl hd kk
theorem k_pMX7_guests {Rt : Type} {X : k_C} {Y : k_Y} {q : Nat → Nat} {kc ks : Nat} {Q : Rt → k_S → State → Prop} {pc : Nat} {L : List (Option Value)} {st : List Value} {σ : k_S} {x : Int32} {kf : k_S → Option (Rt × k_S)} {own : String} {index : Nat} (hw : Cond.fieldLink own index "TallTalesModel" "guests" "I" ∈ k_ws) (hown : own = Y.2.2.2.1) (hd : decode Y.2.1 pc = .ok (.putfield index, 3)) (kk : ∀ σ' : k_S, KO X Y (cM (k_I X) q) kc ks Q (pc + 3) L st σ' (kf σ')) : KO X Y (cM (k_I X) q) kc ks Q pc L (.int x :: .ref (q 0) :: st) σ (k_bn (k_sf σ 2 x) kf) := k_put (T := TX7) (ci := 7) 0 rfl rfl kinX7 tyX7_ok nmX7 5 (by decide) rfl rfl rfl rfl hown hw rfl hd kk
theorem k_gMX7_tales {Rt : Type} {X : k_C} {Y : k_Y} {q : Nat → Nat} {kc ks : Nat} {Q : Rt → k_S → State → Prop} {pc : Nat} {L : List (Option Value)} {st : List Value} {σ : k_S} {o : Option (Rt × k_S)} {own : String} {index : Nat} (hw : Cond.fieldLink own index "TallTalesModel" "tales" "I" ∈ k_ws) (hown : own = Y.2.2.2.1) (hd : decode Y.2.1 pc = .ok (.getfield index, 3)) (kk : KO X Y (cM (k_I X) q) kc ks Q (pc + 3) L (.int (σ.1 3) :: st) σ o) : KO X Y (cM (k_I X) q) kc ks Q pc L (.ref (q 0) :: st) σ o := k_get (T := TX7) (ci := 7) 0 rfl rfl kinX7 6 (by decide) rfl hown hw rfl hd kk
theorem k_pMX7_tales {Rt : Type} {X : k_C} {Y : k_Y} {q : Nat → Nat} {kc ks : Nat} {Q : Rt → k_S → State → Prop} {pc : Nat} {L : List (Option Value)} {st : List Value} {σ : k_S} {x : Int32} {kf : k_S → Option (Rt × k_S)} {own : String} {index : Nat} (hw : Cond.fieldLink own index "TallTalesModel" "tales" "I" ∈ k_ws) (hown : own = Y.2.2.2.1) (hd : decode Y.2.1 pc = .ok (.putfield index, 3)) (kk : ∀ σ' : k_S, KO X Y (cM (k_I X) q) kc ks Q (pc + 3) L st σ' (kf σ')) : KO X Y (cM (k_I X) q) kc ks Q pc L (.int x :: .ref (q 0) :: st) σ (k_bn (k_sf σ 3 x) kf) := k_put (T := TX7) (ci := 7) 0 rfl rfl kinX7 tyX7_ok nmX7 6 (by decide) rfl rfl rfl rfl hown hw rfl hd kk
theorem k_gMX7_memory {Rt : Type} {X : k_C} {Y : k_Y} {q : Nat → Nat} {kc ks : Nat} {Q : Rt → k_S → State → Prop} {pc : Nat} {L : List (Option Value)} {st : List Value} {σ : k_S} {o : Option (Rt × k_S)} {own : String} {index : Nat} (hw : Cond.fieldLink own index "TallTalesModel" "memory" "I" ∈ k_ws) (hown : own = Y.2.2.2.1) (hd : decode Y.2.1 pc = .ok (.getfield index, 3)) (kk : KO X Y (cM (k_I X) q) kc ks Q (pc + 3) L (.int (σ.1 4) :: st) σ o) : KO X Y (cM (k_I X) q) kc ks Q pc L (.ref (q 0) :: st) σ o := k_get (T := TX7) (ci := 7) 0 rfl rfl kinX7 7 (by decide) rfl hown hw rfl hd kk
theorem k_pMX7_memory {Rt : Type} {X : k_C} {Y : k_Y} {q : Nat → Nat} {kc ks : Nat} {Q : Rt → k_S → State → Prop} {pc : Nat} {L : List (Option Value)} {st : List Value} {σ : k_S} {x : Int32} {kf : k_S → Option (Rt × k_S)} {own : String} {index : Nat} (hw : Cond.fieldLink own index "TallTalesModel" "memory" "I" ∈ k_ws) (hown : own = Y.2.2.2.1) (hd : decode Y.2.1 pc = .ok (.putfield index, 3)) (kk : ∀ σ' : k_S, KO X Y (cM (k_I X) q) kc ks Q (pc + 3) L st σ' (kf σ')) : KO X Y (cM (k_I X) q) kc ks Q pc L (.int x :: .ref (q 0) :: st) σ (k_bn (k_sf σ 4 x) kf) := k_put (T := TX7) (ci := 7) 0 rfl rfl kinX7 tyX7_ok nmX7 7 (by decide) rfl rfl rfl rfl hown hw rfl hd kk
theorem k_gMX7_kind {Rt : Type} {X : k_C} {Y : k_Y} {q : Nat → Nat} {kc ks : Nat} {Q : Rt → k_S → State → Prop} {pc : Nat} {L : List (Option Value)} {st : List Value} {σ : k_S} {o : Option (Rt × k_S)} {own : String} {index : Nat} (hw : Cond.fieldLink own index "TallTalesModel" "kind" "[I" ∈ k_ws) (hown : own = Y.2.2.2.1) (hd : decode Y.2.1 pc = .ok (.getfield index, 3)) (kk : KO X Y (cM (k_I X) q) kc ks Q (pc + 3) L (.ref (q 4) :: st) σ o) : KO X Y (cM (k_I X) q) kc ks Q pc L (.ref (q 0) :: st) σ o := k_get (T := TX7) (ci := 7) 0 rfl rfl kinX7 8 (by decide) rfl hown hw rfl hd kk
theorem k_gMX7_whose {Rt : Type} {X : k_C} {Y : k_Y} {q : Nat → Nat} {kc ks : Nat} {Q : Rt → k_S → State → Prop} {pc : Nat} {L : List (Option Value)} {st : List Value} {σ : k_S} {o : Option (Rt × k_S)} {own : String} {index : Nat} (hw : Cond.fieldLink own index "TallTalesModel" "whose" "[I" ∈ k_ws) (hown : own = Y.2.2.2.1) (hd : decode Y.2.1 pc = .ok (.getfield index, 3)) (kk : KO X Y (cM (k_I X) q) kc ks Q (pc + 3) L (.ref (q 5) :: st) σ o) : KO X Y (cM (k_I X) q) kc ks Q pc L (.ref (q 0) :: st) σ o := k_get (T := TX7) (ci := 7) 0 rfl rfl kinX7 9 (by decide) rfl hown hw rfl hd kk
theorem k_gMX7_high {Rt : Type} {X : k_C} {Y : k_Y} {q : Nat → Nat} {kc ks : Nat} {Q : Rt → k_S → State → Prop} {pc : Nat} {L : List (Option Value)} {st : List Value} {σ : k_S} {o : Option (Rt × k_S)} {own : String} {index : Nat} (hw : Cond.fieldLink own index "TallTalesModel" "high" "[I" ∈ k_ws) (hown : own = Y.2.2.2.1) (hd : decode Y.2.1 pc = .ok (.getfield index, 3)) (kk : KO X Y (cM (k_I X) q) kc ks Q (pc + 3) L (.ref (q 6) :: st) σ o) : KO X Y (cM (k_I X) q) kc ks Q pc L (.ref (q 0) :: st) σ o := k_get (T := TX7) (ci := 7) 0 rfl rfl kinX7 10 (by decide) rfl hown hw rfl hd kk
theorem k_gMX7_at {Rt : Type} {X : k_C} {Y : k_Y} {q : Nat → Nat} {kc ks : Nat} {Q : Rt → k_S → State → Prop} {pc : Nat} {L : List (Option Value)} {st : List Value} {σ : k_S} {o : Option (Rt × k_S)} {own : String} {index : Nat} (hw : Cond.fieldLink own index "TallTalesModel" "at" "I" ∈ k_ws) (hown : own = Y.2.2.2.1) (hd : decode Y.2.1 pc = .ok (.getfield index, 3)) (kk : KO X Y (cM (k_I X) q) kc ks Q (pc + 3) L (.int (σ.1 5) :: st) σ o) : KO X Y (cM (k_I X) q) kc ks Q pc L (.ref (q 0) :: st) σ o := k_get (T := TX7) (ci := 7) 0 rfl rfl kinX7 11 (by decide) rfl hown hw rfl hd kk
theorem k_pMX7_at {Rt : Type} {X : k_C} {Y : k_Y} {q : Nat → Nat} {kc ks : Nat} {Q : Rt → k_S → State → Prop} {pc : Nat} {L : List (Option Value)} {st : List Value} {σ : k_S} {x : Int32} {kf : k_S → Option (Rt × k_S)} {own : String} {index : Nat} (hw : Cond.fieldLink own index "TallTalesModel" "at" "I" ∈ k_ws) (hown : own = Y.2.2.2.1) (hd : decode Y.2.1 pc = .ok (.putfield index, 3)) (kk : ∀ σ' : k_S, KO X Y (cM (k_I X) q) kc ks Q (pc + 3) L st σ' (kf σ')) : KO X Y (cM (k_I X) q) kc ks Q pc L (.int x :: .ref (q 0) :: st) σ (k_bn (k_sf σ 5 x) kf) := k_put (T := TX7) (ci := 7) 0 rfl rfl kinX7 tyX7_ok nmX7 11 (by decide) rfl rfl rfl rfl hown hw rfl hd kk
theorem k_gMX7_readGuests {Rt : Type} {X : k_C} {Y : k_Y} {q : Nat → Nat} {kc ks : Nat} {Q : Rt → k_S → State → Prop} {pc : Nat} {L : List (Option Value)} {st : List Value} {σ : k_S} {o : Option (Rt × k_S)} {own : String} {index : Nat} (hw : Cond.fieldLink own index "TallTalesModel" "readGuests" "I" ∈ k_ws) (hown : own = Y.2.2.2.1) (hd : decode Y.2.1 pc = .ok (.getfield index, 3)) (kk : KO X Y (cM (k_I X) q) kc ks Q (pc + 3) L (.int (σ.1 6) :: st) σ o) : KO X Y (cM (k_I X) q) kc ks Q pc L (.ref (q 0) :: st) σ o := k_get (T := TX7) (ci := 7) 0 rfl rfl kinX7 12 (by decide) rfl hown hw rfl hd kk
theorem k_pMX7_readGuests {Rt : Type} {X : k_C} {Y : k_Y} {q : Nat → Nat} {kc ks : Nat} {Q : Rt → k_S → State → Prop} {pc : Nat} {L : List (Option Value)} {st : List Value} {σ : k_S} {x : Int32} {kf : k_S → Option (Rt × k_S)} {own : String} {index : Nat} (hw : Cond.fieldLink own index "TallTalesModel" "readGuests" "I" ∈ k_ws) (hown : own = Y.2.2.2.1) (hd : decode Y.2.1 pc = .ok (.putfield index, 3)) (kk : ∀ σ' : k_S, KO X Y (cM (k_I X) q) kc ks Q (pc + 3) L st σ' (kf σ')) : KO X Y (cM (k_I X) q) kc ks Q pc L (.int x :: .ref (q 0) :: st) σ (k_bn (k_sf σ 6 x) kf) := k_put (T := TX7) (ci := 7) 0 rfl rfl kinX7 tyX7_ok nmX7 12 (by decide) rfl rfl rfl rfl hown hw rfl hd kk
theorem k_gMX7_readTales {Rt : Type} {X : k_C} {Y : k_Y} {q : Nat → Nat} {kc ks : Nat} {Q : Rt → k_S → State → Prop} {pc : Nat} {L : List (Option Value)} {st : List Value} {σ : k_S} {o : Option (Rt × k_S)} {own : String} {index : Nat} (hw : Cond.fieldLink own index "TallTalesModel" "readTales" "I" ∈ k_ws) (hown : own = Y.2.2.2.1) (hd : decode Y.2.1 pc = .ok (.getfield index, 3)) (kk : KO X Y (cM (k_I X) q) kc ks Q (pc + 3) L (.int (σ.1 7) :: st) σ o) : KO X Y (cM (k_I X) q) kc ks Q pc L (.ref (q 0) :: st) σ o := k_get (T := TX7) (ci := 7) 0 rfl rfl kinX7 13 (by decide) rfl hown hw rfl hd kk
theorem k_pMX7_readTales {Rt : Type} {X : k_C} {Y : k_Y} {q : Nat → Nat} {kc ks : Nat} {Q : Rt → k_S → State → Prop} {pc : Nat} {L : List (Option Value)} {st : List Value} {σ : k_S} {x : Int32} {kf : k_S → Option (Rt × k_S)} {own : String} {index : Nat} (hw : Cond.fieldLink own index "TallTalesModel" "readTales" "I" ∈ k_ws) (hown : own = Y.2.2.2.1) (hd : decode Y.2.1 pc = .ok (.putfield index, 3)) (kk : ∀ σ' : k_S, KO X Y (cM (k_I X) q) kc ks Q (pc + 3) L st σ' (kf σ')) : KO X Y (cM (k_I X) q) kc ks Q pc L (.int x :: .ref (q 0) :: st) σ (k_bn (k_sf σ 7 x) kf) := k_put (T := TX7) (ci := 7) 0 rfl rfl kinX7 tyX7_ok nmX7 13 (by decide) rfl rfl rfl rfl hown hw rfl hd kk
theorem k_gMX7_readKind {Rt : Type} {X : k_C} {Y : k_Y} {q : Nat → Nat} {kc ks : Nat} {Q : Rt → k_S → State → Prop} {pc : Nat} {L : List (Option Value)} {st : List Value} {σ : k_S} {o : Option (Rt × k_S)} {own : String} {index : Nat} (hw : Cond.fieldLink own index "TallTalesModel" "readKind" "[I" ∈ k_ws) (hown : own = Y.2.2.2.1) (hd : decode Y.2.1 pc = .ok (.getfield index, 3)) (kk : KO X Y (cM (k_I X) q) kc ks Q (pc + 3) L (.ref (q 7) :: st) σ o) : KO X Y (cM (k_I X) q) kc ks Q pc L (.ref (q 0) :: st) σ o := k_get (T := TX7) (ci := 7) 0 rfl rfl kinX7 14 (by decide) rfl hown hw rfl hd kk
theorem k_gMX7_readWhose {Rt : Type} {X : k_C} {Y : k_Y} {q : Nat → Nat} {kc ks : Nat} {Q : Rt → k_S → State → Prop} {pc : Nat} {L : List (Option Value)} {st : List Value} {σ : k_S} {o : Option (Rt × k_S)} {own : String} {index : Nat} (hw : Cond.fieldLink own index "TallTalesModel" "readWhose" "[I" ∈ k_ws) (hown : own = Y.2.2.2.1) (hd : decode Y.2.1 pc = .ok (.getfield index, 3)) (kk : KO X Y (cM (k_I X) q) kc ks Q (pc + 3) L (.ref (q 8) :: st) σ o) : KO X Y (cM (k_I X) q) kc ks Q pc L (.ref (q 0) :: st) σ o := k_get (T := TX7) (ci := 7) 0 rfl rfl kinX7 15 (by decide) rfl hown hw rfl hd kk
theorem k_gMX7_readHigh {Rt : Type} {X : k_C} {Y : k_Y} {q : Nat → Nat} {kc ks : Nat} {Q : Rt → k_S → State → Prop} {pc : Nat} {L : List (Option Value)} {st : List Value} {σ : k_S} {o : Option (Rt × k_S)} {own : String} {index : Nat} (hw : Cond.fieldLink own index "TallTalesModel" "readHigh" "[I" ∈ k_ws) (hown : own = Y.2.2.2.1) (hd : decode Y.2.1 pc = .ok (.getfield index, 3)) (kk : KO X Y (cM (k_I X) q) kc ks Q (pc + 3) L (.ref (q 9) :: st) σ o) : KO X Y (cM (k_I X) q) kc ks Q pc L (.ref (q 0) :: st) σ o := k_get (T := TX7) (ci := 7) 0 rfl rfl kinX7 16 (by decide) rfl hown hw rfl hd kk
theorem k_gMX7_over {Rt : Type} {X : k_C} {Y : k_Y} {q : Nat → Nat} {kc ks : Nat} {Q : Rt → k_S → State → Prop} {pc : Nat} {L : List (Option Value)} {st : List Value} {σ : k_S} {o : Option (Rt × k_S)} {own : String} {index : Nat} (hw : Cond.fieldLink own index "TallTalesModel" "over" "I" ∈ k_ws) (hown : own = Y.2.2.2.1) (hd : decode Y.2.1 pc = .ok (.getfield index, 3)) (kk : KO X Y (cM (k_I X) q) kc ks Q (pc + 3) L (.int (σ.1 8) :: st) σ o) : KO X Y (cM (k_I X) q) kc ks Q pc L (.ref (q 0) :: st) σ o := k_get (T := TX7) (ci := 7) 0 rfl rfl kinX7 17 (by decide) rfl hown hw rfl hd kk
theorem k_pMX7_over {Rt : Type} {X : k_C} {Y : k_Y} {q : Nat → Nat} {kc ks : Nat} {Q : Rt → k_S → State → Prop} {pc : Nat} {L : List (Option Value)} {st : List Value} {σ : k_S} {x : Int32} {kf : k_S → Option (Rt × k_S)} {own : String} {index : Nat} (hw : Cond.fieldLink own index "TallTalesModel" "over" "I" ∈ k_ws) (hown : own = Y.2.2.2.1) (hd : decode Y.2.1 pc = .ok (.putfield index, 3)) (kk : ∀ σ' : k_S, KO X Y (cM (k_I X) q) kc ks Q (pc + 3) L st σ' (kf σ')) : KO X Y (cM (k_I X) q) kc ks Q pc L (.int x :: .ref (q 0) :: st) σ (k_bn (k_sf σ 8 x) kf) := k_put (T := TX7) (ci := 7) 0 rfl rfl kinX7 tyX7_ok nmX7 17 (by decide) rfl rfl rfl rfl hown hw rfl hd kk
theorem k_gMX7_nightTold {Rt : Type} {X : k_C} {Y : k_Y} {q : Nat → Nat} {kc ks : Nat} {Q : Rt → k_S → State → Prop} {pc : Nat} {L : List (Option Value)} {st : List Value} {σ : k_S} {o : Option (Rt × k_S)} {own : String} {index : Nat} (hw : Cond.fieldLink own index "TallTalesModel" "nightTold" "[I" ∈ k_ws) (hown : own = Y.2.2.2.1) (hd : decode Y.2.1 pc = .ok (.getfield index, 3)) (kk : KO X Y (cM (k_I X) q) kc ks Q (pc + 3) L (.ref (q 10) :: st) σ o) : KO X Y (cM (k_I X) q) kc ks Q pc L (.ref (q 0) :: st) σ o := k_get (T := TX7) (ci := 7) 0 rfl rfl kinX7 18 (by decide) rfl hown hw rfl hd kk
theorem k_gMX7_nightTall {Rt : Type} {X : k_C} {Y : k_Y} {q : Nat → Nat} {kc ks : Nat} {Q : Rt → k_S → State → Prop} {pc : Nat} {L : List (Option Value)} {st : List Value} {σ : k_S} {o : Option (Rt × k_S)} {own : String} {index : Nat} (hw : Cond.fieldLink own index "TallTalesModel" "nightTall" "[I" ∈ k_ws) (hown : own = Y.2.2.2.1) (hd : decode Y.2.1 pc = .ok (.getfield index, 3)) (kk : KO X Y (cM (k_I X) q) kc ks Q (pc + 3) L (.ref (q 11) :: st) σ o) : KO X Y (cM (k_I X) q) kc ks Q pc L (.ref (q 0) :: st) σ o := k_get (T := TX7) (ci := 7) 0 rfl rfl kinX7 19 (by decide) rfl hown hw rfl hd kk
theorem k_gMX7_chosen {Rt : Type} {X : k_C} {Y : k_Y} {q : Nat → Nat} {kc ks : Nat} {Q : Rt → k_S → State → Prop} {pc : Nat} {L : List (Option Value)} {st : List Value} {σ : k_S} {o : Option (Rt × k_S)} {own : String} {index : Nat} (hw : Cond.fieldLink own index "TallTalesModel" "chosen" "[I" ∈ k_ws) (hown : own = Y.2.2.2.1) (hd : decode Y.2.1 pc = .ok (.getfield index, 3)) (kk : KO X Y (cM (k_I X) q) kc ks Q (pc + 3) L (.ref (q 12) :: st) σ o) : KO X Y (cM (k_I X) q) kc ks Q pc L (.ref (q 0) :: st) σ o := k_get (T := TX7) (ci := 7) 0 rfl rfl kinX7 20 (by decide) rfl hown hw rfl hd kk
theorem k_gMX7_times {Rt : Type} {X : k_C} {Y : k_Y} {q : Nat → Nat} {kc ks : Nat} {Q : Rt → k_S → State → Prop} {pc : Nat} {L : List (Option Value)} {st : List Value} {σ : k_S} {o : Option (Rt × k_S)} {own : String} {index : Nat} (hw : Cond.fieldLink own index "TallTalesModel" "times" "[I" ∈ k_ws) (hown : own = Y.2.2.2.1) (hd : decode Y.2.1 pc = .ok (.getfield index, 3)) (kk : KO X Y (cM (k_I X) q) kc ks Q (pc + 3) L (.ref (q 13) :: st) σ o) : KO X Y (cM (k_I X) q) kc ks Q pc L (.ref (q 0) :: st) σ o := k_get (T := TX7) (ci := 7) 0 rfl rfl kinX7 21 (by decide) rfl hown hw rfl hd kk
theorem k_gMX7_last {Rt : Type} {X : k_C} {Y : k_Y} {q : Nat → Nat} {kc ks : Nat} {Q : Rt → k_S → State → Prop} {pc : Nat} {L : List (Option Value)} {st : List Value} {σ : k_S} {o : Option (Rt × k_S)} {own : String} {index : Nat} (hw : Cond.fieldLink own index "TallTalesModel" "last" "[I" ∈ k_ws) (hown : own = Y.2.2.2.1) (hd : decode Y.2.1 pc = .ok (.getfield index, 3)) (kk : KO X Y (cM (k_I X) q) kc ks Q (pc + 3) L (.ref (q 14) :: st) σ o) : KO X Y (cM (k_I X) q) kc ks Q pc L (.ref (q 0) :: st) σ o := k_get (T := TX7) (ci := 7) 0 rfl rfl kinX7 22 (by decide) rfl hown hw rfl hd kk
theorem k_gMX7_tall {Rt : Type} {X : k_C} {Y : k_Y} {q : Nat → Nat} {kc ks : Nat} {Q : Rt → k_S → State → Prop} {pc : Nat} {L : List (Option Value)} {st : List Value} {σ : k_S} {o : Option (Rt × k_S)} {own : String} {index : Nat} (hw : Cond.fieldLink own index "TallTalesModel" "tall" "[I" ∈ k_ws) (hown : own = Y.2.2.2.1) (hd : decode Y.2.1 pc = .ok (.getfield index, 3)) (kk : KO X Y (cM (k_I X) q) kc ks Q (pc + 3) L (.ref (q 15) :: st) σ o) : KO X Y (cM (k_I X) q) kc ks Q pc L (.ref (q 0) :: st) σ o := k_get (T := TX7) (ci := 7) 0 rfl rfl kinX7 23 (by decide) rfl hown hw rfl hd kk
theorem k_gMX7_bestTale {Rt : Type} {X : k_C} {Y : k_Y} {q : Nat → Nat} {kc ks : Nat} {Q : Rt → k_S → State → Prop} {pc : Nat} {L : List (Option Value)} {st : List Value} {σ : k_S} {o : Option (Rt × k_S)} {own : String} {index : Nat} (hw : Cond.fieldLink own index "TallTalesModel" "bestTale" "I" ∈ k_ws) (hown : own = Y.2.2.2.1) (hd : decode Y.2.1 pc = .ok (.getfield index, 3)) (kk : KO X Y (cM (k_I X) q) kc ks Q (pc + 3) L (.int (σ.1 9) :: st) σ o) : KO X Y (cM (k_I X) q) kc ks Q pc L (.ref (q 0) :: st) σ o := k_get (T := TX7) (ci := 7) 0 rfl rfl kinX7 24 (by decide) rfl hown hw rfl hd kk
theorem k_pMX7_bestTale {Rt : Type} {X : k_C} {Y : k_Y} {q : Nat → Nat} {kc ks : Nat} {Q : Rt → k_S → State → Prop} {pc : Nat} {L : List (Option Value)} {st : List Value} {σ : k_S} {x : Int32} {kf : k_S → Option (Rt × k_S)} {own : String} {index : Nat} (hw : Cond.fieldLink own index "TallTalesModel" "bestTale" "I" ∈ k_ws) (hown : own = Y.2.2.2.1) (hd : decode Y.2.1 pc = .ok (.putfield index, 3)) (kk : ∀ σ' : k_S, KO X Y (cM (k_I X) q) kc ks Q (pc + 3) L st σ' (kf σ')) : KO X Y (cM (k_I X) q) kc ks Q pc L (.int x :: .ref (q 0) :: st) σ (k_bn (k_sf σ 9 x) kf) := k_put (T := TX7) (ci := 7) 0 rfl rfl kinX7 tyX7_ok nmX7 24 (by decide) rfl rfl rfl rfl hown hw rfl hd kk
theorem k_gMX7_bestPlace {Rt : Type} {X : k_C} {Y : k_Y} {q : Nat → Nat} {kc ks : Nat} {Q : Rt → k_S → State → Prop} {pc : Nat} {L : List (Option Value)} {st : List Value} {σ : k_S} {o : Option (Rt × k_S)} {own : String} {index : Nat} (hw : Cond.fieldLink own index "TallTalesModel" "bestPlace" "I" ∈ k_ws) (hown : own = Y.2.2.2.1) (hd : decode Y.2.1 pc = .ok (.getfield index, 3)) (kk : KO X Y (cM (k_I X) q) kc ks Q (pc + 3) L (.int (σ.1 10) :: st) σ o) : KO X Y (cM (k_I X) q) kc ks Q pc L (.ref (q 0) :: st) σ o := k_get (T := TX7) (ci := 7) 0 rfl rfl kinX7 25 (by decide) rfl hown hw rfl hd kk
theorem k_pMX7_bestPlace {Rt : Type} {X : k_C} {Y : k_Y} {q : Nat → Nat} {kc ks : Nat} {Q : Rt → k_S → State → Prop} {pc : Nat} {L : List (Option Value)} {st : List Value} {σ : k_S} {x : Int32} {kf : k_S → Option (Rt × k_S)} {own : String} {index : Nat} (hw : Cond.fieldLink own index "TallTalesModel" "bestPlace" "I" ∈ k_ws) (hown : own = Y.2.2.2.1) (hd : decode Y.2.1 pc = .ok (.putfield index, 3)) (kk : ∀ σ' : k_S, KO X Y (cM (k_I X) q) kc ks Q (pc + 3) L st σ' (kf σ')) : KO X Y (cM (k_I X) q) kc ks Q pc L (.int x :: .ref (q 0) :: st) σ (k_bn (k_sf σ 10 x) kf) := k_put (T := TX7) (ci := 7) 0 rfl rfl kinX7 tyX7_ok nmX7 25 (by decide) rfl rfl rfl rfl hown hw rfl hd kk
theorem k_gMX7_bestTall {Rt : Type} {X : k_C} {Y : k_Y} {q : Nat → Nat} {kc ks : Nat} {Q : Rt → k_S → State → Prop} {pc : Nat} {L : List (Option Value)} {st : List Value} {σ : k_S} {o : Option (Rt × k_S)} {own : String} {index : Nat} (hw : Cond.fieldLink own index "TallTalesModel" "bestTall" "I" ∈ k_ws) (hown : own = Y.2.2.2.1) (hd : decode Y.2.1 pc = .ok (.getfield index, 3)) (kk : KO X Y (cM (k_I X) q) kc ks Q (pc + 3) L (.int (σ.1 11) :: st) σ o) : KO X Y (cM (k_I X) q) kc ks Q pc L (.ref (q 0) :: st) σ o := k_get (T := TX7) (ci := 7) 0 rfl rfl kinX7 26 (by decide) rfl hown hw rfl hd kk
theorem k_pMX7_bestTall {Rt : Type} {X : k_C} {Y : k_Y} {q : Nat → Nat} {kc ks : Nat} {Q : Rt → k_S → State → Prop} {pc : Nat} {L : List (Option Value)} {st : List Value} {σ : k_S} {x : Int32} {kf : k_S → Option (Rt × k_S)} {own : String} {index : Nat} (hw : Cond.fieldLink own index "TallTalesModel" "bestTall" "I" ∈ k_ws) (hown : own = Y.2.2.2.1) (hd : decode Y.2.1 pc = .ok (.putfield index, 3)) (kk : ∀ σ' : k_S, KO X Y (cM (k_I X) q) kc ks Q (pc + 3) L st σ' (kf σ')) : KO X Y (cM (k_I X) q) kc ks Q pc L (.int x :: .ref (q 0) :: st) σ (k_bn (k_sf σ 11 x) kf) := k_put (T := TX7) (ci := 7) 0 rfl rfl kinX7 tyX7_ok nmX7 26 (by decide) rfl rfl rfl rfl hown hw rfl hd kk
theorem k_gMX7_tells {Rt : Type} {X : k_C} {Y : k_Y} {q : Nat → Nat} {kc ks : Nat} {Q : Rt → k_S → State → Prop} {pc : Nat} {L : List (Option Value)} {st : List Value} {σ : k_S} {o : Option (Rt × k_S)} {own : String} {index : Nat} (hw : Cond.fieldLink own index "TallTalesModel" "tells" "[I" ∈ k_ws) (hown : own = Y.2.2.2.1) (hd : decode Y.2.1 pc = .ok (.getfield index, 3)) (kk : KO X Y (cM (k_I X) q) kc ks Q (pc + 3) L (.ref (q 16) :: st) σ o) : KO X Y (cM (k_I X) q) kc ks Q pc L (.ref (q 0) :: st) σ o := k_get (T := TX7) (ci := 7) 0 rfl rfl kinX7 27 (by decide) rfl hown hw rfl hd kk
theorem k_gMX7_firstRest {Rt : Type} {X : k_C} {Y : k_Y} {q : Nat → Nat} {kc ks : Nat} {Q : Rt → k_S → State → Prop} {pc : Nat} {L : List (Option Value)} {st : List Value} {σ : k_S} {o : Option (Rt × k_S)} {own : String} {index : Nat} (hw : Cond.fieldLink own index "TallTalesModel" "firstRest" "[I" ∈ k_ws) (hown : own = Y.2.2.2.1) (hd : decode Y.2.1 pc = .ok (.getfield index, 3)) (kk : KO X Y (cM (k_I X) q) kc ks Q (pc + 3) L (.ref (q 17) :: st) σ o) : KO X Y (cM (k_I X) q) kc ks Q pc L (.ref (q 0) :: st) σ o := k_get (T := TX7) (ci := 7) 0 rfl rfl kinX7 28 (by decide) rfl hown hw rfl hd kk
theorem k_gMX7_winterTells {Rt : Type} {X : k_C} {Y : k_Y} {q : Nat → Nat} {kc ks : Nat} {Q : Rt → k_S → State → Prop} {pc : Nat} {L : List (Option Value)} {st : List Value} {σ : k_S} {o : Option (Rt × k_S)} {own : String} {index : Nat} (hw : Cond.fieldLink own index "TallTalesModel" "winterTells" "[I" ∈ k_ws) (hown : own = Y.2.2.2.1) (hd : decode Y.2.1 pc = .ok (.getfield index, 3)) (kk : KO X Y (cM (k_I X) q) kc ks Q (pc + 3) L (.ref (q 18) :: st) σ o) : KO X Y (cM (k_I X) q) kc ks Q pc L (.ref (q 0) :: st) σ o := k_get (T := TX7) (ci := 7) 0 rfl rfl kinX7 29 (by decide) rfl hown hw rfl hd kk
theorem k_gMX7_winterBest {Rt : Type} {X : k_C} {Y : k_Y} {q : Nat → Nat} {kc ks : Nat} {Q : Rt → k_S → State → Prop} {pc : Nat} {L : List (Option Value)} {st : List Value} {σ : k_S} {o : Option (Rt × k_S)} {own : String} {index : Nat} (hw : Cond.fieldLink own index "TallTalesModel" "winterBest" "[I" ∈ k_ws) (hown : own = Y.2.2.2.1) (hd : decode Y.2.1 pc = .ok (.getfield index, 3)) (kk : KO X Y (cM (k_I X) q) kc ks Q (pc + 3) L (.ref (q 19) :: st) σ o) : KO X Y (cM (k_I X) q) kc ks Q pc L (.ref (q 0) :: st) σ o := k_get (T := TX7) (ci := 7) 0 rfl rfl kinX7 30 (by decide) rfl hown hw rfl hd kk
theorem k_lM1 {Rt : Type} {X : k_C} {Y : k_Y} {q : Nat → Nat} {kc ks : Nat} {Q : Rt → k_S → State → Prop} {pc : Nat} {L : List (Option Value)} {st : List Value} {σ : k_S} {o : Option (Rt × k_S)} {i : Int32} (hd : decode Y.2.1 pc = .ok (.iaload, 1)) (kk : KO X Y (cM (k_I X) q) kc ks Q (pc + 1) L (.int (σ.2 0 i.toNatClampNeg) :: st) σ o) : KO X Y (cM (k_I X) q) kc ks Q pc L (.int i :: .ref (q 1) :: st) σ (k_gd i 4 o) := k_iald 1 rfl hd kk
theorem k_sM1 {Rt : Type} {X : k_C} {Y : k_Y} {q : Nat → Nat} {kc ks : Nat} {Q : Rt → k_S → State → Prop} {pc : Nat} {L : List (Option Value)} {st : List Value} {σ : k_S} {i x : Int32} {kf : k_S → Option (Rt × k_S)} (hd : decode Y.2.1 pc = .ok (.iastore, 1)) (kk : ∀ σ' : k_S, KO X Y (cM (k_I X) q) kc ks Q (pc + 1) L st σ' (kf σ')) : KO X Y (cM (k_I X) q) kc ks Q pc L (.int x :: .int i :: .ref (q 1) :: st) σ (k_gd i 4 (k_bn (k_sa σ 0 i x) kf)) := k_iast 1 rfl rfl hd kk
theorem k_lM2 {Rt : Type} {X : k_C} {Y : k_Y} {q : Nat → Nat} {kc ks : Nat} {Q : Rt → k_S → State → Prop} {pc : Nat} {L : List (Option Value)} {st : List Value} {σ : k_S} {o : Option (Rt × k_S)} {i : Int32} (hd : decode Y.2.1 pc = .ok (.iaload, 1)) (kk : KO X Y (cM (k_I X) q) kc ks Q (pc + 1) L (.int (σ.2 1 i.toNatClampNeg) :: st) σ o) : KO X Y (cM (k_I X) q) kc ks Q pc L (.int i :: .ref (q 2) :: st) σ (k_gd i 4 o) := k_iald 2 rfl hd kk
theorem k_sM2 {Rt : Type} {X : k_C} {Y : k_Y} {q : Nat → Nat} {kc ks : Nat} {Q : Rt → k_S → State → Prop} {pc : Nat} {L : List (Option Value)} {st : List Value} {σ : k_S} {i x : Int32} {kf : k_S → Option (Rt × k_S)} (hd : decode Y.2.1 pc = .ok (.iastore, 1)) (kk : ∀ σ' : k_S, KO X Y (cM (k_I X) q) kc ks Q (pc + 1) L st σ' (kf σ')) : KO X Y (cM (k_I X) q) kc ks Q pc L (.int x :: .int i :: .ref (q 2) :: st) σ (k_gd i 4 (k_bn (k_sa σ 1 i x) kf)) := k_iast 2 rfl rfl hd kk
theorem k_lM3 {Rt : Type} {X : k_C} {Y : k_Y} {q : Nat → Nat} {kc ks : Nat} {Q : Rt → k_S → State → Prop} {pc : Nat} {L : List (Option Value)} {st : List Value} {σ : k_S} {o : Option (Rt × k_S)} {i : Int32} (hd : decode Y.2.1 pc = .ok (.iaload, 1)) (kk : KO X Y (cM (k_I X) q) kc ks Q (pc + 1) L (.int (σ.2 2 i.toNatClampNeg) :: st) σ o) : KO X Y (cM (k_I X) q) kc ks Q pc L (.int i :: .ref (q 3) :: st) σ (k_gd i 240 o) := k_iald 3 rfl hd kk
theorem k_sM3 {Rt : Type} {X : k_C} {Y : k_Y} {q : Nat → Nat} {kc ks : Nat} {Q : Rt → k_S → State → Prop} {pc : Nat} {L : List (Option Value)} {st : List Value} {σ : k_S} {i x : Int32} {kf : k_S → Option (Rt × k_S)} (hd : decode Y.2.1 pc = .ok (.iastore, 1)) (kk : ∀ σ' : k_S, KO X Y (cM (k_I X) q) kc ks Q (pc + 1) L st σ' (kf σ')) : KO X Y (cM (k_I X) q) kc ks Q pc L (.int x :: .int i :: .ref (q 3) :: st) σ (k_gd i 240 (k_bn (k_sa σ 2 i x) kf)) := k_iast 3 rfl rfl hd kk
theorem k_lM4 {Rt : Type} {X : k_C} {Y : k_Y} {q : Nat → Nat} {kc ks : Nat} {Q : Rt → k_S → State → Prop} {pc : Nat} {L : List (Option Value)} {st : List Value} {σ : k_S} {o : Option (Rt × k_S)} {i : Int32} (hd : decode Y.2.1 pc = .ok (.iaload, 1)) (kk : KO X Y (cM (k_I X) q) kc ks Q (pc + 1) L (.int (σ.2 3 i.toNatClampNeg) :: st) σ o) : KO X Y (cM (k_I X) q) kc ks Q pc L (.int i :: .ref (q 4) :: st) σ (k_gd i 10 o) := k_iald 4 rfl hd kk
theorem k_sM4 {Rt : Type} {X : k_C} {Y : k_Y} {q : Nat → Nat} {kc ks : Nat} {Q : Rt → k_S → State → Prop} {pc : Nat} {L : List (Option Value)} {st : List Value} {σ : k_S} {i x : Int32} {kf : k_S → Option (Rt × k_S)} (hd : decode Y.2.1 pc = .ok (.iastore, 1)) (kk : ∀ σ' : k_S, KO X Y (cM (k_I X) q) kc ks Q (pc + 1) L st σ' (kf σ')) : KO X Y (cM (k_I X) q) kc ks Q pc L (.int x :: .int i :: .ref (q 4) :: st) σ (k_gd i 10 (k_bn (k_sa σ 3 i x) kf)) := k_iast 4 rfl rfl hd kk
theorem k_lM5 {Rt : Type} {X : k_C} {Y : k_Y} {q : Nat → Nat} {kc ks : Nat} {Q : Rt → k_S → State → Prop} {pc : Nat} {L : List (Option Value)} {st : List Value} {σ : k_S} {o : Option (Rt × k_S)} {i : Int32} (hd : decode Y.2.1 pc = .ok (.iaload, 1)) (kk : KO X Y (cM (k_I X) q) kc ks Q (pc + 1) L (.int (σ.2 4 i.toNatClampNeg) :: st) σ o) : KO X Y (cM (k_I X) q) kc ks Q pc L (.int i :: .ref (q 5) :: st) σ (k_gd i 10 o) := k_iald 5 rfl hd kk
theorem k_sM5 {Rt : Type} {X : k_C} {Y : k_Y} {q : Nat → Nat} {kc ks : Nat} {Q : Rt → k_S → State → Prop} {pc : Nat} {L : List (Option Value)} {st : List Value} {σ : k_S} {i x : Int32} {kf : k_S → Option (Rt × k_S)} (hd : decode Y.2.1 pc = .ok (.iastore, 1)) (kk : ∀ σ' : k_S, KO X Y (cM (k_I X) q) kc ks Q (pc + 1) L st σ' (kf σ')) : KO X Y (cM (k_I X) q) kc ks Q pc L (.int x :: .int i :: .ref (q 5) :: st) σ (k_gd i 10 (k_bn (k_sa σ 4 i x) kf)) := k_iast 5 rfl rfl hd kk
theorem k_lM6 {Rt : Type} {X : k_C} {Y : k_Y} {q : Nat → Nat} {kc ks : Nat} {Q : Rt → k_S → State → Prop} {pc : Nat} {L : List (Option Value)} {st : List Value} {σ : k_S} {o : Option (Rt × k_S)} {i : Int32} (hd : decode Y.2.1 pc = .ok (.iaload, 1)) (kk : KO X Y (cM (k_I X) q) kc ks Q (pc + 1) L (.int (σ.2 5 i.toNatClampNeg) :: st) σ o) : KO X Y (cM (k_I X) q) kc ks Q pc L (.int i :: .ref (q 6) :: st) σ (k_gd i 10 o) := k_iald 6 rfl hd kk
theorem k_sM6 {Rt : Type} {X : k_C} {Y : k_Y} {q : Nat → Nat} {kc ks : Nat} {Q : Rt → k_S → State → Prop} {pc : Nat} {L : List (Option Value)} {st : List Value} {σ : k_S} {i x : Int32} {kf : k_S → Option (Rt × k_S)} (hd : decode Y.2.1 pc = .ok (.iastore, 1)) (kk : ∀ σ' : k_S, KO X Y (cM (k_I X) q) kc ks Q (pc + 1) L st σ' (kf σ')) : KO X Y (cM (k_I X) q) kc ks Q pc L (.int x :: .int i :: .ref (q 6) :: st) σ (k_gd i 10 (k_bn (k_sa σ 5 i x) kf)) := k_iast 6 rfl rfl hd kk
theorem k_lM7 {Rt : Type} {X : k_C} {Y : k_Y} {q : Nat → Nat} {kc ks : Nat} {Q : Rt → k_S → State → Prop} {pc : Nat} {L : List (Option Value)} {st : List Value} {σ : k_S} {o : Option (Rt × k_S)} {i : Int32} (hd : decode Y.2.1 pc = .ok (.iaload, 1)) (kk : KO X Y (cM (k_I X) q) kc ks Q (pc + 1) L (.int (σ.2 6 i.toNatClampNeg) :: st) σ o) : KO X Y (cM (k_I X) q) kc ks Q pc L (.int i :: .ref (q 7) :: st) σ (k_gd i 10 o) := k_iald 7 rfl hd kk
theorem k_sM7 {Rt : Type} {X : k_C} {Y : k_Y} {q : Nat → Nat} {kc ks : Nat} {Q : Rt → k_S → State → Prop} {pc : Nat} {L : List (Option Value)} {st : List Value} {σ : k_S} {i x : Int32} {kf : k_S → Option (Rt × k_S)} (hd : decode Y.2.1 pc = .ok (.iastore, 1)) (kk : ∀ σ' : k_S, KO X Y (cM (k_I X) q) kc ks Q (pc + 1) L st σ' (kf σ')) : KO X Y (cM (k_I X) q) kc ks Q pc L (.int x :: .int i :: .ref (q 7) :: st) σ (k_gd i 10 (k_bn (k_sa σ 6 i x) kf)) := k_iast 7 rfl rfl hd kk
theorem k_lM8 {Rt : Type} {X : k_C} {Y : k_Y} {q : Nat → Nat} {kc ks : Nat} {Q : Rt → k_S → State → Prop} {pc : Nat} {L : List (Option Value)} {st : List Value} {σ : k_S} {o : Option (Rt × k_S)} {i : Int32} (hd : decode Y.2.1 pc = .ok (.iaload, 1)) (kk : KO X Y (cM (k_I X) q) kc ks Q (pc + 1) L (.int (σ.2 7 i.toNatClampNeg) :: st) σ o) : KO X Y (cM (k_I X) q) kc ks Q pc L (.int i :: .ref (q 8) :: st) σ (k_gd i 10 o) := k_iald 8 rfl hd kk
theorem k_sM8 {Rt : Type} {X : k_C} {Y : k_Y} {q : Nat → Nat} {kc ks : Nat} {Q : Rt → k_S → State → Prop} {pc : Nat} {L : List (Option Value)} {st : List Value} {σ : k_S} {i x : Int32} {kf : k_S → Option (Rt × k_S)} (hd : decode Y.2.1 pc = .ok (.iastore, 1)) (kk : ∀ σ' : k_S, KO X Y (cM (k_I X) q) kc ks Q (pc + 1) L st σ' (kf σ')) : KO X Y (cM (k_I X) q) kc ks Q pc L (.int x :: .int i :: .ref (q 8) :: st) σ (k_gd i 10 (k_bn (k_sa σ 7 i x) kf)) := k_iast 8 rfl rfl hd kk
theorem k_lM9 {Rt : Type} {X : k_C} {Y : k_Y} {q : Nat → Nat} {kc ks : Nat} {Q : Rt → k_S → State → Prop} {pc : Nat} {L : List (Option Value)} {st : List Value} {σ : k_S} {o : Option (Rt × k_S)} {i : Int32} (hd : decode Y.2.1 pc = .ok (.iaload, 1)) (kk : KO X Y (cM (k_I X) q) kc ks Q (pc + 1) L (.int (σ.2 8 i.toNatClampNeg) :: st) σ o) : KO X Y (cM (k_I X) q) kc ks Q pc L (.int i :: .ref (q 9) :: st) σ (k_gd i 10 o) := k_iald 9 rfl hd kk
theorem k_sM9 {Rt : Type} {X : k_C} {Y : k_Y} {q : Nat → Nat} {kc ks : Nat} {Q : Rt → k_S → State → Prop} {pc : Nat} {L : List (Option Value)} {st : List Value} {σ : k_S} {i x : Int32} {kf : k_S → Option (Rt × k_S)} (hd : decode Y.2.1 pc = .ok (.iastore, 1)) (kk : ∀ σ' : k_S, KO X Y (cM (k_I X) q) kc ks Q (pc + 1) L st σ' (kf σ')) : KO X Y (cM (k_I X) q) kc ks Q pc L (.int x :: .int i :: .ref (q 9) :: st) σ (k_gd i 10 (k_bn (k_sa σ 8 i x) kf)) := k_iast 9 rfl rfl hd kk
theorem k_lM10 {Rt : Type} {X : k_C} {Y : k_Y} {q : Nat → Nat} {kc ks : Nat} {Q : Rt → k_S → State → Prop} {pc : Nat} {L : List (Option Value)} {st : List Value} {σ : k_S} {o : Option (Rt × k_S)} {i : Int32} (hd : decode Y.2.1 pc = .ok (.iaload, 1)) (kk : KO X Y (cM (k_I X) q) kc ks Q (pc + 1) L (.int (σ.2 9 i.toNatClampNeg) :: st) σ o) : KO X Y (cM (k_I X) q) kc ks Q pc L (.int i :: .ref (q 10) :: st) σ (k_gd i 300 o) := k_iald 10 rfl hd kk
theorem k_sM10 {Rt : Type} {X : k_C} {Y : k_Y} {q : Nat → Nat} {kc ks : Nat} {Q : Rt → k_S → State → Prop} {pc : Nat} {L : List (Option Value)} {st : List Value} {σ : k_S} {i x : Int32} {kf : k_S → Option (Rt × k_S)} (hd : decode Y.2.1 pc = .ok (.iastore, 1)) (kk : ∀ σ' : k_S, KO X Y (cM (k_I X) q) kc ks Q (pc + 1) L st σ' (kf σ')) : KO X Y (cM (k_I X) q) kc ks Q pc L (.int x :: .int i :: .ref (q 10) :: st) σ (k_gd i 300 (k_bn (k_sa σ 9 i x) kf)) := k_iast 10 rfl rfl hd kk
theorem k_lM11 {Rt : Type} {X : k_C} {Y : k_Y} {q : Nat → Nat} {kc ks : Nat} {Q : Rt → k_S → State → Prop} {pc : Nat} {L : List (Option Value)} {st : List Value} {σ : k_S} {o : Option (Rt × k_S)} {i : Int32} (hd : decode Y.2.1 pc = .ok (.iaload, 1)) (kk : KO X Y (cM (k_I X) q) kc ks Q (pc + 1) L (.int (σ.2 10 i.toNatClampNeg) :: st) σ o) : KO X Y (cM (k_I X) q) kc ks Q pc L (.int i :: .ref (q 11) :: st) σ (k_gd i 300 o) := k_iald 11 rfl hd kk
theorem k_sM11 {Rt : Type} {X : k_C} {Y : k_Y} {q : Nat → Nat} {kc ks : Nat} {Q : Rt → k_S → State → Prop} {pc : Nat} {L : List (Option Value)} {st : List Value} {σ : k_S} {i x : Int32} {kf : k_S → Option (Rt × k_S)} (hd : decode Y.2.1 pc = .ok (.iastore, 1)) (kk : ∀ σ' : k_S, KO X Y (cM (k_I X) q) kc ks Q (pc + 1) L st σ' (kf σ')) : KO X Y (cM (k_I X) q) kc ks Q pc L (.int x :: .int i :: .ref (q 11) :: st) σ (k_gd i 300 (k_bn (k_sa σ 10 i x) kf)) := k_iast 11 rfl rfl hd kk
theorem k_lM12 {Rt : Type} {X : k_C} {Y : k_Y} {q : Nat → Nat} {kc ks : Nat} {Q : Rt → k_S → State → Prop} {pc : Nat} {L : List (Option Value)} {st : List Value} {σ : k_S} {o : Option (Rt × k_S)} {i : Int32} (hd : decode Y.2.1 pc = .ok (.iaload, 1)) (kk : KO X Y (cM (k_I X) q) kc ks Q (pc + 1) L (.int (σ.2 11 i.toNatClampNeg) :: st) σ o) : KO X Y (cM (k_I X) q) kc ks Q pc L (.int i :: .ref (q 12) :: st) σ (k_gd i 5 o) := k_iald 12 rfl hd kk
theorem k_sM12 {Rt : Type} {X : k_C} {Y : k_Y} {q : Nat → Nat} {kc ks : Nat} {Q : Rt → k_S → State → Prop} {pc : Nat} {L : List (Option Value)} {st : List Value} {σ : k_S} {i x : Int32} {kf : k_S → Option (Rt × k_S)} (hd : decode Y.2.1 pc = .ok (.iastore, 1)) (kk : ∀ σ' : k_S, KO X Y (cM (k_I X) q) kc ks Q (pc + 1) L st σ' (kf σ')) : KO X Y (cM (k_I X) q) kc ks Q pc L (.int x :: .int i :: .ref (q 12) :: st) σ (k_gd i 5 (k_bn (k_sa σ 11 i x) kf)) := k_iast 12 rfl rfl hd kk
theorem k_lM13 {Rt : Type} {X : k_C} {Y : k_Y} {q : Nat → Nat} {kc ks : Nat} {Q : Rt → k_S → State → Prop} {pc : Nat} {L : List (Option Value)} {st : List Value} {σ : k_S} {o : Option (Rt × k_S)} {i : Int32} (hd : decode Y.2.1 pc = .ok (.iaload, 1)) (kk : KO X Y (cM (k_I X) q) kc ks Q (pc + 1) L (.int (σ.2 12 i.toNatClampNeg) :: st) σ o) : KO X Y (cM (k_I X) q) kc ks Q pc L (.int i :: .ref (q 13) :: st) σ (k_gd i 10 o) := k_iald 13 rfl hd kk
theorem k_sM13 {Rt : Type} {X : k_C} {Y : k_Y} {q : Nat → Nat} {kc ks : Nat} {Q : Rt → k_S → State → Prop} {pc : Nat} {L : List (Option Value)} {st : List Value} {σ : k_S} {i x : Int32} {kf : k_S → Option (Rt × k_S)} (hd : decode Y.2.1 pc = .ok (.iastore, 1)) (kk : ∀ σ' : k_S, KO X Y (cM (k_I X) q) kc ks Q (pc + 1) L st σ' (kf σ')) : KO X Y (cM (k_I X) q) kc ks Q pc L (.int x :: .int i :: .ref (q 13) :: st) σ (k_gd i 10 (k_bn (k_sa σ 12 i x) kf)) := k_iast 13 rfl rfl hd kk
theorem k_lM14 {Rt : Type} {X : k_C} {Y : k_Y} {q : Nat → Nat} {kc ks : Nat} {Q : Rt → k_S → State → Prop} {pc : Nat} {L : List (Option Value)} {st : List Value} {σ : k_S} {o : Option (Rt × k_S)} {i : Int32} (hd : decode Y.2.1 pc = .ok (.iaload, 1)) (kk : KO X Y (cM (k_I X) q) kc ks Q (pc + 1) L (.int (σ.2 13 i.toNatClampNeg) :: st) σ o) : KO X Y (cM (k_I X) q) kc ks Q pc L (.int i :: .ref (q 14) :: st) σ (k_gd i 10 o) := k_iald 14 rfl hd kk
theorem k_sM14 {Rt : Type} {X : k_C} {Y : k_Y} {q : Nat → Nat} {kc ks : Nat} {Q : Rt → k_S → State → Prop} {pc : Nat} {L : List (Option Value)} {st : List Value} {σ : k_S} {i x : Int32} {kf : k_S → Option (Rt × k_S)} (hd : decode Y.2.1 pc = .ok (.iastore, 1)) (kk : ∀ σ' : k_S, KO X Y (cM (k_I X) q) kc ks Q (pc + 1) L st σ' (kf σ')) : KO X Y (cM (k_I X) q) kc ks Q pc L (.int x :: .int i :: .ref (q 14) :: st) σ (k_gd i 10 (k_bn (k_sa σ 13 i x) kf)) := k_iast 14 rfl rfl hd kk
theorem k_lM15 {Rt : Type} {X : k_C} {Y : k_Y} {q : Nat → Nat} {kc ks : Nat} {Q : Rt → k_S → State → Prop} {pc : Nat} {L : List (Option Value)} {st : List Value} {σ : k_S} {o : Option (Rt × k_S)} {i : Int32} (hd : decode Y.2.1 pc = .ok (.iaload, 1)) (kk : KO X Y (cM (k_I X) q) kc ks Q (pc + 1) L (.int (σ.2 14 i.toNatClampNeg) :: st) σ o) : KO X Y (cM (k_I X) q) kc ks Q pc L (.int i :: .ref (q 15) :: st) σ (k_gd i 5 o) := k_iald 15 rfl hd kk
theorem k_sM15 {Rt : Type} {X : k_C} {Y : k_Y} {q : Nat → Nat} {kc ks : Nat} {Q : Rt → k_S → State → Prop} {pc : Nat} {L : List (Option Value)} {st : List Value} {σ : k_S} {i x : Int32} {kf : k_S → Option (Rt × k_S)} (hd : decode Y.2.1 pc = .ok (.iastore, 1)) (kk : ∀ σ' : k_S, KO X Y (cM (k_I X) q) kc ks Q (pc + 1) L st σ' (kf σ')) : KO X Y (cM (k_I X) q) kc ks Q pc L (.int x :: .int i :: .ref (q 15) :: st) σ (k_gd i 5 (k_bn (k_sa σ 14 i x) kf)) := k_iast 15 rfl rfl hd kk
theorem k_lM16 {Rt : Type} {X : k_C} {Y : k_Y} {q : Nat → Nat} {kc ks : Nat} {Q : Rt → k_S → State → Prop} {pc : Nat} {L : List (Option Value)} {st : List Value} {σ : k_S} {o : Option (Rt × k_S)} {i : Int32} (hd : decode Y.2.1 pc = .ok (.iaload, 1)) (kk : KO X Y (cM (k_I X) q) kc ks Q (pc + 1) L (.int (σ.2 15 i.toNatClampNeg) :: st) σ o) : KO X Y (cM (k_I X) q) kc ks Q pc L (.int i :: .ref (q 16) :: st) σ (k_gd i 5 o) := k_iald 16 rfl hd kk
theorem k_sM16 {Rt : Type} {X : k_C} {Y : k_Y} {q : Nat → Nat} {kc ks : Nat} {Q : Rt → k_S → State → Prop} {pc : Nat} {L : List (Option Value)} {st : List Value} {σ : k_S} {i x : Int32} {kf : k_S → Option (Rt × k_S)} (hd : decode Y.2.1 pc = .ok (.iastore, 1)) (kk : ∀ σ' : k_S, KO X Y (cM (k_I X) q) kc ks Q (pc + 1) L st σ' (kf σ')) : KO X Y (cM (k_I X) q) kc ks Q pc L (.int x :: .int i :: .ref (q 16) :: st) σ (k_gd i 5 (k_bn (k_sa σ 15 i x) kf)) := k_iast 16 rfl rfl hd kk
theorem k_lM17 {Rt : Type} {X : k_C} {Y : k_Y} {q : Nat → Nat} {kc ks : Nat} {Q : Rt → k_S → State → Prop} {pc : Nat} {L : List (Option Value)} {st : List Value} {σ : k_S} {o : Option (Rt × k_S)} {i : Int32} (hd : decode Y.2.1 pc = .ok (.iaload, 1)) (kk : KO X Y (cM (k_I X) q) kc ks Q (pc + 1) L (.int (σ.2 16 i.toNatClampNeg) :: st) σ o) : KO X Y (cM (k_I X) q) kc ks Q pc L (.int i :: .ref (q 17) :: st) σ (k_gd i 5 o) := k_iald 17 rfl hd kk
theorem k_sM17 {Rt : Type} {X : k_C} {Y : k_Y} {q : Nat → Nat} {kc ks : Nat} {Q : Rt → k_S → State → Prop} {pc : Nat} {L : List (Option Value)} {st : List Value} {σ : k_S} {i x : Int32} {kf : k_S → Option (Rt × k_S)} (hd : decode Y.2.1 pc = .ok (.iastore, 1)) (kk : ∀ σ' : k_S, KO X Y (cM (k_I X) q) kc ks Q (pc + 1) L st σ' (kf σ')) : KO X Y (cM (k_I X) q) kc ks Q pc L (.int x :: .int i :: .ref (q 17) :: st) σ (k_gd i 5 (k_bn (k_sa σ 16 i x) kf)) := k_iast 17 rfl rfl hd kk
theorem k_lM18 {Rt : Type} {X : k_C} {Y : k_Y} {q : Nat → Nat} {kc ks : Nat} {Q : Rt → k_S → State → Prop} {pc : Nat} {L : List (Option Value)} {st : List Value} {σ : k_S} {o : Option (Rt × k_S)} {i : Int32} (hd : decode Y.2.1 pc = .ok (.iaload, 1)) (kk : KO X Y (cM (k_I X) q) kc ks Q (pc + 1) L (.int (σ.2 17 i.toNatClampNeg) :: st) σ o) : KO X Y (cM (k_I X) q) kc ks Q pc L (.int i :: .ref (q 18) :: st) σ (k_gd i 6 o) := k_iald 18 rfl hd kk
theorem k_sM18 {Rt : Type} {X : k_C} {Y : k_Y} {q : Nat → Nat} {kc ks : Nat} {Q : Rt → k_S → State → Prop} {pc : Nat} {L : List (Option Value)} {st : List Value} {σ : k_S} {i x : Int32} {kf : k_S → Option (Rt × k_S)} (hd : decode Y.2.1 pc = .ok (.iastore, 1)) (kk : ∀ σ' : k_S, KO X Y (cM (k_I X) q) kc ks Q (pc + 1) L st σ' (kf σ')) : KO X Y (cM (k_I X) q) kc ks Q pc L (.int x :: .int i :: .ref (q 18) :: st) σ (k_gd i 6 (k_bn (k_sa σ 17 i x) kf)) := k_iast 18 rfl rfl hd kk
theorem k_lM19 {Rt : Type} {X : k_C} {Y : k_Y} {q : Nat → Nat} {kc ks : Nat} {Q : Rt → k_S → State → Prop} {pc : Nat} {L : List (Option Value)} {st : List Value} {σ : k_S} {o : Option (Rt × k_S)} {i : Int32} (hd : decode Y.2.1 pc = .ok (.iaload, 1)) (kk : KO X Y (cM (k_I X) q) kc ks Q (pc + 1) L (.int (σ.2 18 i.toNatClampNeg) :: st) σ o) : KO X Y (cM (k_I X) q) kc ks Q pc L (.int i :: .ref (q 19) :: st) σ (k_gd i 6 o) := k_iald 19 rfl hd kk
theorem k_sM19 {Rt : Type} {X : k_C} {Y : k_Y} {q : Nat → Nat} {kc ks : Nat} {Q : Rt → k_S → State → Prop} {pc : Nat} {L : List (Option Value)} {st : List Value} {σ : k_S} {i x : Int32} {kf : k_S → Option (Rt × k_S)} (hd : decode Y.2.1 pc = .ok (.iastore, 1)) (kk : ∀ σ' : k_S, KO X Y (cM (k_I X) q) kc ks Q (pc + 1) L st σ' (kf σ')) : KO X Y (cM (k_I X) q) kc ks Q pc L (.int x :: .int i :: .ref (q 19) :: st) σ (k_gd i 6 (k_bn (k_sa σ 18 i x) kf)) := k_iast 19 rfl rfl hd kk
end
section
/-! ===== decode rows (printed) ===== -/
theorem dJ9_max_7cf53_0 : decode cJ9_max_7cf53 0 = .ok (.iload_n 0, 1) := by decide +kernel
theorem dJ9_max_7cf53_1 : decode cJ9_max_7cf53 1 = .ok (.iload_n 1, 1) := by decide +kernel
theorem dJ9_max_7cf53_2 : decode cJ9_max_7cf53 2 = .ok (.if_icmp .lt 7, 3) := by decide +kernel
theorem dJ9_max_7cf53_5 : decode cJ9_max_7cf53 5 = .ok (.iload_n 0, 1) := by decide +kernel
theorem dJ9_max_7cf53_6 : decode cJ9_max_7cf53 6 = .ok (.goto 4, 3) := by decide +kernel
theorem dJ9_max_7cf53_9 : decode cJ9_max_7cf53 9 = .ok (.iload_n 1, 1) := by decide +kernel
theorem dJ9_max_7cf53_10 : decode cJ9_max_7cf53 10 = .ok (.ireturn, 1) := by decide +kernel
theorem dJ7_rangeCheck_23922_0 : decode cJ7_rangeCheck_23922 0 = .ok (.iload_n 1, 1) := by decide +kernel
theorem dJ7_rangeCheck_23922_1 : decode cJ7_rangeCheck_23922 1 = .ok (.iload_n 2, 1) := by decide +kernel
theorem dJ7_rangeCheck_23922_2 : decode cJ7_rangeCheck_23922 2 = .ok (.if_icmp .le 44, 3) := by decide +kernel
theorem dJ7_rangeCheck_23922_5 : decode cJ7_rangeCheck_23922 5 = .ok (.new 43, 3) := by decide +kernel
theorem dJ7_rangeCheck_23922_8 : decode cJ7_rangeCheck_23922 8 = .ok (.dup, 1) := by decide +kernel
theorem dJ7_rangeCheck_23922_9 : decode cJ7_rangeCheck_23922 9 = .ok (.new 45, 3) := by decide +kernel
theorem dJ7_rangeCheck_23922_12 : decode cJ7_rangeCheck_23922 12 = .ok (.dup, 1) := by decide +kernel
theorem dJ7_rangeCheck_23922_13 : decode cJ7_rangeCheck_23922 13 = .ok (.invokespecial 47, 3) := by decide +kernel
theorem dJ7_rangeCheck_23922_16 : decode cJ7_rangeCheck_23922 16 = .ok (.ldc 48, 2) := by decide +kernel
theorem dJ7_rangeCheck_23922_18 : decode cJ7_rangeCheck_23922 18 = .ok (.invokevirtual 50, 3) := by decide +kernel
theorem dJ7_rangeCheck_23922_21 : decode cJ7_rangeCheck_23922 21 = .ok (.iload_n 1, 1) := by decide +kernel
theorem dJ7_rangeCheck_23922_22 : decode cJ7_rangeCheck_23922 22 = .ok (.invokevirtual 54, 3) := by decide +kernel
theorem dJ7_rangeCheck_23922_25 : decode cJ7_rangeCheck_23922 25 = .ok (.ldc 57, 2) := by decide +kernel
theorem dJ7_rangeCheck_23922_27 : decode cJ7_rangeCheck_23922 27 = .ok (.invokevirtual 50, 3) := by decide +kernel
theorem dJ7_rangeCheck_23922_30 : decode cJ7_rangeCheck_23922 30 = .ok (.iload_n 2, 1) := by decide +kernel
theorem dJ7_rangeCheck_23922_31 : decode cJ7_rangeCheck_23922 31 = .ok (.invokevirtual 54, 3) := by decide +kernel
theorem dJ7_rangeCheck_23922_34 : decode cJ7_rangeCheck_23922 34 = .ok (.ldc 59, 2) := by decide +kernel
theorem dJ7_rangeCheck_23922_36 : decode cJ7_rangeCheck_23922 36 = .ok (.invokevirtual 50, 3) := by decide +kernel
theorem dJ7_rangeCheck_23922_39 : decode cJ7_rangeCheck_23922 39 = .ok (.invokevirtual 61, 3) := by decide +kernel
theorem dJ7_rangeCheck_23922_42 : decode cJ7_rangeCheck_23922 42 = .ok (.invokespecial 65, 3) := by decide +kernel
theorem dJ7_rangeCheck_23922_45 : decode cJ7_rangeCheck_23922 45 = .ok (.athrow, 1) := by decide +kernel
theorem dJ7_rangeCheck_23922_46 : decode cJ7_rangeCheck_23922 46 = .ok (.iload_n 1, 1) := by decide +kernel
theorem dJ7_rangeCheck_23922_47 : decode cJ7_rangeCheck_23922 47 = .ok (.ifCond .ge 12, 3) := by decide +kernel
theorem dJ7_rangeCheck_23922_50 : decode cJ7_rangeCheck_23922 50 = .ok (.new 68, 3) := by decide +kernel
theorem dJ7_rangeCheck_23922_53 : decode cJ7_rangeCheck_23922 53 = .ok (.dup, 1) := by decide +kernel
theorem dJ7_rangeCheck_23922_54 : decode cJ7_rangeCheck_23922 54 = .ok (.iload_n 1, 1) := by decide +kernel
theorem dJ7_rangeCheck_23922_55 : decode cJ7_rangeCheck_23922 55 = .ok (.invokespecial 70, 3) := by decide +kernel
theorem dJ7_rangeCheck_23922_58 : decode cJ7_rangeCheck_23922 58 = .ok (.athrow, 1) := by decide +kernel
theorem dJ7_rangeCheck_23922_59 : decode cJ7_rangeCheck_23922 59 = .ok (.iload_n 2, 1) := by decide +kernel
theorem dJ7_rangeCheck_23922_60 : decode cJ7_rangeCheck_23922 60 = .ok (.iload_n 0, 1) := by decide +kernel
theorem dJ7_rangeCheck_23922_61 : decode cJ7_rangeCheck_23922 61 = .ok (.if_icmp .le 12, 3) := by decide +kernel
theorem dJ7_rangeCheck_23922_64 : decode cJ7_rangeCheck_23922 64 = .ok (.new 68, 3) := by decide +kernel
theorem dJ7_rangeCheck_23922_67 : decode cJ7_rangeCheck_23922 67 = .ok (.dup, 1) := by decide +kernel
theorem dJ7_rangeCheck_23922_68 : decode cJ7_rangeCheck_23922 68 = .ok (.iload_n 2, 1) := by decide +kernel
theorem dJ7_rangeCheck_23922_69 : decode cJ7_rangeCheck_23922 69 = .ok (.invokespecial 70, 3) := by decide +kernel
theorem dJ7_rangeCheck_23922_72 : decode cJ7_rangeCheck_23922 72 = .ok (.athrow, 1) := by decide +kernel
theorem dJ7_rangeCheck_23922_73 : decode cJ7_rangeCheck_23922 73 = .ok (.return_, 1) := by decide +kernel
theorem dJ7_fill_53178_0 : decode cJ7_fill_53178 0 = .ok (.iconst 0, 1) := by decide +kernel
theorem dJ7_fill_53178_1 : decode cJ7_fill_53178 1 = .ok (.istore_n 2, 1) := by decide +kernel
theorem dJ7_fill_53178_2 : decode cJ7_fill_53178 2 = .ok (.aload_n 0, 1) := by decide +kernel
theorem dJ7_fill_53178_3 : decode cJ7_fill_53178 3 = .ok (.arraylength, 1) := by decide +kernel
theorem dJ7_fill_53178_4 : decode cJ7_fill_53178 4 = .ok (.istore_n 3, 1) := by decide +kernel
theorem dJ7_fill_53178_5 : decode cJ7_fill_53178 5 = .ok (.iload_n 2, 1) := by decide +kernel
theorem dJ7_fill_53178_6 : decode cJ7_fill_53178 6 = .ok (.iload_n 3, 1) := by decide +kernel
theorem dJ7_fill_53178_7 : decode cJ7_fill_53178 7 = .ok (.if_icmp .ge 13, 3) := by decide +kernel
theorem dJ7_fill_53178_10 : decode cJ7_fill_53178 10 = .ok (.aload_n 0, 1) := by decide +kernel
theorem dJ7_fill_53178_11 : decode cJ7_fill_53178 11 = .ok (.iload_n 2, 1) := by decide +kernel
theorem dJ7_fill_53178_12 : decode cJ7_fill_53178 12 = .ok (.iload_n 1, 1) := by decide +kernel
theorem dJ7_fill_53178_13 : decode cJ7_fill_53178 13 = .ok (.iastore, 1) := by decide +kernel
theorem dJ7_fill_53178_14 : decode cJ7_fill_53178 14 = .ok (.iinc 2 1, 3) := by decide +kernel
theorem dJ7_fill_53178_17 : decode cJ7_fill_53178 17 = .ok (.goto (-12), 3) := by decide +kernel
theorem dJ7_fill_53178_20 : decode cJ7_fill_53178 20 = .ok (.return_, 1) := by decide +kernel
theorem dJ7_fill_fda19_0 : decode cJ7_fill_fda19 0 = .ok (.aload_n 0, 1) := by decide +kernel
theorem dJ7_fill_fda19_1 : decode cJ7_fill_fda19 1 = .ok (.arraylength, 1) := by decide +kernel
theorem dJ7_fill_fda19_2 : decode cJ7_fill_fda19 2 = .ok (.iload_n 1, 1) := by decide +kernel
theorem dJ7_fill_fda19_3 : decode cJ7_fill_fda19 3 = .ok (.iload_n 2, 1) := by decide +kernel
theorem dJ7_fill_fda19_4 : decode cJ7_fill_fda19 4 = .ok (.invokestatic 13, 3) := by decide +kernel
theorem dJ7_fill_fda19_7 : decode cJ7_fill_fda19 7 = .ok (.iload_n 1, 1) := by decide +kernel
theorem dJ7_fill_fda19_8 : decode cJ7_fill_fda19 8 = .ok (.istore 4, 2) := by decide +kernel
theorem dJ7_fill_fda19_10 : decode cJ7_fill_fda19 10 = .ok (.iload 4, 2) := by decide +kernel
theorem dJ7_fill_fda19_12 : decode cJ7_fill_fda19 12 = .ok (.iload_n 2, 1) := by decide +kernel
theorem dJ7_fill_fda19_13 : decode cJ7_fill_fda19 13 = .ok (.if_icmp .ge 14, 3) := by decide +kernel
theorem dJ7_fill_fda19_16 : decode cJ7_fill_fda19 16 = .ok (.aload_n 0, 1) := by decide +kernel
theorem dJ7_fill_fda19_17 : decode cJ7_fill_fda19 17 = .ok (.iload 4, 2) := by decide +kernel
theorem dJ7_fill_fda19_19 : decode cJ7_fill_fda19 19 = .ok (.iload_n 3, 1) := by decide +kernel
theorem dJ7_fill_fda19_20 : decode cJ7_fill_fda19 20 = .ok (.iastore, 1) := by decide +kernel
theorem dJ7_fill_fda19_21 : decode cJ7_fill_fda19 21 = .ok (.iinc 4 1, 3) := by decide +kernel
theorem dJ7_fill_fda19_24 : decode cJ7_fill_fda19 24 = .ok (.goto (-14), 3) := by decide +kernel
theorem dJ7_fill_fda19_27 : decode cJ7_fill_fda19 27 = .ok (.return_, 1) := by decide +kernel
end
section
/-! ===== k, fourth part: calls in the same world, the fuel, Arrays.fill (by program: wip/gen/k4.py) ===== -/
noncomputable def k_F : Nat := Classical.choose (⟨1000000000, Nat.le_refl _⟩ : ∃ n : Nat, 1000000000 ≤ n)
theorem k_F_ge : 1000000000 ≤ k_F := Classical.choose_spec (⟨1000000000, Nat.le_refl _⟩ : ∃ n : Nat, 1000000000 ≤ n)
def k_fl (f : Nat → Int32) (lo hi : Nat) (v : Int32) : Nat → Int32 := fun j => if lo ≤ j ∧ j < hi then v else f j
def k_gf {α : Type} (lo hi : Int32) (n : Nat) (o : Option α) : Option α := if hi < lo ∨ lo < 0 ∨ nI n < hi then none else o
section KR4
variable {S Rt : Type} {X : k_C} {Y : k_Y} {cw : S → va_W} {kc ks : Nat} {Q : Rt → S → State → Prop} {pc pc' : Nat} {L L' : List (Option Value)} {st st' : List Value} {σ : S} {o o1 o2 : Option (Rt × S)}
theorem k_vi0 {y : MethodName} {bytes : ByteArray} {maxL : Nat} {ret : Option FieldType} {index : Nat} {rm : Room} {b : Nat} {f : Option (Int32 × S)} {kf : Int32 → S → Option (Rt × S)} (hs : k_same cw) (hok : k_Vok y bytes maxL ret 0) (hm : Cond.methodLink Y.2.2.2.1 index y ∈ k_ws) (hrv : ∃ (k ci : Nat) (fs : List Value) (q : vw_C), (cw σ)[k]? = some (b, .inr (ci, fs)) ∧ vwCl[ci]? = some q ∧ q.1 = y.cls) (hrm : rm.cells = 0 ∧ rm.slots = 0) (hR : rm.frames + 1 ≤ Y.1.frames ∧ 8 + (maxL + 11) + rm.locals ≤ Y.1.locals) (hk : kc ≤ Y.1.cells ∧ ks ≤ Y.1.slots) (hcat : (st.map fun v => v.category).sum ≤ 8) (hd : decode Y.2.1 pc = .ok (.invokevirtual index, 3)) (hM : ∀ r τ, f = some (r, τ) → k_Ct k_ei y bytes maxL ret rm cw (k_D X) (k_I X) (.ref b :: []) σ r τ) (kk : ∀ r τ, KO X Y cw kc ks Q (pc + 3) L (.int r :: st) τ (kf r τ)) : KO X Y cw kc ks Q pc L (.ref b :: st) σ (k_ob f kf) := k_callV (As := []) (k_In.id hs σ) hok hm hrv rfl hrm hR hk hcat hd rfl hM kk
theorem k_si0 {y : MethodName} {bytes : ByteArray} {maxL : Nat} {ret : Option FieldType} {index : Nat} {rm : Room} {f : Option (Int32 × S)} {kf : Int32 → S → Option (Rt × S)} (hs : k_same cw) (hok : k_Sok y bytes maxL ret 0) (hm : Cond.methodLink Y.2.2.2.1 index y ∈ k_ws) (hrm : rm.cells = 0 ∧ rm.slots = 0) (hR : rm.frames + 1 ≤ Y.1.frames ∧ 8 + (maxL + 11) + rm.locals ≤ Y.1.locals) (hk : kc ≤ Y.1.cells ∧ ks ≤ Y.1.slots) (hcat : (st.map fun v => v.category).sum ≤ 8) (hd : decode Y.2.1 pc = .ok (.invokestatic index, 3)) (hM : ∀ r τ, f = some (r, τ) → k_Ct k_ei y bytes maxL ret rm cw (k_D X) (k_I X) [] σ r τ) (kk : ∀ r τ, KO X Y cw kc ks Q (pc + 3) L (.int r :: st) τ (kf r τ)) : KO X Y cw kc ks Q pc L (st) σ (k_ob f kf) := k_callS (As := []) (k_In.id hs σ) hok hm rfl hrm hR hk hcat hd rfl hM kk
theorem k_vv0 {y : MethodName} {bytes : ByteArray} {maxL : Nat} {ret : Option FieldType} {index : Nat} {rm : Room} {b : Nat} {f : Option (Unit × S)} {kf : Unit → S → Option (Rt × S)} (hs : k_same cw) (hok : k_Vok y bytes maxL ret 0) (hm : Cond.methodLink Y.2.2.2.1 index y ∈ k_ws) (hrv : ∃ (k ci : Nat) (fs : List Value) (q : vw_C), (cw σ)[k]? = some (b, .inr (ci, fs)) ∧ vwCl[ci]? = some q ∧ q.1 = y.cls) (hrm : rm.cells = 0 ∧ rm.slots = 0) (hR : rm.frames + 1 ≤ Y.1.frames ∧ 8 + (maxL + 11) + rm.locals ≤ Y.1.locals) (hk : kc ≤ Y.1.cells ∧ ks ≤ Y.1.slots) (hcat : (st.map fun v => v.category).sum ≤ 8) (hd : decode Y.2.1 pc = .ok (.invokevirtual index, 3)) (hM : ∀ r τ, f = some (r, τ) → k_Ct k_ev y bytes maxL ret rm cw (k_D X) (k_I X) (.ref b :: []) σ r τ) (kk : ∀ r τ, KO X Y cw kc ks Q (pc + 3) L (st) τ (kf r τ)) : KO X Y cw kc ks Q pc L (.ref b :: st) σ (k_ob f kf) := k_callV (As := []) (k_In.id hs σ) hok hm hrv rfl hrm hR hk hcat hd rfl hM kk
theorem k_sv0 {y : MethodName} {bytes : ByteArray} {maxL : Nat} {ret : Option FieldType} {index : Nat} {rm : Room} {f : Option (Unit × S)} {kf : Unit → S → Option (Rt × S)} (hs : k_same cw) (hok : k_Sok y bytes maxL ret 0) (hm : Cond.methodLink Y.2.2.2.1 index y ∈ k_ws) (hrm : rm.cells = 0 ∧ rm.slots = 0) (hR : rm.frames + 1 ≤ Y.1.frames ∧ 8 + (maxL + 11) + rm.locals ≤ Y.1.locals) (hk : kc ≤ Y.1.cells ∧ ks ≤ Y.1.slots) (hcat : (st.map fun v => v.category).sum ≤ 8) (hd : decode Y.2.1 pc = .ok (.invokestatic index, 3)) (hM : ∀ r τ, f = some (r, τ) → k_Ct k_ev y bytes maxL ret rm cw (k_D X) (k_I X) [] σ r τ) (kk : ∀ r τ, KO X Y cw kc ks Q (pc + 3) L (st) τ (kf r τ)) : KO X Y cw kc ks Q pc L (st) σ (k_ob f kf) := k_callS (As := []) (k_In.id hs σ) hok hm rfl hrm hR hk hcat hd rfl hM kk
theorem k_vi1 {y : MethodName} {bytes : ByteArray} {maxL : Nat} {ret : Option FieldType} {index : Nat} {rm : Room} {b : Nat} {v1 : Value} {f : Option (Int32 × S)} {kf : Int32 → S → Option (Rt × S)} (hs : k_same cw) (hok : k_Vok y bytes maxL ret 1) (hm : Cond.methodLink Y.2.2.2.1 index y ∈ k_ws) (hrv : ∃ (k ci : Nat) (fs : List Value) (q : vw_C), (cw σ)[k]? = some (b, .inr (ci, fs)) ∧ vwCl[ci]? = some q ∧ q.1 = y.cls) (hrm : rm.cells = 0 ∧ rm.slots = 0) (hR : rm.frames + 1 ≤ Y.1.frames ∧ 8 + (maxL + 11) + rm.locals ≤ Y.1.locals) (hk : kc ≤ Y.1.cells ∧ ks ≤ Y.1.slots) (hcat : (st.map fun v => v.category).sum ≤ 8) (hd : decode Y.2.1 pc = .ok (.invokevirtual index, 3)) (hM : ∀ r τ, f = some (r, τ) → k_Ct k_ei y bytes maxL ret rm cw (k_D X) (k_I X) (.ref b :: [v1]) σ r τ) (kk : ∀ r τ, KO X Y cw kc ks Q (pc + 3) L (.int r :: st) τ (kf r τ)) : KO X Y cw kc ks Q pc L (v1 :: .ref b :: st) σ (k_ob f kf) := k_callV (As := [v1]) (k_In.id hs σ) hok hm hrv rfl hrm hR hk hcat hd rfl hM kk
theorem k_si1 {y : MethodName} {bytes : ByteArray} {maxL : Nat} {ret : Option FieldType} {index : Nat} {rm : Room} {v1 : Value} {f : Option (Int32 × S)} {kf : Int32 → S → Option (Rt × S)} (hs : k_same cw) (hok : k_Sok y bytes maxL ret 1) (hm : Cond.methodLink Y.2.2.2.1 index y ∈ k_ws) (hrm : rm.cells = 0 ∧ rm.slots = 0) (hR : rm.frames + 1 ≤ Y.1.frames ∧ 8 + (maxL + 11) + rm.locals ≤ Y.1.locals) (hk : kc ≤ Y.1.cells ∧ ks ≤ Y.1.slots) (hcat : (st.map fun v => v.category).sum ≤ 8) (hd : decode Y.2.1 pc = .ok (.invokestatic index, 3)) (hM : ∀ r τ, f = some (r, τ) → k_Ct k_ei y bytes maxL ret rm cw (k_D X) (k_I X) [v1] σ r τ) (kk : ∀ r τ, KO X Y cw kc ks Q (pc + 3) L (.int r :: st) τ (kf r τ)) : KO X Y cw kc ks Q pc L (v1 :: st) σ (k_ob f kf) := k_callS (As := [v1]) (k_In.id hs σ) hok hm rfl hrm hR hk hcat hd rfl hM kk
theorem k_vv1 {y : MethodName} {bytes : ByteArray} {maxL : Nat} {ret : Option FieldType} {index : Nat} {rm : Room} {b : Nat} {v1 : Value} {f : Option (Unit × S)} {kf : Unit → S → Option (Rt × S)} (hs : k_same cw) (hok : k_Vok y bytes maxL ret 1) (hm : Cond.methodLink Y.2.2.2.1 index y ∈ k_ws) (hrv : ∃ (k ci : Nat) (fs : List Value) (q : vw_C), (cw σ)[k]? = some (b, .inr (ci, fs)) ∧ vwCl[ci]? = some q ∧ q.1 = y.cls) (hrm : rm.cells = 0 ∧ rm.slots = 0) (hR : rm.frames + 1 ≤ Y.1.frames ∧ 8 + (maxL + 11) + rm.locals ≤ Y.1.locals) (hk : kc ≤ Y.1.cells ∧ ks ≤ Y.1.slots) (hcat : (st.map fun v => v.category).sum ≤ 8) (hd : decode Y.2.1 pc = .ok (.invokevirtual index, 3)) (hM : ∀ r τ, f = some (r, τ) → k_Ct k_ev y bytes maxL ret rm cw (k_D X) (k_I X) (.ref b :: [v1]) σ r τ) (kk : ∀ r τ, KO X Y cw kc ks Q (pc + 3) L (st) τ (kf r τ)) : KO X Y cw kc ks Q pc L (v1 :: .ref b :: st) σ (k_ob f kf) := k_callV (As := [v1]) (k_In.id hs σ) hok hm hrv rfl hrm hR hk hcat hd rfl hM kk
theorem k_sv1 {y : MethodName} {bytes : ByteArray} {maxL : Nat} {ret : Option FieldType} {index : Nat} {rm : Room} {v1 : Value} {f : Option (Unit × S)} {kf : Unit → S → Option (Rt × S)} (hs : k_same cw) (hok : k_Sok y bytes maxL ret 1) (hm : Cond.methodLink Y.2.2.2.1 index y ∈ k_ws) (hrm : rm.cells = 0 ∧ rm.slots = 0) (hR : rm.frames + 1 ≤ Y.1.frames ∧ 8 + (maxL + 11) + rm.locals ≤ Y.1.locals) (hk : kc ≤ Y.1.cells ∧ ks ≤ Y.1.slots) (hcat : (st.map fun v => v.category).sum ≤ 8) (hd : decode Y.2.1 pc = .ok (.invokestatic index, 3)) (hM : ∀ r τ, f = some (r, τ) → k_Ct k_ev y bytes maxL ret rm cw (k_D X) (k_I X) [v1] σ r τ) (kk : ∀ r τ, KO X Y cw kc ks Q (pc + 3) L (st) τ (kf r τ)) : KO X Y cw kc ks Q pc L (v1 :: st) σ (k_ob f kf) := k_callS (As := [v1]) (k_In.id hs σ) hok hm rfl hrm hR hk hcat hd rfl hM kk
theorem k_vl1 {y : MethodName} {bytes : ByteArray} {maxL : Nat} {ret : Option FieldType} {index : Nat} {rm : Room} {b : Nat} {v1 : Value} {f : Option (Int64 × S)} {kf : Int64 → S → Option (Rt × S)} (hs : k_same cw) (hok : k_Vok y bytes maxL ret 1) (hm : Cond.methodLink Y.2.2.2.1 index y ∈ k_ws) (hrv : ∃ (k ci : Nat) (fs : List Value) (q : vw_C), (cw σ)[k]? = some (b, .inr (ci, fs)) ∧ vwCl[ci]? = some q ∧ q.1 = y.cls) (hrm : rm.cells = 0 ∧ rm.slots = 0) (hR : rm.frames + 1 ≤ Y.1.frames ∧ 8 + (maxL + 11) + rm.locals ≤ Y.1.locals) (hk : kc ≤ Y.1.cells ∧ ks ≤ Y.1.slots) (hcat : (st.map fun v => v.category).sum ≤ 8) (hd : decode Y.2.1 pc = .ok (.invokevirtual index, 3)) (hM : ∀ r τ, f = some (r, τ) → k_Ct k_el y bytes maxL ret rm cw (k_D X) (k_I X) (.ref b :: [v1]) σ r τ) (kk : ∀ r τ, KO X Y cw kc ks Q (pc + 3) L (.long r :: st) τ (kf r τ)) : KO X Y cw kc ks Q pc L (v1 :: .ref b :: st) σ (k_ob f kf) := k_callV (As := [v1]) (k_In.id hs σ) hok hm hrv rfl hrm hR hk hcat hd rfl hM kk
theorem k_sl1 {y : MethodName} {bytes : ByteArray} {maxL : Nat} {ret : Option FieldType} {index : Nat} {rm : Room} {v1 : Value} {f : Option (Int64 × S)} {kf : Int64 → S → Option (Rt × S)} (hs : k_same cw) (hok : k_Sok y bytes maxL ret 1) (hm : Cond.methodLink Y.2.2.2.1 index y ∈ k_ws) (hrm : rm.cells = 0 ∧ rm.slots = 0) (hR : rm.frames + 1 ≤ Y.1.frames ∧ 8 + (maxL + 11) + rm.locals ≤ Y.1.locals) (hk : kc ≤ Y.1.cells ∧ ks ≤ Y.1.slots) (hcat : (st.map fun v => v.category).sum ≤ 8) (hd : decode Y.2.1 pc = .ok (.invokestatic index, 3)) (hM : ∀ r τ, f = some (r, τ) → k_Ct k_el y bytes maxL ret rm cw (k_D X) (k_I X) [v1] σ r τ) (kk : ∀ r τ, KO X Y cw kc ks Q (pc + 3) L (.long r :: st) τ (kf r τ)) : KO X Y cw kc ks Q pc L (v1 :: st) σ (k_ob f kf) := k_callS (As := [v1]) (k_In.id hs σ) hok hm rfl hrm hR hk hcat hd rfl hM kk
theorem k_vi2 {y : MethodName} {bytes : ByteArray} {maxL : Nat} {ret : Option FieldType} {index : Nat} {rm : Room} {b : Nat} {v1 v2 : Value} {f : Option (Int32 × S)} {kf : Int32 → S → Option (Rt × S)} (hs : k_same cw) (hok : k_Vok y bytes maxL ret 2) (hm : Cond.methodLink Y.2.2.2.1 index y ∈ k_ws) (hrv : ∃ (k ci : Nat) (fs : List Value) (q : vw_C), (cw σ)[k]? = some (b, .inr (ci, fs)) ∧ vwCl[ci]? = some q ∧ q.1 = y.cls) (hrm : rm.cells = 0 ∧ rm.slots = 0) (hR : rm.frames + 1 ≤ Y.1.frames ∧ 8 + (maxL + 11) + rm.locals ≤ Y.1.locals) (hk : kc ≤ Y.1.cells ∧ ks ≤ Y.1.slots) (hcat : (st.map fun v => v.category).sum ≤ 8) (hd : decode Y.2.1 pc = .ok (.invokevirtual index, 3)) (hM : ∀ r τ, f = some (r, τ) → k_Ct k_ei y bytes maxL ret rm cw (k_D X) (k_I X) (.ref b :: [v1, v2]) σ r τ) (kk : ∀ r τ, KO X Y cw kc ks Q (pc + 3) L (.int r :: st) τ (kf r τ)) : KO X Y cw kc ks Q pc L (v2 :: v1 :: .ref b :: st) σ (k_ob f kf) := k_callV (As := [v1, v2]) (k_In.id hs σ) hok hm hrv rfl hrm hR hk hcat hd rfl hM kk
theorem k_si2 {y : MethodName} {bytes : ByteArray} {maxL : Nat} {ret : Option FieldType} {index : Nat} {rm : Room} {v1 v2 : Value} {f : Option (Int32 × S)} {kf : Int32 → S → Option (Rt × S)} (hs : k_same cw) (hok : k_Sok y bytes maxL ret 2) (hm : Cond.methodLink Y.2.2.2.1 index y ∈ k_ws) (hrm : rm.cells = 0 ∧ rm.slots = 0) (hR : rm.frames + 1 ≤ Y.1.frames ∧ 8 + (maxL + 11) + rm.locals ≤ Y.1.locals) (hk : kc ≤ Y.1.cells ∧ ks ≤ Y.1.slots) (hcat : (st.map fun v => v.category).sum ≤ 8) (hd : decode Y.2.1 pc = .ok (.invokestatic index, 3)) (hM : ∀ r τ, f = some (r, τ) → k_Ct k_ei y bytes maxL ret rm cw (k_D X) (k_I X) [v1, v2] σ r τ) (kk : ∀ r τ, KO X Y cw kc ks Q (pc + 3) L (.int r :: st) τ (kf r τ)) : KO X Y cw kc ks Q pc L (v2 :: v1 :: st) σ (k_ob f kf) := k_callS (As := [v1, v2]) (k_In.id hs σ) hok hm rfl hrm hR hk hcat hd rfl hM kk
theorem k_vv2 {y : MethodName} {bytes : ByteArray} {maxL : Nat} {ret : Option FieldType} {index : Nat} {rm : Room} {b : Nat} {v1 v2 : Value} {f : Option (Unit × S)} {kf : Unit → S → Option (Rt × S)} (hs : k_same cw) (hok : k_Vok y bytes maxL ret 2) (hm : Cond.methodLink Y.2.2.2.1 index y ∈ k_ws) (hrv : ∃ (k ci : Nat) (fs : List Value) (q : vw_C), (cw σ)[k]? = some (b, .inr (ci, fs)) ∧ vwCl[ci]? = some q ∧ q.1 = y.cls) (hrm : rm.cells = 0 ∧ rm.slots = 0) (hR : rm.frames + 1 ≤ Y.1.frames ∧ 8 + (maxL + 11) + rm.locals ≤ Y.1.locals) (hk : kc ≤ Y.1.cells ∧ ks ≤ Y.1.slots) (hcat : (st.map fun v => v.category).sum ≤ 8) (hd : decode Y.2.1 pc = .ok (.invokevirtual index, 3)) (hM : ∀ r τ, f = some (r, τ) → k_Ct k_ev y bytes maxL ret rm cw (k_D X) (k_I X) (.ref b :: [v1, v2]) σ r τ) (kk : ∀ r τ, KO X Y cw kc ks Q (pc + 3) L (st) τ (kf r τ)) : KO X Y cw kc ks Q pc L (v2 :: v1 :: .ref b :: st) σ (k_ob f kf) := k_callV (As := [v1, v2]) (k_In.id hs σ) hok hm hrv rfl hrm hR hk hcat hd rfl hM kk
theorem k_sv2 {y : MethodName} {bytes : ByteArray} {maxL : Nat} {ret : Option FieldType} {index : Nat} {rm : Room} {v1 v2 : Value} {f : Option (Unit × S)} {kf : Unit → S → Option (Rt × S)} (hs : k_same cw) (hok : k_Sok y bytes maxL ret 2) (hm : Cond.methodLink Y.2.2.2.1 index y ∈ k_ws) (hrm : rm.cells = 0 ∧ rm.slots = 0) (hR : rm.frames + 1 ≤ Y.1.frames ∧ 8 + (maxL + 11) + rm.locals ≤ Y.1.locals) (hk : kc ≤ Y.1.cells ∧ ks ≤ Y.1.slots) (hcat : (st.map fun v => v.category).sum ≤ 8) (hd : decode Y.2.1 pc = .ok (.invokestatic index, 3)) (hM : ∀ r τ, f = some (r, τ) → k_Ct k_ev y bytes maxL ret rm cw (k_D X) (k_I X) [v1, v2] σ r τ) (kk : ∀ r τ, KO X Y cw kc ks Q (pc + 3) L (st) τ (kf r τ)) : KO X Y cw kc ks Q pc L (v2 :: v1 :: st) σ (k_ob f kf) := k_callS (As := [v1, v2]) (k_In.id hs σ) hok hm rfl hrm hR hk hcat hd rfl hM kk
theorem k_vi3 {y : MethodName} {bytes : ByteArray} {maxL : Nat} {ret : Option FieldType} {index : Nat} {rm : Room} {b : Nat} {v1 v2 v3 : Value} {f : Option (Int32 × S)} {kf : Int32 → S → Option (Rt × S)} (hs : k_same cw) (hok : k_Vok y bytes maxL ret 3) (hm : Cond.methodLink Y.2.2.2.1 index y ∈ k_ws) (hrv : ∃ (k ci : Nat) (fs : List Value) (q : vw_C), (cw σ)[k]? = some (b, .inr (ci, fs)) ∧ vwCl[ci]? = some q ∧ q.1 = y.cls) (hrm : rm.cells = 0 ∧ rm.slots = 0) (hR : rm.frames + 1 ≤ Y.1.frames ∧ 8 + (maxL + 11) + rm.locals ≤ Y.1.locals) (hk : kc ≤ Y.1.cells ∧ ks ≤ Y.1.slots) (hcat : (st.map fun v => v.category).sum ≤ 8) (hd : decode Y.2.1 pc = .ok (.invokevirtual index, 3)) (hM : ∀ r τ, f = some (r, τ) → k_Ct k_ei y bytes maxL ret rm cw (k_D X) (k_I X) (.ref b :: [v1, v2, v3]) σ r τ) (kk : ∀ r τ, KO X Y cw kc ks Q (pc + 3) L (.int r :: st) τ (kf r τ)) : KO X Y cw kc ks Q pc L (v3 :: v2 :: v1 :: .ref b :: st) σ (k_ob f kf) := k_callV (As := [v1, v2, v3]) (k_In.id hs σ) hok hm hrv rfl hrm hR hk hcat hd rfl hM kk
theorem k_si3 {y : MethodName} {bytes : ByteArray} {maxL : Nat} {ret : Option FieldType} {index : Nat} {rm : Room} {v1 v2 v3 : Value} {f : Option (Int32 × S)} {kf : Int32 → S → Option (Rt × S)} (hs : k_same cw) (hok : k_Sok y bytes maxL ret 3) (hm : Cond.methodLink Y.2.2.2.1 index y ∈ k_ws) (hrm : rm.cells = 0 ∧ rm.slots = 0) (hR : rm.frames + 1 ≤ Y.1.frames ∧ 8 + (maxL + 11) + rm.locals ≤ Y.1.locals) (hk : kc ≤ Y.1.cells ∧ ks ≤ Y.1.slots) (hcat : (st.map fun v => v.category).sum ≤ 8) (hd : decode Y.2.1 pc = .ok (.invokestatic index, 3)) (hM : ∀ r τ, f = some (r, τ) → k_Ct k_ei y bytes maxL ret rm cw (k_D X) (k_I X) [v1, v2, v3] σ r τ) (kk : ∀ r τ, KO X Y cw kc ks Q (pc + 3) L (.int r :: st) τ (kf r τ)) : KO X Y cw kc ks Q pc L (v3 :: v2 :: v1 :: st) σ (k_ob f kf) := k_callS (As := [v1, v2, v3]) (k_In.id hs σ) hok hm rfl hrm hR hk hcat hd rfl hM kk
theorem k_vv3 {y : MethodName} {bytes : ByteArray} {maxL : Nat} {ret : Option FieldType} {index : Nat} {rm : Room} {b : Nat} {v1 v2 v3 : Value} {f : Option (Unit × S)} {kf : Unit → S → Option (Rt × S)} (hs : k_same cw) (hok : k_Vok y bytes maxL ret 3) (hm : Cond.methodLink Y.2.2.2.1 index y ∈ k_ws) (hrv : ∃ (k ci : Nat) (fs : List Value) (q : vw_C), (cw σ)[k]? = some (b, .inr (ci, fs)) ∧ vwCl[ci]? = some q ∧ q.1 = y.cls) (hrm : rm.cells = 0 ∧ rm.slots = 0) (hR : rm.frames + 1 ≤ Y.1.frames ∧ 8 + (maxL + 11) + rm.locals ≤ Y.1.locals) (hk : kc ≤ Y.1.cells ∧ ks ≤ Y.1.slots) (hcat : (st.map fun v => v.category).sum ≤ 8) (hd : decode Y.2.1 pc = .ok (.invokevirtual index, 3)) (hM : ∀ r τ, f = some (r, τ) → k_Ct k_ev y bytes maxL ret rm cw (k_D X) (k_I X) (.ref b :: [v1, v2, v3]) σ r τ) (kk : ∀ r τ, KO X Y cw kc ks Q (pc + 3) L (st) τ (kf r τ)) : KO X Y cw kc ks Q pc L (v3 :: v2 :: v1 :: .ref b :: st) σ (k_ob f kf) := k_callV (As := [v1, v2, v3]) (k_In.id hs σ) hok hm hrv rfl hrm hR hk hcat hd rfl hM kk
theorem k_sv3 {y : MethodName} {bytes : ByteArray} {maxL : Nat} {ret : Option FieldType} {index : Nat} {rm : Room} {v1 v2 v3 : Value} {f : Option (Unit × S)} {kf : Unit → S → Option (Rt × S)} (hs : k_same cw) (hok : k_Sok y bytes maxL ret 3) (hm : Cond.methodLink Y.2.2.2.1 index y ∈ k_ws) (hrm : rm.cells = 0 ∧ rm.slots = 0) (hR : rm.frames + 1 ≤ Y.1.frames ∧ 8 + (maxL + 11) + rm.locals ≤ Y.1.locals) (hk : kc ≤ Y.1.cells ∧ ks ≤ Y.1.slots) (hcat : (st.map fun v => v.category).sum ≤ 8) (hd : decode Y.2.1 pc = .ok (.invokestatic index, 3)) (hM : ∀ r τ, f = some (r, τ) → k_Ct k_ev y bytes maxL ret rm cw (k_D X) (k_I X) [v1, v2, v3] σ r τ) (kk : ∀ r τ, KO X Y cw kc ks Q (pc + 3) L (st) τ (kf r τ)) : KO X Y cw kc ks Q pc L (v3 :: v2 :: v1 :: st) σ (k_ob f kf) := k_callS (As := [v1, v2, v3]) (k_In.id hs σ) hok hm rfl hrm hR hk hcat hd rfl hM kk
theorem k_vl3 {y : MethodName} {bytes : ByteArray} {maxL : Nat} {ret : Option FieldType} {index : Nat} {rm : Room} {b : Nat} {v1 v2 v3 : Value} {f : Option (Int64 × S)} {kf : Int64 → S → Option (Rt × S)} (hs : k_same cw) (hok : k_Vok y bytes maxL ret 3) (hm : Cond.methodLink Y.2.2.2.1 index y ∈ k_ws) (hrv : ∃ (k ci : Nat) (fs : List Value) (q : vw_C), (cw σ)[k]? = some (b, .inr (ci, fs)) ∧ vwCl[ci]? = some q ∧ q.1 = y.cls) (hrm : rm.cells = 0 ∧ rm.slots = 0) (hR : rm.frames + 1 ≤ Y.1.frames ∧ 8 + (maxL + 11) + rm.locals ≤ Y.1.locals) (hk : kc ≤ Y.1.cells ∧ ks ≤ Y.1.slots) (hcat : (st.map fun v => v.category).sum ≤ 8) (hd : decode Y.2.1 pc = .ok (.invokevirtual index, 3)) (hM : ∀ r τ, f = some (r, τ) → k_Ct k_el y bytes maxL ret rm cw (k_D X) (k_I X) (.ref b :: [v1, v2, v3]) σ r τ) (kk : ∀ r τ, KO X Y cw kc ks Q (pc + 3) L (.long r :: st) τ (kf r τ)) : KO X Y cw kc ks Q pc L (v3 :: v2 :: v1 :: .ref b :: st) σ (k_ob f kf) := k_callV (As := [v1, v2, v3]) (k_In.id hs σ) hok hm hrv rfl hrm hR hk hcat hd rfl hM kk
theorem k_sl3 {y : MethodName} {bytes : ByteArray} {maxL : Nat} {ret : Option FieldType} {index : Nat} {rm : Room} {v1 v2 v3 : Value} {f : Option (Int64 × S)} {kf : Int64 → S → Option (Rt × S)} (hs : k_same cw) (hok : k_Sok y bytes maxL ret 3) (hm : Cond.methodLink Y.2.2.2.1 index y ∈ k_ws) (hrm : rm.cells = 0 ∧ rm.slots = 0) (hR : rm.frames + 1 ≤ Y.1.frames ∧ 8 + (maxL + 11) + rm.locals ≤ Y.1.locals) (hk : kc ≤ Y.1.cells ∧ ks ≤ Y.1.slots) (hcat : (st.map fun v => v.category).sum ≤ 8) (hd : decode Y.2.1 pc = .ok (.invokestatic index, 3)) (hM : ∀ r τ, f = some (r, τ) → k_Ct k_el y bytes maxL ret rm cw (k_D X) (k_I X) [v1, v2, v3] σ r τ) (kk : ∀ r τ, KO X Y cw kc ks Q (pc + 3) L (.long r :: st) τ (kf r τ)) : KO X Y cw kc ks Q pc L (v3 :: v2 :: v1 :: st) σ (k_ob f kf) := k_callS (As := [v1, v2, v3]) (k_In.id hs σ) hok hm rfl hrm hR hk hcat hd rfl hM kk
theorem k_vi4 {y : MethodName} {bytes : ByteArray} {maxL : Nat} {ret : Option FieldType} {index : Nat} {rm : Room} {b : Nat} {v1 v2 v3 v4 : Value} {f : Option (Int32 × S)} {kf : Int32 → S → Option (Rt × S)} (hs : k_same cw) (hok : k_Vok y bytes maxL ret 4) (hm : Cond.methodLink Y.2.2.2.1 index y ∈ k_ws) (hrv : ∃ (k ci : Nat) (fs : List Value) (q : vw_C), (cw σ)[k]? = some (b, .inr (ci, fs)) ∧ vwCl[ci]? = some q ∧ q.1 = y.cls) (hrm : rm.cells = 0 ∧ rm.slots = 0) (hR : rm.frames + 1 ≤ Y.1.frames ∧ 8 + (maxL + 11) + rm.locals ≤ Y.1.locals) (hk : kc ≤ Y.1.cells ∧ ks ≤ Y.1.slots) (hcat : (st.map fun v => v.category).sum ≤ 8) (hd : decode Y.2.1 pc = .ok (.invokevirtual index, 3)) (hM : ∀ r τ, f = some (r, τ) → k_Ct k_ei y bytes maxL ret rm cw (k_D X) (k_I X) (.ref b :: [v1, v2, v3, v4]) σ r τ) (kk : ∀ r τ, KO X Y cw kc ks Q (pc + 3) L (.int r :: st) τ (kf r τ)) : KO X Y cw kc ks Q pc L (v4 :: v3 :: v2 :: v1 :: .ref b :: st) σ (k_ob f kf) := k_callV (As := [v1, v2, v3, v4]) (k_In.id hs σ) hok hm hrv rfl hrm hR hk hcat hd rfl hM kk
theorem k_si4 {y : MethodName} {bytes : ByteArray} {maxL : Nat} {ret : Option FieldType} {index : Nat} {rm : Room} {v1 v2 v3 v4 : Value} {f : Option (Int32 × S)} {kf : Int32 → S → Option (Rt × S)} (hs : k_same cw) (hok : k_Sok y bytes maxL ret 4) (hm : Cond.methodLink Y.2.2.2.1 index y ∈ k_ws) (hrm : rm.cells = 0 ∧ rm.slots = 0) (hR : rm.frames + 1 ≤ Y.1.frames ∧ 8 + (maxL + 11) + rm.locals ≤ Y.1.locals) (hk : kc ≤ Y.1.cells ∧ ks ≤ Y.1.slots) (hcat : (st.map fun v => v.category).sum ≤ 8) (hd : decode Y.2.1 pc = .ok (.invokestatic index, 3)) (hM : ∀ r τ, f = some (r, τ) → k_Ct k_ei y bytes maxL ret rm cw (k_D X) (k_I X) [v1, v2, v3, v4] σ r τ) (kk : ∀ r τ, KO X Y cw kc ks Q (pc + 3) L (.int r :: st) τ (kf r τ)) : KO X Y cw kc ks Q pc L (v4 :: v3 :: v2 :: v1 :: st) σ (k_ob f kf) := k_callS (As := [v1, v2, v3, v4]) (k_In.id hs σ) hok hm rfl hrm hR hk hcat hd rfl hM kk
theorem k_vv4 {y : MethodName} {bytes : ByteArray} {maxL : Nat} {ret : Option FieldType} {index : Nat} {rm : Room} {b : Nat} {v1 v2 v3 v4 : Value} {f : Option (Unit × S)} {kf : Unit → S → Option (Rt × S)} (hs : k_same cw) (hok : k_Vok y bytes maxL ret 4) (hm : Cond.methodLink Y.2.2.2.1 index y ∈ k_ws) (hrv : ∃ (k ci : Nat) (fs : List Value) (q : vw_C), (cw σ)[k]? = some (b, .inr (ci, fs)) ∧ vwCl[ci]? = some q ∧ q.1 = y.cls) (hrm : rm.cells = 0 ∧ rm.slots = 0) (hR : rm.frames + 1 ≤ Y.1.frames ∧ 8 + (maxL + 11) + rm.locals ≤ Y.1.locals) (hk : kc ≤ Y.1.cells ∧ ks ≤ Y.1.slots) (hcat : (st.map fun v => v.category).sum ≤ 8) (hd : decode Y.2.1 pc = .ok (.invokevirtual index, 3)) (hM : ∀ r τ, f = some (r, τ) → k_Ct k_ev y bytes maxL ret rm cw (k_D X) (k_I X) (.ref b :: [v1, v2, v3, v4]) σ r τ) (kk : ∀ r τ, KO X Y cw kc ks Q (pc + 3) L (st) τ (kf r τ)) : KO X Y cw kc ks Q pc L (v4 :: v3 :: v2 :: v1 :: .ref b :: st) σ (k_ob f kf) := k_callV (As := [v1, v2, v3, v4]) (k_In.id hs σ) hok hm hrv rfl hrm hR hk hcat hd rfl hM kk
theorem k_sv4 {y : MethodName} {bytes : ByteArray} {maxL : Nat} {ret : Option FieldType} {index : Nat} {rm : Room} {v1 v2 v3 v4 : Value} {f : Option (Unit × S)} {kf : Unit → S → Option (Rt × S)} (hs : k_same cw) (hok : k_Sok y bytes maxL ret 4) (hm : Cond.methodLink Y.2.2.2.1 index y ∈ k_ws) (hrm : rm.cells = 0 ∧ rm.slots = 0) (hR : rm.frames + 1 ≤ Y.1.frames ∧ 8 + (maxL + 11) + rm.locals ≤ Y.1.locals) (hk : kc ≤ Y.1.cells ∧ ks ≤ Y.1.slots) (hcat : (st.map fun v => v.category).sum ≤ 8) (hd : decode Y.2.1 pc = .ok (.invokestatic index, 3)) (hM : ∀ r τ, f = some (r, τ) → k_Ct k_ev y bytes maxL ret rm cw (k_D X) (k_I X) [v1, v2, v3, v4] σ r τ) (kk : ∀ r τ, KO X Y cw kc ks Q (pc + 3) L (st) τ (kf r τ)) : KO X Y cw kc ks Q pc L (v4 :: v3 :: v2 :: v1 :: st) σ (k_ob f kf) := k_callS (As := [v1, v2, v3, v4]) (k_In.id hs σ) hok hm rfl hrm hR hk hcat hd rfl hM kk
theorem k_vi5 {y : MethodName} {bytes : ByteArray} {maxL : Nat} {ret : Option FieldType} {index : Nat} {rm : Room} {b : Nat} {v1 v2 v3 v4 v5 : Value} {f : Option (Int32 × S)} {kf : Int32 → S → Option (Rt × S)} (hs : k_same cw) (hok : k_Vok y bytes maxL ret 5) (hm : Cond.methodLink Y.2.2.2.1 index y ∈ k_ws) (hrv : ∃ (k ci : Nat) (fs : List Value) (q : vw_C), (cw σ)[k]? = some (b, .inr (ci, fs)) ∧ vwCl[ci]? = some q ∧ q.1 = y.cls) (hrm : rm.cells = 0 ∧ rm.slots = 0) (hR : rm.frames + 1 ≤ Y.1.frames ∧ 8 + (maxL + 11) + rm.locals ≤ Y.1.locals) (hk : kc ≤ Y.1.cells ∧ ks ≤ Y.1.slots) (hcat : (st.map fun v => v.category).sum ≤ 8) (hd : decode Y.2.1 pc = .ok (.invokevirtual index, 3)) (hM : ∀ r τ, f = some (r, τ) → k_Ct k_ei y bytes maxL ret rm cw (k_D X) (k_I X) (.ref b :: [v1, v2, v3, v4, v5]) σ r τ) (kk : ∀ r τ, KO X Y cw kc ks Q (pc + 3) L (.int r :: st) τ (kf r τ)) : KO X Y cw kc ks Q pc L (v5 :: v4 :: v3 :: v2 :: v1 :: .ref b :: st) σ (k_ob f kf) := k_callV (As := [v1, v2, v3, v4, v5]) (k_In.id hs σ) hok hm hrv rfl hrm hR hk hcat hd rfl hM kk
theorem k_si5 {y : MethodName} {bytes : ByteArray} {maxL : Nat} {ret : Option FieldType} {index : Nat} {rm : Room} {v1 v2 v3 v4 v5 : Value} {f : Option (Int32 × S)} {kf : Int32 → S → Option (Rt × S)} (hs : k_same cw) (hok : k_Sok y bytes maxL ret 5) (hm : Cond.methodLink Y.2.2.2.1 index y ∈ k_ws) (hrm : rm.cells = 0 ∧ rm.slots = 0) (hR : rm.frames + 1 ≤ Y.1.frames ∧ 8 + (maxL + 11) + rm.locals ≤ Y.1.locals) (hk : kc ≤ Y.1.cells ∧ ks ≤ Y.1.slots) (hcat : (st.map fun v => v.category).sum ≤ 8) (hd : decode Y.2.1 pc = .ok (.invokestatic index, 3)) (hM : ∀ r τ, f = some (r, τ) → k_Ct k_ei y bytes maxL ret rm cw (k_D X) (k_I X) [v1, v2, v3, v4, v5] σ r τ) (kk : ∀ r τ, KO X Y cw kc ks Q (pc + 3) L (.int r :: st) τ (kf r τ)) : KO X Y cw kc ks Q pc L (v5 :: v4 :: v3 :: v2 :: v1 :: st) σ (k_ob f kf) := k_callS (As := [v1, v2, v3, v4, v5]) (k_In.id hs σ) hok hm rfl hrm hR hk hcat hd rfl hM kk
theorem k_vv5 {y : MethodName} {bytes : ByteArray} {maxL : Nat} {ret : Option FieldType} {index : Nat} {rm : Room} {b : Nat} {v1 v2 v3 v4 v5 : Value} {f : Option (Unit × S)} {kf : Unit → S → Option (Rt × S)} (hs : k_same cw) (hok : k_Vok y bytes maxL ret 5) (hm : Cond.methodLink Y.2.2.2.1 index y ∈ k_ws) (hrv : ∃ (k ci : Nat) (fs : List Value) (q : vw_C), (cw σ)[k]? = some (b, .inr (ci, fs)) ∧ vwCl[ci]? = some q ∧ q.1 = y.cls) (hrm : rm.cells = 0 ∧ rm.slots = 0) (hR : rm.frames + 1 ≤ Y.1.frames ∧ 8 + (maxL + 11) + rm.locals ≤ Y.1.locals) (hk : kc ≤ Y.1.cells ∧ ks ≤ Y.1.slots) (hcat : (st.map fun v => v.category).sum ≤ 8) (hd : decode Y.2.1 pc = .ok (.invokevirtual index, 3)) (hM : ∀ r τ, f = some (r, τ) → k_Ct k_ev y bytes maxL ret rm cw (k_D X) (k_I X) (.ref b :: [v1, v2, v3, v4, v5]) σ r τ) (kk : ∀ r τ, KO X Y cw kc ks Q (pc + 3) L (st) τ (kf r τ)) : KO X Y cw kc ks Q pc L (v5 :: v4 :: v3 :: v2 :: v1 :: .ref b :: st) σ (k_ob f kf) := k_callV (As := [v1, v2, v3, v4, v5]) (k_In.id hs σ) hok hm hrv rfl hrm hR hk hcat hd rfl hM kk
theorem k_sv5 {y : MethodName} {bytes : ByteArray} {maxL : Nat} {ret : Option FieldType} {index : Nat} {rm : Room} {v1 v2 v3 v4 v5 : Value} {f : Option (Unit × S)} {kf : Unit → S → Option (Rt × S)} (hs : k_same cw) (hok : k_Sok y bytes maxL ret 5) (hm : Cond.methodLink Y.2.2.2.1 index y ∈ k_ws) (hrm : rm.cells = 0 ∧ rm.slots = 0) (hR : rm.frames + 1 ≤ Y.1.frames ∧ 8 + (maxL + 11) + rm.locals ≤ Y.1.locals) (hk : kc ≤ Y.1.cells ∧ ks ≤ Y.1.slots) (hcat : (st.map fun v => v.category).sum ≤ 8) (hd : decode Y.2.1 pc = .ok (.invokestatic index, 3)) (hM : ∀ r τ, f = some (r, τ) → k_Ct k_ev y bytes maxL ret rm cw (k_D X) (k_I X) [v1, v2, v3, v4, v5] σ r τ) (kk : ∀ r τ, KO X Y cw kc ks Q (pc + 3) L (st) τ (kf r τ)) : KO X Y cw kc ks Q pc L (v5 :: v4 :: v3 :: v2 :: v1 :: st) σ (k_ob f kf) := k_callS (As := [v1, v2, v3, v4, v5]) (k_In.id hs σ) hok hm rfl hrm hR hk hcat hd rfl hM kk
theorem k_vi6 {y : MethodName} {bytes : ByteArray} {maxL : Nat} {ret : Option FieldType} {index : Nat} {rm : Room} {b : Nat} {v1 v2 v3 v4 v5 v6 : Value} {f : Option (Int32 × S)} {kf : Int32 → S → Option (Rt × S)} (hs : k_same cw) (hok : k_Vok y bytes maxL ret 6) (hm : Cond.methodLink Y.2.2.2.1 index y ∈ k_ws) (hrv : ∃ (k ci : Nat) (fs : List Value) (q : vw_C), (cw σ)[k]? = some (b, .inr (ci, fs)) ∧ vwCl[ci]? = some q ∧ q.1 = y.cls) (hrm : rm.cells = 0 ∧ rm.slots = 0) (hR : rm.frames + 1 ≤ Y.1.frames ∧ 8 + (maxL + 11) + rm.locals ≤ Y.1.locals) (hk : kc ≤ Y.1.cells ∧ ks ≤ Y.1.slots) (hcat : (st.map fun v => v.category).sum ≤ 8) (hd : decode Y.2.1 pc = .ok (.invokevirtual index, 3)) (hM : ∀ r τ, f = some (r, τ) → k_Ct k_ei y bytes maxL ret rm cw (k_D X) (k_I X) (.ref b :: [v1, v2, v3, v4, v5, v6]) σ r τ) (kk : ∀ r τ, KO X Y cw kc ks Q (pc + 3) L (.int r :: st) τ (kf r τ)) : KO X Y cw kc ks Q pc L (v6 :: v5 :: v4 :: v3 :: v2 :: v1 :: .ref b :: st) σ (k_ob f kf) := k_callV (As := [v1, v2, v3, v4, v5, v6]) (k_In.id hs σ) hok hm hrv rfl hrm hR hk hcat hd rfl hM kk
theorem k_si6 {y : MethodName} {bytes : ByteArray} {maxL : Nat} {ret : Option FieldType} {index : Nat} {rm : Room} {v1 v2 v3 v4 v5 v6 : Value} {f : Option (Int32 × S)} {kf : Int32 → S → Option (Rt × S)} (hs : k_same cw) (hok : k_Sok y bytes maxL ret 6) (hm : Cond.methodLink Y.2.2.2.1 index y ∈ k_ws) (hrm : rm.cells = 0 ∧ rm.slots = 0) (hR : rm.frames + 1 ≤ Y.1.frames ∧ 8 + (maxL + 11) + rm.locals ≤ Y.1.locals) (hk : kc ≤ Y.1.cells ∧ ks ≤ Y.1.slots) (hcat : (st.map fun v => v.category).sum ≤ 8) (hd : decode Y.2.1 pc = .ok (.invokestatic index, 3)) (hM : ∀ r τ, f = some (r, τ) → k_Ct k_ei y bytes maxL ret rm cw (k_D X) (k_I X) [v1, v2, v3, v4, v5, v6] σ r τ) (kk : ∀ r τ, KO X Y cw kc ks Q (pc + 3) L (.int r :: st) τ (kf r τ)) : KO X Y cw kc ks Q pc L (v6 :: v5 :: v4 :: v3 :: v2 :: v1 :: st) σ (k_ob f kf) := k_callS (As := [v1, v2, v3, v4, v5, v6]) (k_In.id hs σ) hok hm rfl hrm hR hk hcat hd rfl hM kk
theorem k_vv6 {y : MethodName} {bytes : ByteArray} {maxL : Nat} {ret : Option FieldType} {index : Nat} {rm : Room} {b : Nat} {v1 v2 v3 v4 v5 v6 : Value} {f : Option (Unit × S)} {kf : Unit → S → Option (Rt × S)} (hs : k_same cw) (hok : k_Vok y bytes maxL ret 6) (hm : Cond.methodLink Y.2.2.2.1 index y ∈ k_ws) (hrv : ∃ (k ci : Nat) (fs : List Value) (q : vw_C), (cw σ)[k]? = some (b, .inr (ci, fs)) ∧ vwCl[ci]? = some q ∧ q.1 = y.cls) (hrm : rm.cells = 0 ∧ rm.slots = 0) (hR : rm.frames + 1 ≤ Y.1.frames ∧ 8 + (maxL + 11) + rm.locals ≤ Y.1.locals) (hk : kc ≤ Y.1.cells ∧ ks ≤ Y.1.slots) (hcat : (st.map fun v => v.category).sum ≤ 8) (hd : decode Y.2.1 pc = .ok (.invokevirtual index, 3)) (hM : ∀ r τ, f = some (r, τ) → k_Ct k_ev y bytes maxL ret rm cw (k_D X) (k_I X) (.ref b :: [v1, v2, v3, v4, v5, v6]) σ r τ) (kk : ∀ r τ, KO X Y cw kc ks Q (pc + 3) L (st) τ (kf r τ)) : KO X Y cw kc ks Q pc L (v6 :: v5 :: v4 :: v3 :: v2 :: v1 :: .ref b :: st) σ (k_ob f kf) := k_callV (As := [v1, v2, v3, v4, v5, v6]) (k_In.id hs σ) hok hm hrv rfl hrm hR hk hcat hd rfl hM kk
theorem k_sv6 {y : MethodName} {bytes : ByteArray} {maxL : Nat} {ret : Option FieldType} {index : Nat} {rm : Room} {v1 v2 v3 v4 v5 v6 : Value} {f : Option (Unit × S)} {kf : Unit → S → Option (Rt × S)} (hs : k_same cw) (hok : k_Sok y bytes maxL ret 6) (hm : Cond.methodLink Y.2.2.2.1 index y ∈ k_ws) (hrm : rm.cells = 0 ∧ rm.slots = 0) (hR : rm.frames + 1 ≤ Y.1.frames ∧ 8 + (maxL + 11) + rm.locals ≤ Y.1.locals) (hk : kc ≤ Y.1.cells ∧ ks ≤ Y.1.slots) (hcat : (st.map fun v => v.category).sum ≤ 8) (hd : decode Y.2.1 pc = .ok (.invokestatic index, 3)) (hM : ∀ r τ, f = some (r, τ) → k_Ct k_ev y bytes maxL ret rm cw (k_D X) (k_I X) [v1, v2, v3, v4, v5, v6] σ r τ) (kk : ∀ r τ, KO X Y cw kc ks Q (pc + 3) L (st) τ (kf r τ)) : KO X Y cw kc ks Q pc L (v6 :: v5 :: v4 :: v3 :: v2 :: v1 :: st) σ (k_ob f kf) := k_callS (As := [v1, v2, v3, v4, v5, v6]) (k_In.id hs σ) hok hm rfl hrm hR hk hcat hd rfl hM kk
end KR4
-- ---- Arrays.fill
def cA (cI : ClassId) (a n : Nat) (g : Nat → Int32) : va_W := [(a, .inl (cI, n, .inl g))]
theorem cA_same (cI : ClassId) (a n : Nat) : k_same (cA cI a n) := k_same_of fun _ _ => rfl
def f_fl (n : Nat) (hi v : Int32) : Nat → (Nat → Int32) → Int32 → Option (Unit × (Nat → Int32))
  | 0, _, _ => none
  | k + 1, g, i => if i < hi then k_gd i n (k_bn (upd g i.toNatClampNeg v) fun g' => k_bn (i + 1) fun i' => f_fl n hi v k g' i') else some ((), g)
theorem f_fl_s (n : Nat) (hi v : Int32) (k : Nat) (g : Nat → Int32) (i : Int32) : f_fl n hi v (k + 1) g i = if i < hi then k_gd i n (k_bn (upd g i.toNatClampNeg v) fun g' => k_bn (i + 1) fun i' => f_fl n hi v k g' i') else some ((), g) := rfl
theorem k_gd_in {α : Type} {i : Int32} {n : Nat} {o : Option α} (h : vp_in i n) : k_gd i n o = o := if_neg h
theorem f_fl_eq (n : Nat) (v : Int32) {b : Nat} (hb : b ≤ n) (hn : n < 2 ^ 31) : ∀ (k a : Nat) (g : Nat → Int32), a ≤ b → b < a + k → f_fl n (nI b) v k g (nI a) = some ((), k_fl g a b v) := by
  intro k
  induction k with
  | zero => intro a g h1 h2; omega
  | succ k ih =>
    intro a g h1 h2
    rw [f_fl_s]
    by_cases hab : a < b
    · rw [if_pos (nI_lt hab (by omega)), k_gd_in (vp_in_nI (by omega) hn)]
      show f_fl n (nI b) v k (upd g (nI a).toNatClampNeg v) (nI a + 1) = _
      rw [nI_1, ih (a + 1) _ (by omega) (by omega), nI_clamp (by omega)]
      have e : k_fl (upd g a v) (a + 1) b v = k_fl g a b v := by
        funext j
        unfold k_fl
        by_cases hj : j = a
        · subst hj
          rw [if_neg (by omega), if_pos (by omega)]
          exact pk_us
        · by_cases h3 : a ≤ j ∧ j < b
          · rw [if_pos (by omega), if_pos h3]
          · rw [if_neg (by omega), if_neg h3]
            exact pk_un hj
      rw [e]
    · rw [if_neg (nI_nlt (by omega) (by omega))]
      have : k_fl g a b v = g := by
        funext j
        unfold k_fl
        rw [if_neg (by omega)]
      rw [this]
theorem ckJ7_fill2 : k_Sok yJ7_fill_53178 cJ7_fill_53178 4 none 2 := ⟨kwk_J7_fill_53178, kws_J7_fill_53178, kwn_J7, by decide, by decide +kernel⟩
theorem ckJ7_fill4 : k_Sok yJ7_fill_fda19 cJ7_fill_fda19 5 none 4 := ⟨kwk_J7_fill_fda19, kws_J7_fill_fda19, kwn_J7, by decide, by decide +kernel⟩
theorem ckJ7_rangeCheck : k_Sok yJ7_rangeCheck_23922 cJ7_rangeCheck_23922 3 none 3 := ⟨kwk_J7_rangeCheck_23922, kws_J7_rangeCheck_23922, kwn_J7, by decide, by decide +kernel⟩
abbrev YJ7_fill2 : k_Y := ({ frames := 0, cells := 0, slots := 0, locals := 30 }, cJ7_fill_53178, 4, RJ7, none)
abbrev YJ7_fill4 : k_Y := ({ frames := 1, cells := 0, slots := 0, locals := 60 }, cJ7_fill_fda19, 5, RJ7, none)
abbrev YJ7_rc : k_Y := ({ frames := 0, cells := 0, slots := 0, locals := 0 }, cJ7_rangeCheck_23922, 3, RJ7, none)
set_option maxRecDepth 100000 in
theorem kJ7_fill2_loop {X : k_C} {a n : Nat} (v : Int32) : ∀ (k : Nat) (g : Nat → Int32) (i : Int32), KO X YJ7_fill2 (cA (k_I X) a n) 0 0 (k_Q k_ev X (cA (k_I X) a n)) 5 [some (.ref a), some (.int v), some (.int i), some (.int (nI n))] [] g (f_fl n (nI n) v k g i) := by
  intro k
  induction k with
  | zero => intros; exact KO.nil
  | succ k ih =>
    intro g i
    rw [f_fl_s]
    refine k_iload_n (pc := 5) dJ7_fill_53178_5 rfl ?_
    refine k_iload_n (pc := 6) dJ7_fill_53178_6 rfl ?_
    refine k_icmp_ge (pc := 7) 20 dJ7_fill_53178_7 (by decide) ?_ ?_
    · exact k_return (pc := 20) rfl dJ7_fill_53178_20
    · refine k_aload_n (pc := 10) dJ7_fill_53178_10 rfl ?_
      refine k_iload_n (pc := 11) dJ7_fill_53178_11 rfl ?_
      refine k_iload_n (pc := 12) dJ7_fill_53178_12 rfl ?_
      refine k_iast (pc := 13) (σ1 := upd g i.toNatClampNeg v) 0 rfl rfl dJ7_fill_53178_13 (fun g' => ?_)
      refine k_iinc2 (pc := 14) (w := 1) dJ7_fill_53178_14 rfl (by decide) (by decide) (fun i' => ?_)
      refine k_goto (pc := 17) 5 dJ7_fill_53178_17 (by decide) ?_
      exact ih g' i'
set_option maxRecDepth 100000 in
theorem kJ7_fill2 {D : va_G} {cI : ClassId} {a n : Nat} (hn : n < 2 ^ 31) (g : Nat → Int32) (v : Int32) : k_Ct k_ev yJ7_fill_53178 cJ7_fill_53178 4 none YJ7_fill2.1 (cA cI a n) D cI [.ref a, .int v] g () (k_fl g 0 n v) := by
  refine k_met (Y := YJ7_fill2) (o := f_fl n (nI n) v (n + 1) g (nI 0)) (cA_same _ _ _) (by decide) rfl (Nat.le_of_ble_eq_true rfl) (List.forall_mem_cons.mpr ⟨rfl, List.forall_mem_cons.mpr ⟨rfl, fun _ h => absurd h List.not_mem_nil⟩⟩) (fun X hD hI => ?_) (f_fl_eq n v (Nat.le_refl n) hn (n + 1) 0 g (Nat.zero_le _) (by omega))
  subst hD hI
  show KO X YJ7_fill2 (cA (k_I X) a n) 0 0 (k_Q k_ev X (cA (k_I X) a n)) 0 [some (.ref a), some (.int v), none, none] [] g (k_bn 0 fun i => k_bn (nI n) fun _ => f_fl n (nI n) v (n + 1) g i)
  refine k_iconst (pc := 0) (v := 0) dJ7_fill_53178_0 (by decide) ?_
  refine k_istG (pc := 1) (pc' := 2) 2 (.inl ⟨2, dJ7_fill_53178_1, rfl, rfl⟩) (by decide) ?_
  refine k_aload_n (pc := 2) dJ7_fill_53178_2 rfl ?_
  refine k_alen (pc := 3) (v := nI n) 0 rfl rfl dJ7_fill_53178_3 ?_
  refine k_istG (pc := 4) (pc' := 5) 3 (.inl ⟨3, dJ7_fill_53178_4, rfl, rfl⟩) (by decide) ?_
  exact kJ7_fill2_loop v (n + 1) g 0
def f_rc (len lo hi : Int32) (g : Nat → Int32) : Option (Unit × (Nat → Int32)) := if hi < lo then none else if lo < 0 then none else if len < hi then none else some ((), g)
set_option maxRecDepth 100000 in
theorem kJ7_rc {D : va_G} {cI : ClassId} {a n : Nat} {g τ : Nat → Int32} {len lo hi : Int32} {r : Unit} (h : f_rc len lo hi g = some (r, τ)) : k_Ct k_ev yJ7_rangeCheck_23922 cJ7_rangeCheck_23922 3 none YJ7_rc.1 (cA cI a n) D cI [.int len, .int lo, .int hi] g r τ := by
  refine k_met (Y := YJ7_rc) (cA_same _ _ _) (by decide) rfl (Nat.le_of_ble_eq_true rfl) (List.forall_mem_cons.mpr ⟨rfl, List.forall_mem_cons.mpr ⟨rfl, List.forall_mem_cons.mpr ⟨rfl, fun _ h => absurd h List.not_mem_nil⟩⟩⟩) (fun X hD hI => ?_) h
  subst hD hI
  show KO X YJ7_rc (cA (k_I X) a n) 0 0 (k_Q k_ev X (cA (k_I X) a n)) 0 [some (.int len), some (.int lo), some (.int hi)] [] g _
  unfold f_rc
  refine k_iload_n (pc := 0) dJ7_rangeCheck_23922_0 rfl ?_
  refine k_iload_n (pc := 1) dJ7_rangeCheck_23922_1 rfl ?_
  refine k_icmp_le (pc := 2) 46 dJ7_rangeCheck_23922_2 (by decide) ?_ KO.nil
  refine k_iload_n (pc := 46) dJ7_rangeCheck_23922_46 rfl ?_
  refine k_if_ge (pc := 47) 59 dJ7_rangeCheck_23922_47 (by decide) ?_ KO.nil
  refine k_iload_n (pc := 59) dJ7_rangeCheck_23922_59 rfl ?_
  refine k_iload_n (pc := 60) dJ7_rangeCheck_23922_60 rfl ?_
  refine k_icmp_le (pc := 61) 73 dJ7_rangeCheck_23922_61 (by decide) ?_ KO.nil
  exact k_return (pc := 73) rfl dJ7_rangeCheck_23922_73
set_option maxRecDepth 100000 in
theorem kJ7_fill4_loop {X : k_C} {a n : Nat} (lo hi v : Int32) : ∀ (k : Nat) (g : Nat → Int32) (i : Int32), KO X YJ7_fill4 (cA (k_I X) a n) 0 0 (k_Q k_ev X (cA (k_I X) a n)) 10 [some (.ref a), some (.int lo), some (.int hi), some (.int v), some (.int i)] [] g (f_fl n hi v k g i) := by
  intro k
  induction k with
  | zero => intros; exact KO.nil
  | succ k ih =>
    intro g i
    rw [f_fl_s]
    refine k_iload (pc := 10) dJ7_fill_fda19_10 rfl ?_
    refine k_iload_n (pc := 12) dJ7_fill_fda19_12 rfl ?_
    refine k_icmp_ge (pc := 13) 27 dJ7_fill_fda19_13 (by decide) ?_ ?_
    · exact k_return (pc := 27) rfl dJ7_fill_fda19_27
    · refine k_aload_n (pc := 16) dJ7_fill_fda19_16 rfl ?_
      refine k_iload (pc := 17) dJ7_fill_fda19_17 rfl ?_
      refine k_iload_n (pc := 19) dJ7_fill_fda19_19 rfl ?_
      refine k_iast (pc := 20) (σ1 := upd g i.toNatClampNeg v) 0 rfl rfl dJ7_fill_fda19_20 (fun g' => ?_)
      refine k_iinc4 (pc := 21) (w := 1) dJ7_fill_fda19_21 rfl (by decide) (by decide) (fun i' => ?_)
      refine k_goto (pc := 24) 10 dJ7_fill_fda19_24 (by decide) ?_
      exact ih g' i'
theorem f_fill4_eq {n : Nat} (hn : n < 2 ^ 31) {lo hi v : Int32} {g τ : Nat → Int32} {r : Unit} (h : k_gf lo hi n (some ((), k_fl g lo.toNatClampNeg hi.toNatClampNeg v)) = some (r, τ)) : k_ob (f_rc (nI n) lo hi g) (fun _ g => f_fl n hi v (n + 1) g lo) = some (r, τ) := by
  unfold k_gf at h
  split at h
  · cases h
  next hc =>
    have h1 : ¬ hi < lo := fun q => hc (.inl q)
    have h2 : ¬ lo < 0 := fun q => hc (.inr (.inl q))
    have h3 : ¬ nI n < hi := fun q => hc (.inr (.inr q))
    obtain ⟨a, ha, rfl⟩ := nI_of h2
    obtain ⟨b, hb, rfl⟩ := nI_of (x := hi) (fun q => h1 (Int32.lt_of_lt_of_le q (Int32.not_lt.mp h2)))
    have hab : a ≤ b := Nat.le_of_not_lt fun q => h1 (nI_lt q ha)
    have hbn : b ≤ n := Nat.le_of_not_lt fun q => h3 (nI_lt q hb)
    rw [nI_clamp ha, nI_clamp hb] at h
    rw [f_rc, if_neg h1, if_neg h2, if_neg h3]
    show f_fl n (nI b) v (n + 1) g (nI a) = _
    rw [f_fl_eq n v hbn hn (n + 1) a g hab (by omega)]
    exact h
set_option maxRecDepth 100000 in
theorem kJ7_fill4 {D : va_G} {cI : ClassId} {a n : Nat} (hn : n < 2 ^ 31) {g τ : Nat → Int32} {lo hi v : Int32} {r : Unit} (h : k_gf lo hi n (some ((), k_fl g lo.toNatClampNeg hi.toNatClampNeg v)) = some (r, τ)) : k_Ct k_ev yJ7_fill_fda19 cJ7_fill_fda19 5 none YJ7_fill4.1 (cA cI a n) D cI [.ref a, .int lo, .int hi, .int v] g r τ := by
  refine k_met (Y := YJ7_fill4) (cA_same _ _ _) (by decide) rfl (Nat.le_of_ble_eq_true rfl) (List.forall_mem_cons.mpr ⟨rfl, List.forall_mem_cons.mpr ⟨rfl, List.forall_mem_cons.mpr ⟨rfl, List.forall_mem_cons.mpr ⟨rfl, fun _ h => absurd h List.not_mem_nil⟩⟩⟩⟩) (fun X hD hI => ?_) (f_fill4_eq hn h)
  subst hD hI
  show KO X YJ7_fill4 (cA (k_I X) a n) 0 0 (k_Q k_ev X (cA (k_I X) a n)) 0 [some (.ref a), some (.int lo), some (.int hi), some (.int v), none] [] g _
  refine k_aload_n (pc := 0) dJ7_fill_fda19_0 rfl ?_
  refine k_alen (pc := 1) (v := nI n) 0 rfl rfl dJ7_fill_fda19_1 ?_
  refine k_iload_n (pc := 2) dJ7_fill_fda19_2 rfl ?_
  refine k_iload_n (pc := 3) dJ7_fill_fda19_3 rfl ?_
  refine k_sv3 (pc := 4) (cA_same _ _ _) ckJ7_rangeCheck kwm_J7_13 ⟨rfl, rfl⟩ ⟨Nat.le_of_ble_eq_true rfl, Nat.le_of_ble_eq_true rfl⟩ ⟨Nat.zero_le _, Nat.zero_le _⟩ (by decide) dJ7_fill_fda19_4 (fun _ _ hf => kJ7_rc hf) (fun r1 g1 => ?_)
  refine k_iload_n (pc := 7) dJ7_fill_fda19_7 rfl ?_
  refine k_istG (pc := 8) (pc' := 10) 4 (.inr ⟨dJ7_fill_fda19_8, rfl⟩) (by decide) ?_
  exact kJ7_fill4_loop lo hi v (n + 1) g1 lo
theorem k_In_arr {S : Type} {cw : S → va_W} {σ : S} {cI : ClassId} {a n : Nat} {f : Nat → Int32} (hs : k_same cw) (k : Nat) (hcell : (cw σ)[k]? = some (a, .inl (cI, n, .inl f))) {wr : (Nat → Int32) → S} (hset : ∀ g, (cw σ).set k (a, .inl (cI, n, .inl g)) = cw (wr g)) : k_In cw σ (cA cI a n) f wr := by
  refine ⟨cA_same _ _ _, fun j q hj => ?_, fun A hD τ0 => ?_, fun τ0 j q hj => ?_⟩
  · match j, hj with
    | 0, hj => cases hj; exact ⟨k, hcell⟩
    | j + 1, hj => cases hj
  · refine ⟨fun i j p q hi hj _ => ?_, fun j q hj => ?_⟩
    · match i, j, hi, hj with
      | 0, 0, _, _ => rfl
      | 0, j + 1, _, hj => cases hj
      | i + 1, _, hi, _ => cases hi
    · match j, hj with
      | 0, hj => cases hj; exact (show A a from (hD σ).2 k _ hcell)
      | j + 1, hj => cases hj
  · rw [← hset τ0] at hj
    by_cases hjk : j = k
    · subst hjk
      rw [List.getElem?_set] at hj
      have hlt : j < (cw σ).length := (List.getElem?_eq_some_iff.mp hcell).1
      simp [hlt] at hj
      exact Or.inl ⟨0, by rw [← hj]; rfl⟩
    · rw [List.getElem?_set_ne (Ne.symm hjk)] at hj
      refine Or.inr ⟨⟨j, hj⟩, fun A hD i q0 hi => ?_⟩
      match i, hi with
      | 0, hi =>
        cases hi
        intro hq
        exact hjk (hD.1 j k q _ hj hcell hq.symm)
      | i + 1, hi => cases hi
section KR5
variable {S Rt : Type} {X : k_C} {Y : k_Y} {cw : S → va_W} {Q : Rt → S → State → Prop} {pc : Nat} {L : List (Option Value)} {σ : S}
theorem k_fill2 {a n index : Nat} {f : Nat → Int32} {v : Int32} {wr : (Nat → Int32) → S} (hs : k_same cw) (k : Nat) (hn : n < 2 ^ 31) (hcell : (cw σ)[k]? = some (a, .inl (k_I X, n, .inl f))) (hset : ∀ g, (cw σ).set k (a, .inl (k_I X, n, .inl g)) = cw (wr g)) (hw : Cond.methodLink Y.2.2.2.1 index yJ7_fill_53178 ∈ k_ws) (hR : 1 ≤ Y.1.frames ∧ 60 ≤ Y.1.locals) (hd : decode Y.2.1 pc = .ok (.invokestatic index, 3)) {kf : S → Option (Rt × S)} (kk : ∀ σ' : S, KO X Y cw 0 0 Q (pc + 3) L [] σ' (kf σ')) : KO X Y cw 0 0 Q pc L [.int v, .ref a] σ (k_bn (wr (k_fl f 0 n v)) kf) :=
  k_Sv2 (rm := YJ7_fill2.1) (f := some ((), k_fl f 0 n v)) (kf := fun _ g => kf (wr g)) (k_In_arr hs k hcell hset) ckJ7_fill2 hw ⟨rfl, rfl⟩ ⟨by show 0 + 1 ≤ _; omega, by show 8 + (4 + 11) + 30 ≤ _; omega⟩ ⟨Nat.zero_le _, Nat.zero_le _⟩ (by decide) hd (fun r τ h => by cases h; exact kJ7_fill2 hn f v) (fun _ g => kk (wr g))
theorem k_fill4 {a n index : Nat} {f : Nat → Int32} {lo hi v : Int32} {wr : (Nat → Int32) → S} (hs : k_same cw) (k : Nat) (hn : n < 2 ^ 31) (hcell : (cw σ)[k]? = some (a, .inl (k_I X, n, .inl f))) (hset : ∀ g, (cw σ).set k (a, .inl (k_I X, n, .inl g)) = cw (wr g)) (hw : Cond.methodLink Y.2.2.2.1 index yJ7_fill_fda19 ∈ k_ws) (hR : 2 ≤ Y.1.frames ∧ 90 ≤ Y.1.locals) (hd : decode Y.2.1 pc = .ok (.invokestatic index, 3)) {kf : S → Option (Rt × S)} (kk : ∀ σ' : S, KO X Y cw 0 0 Q (pc + 3) L [] σ' (kf σ')) : KO X Y cw 0 0 Q pc L [.int v, .int hi, .int lo, .ref a] σ (k_gf lo hi n (k_bn (wr (k_fl f lo.toNatClampNeg hi.toNatClampNeg v)) kf)) := by
  have e : k_gf lo hi n (k_bn (wr (k_fl f lo.toNatClampNeg hi.toNatClampNeg v)) kf) = k_ob (k_gf lo hi n (some ((), k_fl f lo.toNatClampNeg hi.toNatClampNeg v))) (fun _ g => kf (wr g)) := by
    unfold k_gf
    split <;> rfl
  rw [e]
  exact k_Sv4 (rm := YJ7_fill4.1) (k_In_arr hs k hcell hset) ckJ7_fill4 hw ⟨rfl, rfl⟩ ⟨by show 1 + 1 ≤ _; omega, by show 8 + (5 + 11) + 60 ≤ _; omega⟩ ⟨Nat.zero_le _, Nat.zero_le _⟩ (by decide) hd (fun r τ h => kJ7_fill4 hn h) (fun _ g => kk (wr g))
end KR5
end
