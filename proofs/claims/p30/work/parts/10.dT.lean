/-! ===== decode rows (printed) ===== -/
theorem dX0_init_0 : decode cX0_init 0 = .ok (.aload_n 0, 1) := by decide +kernel
theorem dX0_init_1 : decode cX0_init 1 = .ok (.invokespecial 3, 3) := by decide +kernel
theorem dX0_init_4 : decode cX0_init 4 = .ok (.aload_n 0, 1) := by decide +kernel
theorem dX0_init_5 : decode cX0_init 5 = .ok (.bipush 10, 2) := by decide +kernel
theorem dX0_init_7 : decode cX0_init 7 = .ok (.newarray .int, 2) := by decide +kernel
theorem dX0_init_9 : decode cX0_init 9 = .ok (.putfield 9, 3) := by decide +kernel
theorem dX0_init_12 : decode cX0_init 12 = .ok (.aload_n 0, 1) := by decide +kernel
theorem dX0_init_13 : decode cX0_init 13 = .ok (.bipush 10, 2) := by decide +kernel
theorem dX0_init_15 : decode cX0_init 15 = .ok (.newarray .int, 2) := by decide +kernel
theorem dX0_init_17 : decode cX0_init 17 = .ok (.putfield 15, 3) := by decide +kernel
theorem dX0_init_20 : decode cX0_init 20 = .ok (.aload_n 0, 1) := by decide +kernel
theorem dX0_init_21 : decode cX0_init 21 = .ok (.bipush 10, 2) := by decide +kernel
theorem dX0_init_23 : decode cX0_init 23 = .ok (.newarray .int, 2) := by decide +kernel
theorem dX0_init_25 : decode cX0_init 25 = .ok (.putfield 18, 3) := by decide +kernel
theorem dX0_init_28 : decode cX0_init 28 = .ok (.aload_n 0, 1) := by decide +kernel
theorem dX0_init_29 : decode cX0_init 29 = .ok (.bipush 10, 2) := by decide +kernel
theorem dX0_init_31 : decode cX0_init 31 = .ok (.newarray .int, 2) := by decide +kernel
theorem dX0_init_33 : decode cX0_init 33 = .ok (.putfield 21, 3) := by decide +kernel
theorem dX0_init_36 : decode cX0_init 36 = .ok (.aload_n 0, 1) := by decide +kernel
theorem dX0_init_37 : decode cX0_init 37 = .ok (.bipush 10, 2) := by decide +kernel
theorem dX0_init_39 : decode cX0_init 39 = .ok (.newarray .int, 2) := by decide +kernel
theorem dX0_init_41 : decode cX0_init 41 = .ok (.putfield 24, 3) := by decide +kernel
theorem dX0_init_44 : decode cX0_init 44 = .ok (.aload_n 0, 1) := by decide +kernel
theorem dX0_init_45 : decode cX0_init 45 = .ok (.iconst 5, 1) := by decide +kernel
theorem dX0_init_46 : decode cX0_init 46 = .ok (.newarray .int, 2) := by decide +kernel
theorem dX0_init_48 : decode cX0_init 48 = .ok (.putfield 27, 3) := by decide +kernel
theorem dX0_init_51 : decode cX0_init 51 = .ok (.aload_n 0, 1) := by decide +kernel
theorem dX0_init_52 : decode cX0_init 52 = .ok (.sipush 300, 3) := by decide +kernel
theorem dX0_init_55 : decode cX0_init 55 = .ok (.newarray .int, 2) := by decide +kernel
theorem dX0_init_57 : decode cX0_init 57 = .ok (.putfield 30, 3) := by decide +kernel
theorem dX0_init_60 : decode cX0_init 60 = .ok (.aload_n 0, 1) := by decide +kernel
theorem dX0_init_61 : decode cX0_init 61 = .ok (.sipush 300, 3) := by decide +kernel
theorem dX0_init_64 : decode cX0_init 64 = .ok (.newarray .int, 2) := by decide +kernel
theorem dX0_init_66 : decode cX0_init 66 = .ok (.putfield 33, 3) := by decide +kernel
theorem dX0_init_69 : decode cX0_init 69 = .ok (.aload_n 0, 1) := by decide +kernel
theorem dX0_init_70 : decode cX0_init 70 = .ok (.sipush 300, 3) := by decide +kernel
theorem dX0_init_73 : decode cX0_init 73 = .ok (.newarray .int, 2) := by decide +kernel
theorem dX0_init_75 : decode cX0_init 75 = .ok (.putfield 36, 3) := by decide +kernel
theorem dX0_init_78 : decode cX0_init 78 = .ok (.return_, 1) := by decide +kernel
theorem dX0_open_0 : decode cX0_open 0 = .ok (.aload_n 0, 1) := by decide +kernel
theorem dX0_open_1 : decode cX0_open 1 = .ok (.aload_n 1, 1) := by decide +kernel
theorem dX0_open_2 : decode cX0_open 2 = .ok (.invokevirtual 39, 3) := by decide +kernel
theorem dX0_open_5 : decode cX0_open 5 = .ok (.putfield 45, 3) := by decide +kernel
theorem dX0_open_8 : decode cX0_open 8 = .ok (.aload_n 0, 1) := by decide +kernel
theorem dX0_open_9 : decode cX0_open 9 = .ok (.aload_n 1, 1) := by decide +kernel
theorem dX0_open_10 : decode cX0_open 10 = .ok (.invokevirtual 48, 3) := by decide +kernel
theorem dX0_open_13 : decode cX0_open 13 = .ok (.putfield 51, 3) := by decide +kernel
theorem dX0_open_16 : decode cX0_open 16 = .ok (.iconst 0, 1) := by decide +kernel
theorem dX0_open_17 : decode cX0_open 17 = .ok (.istore_n 2, 1) := by decide +kernel
theorem dX0_open_18 : decode cX0_open 18 = .ok (.iload_n 2, 1) := by decide +kernel
theorem dX0_open_19 : decode cX0_open 19 = .ok (.aload_n 0, 1) := by decide +kernel
theorem dX0_open_20 : decode cX0_open 20 = .ok (.getfield 51, 3) := by decide +kernel
theorem dX0_open_23 : decode cX0_open 23 = .ok (.if_icmp .ge 42, 3) := by decide +kernel
theorem dX0_open_26 : decode cX0_open 26 = .ok (.aload_n 0, 1) := by decide +kernel
theorem dX0_open_27 : decode cX0_open 27 = .ok (.getfield 9, 3) := by decide +kernel
theorem dX0_open_30 : decode cX0_open 30 = .ok (.iload_n 2, 1) := by decide +kernel
theorem dX0_open_31 : decode cX0_open 31 = .ok (.aload_n 1, 1) := by decide +kernel
theorem dX0_open_32 : decode cX0_open 32 = .ok (.iload_n 2, 1) := by decide +kernel
theorem dX0_open_33 : decode cX0_open 33 = .ok (.invokevirtual 53, 3) := by decide +kernel
theorem dX0_open_36 : decode cX0_open 36 = .ok (.iastore, 1) := by decide +kernel
theorem dX0_open_37 : decode cX0_open 37 = .ok (.aload_n 0, 1) := by decide +kernel
theorem dX0_open_38 : decode cX0_open 38 = .ok (.getfield 15, 3) := by decide +kernel
theorem dX0_open_41 : decode cX0_open 41 = .ok (.iload_n 2, 1) := by decide +kernel
theorem dX0_open_42 : decode cX0_open 42 = .ok (.aload_n 1, 1) := by decide +kernel
theorem dX0_open_43 : decode cX0_open 43 = .ok (.iload_n 2, 1) := by decide +kernel
theorem dX0_open_44 : decode cX0_open 44 = .ok (.invokevirtual 57, 3) := by decide +kernel
theorem dX0_open_47 : decode cX0_open 47 = .ok (.iastore, 1) := by decide +kernel
theorem dX0_open_48 : decode cX0_open 48 = .ok (.aload_n 0, 1) := by decide +kernel
theorem dX0_open_49 : decode cX0_open 49 = .ok (.getfield 18, 3) := by decide +kernel
theorem dX0_open_52 : decode cX0_open 52 = .ok (.iload_n 2, 1) := by decide +kernel
theorem dX0_open_53 : decode cX0_open 53 = .ok (.aload_n 1, 1) := by decide +kernel
theorem dX0_open_54 : decode cX0_open 54 = .ok (.iload_n 2, 1) := by decide +kernel
theorem dX0_open_55 : decode cX0_open 55 = .ok (.invokevirtual 60, 3) := by decide +kernel
theorem dX0_open_58 : decode cX0_open 58 = .ok (.iastore, 1) := by decide +kernel
theorem dX0_open_59 : decode cX0_open 59 = .ok (.iinc 2 1, 3) := by decide +kernel
theorem dX0_open_62 : decode cX0_open 62 = .ok (.goto (-44), 3) := by decide +kernel
theorem dX0_open_65 : decode cX0_open 65 = .ok (.aload_n 0, 1) := by decide +kernel
theorem dX0_open_66 : decode cX0_open 66 = .ok (.bipush 99, 2) := by decide +kernel
theorem dX0_open_68 : decode cX0_open 68 = .ok (.putfield 63, 3) := by decide +kernel
theorem dX0_open_71 : decode cX0_open 71 = .ok (.aload_n 0, 1) := by decide +kernel
theorem dX0_open_72 : decode cX0_open 72 = .ok (.aload_n 0, 1) := by decide +kernel
theorem dX0_open_73 : decode cX0_open 73 = .ok (.getfield 66, 3) := by decide +kernel
theorem dX0_open_76 : decode cX0_open 76 = .ok (.invokevirtual 69, 3) := by decide +kernel
theorem dX0_open_79 : decode cX0_open 79 = .ok (.return_, 1) := by decide +kernel
theorem dX0_isOpen_0 : decode cX0_isOpen 0 = .ok (.aload_n 0, 1) := by decide +kernel
theorem dX0_isOpen_1 : decode cX0_isOpen 1 = .ok (.getfield 45, 3) := by decide +kernel
theorem dX0_isOpen_4 : decode cX0_isOpen 4 = .ok (.ifCond .le 7, 3) := by decide +kernel
theorem dX0_isOpen_7 : decode cX0_isOpen 7 = .ok (.iconst 1, 1) := by decide +kernel
theorem dX0_isOpen_8 : decode cX0_isOpen 8 = .ok (.goto 4, 3) := by decide +kernel
theorem dX0_isOpen_11 : decode cX0_isOpen 11 = .ok (.iconst 0, 1) := by decide +kernel
theorem dX0_isOpen_12 : decode cX0_isOpen 12 = .ok (.ireturn, 1) := by decide +kernel
theorem dX0_hasGuest_0 : decode cX0_hasGuest 0 = .ok (.iload_n 1, 1) := by decide +kernel
theorem dX0_hasGuest_1 : decode cX0_hasGuest 1 = .ok (.ifCond .lt 15, 3) := by decide +kernel
theorem dX0_hasGuest_4 : decode cX0_hasGuest 4 = .ok (.iload_n 1, 1) := by decide +kernel
theorem dX0_hasGuest_5 : decode cX0_hasGuest 5 = .ok (.aload_n 0, 1) := by decide +kernel
theorem dX0_hasGuest_6 : decode cX0_hasGuest 6 = .ok (.getfield 45, 3) := by decide +kernel
theorem dX0_hasGuest_9 : decode cX0_hasGuest 9 = .ok (.if_icmp .ge 7, 3) := by decide +kernel
theorem dX0_hasGuest_12 : decode cX0_hasGuest 12 = .ok (.iconst 1, 1) := by decide +kernel
theorem dX0_hasGuest_13 : decode cX0_hasGuest 13 = .ok (.goto 4, 3) := by decide +kernel
theorem dX0_hasGuest_16 : decode cX0_hasGuest 16 = .ok (.iconst 0, 1) := by decide +kernel
theorem dX0_hasGuest_17 : decode cX0_hasGuest 17 = .ok (.ireturn, 1) := by decide +kernel
theorem dX0_hasTale_0 : decode cX0_hasTale 0 = .ok (.iload_n 1, 1) := by decide +kernel
theorem dX0_hasTale_1 : decode cX0_hasTale 1 = .ok (.ifCond .lt 15, 3) := by decide +kernel
theorem dX0_hasTale_4 : decode cX0_hasTale 4 = .ok (.iload_n 1, 1) := by decide +kernel
theorem dX0_hasTale_5 : decode cX0_hasTale 5 = .ok (.aload_n 0, 1) := by decide +kernel
theorem dX0_hasTale_6 : decode cX0_hasTale 6 = .ok (.getfield 51, 3) := by decide +kernel
theorem dX0_hasTale_9 : decode cX0_hasTale 9 = .ok (.if_icmp .ge 7, 3) := by decide +kernel
theorem dX0_hasTale_12 : decode cX0_hasTale 12 = .ok (.iconst 1, 1) := by decide +kernel
theorem dX0_hasTale_13 : decode cX0_hasTale 13 = .ok (.goto 4, 3) := by decide +kernel
theorem dX0_hasTale_16 : decode cX0_hasTale 16 = .ok (.iconst 0, 1) := by decide +kernel
theorem dX0_hasTale_17 : decode cX0_hasTale 17 = .ok (.ireturn, 1) := by decide +kernel
theorem dX0_hasNight_0 : decode cX0_hasNight 0 = .ok (.iload_n 1, 1) := by decide +kernel
theorem dX0_hasNight_1 : decode cX0_hasNight 1 = .ok (.ifCond .lt 15, 3) := by decide +kernel
theorem dX0_hasNight_4 : decode cX0_hasNight 4 = .ok (.iload_n 1, 1) := by decide +kernel
theorem dX0_hasNight_5 : decode cX0_hasNight 5 = .ok (.aload_n 0, 1) := by decide +kernel
theorem dX0_hasNight_6 : decode cX0_hasNight 6 = .ok (.getfield 66, 3) := by decide +kernel
theorem dX0_hasNight_9 : decode cX0_hasNight 9 = .ok (.if_icmp .ge 7, 3) := by decide +kernel
theorem dX0_hasNight_12 : decode cX0_hasNight 12 = .ok (.iconst 1, 1) := by decide +kernel
theorem dX0_hasNight_13 : decode cX0_hasNight 13 = .ok (.goto 4, 3) := by decide +kernel
theorem dX0_hasNight_16 : decode cX0_hasNight 16 = .ok (.iconst 0, 1) := by decide +kernel
theorem dX0_hasNight_17 : decode cX0_hasNight 17 = .ok (.ireturn, 1) := by decide +kernel
theorem dX0_mayBeTold_0 : decode cX0_mayBeTold 0 = .ok (.iload_n 2, 1) := by decide +kernel
theorem dX0_mayBeTold_1 : decode cX0_mayBeTold 1 = .ok (.ifCond .ne 5, 3) := by decide +kernel
theorem dX0_mayBeTold_4 : decode cX0_mayBeTold 4 = .ok (.iconst 1, 1) := by decide +kernel
theorem dX0_mayBeTold_5 : decode cX0_mayBeTold 5 = .ok (.ireturn, 1) := by decide +kernel
theorem dX0_mayBeTold_6 : decode cX0_mayBeTold 6 = .ok (.aload_n 0, 1) := by decide +kernel
theorem dX0_mayBeTold_7 : decode cX0_mayBeTold 7 = .ok (.getfield 9, 3) := by decide +kernel
theorem dX0_mayBeTold_10 : decode cX0_mayBeTold 10 = .ok (.iload_n 1, 1) := by decide +kernel
theorem dX0_mayBeTold_11 : decode cX0_mayBeTold 11 = .ok (.iaload, 1) := by decide +kernel
theorem dX0_mayBeTold_12 : decode cX0_mayBeTold 12 = .ok (.lookupswitch 44 #[(1, 28), (2, 42)], 28) := by decide +kernel
theorem dX0_mayBeTold_40 : decode cX0_mayBeTold 40 = .ok (.iload_n 3, 1) := by decide +kernel
theorem dX0_mayBeTold_41 : decode cX0_mayBeTold 41 = .ok (.iload 4, 2) := by decide +kernel
theorem dX0_mayBeTold_43 : decode cX0_mayBeTold 43 = .ok (.iconst 1, 1) := by decide +kernel
theorem dX0_mayBeTold_44 : decode cX0_mayBeTold 44 = .ok (.isub, 1) := by decide +kernel
theorem dX0_mayBeTold_45 : decode cX0_mayBeTold 45 = .ok (.if_icmp .eq 7, 3) := by decide +kernel
theorem dX0_mayBeTold_48 : decode cX0_mayBeTold 48 = .ok (.iconst 1, 1) := by decide +kernel
theorem dX0_mayBeTold_49 : decode cX0_mayBeTold 49 = .ok (.goto 4, 3) := by decide +kernel
theorem dX0_mayBeTold_52 : decode cX0_mayBeTold 52 = .ok (.iconst 0, 1) := by decide +kernel
theorem dX0_mayBeTold_53 : decode cX0_mayBeTold 53 = .ok (.ireturn, 1) := by decide +kernel
theorem dX0_mayBeTold_54 : decode cX0_mayBeTold 54 = .ok (.iconst 0, 1) := by decide +kernel
theorem dX0_mayBeTold_55 : decode cX0_mayBeTold 55 = .ok (.ireturn, 1) := by decide +kernel
theorem dX0_mayBeTold_56 : decode cX0_mayBeTold 56 = .ok (.iload 4, 2) := by decide +kernel
theorem dX0_mayBeTold_58 : decode cX0_mayBeTold 58 = .ok (.iload_n 3, 1) := by decide +kernel
theorem dX0_mayBeTold_59 : decode cX0_mayBeTold 59 = .ok (.iconst 1, 1) := by decide +kernel
theorem dX0_mayBeTold_60 : decode cX0_mayBeTold 60 = .ok (.iadd, 1) := by decide +kernel
theorem dX0_mayBeTold_61 : decode cX0_mayBeTold 61 = .ok (.aload_n 0, 1) := by decide +kernel
theorem dX0_mayBeTold_62 : decode cX0_mayBeTold 62 = .ok (.getfield 63, 3) := by decide +kernel
theorem dX0_mayBeTold_65 : decode cX0_mayBeTold 65 = .ok (.iadd, 1) := by decide +kernel
theorem dX0_mayBeTold_66 : decode cX0_mayBeTold 66 = .ok (.if_icmp .lt 7, 3) := by decide +kernel
theorem dX0_mayBeTold_69 : decode cX0_mayBeTold 69 = .ok (.iconst 1, 1) := by decide +kernel
theorem dX0_mayBeTold_70 : decode cX0_mayBeTold 70 = .ok (.goto 4, 3) := by decide +kernel
theorem dX0_mayBeTold_73 : decode cX0_mayBeTold 73 = .ok (.iconst 0, 1) := by decide +kernel
theorem dX0_mayBeTold_74 : decode cX0_mayBeTold 74 = .ok (.ireturn, 1) := by decide +kernel
theorem dX0_isTellable_0 : decode cX0_isTellable 0 = .ok (.aload_n 0, 1) := by decide +kernel
theorem dX0_isTellable_1 : decode cX0_isTellable 1 = .ok (.iload_n 1, 1) := by decide +kernel
theorem dX0_isTellable_2 : decode cX0_isTellable 2 = .ok (.aload_n 0, 1) := by decide +kernel
theorem dX0_isTellable_3 : decode cX0_isTellable 3 = .ok (.getfield 21, 3) := by decide +kernel
theorem dX0_isTellable_6 : decode cX0_isTellable 6 = .ok (.iload_n 1, 1) := by decide +kernel
theorem dX0_isTellable_7 : decode cX0_isTellable 7 = .ok (.iaload, 1) := by decide +kernel
theorem dX0_isTellable_8 : decode cX0_isTellable 8 = .ok (.aload_n 0, 1) := by decide +kernel
theorem dX0_isTellable_9 : decode cX0_isTellable 9 = .ok (.getfield 24, 3) := by decide +kernel
theorem dX0_isTellable_12 : decode cX0_isTellable 12 = .ok (.iload_n 1, 1) := by decide +kernel
theorem dX0_isTellable_13 : decode cX0_isTellable 13 = .ok (.iaload, 1) := by decide +kernel
theorem dX0_isTellable_14 : decode cX0_isTellable 14 = .ok (.aload_n 0, 1) := by decide +kernel
theorem dX0_isTellable_15 : decode cX0_isTellable 15 = .ok (.getfield 66, 3) := by decide +kernel
theorem dX0_isTellable_18 : decode cX0_isTellable 18 = .ok (.invokevirtual 73, 3) := by decide +kernel
theorem dX0_isTellable_21 : decode cX0_isTellable 21 = .ok (.ireturn, 1) := by decide +kernel
theorem dX0_tallWhenTold_0 : decode cX0_tallWhenTold 0 = .ok (.aload_n 0, 1) := by decide +kernel
theorem dX0_tallWhenTold_1 : decode cX0_tallWhenTold 1 = .ok (.getfield 9, 3) := by decide +kernel
theorem dX0_tallWhenTold_4 : decode cX0_tallWhenTold 4 = .ok (.iload_n 1, 1) := by decide +kernel
theorem dX0_tallWhenTold_5 : decode cX0_tallWhenTold 5 = .ok (.iaload, 1) := by decide +kernel
theorem dX0_tallWhenTold_6 : decode cX0_tallWhenTold 6 = .ok (.lookupswitch 49 #[(1, 26), (2, 38)], 26) := by decide +kernel
theorem dX0_tallWhenTold_32 : decode cX0_tallWhenTold 32 = .ok (.aload_n 0, 1) := by decide +kernel
theorem dX0_tallWhenTold_33 : decode cX0_tallWhenTold 33 = .ok (.getfield 18, 3) := by decide +kernel
theorem dX0_tallWhenTold_36 : decode cX0_tallWhenTold 36 = .ok (.iload_n 1, 1) := by decide +kernel
theorem dX0_tallWhenTold_37 : decode cX0_tallWhenTold 37 = .ok (.iaload, 1) := by decide +kernel
theorem dX0_tallWhenTold_38 : decode cX0_tallWhenTold 38 = .ok (.bipush 10, 2) := by decide +kernel
theorem dX0_tallWhenTold_40 : decode cX0_tallWhenTold 40 = .ok (.iload_n 2, 1) := by decide +kernel
theorem dX0_tallWhenTold_41 : decode cX0_tallWhenTold 41 = .ok (.imul, 1) := by decide +kernel
theorem dX0_tallWhenTold_42 : decode cX0_tallWhenTold 42 = .ok (.iadd, 1) := by decide +kernel
theorem dX0_tallWhenTold_43 : decode cX0_tallWhenTold 43 = .ok (.ireturn, 1) := by decide +kernel
theorem dX0_tallWhenTold_44 : decode cX0_tallWhenTold 44 = .ok (.aload_n 0, 1) := by decide +kernel
theorem dX0_tallWhenTold_45 : decode cX0_tallWhenTold 45 = .ok (.getfield 18, 3) := by decide +kernel
theorem dX0_tallWhenTold_48 : decode cX0_tallWhenTold 48 = .ok (.iload_n 1, 1) := by decide +kernel
theorem dX0_tallWhenTold_49 : decode cX0_tallWhenTold 49 = .ok (.iaload, 1) := by decide +kernel
theorem dX0_tallWhenTold_50 : decode cX0_tallWhenTold 50 = .ok (.sipush 900, 3) := by decide +kernel
theorem dX0_tallWhenTold_53 : decode cX0_tallWhenTold 53 = .ok (.iadd, 1) := by decide +kernel
theorem dX0_tallWhenTold_54 : decode cX0_tallWhenTold 54 = .ok (.ireturn, 1) := by decide +kernel
theorem dX0_tallWhenTold_55 : decode cX0_tallWhenTold 55 = .ok (.aload_n 0, 1) := by decide +kernel
theorem dX0_tallWhenTold_56 : decode cX0_tallWhenTold 56 = .ok (.getfield 18, 3) := by decide +kernel
theorem dX0_tallWhenTold_59 : decode cX0_tallWhenTold 59 = .ok (.iload_n 1, 1) := by decide +kernel
theorem dX0_tallWhenTold_60 : decode cX0_tallWhenTold 60 = .ok (.iaload, 1) := by decide +kernel
theorem dX0_tallWhenTold_61 : decode cX0_tallWhenTold 61 = .ok (.ireturn, 1) := by decide +kernel
theorem dX0_tallOf_0 : decode cX0_tallOf 0 = .ok (.aload_n 0, 1) := by decide +kernel
theorem dX0_tallOf_1 : decode cX0_tallOf 1 = .ok (.iload_n 1, 1) := by decide +kernel
theorem dX0_tallOf_2 : decode cX0_tallOf 2 = .ok (.aload_n 0, 1) := by decide +kernel
theorem dX0_tallOf_3 : decode cX0_tallOf 3 = .ok (.getfield 21, 3) := by decide +kernel
theorem dX0_tallOf_6 : decode cX0_tallOf 6 = .ok (.iload_n 1, 1) := by decide +kernel
theorem dX0_tallOf_7 : decode cX0_tallOf 7 = .ok (.iaload, 1) := by decide +kernel
theorem dX0_tallOf_8 : decode cX0_tallOf 8 = .ok (.invokevirtual 77, 3) := by decide +kernel
theorem dX0_tallOf_11 : decode cX0_tallOf 11 = .ok (.ireturn, 1) := by decide +kernel
theorem dX0_isOffered_0 : decode cX0_isOffered 0 = .ok (.aload_n 0, 1) := by decide +kernel
theorem dX0_isOffered_1 : decode cX0_isOffered 1 = .ok (.iload_n 2, 1) := by decide +kernel
theorem dX0_isOffered_2 : decode cX0_isOffered 2 = .ok (.invokevirtual 81, 3) := by decide +kernel
theorem dX0_isOffered_5 : decode cX0_isOffered 5 = .ok (.ifCond .ne 5, 3) := by decide +kernel
theorem dX0_isOffered_8 : decode cX0_isOffered 8 = .ok (.iconst 0, 1) := by decide +kernel
theorem dX0_isOffered_9 : decode cX0_isOffered 9 = .ok (.ireturn, 1) := by decide +kernel
theorem dX0_isOffered_10 : decode cX0_isOffered 10 = .ok (.aload_n 0, 1) := by decide +kernel
theorem dX0_isOffered_11 : decode cX0_isOffered 11 = .ok (.getfield 15, 3) := by decide +kernel
theorem dX0_isOffered_14 : decode cX0_isOffered 14 = .ok (.iload_n 2, 1) := by decide +kernel
theorem dX0_isOffered_15 : decode cX0_isOffered 15 = .ok (.iaload, 1) := by decide +kernel
theorem dX0_isOffered_16 : decode cX0_isOffered 16 = .ok (.istore 4, 2) := by decide +kernel
theorem dX0_isOffered_18 : decode cX0_isOffered 18 = .ok (.iload_n 3, 1) := by decide +kernel
theorem dX0_isOffered_19 : decode cX0_isOffered 19 = .ok (.ifCond .eq 28, 3) := by decide +kernel
theorem dX0_isOffered_22 : decode cX0_isOffered 22 = .ok (.iload 4, 2) := by decide +kernel
theorem dX0_isOffered_24 : decode cX0_isOffered 24 = .ok (.iload_n 1, 1) := by decide +kernel
theorem dX0_isOffered_25 : decode cX0_isOffered 25 = .ok (.if_icmp .eq 18, 3) := by decide +kernel
theorem dX0_isOffered_28 : decode cX0_isOffered 28 = .ok (.aload_n 0, 1) := by decide +kernel
theorem dX0_isOffered_29 : decode cX0_isOffered 29 = .ok (.getfield 27, 3) := by decide +kernel
theorem dX0_isOffered_32 : decode cX0_isOffered 32 = .ok (.iload 4, 2) := by decide +kernel
theorem dX0_isOffered_34 : decode cX0_isOffered 34 = .ok (.iaload, 1) := by decide +kernel
theorem dX0_isOffered_35 : decode cX0_isOffered 35 = .ok (.iload_n 2, 1) := by decide +kernel
theorem dX0_isOffered_36 : decode cX0_isOffered 36 = .ok (.if_icmp .eq 7, 3) := by decide +kernel
theorem dX0_isOffered_39 : decode cX0_isOffered 39 = .ok (.iconst 1, 1) := by decide +kernel
theorem dX0_isOffered_40 : decode cX0_isOffered 40 = .ok (.goto 18, 3) := by decide +kernel
theorem dX0_isOffered_43 : decode cX0_isOffered 43 = .ok (.iconst 0, 1) := by decide +kernel
theorem dX0_isOffered_44 : decode cX0_isOffered 44 = .ok (.goto 14, 3) := by decide +kernel
theorem dX0_isOffered_47 : decode cX0_isOffered 47 = .ok (.iload 4, 2) := by decide +kernel
theorem dX0_isOffered_49 : decode cX0_isOffered 49 = .ok (.iload_n 1, 1) := by decide +kernel
theorem dX0_isOffered_50 : decode cX0_isOffered 50 = .ok (.if_icmp .ne 7, 3) := by decide +kernel
theorem dX0_isOffered_53 : decode cX0_isOffered 53 = .ok (.iconst 1, 1) := by decide +kernel
theorem dX0_isOffered_54 : decode cX0_isOffered 54 = .ok (.goto 4, 3) := by decide +kernel
theorem dX0_isOffered_57 : decode cX0_isOffered 57 = .ok (.iconst 0, 1) := by decide +kernel
theorem dX0_isOffered_58 : decode cX0_isOffered 58 = .ok (.ireturn, 1) := by decide +kernel
theorem dX0_tallsAsChosen_0 : decode cX0_tallsAsChosen 0 = .ok (.aload_n 1, 1) := by decide +kernel
theorem dX0_tallsAsChosen_1 : decode cX0_tallsAsChosen 1 = .ok (.aload_n 0, 1) := by decide +kernel
theorem dX0_tallsAsChosen_2 : decode cX0_tallsAsChosen 2 = .ok (.getfield 45, 3) := by decide +kernel
theorem dX0_tallsAsChosen_5 : decode cX0_tallsAsChosen 5 = .ok (.putfield 85, 3) := by decide +kernel
theorem dX0_tallsAsChosen_8 : decode cX0_tallsAsChosen 8 = .ok (.iconst 0, 1) := by decide +kernel
theorem dX0_tallsAsChosen_9 : decode cX0_tallsAsChosen 9 = .ok (.istore_n 2, 1) := by decide +kernel
theorem dX0_tallsAsChosen_10 : decode cX0_tallsAsChosen 10 = .ok (.iload_n 2, 1) := by decide +kernel
theorem dX0_tallsAsChosen_11 : decode cX0_tallsAsChosen 11 = .ok (.aload_n 0, 1) := by decide +kernel
theorem dX0_tallsAsChosen_12 : decode cX0_tallsAsChosen 12 = .ok (.getfield 45, 3) := by decide +kernel
theorem dX0_tallsAsChosen_15 : decode cX0_tallsAsChosen 15 = .ok (.if_icmp .ge 42, 3) := by decide +kernel
theorem dX0_tallsAsChosen_18 : decode cX0_tallsAsChosen 18 = .ok (.aload_n 1, 1) := by decide +kernel
theorem dX0_tallsAsChosen_19 : decode cX0_tallsAsChosen 19 = .ok (.getfield 88, 3) := by decide +kernel
theorem dX0_tallsAsChosen_22 : decode cX0_tallsAsChosen 22 = .ok (.iload_n 2, 1) := by decide +kernel
theorem dX0_tallsAsChosen_23 : decode cX0_tallsAsChosen 23 = .ok (.aload_n 0, 1) := by decide +kernel
theorem dX0_tallsAsChosen_24 : decode cX0_tallsAsChosen 24 = .ok (.aload_n 0, 1) := by decide +kernel
theorem dX0_tallsAsChosen_25 : decode cX0_tallsAsChosen 25 = .ok (.getfield 27, 3) := by decide +kernel
theorem dX0_tallsAsChosen_28 : decode cX0_tallsAsChosen 28 = .ok (.iload_n 2, 1) := by decide +kernel
theorem dX0_tallsAsChosen_29 : decode cX0_tallsAsChosen 29 = .ok (.iaload, 1) := by decide +kernel
theorem dX0_tallsAsChosen_30 : decode cX0_tallsAsChosen 30 = .ok (.invokevirtual 91, 3) := by decide +kernel
theorem dX0_tallsAsChosen_33 : decode cX0_tallsAsChosen 33 = .ok (.ifCond .eq 16, 3) := by decide +kernel
theorem dX0_tallsAsChosen_36 : decode cX0_tallsAsChosen 36 = .ok (.aload_n 0, 1) := by decide +kernel
theorem dX0_tallsAsChosen_37 : decode cX0_tallsAsChosen 37 = .ok (.aload_n 0, 1) := by decide +kernel
theorem dX0_tallsAsChosen_38 : decode cX0_tallsAsChosen 38 = .ok (.getfield 27, 3) := by decide +kernel
theorem dX0_tallsAsChosen_41 : decode cX0_tallsAsChosen 41 = .ok (.iload_n 2, 1) := by decide +kernel
theorem dX0_tallsAsChosen_42 : decode cX0_tallsAsChosen 42 = .ok (.iaload, 1) := by decide +kernel
theorem dX0_tallsAsChosen_43 : decode cX0_tallsAsChosen 43 = .ok (.invokevirtual 94, 3) := by decide +kernel
theorem dX0_tallsAsChosen_46 : decode cX0_tallsAsChosen 46 = .ok (.goto 4, 3) := by decide +kernel
theorem dX0_tallsAsChosen_49 : decode cX0_tallsAsChosen 49 = .ok (.iconst 0, 1) := by decide +kernel
theorem dX0_tallsAsChosen_50 : decode cX0_tallsAsChosen 50 = .ok (.iastore, 1) := by decide +kernel
theorem dX0_tallsAsChosen_51 : decode cX0_tallsAsChosen 51 = .ok (.iinc 2 1, 3) := by decide +kernel
theorem dX0_tallsAsChosen_54 : decode cX0_tallsAsChosen 54 = .ok (.goto (-44), 3) := by decide +kernel
theorem dX0_tallsAsChosen_57 : decode cX0_tallsAsChosen 57 = .ok (.return_, 1) := by decide +kernel
theorem dX0_goBy_0 : decode cX0_goBy 0 = .ok (.bipush (-9), 2) := by decide +kernel
theorem dX0_goBy_2 : decode cX0_goBy 2 = .ok (.istore_n 2, 1) := by decide +kernel
theorem dX0_goBy_3 : decode cX0_goBy 3 = .ok (.iconst 0, 1) := by decide +kernel
theorem dX0_goBy_4 : decode cX0_goBy 4 = .ok (.istore_n 3, 1) := by decide +kernel
theorem dX0_goBy_5 : decode cX0_goBy 5 = .ok (.iload_n 3, 1) := by decide +kernel
theorem dX0_goBy_6 : decode cX0_goBy 6 = .ok (.aload_n 0, 1) := by decide +kernel
theorem dX0_goBy_7 : decode cX0_goBy 7 = .ok (.getfield 45, 3) := by decide +kernel
theorem dX0_goBy_10 : decode cX0_goBy 10 = .ok (.if_icmp .ge 75, 3) := by decide +kernel
theorem dX0_goBy_13 : decode cX0_goBy 13 = .ok (.aload_n 0, 1) := by decide +kernel
theorem dX0_goBy_14 : decode cX0_goBy 14 = .ok (.getfield 66, 3) := by decide +kernel
theorem dX0_goBy_17 : decode cX0_goBy 17 = .ok (.iconst 5, 1) := by decide +kernel
theorem dX0_goBy_18 : decode cX0_goBy 18 = .ok (.imul, 1) := by decide +kernel
theorem dX0_goBy_19 : decode cX0_goBy 19 = .ok (.iload_n 3, 1) := by decide +kernel
theorem dX0_goBy_20 : decode cX0_goBy 20 = .ok (.iadd, 1) := by decide +kernel
theorem dX0_goBy_21 : decode cX0_goBy 21 = .ok (.istore 4, 2) := by decide +kernel
theorem dX0_goBy_23 : decode cX0_goBy 23 = .ok (.aload_n 0, 1) := by decide +kernel
theorem dX0_goBy_24 : decode cX0_goBy 24 = .ok (.getfield 30, 3) := by decide +kernel
theorem dX0_goBy_27 : decode cX0_goBy 27 = .ok (.iload 4, 2) := by decide +kernel
theorem dX0_goBy_29 : decode cX0_goBy 29 = .ok (.aload_n 0, 1) := by decide +kernel
theorem dX0_goBy_30 : decode cX0_goBy 30 = .ok (.getfield 27, 3) := by decide +kernel
theorem dX0_goBy_33 : decode cX0_goBy 33 = .ok (.iload_n 3, 1) := by decide +kernel
theorem dX0_goBy_34 : decode cX0_goBy 34 = .ok (.iaload, 1) := by decide +kernel
theorem dX0_goBy_35 : decode cX0_goBy 35 = .ok (.iastore, 1) := by decide +kernel
theorem dX0_goBy_36 : decode cX0_goBy 36 = .ok (.aload_n 0, 1) := by decide +kernel
theorem dX0_goBy_37 : decode cX0_goBy 37 = .ok (.getfield 36, 3) := by decide +kernel
theorem dX0_goBy_40 : decode cX0_goBy 40 = .ok (.iload 4, 2) := by decide +kernel
theorem dX0_goBy_42 : decode cX0_goBy 42 = .ok (.aload_n 1, 1) := by decide +kernel
theorem dX0_goBy_43 : decode cX0_goBy 43 = .ok (.getfield 88, 3) := by decide +kernel
theorem dX0_goBy_46 : decode cX0_goBy 46 = .ok (.iload_n 3, 1) := by decide +kernel
theorem dX0_goBy_47 : decode cX0_goBy 47 = .ok (.iaload, 1) := by decide +kernel
theorem dX0_goBy_48 : decode cX0_goBy 48 = .ok (.iastore, 1) := by decide +kernel
theorem dX0_goBy_49 : decode cX0_goBy 49 = .ok (.aload_n 0, 1) := by decide +kernel
theorem dX0_goBy_50 : decode cX0_goBy 50 = .ok (.getfield 33, 3) := by decide +kernel
theorem dX0_goBy_53 : decode cX0_goBy 53 = .ok (.iload 4, 2) := by decide +kernel
theorem dX0_goBy_55 : decode cX0_goBy 55 = .ok (.aload_n 1, 1) := by decide +kernel
theorem dX0_goBy_56 : decode cX0_goBy 56 = .ok (.iload_n 3, 1) := by decide +kernel
theorem dX0_goBy_57 : decode cX0_goBy 57 = .ok (.aload_n 1, 1) := by decide +kernel
theorem dX0_goBy_58 : decode cX0_goBy 58 = .ok (.getfield 88, 3) := by decide +kernel
theorem dX0_goBy_61 : decode cX0_goBy 61 = .ok (.iload_n 3, 1) := by decide +kernel
theorem dX0_goBy_62 : decode cX0_goBy 62 = .ok (.iaload, 1) := by decide +kernel
theorem dX0_goBy_63 : decode cX0_goBy 63 = .ok (.invokevirtual 97, 3) := by decide +kernel
theorem dX0_goBy_66 : decode cX0_goBy 66 = .ok (.iastore, 1) := by decide +kernel
theorem dX0_goBy_67 : decode cX0_goBy 67 = .ok (.aload_n 0, 1) := by decide +kernel
theorem dX0_goBy_68 : decode cX0_goBy 68 = .ok (.getfield 33, 3) := by decide +kernel
theorem dX0_goBy_71 : decode cX0_goBy 71 = .ok (.iload 4, 2) := by decide +kernel
theorem dX0_goBy_73 : decode cX0_goBy 73 = .ok (.iaload, 1) := by decide +kernel
theorem dX0_goBy_74 : decode cX0_goBy 74 = .ok (.ifCond .ne 5, 3) := by decide +kernel
theorem dX0_goBy_77 : decode cX0_goBy 77 = .ok (.iload_n 3, 1) := by decide +kernel
theorem dX0_goBy_78 : decode cX0_goBy 78 = .ok (.istore_n 2, 1) := by decide +kernel
theorem dX0_goBy_79 : decode cX0_goBy 79 = .ok (.iinc 3 1, 3) := by decide +kernel
theorem dX0_goBy_82 : decode cX0_goBy 82 = .ok (.goto (-77), 3) := by decide +kernel
theorem dX0_goBy_85 : decode cX0_goBy 85 = .ok (.iconst 0, 1) := by decide +kernel
theorem dX0_goBy_86 : decode cX0_goBy 86 = .ok (.istore_n 3, 1) := by decide +kernel
theorem dX0_goBy_87 : decode cX0_goBy 87 = .ok (.iload_n 3, 1) := by decide +kernel
theorem dX0_goBy_88 : decode cX0_goBy 88 = .ok (.aload_n 0, 1) := by decide +kernel
theorem dX0_goBy_89 : decode cX0_goBy 89 = .ok (.getfield 45, 3) := by decide +kernel
theorem dX0_goBy_92 : decode cX0_goBy 92 = .ok (.if_icmp .ge 23, 3) := by decide +kernel
theorem dX0_goBy_95 : decode cX0_goBy 95 = .ok (.aload_n 0, 1) := by decide +kernel
theorem dX0_goBy_96 : decode cX0_goBy 96 = .ok (.aload_n 0, 1) := by decide +kernel
theorem dX0_goBy_97 : decode cX0_goBy 97 = .ok (.getfield 27, 3) := by decide +kernel
theorem dX0_goBy_100 : decode cX0_goBy 100 = .ok (.iload_n 3, 1) := by decide +kernel
theorem dX0_goBy_101 : decode cX0_goBy 101 = .ok (.iaload, 1) := by decide +kernel
theorem dX0_goBy_102 : decode cX0_goBy 102 = .ok (.aload_n 0, 1) := by decide +kernel
theorem dX0_goBy_103 : decode cX0_goBy 103 = .ok (.getfield 66, 3) := by decide +kernel
theorem dX0_goBy_106 : decode cX0_goBy 106 = .ok (.invokevirtual 100, 3) := by decide +kernel
theorem dX0_goBy_109 : decode cX0_goBy 109 = .ok (.iinc 3 1, 3) := by decide +kernel
theorem dX0_goBy_112 : decode cX0_goBy 112 = .ok (.goto (-25), 3) := by decide +kernel
theorem dX0_goBy_115 : decode cX0_goBy 115 = .ok (.aload_n 0, 1) := by decide +kernel
theorem dX0_goBy_116 : decode cX0_goBy 116 = .ok (.dup, 1) := by decide +kernel
theorem dX0_goBy_117 : decode cX0_goBy 117 = .ok (.getfield 66, 3) := by decide +kernel
theorem dX0_goBy_120 : decode cX0_goBy 120 = .ok (.iconst 1, 1) := by decide +kernel
theorem dX0_goBy_121 : decode cX0_goBy 121 = .ok (.iadd, 1) := by decide +kernel
theorem dX0_goBy_122 : decode cX0_goBy 122 = .ok (.putfield 66, 3) := by decide +kernel
theorem dX0_goBy_125 : decode cX0_goBy 125 = .ok (.aload_n 0, 1) := by decide +kernel
theorem dX0_goBy_126 : decode cX0_goBy 126 = .ok (.getfield 27, 3) := by decide +kernel
theorem dX0_goBy_129 : decode cX0_goBy 129 = .ok (.bipush (-9), 2) := by decide +kernel
theorem dX0_goBy_131 : decode cX0_goBy 131 = .ok (.invokestatic 104, 3) := by decide +kernel
theorem dX0_goBy_134 : decode cX0_goBy 134 = .ok (.iload_n 2, 1) := by decide +kernel
theorem dX0_goBy_135 : decode cX0_goBy 135 = .ok (.ireturn, 1) := by decide +kernel
theorem dX0_keepTold_0 : decode cX0_keepTold 0 = .ok (.aload_n 0, 1) := by decide +kernel
theorem dX0_keepTold_1 : decode cX0_keepTold 1 = .ok (.iload_n 1, 1) := by decide +kernel
theorem dX0_keepTold_2 : decode cX0_keepTold 2 = .ok (.invokevirtual 91, 3) := by decide +kernel
theorem dX0_keepTold_5 : decode cX0_keepTold 5 = .ok (.ifCond .ne 4, 3) := by decide +kernel
theorem dX0_keepTold_8 : decode cX0_keepTold 8 = .ok (.return_, 1) := by decide +kernel
theorem dX0_keepTold_9 : decode cX0_keepTold 9 = .ok (.aload_n 0, 1) := by decide +kernel
theorem dX0_keepTold_10 : decode cX0_keepTold 10 = .ok (.getfield 21, 3) := by decide +kernel
theorem dX0_keepTold_13 : decode cX0_keepTold 13 = .ok (.iload_n 1, 1) := by decide +kernel
theorem dX0_keepTold_14 : decode cX0_keepTold 14 = .ok (.dup2, 1) := by decide +kernel
theorem dX0_keepTold_15 : decode cX0_keepTold 15 = .ok (.iaload, 1) := by decide +kernel
theorem dX0_keepTold_16 : decode cX0_keepTold 16 = .ok (.iconst 1, 1) := by decide +kernel
theorem dX0_keepTold_17 : decode cX0_keepTold 17 = .ok (.iadd, 1) := by decide +kernel
theorem dX0_keepTold_18 : decode cX0_keepTold 18 = .ok (.iastore, 1) := by decide +kernel
theorem dX0_keepTold_19 : decode cX0_keepTold 19 = .ok (.aload_n 0, 1) := by decide +kernel
theorem dX0_keepTold_20 : decode cX0_keepTold 20 = .ok (.getfield 24, 3) := by decide +kernel
theorem dX0_keepTold_23 : decode cX0_keepTold 23 = .ok (.iload_n 1, 1) := by decide +kernel
theorem dX0_keepTold_24 : decode cX0_keepTold 24 = .ok (.iload_n 2, 1) := by decide +kernel
theorem dX0_keepTold_25 : decode cX0_keepTold 25 = .ok (.iastore, 1) := by decide +kernel
theorem dX0_keepTold_26 : decode cX0_keepTold 26 = .ok (.return_, 1) := by decide +kernel
theorem dX0_goBack_0 : decode cX0_goBack 0 = .ok (.aload_n 0, 1) := by decide +kernel
theorem dX0_goBack_1 : decode cX0_goBack 1 = .ok (.dup, 1) := by decide +kernel
theorem dX0_goBack_2 : decode cX0_goBack 2 = .ok (.getfield 66, 3) := by decide +kernel
theorem dX0_goBack_5 : decode cX0_goBack 5 = .ok (.iload_n 1, 1) := by decide +kernel
theorem dX0_goBack_6 : decode cX0_goBack 6 = .ok (.isub, 1) := by decide +kernel
theorem dX0_goBack_7 : decode cX0_goBack 7 = .ok (.putfield 66, 3) := by decide +kernel
theorem dX0_goBack_10 : decode cX0_goBack 10 = .ok (.aload_n 0, 1) := by decide +kernel
theorem dX0_goBack_11 : decode cX0_goBack 11 = .ok (.getfield 27, 3) := by decide +kernel
theorem dX0_goBack_14 : decode cX0_goBack 14 = .ok (.bipush (-9), 2) := by decide +kernel
theorem dX0_goBack_16 : decode cX0_goBack 16 = .ok (.invokestatic 104, 3) := by decide +kernel
theorem dX0_goBack_19 : decode cX0_goBack 19 = .ok (.aload_n 0, 1) := by decide +kernel
theorem dX0_goBack_20 : decode cX0_goBack 20 = .ok (.getfield 21, 3) := by decide +kernel
theorem dX0_goBack_23 : decode cX0_goBack 23 = .ok (.iconst 0, 1) := by decide +kernel
theorem dX0_goBack_24 : decode cX0_goBack 24 = .ok (.invokestatic 104, 3) := by decide +kernel
theorem dX0_goBack_27 : decode cX0_goBack 27 = .ok (.aload_n 0, 1) := by decide +kernel
theorem dX0_goBack_28 : decode cX0_goBack 28 = .ok (.getfield 24, 3) := by decide +kernel
theorem dX0_goBack_31 : decode cX0_goBack 31 = .ok (.bipush (-9), 2) := by decide +kernel
theorem dX0_goBack_33 : decode cX0_goBack 33 = .ok (.invokestatic 104, 3) := by decide +kernel
theorem dX0_goBack_36 : decode cX0_goBack 36 = .ok (.iconst 0, 1) := by decide +kernel
theorem dX0_goBack_37 : decode cX0_goBack 37 = .ok (.istore_n 2, 1) := by decide +kernel
theorem dX0_goBack_38 : decode cX0_goBack 38 = .ok (.iload_n 2, 1) := by decide +kernel
theorem dX0_goBack_39 : decode cX0_goBack 39 = .ok (.aload_n 0, 1) := by decide +kernel
theorem dX0_goBack_40 : decode cX0_goBack 40 = .ok (.getfield 66, 3) := by decide +kernel
theorem dX0_goBack_43 : decode cX0_goBack 43 = .ok (.if_icmp .ge 40, 3) := by decide +kernel
theorem dX0_goBack_46 : decode cX0_goBack 46 = .ok (.iconst 0, 1) := by decide +kernel
theorem dX0_goBack_47 : decode cX0_goBack 47 = .ok (.istore_n 3, 1) := by decide +kernel
theorem dX0_goBack_48 : decode cX0_goBack 48 = .ok (.iload_n 3, 1) := by decide +kernel
theorem dX0_goBack_49 : decode cX0_goBack 49 = .ok (.aload_n 0, 1) := by decide +kernel
theorem dX0_goBack_50 : decode cX0_goBack 50 = .ok (.getfield 45, 3) := by decide +kernel
theorem dX0_goBack_53 : decode cX0_goBack 53 = .ok (.if_icmp .ge 24, 3) := by decide +kernel
theorem dX0_goBack_56 : decode cX0_goBack 56 = .ok (.aload_n 0, 1) := by decide +kernel
theorem dX0_goBack_57 : decode cX0_goBack 57 = .ok (.aload_n 0, 1) := by decide +kernel
theorem dX0_goBack_58 : decode cX0_goBack 58 = .ok (.getfield 30, 3) := by decide +kernel
theorem dX0_goBack_61 : decode cX0_goBack 61 = .ok (.iload_n 2, 1) := by decide +kernel
theorem dX0_goBack_62 : decode cX0_goBack 62 = .ok (.iconst 5, 1) := by decide +kernel
theorem dX0_goBack_63 : decode cX0_goBack 63 = .ok (.imul, 1) := by decide +kernel
theorem dX0_goBack_64 : decode cX0_goBack 64 = .ok (.iload_n 3, 1) := by decide +kernel
theorem dX0_goBack_65 : decode cX0_goBack 65 = .ok (.iadd, 1) := by decide +kernel
theorem dX0_goBack_66 : decode cX0_goBack 66 = .ok (.iaload, 1) := by decide +kernel
theorem dX0_goBack_67 : decode cX0_goBack 67 = .ok (.iload_n 2, 1) := by decide +kernel
theorem dX0_goBack_68 : decode cX0_goBack 68 = .ok (.invokevirtual 100, 3) := by decide +kernel
theorem dX0_goBack_71 : decode cX0_goBack 71 = .ok (.iinc 3 1, 3) := by decide +kernel
theorem dX0_goBack_74 : decode cX0_goBack 74 = .ok (.goto (-26), 3) := by decide +kernel
theorem dX0_goBack_77 : decode cX0_goBack 77 = .ok (.iinc 2 1, 3) := by decide +kernel
theorem dX0_goBack_80 : decode cX0_goBack 80 = .ok (.goto (-42), 3) := by decide +kernel
theorem dX0_goBack_83 : decode cX0_goBack 83 = .ok (.return_, 1) := by decide +kernel
theorem dX0_nightsAt_0 : decode cX0_nightsAt 0 = .ok (.iconst 0, 1) := by decide +kernel
theorem dX0_nightsAt_1 : decode cX0_nightsAt 1 = .ok (.istore_n 3, 1) := by decide +kernel
theorem dX0_nightsAt_2 : decode cX0_nightsAt 2 = .ok (.iconst 0, 1) := by decide +kernel
theorem dX0_nightsAt_3 : decode cX0_nightsAt 3 = .ok (.istore 4, 2) := by decide +kernel
theorem dX0_nightsAt_5 : decode cX0_nightsAt 5 = .ok (.iload 4, 2) := by decide +kernel
theorem dX0_nightsAt_7 : decode cX0_nightsAt 7 = .ok (.aload_n 0, 1) := by decide +kernel
theorem dX0_nightsAt_8 : decode cX0_nightsAt 8 = .ok (.getfield 66, 3) := by decide +kernel
theorem dX0_nightsAt_11 : decode cX0_nightsAt 11 = .ok (.if_icmp .ge 27, 3) := by decide +kernel
theorem dX0_nightsAt_14 : decode cX0_nightsAt 14 = .ok (.aload_n 0, 1) := by decide +kernel
theorem dX0_nightsAt_15 : decode cX0_nightsAt 15 = .ok (.getfield 33, 3) := by decide +kernel
theorem dX0_nightsAt_18 : decode cX0_nightsAt 18 = .ok (.iload 4, 2) := by decide +kernel
theorem dX0_nightsAt_20 : decode cX0_nightsAt 20 = .ok (.iconst 5, 1) := by decide +kernel
theorem dX0_nightsAt_21 : decode cX0_nightsAt 21 = .ok (.imul, 1) := by decide +kernel
theorem dX0_nightsAt_22 : decode cX0_nightsAt 22 = .ok (.iload_n 1, 1) := by decide +kernel
theorem dX0_nightsAt_23 : decode cX0_nightsAt 23 = .ok (.iadd, 1) := by decide +kernel
theorem dX0_nightsAt_24 : decode cX0_nightsAt 24 = .ok (.iaload, 1) := by decide +kernel
theorem dX0_nightsAt_25 : decode cX0_nightsAt 25 = .ok (.iload_n 2, 1) := by decide +kernel
theorem dX0_nightsAt_26 : decode cX0_nightsAt 26 = .ok (.if_icmp .ne 6, 3) := by decide +kernel
theorem dX0_nightsAt_29 : decode cX0_nightsAt 29 = .ok (.iinc 3 1, 3) := by decide +kernel
theorem dX0_nightsAt_32 : decode cX0_nightsAt 32 = .ok (.iinc 4 1, 3) := by decide +kernel
theorem dX0_nightsAt_35 : decode cX0_nightsAt 35 = .ok (.goto (-30), 3) := by decide +kernel
theorem dX0_nightsAt_38 : decode cX0_nightsAt 38 = .ok (.iload_n 3, 1) := by decide +kernel
theorem dX0_nightsAt_39 : decode cX0_nightsAt 39 = .ok (.ireturn, 1) := by decide +kernel
theorem dX1_init_0 : decode cX1_init 0 = .ok (.aload_n 0, 1) := by decide +kernel
theorem dX1_init_1 : decode cX1_init 1 = .ok (.invokespecial 3, 3) := by decide +kernel
theorem dX1_init_4 : decode cX1_init 4 = .ok (.aload_n 0, 1) := by decide +kernel
theorem dX1_init_5 : decode cX1_init 5 = .ok (.iconst 5, 1) := by decide +kernel
theorem dX1_init_6 : decode cX1_init 6 = .ok (.newarray .int, 2) := by decide +kernel
theorem dX1_init_8 : decode cX1_init 8 = .ok (.putfield 9, 3) := by decide +kernel
theorem dX1_init_11 : decode cX1_init 11 = .ok (.aload_n 0, 1) := by decide +kernel
theorem dX1_init_12 : decode cX1_init 12 = .ok (.iconst 5, 1) := by decide +kernel
theorem dX1_init_13 : decode cX1_init 13 = .ok (.newarray .int, 2) := by decide +kernel
theorem dX1_init_15 : decode cX1_init 15 = .ok (.putfield 15, 3) := by decide +kernel
theorem dX1_init_18 : decode cX1_init 18 = .ok (.aload_n 0, 1) := by decide +kernel
theorem dX1_init_19 : decode cX1_init 19 = .ok (.aload_n 1, 1) := by decide +kernel
theorem dX1_init_20 : decode cX1_init 20 = .ok (.putfield 18, 3) := by decide +kernel
theorem dX1_init_23 : decode cX1_init 23 = .ok (.aload_n 0, 1) := by decide +kernel
theorem dX1_init_24 : decode cX1_init 24 = .ok (.aload_n 2, 1) := by decide +kernel
theorem dX1_init_25 : decode cX1_init 25 = .ok (.putfield 22, 3) := by decide +kernel
theorem dX1_init_28 : decode cX1_init 28 = .ok (.return_, 1) := by decide +kernel
theorem dX2_init_0 : decode cX2_init 0 = .ok (.aload_n 0, 1) := by decide +kernel
theorem dX2_init_1 : decode cX2_init 1 = .ok (.invokespecial 3, 3) := by decide +kernel
theorem dX2_init_4 : decode cX2_init 4 = .ok (.aload_n 0, 1) := by decide +kernel
theorem dX2_init_5 : decode cX2_init 5 = .ok (.sipush 240, 3) := by decide +kernel
theorem dX2_init_8 : decode cX2_init 8 = .ok (.newarray .int, 2) := by decide +kernel
theorem dX2_init_10 : decode cX2_init 10 = .ok (.putfield 9, 3) := by decide +kernel
theorem dX2_init_13 : decode cX2_init 13 = .ok (.aload_n 0, 1) := by decide +kernel
theorem dX2_init_14 : decode cX2_init 14 = .ok (.iconst 4, 1) := by decide +kernel
theorem dX2_init_15 : decode cX2_init 15 = .ok (.newarray .int, 2) := by decide +kernel
theorem dX2_init_17 : decode cX2_init 17 = .ok (.putfield 15, 3) := by decide +kernel
theorem dX2_init_20 : decode cX2_init 20 = .ok (.aload_n 0, 1) := by decide +kernel
theorem dX2_init_21 : decode cX2_init 21 = .ok (.iconst 4, 1) := by decide +kernel
theorem dX2_init_22 : decode cX2_init 22 = .ok (.newarray .int, 2) := by decide +kernel
theorem dX2_init_24 : decode cX2_init 24 = .ok (.putfield 18, 3) := by decide +kernel
theorem dX2_init_27 : decode cX2_init 27 = .ok (.aload_n 0, 1) := by decide +kernel
theorem dX2_init_28 : decode cX2_init 28 = .ok (.getfield 18, 3) := by decide +kernel
theorem dX2_init_31 : decode cX2_init 31 = .ok (.bipush (-9), 2) := by decide +kernel
theorem dX2_init_33 : decode cX2_init 33 = .ok (.invokestatic 21, 3) := by decide +kernel
theorem dX2_init_36 : decode cX2_init 36 = .ok (.return_, 1) := by decide +kernel
theorem dX2_hasRow_0 : decode cX2_hasRow 0 = .ok (.aload_n 0, 1) := by decide +kernel
theorem dX2_hasRow_1 : decode cX2_hasRow 1 = .ok (.getfield 18, 3) := by decide +kernel
theorem dX2_hasRow_4 : decode cX2_hasRow 4 = .ok (.iload_n 1, 1) := by decide +kernel
theorem dX2_hasRow_5 : decode cX2_hasRow 5 = .ok (.iaload, 1) := by decide +kernel
theorem dX2_hasRow_6 : decode cX2_hasRow 6 = .ok (.bipush (-9), 2) := by decide +kernel
theorem dX2_hasRow_8 : decode cX2_hasRow 8 = .ok (.if_icmp .eq 7, 3) := by decide +kernel
theorem dX2_hasRow_11 : decode cX2_hasRow 11 = .ok (.iconst 1, 1) := by decide +kernel
theorem dX2_hasRow_12 : decode cX2_hasRow 12 = .ok (.goto 4, 3) := by decide +kernel
theorem dX2_hasRow_15 : decode cX2_hasRow 15 = .ok (.iconst 0, 1) := by decide +kernel
theorem dX2_hasRow_16 : decode cX2_hasRow 16 = .ok (.ireturn, 1) := by decide +kernel
theorem dX2_hasCells_0 : decode cX2_hasCells 0 = .ok (.iload_n 2, 1) := by decide +kernel
theorem dX2_hasCells_1 : decode cX2_hasCells 1 = .ok (.ifCond .lt 33, 3) := by decide +kernel
theorem dX2_hasCells_4 : decode cX2_hasCells 4 = .ok (.iload_n 3, 1) := by decide +kernel
theorem dX2_hasCells_5 : decode cX2_hasCells 5 = .ok (.ifCond .lt 29, 3) := by decide +kernel
theorem dX2_hasCells_8 : decode cX2_hasCells 8 = .ok (.iload_n 3, 1) := by decide +kernel
theorem dX2_hasCells_9 : decode cX2_hasCells 9 = .ok (.aload_n 0, 1) := by decide +kernel
theorem dX2_hasCells_10 : decode cX2_hasCells 10 = .ok (.getfield 18, 3) := by decide +kernel
theorem dX2_hasCells_13 : decode cX2_hasCells 13 = .ok (.iload_n 1, 1) := by decide +kernel
theorem dX2_hasCells_14 : decode cX2_hasCells 14 = .ok (.iaload, 1) := by decide +kernel
theorem dX2_hasCells_15 : decode cX2_hasCells 15 = .ok (.if_icmp .gt 19, 3) := by decide +kernel
theorem dX2_hasCells_18 : decode cX2_hasCells 18 = .ok (.iload_n 2, 1) := by decide +kernel
theorem dX2_hasCells_19 : decode cX2_hasCells 19 = .ok (.aload_n 0, 1) := by decide +kernel
theorem dX2_hasCells_20 : decode cX2_hasCells 20 = .ok (.getfield 18, 3) := by decide +kernel
theorem dX2_hasCells_23 : decode cX2_hasCells 23 = .ok (.iload_n 1, 1) := by decide +kernel
theorem dX2_hasCells_24 : decode cX2_hasCells 24 = .ok (.iaload, 1) := by decide +kernel
theorem dX2_hasCells_25 : decode cX2_hasCells 25 = .ok (.iload_n 3, 1) := by decide +kernel
theorem dX2_hasCells_26 : decode cX2_hasCells 26 = .ok (.isub, 1) := by decide +kernel
theorem dX2_hasCells_27 : decode cX2_hasCells 27 = .ok (.if_icmp .gt 7, 3) := by decide +kernel
theorem dX2_hasCells_30 : decode cX2_hasCells 30 = .ok (.iconst 1, 1) := by decide +kernel
theorem dX2_hasCells_31 : decode cX2_hasCells 31 = .ok (.goto 4, 3) := by decide +kernel
theorem dX2_hasCells_34 : decode cX2_hasCells 34 = .ok (.iconst 0, 1) := by decide +kernel
theorem dX2_hasCells_35 : decode cX2_hasCells 35 = .ok (.ireturn, 1) := by decide +kernel
theorem dX2_faultOf_0 : decode cX2_faultOf 0 = .ok (.aload_n 0, 1) := by decide +kernel
theorem dX2_faultOf_1 : decode cX2_faultOf 1 = .ok (.iload_n 1, 1) := by decide +kernel
theorem dX2_faultOf_2 : decode cX2_faultOf 2 = .ok (.invokevirtual 27, 3) := by decide +kernel
theorem dX2_faultOf_5 : decode cX2_faultOf 5 = .ok (.ifCond .ne 5, 3) := by decide +kernel
theorem dX2_faultOf_8 : decode cX2_faultOf 8 = .ok (.iconst 1, 1) := by decide +kernel
theorem dX2_faultOf_9 : decode cX2_faultOf 9 = .ok (.ireturn, 1) := by decide +kernel
theorem dX2_faultOf_10 : decode cX2_faultOf 10 = .ok (.aload_n 0, 1) := by decide +kernel
theorem dX2_faultOf_11 : decode cX2_faultOf 11 = .ok (.getfield 15, 3) := by decide +kernel
theorem dX2_faultOf_14 : decode cX2_faultOf 14 = .ok (.iload_n 1, 1) := by decide +kernel
theorem dX2_faultOf_15 : decode cX2_faultOf 15 = .ok (.iaload, 1) := by decide +kernel
theorem dX2_faultOf_16 : decode cX2_faultOf 16 = .ok (.iload_n 2, 1) := by decide +kernel
theorem dX2_faultOf_17 : decode cX2_faultOf 17 = .ok (.if_icmp .eq 5, 3) := by decide +kernel
theorem dX2_faultOf_20 : decode cX2_faultOf 20 = .ok (.iconst 2, 1) := by decide +kernel
theorem dX2_faultOf_21 : decode cX2_faultOf 21 = .ok (.ireturn, 1) := by decide +kernel
theorem dX2_faultOf_22 : decode cX2_faultOf 22 = .ok (.iload 4, 2) := by decide +kernel
theorem dX2_faultOf_24 : decode cX2_faultOf 24 = .ok (.ifCond .ge 5, 3) := by decide +kernel
theorem dX2_faultOf_27 : decode cX2_faultOf 27 = .ok (.iconst 4, 1) := by decide +kernel
theorem dX2_faultOf_28 : decode cX2_faultOf 28 = .ok (.ireturn, 1) := by decide +kernel
theorem dX2_faultOf_29 : decode cX2_faultOf 29 = .ok (.aload_n 0, 1) := by decide +kernel
theorem dX2_faultOf_30 : decode cX2_faultOf 30 = .ok (.iload_n 1, 1) := by decide +kernel
theorem dX2_faultOf_31 : decode cX2_faultOf 31 = .ok (.iload_n 3, 1) := by decide +kernel
theorem dX2_faultOf_32 : decode cX2_faultOf 32 = .ok (.iload 4, 2) := by decide +kernel
theorem dX2_faultOf_34 : decode cX2_faultOf 34 = .ok (.invokevirtual 31, 3) := by decide +kernel
theorem dX2_faultOf_37 : decode cX2_faultOf 37 = .ok (.ifCond .eq 7, 3) := by decide +kernel
theorem dX2_faultOf_40 : decode cX2_faultOf 40 = .ok (.iconst 0, 1) := by decide +kernel
theorem dX2_faultOf_41 : decode cX2_faultOf 41 = .ok (.goto 4, 3) := by decide +kernel
theorem dX2_faultOf_44 : decode cX2_faultOf 44 = .ok (.iconst 3, 1) := by decide +kernel
theorem dX2_faultOf_45 : decode cX2_faultOf 45 = .ok (.ireturn, 1) := by decide +kernel
theorem dX2_makeRow_0 : decode cX2_makeRow 0 = .ok (.aload_n 0, 1) := by decide +kernel
theorem dX2_makeRow_1 : decode cX2_makeRow 1 = .ok (.getfield 15, 3) := by decide +kernel
theorem dX2_makeRow_4 : decode cX2_makeRow 4 = .ok (.iload_n 1, 1) := by decide +kernel
theorem dX2_makeRow_5 : decode cX2_makeRow 5 = .ok (.iload_n 2, 1) := by decide +kernel
theorem dX2_makeRow_6 : decode cX2_makeRow 6 = .ok (.iastore, 1) := by decide +kernel
theorem dX2_makeRow_7 : decode cX2_makeRow 7 = .ok (.aload_n 0, 1) := by decide +kernel
theorem dX2_makeRow_8 : decode cX2_makeRow 8 = .ok (.getfield 18, 3) := by decide +kernel
theorem dX2_makeRow_11 : decode cX2_makeRow 11 = .ok (.iload_n 1, 1) := by decide +kernel
theorem dX2_makeRow_12 : decode cX2_makeRow 12 = .ok (.iload_n 3, 1) := by decide +kernel
theorem dX2_makeRow_13 : decode cX2_makeRow 13 = .ok (.iastore, 1) := by decide +kernel
theorem dX2_makeRow_14 : decode cX2_makeRow 14 = .ok (.aload_n 0, 1) := by decide +kernel
theorem dX2_makeRow_15 : decode cX2_makeRow 15 = .ok (.getfield 9, 3) := by decide +kernel
theorem dX2_makeRow_18 : decode cX2_makeRow 18 = .ok (.iload_n 1, 1) := by decide +kernel
theorem dX2_makeRow_19 : decode cX2_makeRow 19 = .ok (.bipush 60, 2) := by decide +kernel
theorem dX2_makeRow_21 : decode cX2_makeRow 21 = .ok (.imul, 1) := by decide +kernel
theorem dX2_makeRow_22 : decode cX2_makeRow 22 = .ok (.iload_n 1, 1) := by decide +kernel
theorem dX2_makeRow_23 : decode cX2_makeRow 23 = .ok (.bipush 60, 2) := by decide +kernel
theorem dX2_makeRow_25 : decode cX2_makeRow 25 = .ok (.imul, 1) := by decide +kernel
theorem dX2_makeRow_26 : decode cX2_makeRow 26 = .ok (.iload_n 3, 1) := by decide +kernel
theorem dX2_makeRow_27 : decode cX2_makeRow 27 = .ok (.iadd, 1) := by decide +kernel
theorem dX2_makeRow_28 : decode cX2_makeRow 28 = .ok (.iconst 0, 1) := by decide +kernel
theorem dX2_makeRow_29 : decode cX2_makeRow 29 = .ok (.invokestatic 35, 3) := by decide +kernel
theorem dX2_makeRow_32 : decode cX2_makeRow 32 = .ok (.return_, 1) := by decide +kernel
theorem dX2_write_0 : decode cX2_write 0 = .ok (.iload_n 3, 1) := by decide +kernel
theorem dX2_write_1 : decode cX2_write 1 = .ok (.istore 4, 2) := by decide +kernel
theorem dX2_write_3 : decode cX2_write 3 = .ok (.aload_n 0, 1) := by decide +kernel
theorem dX2_write_4 : decode cX2_write 4 = .ok (.getfield 15, 3) := by decide +kernel
theorem dX2_write_7 : decode cX2_write 7 = .ok (.iload_n 1, 1) := by decide +kernel
theorem dX2_write_8 : decode cX2_write 8 = .ok (.iaload, 1) := by decide +kernel
theorem dX2_write_9 : decode cX2_write 9 = .ok (.ifCond .ne 7, 3) := by decide +kernel
theorem dX2_write_12 : decode cX2_write 12 = .ok (.iload_n 3, 1) := by decide +kernel
theorem dX2_write_13 : decode cX2_write 13 = .ok (.i2b, 1) := by decide +kernel
theorem dX2_write_14 : decode cX2_write 14 = .ok (.istore 4, 2) := by decide +kernel
theorem dX2_write_16 : decode cX2_write 16 = .ok (.aload_n 0, 1) := by decide +kernel
theorem dX2_write_17 : decode cX2_write 17 = .ok (.getfield 15, 3) := by decide +kernel
theorem dX2_write_20 : decode cX2_write 20 = .ok (.iload_n 1, 1) := by decide +kernel
theorem dX2_write_21 : decode cX2_write 21 = .ok (.iaload, 1) := by decide +kernel
theorem dX2_write_22 : decode cX2_write 22 = .ok (.iconst 1, 1) := by decide +kernel
theorem dX2_write_23 : decode cX2_write 23 = .ok (.if_icmp .ne 7, 3) := by decide +kernel
theorem dX2_write_26 : decode cX2_write 26 = .ok (.iload_n 3, 1) := by decide +kernel
theorem dX2_write_27 : decode cX2_write 27 = .ok (.i2s, 1) := by decide +kernel
theorem dX2_write_28 : decode cX2_write 28 = .ok (.istore 4, 2) := by decide +kernel
theorem dX2_write_30 : decode cX2_write 30 = .ok (.aload_n 0, 1) := by decide +kernel
theorem dX2_write_31 : decode cX2_write 31 = .ok (.getfield 9, 3) := by decide +kernel
theorem dX2_write_34 : decode cX2_write 34 = .ok (.iload_n 1, 1) := by decide +kernel
theorem dX2_write_35 : decode cX2_write 35 = .ok (.bipush 60, 2) := by decide +kernel
theorem dX2_write_37 : decode cX2_write 37 = .ok (.imul, 1) := by decide +kernel
theorem dX2_write_38 : decode cX2_write 38 = .ok (.iload_n 2, 1) := by decide +kernel
theorem dX2_write_39 : decode cX2_write 39 = .ok (.iadd, 1) := by decide +kernel
theorem dX2_write_40 : decode cX2_write 40 = .ok (.iload 4, 2) := by decide +kernel
theorem dX2_write_42 : decode cX2_write 42 = .ok (.iastore, 1) := by decide +kernel
theorem dX2_write_43 : decode cX2_write 43 = .ok (.return_, 1) := by decide +kernel
theorem dX2_take_0 : decode cX2_take 0 = .ok (.aload_n 0, 1) := by decide +kernel
theorem dX2_take_1 : decode cX2_take 1 = .ok (.getfield 9, 3) := by decide +kernel
theorem dX2_take_4 : decode cX2_take 4 = .ok (.iload_n 1, 1) := by decide +kernel
theorem dX2_take_5 : decode cX2_take 5 = .ok (.bipush 60, 2) := by decide +kernel
theorem dX2_take_7 : decode cX2_take 7 = .ok (.imul, 1) := by decide +kernel
theorem dX2_take_8 : decode cX2_take 8 = .ok (.iload_n 2, 1) := by decide +kernel
theorem dX2_take_9 : decode cX2_take 9 = .ok (.iadd, 1) := by decide +kernel
theorem dX2_take_10 : decode cX2_take 10 = .ok (.aload 4, 2) := by decide +kernel
theorem dX2_take_12 : decode cX2_take 12 = .ok (.iconst 0, 1) := by decide +kernel
theorem dX2_take_13 : decode cX2_take 13 = .ok (.iload_n 3, 1) := by decide +kernel
theorem dX2_take_14 : decode cX2_take 14 = .ok (.invokestatic 38, 3) := by decide +kernel
theorem dX2_take_17 : decode cX2_take 17 = .ok (.return_, 1) := by decide +kernel
theorem dX3_init_0 : decode cX3_init 0 = .ok (.aload_n 0, 1) := by decide +kernel
theorem dX3_init_1 : decode cX3_init 1 = .ok (.invokespecial 3, 3) := by decide +kernel
theorem dX3_init_4 : decode cX3_init 4 = .ok (.aload_n 0, 1) := by decide +kernel
theorem dX3_init_5 : decode cX3_init 5 = .ok (.iconst 5, 1) := by decide +kernel
theorem dX3_init_6 : decode cX3_init 6 = .ok (.newarray .int, 2) := by decide +kernel
theorem dX3_init_8 : decode cX3_init 8 = .ok (.putfield 9, 3) := by decide +kernel
theorem dX3_init_11 : decode cX3_init 11 = .ok (.return_, 1) := by decide +kernel
theorem dX3_placeOf_0 : decode cX3_placeOf 0 = .ok (.iconst 0, 1) := by decide +kernel
theorem dX3_placeOf_1 : decode cX3_placeOf 1 = .ok (.istore_n 3, 1) := by decide +kernel
theorem dX3_placeOf_2 : decode cX3_placeOf 2 = .ok (.iconst 0, 1) := by decide +kernel
theorem dX3_placeOf_3 : decode cX3_placeOf 3 = .ok (.istore 4, 2) := by decide +kernel
theorem dX3_placeOf_5 : decode cX3_placeOf 5 = .ok (.iload 4, 2) := by decide +kernel
theorem dX3_placeOf_7 : decode cX3_placeOf 7 = .ok (.aload_n 0, 1) := by decide +kernel
theorem dX3_placeOf_8 : decode cX3_placeOf 8 = .ok (.getfield 15, 3) := by decide +kernel
theorem dX3_placeOf_11 : decode cX3_placeOf 11 = .ok (.if_icmp .ge 49, 3) := by decide +kernel
theorem dX3_placeOf_14 : decode cX3_placeOf 14 = .ok (.iload 4, 2) := by decide +kernel
theorem dX3_placeOf_16 : decode cX3_placeOf 16 = .ok (.iload_n 1, 1) := by decide +kernel
theorem dX3_placeOf_17 : decode cX3_placeOf 17 = .ok (.if_icmp .ne 6, 3) := by decide +kernel
theorem dX3_placeOf_20 : decode cX3_placeOf 20 = .ok (.goto 34, 3) := by decide +kernel
theorem dX3_placeOf_23 : decode cX3_placeOf 23 = .ok (.aload_n 0, 1) := by decide +kernel
theorem dX3_placeOf_24 : decode cX3_placeOf 24 = .ok (.getfield 9, 3) := by decide +kernel
theorem dX3_placeOf_27 : decode cX3_placeOf 27 = .ok (.iload 4, 2) := by decide +kernel
theorem dX3_placeOf_29 : decode cX3_placeOf 29 = .ok (.iaload, 1) := by decide +kernel
theorem dX3_placeOf_30 : decode cX3_placeOf 30 = .ok (.iload_n 2, 1) := by decide +kernel
theorem dX3_placeOf_31 : decode cX3_placeOf 31 = .ok (.if_icmp .gt 20, 3) := by decide +kernel
theorem dX3_placeOf_34 : decode cX3_placeOf 34 = .ok (.aload_n 0, 1) := by decide +kernel
theorem dX3_placeOf_35 : decode cX3_placeOf 35 = .ok (.getfield 9, 3) := by decide +kernel
theorem dX3_placeOf_38 : decode cX3_placeOf 38 = .ok (.iload 4, 2) := by decide +kernel
theorem dX3_placeOf_40 : decode cX3_placeOf 40 = .ok (.iaload, 1) := by decide +kernel
theorem dX3_placeOf_41 : decode cX3_placeOf 41 = .ok (.iload_n 2, 1) := by decide +kernel
theorem dX3_placeOf_42 : decode cX3_placeOf 42 = .ok (.if_icmp .ne 12, 3) := by decide +kernel
theorem dX3_placeOf_45 : decode cX3_placeOf 45 = .ok (.iload 4, 2) := by decide +kernel
theorem dX3_placeOf_47 : decode cX3_placeOf 47 = .ok (.iload_n 1, 1) := by decide +kernel
theorem dX3_placeOf_48 : decode cX3_placeOf 48 = .ok (.if_icmp .ge 6, 3) := by decide +kernel
theorem dX3_placeOf_51 : decode cX3_placeOf 51 = .ok (.iinc 3 1, 3) := by decide +kernel
theorem dX3_placeOf_54 : decode cX3_placeOf 54 = .ok (.iinc 4 1, 3) := by decide +kernel
theorem dX3_placeOf_57 : decode cX3_placeOf 57 = .ok (.goto (-52), 3) := by decide +kernel
theorem dX3_placeOf_60 : decode cX3_placeOf 60 = .ok (.iload_n 3, 1) := by decide +kernel
theorem dX3_placeOf_61 : decode cX3_placeOf 61 = .ok (.ireturn, 1) := by decide +kernel
theorem dX3_needOf_0 : decode cX3_needOf 0 = .ok (.iconst 1, 1) := by decide +kernel
theorem dX3_needOf_1 : decode cX3_needOf 1 = .ok (.istore_n 2, 1) := by decide +kernel
theorem dX3_needOf_2 : decode cX3_needOf 2 = .ok (.iconst 0, 1) := by decide +kernel
theorem dX3_needOf_3 : decode cX3_needOf 3 = .ok (.istore_n 3, 1) := by decide +kernel
theorem dX3_needOf_4 : decode cX3_needOf 4 = .ok (.iload_n 3, 1) := by decide +kernel
theorem dX3_needOf_5 : decode cX3_needOf 5 = .ok (.aload_n 0, 1) := by decide +kernel
theorem dX3_needOf_6 : decode cX3_needOf 6 = .ok (.getfield 15, 3) := by decide +kernel
theorem dX3_needOf_9 : decode cX3_needOf 9 = .ok (.if_icmp .ge 44, 3) := by decide +kernel
theorem dX3_needOf_12 : decode cX3_needOf 12 = .ok (.iload_n 3, 1) := by decide +kernel
theorem dX3_needOf_13 : decode cX3_needOf 13 = .ok (.iload_n 1, 1) := by decide +kernel
theorem dX3_needOf_14 : decode cX3_needOf 14 = .ok (.if_icmp .ne 6, 3) := by decide +kernel
theorem dX3_needOf_17 : decode cX3_needOf 17 = .ok (.goto 30, 3) := by decide +kernel
theorem dX3_needOf_20 : decode cX3_needOf 20 = .ok (.iload_n 2, 1) := by decide +kernel
theorem dX3_needOf_21 : decode cX3_needOf 21 = .ok (.iload_n 3, 1) := by decide +kernel
theorem dX3_needOf_22 : decode cX3_needOf 22 = .ok (.iload_n 1, 1) := by decide +kernel
theorem dX3_needOf_23 : decode cX3_needOf 23 = .ok (.if_icmp .ge 14, 3) := by decide +kernel
theorem dX3_needOf_26 : decode cX3_needOf 26 = .ok (.aload_n 0, 1) := by decide +kernel
theorem dX3_needOf_27 : decode cX3_needOf 27 = .ok (.getfield 9, 3) := by decide +kernel
theorem dX3_needOf_30 : decode cX3_needOf 30 = .ok (.iload_n 3, 1) := by decide +kernel
theorem dX3_needOf_31 : decode cX3_needOf 31 = .ok (.iaload, 1) := by decide +kernel
theorem dX3_needOf_32 : decode cX3_needOf 32 = .ok (.iconst 1, 1) := by decide +kernel
theorem dX3_needOf_33 : decode cX3_needOf 33 = .ok (.iadd, 1) := by decide +kernel
theorem dX3_needOf_34 : decode cX3_needOf 34 = .ok (.goto 9, 3) := by decide +kernel
theorem dX3_needOf_37 : decode cX3_needOf 37 = .ok (.aload_n 0, 1) := by decide +kernel
theorem dX3_needOf_38 : decode cX3_needOf 38 = .ok (.getfield 9, 3) := by decide +kernel
theorem dX3_needOf_41 : decode cX3_needOf 41 = .ok (.iload_n 3, 1) := by decide +kernel
theorem dX3_needOf_42 : decode cX3_needOf 42 = .ok (.iaload, 1) := by decide +kernel
theorem dX3_needOf_43 : decode cX3_needOf 43 = .ok (.invokestatic 19, 3) := by decide +kernel
theorem dX3_needOf_46 : decode cX3_needOf 46 = .ok (.istore_n 2, 1) := by decide +kernel
theorem dX3_needOf_47 : decode cX3_needOf 47 = .ok (.iinc 3 1, 3) := by decide +kernel
theorem dX3_needOf_50 : decode cX3_needOf 50 = .ok (.goto (-46), 3) := by decide +kernel
theorem dX3_needOf_53 : decode cX3_needOf 53 = .ok (.iload_n 2, 1) := by decide +kernel
theorem dX3_needOf_54 : decode cX3_needOf 54 = .ok (.ireturn, 1) := by decide +kernel
theorem dX3_noLessThan_0 : decode cX3_noLessThan 0 = .ok (.iconst 0, 1) := by decide +kernel
theorem dX3_noLessThan_1 : decode cX3_noLessThan 1 = .ok (.istore_n 2, 1) := by decide +kernel
theorem dX3_noLessThan_2 : decode cX3_noLessThan 2 = .ok (.iconst 0, 1) := by decide +kernel
theorem dX3_noLessThan_3 : decode cX3_noLessThan 3 = .ok (.istore_n 3, 1) := by decide +kernel
theorem dX3_noLessThan_4 : decode cX3_noLessThan 4 = .ok (.iload_n 3, 1) := by decide +kernel
theorem dX3_noLessThan_5 : decode cX3_noLessThan 5 = .ok (.aload_n 0, 1) := by decide +kernel
theorem dX3_noLessThan_6 : decode cX3_noLessThan 6 = .ok (.getfield 15, 3) := by decide +kernel
theorem dX3_noLessThan_9 : decode cX3_noLessThan 9 = .ok (.if_icmp .ge 31, 3) := by decide +kernel
theorem dX3_noLessThan_12 : decode cX3_noLessThan 12 = .ok (.aload_n 0, 1) := by decide +kernel
theorem dX3_noLessThan_13 : decode cX3_noLessThan 13 = .ok (.getfield 9, 3) := by decide +kernel
theorem dX3_noLessThan_16 : decode cX3_noLessThan 16 = .ok (.iload_n 3, 1) := by decide +kernel
theorem dX3_noLessThan_17 : decode cX3_noLessThan 17 = .ok (.iaload, 1) := by decide +kernel
theorem dX3_noLessThan_18 : decode cX3_noLessThan 18 = .ok (.ifCond .le 16, 3) := by decide +kernel
theorem dX3_noLessThan_21 : decode cX3_noLessThan 21 = .ok (.aload_n 0, 1) := by decide +kernel
theorem dX3_noLessThan_22 : decode cX3_noLessThan 22 = .ok (.getfield 9, 3) := by decide +kernel
theorem dX3_noLessThan_25 : decode cX3_noLessThan 25 = .ok (.iload_n 3, 1) := by decide +kernel
theorem dX3_noLessThan_26 : decode cX3_noLessThan 26 = .ok (.iaload, 1) := by decide +kernel
theorem dX3_noLessThan_27 : decode cX3_noLessThan 27 = .ok (.iload_n 1, 1) := by decide +kernel
theorem dX3_noLessThan_28 : decode cX3_noLessThan 28 = .ok (.if_icmp .lt 6, 3) := by decide +kernel
theorem dX3_noLessThan_31 : decode cX3_noLessThan 31 = .ok (.iinc 2 1, 3) := by decide +kernel
theorem dX3_noLessThan_34 : decode cX3_noLessThan 34 = .ok (.iinc 3 1, 3) := by decide +kernel
theorem dX3_noLessThan_37 : decode cX3_noLessThan 37 = .ok (.goto (-33), 3) := by decide +kernel
theorem dX3_noLessThan_40 : decode cX3_noLessThan 40 = .ok (.iload_n 2, 1) := by decide +kernel
theorem dX3_noLessThan_41 : decode cX3_noLessThan 41 = .ok (.ireturn, 1) := by decide +kernel
theorem dX4_init_0 : decode cX4_init 0 = .ok (.aload_n 0, 1) := by decide +kernel
theorem dX4_init_1 : decode cX4_init 1 = .ok (.invokespecial 3, 3) := by decide +kernel
theorem dX4_init_4 : decode cX4_init 4 = .ok (.aload_n 0, 1) := by decide +kernel
theorem dX4_init_5 : decode cX4_init 5 = .ok (.bipush 60, 2) := by decide +kernel
theorem dX4_init_7 : decode cX4_init 7 = .ok (.newarray .int, 2) := by decide +kernel
theorem dX4_init_9 : decode cX4_init 9 = .ok (.putfield 9, 3) := by decide +kernel
theorem dX4_init_12 : decode cX4_init 12 = .ok (.return_, 1) := by decide +kernel
theorem dX4_firstFault_0 : decode cX4_firstFault 0 = .ok (.iconst 0, 1) := by decide +kernel
theorem dX4_firstFault_1 : decode cX4_firstFault 1 = .ok (.istore_n 1, 1) := by decide +kernel
theorem dX4_firstFault_2 : decode cX4_firstFault 2 = .ok (.iload_n 1, 1) := by decide +kernel
theorem dX4_firstFault_3 : decode cX4_firstFault 3 = .ok (.aload_n 0, 1) := by decide +kernel
theorem dX4_firstFault_4 : decode cX4_firstFault 4 = .ok (.getfield 15, 3) := by decide +kernel
theorem dX4_firstFault_7 : decode cX4_firstFault 7 = .ok (.if_icmp .ge 19, 3) := by decide +kernel
theorem dX4_firstFault_10 : decode cX4_firstFault 10 = .ok (.aload_n 0, 1) := by decide +kernel
theorem dX4_firstFault_11 : decode cX4_firstFault 11 = .ok (.iload_n 1, 1) := by decide +kernel
theorem dX4_firstFault_12 : decode cX4_firstFault 12 = .ok (.invokevirtual 19, 3) := by decide +kernel
theorem dX4_firstFault_15 : decode cX4_firstFault 15 = .ok (.ifCond .ne 5, 3) := by decide +kernel
theorem dX4_firstFault_18 : decode cX4_firstFault 18 = .ok (.iload_n 1, 1) := by decide +kernel
theorem dX4_firstFault_19 : decode cX4_firstFault 19 = .ok (.ireturn, 1) := by decide +kernel
theorem dX4_firstFault_20 : decode cX4_firstFault 20 = .ok (.iinc 1 1, 3) := by decide +kernel
theorem dX4_firstFault_23 : decode cX4_firstFault 23 = .ok (.goto (-21), 3) := by decide +kernel
theorem dX4_firstFault_26 : decode cX4_firstFault 26 = .ok (.aload_n 0, 1) := by decide +kernel
theorem dX4_firstFault_27 : decode cX4_firstFault 27 = .ok (.getfield 15, 3) := by decide +kernel
theorem dX4_firstFault_30 : decode cX4_firstFault 30 = .ok (.iconst 2, 1) := by decide +kernel
theorem dX4_firstFault_31 : decode cX4_firstFault 31 = .ok (.if_icmp .le 18, 3) := by decide +kernel
theorem dX4_firstFault_34 : decode cX4_firstFault 34 = .ok (.aload_n 0, 1) := by decide +kernel
theorem dX4_firstFault_35 : decode cX4_firstFault 35 = .ok (.getfield 15, 3) := by decide +kernel
theorem dX4_firstFault_38 : decode cX4_firstFault 38 = .ok (.iconst 2, 1) := by decide +kernel
theorem dX4_firstFault_39 : decode cX4_firstFault 39 = .ok (.isub, 1) := by decide +kernel
theorem dX4_firstFault_40 : decode cX4_firstFault 40 = .ok (.iconst 5, 1) := by decide +kernel
theorem dX4_firstFault_41 : decode cX4_firstFault 41 = .ok (.irem, 1) := by decide +kernel
theorem dX4_firstFault_42 : decode cX4_firstFault 42 = .ok (.ifCond .ne 7, 3) := by decide +kernel
theorem dX4_firstFault_45 : decode cX4_firstFault 45 = .ok (.iconst 1, 1) := by decide +kernel
theorem dX4_firstFault_46 : decode cX4_firstFault 46 = .ok (.goto 4, 3) := by decide +kernel
theorem dX4_firstFault_49 : decode cX4_firstFault 49 = .ok (.iconst 0, 1) := by decide +kernel
theorem dX4_firstFault_50 : decode cX4_firstFault 50 = .ok (.istore_n 1, 1) := by decide +kernel
theorem dX4_firstFault_51 : decode cX4_firstFault 51 = .ok (.iload_n 1, 1) := by decide +kernel
theorem dX4_firstFault_52 : decode cX4_firstFault 52 = .ok (.ifCond .eq 7, 3) := by decide +kernel
theorem dX4_firstFault_55 : decode cX4_firstFault 55 = .ok (.iconst (-1), 1) := by decide +kernel
theorem dX4_firstFault_56 : decode cX4_firstFault 56 = .ok (.goto 7, 3) := by decide +kernel
theorem dX4_firstFault_59 : decode cX4_firstFault 59 = .ok (.aload_n 0, 1) := by decide +kernel
theorem dX4_firstFault_60 : decode cX4_firstFault 60 = .ok (.getfield 15, 3) := by decide +kernel
theorem dX4_firstFault_63 : decode cX4_firstFault 63 = .ok (.ireturn, 1) := by decide +kernel
theorem dX4_goesOn_0 : decode cX4_goesOn 0 = .ok (.aload_n 0, 1) := by decide +kernel
theorem dX4_goesOn_1 : decode cX4_goesOn 1 = .ok (.getfield 9, 3) := by decide +kernel
theorem dX4_goesOn_4 : decode cX4_goesOn 4 = .ok (.iload_n 1, 1) := by decide +kernel
theorem dX4_goesOn_5 : decode cX4_goesOn 5 = .ok (.iaload, 1) := by decide +kernel
theorem dX4_goesOn_6 : decode cX4_goesOn 6 = .ok (.istore_n 2, 1) := by decide +kernel
theorem dX4_goesOn_7 : decode cX4_goesOn 7 = .ok (.iload_n 1, 1) := by decide +kernel
theorem dX4_goesOn_8 : decode cX4_goesOn 8 = .ok (.ifCond .ne 15, 3) := by decide +kernel
theorem dX4_goesOn_11 : decode cX4_goesOn 11 = .ok (.iload_n 2, 1) := by decide +kernel
theorem dX4_goesOn_12 : decode cX4_goesOn 12 = .ok (.bipush 105, 2) := by decide +kernel
theorem dX4_goesOn_14 : decode cX4_goesOn 14 = .ok (.if_icmp .ne 7, 3) := by decide +kernel
theorem dX4_goesOn_17 : decode cX4_goesOn 17 = .ok (.iconst 1, 1) := by decide +kernel
theorem dX4_goesOn_18 : decode cX4_goesOn 18 = .ok (.goto 4, 3) := by decide +kernel
theorem dX4_goesOn_21 : decode cX4_goesOn 21 = .ok (.iconst 0, 1) := by decide +kernel
theorem dX4_goesOn_22 : decode cX4_goesOn 22 = .ok (.ireturn, 1) := by decide +kernel
theorem dX4_goesOn_23 : decode cX4_goesOn 23 = .ok (.iload_n 1, 1) := by decide +kernel
theorem dX4_goesOn_24 : decode cX4_goesOn 24 = .ok (.iconst 1, 1) := by decide +kernel
theorem dX4_goesOn_25 : decode cX4_goesOn 25 = .ok (.if_icmp .ne 21, 3) := by decide +kernel
theorem dX4_goesOn_28 : decode cX4_goesOn 28 = .ok (.iload_n 2, 1) := by decide +kernel
theorem dX4_goesOn_29 : decode cX4_goesOn 29 = .ok (.bipush 50, 2) := by decide +kernel
theorem dX4_goesOn_31 : decode cX4_goesOn 31 = .ok (.if_icmp .lt 13, 3) := by decide +kernel
theorem dX4_goesOn_34 : decode cX4_goesOn 34 = .ok (.iload_n 2, 1) := by decide +kernel
theorem dX4_goesOn_35 : decode cX4_goesOn 35 = .ok (.bipush 53, 2) := by decide +kernel
theorem dX4_goesOn_37 : decode cX4_goesOn 37 = .ok (.if_icmp .gt 7, 3) := by decide +kernel
theorem dX4_goesOn_40 : decode cX4_goesOn 40 = .ok (.iconst 1, 1) := by decide +kernel
theorem dX4_goesOn_41 : decode cX4_goesOn 41 = .ok (.goto 4, 3) := by decide +kernel
theorem dX4_goesOn_44 : decode cX4_goesOn 44 = .ok (.iconst 0, 1) := by decide +kernel
theorem dX4_goesOn_45 : decode cX4_goesOn 45 = .ok (.ireturn, 1) := by decide +kernel
theorem dX4_goesOn_46 : decode cX4_goesOn 46 = .ok (.iload_n 1, 1) := by decide +kernel
theorem dX4_goesOn_47 : decode cX4_goesOn 47 = .ok (.iconst 2, 1) := by decide +kernel
theorem dX4_goesOn_48 : decode cX4_goesOn 48 = .ok (.isub, 1) := by decide +kernel
theorem dX4_goesOn_49 : decode cX4_goesOn 49 = .ok (.iconst 5, 1) := by decide +kernel
theorem dX4_goesOn_50 : decode cX4_goesOn 50 = .ok (.irem, 1) := by decide +kernel
theorem dX4_goesOn_51 : decode cX4_goesOn 51 = .ok (.tableswitch 135 0 3 #[29, 47, 71, 93], 29) := by decide +kernel
theorem dX4_goesOn_80 : decode cX4_goesOn 80 = .ok (.iload_n 2, 1) := by decide +kernel
theorem dX4_goesOn_81 : decode cX4_goesOn 81 = .ok (.bipush 59, 2) := by decide +kernel
theorem dX4_goesOn_83 : decode cX4_goesOn 83 = .ok (.if_icmp .ne 13, 3) := by decide +kernel
theorem dX4_goesOn_86 : decode cX4_goesOn 86 = .ok (.iload_n 1, 1) := by decide +kernel
theorem dX4_goesOn_87 : decode cX4_goesOn 87 = .ok (.bipush 52, 2) := by decide +kernel
theorem dX4_goesOn_89 : decode cX4_goesOn 89 = .ok (.if_icmp .ge 7, 3) := by decide +kernel
theorem dX4_goesOn_92 : decode cX4_goesOn 92 = .ok (.iconst 1, 1) := by decide +kernel
theorem dX4_goesOn_93 : decode cX4_goesOn 93 = .ok (.goto 4, 3) := by decide +kernel
theorem dX4_goesOn_96 : decode cX4_goesOn 96 = .ok (.iconst 0, 1) := by decide +kernel
theorem dX4_goesOn_97 : decode cX4_goesOn 97 = .ok (.ireturn, 1) := by decide +kernel
theorem dX4_goesOn_98 : decode cX4_goesOn 98 = .ok (.iload_n 2, 1) := by decide +kernel
theorem dX4_goesOn_99 : decode cX4_goesOn 99 = .ok (.bipush 116, 2) := by decide +kernel
theorem dX4_goesOn_101 : decode cX4_goesOn 101 = .ok (.if_icmp .eq 15, 3) := by decide +kernel
theorem dX4_goesOn_104 : decode cX4_goesOn 104 = .ok (.iload_n 2, 1) := by decide +kernel
theorem dX4_goesOn_105 : decode cX4_goesOn 105 = .ok (.bipush 103, 2) := by decide +kernel
theorem dX4_goesOn_107 : decode cX4_goesOn 107 = .ok (.if_icmp .eq 9, 3) := by decide +kernel
theorem dX4_goesOn_110 : decode cX4_goesOn 110 = .ok (.iload_n 2, 1) := by decide +kernel
theorem dX4_goesOn_111 : decode cX4_goesOn 111 = .ok (.bipush 119, 2) := by decide +kernel
theorem dX4_goesOn_113 : decode cX4_goesOn 113 = .ok (.if_icmp .ne 7, 3) := by decide +kernel
theorem dX4_goesOn_116 : decode cX4_goesOn 116 = .ok (.iconst 1, 1) := by decide +kernel
theorem dX4_goesOn_117 : decode cX4_goesOn 117 = .ok (.goto 4, 3) := by decide +kernel
theorem dX4_goesOn_120 : decode cX4_goesOn 120 = .ok (.iconst 0, 1) := by decide +kernel
theorem dX4_goesOn_121 : decode cX4_goesOn 121 = .ok (.ireturn, 1) := by decide +kernel
theorem dX4_goesOn_122 : decode cX4_goesOn 122 = .ok (.iload_n 2, 1) := by decide +kernel
theorem dX4_goesOn_123 : decode cX4_goesOn 123 = .ok (.bipush 48, 2) := by decide +kernel
theorem dX4_goesOn_125 : decode cX4_goesOn 125 = .ok (.if_icmp .lt 17, 3) := by decide +kernel
theorem dX4_goesOn_128 : decode cX4_goesOn 128 = .ok (.iload_n 2, 1) := by decide +kernel
theorem dX4_goesOn_129 : decode cX4_goesOn 129 = .ok (.aload_n 0, 1) := by decide +kernel
theorem dX4_goesOn_130 : decode cX4_goesOn 130 = .ok (.getfield 9, 3) := by decide +kernel
theorem dX4_goesOn_133 : decode cX4_goesOn 133 = .ok (.iconst 1, 1) := by decide +kernel
theorem dX4_goesOn_134 : decode cX4_goesOn 134 = .ok (.iaload, 1) := by decide +kernel
theorem dX4_goesOn_135 : decode cX4_goesOn 135 = .ok (.if_icmp .ge 7, 3) := by decide +kernel
theorem dX4_goesOn_138 : decode cX4_goesOn 138 = .ok (.iconst 1, 1) := by decide +kernel
theorem dX4_goesOn_139 : decode cX4_goesOn 139 = .ok (.goto 4, 3) := by decide +kernel
theorem dX4_goesOn_142 : decode cX4_goesOn 142 = .ok (.iconst 0, 1) := by decide +kernel
theorem dX4_goesOn_143 : decode cX4_goesOn 143 = .ok (.ireturn, 1) := by decide +kernel
theorem dX4_goesOn_144 : decode cX4_goesOn 144 = .ok (.iload_n 2, 1) := by decide +kernel
theorem dX4_goesOn_145 : decode cX4_goesOn 145 = .ok (.invokestatic 23, 3) := by decide +kernel
theorem dX4_goesOn_148 : decode cX4_goesOn 148 = .ok (.ifCond .eq 36, 3) := by decide +kernel
theorem dX4_goesOn_151 : decode cX4_goesOn 151 = .ok (.iload_n 2, 1) := by decide +kernel
theorem dX4_goesOn_152 : decode cX4_goesOn 152 = .ok (.bipush 48, 2) := by decide +kernel
theorem dX4_goesOn_154 : decode cX4_goesOn 154 = .ok (.if_icmp .ne 26, 3) := by decide +kernel
theorem dX4_goesOn_157 : decode cX4_goesOn 157 = .ok (.iload_n 1, 1) := by decide +kernel
theorem dX4_goesOn_158 : decode cX4_goesOn 158 = .ok (.iconst 1, 1) := by decide +kernel
theorem dX4_goesOn_159 : decode cX4_goesOn 159 = .ok (.iadd, 1) := by decide +kernel
theorem dX4_goesOn_160 : decode cX4_goesOn 160 = .ok (.aload_n 0, 1) := by decide +kernel
theorem dX4_goesOn_161 : decode cX4_goesOn 161 = .ok (.getfield 15, 3) := by decide +kernel
theorem dX4_goesOn_164 : decode cX4_goesOn 164 = .ok (.if_icmp .ge 16, 3) := by decide +kernel
theorem dX4_goesOn_167 : decode cX4_goesOn 167 = .ok (.aload_n 0, 1) := by decide +kernel
theorem dX4_goesOn_168 : decode cX4_goesOn 168 = .ok (.getfield 9, 3) := by decide +kernel
theorem dX4_goesOn_171 : decode cX4_goesOn 171 = .ok (.iload_n 1, 1) := by decide +kernel
theorem dX4_goesOn_172 : decode cX4_goesOn 172 = .ok (.iconst 1, 1) := by decide +kernel
theorem dX4_goesOn_173 : decode cX4_goesOn 173 = .ok (.iadd, 1) := by decide +kernel
theorem dX4_goesOn_174 : decode cX4_goesOn 174 = .ok (.iaload, 1) := by decide +kernel
theorem dX4_goesOn_175 : decode cX4_goesOn 175 = .ok (.bipush 48, 2) := by decide +kernel
theorem dX4_goesOn_177 : decode cX4_goesOn 177 = .ok (.if_icmp .eq 7, 3) := by decide +kernel
theorem dX4_goesOn_180 : decode cX4_goesOn 180 = .ok (.iconst 1, 1) := by decide +kernel
theorem dX4_goesOn_181 : decode cX4_goesOn 181 = .ok (.goto 4, 3) := by decide +kernel
theorem dX4_goesOn_184 : decode cX4_goesOn 184 = .ok (.iconst 0, 1) := by decide +kernel
theorem dX4_goesOn_185 : decode cX4_goesOn 185 = .ok (.ireturn, 1) := by decide +kernel
theorem dX4_goesOn_186 : decode cX4_goesOn 186 = .ok (.iload_n 2, 1) := by decide +kernel
theorem dX4_goesOn_187 : decode cX4_goesOn 187 = .ok (.invokestatic 23, 3) := by decide +kernel
theorem dX4_goesOn_190 : decode cX4_goesOn 190 = .ok (.ireturn, 1) := by decide +kernel
theorem dX4_isDigit_0 : decode cX4_isDigit 0 = .ok (.iload_n 0, 1) := by decide +kernel
theorem dX4_isDigit_1 : decode cX4_isDigit 1 = .ok (.bipush 48, 2) := by decide +kernel
theorem dX4_isDigit_3 : decode cX4_isDigit 3 = .ok (.if_icmp .lt 13, 3) := by decide +kernel
theorem dX4_isDigit_6 : decode cX4_isDigit 6 = .ok (.iload_n 0, 1) := by decide +kernel
theorem dX4_isDigit_7 : decode cX4_isDigit 7 = .ok (.bipush 57, 2) := by decide +kernel
theorem dX4_isDigit_9 : decode cX4_isDigit 9 = .ok (.if_icmp .gt 7, 3) := by decide +kernel
theorem dX4_isDigit_12 : decode cX4_isDigit 12 = .ok (.iconst 1, 1) := by decide +kernel
theorem dX4_isDigit_13 : decode cX4_isDigit 13 = .ok (.goto 4, 3) := by decide +kernel
theorem dX4_isDigit_16 : decode cX4_isDigit 16 = .ok (.iconst 0, 1) := by decide +kernel
theorem dX4_isDigit_17 : decode cX4_isDigit 17 = .ok (.ireturn, 1) := by decide +kernel
theorem dX4_guests_0 : decode cX4_guests 0 = .ok (.aload_n 0, 1) := by decide +kernel
theorem dX4_guests_1 : decode cX4_guests 1 = .ok (.getfield 9, 3) := by decide +kernel
theorem dX4_guests_4 : decode cX4_guests 4 = .ok (.iconst 1, 1) := by decide +kernel
theorem dX4_guests_5 : decode cX4_guests 5 = .ok (.iaload, 1) := by decide +kernel
theorem dX4_guests_6 : decode cX4_guests 6 = .ok (.bipush 48, 2) := by decide +kernel
theorem dX4_guests_8 : decode cX4_guests 8 = .ok (.isub, 1) := by decide +kernel
theorem dX4_guests_9 : decode cX4_guests 9 = .ok (.ireturn, 1) := by decide +kernel
theorem dX4_tales_0 : decode cX4_tales 0 = .ok (.aload_n 0, 1) := by decide +kernel
theorem dX4_tales_1 : decode cX4_tales 1 = .ok (.getfield 15, 3) := by decide +kernel
theorem dX4_tales_4 : decode cX4_tales 4 = .ok (.iconst 2, 1) := by decide +kernel
theorem dX4_tales_5 : decode cX4_tales 5 = .ok (.isub, 1) := by decide +kernel
theorem dX4_tales_6 : decode cX4_tales 6 = .ok (.iconst 5, 1) := by decide +kernel
theorem dX4_tales_7 : decode cX4_tales 7 = .ok (.idiv, 1) := by decide +kernel
theorem dX4_tales_8 : decode cX4_tales 8 = .ok (.ireturn, 1) := by decide +kernel
theorem dX4_kindOf_0 : decode cX4_kindOf 0 = .ok (.aload_n 0, 1) := by decide +kernel
theorem dX4_kindOf_1 : decode cX4_kindOf 1 = .ok (.getfield 9, 3) := by decide +kernel
theorem dX4_kindOf_4 : decode cX4_kindOf 4 = .ok (.iconst 2, 1) := by decide +kernel
theorem dX4_kindOf_5 : decode cX4_kindOf 5 = .ok (.iload_n 1, 1) := by decide +kernel
theorem dX4_kindOf_6 : decode cX4_kindOf 6 = .ok (.iconst 5, 1) := by decide +kernel
theorem dX4_kindOf_7 : decode cX4_kindOf 7 = .ok (.imul, 1) := by decide +kernel
theorem dX4_kindOf_8 : decode cX4_kindOf 8 = .ok (.iadd, 1) := by decide +kernel
theorem dX4_kindOf_9 : decode cX4_kindOf 9 = .ok (.iconst 1, 1) := by decide +kernel
theorem dX4_kindOf_10 : decode cX4_kindOf 10 = .ok (.iadd, 1) := by decide +kernel
theorem dX4_kindOf_11 : decode cX4_kindOf 11 = .ok (.iaload, 1) := by decide +kernel
theorem dX4_kindOf_12 : decode cX4_kindOf 12 = .ok (.istore_n 2, 1) := by decide +kernel
theorem dX4_kindOf_13 : decode cX4_kindOf 13 = .ok (.iload_n 2, 1) := by decide +kernel
theorem dX4_kindOf_14 : decode cX4_kindOf 14 = .ok (.bipush 119, 2) := by decide +kernel
theorem dX4_kindOf_16 : decode cX4_kindOf 16 = .ok (.if_icmp .ne 7, 3) := by decide +kernel
theorem dX4_kindOf_19 : decode cX4_kindOf 19 = .ok (.iconst 2, 1) := by decide +kernel
theorem dX4_kindOf_20 : decode cX4_kindOf 20 = .ok (.goto 14, 3) := by decide +kernel
theorem dX4_kindOf_23 : decode cX4_kindOf 23 = .ok (.iload_n 2, 1) := by decide +kernel
theorem dX4_kindOf_24 : decode cX4_kindOf 24 = .ok (.bipush 103, 2) := by decide +kernel
theorem dX4_kindOf_26 : decode cX4_kindOf 26 = .ok (.if_icmp .ne 7, 3) := by decide +kernel
theorem dX4_kindOf_29 : decode cX4_kindOf 29 = .ok (.iconst 1, 1) := by decide +kernel
theorem dX4_kindOf_30 : decode cX4_kindOf 30 = .ok (.goto 4, 3) := by decide +kernel
theorem dX4_kindOf_33 : decode cX4_kindOf 33 = .ok (.iconst 0, 1) := by decide +kernel
theorem dX4_kindOf_34 : decode cX4_kindOf 34 = .ok (.ireturn, 1) := by decide +kernel
theorem dX4_ownerOf_0 : decode cX4_ownerOf 0 = .ok (.aload_n 0, 1) := by decide +kernel
theorem dX4_ownerOf_1 : decode cX4_ownerOf 1 = .ok (.getfield 9, 3) := by decide +kernel
theorem dX4_ownerOf_4 : decode cX4_ownerOf 4 = .ok (.iconst 2, 1) := by decide +kernel
theorem dX4_ownerOf_5 : decode cX4_ownerOf 5 = .ok (.iload_n 1, 1) := by decide +kernel
theorem dX4_ownerOf_6 : decode cX4_ownerOf 6 = .ok (.iconst 5, 1) := by decide +kernel
theorem dX4_ownerOf_7 : decode cX4_ownerOf 7 = .ok (.imul, 1) := by decide +kernel
theorem dX4_ownerOf_8 : decode cX4_ownerOf 8 = .ok (.iadd, 1) := by decide +kernel
theorem dX4_ownerOf_9 : decode cX4_ownerOf 9 = .ok (.iconst 2, 1) := by decide +kernel
theorem dX4_ownerOf_10 : decode cX4_ownerOf 10 = .ok (.iadd, 1) := by decide +kernel
theorem dX4_ownerOf_11 : decode cX4_ownerOf 11 = .ok (.iaload, 1) := by decide +kernel
theorem dX4_ownerOf_12 : decode cX4_ownerOf 12 = .ok (.bipush 48, 2) := by decide +kernel
theorem dX4_ownerOf_14 : decode cX4_ownerOf 14 = .ok (.isub, 1) := by decide +kernel
theorem dX4_ownerOf_15 : decode cX4_ownerOf 15 = .ok (.ireturn, 1) := by decide +kernel
theorem dX4_heightOf_0 : decode cX4_heightOf 0 = .ok (.iconst 2, 1) := by decide +kernel
theorem dX4_heightOf_1 : decode cX4_heightOf 1 = .ok (.iload_n 1, 1) := by decide +kernel
theorem dX4_heightOf_2 : decode cX4_heightOf 2 = .ok (.iconst 5, 1) := by decide +kernel
theorem dX4_heightOf_3 : decode cX4_heightOf 3 = .ok (.imul, 1) := by decide +kernel
theorem dX4_heightOf_4 : decode cX4_heightOf 4 = .ok (.iadd, 1) := by decide +kernel
theorem dX4_heightOf_5 : decode cX4_heightOf 5 = .ok (.iconst 3, 1) := by decide +kernel
theorem dX4_heightOf_6 : decode cX4_heightOf 6 = .ok (.iadd, 1) := by decide +kernel
theorem dX4_heightOf_7 : decode cX4_heightOf 7 = .ok (.istore_n 2, 1) := by decide +kernel
theorem dX4_heightOf_8 : decode cX4_heightOf 8 = .ok (.aload_n 0, 1) := by decide +kernel
theorem dX4_heightOf_9 : decode cX4_heightOf 9 = .ok (.getfield 9, 3) := by decide +kernel
theorem dX4_heightOf_12 : decode cX4_heightOf 12 = .ok (.iload_n 2, 1) := by decide +kernel
theorem dX4_heightOf_13 : decode cX4_heightOf 13 = .ok (.iaload, 1) := by decide +kernel
theorem dX4_heightOf_14 : decode cX4_heightOf 14 = .ok (.bipush 48, 2) := by decide +kernel
theorem dX4_heightOf_16 : decode cX4_heightOf 16 = .ok (.isub, 1) := by decide +kernel
theorem dX4_heightOf_17 : decode cX4_heightOf 17 = .ok (.bipush 10, 2) := by decide +kernel
theorem dX4_heightOf_19 : decode cX4_heightOf 19 = .ok (.imul, 1) := by decide +kernel
theorem dX4_heightOf_20 : decode cX4_heightOf 20 = .ok (.aload_n 0, 1) := by decide +kernel
theorem dX4_heightOf_21 : decode cX4_heightOf 21 = .ok (.getfield 9, 3) := by decide +kernel
theorem dX4_heightOf_24 : decode cX4_heightOf 24 = .ok (.iload_n 2, 1) := by decide +kernel
theorem dX4_heightOf_25 : decode cX4_heightOf 25 = .ok (.iconst 1, 1) := by decide +kernel
theorem dX4_heightOf_26 : decode cX4_heightOf 26 = .ok (.iadd, 1) := by decide +kernel
theorem dX4_heightOf_27 : decode cX4_heightOf 27 = .ok (.iaload, 1) := by decide +kernel
theorem dX4_heightOf_28 : decode cX4_heightOf 28 = .ok (.iadd, 1) := by decide +kernel
theorem dX4_heightOf_29 : decode cX4_heightOf 29 = .ok (.bipush 48, 2) := by decide +kernel
theorem dX4_heightOf_31 : decode cX4_heightOf 31 = .ok (.isub, 1) := by decide +kernel
theorem dX4_heightOf_32 : decode cX4_heightOf 32 = .ok (.ireturn, 1) := by decide +kernel
theorem dX5_init_0 : decode cX5_init 0 = .ok (.aload_n 0, 1) := by decide +kernel
theorem dX5_init_1 : decode cX5_init 1 = .ok (.invokespecial 3, 3) := by decide +kernel
theorem dX5_init_4 : decode cX5_init 4 = .ok (.aload_n 0, 1) := by decide +kernel
theorem dX5_init_5 : decode cX5_init 5 = .ok (.bipush 6, 2) := by decide +kernel
theorem dX5_init_7 : decode cX5_init 7 = .ok (.newarray .int, 2) := by decide +kernel
theorem dX5_init_9 : decode cX5_init 9 = .ok (.putfield 9, 3) := by decide +kernel
theorem dX5_init_12 : decode cX5_init 12 = .ok (.aload_n 0, 1) := by decide +kernel
theorem dX5_init_13 : decode cX5_init 13 = .ok (.bipush 7, 2) := by decide +kernel
theorem dX5_init_15 : decode cX5_init 15 = .ok (.newarray .int, 2) := by decide +kernel
theorem dX5_init_17 : decode cX5_init 17 = .ok (.putfield 15, 3) := by decide +kernel
theorem dX5_init_20 : decode cX5_init 20 = .ok (.aload_n 0, 1) := by decide +kernel
theorem dX5_init_21 : decode cX5_init 21 = .ok (.bipush 10, 2) := by decide +kernel
theorem dX5_init_23 : decode cX5_init 23 = .ok (.newarray .int, 2) := by decide +kernel
theorem dX5_init_25 : decode cX5_init 25 = .ok (.putfield 18, 3) := by decide +kernel
theorem dX5_init_28 : decode cX5_init 28 = .ok (.aload_n 0, 1) := by decide +kernel
theorem dX5_init_29 : decode cX5_init 29 = .ok (.bipush 10, 2) := by decide +kernel
theorem dX5_init_31 : decode cX5_init 31 = .ok (.newarray .int, 2) := by decide +kernel
theorem dX5_init_33 : decode cX5_init 33 = .ok (.putfield 21, 3) := by decide +kernel
theorem dX5_init_36 : decode cX5_init 36 = .ok (.aload_n 0, 1) := by decide +kernel
theorem dX5_init_37 : decode cX5_init 37 = .ok (.bipush 6, 2) := by decide +kernel
theorem dX5_init_39 : decode cX5_init 39 = .ok (.newarray .int, 2) := by decide +kernel
theorem dX5_init_41 : decode cX5_init 41 = .ok (.putfield 24, 3) := by decide +kernel
theorem dX5_init_44 : decode cX5_init 44 = .ok (.aload_n 0, 1) := by decide +kernel
theorem dX5_init_45 : decode cX5_init 45 = .ok (.bipush 6, 2) := by decide +kernel
theorem dX5_init_47 : decode cX5_init 47 = .ok (.newarray .int, 2) := by decide +kernel
theorem dX5_init_49 : decode cX5_init 49 = .ok (.putfield 27, 3) := by decide +kernel
theorem dX5_init_52 : decode cX5_init 52 = .ok (.aload_n 0, 1) := by decide +kernel
theorem dX5_init_53 : decode cX5_init 53 = .ok (.aload_n 1, 1) := by decide +kernel
theorem dX5_init_54 : decode cX5_init 54 = .ok (.putfield 30, 3) := by decide +kernel
theorem dX5_init_57 : decode cX5_init 57 = .ok (.return_, 1) := by decide +kernel
theorem dX6_init_0 : decode cX6_init 0 = .ok (.aload_n 0, 1) := by decide +kernel
theorem dX6_init_1 : decode cX6_init 1 = .ok (.invokespecial 3, 3) := by decide +kernel
theorem dX6_init_4 : decode cX6_init 4 = .ok (.aload_n 0, 1) := by decide +kernel
theorem dX6_init_5 : decode cX6_init 5 = .ok (.new 9, 3) := by decide +kernel
theorem dX6_init_8 : decode cX6_init 8 = .ok (.dup, 1) := by decide +kernel
theorem dX6_init_9 : decode cX6_init 9 = .ok (.invokespecial 11, 3) := by decide +kernel
theorem dX6_init_12 : decode cX6_init 12 = .ok (.putfield 12, 3) := by decide +kernel
theorem dX6_init_15 : decode cX6_init 15 = .ok (.aload_n 0, 1) := by decide +kernel
theorem dX6_init_16 : decode cX6_init 16 = .ok (.new 18, 3) := by decide +kernel
theorem dX6_init_19 : decode cX6_init 19 = .ok (.dup, 1) := by decide +kernel
theorem dX6_init_20 : decode cX6_init 20 = .ok (.invokespecial 20, 3) := by decide +kernel
theorem dX6_init_23 : decode cX6_init 23 = .ok (.putfield 21, 3) := by decide +kernel
theorem dX6_init_26 : decode cX6_init 26 = .ok (.aload_n 0, 1) := by decide +kernel
theorem dX6_init_27 : decode cX6_init 27 = .ok (.new 25, 3) := by decide +kernel
theorem dX6_init_30 : decode cX6_init 30 = .ok (.dup, 1) := by decide +kernel
theorem dX6_init_31 : decode cX6_init 31 = .ok (.invokespecial 27, 3) := by decide +kernel
theorem dX6_init_34 : decode cX6_init 34 = .ok (.putfield 28, 3) := by decide +kernel
theorem dX6_init_37 : decode cX6_init 37 = .ok (.aload_n 0, 1) := by decide +kernel
theorem dX6_init_38 : decode cX6_init 38 = .ok (.new 32, 3) := by decide +kernel
theorem dX6_init_41 : decode cX6_init 41 = .ok (.dup, 1) := by decide +kernel
theorem dX6_init_42 : decode cX6_init 42 = .ok (.invokespecial 34, 3) := by decide +kernel
theorem dX6_init_45 : decode cX6_init 45 = .ok (.putfield 35, 3) := by decide +kernel
theorem dX6_init_48 : decode cX6_init 48 = .ok (.aload_n 0, 1) := by decide +kernel
theorem dX6_init_49 : decode cX6_init 49 = .ok (.new 39, 3) := by decide +kernel
theorem dX6_init_52 : decode cX6_init 52 = .ok (.dup, 1) := by decide +kernel
theorem dX6_init_53 : decode cX6_init 53 = .ok (.aload_n 0, 1) := by decide +kernel
theorem dX6_init_54 : decode cX6_init 54 = .ok (.getfield 28, 3) := by decide +kernel
theorem dX6_init_57 : decode cX6_init 57 = .ok (.aload_n 0, 1) := by decide +kernel
theorem dX6_init_58 : decode cX6_init 58 = .ok (.getfield 35, 3) := by decide +kernel
theorem dX6_init_61 : decode cX6_init 61 = .ok (.invokespecial 41, 3) := by decide +kernel
theorem dX6_init_64 : decode cX6_init 64 = .ok (.putfield 44, 3) := by decide +kernel
theorem dX6_init_67 : decode cX6_init 67 = .ok (.aload_n 0, 1) := by decide +kernel
theorem dX6_init_68 : decode cX6_init 68 = .ok (.new 48, 3) := by decide +kernel
theorem dX6_init_71 : decode cX6_init 71 = .ok (.dup, 1) := by decide +kernel
theorem dX6_init_72 : decode cX6_init 72 = .ok (.aload_n 0, 1) := by decide +kernel
theorem dX6_init_73 : decode cX6_init 73 = .ok (.getfield 28, 3) := by decide +kernel
theorem dX6_init_76 : decode cX6_init 76 = .ok (.invokespecial 50, 3) := by decide +kernel
theorem dX6_init_79 : decode cX6_init 79 = .ok (.putfield 53, 3) := by decide +kernel
theorem dX6_init_82 : decode cX6_init 82 = .ok (.aload_n 0, 1) := by decide +kernel
theorem dX6_init_83 : decode cX6_init 83 = .ok (.iconst 5, 1) := by decide +kernel
theorem dX6_init_84 : decode cX6_init 84 = .ok (.newarray .int, 2) := by decide +kernel
theorem dX6_init_86 : decode cX6_init 86 = .ok (.putfield 57, 3) := by decide +kernel
theorem dX6_init_89 : decode cX6_init 89 = .ok (.return_, 1) := by decide +kernel
theorem dX6_inn_0 : decode cX6_inn 0 = .ok (.aload_n 0, 1) := by decide +kernel
theorem dX6_inn_1 : decode cX6_inn 1 = .ok (.iconst 0, 1) := by decide +kernel
theorem dX6_inn_2 : decode cX6_inn 2 = .ok (.putfield 61, 3) := by decide +kernel
theorem dX6_inn_5 : decode cX6_inn 5 = .ok (.iload_n 1, 1) := by decide +kernel
theorem dX6_inn_6 : decode cX6_inn 6 = .ok (.invokestatic 65, 3) := by decide +kernel
theorem dX6_inn_9 : decode cX6_inn 9 = .ok (.ifCond .ne 5, 3) := by decide +kernel
theorem dX6_inn_12 : decode cX6_inn 12 = .ok (.iconst (-1), 1) := by decide +kernel
theorem dX6_inn_13 : decode cX6_inn 13 = .ok (.ireturn, 1) := by decide +kernel
theorem dX6_inn_14 : decode cX6_inn 14 = .ok (.iload_n 2, 1) := by decide +kernel
theorem dX6_inn_15 : decode cX6_inn 15 = .ok (.invokestatic 69, 3) := by decide +kernel
theorem dX6_inn_18 : decode cX6_inn 18 = .ok (.ifCond .ne 6, 3) := by decide +kernel
theorem dX6_inn_21 : decode cX6_inn 21 = .ok (.bipush (-2), 2) := by decide +kernel
theorem dX6_inn_23 : decode cX6_inn 23 = .ok (.ireturn, 1) := by decide +kernel
theorem dX6_inn_24 : decode cX6_inn 24 = .ok (.aload_n 0, 1) := by decide +kernel
theorem dX6_inn_25 : decode cX6_inn 25 = .ok (.getfield 12, 3) := by decide +kernel
theorem dX6_inn_28 : decode cX6_inn 28 = .ok (.iload_n 1, 1) := by decide +kernel
theorem dX6_inn_29 : decode cX6_inn 29 = .ok (.iload_n 2, 1) := by decide +kernel
theorem dX6_inn_30 : decode cX6_inn 30 = .ok (.iload_n 3, 1) := by decide +kernel
theorem dX6_inn_31 : decode cX6_inn 31 = .ok (.iload 4, 2) := by decide +kernel
theorem dX6_inn_33 : decode cX6_inn 33 = .ok (.invokevirtual 72, 3) := by decide +kernel
theorem dX6_inn_36 : decode cX6_inn 36 = .ok (.istore 5, 2) := by decide +kernel
theorem dX6_inn_38 : decode cX6_inn 38 = .ok (.iload 5, 2) := by decide +kernel
theorem dX6_inn_40 : decode cX6_inn 40 = .ok (.ifCond .eq 10, 3) := by decide +kernel
theorem dX6_inn_43 : decode cX6_inn 43 = .ok (.aload_n 0, 1) := by decide +kernel
theorem dX6_inn_44 : decode cX6_inn 44 = .ok (.iload 5, 2) := by decide +kernel
theorem dX6_inn_46 : decode cX6_inn 46 = .ok (.invokevirtual 76, 3) := by decide +kernel
theorem dX6_inn_49 : decode cX6_inn 49 = .ok (.ireturn, 1) := by decide +kernel
theorem dX6_inn_50 : decode cX6_inn 50 = .ok (.aload_n 0, 1) := by decide +kernel
theorem dX6_inn_51 : decode cX6_inn 51 = .ok (.getfield 21, 3) := by decide +kernel
theorem dX6_inn_54 : decode cX6_inn 54 = .ok (.iload 4, 2) := by decide +kernel
theorem dX6_inn_56 : decode cX6_inn 56 = .ok (.putfield 80, 3) := by decide +kernel
theorem dX6_inn_59 : decode cX6_inn 59 = .ok (.aload_n 0, 1) := by decide +kernel
theorem dX6_inn_60 : decode cX6_inn 60 = .ok (.getfield 12, 3) := by decide +kernel
theorem dX6_inn_63 : decode cX6_inn 63 = .ok (.iload_n 1, 1) := by decide +kernel
theorem dX6_inn_64 : decode cX6_inn 64 = .ok (.iload_n 3, 1) := by decide +kernel
theorem dX6_inn_65 : decode cX6_inn 65 = .ok (.iload 4, 2) := by decide +kernel
theorem dX6_inn_67 : decode cX6_inn 67 = .ok (.aload_n 0, 1) := by decide +kernel
theorem dX6_inn_68 : decode cX6_inn 68 = .ok (.getfield 21, 3) := by decide +kernel
theorem dX6_inn_71 : decode cX6_inn 71 = .ok (.getfield 83, 3) := by decide +kernel
theorem dX6_inn_74 : decode cX6_inn 74 = .ok (.invokevirtual 86, 3) := by decide +kernel
theorem dX6_inn_77 : decode cX6_inn 77 = .ok (.aload_n 0, 1) := by decide +kernel
theorem dX6_inn_78 : decode cX6_inn 78 = .ok (.getfield 21, 3) := by decide +kernel
theorem dX6_inn_81 : decode cX6_inn 81 = .ok (.invokevirtual 90, 3) := by decide +kernel
theorem dX6_inn_84 : decode cX6_inn 84 = .ok (.istore 6, 2) := by decide +kernel
theorem dX6_inn_86 : decode cX6_inn 86 = .ok (.iload 6, 2) := by decide +kernel
theorem dX6_inn_88 : decode cX6_inn 88 = .ok (.iconst (-1), 1) := by decide +kernel
theorem dX6_inn_89 : decode cX6_inn 89 = .ok (.if_icmp .eq 9, 3) := by decide +kernel
theorem dX6_inn_92 : decode cX6_inn 92 = .ok (.bipush (-100), 2) := by decide +kernel
theorem dX6_inn_94 : decode cX6_inn 94 = .ok (.iload 6, 2) := by decide +kernel
theorem dX6_inn_96 : decode cX6_inn 96 = .ok (.isub, 1) := by decide +kernel
theorem dX6_inn_97 : decode cX6_inn 97 = .ok (.ireturn, 1) := by decide +kernel
theorem dX6_inn_98 : decode cX6_inn 98 = .ok (.aload_n 0, 1) := by decide +kernel
theorem dX6_inn_99 : decode cX6_inn 99 = .ok (.getfield 28, 3) := by decide +kernel
theorem dX6_inn_102 : decode cX6_inn 102 = .ok (.aload_n 0, 1) := by decide +kernel
theorem dX6_inn_103 : decode cX6_inn 103 = .ok (.getfield 21, 3) := by decide +kernel
theorem dX6_inn_106 : decode cX6_inn 106 = .ok (.invokevirtual 94, 3) := by decide +kernel
theorem dX6_inn_109 : decode cX6_inn 109 = .ok (.aload_n 0, 1) := by decide +kernel
theorem dX6_inn_110 : decode cX6_inn 110 = .ok (.getfield 28, 3) := by decide +kernel
theorem dX6_inn_113 : decode cX6_inn 113 = .ok (.getfield 98, 3) := by decide +kernel
theorem dX6_inn_116 : decode cX6_inn 116 = .ok (.ireturn, 1) := by decide +kernel
theorem dX6_ofTale_0 : decode cX6_ofTale 0 = .ok (.aload_n 0, 1) := by decide +kernel
theorem dX6_ofTale_1 : decode cX6_ofTale 1 = .ok (.getfield 28, 3) := by decide +kernel
theorem dX6_ofTale_4 : decode cX6_ofTale 4 = .ok (.iload_n 1, 1) := by decide +kernel
theorem dX6_ofTale_5 : decode cX6_ofTale 5 = .ok (.invokevirtual 101, 3) := by decide +kernel
theorem dX6_ofTale_8 : decode cX6_ofTale 8 = .ok (.ifCond .ne 5, 3) := by decide +kernel
theorem dX6_ofTale_11 : decode cX6_ofTale 11 = .ok (.iconst (-1), 1) := by decide +kernel
theorem dX6_ofTale_12 : decode cX6_ofTale 12 = .ok (.ireturn, 1) := by decide +kernel
theorem dX6_ofTale_13 : decode cX6_ofTale 13 = .ok (.iload_n 2, 1) := by decide +kernel
theorem dX6_ofTale_14 : decode cX6_ofTale 14 = .ok (.tableswitch 118 0 6 #[42, 52, 62, 72, 82, 92, 109], 42) := by decide +kernel
theorem dX6_ofTale_56 : decode cX6_ofTale 56 = .ok (.aload_n 0, 1) := by decide +kernel
theorem dX6_ofTale_57 : decode cX6_ofTale 57 = .ok (.getfield 28, 3) := by decide +kernel
theorem dX6_ofTale_60 : decode cX6_ofTale 60 = .ok (.getfield 104, 3) := by decide +kernel
theorem dX6_ofTale_63 : decode cX6_ofTale 63 = .ok (.iload_n 1, 1) := by decide +kernel
theorem dX6_ofTale_64 : decode cX6_ofTale 64 = .ok (.iaload, 1) := by decide +kernel
theorem dX6_ofTale_65 : decode cX6_ofTale 65 = .ok (.ireturn, 1) := by decide +kernel
theorem dX6_ofTale_66 : decode cX6_ofTale 66 = .ok (.aload_n 0, 1) := by decide +kernel
theorem dX6_ofTale_67 : decode cX6_ofTale 67 = .ok (.getfield 28, 3) := by decide +kernel
theorem dX6_ofTale_70 : decode cX6_ofTale 70 = .ok (.getfield 107, 3) := by decide +kernel
theorem dX6_ofTale_73 : decode cX6_ofTale 73 = .ok (.iload_n 1, 1) := by decide +kernel
theorem dX6_ofTale_74 : decode cX6_ofTale 74 = .ok (.iaload, 1) := by decide +kernel
theorem dX6_ofTale_75 : decode cX6_ofTale 75 = .ok (.ireturn, 1) := by decide +kernel
theorem dX6_ofTale_76 : decode cX6_ofTale 76 = .ok (.aload_n 0, 1) := by decide +kernel
theorem dX6_ofTale_77 : decode cX6_ofTale 77 = .ok (.getfield 28, 3) := by decide +kernel
theorem dX6_ofTale_80 : decode cX6_ofTale 80 = .ok (.getfield 110, 3) := by decide +kernel
theorem dX6_ofTale_83 : decode cX6_ofTale 83 = .ok (.iload_n 1, 1) := by decide +kernel
theorem dX6_ofTale_84 : decode cX6_ofTale 84 = .ok (.iaload, 1) := by decide +kernel
theorem dX6_ofTale_85 : decode cX6_ofTale 85 = .ok (.ireturn, 1) := by decide +kernel
theorem dX6_ofTale_86 : decode cX6_ofTale 86 = .ok (.aload_n 0, 1) := by decide +kernel
theorem dX6_ofTale_87 : decode cX6_ofTale 87 = .ok (.getfield 28, 3) := by decide +kernel
theorem dX6_ofTale_90 : decode cX6_ofTale 90 = .ok (.getfield 113, 3) := by decide +kernel
theorem dX6_ofTale_93 : decode cX6_ofTale 93 = .ok (.iload_n 1, 1) := by decide +kernel
theorem dX6_ofTale_94 : decode cX6_ofTale 94 = .ok (.iaload, 1) := by decide +kernel
theorem dX6_ofTale_95 : decode cX6_ofTale 95 = .ok (.ireturn, 1) := by decide +kernel
theorem dX6_ofTale_96 : decode cX6_ofTale 96 = .ok (.aload_n 0, 1) := by decide +kernel
theorem dX6_ofTale_97 : decode cX6_ofTale 97 = .ok (.getfield 28, 3) := by decide +kernel
theorem dX6_ofTale_100 : decode cX6_ofTale 100 = .ok (.getfield 116, 3) := by decide +kernel
theorem dX6_ofTale_103 : decode cX6_ofTale 103 = .ok (.iload_n 1, 1) := by decide +kernel
theorem dX6_ofTale_104 : decode cX6_ofTale 104 = .ok (.iaload, 1) := by decide +kernel
theorem dX6_ofTale_105 : decode cX6_ofTale 105 = .ok (.ireturn, 1) := by decide +kernel
theorem dX6_ofTale_106 : decode cX6_ofTale 106 = .ok (.aload_n 0, 1) := by decide +kernel
theorem dX6_ofTale_107 : decode cX6_ofTale 107 = .ok (.getfield 28, 3) := by decide +kernel
theorem dX6_ofTale_110 : decode cX6_ofTale 110 = .ok (.iload_n 1, 1) := by decide +kernel
theorem dX6_ofTale_111 : decode cX6_ofTale 111 = .ok (.invokevirtual 119, 3) := by decide +kernel
theorem dX6_ofTale_114 : decode cX6_ofTale 114 = .ok (.ifCond .eq 7, 3) := by decide +kernel
theorem dX6_ofTale_117 : decode cX6_ofTale 117 = .ok (.iconst 1, 1) := by decide +kernel
theorem dX6_ofTale_118 : decode cX6_ofTale 118 = .ok (.goto 4, 3) := by decide +kernel
theorem dX6_ofTale_121 : decode cX6_ofTale 121 = .ok (.iconst 0, 1) := by decide +kernel
theorem dX6_ofTale_122 : decode cX6_ofTale 122 = .ok (.ireturn, 1) := by decide +kernel
theorem dX6_ofTale_123 : decode cX6_ofTale 123 = .ok (.aload_n 0, 1) := by decide +kernel
theorem dX6_ofTale_124 : decode cX6_ofTale 124 = .ok (.getfield 28, 3) := by decide +kernel
theorem dX6_ofTale_127 : decode cX6_ofTale 127 = .ok (.iload_n 1, 1) := by decide +kernel
theorem dX6_ofTale_128 : decode cX6_ofTale 128 = .ok (.invokevirtual 122, 3) := by decide +kernel
theorem dX6_ofTale_131 : decode cX6_ofTale 131 = .ok (.ireturn, 1) := by decide +kernel
theorem dX6_ofTale_132 : decode cX6_ofTale 132 = .ok (.bipush (-2), 2) := by decide +kernel
theorem dX6_ofTale_134 : decode cX6_ofTale 134 = .ok (.ireturn, 1) := by decide +kernel
theorem dX6_memory_0 : decode cX6_memory 0 = .ok (.iload_n 1, 1) := by decide +kernel
theorem dX6_memory_1 : decode cX6_memory 1 = .ok (.ifCond .lt 9, 3) := by decide +kernel
theorem dX6_memory_4 : decode cX6_memory 4 = .ok (.iload_n 1, 1) := by decide +kernel
theorem dX6_memory_5 : decode cX6_memory 5 = .ok (.bipush 99, 2) := by decide +kernel
theorem dX6_memory_7 : decode cX6_memory 7 = .ok (.if_icmp .le 6, 3) := by decide +kernel
theorem dX6_memory_10 : decode cX6_memory 10 = .ok (.bipush (-2), 2) := by decide +kernel
theorem dX6_memory_12 : decode cX6_memory 12 = .ok (.ireturn, 1) := by decide +kernel
theorem dX6_memory_13 : decode cX6_memory 13 = .ok (.aload_n 0, 1) := by decide +kernel
theorem dX6_memory_14 : decode cX6_memory 14 = .ok (.getfield 28, 3) := by decide +kernel
theorem dX6_memory_17 : decode cX6_memory 17 = .ok (.invokevirtual 125, 3) := by decide +kernel
theorem dX6_memory_20 : decode cX6_memory 20 = .ok (.ifCond .ne 6, 3) := by decide +kernel
theorem dX6_memory_23 : decode cX6_memory 23 = .ok (.bipush (-3), 2) := by decide +kernel
theorem dX6_memory_25 : decode cX6_memory 25 = .ok (.ireturn, 1) := by decide +kernel
theorem dX6_memory_26 : decode cX6_memory 26 = .ok (.aload_n 0, 1) := by decide +kernel
theorem dX6_memory_27 : decode cX6_memory 27 = .ok (.getfield 28, 3) := by decide +kernel
theorem dX6_memory_30 : decode cX6_memory 30 = .ok (.getfield 129, 3) := by decide +kernel
theorem dX6_memory_33 : decode cX6_memory 33 = .ok (.istore_n 2, 1) := by decide +kernel
theorem dX6_memory_34 : decode cX6_memory 34 = .ok (.aload_n 0, 1) := by decide +kernel
theorem dX6_memory_35 : decode cX6_memory 35 = .ok (.getfield 28, 3) := by decide +kernel
theorem dX6_memory_38 : decode cX6_memory 38 = .ok (.iload_n 1, 1) := by decide +kernel
theorem dX6_memory_39 : decode cX6_memory 39 = .ok (.putfield 129, 3) := by decide +kernel
theorem dX6_memory_42 : decode cX6_memory 42 = .ok (.iload_n 2, 1) := by decide +kernel
theorem dX6_memory_43 : decode cX6_memory 43 = .ok (.ireturn, 1) := by decide +kernel
theorem dX6_choose_0 : decode cX6_choose 0 = .ok (.aload_n 0, 1) := by decide +kernel
theorem dX6_choose_1 : decode cX6_choose 1 = .ok (.getfield 28, 3) := by decide +kernel
theorem dX6_choose_4 : decode cX6_choose 4 = .ok (.iload_n 1, 1) := by decide +kernel
theorem dX6_choose_5 : decode cX6_choose 5 = .ok (.invokevirtual 132, 3) := by decide +kernel
theorem dX6_choose_8 : decode cX6_choose 8 = .ok (.ifCond .ne 5, 3) := by decide +kernel
theorem dX6_choose_11 : decode cX6_choose 11 = .ok (.iconst (-1), 1) := by decide +kernel
theorem dX6_choose_12 : decode cX6_choose 12 = .ok (.ireturn, 1) := by decide +kernel
theorem dX6_choose_13 : decode cX6_choose 13 = .ok (.iload_n 2, 1) := by decide +kernel
theorem dX6_choose_14 : decode cX6_choose 14 = .ok (.bipush (-9), 2) := by decide +kernel
theorem dX6_choose_16 : decode cX6_choose 16 = .ok (.if_icmp .eq 43, 3) := by decide +kernel
theorem dX6_choose_19 : decode cX6_choose 19 = .ok (.aload_n 0, 1) := by decide +kernel
theorem dX6_choose_20 : decode cX6_choose 20 = .ok (.getfield 28, 3) := by decide +kernel
theorem dX6_choose_23 : decode cX6_choose 23 = .ok (.iload_n 2, 1) := by decide +kernel
theorem dX6_choose_24 : decode cX6_choose 24 = .ok (.invokevirtual 101, 3) := by decide +kernel
theorem dX6_choose_27 : decode cX6_choose 27 = .ok (.ifCond .ne 5, 3) := by decide +kernel
theorem dX6_choose_30 : decode cX6_choose 30 = .ok (.iconst (-1), 1) := by decide +kernel
theorem dX6_choose_31 : decode cX6_choose 31 = .ok (.ireturn, 1) := by decide +kernel
theorem dX6_choose_32 : decode cX6_choose 32 = .ok (.aload_n 0, 1) := by decide +kernel
theorem dX6_choose_33 : decode cX6_choose 33 = .ok (.getfield 28, 3) := by decide +kernel
theorem dX6_choose_36 : decode cX6_choose 36 = .ok (.getfield 107, 3) := by decide +kernel
theorem dX6_choose_39 : decode cX6_choose 39 = .ok (.iload_n 2, 1) := by decide +kernel
theorem dX6_choose_40 : decode cX6_choose 40 = .ok (.iaload, 1) := by decide +kernel
theorem dX6_choose_41 : decode cX6_choose 41 = .ok (.iload_n 1, 1) := by decide +kernel
theorem dX6_choose_42 : decode cX6_choose 42 = .ok (.if_icmp .ne 14, 3) := by decide +kernel
theorem dX6_choose_45 : decode cX6_choose 45 = .ok (.aload_n 0, 1) := by decide +kernel
theorem dX6_choose_46 : decode cX6_choose 46 = .ok (.getfield 28, 3) := by decide +kernel
theorem dX6_choose_49 : decode cX6_choose 49 = .ok (.iload_n 2, 1) := by decide +kernel
theorem dX6_choose_50 : decode cX6_choose 50 = .ok (.invokevirtual 119, 3) := by decide +kernel
theorem dX6_choose_53 : decode cX6_choose 53 = .ok (.ifCond .ne 6, 3) := by decide +kernel
theorem dX6_choose_56 : decode cX6_choose 56 = .ok (.bipush (-3), 2) := by decide +kernel
theorem dX6_choose_58 : decode cX6_choose 58 = .ok (.ireturn, 1) := by decide +kernel
theorem dX6_choose_59 : decode cX6_choose 59 = .ok (.aload_n 0, 1) := by decide +kernel
theorem dX6_choose_60 : decode cX6_choose 60 = .ok (.getfield 28, 3) := by decide +kernel
theorem dX6_choose_63 : decode cX6_choose 63 = .ok (.getfield 135, 3) := by decide +kernel
theorem dX6_choose_66 : decode cX6_choose 66 = .ok (.iload_n 1, 1) := by decide +kernel
theorem dX6_choose_67 : decode cX6_choose 67 = .ok (.iaload, 1) := by decide +kernel
theorem dX6_choose_68 : decode cX6_choose 68 = .ok (.istore_n 3, 1) := by decide +kernel
theorem dX6_choose_69 : decode cX6_choose 69 = .ok (.aload_n 0, 1) := by decide +kernel
theorem dX6_choose_70 : decode cX6_choose 70 = .ok (.getfield 28, 3) := by decide +kernel
theorem dX6_choose_73 : decode cX6_choose 73 = .ok (.getfield 135, 3) := by decide +kernel
theorem dX6_choose_76 : decode cX6_choose 76 = .ok (.iload_n 1, 1) := by decide +kernel
theorem dX6_choose_77 : decode cX6_choose 77 = .ok (.iload_n 2, 1) := by decide +kernel
theorem dX6_choose_78 : decode cX6_choose 78 = .ok (.iastore, 1) := by decide +kernel
theorem dX6_choose_79 : decode cX6_choose 79 = .ok (.iload_n 3, 1) := by decide +kernel
theorem dX6_choose_80 : decode cX6_choose 80 = .ok (.ireturn, 1) := by decide +kernel
theorem dX6_night_0 : decode cX6_night 0 = .ok (.aload_n 0, 1) := by decide +kernel
theorem dX6_night_1 : decode cX6_night 1 = .ok (.getfield 28, 3) := by decide +kernel
theorem dX6_night_4 : decode cX6_night 4 = .ok (.invokevirtual 125, 3) := by decide +kernel
theorem dX6_night_7 : decode cX6_night 7 = .ok (.ifCond .ne 6, 3) := by decide +kernel
theorem dX6_night_10 : decode cX6_night 10 = .ok (.bipush (-3), 2) := by decide +kernel
theorem dX6_night_12 : decode cX6_night 12 = .ok (.ireturn, 1) := by decide +kernel
theorem dX6_night_13 : decode cX6_night 13 = .ok (.aload_n 0, 1) := by decide +kernel
theorem dX6_night_14 : decode cX6_night 14 = .ok (.getfield 28, 3) := by decide +kernel
theorem dX6_night_17 : decode cX6_night 17 = .ok (.getfield 138, 3) := by decide +kernel
theorem dX6_night_20 : decode cX6_night 20 = .ok (.bipush 60, 2) := by decide +kernel
theorem dX6_night_22 : decode cX6_night 22 = .ok (.if_icmp .lt 6, 3) := by decide +kernel
theorem dX6_night_25 : decode cX6_night 25 = .ok (.bipush (-4), 2) := by decide +kernel
theorem dX6_night_27 : decode cX6_night 27 = .ok (.ireturn, 1) := by decide +kernel
theorem dX6_night_28 : decode cX6_night 28 = .ok (.aload_n 0, 1) := by decide +kernel
theorem dX6_night_29 : decode cX6_night 29 = .ok (.getfield 28, 3) := by decide +kernel
theorem dX6_night_32 : decode cX6_night 32 = .ok (.aload_n 0, 1) := by decide +kernel
theorem dX6_night_33 : decode cX6_night 33 = .ok (.getfield 35, 3) := by decide +kernel
theorem dX6_night_36 : decode cX6_night 36 = .ok (.invokevirtual 141, 3) := by decide +kernel
theorem dX6_night_39 : decode cX6_night 39 = .ok (.aload_n 0, 1) := by decide +kernel
theorem dX6_night_40 : decode cX6_night 40 = .ok (.getfield 28, 3) := by decide +kernel
theorem dX6_night_43 : decode cX6_night 43 = .ok (.aload_n 0, 1) := by decide +kernel
theorem dX6_night_44 : decode cX6_night 44 = .ok (.getfield 35, 3) := by decide +kernel
theorem dX6_night_47 : decode cX6_night 47 = .ok (.invokevirtual 145, 3) := by decide +kernel
theorem dX6_night_50 : decode cX6_night 50 = .ok (.ireturn, 1) := by decide +kernel
theorem dX6_ofNight_0 : decode cX6_ofNight 0 = .ok (.aload_n 0, 1) := by decide +kernel
theorem dX6_ofNight_1 : decode cX6_ofNight 1 = .ok (.getfield 28, 3) := by decide +kernel
theorem dX6_ofNight_4 : decode cX6_ofNight 4 = .ok (.iload_n 1, 1) := by decide +kernel
theorem dX6_ofNight_5 : decode cX6_ofNight 5 = .ok (.invokevirtual 149, 3) := by decide +kernel
theorem dX6_ofNight_8 : decode cX6_ofNight 8 = .ok (.ifCond .eq 14, 3) := by decide +kernel
theorem dX6_ofNight_11 : decode cX6_ofNight 11 = .ok (.aload_n 0, 1) := by decide +kernel
theorem dX6_ofNight_12 : decode cX6_ofNight 12 = .ok (.getfield 28, 3) := by decide +kernel
theorem dX6_ofNight_15 : decode cX6_ofNight 15 = .ok (.iload_n 2, 1) := by decide +kernel
theorem dX6_ofNight_16 : decode cX6_ofNight 16 = .ok (.invokevirtual 132, 3) := by decide +kernel
theorem dX6_ofNight_19 : decode cX6_ofNight 19 = .ok (.ifCond .ne 5, 3) := by decide +kernel
theorem dX6_ofNight_22 : decode cX6_ofNight 22 = .ok (.iconst (-1), 1) := by decide +kernel
theorem dX6_ofNight_23 : decode cX6_ofNight 23 = .ok (.ireturn, 1) := by decide +kernel
theorem dX6_ofNight_24 : decode cX6_ofNight 24 = .ok (.iload_n 1, 1) := by decide +kernel
theorem dX6_ofNight_25 : decode cX6_ofNight 25 = .ok (.iconst 5, 1) := by decide +kernel
theorem dX6_ofNight_26 : decode cX6_ofNight 26 = .ok (.imul, 1) := by decide +kernel
theorem dX6_ofNight_27 : decode cX6_ofNight 27 = .ok (.iload_n 2, 1) := by decide +kernel
theorem dX6_ofNight_28 : decode cX6_ofNight 28 = .ok (.iadd, 1) := by decide +kernel
theorem dX6_ofNight_29 : decode cX6_ofNight 29 = .ok (.istore 4, 2) := by decide +kernel
theorem dX6_ofNight_31 : decode cX6_ofNight 31 = .ok (.iload_n 3, 1) := by decide +kernel
theorem dX6_ofNight_32 : decode cX6_ofNight 32 = .ok (.tableswitch 61 0 2 #[28, 39, 50], 28) := by decide +kernel
theorem dX6_ofNight_60 : decode cX6_ofNight 60 = .ok (.aload_n 0, 1) := by decide +kernel
theorem dX6_ofNight_61 : decode cX6_ofNight 61 = .ok (.getfield 28, 3) := by decide +kernel
theorem dX6_ofNight_64 : decode cX6_ofNight 64 = .ok (.getfield 152, 3) := by decide +kernel
theorem dX6_ofNight_67 : decode cX6_ofNight 67 = .ok (.iload 4, 2) := by decide +kernel
theorem dX6_ofNight_69 : decode cX6_ofNight 69 = .ok (.iaload, 1) := by decide +kernel
theorem dX6_ofNight_70 : decode cX6_ofNight 70 = .ok (.ireturn, 1) := by decide +kernel
theorem dX6_ofNight_71 : decode cX6_ofNight 71 = .ok (.aload_n 0, 1) := by decide +kernel
theorem dX6_ofNight_72 : decode cX6_ofNight 72 = .ok (.getfield 28, 3) := by decide +kernel
theorem dX6_ofNight_75 : decode cX6_ofNight 75 = .ok (.getfield 155, 3) := by decide +kernel
theorem dX6_ofNight_78 : decode cX6_ofNight 78 = .ok (.iload 4, 2) := by decide +kernel
theorem dX6_ofNight_80 : decode cX6_ofNight 80 = .ok (.iaload, 1) := by decide +kernel
theorem dX6_ofNight_81 : decode cX6_ofNight 81 = .ok (.ireturn, 1) := by decide +kernel
theorem dX6_ofNight_82 : decode cX6_ofNight 82 = .ok (.aload_n 0, 1) := by decide +kernel
theorem dX6_ofNight_83 : decode cX6_ofNight 83 = .ok (.getfield 28, 3) := by decide +kernel
theorem dX6_ofNight_86 : decode cX6_ofNight 86 = .ok (.getfield 158, 3) := by decide +kernel
theorem dX6_ofNight_89 : decode cX6_ofNight 89 = .ok (.iload 4, 2) := by decide +kernel
theorem dX6_ofNight_91 : decode cX6_ofNight 91 = .ok (.iaload, 1) := by decide +kernel
theorem dX6_ofNight_92 : decode cX6_ofNight 92 = .ok (.ireturn, 1) := by decide +kernel
theorem dX6_ofNight_93 : decode cX6_ofNight 93 = .ok (.bipush (-2), 2) := by decide +kernel
theorem dX6_ofNight_95 : decode cX6_ofNight 95 = .ok (.ireturn, 1) := by decide +kernel
theorem dX6_undo_0 : decode cX6_undo 0 = .ok (.iload_n 1, 1) := by decide +kernel
theorem dX6_undo_1 : decode cX6_undo 1 = .ok (.ifCond .lt 14, 3) := by decide +kernel
theorem dX6_undo_4 : decode cX6_undo 4 = .ok (.iload_n 1, 1) := by decide +kernel
theorem dX6_undo_5 : decode cX6_undo 5 = .ok (.aload_n 0, 1) := by decide +kernel
theorem dX6_undo_6 : decode cX6_undo 6 = .ok (.getfield 28, 3) := by decide +kernel
theorem dX6_undo_9 : decode cX6_undo 9 = .ok (.getfield 138, 3) := by decide +kernel
theorem dX6_undo_12 : decode cX6_undo 12 = .ok (.if_icmp .le 6, 3) := by decide +kernel
theorem dX6_undo_15 : decode cX6_undo 15 = .ok (.bipush (-2), 2) := by decide +kernel
theorem dX6_undo_17 : decode cX6_undo 17 = .ok (.ireturn, 1) := by decide +kernel
theorem dX6_undo_18 : decode cX6_undo 18 = .ok (.aload_n 0, 1) := by decide +kernel
theorem dX6_undo_19 : decode cX6_undo 19 = .ok (.getfield 28, 3) := by decide +kernel
theorem dX6_undo_22 : decode cX6_undo 22 = .ok (.iload_n 1, 1) := by decide +kernel
theorem dX6_undo_23 : decode cX6_undo 23 = .ok (.invokevirtual 161, 3) := by decide +kernel
theorem dX6_undo_26 : decode cX6_undo 26 = .ok (.aload_n 0, 1) := by decide +kernel
theorem dX6_undo_27 : decode cX6_undo 27 = .ok (.getfield 28, 3) := by decide +kernel
theorem dX6_undo_30 : decode cX6_undo 30 = .ok (.getfield 138, 3) := by decide +kernel
theorem dX6_undo_33 : decode cX6_undo 33 = .ok (.ireturn, 1) := by decide +kernel
theorem dX6_lay_0 : decode cX6_lay 0 = .ok (.aload_n 0, 1) := by decide +kernel
theorem dX6_lay_1 : decode cX6_lay 1 = .ok (.getfield 28, 3) := by decide +kernel
theorem dX6_lay_4 : decode cX6_lay 4 = .ok (.iload_n 1, 1) := by decide +kernel
theorem dX6_lay_5 : decode cX6_lay 5 = .ok (.invokevirtual 132, 3) := by decide +kernel
theorem dX6_lay_8 : decode cX6_lay 8 = .ok (.ifCond .eq 14, 3) := by decide +kernel
theorem dX6_lay_11 : decode cX6_lay 11 = .ok (.aload_n 0, 1) := by decide +kernel
theorem dX6_lay_12 : decode cX6_lay 12 = .ok (.getfield 28, 3) := by decide +kernel
theorem dX6_lay_15 : decode cX6_lay 15 = .ok (.iload_n 2, 1) := by decide +kernel
theorem dX6_lay_16 : decode cX6_lay 16 = .ok (.invokevirtual 132, 3) := by decide +kernel
theorem dX6_lay_19 : decode cX6_lay 19 = .ok (.ifCond .ne 5, 3) := by decide +kernel
theorem dX6_lay_22 : decode cX6_lay 22 = .ok (.iconst (-1), 1) := by decide +kernel
theorem dX6_lay_23 : decode cX6_lay 23 = .ok (.ireturn, 1) := by decide +kernel
theorem dX6_lay_24 : decode cX6_lay 24 = .ok (.aload_n 0, 1) := by decide +kernel
theorem dX6_lay_25 : decode cX6_lay 25 = .ok (.getfield 28, 3) := by decide +kernel
theorem dX6_lay_28 : decode cX6_lay 28 = .ok (.iload_n 1, 1) := by decide +kernel
theorem dX6_lay_29 : decode cX6_lay 29 = .ok (.iload_n 2, 1) := by decide +kernel
theorem dX6_lay_30 : decode cX6_lay 30 = .ok (.invokevirtual 165, 3) := by decide +kernel
theorem dX6_lay_33 : decode cX6_lay 33 = .ok (.ireturn, 1) := by decide +kernel
theorem dX6_tonight_0 : decode cX6_tonight 0 = .ok (.aload_n 0, 1) := by decide +kernel
theorem dX6_tonight_1 : decode cX6_tonight 1 = .ok (.getfield 28, 3) := by decide +kernel
theorem dX6_tonight_4 : decode cX6_tonight 4 = .ok (.iload_n 1, 1) := by decide +kernel
theorem dX6_tonight_5 : decode cX6_tonight 5 = .ok (.invokevirtual 132, 3) := by decide +kernel
theorem dX6_tonight_8 : decode cX6_tonight 8 = .ok (.ifCond .ne 5, 3) := by decide +kernel
theorem dX6_tonight_11 : decode cX6_tonight 11 = .ok (.iconst (-1), 1) := by decide +kernel
theorem dX6_tonight_12 : decode cX6_tonight 12 = .ok (.ireturn, 1) := by decide +kernel
theorem dX6_tonight_13 : decode cX6_tonight 13 = .ok (.aload_n 0, 1) := by decide +kernel
theorem dX6_tonight_14 : decode cX6_tonight 14 = .ok (.getfield 28, 3) := by decide +kernel
theorem dX6_tonight_17 : decode cX6_tonight 17 = .ok (.aload_n 0, 1) := by decide +kernel
theorem dX6_tonight_18 : decode cX6_tonight 18 = .ok (.getfield 35, 3) := by decide +kernel
theorem dX6_tonight_21 : decode cX6_tonight 21 = .ok (.invokevirtual 141, 3) := by decide +kernel
theorem dX6_tonight_24 : decode cX6_tonight 24 = .ok (.iload_n 2, 1) := by decide +kernel
theorem dX6_tonight_25 : decode cX6_tonight 25 = .ok (.tableswitch 64 0 2 #[27, 37, 55], 27) := by decide +kernel
theorem dX6_tonight_52 : decode cX6_tonight 52 = .ok (.aload_n 0, 1) := by decide +kernel
theorem dX6_tonight_53 : decode cX6_tonight 53 = .ok (.getfield 28, 3) := by decide +kernel
theorem dX6_tonight_56 : decode cX6_tonight 56 = .ok (.getfield 135, 3) := by decide +kernel
theorem dX6_tonight_59 : decode cX6_tonight 59 = .ok (.iload_n 1, 1) := by decide +kernel
theorem dX6_tonight_60 : decode cX6_tonight 60 = .ok (.iaload, 1) := by decide +kernel
theorem dX6_tonight_61 : decode cX6_tonight 61 = .ok (.ireturn, 1) := by decide +kernel
theorem dX6_tonight_62 : decode cX6_tonight 62 = .ok (.aload_n 0, 1) := by decide +kernel
theorem dX6_tonight_63 : decode cX6_tonight 63 = .ok (.getfield 35, 3) := by decide +kernel
theorem dX6_tonight_66 : decode cX6_tonight 66 = .ok (.iload_n 1, 1) := by decide +kernel
theorem dX6_tonight_67 : decode cX6_tonight 67 = .ok (.aload_n 0, 1) := by decide +kernel
theorem dX6_tonight_68 : decode cX6_tonight 68 = .ok (.getfield 35, 3) := by decide +kernel
theorem dX6_tonight_71 : decode cX6_tonight 71 = .ok (.getfield 169, 3) := by decide +kernel
theorem dX6_tonight_74 : decode cX6_tonight 74 = .ok (.iload_n 1, 1) := by decide +kernel
theorem dX6_tonight_75 : decode cX6_tonight 75 = .ok (.iaload, 1) := by decide +kernel
theorem dX6_tonight_76 : decode cX6_tonight 76 = .ok (.invokevirtual 172, 3) := by decide +kernel
theorem dX6_tonight_79 : decode cX6_tonight 79 = .ok (.ireturn, 1) := by decide +kernel
theorem dX6_tonight_80 : decode cX6_tonight 80 = .ok (.aload_n 0, 1) := by decide +kernel
theorem dX6_tonight_81 : decode cX6_tonight 81 = .ok (.getfield 35, 3) := by decide +kernel
theorem dX6_tonight_84 : decode cX6_tonight 84 = .ok (.iload_n 1, 1) := by decide +kernel
theorem dX6_tonight_85 : decode cX6_tonight 85 = .ok (.invokevirtual 175, 3) := by decide +kernel
theorem dX6_tonight_88 : decode cX6_tonight 88 = .ok (.ireturn, 1) := by decide +kernel
theorem dX6_tonight_89 : decode cX6_tonight 89 = .ok (.bipush (-2), 2) := by decide +kernel
theorem dX6_tonight_91 : decode cX6_tonight 91 = .ok (.ireturn, 1) := by decide +kernel
theorem dX6_answer_0 : decode cX6_answer 0 = .ok (.aload_n 0, 1) := by decide +kernel
theorem dX6_answer_1 : decode cX6_answer 1 = .ok (.iload_n 1, 1) := by decide +kernel
theorem dX6_answer_2 : decode cX6_answer 2 = .ok (.iload_n 2, 1) := by decide +kernel
theorem dX6_answer_3 : decode cX6_answer 3 = .ok (.iconst 0, 1) := by decide +kernel
theorem dX6_answer_4 : decode cX6_answer 4 = .ok (.invokevirtual 178, 3) := by decide +kernel
theorem dX6_answer_7 : decode cX6_answer 7 = .ok (.ireturn, 1) := by decide +kernel
theorem dX6_borrowed_0 : decode cX6_borrowed 0 = .ok (.aload_n 0, 1) := by decide +kernel
theorem dX6_borrowed_1 : decode cX6_borrowed 1 = .ok (.iload_n 1, 1) := by decide +kernel
theorem dX6_borrowed_2 : decode cX6_borrowed 2 = .ok (.iload_n 2, 1) := by decide +kernel
theorem dX6_borrowed_3 : decode cX6_borrowed 3 = .ok (.iconst 1, 1) := by decide +kernel
theorem dX6_borrowed_4 : decode cX6_borrowed 4 = .ok (.invokevirtual 178, 3) := by decide +kernel
theorem dX6_borrowed_7 : decode cX6_borrowed 7 = .ok (.ireturn, 1) := by decide +kernel
theorem dX6_bishop_0 : decode cX6_bishop 0 = .ok (.iload_n 1, 1) := by decide +kernel
theorem dX6_bishop_1 : decode cX6_bishop 1 = .ok (.ifCond .lt 10, 3) := by decide +kernel
theorem dX6_bishop_4 : decode cX6_bishop 4 = .ok (.iload_n 1, 1) := by decide +kernel
theorem dX6_bishop_5 : decode cX6_bishop 5 = .ok (.sipush 999, 3) := by decide +kernel
theorem dX6_bishop_8 : decode cX6_bishop 8 = .ok (.if_icmp .le 6, 3) := by decide +kernel
theorem dX6_bishop_11 : decode cX6_bishop 11 = .ok (.bipush (-2), 2) := by decide +kernel
theorem dX6_bishop_13 : decode cX6_bishop 13 = .ok (.ireturn, 1) := by decide +kernel
theorem dX6_bishop_14 : decode cX6_bishop 14 = .ok (.aload_n 0, 1) := by decide +kernel
theorem dX6_bishop_15 : decode cX6_bishop 15 = .ok (.getfield 28, 3) := by decide +kernel
theorem dX6_bishop_18 : decode cX6_bishop 18 = .ok (.invokevirtual 125, 3) := by decide +kernel
theorem dX6_bishop_21 : decode cX6_bishop 21 = .ok (.ifCond .ne 6, 3) := by decide +kernel
theorem dX6_bishop_24 : decode cX6_bishop 24 = .ok (.bipush (-3), 2) := by decide +kernel
theorem dX6_bishop_26 : decode cX6_bishop 26 = .ok (.ireturn, 1) := by decide +kernel
theorem dX6_bishop_27 : decode cX6_bishop 27 = .ok (.aload_n 0, 1) := by decide +kernel
theorem dX6_bishop_28 : decode cX6_bishop 28 = .ok (.getfield 28, 3) := by decide +kernel
theorem dX6_bishop_31 : decode cX6_bishop 31 = .ok (.aload_n 0, 1) := by decide +kernel
theorem dX6_bishop_32 : decode cX6_bishop 32 = .ok (.getfield 35, 3) := by decide +kernel
theorem dX6_bishop_35 : decode cX6_bishop 35 = .ok (.invokevirtual 141, 3) := by decide +kernel
theorem dX6_bishop_38 : decode cX6_bishop 38 = .ok (.aload_n 0, 1) := by decide +kernel
theorem dX6_bishop_39 : decode cX6_bishop 39 = .ok (.getfield 35, 3) := by decide +kernel
theorem dX6_bishop_42 : decode cX6_bishop 42 = .ok (.iload_n 1, 1) := by decide +kernel
theorem dX6_bishop_43 : decode cX6_bishop 43 = .ok (.invokevirtual 182, 3) := by decide +kernel
theorem dX6_bishop_46 : decode cX6_bishop 46 = .ok (.ireturn, 1) := by decide +kernel
theorem dX6_sheet_0 : decode cX6_sheet 0 = .ok (.aload_n 0, 1) := by decide +kernel
theorem dX6_sheet_1 : decode cX6_sheet 1 = .ok (.iconst 0, 1) := by decide +kernel
theorem dX6_sheet_2 : decode cX6_sheet 2 = .ok (.putfield 61, 3) := by decide +kernel
theorem dX6_sheet_5 : decode cX6_sheet 5 = .ok (.iload_n 1, 1) := by decide +kernel
theorem dX6_sheet_6 : decode cX6_sheet 6 = .ok (.invokestatic 65, 3) := by decide +kernel
theorem dX6_sheet_9 : decode cX6_sheet 9 = .ok (.ifCond .ne 5, 3) := by decide +kernel
theorem dX6_sheet_12 : decode cX6_sheet 12 = .ok (.iconst (-1), 1) := by decide +kernel
theorem dX6_sheet_13 : decode cX6_sheet 13 = .ok (.ireturn, 1) := by decide +kernel
theorem dX6_sheet_14 : decode cX6_sheet 14 = .ok (.iload_n 2, 1) := by decide +kernel
theorem dX6_sheet_15 : decode cX6_sheet 15 = .ok (.invokestatic 69, 3) := by decide +kernel
theorem dX6_sheet_18 : decode cX6_sheet 18 = .ok (.ifCond .eq 9, 3) := by decide +kernel
theorem dX6_sheet_21 : decode cX6_sheet 21 = .ok (.iload_n 3, 1) := by decide +kernel
theorem dX6_sheet_22 : decode cX6_sheet 22 = .ok (.bipush 60, 2) := by decide +kernel
theorem dX6_sheet_24 : decode cX6_sheet 24 = .ok (.if_icmp .le 6, 3) := by decide +kernel
theorem dX6_sheet_27 : decode cX6_sheet 27 = .ok (.bipush (-2), 2) := by decide +kernel
theorem dX6_sheet_29 : decode cX6_sheet 29 = .ok (.ireturn, 1) := by decide +kernel
theorem dX6_sheet_30 : decode cX6_sheet 30 = .ok (.iload_n 3, 1) := by decide +kernel
theorem dX6_sheet_31 : decode cX6_sheet 31 = .ok (.ifCond .ge 9, 3) := by decide +kernel
theorem dX6_sheet_34 : decode cX6_sheet 34 = .ok (.aload_n 0, 1) := by decide +kernel
theorem dX6_sheet_35 : decode cX6_sheet 35 = .ok (.iconst 4, 1) := by decide +kernel
theorem dX6_sheet_36 : decode cX6_sheet 36 = .ok (.invokevirtual 76, 3) := by decide +kernel
theorem dX6_sheet_39 : decode cX6_sheet 39 = .ok (.ireturn, 1) := by decide +kernel
theorem dX6_sheet_40 : decode cX6_sheet 40 = .ok (.aload_n 0, 1) := by decide +kernel
theorem dX6_sheet_41 : decode cX6_sheet 41 = .ok (.getfield 12, 3) := by decide +kernel
theorem dX6_sheet_44 : decode cX6_sheet 44 = .ok (.iload_n 1, 1) := by decide +kernel
theorem dX6_sheet_45 : decode cX6_sheet 45 = .ok (.iload_n 2, 1) := by decide +kernel
theorem dX6_sheet_46 : decode cX6_sheet 46 = .ok (.iload_n 3, 1) := by decide +kernel
theorem dX6_sheet_47 : decode cX6_sheet 47 = .ok (.invokevirtual 218, 3) := by decide +kernel
theorem dX6_sheet_50 : decode cX6_sheet 50 = .ok (.iconst 1, 1) := by decide +kernel
theorem dX6_sheet_51 : decode cX6_sheet 51 = .ok (.ireturn, 1) := by decide +kernel
theorem dX6_put_0 : decode cX6_put 0 = .ok (.aload_n 0, 1) := by decide +kernel
theorem dX6_put_1 : decode cX6_put 1 = .ok (.iconst 0, 1) := by decide +kernel
theorem dX6_put_2 : decode cX6_put 2 = .ok (.putfield 61, 3) := by decide +kernel
theorem dX6_put_5 : decode cX6_put 5 = .ok (.iload_n 1, 1) := by decide +kernel
theorem dX6_put_6 : decode cX6_put 6 = .ok (.invokestatic 65, 3) := by decide +kernel
theorem dX6_put_9 : decode cX6_put 9 = .ok (.ifCond .ne 5, 3) := by decide +kernel
theorem dX6_put_12 : decode cX6_put 12 = .ok (.iconst (-1), 1) := by decide +kernel
theorem dX6_put_13 : decode cX6_put 13 = .ok (.ireturn, 1) := by decide +kernel
theorem dX6_put_14 : decode cX6_put 14 = .ok (.aload_n 0, 1) := by decide +kernel
theorem dX6_put_15 : decode cX6_put 15 = .ok (.getfield 12, 3) := by decide +kernel
theorem dX6_put_18 : decode cX6_put 18 = .ok (.iload_n 1, 1) := by decide +kernel
theorem dX6_put_19 : decode cX6_put 19 = .ok (.invokevirtual 225, 3) := by decide +kernel
theorem dX6_put_22 : decode cX6_put 22 = .ok (.ifCond .ne 9, 3) := by decide +kernel
theorem dX6_put_25 : decode cX6_put 25 = .ok (.aload_n 0, 1) := by decide +kernel
theorem dX6_put_26 : decode cX6_put 26 = .ok (.iconst 1, 1) := by decide +kernel
theorem dX6_put_27 : decode cX6_put 27 = .ok (.invokevirtual 76, 3) := by decide +kernel
theorem dX6_put_30 : decode cX6_put 30 = .ok (.ireturn, 1) := by decide +kernel
theorem dX6_put_31 : decode cX6_put 31 = .ok (.aload_n 0, 1) := by decide +kernel
theorem dX6_put_32 : decode cX6_put 32 = .ok (.getfield 12, 3) := by decide +kernel
theorem dX6_put_35 : decode cX6_put 35 = .ok (.iload_n 1, 1) := by decide +kernel
theorem dX6_put_36 : decode cX6_put 36 = .ok (.iload_n 2, 1) := by decide +kernel
theorem dX6_put_37 : decode cX6_put 37 = .ok (.iconst 1, 1) := by decide +kernel
theorem dX6_put_38 : decode cX6_put 38 = .ok (.invokevirtual 228, 3) := by decide +kernel
theorem dX6_put_41 : decode cX6_put 41 = .ok (.ifCond .ne 9, 3) := by decide +kernel
theorem dX6_put_44 : decode cX6_put 44 = .ok (.aload_n 0, 1) := by decide +kernel
theorem dX6_put_45 : decode cX6_put 45 = .ok (.iconst 3, 1) := by decide +kernel
theorem dX6_put_46 : decode cX6_put 46 = .ok (.invokevirtual 76, 3) := by decide +kernel
theorem dX6_put_49 : decode cX6_put 49 = .ok (.ireturn, 1) := by decide +kernel
theorem dX6_put_50 : decode cX6_put 50 = .ok (.aload_n 0, 1) := by decide +kernel
theorem dX6_put_51 : decode cX6_put 51 = .ok (.getfield 12, 3) := by decide +kernel
theorem dX6_put_54 : decode cX6_put 54 = .ok (.iload_n 1, 1) := by decide +kernel
theorem dX6_put_55 : decode cX6_put 55 = .ok (.iload_n 2, 1) := by decide +kernel
theorem dX6_put_56 : decode cX6_put 56 = .ok (.iload_n 3, 1) := by decide +kernel
theorem dX6_put_57 : decode cX6_put 57 = .ok (.invokevirtual 232, 3) := by decide +kernel
theorem dX6_put_60 : decode cX6_put 60 = .ok (.iconst 1, 1) := by decide +kernel
theorem dX6_put_61 : decode cX6_put 61 = .ok (.ireturn, 1) := by decide +kernel
theorem dX6_many_0 : decode cX6_many 0 = .ok (.iload_n 1, 1) := by decide +kernel
theorem dX6_many_1 : decode cX6_many 1 = .ok (.tableswitch 63 0 3 #[31, 39, 47, 55], 31) := by decide +kernel
theorem dX6_many_32 : decode cX6_many 32 = .ok (.aload_n 0, 1) := by decide +kernel
theorem dX6_many_33 : decode cX6_many 33 = .ok (.getfield 28, 3) := by decide +kernel
theorem dX6_many_36 : decode cX6_many 36 = .ok (.getfield 208, 3) := by decide +kernel
theorem dX6_many_39 : decode cX6_many 39 = .ok (.ireturn, 1) := by decide +kernel
theorem dX6_many_40 : decode cX6_many 40 = .ok (.aload_n 0, 1) := by decide +kernel
theorem dX6_many_41 : decode cX6_many 41 = .ok (.getfield 28, 3) := by decide +kernel
theorem dX6_many_44 : decode cX6_many 44 = .ok (.getfield 98, 3) := by decide +kernel
theorem dX6_many_47 : decode cX6_many 47 = .ok (.ireturn, 1) := by decide +kernel
theorem dX6_many_48 : decode cX6_many 48 = .ok (.aload_n 0, 1) := by decide +kernel
theorem dX6_many_49 : decode cX6_many 49 = .ok (.getfield 28, 3) := by decide +kernel
theorem dX6_many_52 : decode cX6_many 52 = .ok (.getfield 138, 3) := by decide +kernel
theorem dX6_many_55 : decode cX6_many 55 = .ok (.ireturn, 1) := by decide +kernel
theorem dX6_many_56 : decode cX6_many 56 = .ok (.aload_n 0, 1) := by decide +kernel
theorem dX6_many_57 : decode cX6_many 57 = .ok (.getfield 28, 3) := by decide +kernel
theorem dX6_many_60 : decode cX6_many 60 = .ok (.getfield 129, 3) := by decide +kernel
theorem dX6_many_63 : decode cX6_many 63 = .ok (.ireturn, 1) := by decide +kernel
theorem dX6_many_64 : decode cX6_many 64 = .ok (.bipush (-2), 2) := by decide +kernel
theorem dX6_many_66 : decode cX6_many 66 = .ok (.ireturn, 1) := by decide +kernel
theorem dX6_isSheet_0 : decode cX6_isSheet 0 = .ok (.iload_n 0, 1) := by decide +kernel
theorem dX6_isSheet_1 : decode cX6_isSheet 1 = .ok (.ifCond .lt 12, 3) := by decide +kernel
theorem dX6_isSheet_4 : decode cX6_isSheet 4 = .ok (.iload_n 0, 1) := by decide +kernel
theorem dX6_isSheet_5 : decode cX6_isSheet 5 = .ok (.iconst 4, 1) := by decide +kernel
theorem dX6_isSheet_6 : decode cX6_isSheet 6 = .ok (.if_icmp .ge 7, 3) := by decide +kernel
theorem dX6_isSheet_9 : decode cX6_isSheet 9 = .ok (.iconst 1, 1) := by decide +kernel
theorem dX6_isSheet_10 : decode cX6_isSheet 10 = .ok (.goto 4, 3) := by decide +kernel
theorem dX6_isSheet_13 : decode cX6_isSheet 13 = .ok (.iconst 0, 1) := by decide +kernel
theorem dX6_isSheet_14 : decode cX6_isSheet 14 = .ok (.ireturn, 1) := by decide +kernel
theorem dX6_isSort_0 : decode cX6_isSort 0 = .ok (.iload_n 0, 1) := by decide +kernel
theorem dX6_isSort_1 : decode cX6_isSort 1 = .ok (.ifCond .lt 12, 3) := by decide +kernel
theorem dX6_isSort_4 : decode cX6_isSort 4 = .ok (.iload_n 0, 1) := by decide +kernel
theorem dX6_isSort_5 : decode cX6_isSort 5 = .ok (.iconst 2, 1) := by decide +kernel
theorem dX6_isSort_6 : decode cX6_isSort 6 = .ok (.if_icmp .gt 7, 3) := by decide +kernel
theorem dX6_isSort_9 : decode cX6_isSort 9 = .ok (.iconst 1, 1) := by decide +kernel
theorem dX6_isSort_10 : decode cX6_isSort 10 = .ok (.goto 4, 3) := by decide +kernel
theorem dX6_isSort_13 : decode cX6_isSort 13 = .ok (.iconst 0, 1) := by decide +kernel
theorem dX6_isSort_14 : decode cX6_isSort 14 = .ok (.ireturn, 1) := by decide +kernel
theorem dX6_faulty_0 : decode cX6_faulty 0 = .ok (.aload_n 0, 1) := by decide +kernel
theorem dX6_faulty_1 : decode cX6_faulty 1 = .ok (.iload_n 1, 1) := by decide +kernel
theorem dX6_faulty_2 : decode cX6_faulty 2 = .ok (.putfield 61, 3) := by decide +kernel
theorem dX6_faulty_5 : decode cX6_faulty 5 = .ok (.bipush (-10), 2) := by decide +kernel
theorem dX6_faulty_7 : decode cX6_faulty 7 = .ok (.iload_n 1, 1) := by decide +kernel
theorem dX6_faulty_8 : decode cX6_faulty 8 = .ok (.isub, 1) := by decide +kernel
theorem dX6_faulty_9 : decode cX6_faulty 9 = .ok (.ireturn, 1) := by decide +kernel
theorem dX6_bestReply_0 : decode cX6_bestReply 0 = .ok (.aload_n 0, 1) := by decide +kernel
theorem dX6_bestReply_1 : decode cX6_bestReply 1 = .ok (.getfield 28, 3) := by decide +kernel
theorem dX6_bestReply_4 : decode cX6_bestReply 4 = .ok (.iload_n 1, 1) := by decide +kernel
theorem dX6_bestReply_5 : decode cX6_bestReply 5 = .ok (.invokevirtual 132, 3) := by decide +kernel
theorem dX6_bestReply_8 : decode cX6_bestReply 8 = .ok (.ifCond .ne 5, 3) := by decide +kernel
theorem dX6_bestReply_11 : decode cX6_bestReply 11 = .ok (.iconst (-1), 1) := by decide +kernel
theorem dX6_bestReply_12 : decode cX6_bestReply 12 = .ok (.ireturn, 1) := by decide +kernel
theorem dX6_bestReply_13 : decode cX6_bestReply 13 = .ok (.iload_n 2, 1) := by decide +kernel
theorem dX6_bestReply_14 : decode cX6_bestReply 14 = .ok (.ifCond .lt 8, 3) := by decide +kernel
theorem dX6_bestReply_17 : decode cX6_bestReply 17 = .ok (.iload_n 2, 1) := by decide +kernel
theorem dX6_bestReply_18 : decode cX6_bestReply 18 = .ok (.iconst 1, 1) := by decide +kernel
theorem dX6_bestReply_19 : decode cX6_bestReply 19 = .ok (.if_icmp .le 6, 3) := by decide +kernel
theorem dX6_bestReply_22 : decode cX6_bestReply 22 = .ok (.bipush (-2), 2) := by decide +kernel
theorem dX6_bestReply_24 : decode cX6_bestReply 24 = .ok (.ireturn, 1) := by decide +kernel
theorem dX6_bestReply_25 : decode cX6_bestReply 25 = .ok (.aload_n 0, 1) := by decide +kernel
theorem dX6_bestReply_26 : decode cX6_bestReply 26 = .ok (.getfield 28, 3) := by decide +kernel
theorem dX6_bestReply_29 : decode cX6_bestReply 29 = .ok (.aload_n 0, 1) := by decide +kernel
theorem dX6_bestReply_30 : decode cX6_bestReply 30 = .ok (.getfield 35, 3) := by decide +kernel
theorem dX6_bestReply_33 : decode cX6_bestReply 33 = .ok (.invokevirtual 141, 3) := by decide +kernel
theorem dX6_bestReply_36 : decode cX6_bestReply 36 = .ok (.bipush (-9), 2) := by decide +kernel
theorem dX6_bestReply_38 : decode cX6_bestReply 38 = .ok (.istore 4, 2) := by decide +kernel
theorem dX6_bestReply_40 : decode cX6_bestReply 40 = .ok (.iconst 0, 1) := by decide +kernel
theorem dX6_bestReply_41 : decode cX6_bestReply 41 = .ok (.istore 5, 2) := by decide +kernel
theorem dX6_bestReply_43 : decode cX6_bestReply 43 = .ok (.iload 5, 2) := by decide +kernel
theorem dX6_bestReply_45 : decode cX6_bestReply 45 = .ok (.aload_n 0, 1) := by decide +kernel
theorem dX6_bestReply_46 : decode cX6_bestReply 46 = .ok (.getfield 28, 3) := by decide +kernel
theorem dX6_bestReply_49 : decode cX6_bestReply 49 = .ok (.getfield 98, 3) := by decide +kernel
theorem dX6_bestReply_52 : decode cX6_bestReply 52 = .ok (.if_icmp .ge 49, 3) := by decide +kernel
theorem dX6_bestReply_55 : decode cX6_bestReply 55 = .ok (.aload_n 0, 1) := by decide +kernel
theorem dX6_bestReply_56 : decode cX6_bestReply 56 = .ok (.getfield 28, 3) := by decide +kernel
theorem dX6_bestReply_59 : decode cX6_bestReply 59 = .ok (.iload_n 1, 1) := by decide +kernel
theorem dX6_bestReply_60 : decode cX6_bestReply 60 = .ok (.iload 5, 2) := by decide +kernel
theorem dX6_bestReply_62 : decode cX6_bestReply 62 = .ok (.iload_n 3, 1) := by decide +kernel
theorem dX6_bestReply_63 : decode cX6_bestReply 63 = .ok (.invokevirtual 262, 3) := by decide +kernel
theorem dX6_bestReply_66 : decode cX6_bestReply 66 = .ok (.ifCond .ne 6, 3) := by decide +kernel
theorem dX6_bestReply_69 : decode cX6_bestReply 69 = .ok (.goto 26, 3) := by decide +kernel
theorem dX6_bestReply_72 : decode cX6_bestReply 72 = .ok (.iload 4, 2) := by decide +kernel
theorem dX6_bestReply_74 : decode cX6_bestReply 74 = .ok (.bipush (-9), 2) := by decide +kernel
theorem dX6_bestReply_76 : decode cX6_bestReply 76 = .ok (.if_icmp .eq 15, 3) := by decide +kernel
theorem dX6_bestReply_79 : decode cX6_bestReply 79 = .ok (.aload_n 0, 1) := by decide +kernel
theorem dX6_bestReply_80 : decode cX6_bestReply 80 = .ok (.iload_n 1, 1) := by decide +kernel
theorem dX6_bestReply_81 : decode cX6_bestReply 81 = .ok (.iload 5, 2) := by decide +kernel
theorem dX6_bestReply_83 : decode cX6_bestReply 83 = .ok (.iload 4, 2) := by decide +kernel
theorem dX6_bestReply_85 : decode cX6_bestReply 85 = .ok (.invokevirtual 266, 3) := by decide +kernel
theorem dX6_bestReply_88 : decode cX6_bestReply 88 = .ok (.ifCond .eq 7, 3) := by decide +kernel
theorem dX6_bestReply_91 : decode cX6_bestReply 91 = .ok (.iload 5, 2) := by decide +kernel
theorem dX6_bestReply_93 : decode cX6_bestReply 93 = .ok (.istore 4, 2) := by decide +kernel
theorem dX6_bestReply_95 : decode cX6_bestReply 95 = .ok (.iinc 5 1, 3) := by decide +kernel
theorem dX6_bestReply_98 : decode cX6_bestReply 98 = .ok (.goto (-55), 3) := by decide +kernel
theorem dX6_bestReply_101 : decode cX6_bestReply 101 = .ok (.iload_n 2, 1) := by decide +kernel
theorem dX6_bestReply_102 : decode cX6_bestReply 102 = .ok (.ifCond .eq 10, 3) := by decide +kernel
theorem dX6_bestReply_105 : decode cX6_bestReply 105 = .ok (.iload 4, 2) := by decide +kernel
theorem dX6_bestReply_107 : decode cX6_bestReply 107 = .ok (.bipush (-9), 2) := by decide +kernel
theorem dX6_bestReply_109 : decode cX6_bestReply 109 = .ok (.if_icmp .ne 6, 3) := by decide +kernel
theorem dX6_bestReply_112 : decode cX6_bestReply 112 = .ok (.iload 4, 2) := by decide +kernel
theorem dX6_bestReply_114 : decode cX6_bestReply 114 = .ok (.ireturn, 1) := by decide +kernel
theorem dX6_bestReply_115 : decode cX6_bestReply 115 = .ok (.aload_n 0, 1) := by decide +kernel
theorem dX6_bestReply_116 : decode cX6_bestReply 116 = .ok (.getfield 35, 3) := by decide +kernel
theorem dX6_bestReply_119 : decode cX6_bestReply 119 = .ok (.iload_n 1, 1) := by decide +kernel
theorem dX6_bestReply_120 : decode cX6_bestReply 120 = .ok (.aload_n 0, 1) := by decide +kernel
theorem dX6_bestReply_121 : decode cX6_bestReply 121 = .ok (.getfield 28, 3) := by decide +kernel
theorem dX6_bestReply_124 : decode cX6_bestReply 124 = .ok (.iload 4, 2) := by decide +kernel
theorem dX6_bestReply_126 : decode cX6_bestReply 126 = .ok (.invokevirtual 122, 3) := by decide +kernel
theorem dX6_bestReply_129 : decode cX6_bestReply 129 = .ok (.invokevirtual 172, 3) := by decide +kernel
theorem dX6_bestReply_132 : decode cX6_bestReply 132 = .ok (.ireturn, 1) := by decide +kernel
theorem dX6_isBetterReply_0 : decode cX6_isBetterReply 0 = .ok (.aload_n 0, 1) := by decide +kernel
theorem dX6_isBetterReply_1 : decode cX6_isBetterReply 1 = .ok (.getfield 28, 3) := by decide +kernel
theorem dX6_isBetterReply_4 : decode cX6_isBetterReply 4 = .ok (.iload_n 2, 1) := by decide +kernel
theorem dX6_isBetterReply_5 : decode cX6_isBetterReply 5 = .ok (.invokevirtual 122, 3) := by decide +kernel
theorem dX6_isBetterReply_8 : decode cX6_isBetterReply 8 = .ok (.istore 4, 2) := by decide +kernel
theorem dX6_isBetterReply_10 : decode cX6_isBetterReply 10 = .ok (.aload_n 0, 1) := by decide +kernel
theorem dX6_isBetterReply_11 : decode cX6_isBetterReply 11 = .ok (.getfield 28, 3) := by decide +kernel
theorem dX6_isBetterReply_14 : decode cX6_isBetterReply 14 = .ok (.iload_n 3, 1) := by decide +kernel
theorem dX6_isBetterReply_15 : decode cX6_isBetterReply 15 = .ok (.invokevirtual 122, 3) := by decide +kernel
theorem dX6_isBetterReply_18 : decode cX6_isBetterReply 18 = .ok (.istore 5, 2) := by decide +kernel
theorem dX6_isBetterReply_20 : decode cX6_isBetterReply 20 = .ok (.aload_n 0, 1) := by decide +kernel
theorem dX6_isBetterReply_21 : decode cX6_isBetterReply 21 = .ok (.getfield 35, 3) := by decide +kernel
theorem dX6_isBetterReply_24 : decode cX6_isBetterReply 24 = .ok (.iload_n 1, 1) := by decide +kernel
theorem dX6_isBetterReply_25 : decode cX6_isBetterReply 25 = .ok (.iload 4, 2) := by decide +kernel
theorem dX6_isBetterReply_27 : decode cX6_isBetterReply 27 = .ok (.invokevirtual 172, 3) := by decide +kernel
theorem dX6_isBetterReply_30 : decode cX6_isBetterReply 30 = .ok (.istore 6, 2) := by decide +kernel
theorem dX6_isBetterReply_32 : decode cX6_isBetterReply 32 = .ok (.aload_n 0, 1) := by decide +kernel
theorem dX6_isBetterReply_33 : decode cX6_isBetterReply 33 = .ok (.getfield 35, 3) := by decide +kernel
theorem dX6_isBetterReply_36 : decode cX6_isBetterReply 36 = .ok (.iload_n 1, 1) := by decide +kernel
theorem dX6_isBetterReply_37 : decode cX6_isBetterReply 37 = .ok (.iload 5, 2) := by decide +kernel
theorem dX6_isBetterReply_39 : decode cX6_isBetterReply 39 = .ok (.invokevirtual 172, 3) := by decide +kernel
theorem dX6_isBetterReply_42 : decode cX6_isBetterReply 42 = .ok (.istore 7, 2) := by decide +kernel
theorem dX6_isBetterReply_44 : decode cX6_isBetterReply 44 = .ok (.iload 6, 2) := by decide +kernel
theorem dX6_isBetterReply_46 : decode cX6_isBetterReply 46 = .ok (.iload 7, 2) := by decide +kernel
theorem dX6_isBetterReply_48 : decode cX6_isBetterReply 48 = .ok (.if_icmp .lt 17, 3) := by decide +kernel
theorem dX6_isBetterReply_51 : decode cX6_isBetterReply 51 = .ok (.iload 6, 2) := by decide +kernel
theorem dX6_isBetterReply_53 : decode cX6_isBetterReply 53 = .ok (.iload 7, 2) := by decide +kernel
theorem dX6_isBetterReply_55 : decode cX6_isBetterReply 55 = .ok (.if_icmp .ne 14, 3) := by decide +kernel
theorem dX6_isBetterReply_58 : decode cX6_isBetterReply 58 = .ok (.iload 4, 2) := by decide +kernel
theorem dX6_isBetterReply_60 : decode cX6_isBetterReply 60 = .ok (.iload 5, 2) := by decide +kernel
theorem dX6_isBetterReply_62 : decode cX6_isBetterReply 62 = .ok (.if_icmp .ge 7, 3) := by decide +kernel
theorem dX6_isBetterReply_65 : decode cX6_isBetterReply 65 = .ok (.iconst 1, 1) := by decide +kernel
theorem dX6_isBetterReply_66 : decode cX6_isBetterReply 66 = .ok (.goto 4, 3) := by decide +kernel
theorem dX6_isBetterReply_69 : decode cX6_isBetterReply 69 = .ok (.iconst 0, 1) := by decide +kernel
theorem dX6_isBetterReply_70 : decode cX6_isBetterReply 70 = .ok (.ireturn, 1) := by decide +kernel
