/-! ===== decode rows (printed) ===== -/
theorem dX0_init_0 : decode cX0_init 0 = .ok (.aload_n 0, 1) := by decide +kernel
theorem dX0_init_1 : decode cX0_init 1 = .ok (.invokespecial 3, 3) := by decide +kernel
theorem dX0_init_4 : decode cX0_init 4 = .ok (.aload_n 0, 1) := by decide +kernel
theorem dX0_init_5 : decode cX0_init 5 = .ok (.bipush 10, 2) := by decide +kernel
theorem dX0_init_7 : decode cX0_init 7 = .ok (.newarray .int, 2) := by decide +kernel
theorem dX0_init_9 : decode cX0_init 9 = .ok (.putfield 9, 3) := by decide +kernel
theorem dX0_init_12 : decode cX0_init 12 = .ok (.aload_n 0, 1) := by decide +kernel
theorem dX0_init_13 : decode cX0_init 13 = .ok (.bipush 10, 2) := by decide +kernel
theorem dX0_init_15 : decode cX0_init 15 = .ok (.newarray .int, 2) := by decide +kernel
theorem dX0_init_17 : decode cX0_init 17 = .ok (.putfield 15, 3) := by decide +kernel
theorem dX0_init_20 : decode cX0_init 20 = .ok (.aload_n 0, 1) := by decide +kernel
theorem dX0_init_21 : decode cX0_init 21 = .ok (.bipush 10, 2) := by decide +kernel
theorem dX0_init_23 : decode cX0_init 23 = .ok (.newarray .int, 2) := by decide +kernel
theorem dX0_init_25 : decode cX0_init 25 = .ok (.putfield 18, 3) := by decide +kernel
theorem dX0_init_28 : decode cX0_init 28 = .ok (.aload_n 0, 1) := by decide +kernel
theorem dX0_init_29 : decode cX0_init 29 = .ok (.bipush 10, 2) := by decide +kernel
theorem dX0_init_31 : decode cX0_init 31 = .ok (.newarray .int, 2) := by decide +kernel
theorem dX0_init_33 : decode cX0_init 33 = .ok (.putfield 21, 3) := by decide +kernel
theorem dX0_init_36 : decode cX0_init 36 = .ok (.aload_n 0, 1) := by decide +kernel
theorem dX0_init_37 : decode cX0_init 37 = .ok (.bipush 10, 2) := by decide +kernel
theorem dX0_init_39 : decode cX0_init 39 = .ok (.newarray .int, 2) := by decide +kernel
theorem dX0_init_41 : decode cX0_init 41 = .ok (.putfield 24, 3) := by decide +kernel
theorem dX0_init_44 : decode cX0_init 44 = .ok (.aload_n 0, 1) := by decide +kernel
theorem dX0_init_45 : decode cX0_init 45 = .ok (.iconst 5, 1) := by decide +kernel
theorem dX0_init_46 : decode cX0_init 46 = .ok (.newarray .int, 2) := by decide +kernel
theorem dX0_init_48 : decode cX0_init 48 = .ok (.putfield 27, 3) := by decide +kernel
theorem dX0_init_51 : decode cX0_init 51 = .ok (.aload_n 0, 1) := by decide +kernel
theorem dX0_init_52 : decode cX0_init 52 = .ok (.sipush 300, 3) := by decide +kernel
theorem dX0_init_55 : decode cX0_init 55 = .ok (.newarray .int, 2) := by decide +kernel
theorem dX0_init_57 : decode cX0_init 57 = .ok (.putfield 30, 3) := by decide +kernel
theorem dX0_init_60 : decode cX0_init 60 = .ok (.aload_n 0, 1) := by decide +kernel
theorem dX0_init_61 : decode cX0_init 61 = .ok (.sipush 300, 3) := by decide +kernel
theorem dX0_init_64 : decode cX0_init 64 = .ok (.newarray .int, 2) := by decide +kernel
theorem dX0_init_66 : decode cX0_init 66 = .ok (.putfield 33, 3) := by decide +kernel
theorem dX0_init_69 : decode cX0_init 69 = .ok (.aload_n 0, 1) := by decide +kernel
theorem dX0_init_70 : decode cX0_init 70 = .ok (.sipush 300, 3) := by decide +kernel
theorem dX0_init_73 : decode cX0_init 73 = .ok (.newarray .int, 2) := by decide +kernel
theorem dX0_init_75 : decode cX0_init 75 = .ok (.putfield 36, 3) := by decide +kernel
theorem dX0_init_78 : decode cX0_init 78 = .ok (.return_, 1) := by decide +kernel
theorem dX0_open_0 : decode cX0_open 0 = .ok (.aload_n 0, 1) := by decide +kernel
theorem dX0_open_1 : decode cX0_open 1 = .ok (.aload_n 1, 1) := by decide +kernel
theorem dX0_open_2 : decode cX0_open 2 = .ok (.invokevirtual 39, 3) := by decide +kernel
theorem dX0_open_5 : decode cX0_open 5 = .ok (.putfield 45, 3) := by decide +kernel
theorem dX0_open_8 : decode cX0_open 8 = .ok (.aload_n 0, 1) := by decide +kernel
theorem dX0_open_9 : decode cX0_open 9 = .ok (.aload_n 1, 1) := by decide +kernel
theorem dX0_open_10 : decode cX0_open 10 = .ok (.invokevirtual 48, 3) := by decide +kernel
theorem dX0_open_13 : decode cX0_open 13 = .ok (.putfield 51, 3) := by decide +kernel
theorem dX0_open_16 : decode cX0_open 16 = .ok (.iconst 0, 1) := by decide +kernel
theorem dX0_open_17 : decode cX0_open 17 = .ok (.istore_n 2, 1) := by decide +kernel
theorem dX0_open_18 : decode cX0_open 18 = .ok (.iload_n 2, 1) := by decide +kernel
theorem dX0_open_19 : decode cX0_open 19 = .ok (.aload_n 0, 1) := by decide +kernel
theorem dX0_open_20 : decode cX0_open 20 = .ok (.getfield 51, 3) := by decide +kernel
theorem dX0_open_23 : decode cX0_open 23 = .ok (.if_icmp .ge 42, 3) := by decide +kernel
theorem dX0_open_26 : decode cX0_open 26 = .ok (.aload_n 0, 1) := by decide +kernel
theorem dX0_open_27 : decode cX0_open 27 = .ok (.getfield 9, 3) := by decide +kernel
theorem dX0_open_30 : decode cX0_open 30 = .ok (.iload_n 2, 1) := by decide +kernel
theorem dX0_open_31 : decode cX0_open 31 = .ok (.aload_n 1, 1) := by decide +kernel
theorem dX0_open_32 : decode cX0_open 32 = .ok (.iload_n 2, 1) := by decide +kernel
theorem dX0_open_33 : decode cX0_open 33 = .ok (.invokevirtual 53, 3) := by decide +kernel
theorem dX0_open_36 : decode cX0_open 36 = .ok (.iastore, 1) := by decide +kernel
theorem dX0_open_37 : decode cX0_open 37 = .ok (.aload_n 0, 1) := by decide +kernel
theorem dX0_open_38 : decode cX0_open 38 = .ok (.getfield 15, 3) := by decide +kernel
theorem dX0_open_41 : decode cX0_open 41 = .ok (.iload_n 2, 1) := by decide +kernel
theorem dX0_open_42 : decode cX0_open 42 = .ok (.aload_n 1, 1) := by decide +kernel
theorem dX0_open_43 : decode cX0_open 43 = .ok (.iload_n 2, 1) := by decide +kernel
theorem dX0_open_44 : decode cX0_open 44 = .ok (.invokevirtual 57, 3) := by decide +kernel
theorem dX0_open_47 : decode cX0_open 47 = .ok (.iastore, 1) := by decide +kernel
theorem dX0_open_48 : decode cX0_open 48 = .ok (.aload_n 0, 1) := by decide +kernel
theorem dX0_open_49 : decode cX0_open 49 = .ok (.getfield 18, 3) := by decide +kernel
theorem dX0_open_52 : decode cX0_open 52 = .ok (.iload_n 2, 1) := by decide +kernel
theorem dX0_open_53 : decode cX0_open 53 = .ok (.aload_n 1, 1) := by decide +kernel
theorem dX0_open_54 : decode cX0_open 54 = .ok (.iload_n 2, 1) := by decide +kernel
theorem dX0_open_55 : decode cX0_open 55 = .ok (.invokevirtual 60, 3) := by decide +kernel
theorem dX0_open_58 : decode cX0_open 58 = .ok (.iastore, 1) := by decide +kernel
theorem dX0_open_59 : decode cX0_open 59 = .ok (.iinc 2 1, 3) := by decide +kernel
theorem dX0_open_62 : decode cX0_open 62 = .ok (.goto (-44), 3) := by decide +kernel
theorem dX0_open_65 : decode cX0_open 65 = .ok (.aload_n 0, 1) := by decide +kernel
theorem dX0_open_66 : decode cX0_open 66 = .ok (.bipush 99, 2) := by decide +kernel
theorem dX0_open_68 : decode cX0_open 68 = .ok (.putfield 63, 3) := by decide +kernel
theorem dX0_open_71 : decode cX0_open 71 = .ok (.aload_n 0, 1) := by decide +kernel
theorem dX0_open_72 : decode cX0_open 72 = .ok (.aload_n 0, 1) := by decide +kernel
theorem dX0_open_73 : decode cX0_open 73 = .ok (.getfield 66, 3) := by decide +kernel
theorem dX0_open_76 : decode cX0_open 76 = .ok (.invokevirtual 69, 3) := by decide +kernel
theorem dX0_open_79 : decode cX0_open 79 = .ok (.return_, 1) := by decide +kernel
theorem dX0_isOpen_0 : decode cX0_isOpen 0 = .ok (.aload_n 0, 1) := by decide +kernel
theorem dX0_isOpen_1 : decode cX0_isOpen 1 = .ok (.getfield 45, 3) := by decide +kernel
theorem dX0_isOpen_4 : decode cX0_isOpen 4 = .ok (.ifCond .le 7, 3) := by decide +kernel
theorem dX0_isOpen_7 : decode cX0_isOpen 7 = .ok (.iconst 1, 1) := by decide +kernel
theorem dX0_isOpen_8 : decode cX0_isOpen 8 = .ok (.goto 4, 3) := by decide +kernel
theorem dX0_isOpen_11 : decode cX0_isOpen 11 = .ok (.iconst 0, 1) := by decide +kernel
theorem dX0_isOpen_12 : decode cX0_isOpen 12 = .ok (.ireturn, 1) := by decide +kernel
theorem dX0_hasGuest_0 : decode cX0_hasGuest 0 = .ok (.iload_n 1, 1) := by decide +kernel
theorem dX0_hasGuest_1 : decode cX0_hasGuest 1 = .ok (.ifCond .lt 15, 3) := by decide +kernel
theorem dX0_hasGuest_4 : decode cX0_hasGuest 4 = .ok (.iload_n 1, 1) := by decide +kernel
theorem dX0_hasGuest_5 : decode cX0_hasGuest 5 = .ok (.aload_n 0, 1) := by decide +kernel
theorem dX0_hasGuest_6 : decode cX0_hasGuest 6 = .ok (.getfield 45, 3) := by decide +kernel
theorem dX0_hasGuest_9 : decode cX0_hasGuest 9 = .ok (.if_icmp .ge 7, 3) := by decide +kernel
theorem dX0_hasGuest_12 : decode cX0_hasGuest 12 = .ok (.iconst 1, 1) := by decide +kernel
theorem dX0_hasGuest_13 : decode cX0_hasGuest 13 = .ok (.goto 4, 3) := by decide +kernel
theorem dX0_hasGuest_16 : decode cX0_hasGuest 16 = .ok (.iconst 0, 1) := by decide +kernel
theorem dX0_hasGuest_17 : decode cX0_hasGuest 17 = .ok (.ireturn, 1) := by decide +kernel
theorem dX0_hasTale_0 : decode cX0_hasTale 0 = .ok (.iload_n 1, 1) := by decide +kernel
theorem dX0_hasTale_1 : decode cX0_hasTale 1 = .ok (.ifCond .lt 15, 3) := by decide +kernel
theorem dX0_hasTale_4 : decode cX0_hasTale 4 = .ok (.iload_n 1, 1) := by decide +kernel
theorem dX0_hasTale_5 : decode cX0_hasTale 5 = .ok (.aload_n 0, 1) := by decide +kernel
theorem dX0_hasTale_6 : decode cX0_hasTale 6 = .ok (.getfield 51, 3) := by decide +kernel
theorem dX0_hasTale_9 : decode cX0_hasTale 9 = .ok (.if_icmp .ge 7, 3) := by decide +kernel
theorem dX0_hasTale_12 : decode cX0_hasTale 12 = .ok (.iconst 1, 1) := by decide +kernel
theorem dX0_hasTale_13 : decode cX0_hasTale 13 = .ok (.goto 4, 3) := by decide +kernel
theorem dX0_hasTale_16 : decode cX0_hasTale 16 = .ok (.iconst 0, 1) := by decide +kernel
theorem dX0_hasTale_17 : decode cX0_hasTale 17 = .ok (.ireturn, 1) := by decide +kernel
theorem dX0_hasNight_0 : decode cX0_hasNight 0 = .ok (.iload_n 1, 1) := by decide +kernel
theorem dX0_hasNight_1 : decode cX0_hasNight 1 = .ok (.ifCond .lt 15, 3) := by decide +kernel
theorem dX0_hasNight_4 : decode cX0_hasNight 4 = .ok (.iload_n 1, 1) := by decide +kernel
theorem dX0_hasNight_5 : decode cX0_hasNight 5 = .ok (.aload_n 0, 1) := by decide +kernel
theorem dX0_hasNight_6 : decode cX0_hasNight 6 = .ok (.getfield 66, 3) := by decide +kernel
theorem dX0_hasNight_9 : decode cX0_hasNight 9 = .ok (.if_icmp .ge 7, 3) := by decide +kernel
theorem dX0_hasNight_12 : decode cX0_hasNight 12 = .ok (.iconst 1, 1) := by decide +kernel
theorem dX0_hasNight_13 : decode cX0_hasNight 13 = .ok (.goto 4, 3) := by decide +kernel
theorem dX0_hasNight_16 : decode cX0_hasNight 16 = .ok (.iconst 0, 1) := by decide +kernel
theorem dX0_hasNight_17 : decode cX0_hasNight 17 = .ok (.ireturn, 1) := by decide +kernel
theorem dX0_mayBeTold_0 : decode cX0_mayBeTold 0 = .ok (.iload_n 2, 1) := by decide +kernel
theorem dX0_mayBeTold_1 : decode cX0_mayBeTold 1 = .ok (.ifCond .ne 5, 3) := by decide +kernel
theorem dX0_mayBeTold_4 : decode cX0_mayBeTold 4 = .ok (.iconst 1, 1) := by decide +kernel
theorem dX0_mayBeTold_5 : decode cX0_mayBeTold 5 = .ok (.ireturn, 1) := by decide +kernel
theorem dX0_mayBeTold_6 : decode cX0_mayBeTold 6 = .ok (.aload_n 0, 1) := by decide +kernel
theorem dX0_mayBeTold_7 : decode cX0_mayBeTold 7 = .ok (.getfield 9, 3) := by decide +kernel
theorem dX0_mayBeTold_10 : decode cX0_mayBeTold 10 = .ok (.iload_n 1, 1) := by decide +kernel
theorem dX0_mayBeTold_11 : decode cX0_mayBeTold 11 = .ok (.iaload, 1) := by decide +kernel
theorem dX0_mayBeTold_12 : decode cX0_mayBeTold 12 = .ok (.lookupswitch 44 #[(1, 28), (2, 42)], 28) := by decide +kernel
theorem dX0_mayBeTold_40 : decode cX0_mayBeTold 40 = .ok (.iload_n 3, 1) := by decide +kernel
theorem dX0_mayBeTold_41 : decode cX0_mayBeTold 41 = .ok (.iload 4, 2) := by decide +kernel
theorem dX0_mayBeTold_43 : decode cX0_mayBeTold 43 = .ok (.iconst 1, 1) := by decide +kernel
theorem dX0_mayBeTold_44 : decode cX0_mayBeTold 44 = .ok (.isub, 1) := by decide +kernel
theorem dX0_mayBeTold_45 : decode cX0_mayBeTold 45 = .ok (.if_icmp .eq 7, 3) := by decide +kernel
theorem dX0_mayBeTold_48 : decode cX0_mayBeTold 48 = .ok (.iconst 1, 1) := by decide +kernel
theorem dX0_mayBeTold_49 : decode cX0_mayBeTold 49 = .ok (.goto 4, 3) := by decide +kernel
theorem dX0_mayBeTold_52 : decode cX0_mayBeTold 52 = .ok (.iconst 0, 1) := by decide +kernel
theorem dX0_mayBeTold_53 : decode cX0_mayBeTold 53 = .ok (.ireturn, 1) := by decide +kernel
theorem dX0_mayBeTold_54 : decode cX0_mayBeTold 54 = .ok (.iconst 0, 1) := by decide +kernel
theorem dX0_mayBeTold_55 : decode cX0_mayBeTold 55 = .ok (.ireturn, 1) := by decide +kernel
theorem dX0_mayBeTold_56 : decode cX0_mayBeTold 56 = .ok (.iload 4, 2) := by decide +kernel
theorem dX0_mayBeTold_58 : decode cX0_mayBeTold 58 = .ok (.iload_n 3, 1) := by decide +kernel
theorem dX0_mayBeTold_59 : decode cX0_mayBeTold 59 = .ok (.iconst 1, 1) := by decide +kernel
theorem dX0_mayBeTold_60 : decode cX0_mayBeTold 60 = .ok (.iadd, 1) := by decide +kernel
theorem dX0_mayBeTold_61 : decode cX0_mayBeTold 61 = .ok (.aload_n 0, 1) := by decide +kernel
theorem dX0_mayBeTold_62 : decode cX0_mayBeTold 62 = .ok (.getfield 63, 3) := by decide +kernel
theorem dX0_mayBeTold_65 : decode cX0_mayBeTold 65 = .ok (.iadd, 1) := by decide +kernel
theorem dX0_mayBeTold_66 : decode cX0_mayBeTold 66 = .ok (.if_icmp .lt 7, 3) := by decide +kernel
theorem dX0_mayBeTold_69 : decode cX0_mayBeTold 69 = .ok (.iconst 1, 1) := by decide +kernel
theorem dX0_mayBeTold_70 : decode cX0_mayBeTold 70 = .ok (.goto 4, 3) := by decide +kernel
theorem dX0_mayBeTold_73 : decode cX0_mayBeTold 73 = .ok (.iconst 0, 1) := by decide +kernel
theorem dX0_mayBeTold_74 : decode cX0_mayBeTold 74 = .ok (.ireturn, 1) := by decide +kernel
theorem dX0_isTellable_0 : decode cX0_isTellable 0 = .ok (.aload_n 0, 1) := by decide +kernel
theorem dX0_isTellable_1 : decode cX0_isTellable 1 = .ok (.iload_n 1, 1) := by decide +kernel
theorem dX0_isTellable_2 : decode cX0_isTellable 2 = .ok (.aload_n 0, 1) := by decide +kernel
theorem dX0_isTellable_3 : decode cX0_isTellable 3 = .ok (.getfield 21, 3) := by decide +kernel
theorem dX0_isTellable_6 : decode cX0_isTellable 6 = .ok (.iload_n 1, 1) := by decide +kernel
theorem dX0_isTellable_7 : decode cX0_isTellable 7 = .ok (.iaload, 1) := by decide +kernel
theorem dX0_isTellable_8 : decode cX0_isTellable 8 = .ok (.aload_n 0, 1) := by decide +kernel
theorem dX0_isTellable_9 : decode cX0_isTellable 9 = .ok (.getfield 24, 3) := by decide +kernel
theorem dX0_isTellable_12 : decode cX0_isTellable 12 = .ok (.iload_n 1, 1) := by decide +kernel
theorem dX0_isTellable_13 : decode cX0_isTellable 13 = .ok (.iaload, 1) := by decide +kernel
theorem dX0_isTellable_14 : decode cX0_isTellable 14 = .ok (.aload_n 0, 1) := by decide +kernel
theorem dX0_isTellable_15 : decode cX0_isTellable 15 = .ok (.getfield 66, 3) := by decide +kernel
theorem dX0_isTellable_18 : decode cX0_isTellable 18 = .ok (.invokevirtual 73, 3) := by decide +kernel
theorem dX0_isTellable_21 : decode cX0_isTellable 21 = .ok (.ireturn, 1) := by decide +kernel
theorem dX0_tallWhenTold_0 : decode cX0_tallWhenTold 0 = .ok (.aload_n 0, 1) := by decide +kernel
theorem dX0_tallWhenTold_1 : decode cX0_tallWhenTold 1 = .ok (.getfield 9, 3) := by decide +kernel
theorem dX0_tallWhenTold_4 : decode cX0_tallWhenTold 4 = .ok (.iload_n 1, 1) := by decide +kernel
theorem dX0_tallWhenTold_5 : decode cX0_tallWhenTold 5 = .ok (.iaload, 1) := by decide +kernel
theorem dX0_tallWhenTold_6 : decode cX0_tallWhenTold 6 = .ok (.lookupswitch 49 #[(1, 26), (2, 38)], 26) := by decide +kernel
theorem dX0_tallWhenTold_32 : decode cX0_tallWhenTold 32 = .ok (.aload_n 0, 1) := by decide +kernel
theorem dX0_tallWhenTold_33 : decode cX0_tallWhenTold 33 = .ok (.getfield 18, 3) := by decide +kernel
theorem dX0_tallWhenTold_36 : decode cX0_tallWhenTold 36 = .ok (.iload_n 1, 1) := by decide +kernel
theorem dX0_tallWhenTold_37 : decode cX0_tallWhenTold 37 = .ok (.iaload, 1) := by decide +kernel
theorem dX0_tallWhenTold_38 : decode cX0_tallWhenTold 38 = .ok (.bipush 10, 2) := by decide +kernel
theorem dX0_tallWhenTold_40 : decode cX0_tallWhenTold 40 = .ok (.iload_n 2, 1) := by decide +kernel
theorem dX0_tallWhenTold_41 : decode cX0_tallWhenTold 41 = .ok (.imul, 1) := by decide +kernel
theorem dX0_tallWhenTold_42 : decode cX0_tallWhenTold 42 = .ok (.iadd, 1) := by decide +kernel
theorem dX0_tallWhenTold_43 : decode cX0_tallWhenTold 43 = .ok (.ireturn, 1) := by decide +kernel
theorem dX0_tallWhenTold_44 : decode cX0_tallWhenTold 44 = .ok (.aload_n 0, 1) := by decide +kernel
theorem dX0_tallWhenTold_45 : decode cX0_tallWhenTold 45 = .ok (.getfield 18, 3) := by decide +kernel
theorem dX0_tallWhenTold_48 : decode cX0_tallWhenTold 48 = .ok (.iload_n 1, 1) := by decide +kernel
theorem dX0_tallWhenTold_49 : decode cX0_tallWhenTold 49 = .ok (.iaload, 1) := by decide +kernel
theorem dX0_tallWhenTold_50 : decode cX0_tallWhenTold 50 = .ok (.sipush 900, 3) := by decide +kernel
theorem dX0_tallWhenTold_53 : decode cX0_tallWhenTold 53 = .ok (.iadd, 1) := by decide +kernel
theorem dX0_tallWhenTold_54 : decode cX0_tallWhenTold 54 = .ok (.ireturn, 1) := by decide +kernel
theorem dX0_tallWhenTold_55 : decode cX0_tallWhenTold 55 = .ok (.aload_n 0, 1) := by decide +kernel
theorem dX0_tallWhenTold_56 : decode cX0_tallWhenTold 56 = .ok (.getfield 18, 3) := by decide +kernel
theorem dX0_tallWhenTold_59 : decode cX0_tallWhenTold 59 = .ok (.iload_n 1, 1) := by decide +kernel
theorem dX0_tallWhenTold_60 : decode cX0_tallWhenTold 60 = .ok (.iaload, 1) := by decide +kernel
theorem dX0_tallWhenTold_61 : decode cX0_tallWhenTold 61 = .ok (.ireturn, 1) := by decide +kernel
theorem dX0_tallOf_0 : decode cX0_tallOf 0 = .ok (.aload_n 0, 1) := by decide +kernel
theorem dX0_tallOf_1 : decode cX0_tallOf 1 = .ok (.iload_n 1, 1) := by decide +kernel
theorem dX0_tallOf_2 : decode cX0_tallOf 2 = .ok (.aload_n 0, 1) := by decide +kernel
theorem dX0_tallOf_3 : decode cX0_tallOf 3 = .ok (.getfield 21, 3) := by decide +kernel
theorem dX0_tallOf_6 : decode cX0_tallOf 6 = .ok (.iload_n 1, 1) := by decide +kernel
theorem dX0_tallOf_7 : decode cX0_tallOf 7 = .ok (.iaload, 1) := by decide +kernel
theorem dX0_tallOf_8 : decode cX0_tallOf 8 = .ok (.invokevirtual 77, 3) := by decide +kernel
theorem dX0_tallOf_11 : decode cX0_tallOf 11 = .ok (.ireturn, 1) := by decide +kernel
theorem dX0_isOffered_0 : decode cX0_isOffered 0 = .ok (.aload_n 0, 1) := by decide +kernel
theorem dX0_isOffered_1 : decode cX0_isOffered 1 = .ok (.iload_n 2, 1) := by decide +kernel
theorem dX0_isOffered_2 : decode cX0_isOffered 2 = .ok (.invokevirtual 81, 3) := by decide +kernel
theorem dX0_isOffered_5 : decode cX0_isOffered 5 = .ok (.ifCond .ne 5, 3) := by decide +kernel
theorem dX0_isOffered_8 : decode cX0_isOffered 8 = .ok (.iconst 0, 1) := by decide +kernel
theorem dX0_isOffered_9 : decode cX0_isOffered 9 = .ok (.ireturn, 1) := by decide +kernel
theorem dX0_isOffered_10 : decode cX0_isOffered 10 = .ok (.aload_n 0, 1) := by decide +kernel
theorem dX0_isOffered_11 : decode cX0_isOffered 11 = .ok (.getfield 15, 3) := by decide +kernel
theorem dX0_isOffered_14 : decode cX0_isOffered 14 = .ok (.iload_n 2, 1) := by decide +kernel
theorem dX0_isOffered_15 : decode cX0_isOffered 15 = .ok (.iaload, 1) := by decide +kernel
theorem dX0_isOffered_16 : decode cX0_isOffered 16 = .ok (.istore 4, 2) := by decide +kernel
theorem dX0_isOffered_18 : decode cX0_isOffered 18 = .ok (.iload_n 3, 1) := by decide +kernel
theorem dX0_isOffered_19 : decode cX0_isOffered 19 = .ok (.ifCond .eq 28, 3) := by decide +kernel
theorem dX0_isOffered_22 : decode cX0_isOffered 22 = .ok (.iload 4, 2) := by decide +kernel
theorem dX0_isOffered_24 : decode cX0_isOffered 24 = .ok (.iload_n 1, 1) := by decide +kernel
theorem dX0_isOffered_25 : decode cX0_isOffered 25 = .ok (.if_icmp .eq 18, 3) := by decide +kernel
theorem dX0_isOffered_28 : decode cX0_isOffered 28 = .ok (.aload_n 0, 1) := by decide +kernel
theorem dX0_isOffered_29 : decode cX0_isOffered 29 = .ok (.getfield 27, 3) := by decide +kernel
theorem dX0_isOffered_32 : decode cX0_isOffered 32 = .ok (.iload 4, 2) := by decide +kernel
theorem dX0_isOffered_34 : decode cX0_isOffered 34 = .ok (.iaload, 1) := by decide +kernel
theorem dX0_isOffered_35 : decode cX0_isOffered 35 = .ok (.iload_n 2, 1) := by decide +kernel
theorem dX0_isOffered_36 : decode cX0_isOffered 36 = .ok (.if_icmp .eq 7, 3) := by decide +kernel
theorem dX0_isOffered_39 : decode cX0_isOffered 39 = .ok (.iconst 1, 1) := by decide +kernel
theorem dX0_isOffered_40 : decode cX0_isOffered 40 = .ok (.goto 18, 3) := by decide +kernel
theorem dX0_isOffered_43 : decode cX0_isOffered 43 = .ok (.iconst 0, 1) := by decide +kernel
theorem dX0_isOffered_44 : decode cX0_isOffered 44 = .ok (.goto 14, 3) := by decide +kernel
theorem dX0_isOffered_47 : decode cX0_isOffered 47 = .ok (.iload 4, 2) := by decide +kernel
theorem dX0_isOffered_49 : decode cX0_isOffered 49 = .ok (.iload_n 1, 1) := by decide +kernel
theorem dX0_isOffered_50 : decode cX0_isOffered 50 = .ok (.if_icmp .ne 7, 3) := by decide +kernel
theorem dX0_isOffered_53 : decode cX0_isOffered 53 = .ok (.iconst 1, 1) := by decide +kernel
theorem dX0_isOffered_54 : decode cX0_isOffered 54 = .ok (.goto 4, 3) := by decide +kernel
theorem dX0_isOffered_57 : decode cX0_isOffered 57 = .ok (.iconst 0, 1) := by decide +kernel
theorem dX0_isOffered_58 : decode cX0_isOffered 58 = .ok (.ireturn, 1) := by decide +kernel
theorem dX0_tallsAsChosen_0 : decode cX0_tallsAsChosen 0 = .ok (.aload_n 1, 1) := by decide +kernel
theorem dX0_tallsAsChosen_1 : decode cX0_tallsAsChosen 1 = .ok (.aload_n 0, 1) := by decide +kernel
theorem dX0_tallsAsChosen_2 : decode cX0_tallsAsChosen 2 = .ok (.getfield 45, 3) := by decide +kernel
theorem dX0_tallsAsChosen_5 : decode cX0_tallsAsChosen 5 = .ok (.putfield 85, 3) := by decide +kernel
theorem dX0_tallsAsChosen_8 : decode cX0_tallsAsChosen 8 = .ok (.iconst 0, 1) := by decide +kernel
theorem dX0_tallsAsChosen_9 : decode cX0_tallsAsChosen 9 = .ok (.istore_n 2, 1) := by decide +kernel
theorem dX0_tallsAsChosen_10 : decode cX0_tallsAsChosen 10 = .ok (.iload_n 2, 1) := by decide +kernel
theorem dX0_tallsAsChosen_11 : decode cX0_tallsAsChosen 11 = .ok (.aload_n 0, 1) := by decide +kernel
theorem dX0_tallsAsChosen_12 : decode cX0_tallsAsChosen 12 = .ok (.getfield 45, 3) := by decide +kernel
theorem dX0_tallsAsChosen_15 : decode cX0_tallsAsChosen 15 = .ok (.if_icmp .ge 42, 3) := by decide +kernel
theorem dX0_tallsAsChosen_18 : decode cX0_tallsAsChosen 18 = .ok (.aload_n 1, 1) := by decide +kernel
theorem dX0_tallsAsChosen_19 : decode cX0_tallsAsChosen 19 = .ok (.getfield 88, 3) := by decide +kernel
theorem dX0_tallsAsChosen_22 : decode cX0_tallsAsChosen 22 = .ok (.iload_n 2, 1) := by decide +kernel
theorem dX0_tallsAsChosen_23 : decode cX0_tallsAsChosen 23 = .ok (.aload_n 0, 1) := by decide +kernel
theorem dX0_tallsAsChosen_24 : decode cX0_tallsAsChosen 24 = .ok (.aload_n 0, 1) := by decide +kernel
theorem dX0_tallsAsChosen_25 : decode cX0_tallsAsChosen 25 = .ok (.getfield 27, 3) := by decide +kernel
theorem dX0_tallsAsChosen_28 : decode cX0_tallsAsChosen 28 = .ok (.iload_n 2, 1) := by decide +kernel
theorem dX0_tallsAsChosen_29 : decode cX0_tallsAsChosen 29 = .ok (.iaload, 1) := by decide +kernel
theorem dX0_tallsAsChosen_30 : decode cX0_tallsAsChosen 30 = .ok (.invokevirtual 91, 3) := by decide +kernel
theorem dX0_tallsAsChosen_33 : decode cX0_tallsAsChosen 33 = .ok (.ifCond .eq 16, 3) := by decide +kernel
theorem dX0_tallsAsChosen_36 : decode cX0_tallsAsChosen 36 = .ok (.aload_n 0, 1) := by decide +kernel
theorem dX0_tallsAsChosen_37 : decode cX0_tallsAsChosen 37 = .ok (.aload_n 0, 1) := by decide +kernel
theorem dX0_tallsAsChosen_38 : decode cX0_tallsAsChosen 38 = .ok (.getfield 27, 3) := by decide +kernel
theorem dX0_tallsAsChosen_41 : decode cX0_tallsAsChosen 41 = .ok (.iload_n 2, 1) := by decide +kernel
theorem dX0_tallsAsChosen_42 : decode cX0_tallsAsChosen 42 = .ok (.iaload, 1) := by decide +kernel
theorem dX0_tallsAsChosen_43 : decode cX0_tallsAsChosen 43 = .ok (.invokevirtual 94, 3) := by decide +kernel
theorem dX0_tallsAsChosen_46 : decode cX0_tallsAsChosen 46 = .ok (.goto 4, 3) := by decide +kernel
theorem dX0_tallsAsChosen_49 : decode cX0_tallsAsChosen 49 = .ok (.iconst 0, 1) := by decide +kernel
theorem dX0_tallsAsChosen_50 : decode cX0_tallsAsChosen 50 = .ok (.iastore, 1) := by decide +kernel
theorem dX0_tallsAsChosen_51 : decode cX0_tallsAsChosen 51 = .ok (.iinc 2 1, 3) := by decide +kernel
theorem dX0_tallsAsChosen_54 : decode cX0_tallsAsChosen 54 = .ok (.goto (-44), 3) := by decide +kernel
theorem dX0_tallsAsChosen_57 : decode cX0_tallsAsChosen 57 = .ok (.return_, 1) := by decide +kernel
theorem dX0_tallsOfNight_0 : decode cX0_tallsOfNight 0 = .ok (.aload_n 2, 1) := by decide +kernel
theorem dX0_tallsOfNight_1 : decode cX0_tallsOfNight 1 = .ok (.aload_n 0, 1) := by decide +kernel
theorem dX0_tallsOfNight_2 : decode cX0_tallsOfNight 2 = .ok (.getfield 45, 3) := by decide +kernel
theorem dX0_tallsOfNight_5 : decode cX0_tallsOfNight 5 = .ok (.putfield 85, 3) := by decide +kernel
theorem dX0_tallsOfNight_8 : decode cX0_tallsOfNight 8 = .ok (.iconst 0, 1) := by decide +kernel
theorem dX0_tallsOfNight_9 : decode cX0_tallsOfNight 9 = .ok (.istore_n 3, 1) := by decide +kernel
theorem dX0_tallsOfNight_10 : decode cX0_tallsOfNight 10 = .ok (.iload_n 3, 1) := by decide +kernel
theorem dX0_tallsOfNight_11 : decode cX0_tallsOfNight 11 = .ok (.aload_n 0, 1) := by decide +kernel
theorem dX0_tallsOfNight_12 : decode cX0_tallsOfNight 12 = .ok (.getfield 45, 3) := by decide +kernel
theorem dX0_tallsOfNight_15 : decode cX0_tallsOfNight 15 = .ok (.if_icmp .ge 25, 3) := by decide +kernel
theorem dX0_tallsOfNight_18 : decode cX0_tallsOfNight 18 = .ok (.aload_n 2, 1) := by decide +kernel
theorem dX0_tallsOfNight_19 : decode cX0_tallsOfNight 19 = .ok (.getfield 88, 3) := by decide +kernel
theorem dX0_tallsOfNight_22 : decode cX0_tallsOfNight 22 = .ok (.iload_n 3, 1) := by decide +kernel
theorem dX0_tallsOfNight_23 : decode cX0_tallsOfNight 23 = .ok (.aload_n 0, 1) := by decide +kernel
theorem dX0_tallsOfNight_24 : decode cX0_tallsOfNight 24 = .ok (.getfield 36, 3) := by decide +kernel
theorem dX0_tallsOfNight_27 : decode cX0_tallsOfNight 27 = .ok (.iload_n 1, 1) := by decide +kernel
theorem dX0_tallsOfNight_28 : decode cX0_tallsOfNight 28 = .ok (.iconst 5, 1) := by decide +kernel
theorem dX0_tallsOfNight_29 : decode cX0_tallsOfNight 29 = .ok (.imul, 1) := by decide +kernel
theorem dX0_tallsOfNight_30 : decode cX0_tallsOfNight 30 = .ok (.iload_n 3, 1) := by decide +kernel
theorem dX0_tallsOfNight_31 : decode cX0_tallsOfNight 31 = .ok (.iadd, 1) := by decide +kernel
theorem dX0_tallsOfNight_32 : decode cX0_tallsOfNight 32 = .ok (.iaload, 1) := by decide +kernel
theorem dX0_tallsOfNight_33 : decode cX0_tallsOfNight 33 = .ok (.iastore, 1) := by decide +kernel
theorem dX0_tallsOfNight_34 : decode cX0_tallsOfNight 34 = .ok (.iinc 3 1, 3) := by decide +kernel
theorem dX0_tallsOfNight_37 : decode cX0_tallsOfNight 37 = .ok (.goto (-27), 3) := by decide +kernel
theorem dX0_tallsOfNight_40 : decode cX0_tallsOfNight 40 = .ok (.return_, 1) := by decide +kernel
theorem dX0_goBy_0 : decode cX0_goBy 0 = .ok (.bipush (-9), 2) := by decide +kernel
theorem dX0_goBy_2 : decode cX0_goBy 2 = .ok (.istore_n 2, 1) := by decide +kernel
theorem dX0_goBy_3 : decode cX0_goBy 3 = .ok (.iconst 0, 1) := by decide +kernel
theorem dX0_goBy_4 : decode cX0_goBy 4 = .ok (.istore_n 3, 1) := by decide +kernel
theorem dX0_goBy_5 : decode cX0_goBy 5 = .ok (.iload_n 3, 1) := by decide +kernel
theorem dX0_goBy_6 : decode cX0_goBy 6 = .ok (.aload_n 0, 1) := by decide +kernel
theorem dX0_goBy_7 : decode cX0_goBy 7 = .ok (.getfield 45, 3) := by decide +kernel
theorem dX0_goBy_10 : decode cX0_goBy 10 = .ok (.if_icmp .ge 75, 3) := by decide +kernel
theorem dX0_goBy_13 : decode cX0_goBy 13 = .ok (.aload_n 0, 1) := by decide +kernel
theorem dX0_goBy_14 : decode cX0_goBy 14 = .ok (.getfield 66, 3) := by decide +kernel
theorem dX0_goBy_17 : decode cX0_goBy 17 = .ok (.iconst 5, 1) := by decide +kernel
theorem dX0_goBy_18 : decode cX0_goBy 18 = .ok (.imul, 1) := by decide +kernel
theorem dX0_goBy_19 : decode cX0_goBy 19 = .ok (.iload_n 3, 1) := by decide +kernel
theorem dX0_goBy_20 : decode cX0_goBy 20 = .ok (.iadd, 1) := by decide +kernel
theorem dX0_goBy_21 : decode cX0_goBy 21 = .ok (.istore 4, 2) := by decide +kernel
theorem dX0_goBy_23 : decode cX0_goBy 23 = .ok (.aload_n 0, 1) := by decide +kernel
theorem dX0_goBy_24 : decode cX0_goBy 24 = .ok (.getfield 30, 3) := by decide +kernel
theorem dX0_goBy_27 : decode cX0_goBy 27 = .ok (.iload 4, 2) := by decide +kernel
theorem dX0_goBy_29 : decode cX0_goBy 29 = .ok (.aload_n 0, 1) := by decide +kernel
theorem dX0_goBy_30 : decode cX0_goBy 30 = .ok (.getfield 27, 3) := by decide +kernel
theorem dX0_goBy_33 : decode cX0_goBy 33 = .ok (.iload_n 3, 1) := by decide +kernel
theorem dX0_goBy_34 : decode cX0_goBy 34 = .ok (.iaload, 1) := by decide +kernel
theorem dX0_goBy_35 : decode cX0_goBy 35 = .ok (.iastore, 1) := by decide +kernel
theorem dX0_goBy_36 : decode cX0_goBy 36 = .ok (.aload_n 0, 1) := by decide +kernel
theorem dX0_goBy_37 : decode cX0_goBy 37 = .ok (.getfield 36, 3) := by decide +kernel
theorem dX0_goBy_40 : decode cX0_goBy 40 = .ok (.iload 4, 2) := by decide +kernel
theorem dX0_goBy_42 : decode cX0_goBy 42 = .ok (.aload_n 1, 1) := by decide +kernel
theorem dX0_goBy_43 : decode cX0_goBy 43 = .ok (.getfield 88, 3) := by decide +kernel
theorem dX0_goBy_46 : decode cX0_goBy 46 = .ok (.iload_n 3, 1) := by decide +kernel
theorem dX0_goBy_47 : decode cX0_goBy 47 = .ok (.iaload, 1) := by decide +kernel
theorem dX0_goBy_48 : decode cX0_goBy 48 = .ok (.iastore, 1) := by decide +kernel
theorem dX0_goBy_49 : decode cX0_goBy 49 = .ok (.aload_n 0, 1) := by decide +kernel
theorem dX0_goBy_50 : decode cX0_goBy 50 = .ok (.getfield 33, 3) := by decide +kernel
theorem dX0_goBy_53 : decode cX0_goBy 53 = .ok (.iload 4, 2) := by decide +kernel
theorem dX0_goBy_55 : decode cX0_goBy 55 = .ok (.aload_n 1, 1) := by decide +kernel
theorem dX0_goBy_56 : decode cX0_goBy 56 = .ok (.iload_n 3, 1) := by decide +kernel
theorem dX0_goBy_57 : decode cX0_goBy 57 = .ok (.aload_n 1, 1) := by decide +kernel
theorem dX0_goBy_58 : decode cX0_goBy 58 = .ok (.getfield 88, 3) := by decide +kernel
theorem dX0_goBy_61 : decode cX0_goBy 61 = .ok (.iload_n 3, 1) := by decide +kernel
theorem dX0_goBy_62 : decode cX0_goBy 62 = .ok (.iaload, 1) := by decide +kernel
theorem dX0_goBy_63 : decode cX0_goBy 63 = .ok (.invokevirtual 97, 3) := by decide +kernel
theorem dX0_goBy_66 : decode cX0_goBy 66 = .ok (.iastore, 1) := by decide +kernel
theorem dX0_goBy_67 : decode cX0_goBy 67 = .ok (.aload_n 0, 1) := by decide +kernel
theorem dX0_goBy_68 : decode cX0_goBy 68 = .ok (.getfield 33, 3) := by decide +kernel
theorem dX0_goBy_71 : decode cX0_goBy 71 = .ok (.iload 4, 2) := by decide +kernel
theorem dX0_goBy_73 : decode cX0_goBy 73 = .ok (.iaload, 1) := by decide +kernel
theorem dX0_goBy_74 : decode cX0_goBy 74 = .ok (.ifCond .ne 5, 3) := by decide +kernel
theorem dX0_goBy_77 : decode cX0_goBy 77 = .ok (.iload_n 3, 1) := by decide +kernel
theorem dX0_goBy_78 : decode cX0_goBy 78 = .ok (.istore_n 2, 1) := by decide +kernel
theorem dX0_goBy_79 : decode cX0_goBy 79 = .ok (.iinc 3 1, 3) := by decide +kernel
theorem dX0_goBy_82 : decode cX0_goBy 82 = .ok (.goto (-77), 3) := by decide +kernel
theorem dX0_goBy_85 : decode cX0_goBy 85 = .ok (.iconst 0, 1) := by decide +kernel
theorem dX0_goBy_86 : decode cX0_goBy 86 = .ok (.istore_n 3, 1) := by decide +kernel
theorem dX0_goBy_87 : decode cX0_goBy 87 = .ok (.iload_n 3, 1) := by decide +kernel
theorem dX0_goBy_88 : decode cX0_goBy 88 = .ok (.aload_n 0, 1) := by decide +kernel
theorem dX0_goBy_89 : decode cX0_goBy 89 = .ok (.getfield 45, 3) := by decide +kernel
theorem dX0_goBy_92 : decode cX0_goBy 92 = .ok (.if_icmp .ge 23, 3) := by decide +kernel
theorem dX0_goBy_95 : decode cX0_goBy 95 = .ok (.aload_n 0, 1) := by decide +kernel
theorem dX0_goBy_96 : decode cX0_goBy 96 = .ok (.aload_n 0, 1) := by decide +kernel
theorem dX0_goBy_97 : decode cX0_goBy 97 = .ok (.getfield 27, 3) := by decide +kernel
theorem dX0_goBy_100 : decode cX0_goBy 100 = .ok (.iload_n 3, 1) := by decide +kernel
theorem dX0_goBy_101 : decode cX0_goBy 101 = .ok (.iaload, 1) := by decide +kernel
theorem dX0_goBy_102 : decode cX0_goBy 102 = .ok (.aload_n 0, 1) := by decide +kernel
theorem dX0_goBy_103 : decode cX0_goBy 103 = .ok (.getfield 66, 3) := by decide +kernel
theorem dX0_goBy_106 : decode cX0_goBy 106 = .ok (.invokevirtual 100, 3) := by decide +kernel
theorem dX0_goBy_109 : decode cX0_goBy 109 = .ok (.iinc 3 1, 3) := by decide +kernel
theorem dX0_goBy_112 : decode cX0_goBy 112 = .ok (.goto (-25), 3) := by decide +kernel
theorem dX0_goBy_115 : decode cX0_goBy 115 = .ok (.aload_n 0, 1) := by decide +kernel
theorem dX0_goBy_116 : decode cX0_goBy 116 = .ok (.dup, 1) := by decide +kernel
theorem dX0_goBy_117 : decode cX0_goBy 117 = .ok (.getfield 66, 3) := by decide +kernel
theorem dX0_goBy_120 : decode cX0_goBy 120 = .ok (.iconst 1, 1) := by decide +kernel
theorem dX0_goBy_121 : decode cX0_goBy 121 = .ok (.iadd, 1) := by decide +kernel
theorem dX0_goBy_122 : decode cX0_goBy 122 = .ok (.putfield 66, 3) := by decide +kernel
theorem dX0_goBy_125 : decode cX0_goBy 125 = .ok (.aload_n 0, 1) := by decide +kernel
theorem dX0_goBy_126 : decode cX0_goBy 126 = .ok (.getfield 27, 3) := by decide +kernel
theorem dX0_goBy_129 : decode cX0_goBy 129 = .ok (.bipush (-9), 2) := by decide +kernel
theorem dX0_goBy_131 : decode cX0_goBy 131 = .ok (.invokestatic 104, 3) := by decide +kernel
theorem dX0_goBy_134 : decode cX0_goBy 134 = .ok (.iload_n 2, 1) := by decide +kernel
theorem dX0_goBy_135 : decode cX0_goBy 135 = .ok (.ireturn, 1) := by decide +kernel
theorem dX0_keepTold_0 : decode cX0_keepTold 0 = .ok (.aload_n 0, 1) := by decide +kernel
theorem dX0_keepTold_1 : decode cX0_keepTold 1 = .ok (.iload_n 1, 1) := by decide +kernel
theorem dX0_keepTold_2 : decode cX0_keepTold 2 = .ok (.invokevirtual 91, 3) := by decide +kernel
theorem dX0_keepTold_5 : decode cX0_keepTold 5 = .ok (.ifCond .ne 4, 3) := by decide +kernel
theorem dX0_keepTold_8 : decode cX0_keepTold 8 = .ok (.return_, 1) := by decide +kernel
theorem dX0_keepTold_9 : decode cX0_keepTold 9 = .ok (.aload_n 0, 1) := by decide +kernel
theorem dX0_keepTold_10 : decode cX0_keepTold 10 = .ok (.getfield 21, 3) := by decide +kernel
theorem dX0_keepTold_13 : decode cX0_keepTold 13 = .ok (.iload_n 1, 1) := by decide +kernel
theorem dX0_keepTold_14 : decode cX0_keepTold 14 = .ok (.dup2, 1) := by decide +kernel
theorem dX0_keepTold_15 : decode cX0_keepTold 15 = .ok (.iaload, 1) := by decide +kernel
theorem dX0_keepTold_16 : decode cX0_keepTold 16 = .ok (.iconst 1, 1) := by decide +kernel
theorem dX0_keepTold_17 : decode cX0_keepTold 17 = .ok (.iadd, 1) := by decide +kernel
theorem dX0_keepTold_18 : decode cX0_keepTold 18 = .ok (.iastore, 1) := by decide +kernel
theorem dX0_keepTold_19 : decode cX0_keepTold 19 = .ok (.aload_n 0, 1) := by decide +kernel
theorem dX0_keepTold_20 : decode cX0_keepTold 20 = .ok (.getfield 24, 3) := by decide +kernel
theorem dX0_keepTold_23 : decode cX0_keepTold 23 = .ok (.iload_n 1, 1) := by decide +kernel
theorem dX0_keepTold_24 : decode cX0_keepTold 24 = .ok (.iload_n 2, 1) := by decide +kernel
theorem dX0_keepTold_25 : decode cX0_keepTold 25 = .ok (.iastore, 1) := by decide +kernel
theorem dX0_keepTold_26 : decode cX0_keepTold 26 = .ok (.return_, 1) := by decide +kernel
theorem dX0_goBack_0 : decode cX0_goBack 0 = .ok (.aload_n 0, 1) := by decide +kernel
theorem dX0_goBack_1 : decode cX0_goBack 1 = .ok (.dup, 1) := by decide +kernel
theorem dX0_goBack_2 : decode cX0_goBack 2 = .ok (.getfield 66, 3) := by decide +kernel
theorem dX0_goBack_5 : decode cX0_goBack 5 = .ok (.iload_n 1, 1) := by decide +kernel
theorem dX0_goBack_6 : decode cX0_goBack 6 = .ok (.isub, 1) := by decide +kernel
theorem dX0_goBack_7 : decode cX0_goBack 7 = .ok (.putfield 66, 3) := by decide +kernel
theorem dX0_goBack_10 : decode cX0_goBack 10 = .ok (.aload_n 0, 1) := by decide +kernel
theorem dX0_goBack_11 : decode cX0_goBack 11 = .ok (.getfield 27, 3) := by decide +kernel
theorem dX0_goBack_14 : decode cX0_goBack 14 = .ok (.bipush (-9), 2) := by decide +kernel
theorem dX0_goBack_16 : decode cX0_goBack 16 = .ok (.invokestatic 104, 3) := by decide +kernel
theorem dX0_goBack_19 : decode cX0_goBack 19 = .ok (.aload_n 0, 1) := by decide +kernel
theorem dX0_goBack_20 : decode cX0_goBack 20 = .ok (.getfield 21, 3) := by decide +kernel
theorem dX0_goBack_23 : decode cX0_goBack 23 = .ok (.iconst 0, 1) := by decide +kernel
theorem dX0_goBack_24 : decode cX0_goBack 24 = .ok (.invokestatic 104, 3) := by decide +kernel
theorem dX0_goBack_27 : decode cX0_goBack 27 = .ok (.aload_n 0, 1) := by decide +kernel
theorem dX0_goBack_28 : decode cX0_goBack 28 = .ok (.getfield 24, 3) := by decide +kernel
theorem dX0_goBack_31 : decode cX0_goBack 31 = .ok (.bipush (-9), 2) := by decide +kernel
theorem dX0_goBack_33 : decode cX0_goBack 33 = .ok (.invokestatic 104, 3) := by decide +kernel
theorem dX0_goBack_36 : decode cX0_goBack 36 = .ok (.iconst 0, 1) := by decide +kernel
theorem dX0_goBack_37 : decode cX0_goBack 37 = .ok (.istore_n 2, 1) := by decide +kernel
theorem dX0_goBack_38 : decode cX0_goBack 38 = .ok (.iload_n 2, 1) := by decide +kernel
theorem dX0_goBack_39 : decode cX0_goBack 39 = .ok (.aload_n 0, 1) := by decide +kernel
theorem dX0_goBack_40 : decode cX0_goBack 40 = .ok (.getfield 66, 3) := by decide +kernel
theorem dX0_goBack_43 : decode cX0_goBack 43 = .ok (.if_icmp .ge 40, 3) := by decide +kernel
theorem dX0_goBack_46 : decode cX0_goBack 46 = .ok (.iconst 0, 1) := by decide +kernel
theorem dX0_goBack_47 : decode cX0_goBack 47 = .ok (.istore_n 3, 1) := by decide +kernel
theorem dX0_goBack_48 : decode cX0_goBack 48 = .ok (.iload_n 3, 1) := by decide +kernel
theorem dX0_goBack_49 : decode cX0_goBack 49 = .ok (.aload_n 0, 1) := by decide +kernel
theorem dX0_goBack_50 : decode cX0_goBack 50 = .ok (.getfield 45, 3) := by decide +kernel
theorem dX0_goBack_53 : decode cX0_goBack 53 = .ok (.if_icmp .ge 24, 3) := by decide +kernel
theorem dX0_goBack_56 : decode cX0_goBack 56 = .ok (.aload_n 0, 1) := by decide +kernel
theorem dX0_goBack_57 : decode cX0_goBack 57 = .ok (.aload_n 0, 1) := by decide +kernel
theorem dX0_goBack_58 : decode cX0_goBack 58 = .ok (.getfield 30, 3) := by decide +kernel
theorem dX0_goBack_61 : decode cX0_goBack 61 = .ok (.iload_n 2, 1) := by decide +kernel
theorem dX0_goBack_62 : decode cX0_goBack 62 = .ok (.iconst 5, 1) := by decide +kernel
theorem dX0_goBack_63 : decode cX0_goBack 63 = .ok (.imul, 1) := by decide +kernel
theorem dX0_goBack_64 : decode cX0_goBack 64 = .ok (.iload_n 3, 1) := by decide +kernel
theorem dX0_goBack_65 : decode cX0_goBack 65 = .ok (.iadd, 1) := by decide +kernel
theorem dX0_goBack_66 : decode cX0_goBack 66 = .ok (.iaload, 1) := by decide +kernel
theorem dX0_goBack_67 : decode cX0_goBack 67 = .ok (.iload_n 2, 1) := by decide +kernel
theorem dX0_goBack_68 : decode cX0_goBack 68 = .ok (.invokevirtual 100, 3) := by decide +kernel
theorem dX0_goBack_71 : decode cX0_goBack 71 = .ok (.iinc 3 1, 3) := by decide +kernel
theorem dX0_goBack_74 : decode cX0_goBack 74 = .ok (.goto (-26), 3) := by decide +kernel
theorem dX0_goBack_77 : decode cX0_goBack 77 = .ok (.iinc 2 1, 3) := by decide +kernel
theorem dX0_goBack_80 : decode cX0_goBack 80 = .ok (.goto (-42), 3) := by decide +kernel
theorem dX0_goBack_83 : decode cX0_goBack 83 = .ok (.return_, 1) := by decide +kernel
theorem dX0_nightsAt_0 : decode cX0_nightsAt 0 = .ok (.iconst 0, 1) := by decide +kernel
theorem dX0_nightsAt_1 : decode cX0_nightsAt 1 = .ok (.istore_n 3, 1) := by decide +kernel
theorem dX0_nightsAt_2 : decode cX0_nightsAt 2 = .ok (.iconst 0, 1) := by decide +kernel
theorem dX0_nightsAt_3 : decode cX0_nightsAt 3 = .ok (.istore 4, 2) := by decide +kernel
theorem dX0_nightsAt_5 : decode cX0_nightsAt 5 = .ok (.iload 4, 2) := by decide +kernel
theorem dX0_nightsAt_7 : decode cX0_nightsAt 7 = .ok (.aload_n 0, 1) := by decide +kernel
theorem dX0_nightsAt_8 : decode cX0_nightsAt 8 = .ok (.getfield 66, 3) := by decide +kernel
theorem dX0_nightsAt_11 : decode cX0_nightsAt 11 = .ok (.if_icmp .ge 27, 3) := by decide +kernel
theorem dX0_nightsAt_14 : decode cX0_nightsAt 14 = .ok (.aload_n 0, 1) := by decide +kernel
theorem dX0_nightsAt_15 : decode cX0_nightsAt 15 = .ok (.getfield 33, 3) := by decide +kernel
theorem dX0_nightsAt_18 : decode cX0_nightsAt 18 = .ok (.iload 4, 2) := by decide +kernel
theorem dX0_nightsAt_20 : decode cX0_nightsAt 20 = .ok (.iconst 5, 1) := by decide +kernel
theorem dX0_nightsAt_21 : decode cX0_nightsAt 21 = .ok (.imul, 1) := by decide +kernel
theorem dX0_nightsAt_22 : decode cX0_nightsAt 22 = .ok (.iload_n 1, 1) := by decide +kernel
theorem dX0_nightsAt_23 : decode cX0_nightsAt 23 = .ok (.iadd, 1) := by decide +kernel
theorem dX0_nightsAt_24 : decode cX0_nightsAt 24 = .ok (.iaload, 1) := by decide +kernel
theorem dX0_nightsAt_25 : decode cX0_nightsAt 25 = .ok (.iload_n 2, 1) := by decide +kernel
theorem dX0_nightsAt_26 : decode cX0_nightsAt 26 = .ok (.if_icmp .ne 6, 3) := by decide +kernel
theorem dX0_nightsAt_29 : decode cX0_nightsAt 29 = .ok (.iinc 3 1, 3) := by decide +kernel
theorem dX0_nightsAt_32 : decode cX0_nightsAt 32 = .ok (.iinc 4 1, 3) := by decide +kernel
theorem dX0_nightsAt_35 : decode cX0_nightsAt 35 = .ok (.goto (-30), 3) := by decide +kernel
theorem dX0_nightsAt_38 : decode cX0_nightsAt 38 = .ok (.iload_n 3, 1) := by decide +kernel
theorem dX0_nightsAt_39 : decode cX0_nightsAt 39 = .ok (.ireturn, 1) := by decide +kernel
theorem dX0_timesToldBefore_0 : decode cX0_timesToldBefore 0 = .ok (.iconst 0, 1) := by decide +kernel
theorem dX0_timesToldBefore_1 : decode cX0_timesToldBefore 1 = .ok (.istore_n 3, 1) := by decide +kernel
theorem dX0_timesToldBefore_2 : decode cX0_timesToldBefore 2 = .ok (.iconst 0, 1) := by decide +kernel
theorem dX0_timesToldBefore_3 : decode cX0_timesToldBefore 3 = .ok (.istore 4, 2) := by decide +kernel
theorem dX0_timesToldBefore_5 : decode cX0_timesToldBefore 5 = .ok (.iload 4, 2) := by decide +kernel
theorem dX0_timesToldBefore_7 : decode cX0_timesToldBefore 7 = .ok (.iload_n 2, 1) := by decide +kernel
theorem dX0_timesToldBefore_8 : decode cX0_timesToldBefore 8 = .ok (.if_icmp .ge 32, 3) := by decide +kernel
theorem dX0_timesToldBefore_11 : decode cX0_timesToldBefore 11 = .ok (.aload_n 0, 1) := by decide +kernel
theorem dX0_timesToldBefore_12 : decode cX0_timesToldBefore 12 = .ok (.getfield 30, 3) := by decide +kernel
theorem dX0_timesToldBefore_15 : decode cX0_timesToldBefore 15 = .ok (.iload 4, 2) := by decide +kernel
theorem dX0_timesToldBefore_17 : decode cX0_timesToldBefore 17 = .ok (.iconst 5, 1) := by decide +kernel
theorem dX0_timesToldBefore_18 : decode cX0_timesToldBefore 18 = .ok (.imul, 1) := by decide +kernel
theorem dX0_timesToldBefore_19 : decode cX0_timesToldBefore 19 = .ok (.aload_n 0, 1) := by decide +kernel
theorem dX0_timesToldBefore_20 : decode cX0_timesToldBefore 20 = .ok (.getfield 15, 3) := by decide +kernel
theorem dX0_timesToldBefore_23 : decode cX0_timesToldBefore 23 = .ok (.iload_n 1, 1) := by decide +kernel
theorem dX0_timesToldBefore_24 : decode cX0_timesToldBefore 24 = .ok (.iaload, 1) := by decide +kernel
theorem dX0_timesToldBefore_25 : decode cX0_timesToldBefore 25 = .ok (.iadd, 1) := by decide +kernel
theorem dX0_timesToldBefore_26 : decode cX0_timesToldBefore 26 = .ok (.iaload, 1) := by decide +kernel
theorem dX0_timesToldBefore_27 : decode cX0_timesToldBefore 27 = .ok (.iload_n 1, 1) := by decide +kernel
theorem dX0_timesToldBefore_28 : decode cX0_timesToldBefore 28 = .ok (.if_icmp .ne 6, 3) := by decide +kernel
theorem dX0_timesToldBefore_31 : decode cX0_timesToldBefore 31 = .ok (.iinc 3 1, 3) := by decide +kernel
theorem dX0_timesToldBefore_34 : decode cX0_timesToldBefore 34 = .ok (.iinc 4 1, 3) := by decide +kernel
theorem dX0_timesToldBefore_37 : decode cX0_timesToldBefore 37 = .ok (.goto (-32), 3) := by decide +kernel
theorem dX0_timesToldBefore_40 : decode cX0_timesToldBefore 40 = .ok (.iload_n 3, 1) := by decide +kernel
theorem dX0_timesToldBefore_41 : decode cX0_timesToldBefore 41 = .ok (.ireturn, 1) := by decide +kernel
theorem dX0_ownerAfter_0 : decode cX0_ownerAfter 0 = .ok (.iload_n 1, 1) := by decide +kernel
theorem dX0_ownerAfter_1 : decode cX0_ownerAfter 1 = .ok (.iload_n 2, 1) := by decide +kernel
theorem dX0_ownerAfter_2 : decode cX0_ownerAfter 2 = .ok (.if_icmp .ne 10, 3) := by decide +kernel
theorem dX0_ownerAfter_5 : decode cX0_ownerAfter 5 = .ok (.aload_n 0, 1) := by decide +kernel
theorem dX0_ownerAfter_6 : decode cX0_ownerAfter 6 = .ok (.getfield 15, 3) := by decide +kernel
theorem dX0_ownerAfter_9 : decode cX0_ownerAfter 9 = .ok (.iload_n 3, 1) := by decide +kernel
theorem dX0_ownerAfter_10 : decode cX0_ownerAfter 10 = .ok (.iaload, 1) := by decide +kernel
theorem dX0_ownerAfter_11 : decode cX0_ownerAfter 11 = .ok (.ireturn, 1) := by decide +kernel
theorem dX0_ownerAfter_12 : decode cX0_ownerAfter 12 = .ok (.iload_n 1, 1) := by decide +kernel
theorem dX0_ownerAfter_13 : decode cX0_ownerAfter 13 = .ok (.iload_n 3, 1) := by decide +kernel
theorem dX0_ownerAfter_14 : decode cX0_ownerAfter 14 = .ok (.if_icmp .ne 12, 3) := by decide +kernel
theorem dX0_ownerAfter_17 : decode cX0_ownerAfter 17 = .ok (.aload_n 0, 1) := by decide +kernel
theorem dX0_ownerAfter_18 : decode cX0_ownerAfter 18 = .ok (.getfield 15, 3) := by decide +kernel
theorem dX0_ownerAfter_21 : decode cX0_ownerAfter 21 = .ok (.iload_n 2, 1) := by decide +kernel
theorem dX0_ownerAfter_22 : decode cX0_ownerAfter 22 = .ok (.iaload, 1) := by decide +kernel
theorem dX0_ownerAfter_23 : decode cX0_ownerAfter 23 = .ok (.goto 9, 3) := by decide +kernel
theorem dX0_ownerAfter_26 : decode cX0_ownerAfter 26 = .ok (.aload_n 0, 1) := by decide +kernel
theorem dX0_ownerAfter_27 : decode cX0_ownerAfter 27 = .ok (.getfield 15, 3) := by decide +kernel
theorem dX0_ownerAfter_30 : decode cX0_ownerAfter 30 = .ok (.iload_n 1, 1) := by decide +kernel
theorem dX0_ownerAfter_31 : decode cX0_ownerAfter 31 = .ok (.iaload, 1) := by decide +kernel
theorem dX0_ownerAfter_32 : decode cX0_ownerAfter 32 = .ok (.ireturn, 1) := by decide +kernel
theorem dX0_strongAfter_0 : decode cX0_strongAfter 0 = .ok (.iconst 0, 1) := by decide +kernel
theorem dX0_strongAfter_1 : decode cX0_strongAfter 1 = .ok (.istore 4, 2) := by decide +kernel
theorem dX0_strongAfter_3 : decode cX0_strongAfter 3 = .ok (.iconst 0, 1) := by decide +kernel
theorem dX0_strongAfter_4 : decode cX0_strongAfter 4 = .ok (.istore 5, 2) := by decide +kernel
theorem dX0_strongAfter_6 : decode cX0_strongAfter 6 = .ok (.iload 5, 2) := by decide +kernel
theorem dX0_strongAfter_8 : decode cX0_strongAfter 8 = .ok (.aload_n 0, 1) := by decide +kernel
theorem dX0_strongAfter_9 : decode cX0_strongAfter 9 = .ok (.getfield 51, 3) := by decide +kernel
theorem dX0_strongAfter_12 : decode cX0_strongAfter 12 = .ok (.if_icmp .ge 43, 3) := by decide +kernel
theorem dX0_strongAfter_15 : decode cX0_strongAfter 15 = .ok (.aload_n 0, 1) := by decide +kernel
theorem dX0_strongAfter_16 : decode cX0_strongAfter 16 = .ok (.iload 5, 2) := by decide +kernel
theorem dX0_strongAfter_18 : decode cX0_strongAfter 18 = .ok (.invokevirtual 81, 3) := by decide +kernel
theorem dX0_strongAfter_21 : decode cX0_strongAfter 21 = .ok (.ifCond .eq 28, 3) := by decide +kernel
theorem dX0_strongAfter_24 : decode cX0_strongAfter 24 = .ok (.aload_n 0, 1) := by decide +kernel
theorem dX0_strongAfter_25 : decode cX0_strongAfter 25 = .ok (.iload 5, 2) := by decide +kernel
theorem dX0_strongAfter_27 : decode cX0_strongAfter 27 = .ok (.iload_n 2, 1) := by decide +kernel
theorem dX0_strongAfter_28 : decode cX0_strongAfter 28 = .ok (.iload_n 3, 1) := by decide +kernel
theorem dX0_strongAfter_29 : decode cX0_strongAfter 29 = .ok (.invokevirtual 110, 3) := by decide +kernel
theorem dX0_strongAfter_32 : decode cX0_strongAfter 32 = .ok (.iload_n 1, 1) := by decide +kernel
theorem dX0_strongAfter_33 : decode cX0_strongAfter 33 = .ok (.if_icmp .eq 16, 3) := by decide +kernel
theorem dX0_strongAfter_36 : decode cX0_strongAfter 36 = .ok (.iload 4, 2) := by decide +kernel
theorem dX0_strongAfter_38 : decode cX0_strongAfter 38 = .ok (.aload_n 0, 1) := by decide +kernel
theorem dX0_strongAfter_39 : decode cX0_strongAfter 39 = .ok (.iload 5, 2) := by decide +kernel
theorem dX0_strongAfter_41 : decode cX0_strongAfter 41 = .ok (.invokevirtual 94, 3) := by decide +kernel
theorem dX0_strongAfter_44 : decode cX0_strongAfter 44 = .ok (.invokestatic 114, 3) := by decide +kernel
theorem dX0_strongAfter_47 : decode cX0_strongAfter 47 = .ok (.istore 4, 2) := by decide +kernel
theorem dX0_strongAfter_49 : decode cX0_strongAfter 49 = .ok (.iinc 5 1, 3) := by decide +kernel
theorem dX0_strongAfter_52 : decode cX0_strongAfter 52 = .ok (.goto (-46), 3) := by decide +kernel
theorem dX0_strongAfter_55 : decode cX0_strongAfter 55 = .ok (.iconst 0, 1) := by decide +kernel
theorem dX0_strongAfter_56 : decode cX0_strongAfter 56 = .ok (.istore 5, 2) := by decide +kernel
theorem dX0_strongAfter_58 : decode cX0_strongAfter 58 = .ok (.iconst 0, 1) := by decide +kernel
theorem dX0_strongAfter_59 : decode cX0_strongAfter 59 = .ok (.istore 6, 2) := by decide +kernel
theorem dX0_strongAfter_61 : decode cX0_strongAfter 61 = .ok (.iload 6, 2) := by decide +kernel
theorem dX0_strongAfter_63 : decode cX0_strongAfter 63 = .ok (.aload_n 0, 1) := by decide +kernel
theorem dX0_strongAfter_64 : decode cX0_strongAfter 64 = .ok (.getfield 51, 3) := by decide +kernel
theorem dX0_strongAfter_67 : decode cX0_strongAfter 67 = .ok (.if_icmp .ge 44, 3) := by decide +kernel
theorem dX0_strongAfter_70 : decode cX0_strongAfter 70 = .ok (.aload_n 0, 1) := by decide +kernel
theorem dX0_strongAfter_71 : decode cX0_strongAfter 71 = .ok (.iload 6, 2) := by decide +kernel
theorem dX0_strongAfter_73 : decode cX0_strongAfter 73 = .ok (.invokevirtual 81, 3) := by decide +kernel
theorem dX0_strongAfter_76 : decode cX0_strongAfter 76 = .ok (.ifCond .eq 29, 3) := by decide +kernel
theorem dX0_strongAfter_79 : decode cX0_strongAfter 79 = .ok (.aload_n 0, 1) := by decide +kernel
theorem dX0_strongAfter_80 : decode cX0_strongAfter 80 = .ok (.iload 6, 2) := by decide +kernel
theorem dX0_strongAfter_82 : decode cX0_strongAfter 82 = .ok (.iload_n 2, 1) := by decide +kernel
theorem dX0_strongAfter_83 : decode cX0_strongAfter 83 = .ok (.iload_n 3, 1) := by decide +kernel
theorem dX0_strongAfter_84 : decode cX0_strongAfter 84 = .ok (.invokevirtual 110, 3) := by decide +kernel
theorem dX0_strongAfter_87 : decode cX0_strongAfter 87 = .ok (.iload_n 1, 1) := by decide +kernel
theorem dX0_strongAfter_88 : decode cX0_strongAfter 88 = .ok (.if_icmp .ne 17, 3) := by decide +kernel
theorem dX0_strongAfter_91 : decode cX0_strongAfter 91 = .ok (.aload_n 0, 1) := by decide +kernel
theorem dX0_strongAfter_92 : decode cX0_strongAfter 92 = .ok (.iload 6, 2) := by decide +kernel
theorem dX0_strongAfter_94 : decode cX0_strongAfter 94 = .ok (.invokevirtual 94, 3) := by decide +kernel
theorem dX0_strongAfter_97 : decode cX0_strongAfter 97 = .ok (.iload 4, 2) := by decide +kernel
theorem dX0_strongAfter_99 : decode cX0_strongAfter 99 = .ok (.if_icmp .le 6, 3) := by decide +kernel
theorem dX0_strongAfter_102 : decode cX0_strongAfter 102 = .ok (.iinc 5 1, 3) := by decide +kernel
theorem dX0_strongAfter_105 : decode cX0_strongAfter 105 = .ok (.iinc 6 1, 3) := by decide +kernel
theorem dX0_strongAfter_108 : decode cX0_strongAfter 108 = .ok (.goto (-47), 3) := by decide +kernel
theorem dX0_strongAfter_111 : decode cX0_strongAfter 111 = .ok (.iload 5, 2) := by decide +kernel
theorem dX0_strongAfter_113 : decode cX0_strongAfter 113 = .ok (.ireturn, 1) := by decide +kernel
theorem dX0_isRowOfAll_0 : decode cX0_isRowOfAll 0 = .ok (.iconst 0, 1) := by decide +kernel
theorem dX0_isRowOfAll_1 : decode cX0_isRowOfAll 1 = .ok (.istore_n 2, 1) := by decide +kernel
theorem dX0_isRowOfAll_2 : decode cX0_isRowOfAll 2 = .ok (.iconst 0, 1) := by decide +kernel
theorem dX0_isRowOfAll_3 : decode cX0_isRowOfAll 3 = .ok (.istore_n 3, 1) := by decide +kernel
theorem dX0_isRowOfAll_4 : decode cX0_isRowOfAll 4 = .ok (.iload_n 3, 1) := by decide +kernel
theorem dX0_isRowOfAll_5 : decode cX0_isRowOfAll 5 = .ok (.aload_n 0, 1) := by decide +kernel
theorem dX0_isRowOfAll_6 : decode cX0_isRowOfAll 6 = .ok (.getfield 45, 3) := by decide +kernel
theorem dX0_isRowOfAll_9 : decode cX0_isRowOfAll 9 = .ok (.if_icmp .ge 29, 3) := by decide +kernel
theorem dX0_isRowOfAll_12 : decode cX0_isRowOfAll 12 = .ok (.aload_n 0, 1) := by decide +kernel
theorem dX0_isRowOfAll_13 : decode cX0_isRowOfAll 13 = .ok (.aload_n 1, 1) := by decide +kernel
theorem dX0_isRowOfAll_14 : decode cX0_isRowOfAll 14 = .ok (.iload_n 3, 1) := by decide +kernel
theorem dX0_isRowOfAll_15 : decode cX0_isRowOfAll 15 = .ok (.iaload, 1) := by decide +kernel
theorem dX0_isRowOfAll_16 : decode cX0_isRowOfAll 16 = .ok (.invokevirtual 119, 3) := by decide +kernel
theorem dX0_isRowOfAll_19 : decode cX0_isRowOfAll 19 = .ok (.ifCond .ne 5, 3) := by decide +kernel
theorem dX0_isRowOfAll_22 : decode cX0_isRowOfAll 22 = .ok (.iconst 0, 1) := by decide +kernel
theorem dX0_isRowOfAll_23 : decode cX0_isRowOfAll 23 = .ok (.ireturn, 1) := by decide +kernel
theorem dX0_isRowOfAll_24 : decode cX0_isRowOfAll 24 = .ok (.iload_n 2, 1) := by decide +kernel
theorem dX0_isRowOfAll_25 : decode cX0_isRowOfAll 25 = .ok (.iconst 1, 1) := by decide +kernel
theorem dX0_isRowOfAll_26 : decode cX0_isRowOfAll 26 = .ok (.aload_n 1, 1) := by decide +kernel
theorem dX0_isRowOfAll_27 : decode cX0_isRowOfAll 27 = .ok (.iload_n 3, 1) := by decide +kernel
theorem dX0_isRowOfAll_28 : decode cX0_isRowOfAll 28 = .ok (.iaload, 1) := by decide +kernel
theorem dX0_isRowOfAll_29 : decode cX0_isRowOfAll 29 = .ok (.ishl, 1) := by decide +kernel
theorem dX0_isRowOfAll_30 : decode cX0_isRowOfAll 30 = .ok (.ior, 1) := by decide +kernel
theorem dX0_isRowOfAll_31 : decode cX0_isRowOfAll 31 = .ok (.istore_n 2, 1) := by decide +kernel
theorem dX0_isRowOfAll_32 : decode cX0_isRowOfAll 32 = .ok (.iinc 3 1, 3) := by decide +kernel
theorem dX0_isRowOfAll_35 : decode cX0_isRowOfAll 35 = .ok (.goto (-31), 3) := by decide +kernel
theorem dX0_isRowOfAll_38 : decode cX0_isRowOfAll 38 = .ok (.iload_n 2, 1) := by decide +kernel
theorem dX0_isRowOfAll_39 : decode cX0_isRowOfAll 39 = .ok (.iconst 1, 1) := by decide +kernel
theorem dX0_isRowOfAll_40 : decode cX0_isRowOfAll 40 = .ok (.aload_n 0, 1) := by decide +kernel
theorem dX0_isRowOfAll_41 : decode cX0_isRowOfAll 41 = .ok (.getfield 45, 3) := by decide +kernel
theorem dX0_isRowOfAll_44 : decode cX0_isRowOfAll 44 = .ok (.ishl, 1) := by decide +kernel
theorem dX0_isRowOfAll_45 : decode cX0_isRowOfAll 45 = .ok (.iconst 1, 1) := by decide +kernel
theorem dX0_isRowOfAll_46 : decode cX0_isRowOfAll 46 = .ok (.isub, 1) := by decide +kernel
theorem dX0_isRowOfAll_47 : decode cX0_isRowOfAll 47 = .ok (.if_icmp .ne 7, 3) := by decide +kernel
theorem dX0_isRowOfAll_50 : decode cX0_isRowOfAll 50 = .ok (.iconst 1, 1) := by decide +kernel
theorem dX0_isRowOfAll_51 : decode cX0_isRowOfAll 51 = .ok (.goto 4, 3) := by decide +kernel
theorem dX0_isRowOfAll_54 : decode cX0_isRowOfAll 54 = .ok (.iconst 0, 1) := by decide +kernel
theorem dX0_isRowOfAll_55 : decode cX0_isRowOfAll 55 = .ok (.ireturn, 1) := by decide +kernel
theorem dX1_init_0 : decode cX1_init 0 = .ok (.aload_n 0, 1) := by decide +kernel
theorem dX1_init_1 : decode cX1_init 1 = .ok (.invokespecial 3, 3) := by decide +kernel
theorem dX1_init_4 : decode cX1_init 4 = .ok (.aload_n 0, 1) := by decide +kernel
theorem dX1_init_5 : decode cX1_init 5 = .ok (.iconst 5, 1) := by decide +kernel
theorem dX1_init_6 : decode cX1_init 6 = .ok (.newarray .int, 2) := by decide +kernel
theorem dX1_init_8 : decode cX1_init 8 = .ok (.putfield 9, 3) := by decide +kernel
theorem dX1_init_11 : decode cX1_init 11 = .ok (.aload_n 0, 1) := by decide +kernel
theorem dX1_init_12 : decode cX1_init 12 = .ok (.iconst 5, 1) := by decide +kernel
theorem dX1_init_13 : decode cX1_init 13 = .ok (.newarray .int, 2) := by decide +kernel
theorem dX1_init_15 : decode cX1_init 15 = .ok (.putfield 15, 3) := by decide +kernel
theorem dX1_init_18 : decode cX1_init 18 = .ok (.aload_n 0, 1) := by decide +kernel
theorem dX1_init_19 : decode cX1_init 19 = .ok (.aload_n 1, 1) := by decide +kernel
theorem dX1_init_20 : decode cX1_init 20 = .ok (.putfield 18, 3) := by decide +kernel
theorem dX1_init_23 : decode cX1_init 23 = .ok (.aload_n 0, 1) := by decide +kernel
theorem dX1_init_24 : decode cX1_init 24 = .ok (.aload_n 2, 1) := by decide +kernel
theorem dX1_init_25 : decode cX1_init 25 = .ok (.putfield 22, 3) := by decide +kernel
theorem dX1_init_28 : decode cX1_init 28 = .ok (.return_, 1) := by decide +kernel
theorem dX1_find_0 : decode cX1_find 0 = .ok (.aload_n 0, 1) := by decide +kernel
theorem dX1_find_1 : decode cX1_find 1 = .ok (.iconst 0, 1) := by decide +kernel
theorem dX1_find_2 : decode cX1_find 2 = .ok (.putfield 26, 3) := by decide +kernel
theorem dX1_find_5 : decode cX1_find 5 = .ok (.iconst 0, 1) := by decide +kernel
theorem dX1_find_6 : decode cX1_find 6 = .ok (.istore_n 1, 1) := by decide +kernel
theorem dX1_find_7 : decode cX1_find 7 = .ok (.iload_n 1, 1) := by decide +kernel
theorem dX1_find_8 : decode cX1_find 8 = .ok (.aload_n 0, 1) := by decide +kernel
theorem dX1_find_9 : decode cX1_find 9 = .ok (.getfield 18, 3) := by decide +kernel
theorem dX1_find_12 : decode cX1_find 12 = .ok (.getfield 30, 3) := by decide +kernel
theorem dX1_find_15 : decode cX1_find 15 = .ok (.if_icmp .ge 22, 3) := by decide +kernel
theorem dX1_find_18 : decode cX1_find 18 = .ok (.aload_n 0, 1) := by decide +kernel
theorem dX1_find_19 : decode cX1_find 19 = .ok (.getfield 9, 3) := by decide +kernel
theorem dX1_find_22 : decode cX1_find 22 = .ok (.iload_n 1, 1) := by decide +kernel
theorem dX1_find_23 : decode cX1_find 23 = .ok (.aload_n 0, 1) := by decide +kernel
theorem dX1_find_24 : decode cX1_find 24 = .ok (.iload_n 1, 1) := by decide +kernel
theorem dX1_find_25 : decode cX1_find 25 = .ok (.bipush (-9), 2) := by decide +kernel
theorem dX1_find_27 : decode cX1_find 27 = .ok (.invokevirtual 35, 3) := by decide +kernel
theorem dX1_find_30 : decode cX1_find 30 = .ok (.iastore, 1) := by decide +kernel
theorem dX1_find_31 : decode cX1_find 31 = .ok (.iinc 1 1, 3) := by decide +kernel
theorem dX1_find_34 : decode cX1_find 34 = .ok (.goto (-27), 3) := by decide +kernel
theorem dX1_find_37 : decode cX1_find 37 = .ok (.iconst 1, 1) := by decide +kernel
theorem dX1_find_38 : decode cX1_find 38 = .ok (.istore_n 1, 1) := by decide +kernel
theorem dX1_find_39 : decode cX1_find 39 = .ok (.iconst 0, 1) := by decide +kernel
theorem dX1_find_40 : decode cX1_find 40 = .ok (.istore_n 2, 1) := by decide +kernel
theorem dX1_find_41 : decode cX1_find 41 = .ok (.iload_n 1, 1) := by decide +kernel
theorem dX1_find_42 : decode cX1_find 42 = .ok (.ifCond .eq 32, 3) := by decide +kernel
theorem dX1_find_45 : decode cX1_find 45 = .ok (.iload_n 2, 1) := by decide +kernel
theorem dX1_find_46 : decode cX1_find 46 = .ok (.sipush 1000, 3) := by decide +kernel
theorem dX1_find_49 : decode cX1_find 49 = .ok (.if_icmp .ge 25, 3) := by decide +kernel
theorem dX1_find_52 : decode cX1_find 52 = .ok (.aload_n 0, 1) := by decide +kernel
theorem dX1_find_53 : decode cX1_find 53 = .ok (.invokevirtual 39, 3) := by decide +kernel
theorem dX1_find_56 : decode cX1_find 56 = .ok (.ifCond .eq 7, 3) := by decide +kernel
theorem dX1_find_59 : decode cX1_find 59 = .ok (.aload_n 0, 1) := by decide +kernel
theorem dX1_find_60 : decode cX1_find 60 = .ok (.invokevirtual 43, 3) := by decide +kernel
theorem dX1_find_63 : decode cX1_find 63 = .ok (.aload_n 0, 1) := by decide +kernel
theorem dX1_find_64 : decode cX1_find 64 = .ok (.invokevirtual 46, 3) := by decide +kernel
theorem dX1_find_67 : decode cX1_find 67 = .ok (.istore_n 1, 1) := by decide +kernel
theorem dX1_find_68 : decode cX1_find 68 = .ok (.iinc 2 1, 3) := by decide +kernel
theorem dX1_find_71 : decode cX1_find 71 = .ok (.goto (-30), 3) := by decide +kernel
theorem dX1_find_74 : decode cX1_find 74 = .ok (.return_, 1) := by decide +kernel
theorem dX1_keepRest_0 : decode cX1_keepRest 0 = .ok (.aload_n 0, 1) := by decide +kernel
theorem dX1_keepRest_1 : decode cX1_keepRest 1 = .ok (.getfield 26, 3) := by decide +kernel
theorem dX1_keepRest_4 : decode cX1_keepRest 4 = .ok (.ifCond .ne 17, 3) := by decide +kernel
theorem dX1_keepRest_7 : decode cX1_keepRest 7 = .ok (.aload_n 0, 1) := by decide +kernel
theorem dX1_keepRest_8 : decode cX1_keepRest 8 = .ok (.getfield 9, 3) := by decide +kernel
theorem dX1_keepRest_11 : decode cX1_keepRest 11 = .ok (.iconst 0, 1) := by decide +kernel
theorem dX1_keepRest_12 : decode cX1_keepRest 12 = .ok (.aload_n 0, 1) := by decide +kernel
theorem dX1_keepRest_13 : decode cX1_keepRest 13 = .ok (.getfield 15, 3) := by decide +kernel
theorem dX1_keepRest_16 : decode cX1_keepRest 16 = .ok (.iconst 0, 1) := by decide +kernel
theorem dX1_keepRest_17 : decode cX1_keepRest 17 = .ok (.iconst 5, 1) := by decide +kernel
theorem dX1_keepRest_18 : decode cX1_keepRest 18 = .ok (.invokestatic 49, 3) := by decide +kernel
theorem dX1_keepRest_21 : decode cX1_keepRest 21 = .ok (.aload_n 0, 1) := by decide +kernel
theorem dX1_keepRest_22 : decode cX1_keepRest 22 = .ok (.dup, 1) := by decide +kernel
theorem dX1_keepRest_23 : decode cX1_keepRest 23 = .ok (.getfield 26, 3) := by decide +kernel
theorem dX1_keepRest_26 : decode cX1_keepRest 26 = .ok (.iconst 1, 1) := by decide +kernel
theorem dX1_keepRest_27 : decode cX1_keepRest 27 = .ok (.iadd, 1) := by decide +kernel
theorem dX1_keepRest_28 : decode cX1_keepRest 28 = .ok (.putfield 26, 3) := by decide +kernel
theorem dX1_keepRest_31 : decode cX1_keepRest 31 = .ok (.return_, 1) := by decide +kernel
theorem dX1_ownAfter_0 : decode cX1_ownAfter 0 = .ok (.iload_n 2, 1) := by decide +kernel
theorem dX1_ownAfter_1 : decode cX1_ownAfter 1 = .ok (.iconst 1, 1) := by decide +kernel
theorem dX1_ownAfter_2 : decode cX1_ownAfter 2 = .ok (.iadd, 1) := by decide +kernel
theorem dX1_ownAfter_3 : decode cX1_ownAfter 3 = .ok (.iconst 0, 1) := by decide +kernel
theorem dX1_ownAfter_4 : decode cX1_ownAfter 4 = .ok (.invokestatic 55, 3) := by decide +kernel
theorem dX1_ownAfter_7 : decode cX1_ownAfter 7 = .ok (.istore_n 3, 1) := by decide +kernel
theorem dX1_ownAfter_8 : decode cX1_ownAfter 8 = .ok (.iload_n 3, 1) := by decide +kernel
theorem dX1_ownAfter_9 : decode cX1_ownAfter 9 = .ok (.aload_n 0, 1) := by decide +kernel
theorem dX1_ownAfter_10 : decode cX1_ownAfter 10 = .ok (.getfield 18, 3) := by decide +kernel
theorem dX1_ownAfter_13 : decode cX1_ownAfter 13 = .ok (.getfield 60, 3) := by decide +kernel
theorem dX1_ownAfter_16 : decode cX1_ownAfter 16 = .ok (.if_icmp .ge 35, 3) := by decide +kernel
theorem dX1_ownAfter_19 : decode cX1_ownAfter 19 = .ok (.aload_n 0, 1) := by decide +kernel
theorem dX1_ownAfter_20 : decode cX1_ownAfter 20 = .ok (.getfield 18, 3) := by decide +kernel
theorem dX1_ownAfter_23 : decode cX1_ownAfter 23 = .ok (.getfield 63, 3) := by decide +kernel
theorem dX1_ownAfter_26 : decode cX1_ownAfter 26 = .ok (.iload_n 3, 1) := by decide +kernel
theorem dX1_ownAfter_27 : decode cX1_ownAfter 27 = .ok (.iaload, 1) := by decide +kernel
theorem dX1_ownAfter_28 : decode cX1_ownAfter 28 = .ok (.iload_n 1, 1) := by decide +kernel
theorem dX1_ownAfter_29 : decode cX1_ownAfter 29 = .ok (.if_icmp .ne 16, 3) := by decide +kernel
theorem dX1_ownAfter_32 : decode cX1_ownAfter 32 = .ok (.aload_n 0, 1) := by decide +kernel
theorem dX1_ownAfter_33 : decode cX1_ownAfter 33 = .ok (.getfield 18, 3) := by decide +kernel
theorem dX1_ownAfter_36 : decode cX1_ownAfter 36 = .ok (.iload_n 3, 1) := by decide +kernel
theorem dX1_ownAfter_37 : decode cX1_ownAfter 37 = .ok (.invokevirtual 66, 3) := by decide +kernel
theorem dX1_ownAfter_40 : decode cX1_ownAfter 40 = .ok (.ifCond .eq 5, 3) := by decide +kernel
theorem dX1_ownAfter_43 : decode cX1_ownAfter 43 = .ok (.iload_n 3, 1) := by decide +kernel
theorem dX1_ownAfter_44 : decode cX1_ownAfter 44 = .ok (.ireturn, 1) := by decide +kernel
theorem dX1_ownAfter_45 : decode cX1_ownAfter 45 = .ok (.iinc 3 1, 3) := by decide +kernel
theorem dX1_ownAfter_48 : decode cX1_ownAfter 48 = .ok (.goto (-40), 3) := by decide +kernel
theorem dX1_ownAfter_51 : decode cX1_ownAfter 51 = .ok (.bipush (-9), 2) := by decide +kernel
theorem dX1_ownAfter_53 : decode cX1_ownAfter 53 = .ok (.ireturn, 1) := by decide +kernel
theorem dX1_goOn_0 : decode cX1_goOn 0 = .ok (.aload_n 0, 1) := by decide +kernel
theorem dX1_goOn_1 : decode cX1_goOn 1 = .ok (.getfield 18, 3) := by decide +kernel
theorem dX1_goOn_4 : decode cX1_goOn 4 = .ok (.getfield 30, 3) := by decide +kernel
theorem dX1_goOn_7 : decode cX1_goOn 7 = .ok (.iconst 1, 1) := by decide +kernel
theorem dX1_goOn_8 : decode cX1_goOn 8 = .ok (.isub, 1) := by decide +kernel
theorem dX1_goOn_9 : decode cX1_goOn 9 = .ok (.istore_n 1, 1) := by decide +kernel
theorem dX1_goOn_10 : decode cX1_goOn 10 = .ok (.iload_n 1, 1) := by decide +kernel
theorem dX1_goOn_11 : decode cX1_goOn 11 = .ok (.ifCond .lt 49, 3) := by decide +kernel
theorem dX1_goOn_14 : decode cX1_goOn 14 = .ok (.aload_n 0, 1) := by decide +kernel
theorem dX1_goOn_15 : decode cX1_goOn 15 = .ok (.iload_n 1, 1) := by decide +kernel
theorem dX1_goOn_16 : decode cX1_goOn 16 = .ok (.aload_n 0, 1) := by decide +kernel
theorem dX1_goOn_17 : decode cX1_goOn 17 = .ok (.getfield 9, 3) := by decide +kernel
theorem dX1_goOn_20 : decode cX1_goOn 20 = .ok (.iload_n 1, 1) := by decide +kernel
theorem dX1_goOn_21 : decode cX1_goOn 21 = .ok (.iaload, 1) := by decide +kernel
theorem dX1_goOn_22 : decode cX1_goOn 22 = .ok (.invokevirtual 35, 3) := by decide +kernel
theorem dX1_goOn_25 : decode cX1_goOn 25 = .ok (.istore_n 2, 1) := by decide +kernel
theorem dX1_goOn_26 : decode cX1_goOn 26 = .ok (.iload_n 2, 1) := by decide +kernel
theorem dX1_goOn_27 : decode cX1_goOn 27 = .ok (.bipush (-9), 2) := by decide +kernel
theorem dX1_goOn_29 : decode cX1_goOn 29 = .ok (.if_icmp .eq 12, 3) := by decide +kernel
theorem dX1_goOn_32 : decode cX1_goOn 32 = .ok (.aload_n 0, 1) := by decide +kernel
theorem dX1_goOn_33 : decode cX1_goOn 33 = .ok (.getfield 9, 3) := by decide +kernel
theorem dX1_goOn_36 : decode cX1_goOn 36 = .ok (.iload_n 1, 1) := by decide +kernel
theorem dX1_goOn_37 : decode cX1_goOn 37 = .ok (.iload_n 2, 1) := by decide +kernel
theorem dX1_goOn_38 : decode cX1_goOn 38 = .ok (.iastore, 1) := by decide +kernel
theorem dX1_goOn_39 : decode cX1_goOn 39 = .ok (.iconst 1, 1) := by decide +kernel
theorem dX1_goOn_40 : decode cX1_goOn 40 = .ok (.ireturn, 1) := by decide +kernel
theorem dX1_goOn_41 : decode cX1_goOn 41 = .ok (.aload_n 0, 1) := by decide +kernel
theorem dX1_goOn_42 : decode cX1_goOn 42 = .ok (.getfield 9, 3) := by decide +kernel
theorem dX1_goOn_45 : decode cX1_goOn 45 = .ok (.iload_n 1, 1) := by decide +kernel
theorem dX1_goOn_46 : decode cX1_goOn 46 = .ok (.aload_n 0, 1) := by decide +kernel
theorem dX1_goOn_47 : decode cX1_goOn 47 = .ok (.iload_n 1, 1) := by decide +kernel
theorem dX1_goOn_48 : decode cX1_goOn 48 = .ok (.bipush (-9), 2) := by decide +kernel
theorem dX1_goOn_50 : decode cX1_goOn 50 = .ok (.invokevirtual 35, 3) := by decide +kernel
theorem dX1_goOn_53 : decode cX1_goOn 53 = .ok (.iastore, 1) := by decide +kernel
theorem dX1_goOn_54 : decode cX1_goOn 54 = .ok (.iinc 1 (-1), 3) := by decide +kernel
theorem dX1_goOn_57 : decode cX1_goOn 57 = .ok (.goto (-47), 3) := by decide +kernel
theorem dX1_goOn_60 : decode cX1_goOn 60 = .ok (.iconst 0, 1) := by decide +kernel
theorem dX1_goOn_61 : decode cX1_goOn 61 = .ok (.ireturn, 1) := by decide +kernel
theorem dX1_isRest_0 : decode cX1_isRest 0 = .ok (.aload_n 0, 1) := by decide +kernel
theorem dX1_isRest_1 : decode cX1_isRest 1 = .ok (.getfield 22, 3) := by decide +kernel
theorem dX1_isRest_4 : decode cX1_isRest 4 = .ok (.aload_n 0, 1) := by decide +kernel
theorem dX1_isRest_5 : decode cX1_isRest 5 = .ok (.getfield 18, 3) := by decide +kernel
theorem dX1_isRest_8 : decode cX1_isRest 8 = .ok (.getfield 30, 3) := by decide +kernel
theorem dX1_isRest_11 : decode cX1_isRest 11 = .ok (.putfield 70, 3) := by decide +kernel
theorem dX1_isRest_14 : decode cX1_isRest 14 = .ok (.iconst 0, 1) := by decide +kernel
theorem dX1_isRest_15 : decode cX1_isRest 15 = .ok (.istore_n 1, 1) := by decide +kernel
theorem dX1_isRest_16 : decode cX1_isRest 16 = .ok (.iload_n 1, 1) := by decide +kernel
theorem dX1_isRest_17 : decode cX1_isRest 17 = .ok (.aload_n 0, 1) := by decide +kernel
theorem dX1_isRest_18 : decode cX1_isRest 18 = .ok (.getfield 18, 3) := by decide +kernel
theorem dX1_isRest_21 : decode cX1_isRest 21 = .ok (.getfield 30, 3) := by decide +kernel
theorem dX1_isRest_24 : decode cX1_isRest 24 = .ok (.if_icmp .ge 51, 3) := by decide +kernel
theorem dX1_isRest_27 : decode cX1_isRest 27 = .ok (.aload_n 0, 1) := by decide +kernel
theorem dX1_isRest_28 : decode cX1_isRest 28 = .ok (.getfield 22, 3) := by decide +kernel
theorem dX1_isRest_31 : decode cX1_isRest 31 = .ok (.getfield 73, 3) := by decide +kernel
theorem dX1_isRest_34 : decode cX1_isRest 34 = .ok (.iload_n 1, 1) := by decide +kernel
theorem dX1_isRest_35 : decode cX1_isRest 35 = .ok (.aload_n 0, 1) := by decide +kernel
theorem dX1_isRest_36 : decode cX1_isRest 36 = .ok (.getfield 18, 3) := by decide +kernel
theorem dX1_isRest_39 : decode cX1_isRest 39 = .ok (.aload_n 0, 1) := by decide +kernel
theorem dX1_isRest_40 : decode cX1_isRest 40 = .ok (.getfield 9, 3) := by decide +kernel
theorem dX1_isRest_43 : decode cX1_isRest 43 = .ok (.iload_n 1, 1) := by decide +kernel
theorem dX1_isRest_44 : decode cX1_isRest 44 = .ok (.iaload, 1) := by decide +kernel
theorem dX1_isRest_45 : decode cX1_isRest 45 = .ok (.invokevirtual 76, 3) := by decide +kernel
theorem dX1_isRest_48 : decode cX1_isRest 48 = .ok (.ifCond .eq 19, 3) := by decide +kernel
theorem dX1_isRest_51 : decode cX1_isRest 51 = .ok (.aload_n 0, 1) := by decide +kernel
theorem dX1_isRest_52 : decode cX1_isRest 52 = .ok (.getfield 18, 3) := by decide +kernel
theorem dX1_isRest_55 : decode cX1_isRest 55 = .ok (.aload_n 0, 1) := by decide +kernel
theorem dX1_isRest_56 : decode cX1_isRest 56 = .ok (.getfield 9, 3) := by decide +kernel
theorem dX1_isRest_59 : decode cX1_isRest 59 = .ok (.iload_n 1, 1) := by decide +kernel
theorem dX1_isRest_60 : decode cX1_isRest 60 = .ok (.iaload, 1) := by decide +kernel
theorem dX1_isRest_61 : decode cX1_isRest 61 = .ok (.invokevirtual 79, 3) := by decide +kernel
theorem dX1_isRest_64 : decode cX1_isRest 64 = .ok (.goto 4, 3) := by decide +kernel
theorem dX1_isRest_67 : decode cX1_isRest 67 = .ok (.iconst 0, 1) := by decide +kernel
theorem dX1_isRest_68 : decode cX1_isRest 68 = .ok (.iastore, 1) := by decide +kernel
theorem dX1_isRest_69 : decode cX1_isRest 69 = .ok (.iinc 1 1, 3) := by decide +kernel
theorem dX1_isRest_72 : decode cX1_isRest 72 = .ok (.goto (-56), 3) := by decide +kernel
theorem dX1_isRest_75 : decode cX1_isRest 75 = .ok (.iconst 0, 1) := by decide +kernel
theorem dX1_isRest_76 : decode cX1_isRest 76 = .ok (.istore_n 1, 1) := by decide +kernel
theorem dX1_isRest_77 : decode cX1_isRest 77 = .ok (.iload_n 1, 1) := by decide +kernel
theorem dX1_isRest_78 : decode cX1_isRest 78 = .ok (.aload_n 0, 1) := by decide +kernel
theorem dX1_isRest_79 : decode cX1_isRest 79 = .ok (.getfield 18, 3) := by decide +kernel
theorem dX1_isRest_82 : decode cX1_isRest 82 = .ok (.getfield 30, 3) := by decide +kernel
theorem dX1_isRest_85 : decode cX1_isRest 85 = .ok (.if_icmp .ge 19, 3) := by decide +kernel
theorem dX1_isRest_88 : decode cX1_isRest 88 = .ok (.aload_n 0, 1) := by decide +kernel
theorem dX1_isRest_89 : decode cX1_isRest 89 = .ok (.iload_n 1, 1) := by decide +kernel
theorem dX1_isRest_90 : decode cX1_isRest 90 = .ok (.invokevirtual 83, 3) := by decide +kernel
theorem dX1_isRest_93 : decode cX1_isRest 93 = .ok (.ifCond .eq 5, 3) := by decide +kernel
theorem dX1_isRest_96 : decode cX1_isRest 96 = .ok (.iconst 0, 1) := by decide +kernel
theorem dX1_isRest_97 : decode cX1_isRest 97 = .ok (.ireturn, 1) := by decide +kernel
theorem dX1_isRest_98 : decode cX1_isRest 98 = .ok (.iinc 1 1, 3) := by decide +kernel
theorem dX1_isRest_101 : decode cX1_isRest 101 = .ok (.goto (-24), 3) := by decide +kernel
theorem dX1_isRest_104 : decode cX1_isRest 104 = .ok (.iconst 1, 1) := by decide +kernel
theorem dX1_isRest_105 : decode cX1_isRest 105 = .ok (.ireturn, 1) := by decide +kernel
theorem dX1_canDoBetter_0 : decode cX1_canDoBetter 0 = .ok (.aload_n 0, 1) := by decide +kernel
theorem dX1_canDoBetter_1 : decode cX1_canDoBetter 1 = .ok (.getfield 22, 3) := by decide +kernel
theorem dX1_canDoBetter_4 : decode cX1_canDoBetter 4 = .ok (.iload_n 1, 1) := by decide +kernel
theorem dX1_canDoBetter_5 : decode cX1_canDoBetter 5 = .ok (.aload_n 0, 1) := by decide +kernel
theorem dX1_canDoBetter_6 : decode cX1_canDoBetter 6 = .ok (.getfield 22, 3) := by decide +kernel
theorem dX1_canDoBetter_9 : decode cX1_canDoBetter 9 = .ok (.getfield 73, 3) := by decide +kernel
theorem dX1_canDoBetter_12 : decode cX1_canDoBetter 12 = .ok (.iload_n 1, 1) := by decide +kernel
theorem dX1_canDoBetter_13 : decode cX1_canDoBetter 13 = .ok (.iaload, 1) := by decide +kernel
theorem dX1_canDoBetter_14 : decode cX1_canDoBetter 14 = .ok (.invokevirtual 86, 3) := by decide +kernel
theorem dX1_canDoBetter_17 : decode cX1_canDoBetter 17 = .ok (.istore_n 2, 1) := by decide +kernel
theorem dX1_canDoBetter_18 : decode cX1_canDoBetter 18 = .ok (.iconst 0, 1) := by decide +kernel
theorem dX1_canDoBetter_19 : decode cX1_canDoBetter 19 = .ok (.istore_n 3, 1) := by decide +kernel
theorem dX1_canDoBetter_20 : decode cX1_canDoBetter 20 = .ok (.iload_n 3, 1) := by decide +kernel
theorem dX1_canDoBetter_21 : decode cX1_canDoBetter 21 = .ok (.aload_n 0, 1) := by decide +kernel
theorem dX1_canDoBetter_22 : decode cX1_canDoBetter 22 = .ok (.getfield 18, 3) := by decide +kernel
theorem dX1_canDoBetter_25 : decode cX1_canDoBetter 25 = .ok (.getfield 60, 3) := by decide +kernel
theorem dX1_canDoBetter_28 : decode cX1_canDoBetter 28 = .ok (.if_icmp .ge 47, 3) := by decide +kernel
theorem dX1_canDoBetter_31 : decode cX1_canDoBetter 31 = .ok (.aload_n 0, 1) := by decide +kernel
theorem dX1_canDoBetter_32 : decode cX1_canDoBetter 32 = .ok (.getfield 18, 3) := by decide +kernel
theorem dX1_canDoBetter_35 : decode cX1_canDoBetter 35 = .ok (.iload_n 1, 1) := by decide +kernel
theorem dX1_canDoBetter_36 : decode cX1_canDoBetter 36 = .ok (.iload_n 3, 1) := by decide +kernel
theorem dX1_canDoBetter_37 : decode cX1_canDoBetter 37 = .ok (.iconst 0, 1) := by decide +kernel
theorem dX1_canDoBetter_38 : decode cX1_canDoBetter 38 = .ok (.invokevirtual 89, 3) := by decide +kernel
theorem dX1_canDoBetter_41 : decode cX1_canDoBetter 41 = .ok (.ifCond .ne 6, 3) := by decide +kernel
theorem dX1_canDoBetter_44 : decode cX1_canDoBetter 44 = .ok (.goto 25, 3) := by decide +kernel
theorem dX1_canDoBetter_47 : decode cX1_canDoBetter 47 = .ok (.aload_n 0, 1) := by decide +kernel
theorem dX1_canDoBetter_48 : decode cX1_canDoBetter 48 = .ok (.getfield 22, 3) := by decide +kernel
theorem dX1_canDoBetter_51 : decode cX1_canDoBetter 51 = .ok (.iload_n 1, 1) := by decide +kernel
theorem dX1_canDoBetter_52 : decode cX1_canDoBetter 52 = .ok (.aload_n 0, 1) := by decide +kernel
theorem dX1_canDoBetter_53 : decode cX1_canDoBetter 53 = .ok (.getfield 18, 3) := by decide +kernel
theorem dX1_canDoBetter_56 : decode cX1_canDoBetter 56 = .ok (.iload_n 3, 1) := by decide +kernel
theorem dX1_canDoBetter_57 : decode cX1_canDoBetter 57 = .ok (.invokevirtual 79, 3) := by decide +kernel
theorem dX1_canDoBetter_60 : decode cX1_canDoBetter 60 = .ok (.invokevirtual 86, 3) := by decide +kernel
theorem dX1_canDoBetter_63 : decode cX1_canDoBetter 63 = .ok (.iload_n 2, 1) := by decide +kernel
theorem dX1_canDoBetter_64 : decode cX1_canDoBetter 64 = .ok (.if_icmp .ge 5, 3) := by decide +kernel
theorem dX1_canDoBetter_67 : decode cX1_canDoBetter 67 = .ok (.iconst 1, 1) := by decide +kernel
theorem dX1_canDoBetter_68 : decode cX1_canDoBetter 68 = .ok (.ireturn, 1) := by decide +kernel
theorem dX1_canDoBetter_69 : decode cX1_canDoBetter 69 = .ok (.iinc 3 1, 3) := by decide +kernel
theorem dX1_canDoBetter_72 : decode cX1_canDoBetter 72 = .ok (.goto (-52), 3) := by decide +kernel
theorem dX1_canDoBetter_75 : decode cX1_canDoBetter 75 = .ok (.iconst 0, 1) := by decide +kernel
theorem dX1_canDoBetter_76 : decode cX1_canDoBetter 76 = .ok (.ireturn, 1) := by decide +kernel
theorem dX2_init_0 : decode cX2_init 0 = .ok (.aload_n 0, 1) := by decide +kernel
theorem dX2_init_1 : decode cX2_init 1 = .ok (.invokespecial 3, 3) := by decide +kernel
theorem dX2_init_4 : decode cX2_init 4 = .ok (.aload_n 0, 1) := by decide +kernel
theorem dX2_init_5 : decode cX2_init 5 = .ok (.sipush 240, 3) := by decide +kernel
theorem dX2_init_8 : decode cX2_init 8 = .ok (.newarray .int, 2) := by decide +kernel
theorem dX2_init_10 : decode cX2_init 10 = .ok (.putfield 9, 3) := by decide +kernel
theorem dX2_init_13 : decode cX2_init 13 = .ok (.aload_n 0, 1) := by decide +kernel
theorem dX2_init_14 : decode cX2_init 14 = .ok (.iconst 4, 1) := by decide +kernel
theorem dX2_init_15 : decode cX2_init 15 = .ok (.newarray .int, 2) := by decide +kernel
theorem dX2_init_17 : decode cX2_init 17 = .ok (.putfield 15, 3) := by decide +kernel
theorem dX2_init_20 : decode cX2_init 20 = .ok (.aload_n 0, 1) := by decide +kernel
theorem dX2_init_21 : decode cX2_init 21 = .ok (.iconst 4, 1) := by decide +kernel
theorem dX2_init_22 : decode cX2_init 22 = .ok (.newarray .int, 2) := by decide +kernel
theorem dX2_init_24 : decode cX2_init 24 = .ok (.putfield 18, 3) := by decide +kernel
theorem dX2_init_27 : decode cX2_init 27 = .ok (.aload_n 0, 1) := by decide +kernel
theorem dX2_init_28 : decode cX2_init 28 = .ok (.getfield 18, 3) := by decide +kernel
theorem dX2_init_31 : decode cX2_init 31 = .ok (.bipush (-9), 2) := by decide +kernel
theorem dX2_init_33 : decode cX2_init 33 = .ok (.invokestatic 21, 3) := by decide +kernel
theorem dX2_init_36 : decode cX2_init 36 = .ok (.return_, 1) := by decide +kernel
theorem dX2_hasRow_0 : decode cX2_hasRow 0 = .ok (.aload_n 0, 1) := by decide +kernel
theorem dX2_hasRow_1 : decode cX2_hasRow 1 = .ok (.getfield 18, 3) := by decide +kernel
theorem dX2_hasRow_4 : decode cX2_hasRow 4 = .ok (.iload_n 1, 1) := by decide +kernel
theorem dX2_hasRow_5 : decode cX2_hasRow 5 = .ok (.iaload, 1) := by decide +kernel
theorem dX2_hasRow_6 : decode cX2_hasRow 6 = .ok (.bipush (-9), 2) := by decide +kernel
theorem dX2_hasRow_8 : decode cX2_hasRow 8 = .ok (.if_icmp .eq 7, 3) := by decide +kernel
theorem dX2_hasRow_11 : decode cX2_hasRow 11 = .ok (.iconst 1, 1) := by decide +kernel
theorem dX2_hasRow_12 : decode cX2_hasRow 12 = .ok (.goto 4, 3) := by decide +kernel
theorem dX2_hasRow_15 : decode cX2_hasRow 15 = .ok (.iconst 0, 1) := by decide +kernel
theorem dX2_hasRow_16 : decode cX2_hasRow 16 = .ok (.ireturn, 1) := by decide +kernel
theorem dX2_hasCells_0 : decode cX2_hasCells 0 = .ok (.iload_n 2, 1) := by decide +kernel
theorem dX2_hasCells_1 : decode cX2_hasCells 1 = .ok (.ifCond .lt 33, 3) := by decide +kernel
theorem dX2_hasCells_4 : decode cX2_hasCells 4 = .ok (.iload_n 3, 1) := by decide +kernel
theorem dX2_hasCells_5 : decode cX2_hasCells 5 = .ok (.ifCond .lt 29, 3) := by decide +kernel
theorem dX2_hasCells_8 : decode cX2_hasCells 8 = .ok (.iload_n 3, 1) := by decide +kernel
theorem dX2_hasCells_9 : decode cX2_hasCells 9 = .ok (.aload_n 0, 1) := by decide +kernel
theorem dX2_hasCells_10 : decode cX2_hasCells 10 = .ok (.getfield 18, 3) := by decide +kernel
theorem dX2_hasCells_13 : decode cX2_hasCells 13 = .ok (.iload_n 1, 1) := by decide +kernel
theorem dX2_hasCells_14 : decode cX2_hasCells 14 = .ok (.iaload, 1) := by decide +kernel
theorem dX2_hasCells_15 : decode cX2_hasCells 15 = .ok (.if_icmp .gt 19, 3) := by decide +kernel
theorem dX2_hasCells_18 : decode cX2_hasCells 18 = .ok (.iload_n 2, 1) := by decide +kernel
theorem dX2_hasCells_19 : decode cX2_hasCells 19 = .ok (.aload_n 0, 1) := by decide +kernel
theorem dX2_hasCells_20 : decode cX2_hasCells 20 = .ok (.getfield 18, 3) := by decide +kernel
theorem dX2_hasCells_23 : decode cX2_hasCells 23 = .ok (.iload_n 1, 1) := by decide +kernel
theorem dX2_hasCells_24 : decode cX2_hasCells 24 = .ok (.iaload, 1) := by decide +kernel
theorem dX2_hasCells_25 : decode cX2_hasCells 25 = .ok (.iload_n 3, 1) := by decide +kernel
theorem dX2_hasCells_26 : decode cX2_hasCells 26 = .ok (.isub, 1) := by decide +kernel
theorem dX2_hasCells_27 : decode cX2_hasCells 27 = .ok (.if_icmp .gt 7, 3) := by decide +kernel
theorem dX2_hasCells_30 : decode cX2_hasCells 30 = .ok (.iconst 1, 1) := by decide +kernel
theorem dX2_hasCells_31 : decode cX2_hasCells 31 = .ok (.goto 4, 3) := by decide +kernel
theorem dX2_hasCells_34 : decode cX2_hasCells 34 = .ok (.iconst 0, 1) := by decide +kernel
theorem dX2_hasCells_35 : decode cX2_hasCells 35 = .ok (.ireturn, 1) := by decide +kernel
theorem dX2_faultOf_0 : decode cX2_faultOf 0 = .ok (.aload_n 0, 1) := by decide +kernel
theorem dX2_faultOf_1 : decode cX2_faultOf 1 = .ok (.iload_n 1, 1) := by decide +kernel
theorem dX2_faultOf_2 : decode cX2_faultOf 2 = .ok (.invokevirtual 27, 3) := by decide +kernel
theorem dX2_faultOf_5 : decode cX2_faultOf 5 = .ok (.ifCond .ne 5, 3) := by decide +kernel
theorem dX2_faultOf_8 : decode cX2_faultOf 8 = .ok (.iconst 1, 1) := by decide +kernel
theorem dX2_faultOf_9 : decode cX2_faultOf 9 = .ok (.ireturn, 1) := by decide +kernel
theorem dX2_faultOf_10 : decode cX2_faultOf 10 = .ok (.aload_n 0, 1) := by decide +kernel
theorem dX2_faultOf_11 : decode cX2_faultOf 11 = .ok (.getfield 15, 3) := by decide +kernel
theorem dX2_faultOf_14 : decode cX2_faultOf 14 = .ok (.iload_n 1, 1) := by decide +kernel
theorem dX2_faultOf_15 : decode cX2_faultOf 15 = .ok (.iaload, 1) := by decide +kernel
theorem dX2_faultOf_16 : decode cX2_faultOf 16 = .ok (.iload_n 2, 1) := by decide +kernel
theorem dX2_faultOf_17 : decode cX2_faultOf 17 = .ok (.if_icmp .eq 5, 3) := by decide +kernel
theorem dX2_faultOf_20 : decode cX2_faultOf 20 = .ok (.iconst 2, 1) := by decide +kernel
theorem dX2_faultOf_21 : decode cX2_faultOf 21 = .ok (.ireturn, 1) := by decide +kernel
theorem dX2_faultOf_22 : decode cX2_faultOf 22 = .ok (.iload 4, 2) := by decide +kernel
theorem dX2_faultOf_24 : decode cX2_faultOf 24 = .ok (.ifCond .ge 5, 3) := by decide +kernel
theorem dX2_faultOf_27 : decode cX2_faultOf 27 = .ok (.iconst 4, 1) := by decide +kernel
theorem dX2_faultOf_28 : decode cX2_faultOf 28 = .ok (.ireturn, 1) := by decide +kernel
theorem dX2_faultOf_29 : decode cX2_faultOf 29 = .ok (.aload_n 0, 1) := by decide +kernel
theorem dX2_faultOf_30 : decode cX2_faultOf 30 = .ok (.iload_n 1, 1) := by decide +kernel
theorem dX2_faultOf_31 : decode cX2_faultOf 31 = .ok (.iload_n 3, 1) := by decide +kernel
theorem dX2_faultOf_32 : decode cX2_faultOf 32 = .ok (.iload 4, 2) := by decide +kernel
theorem dX2_faultOf_34 : decode cX2_faultOf 34 = .ok (.invokevirtual 31, 3) := by decide +kernel
theorem dX2_faultOf_37 : decode cX2_faultOf 37 = .ok (.ifCond .eq 7, 3) := by decide +kernel
theorem dX2_faultOf_40 : decode cX2_faultOf 40 = .ok (.iconst 0, 1) := by decide +kernel
theorem dX2_faultOf_41 : decode cX2_faultOf 41 = .ok (.goto 4, 3) := by decide +kernel
theorem dX2_faultOf_44 : decode cX2_faultOf 44 = .ok (.iconst 3, 1) := by decide +kernel
theorem dX2_faultOf_45 : decode cX2_faultOf 45 = .ok (.ireturn, 1) := by decide +kernel
theorem dX2_makeRow_0 : decode cX2_makeRow 0 = .ok (.aload_n 0, 1) := by decide +kernel
theorem dX2_makeRow_1 : decode cX2_makeRow 1 = .ok (.getfield 15, 3) := by decide +kernel
theorem dX2_makeRow_4 : decode cX2_makeRow 4 = .ok (.iload_n 1, 1) := by decide +kernel
theorem dX2_makeRow_5 : decode cX2_makeRow 5 = .ok (.iload_n 2, 1) := by decide +kernel
theorem dX2_makeRow_6 : decode cX2_makeRow 6 = .ok (.iastore, 1) := by decide +kernel
theorem dX2_makeRow_7 : decode cX2_makeRow 7 = .ok (.aload_n 0, 1) := by decide +kernel
theorem dX2_makeRow_8 : decode cX2_makeRow 8 = .ok (.getfield 18, 3) := by decide +kernel
theorem dX2_makeRow_11 : decode cX2_makeRow 11 = .ok (.iload_n 1, 1) := by decide +kernel
theorem dX2_makeRow_12 : decode cX2_makeRow 12 = .ok (.iload_n 3, 1) := by decide +kernel
theorem dX2_makeRow_13 : decode cX2_makeRow 13 = .ok (.iastore, 1) := by decide +kernel
theorem dX2_makeRow_14 : decode cX2_makeRow 14 = .ok (.aload_n 0, 1) := by decide +kernel
theorem dX2_makeRow_15 : decode cX2_makeRow 15 = .ok (.getfield 9, 3) := by decide +kernel
theorem dX2_makeRow_18 : decode cX2_makeRow 18 = .ok (.iload_n 1, 1) := by decide +kernel
theorem dX2_makeRow_19 : decode cX2_makeRow 19 = .ok (.bipush 60, 2) := by decide +kernel
theorem dX2_makeRow_21 : decode cX2_makeRow 21 = .ok (.imul, 1) := by decide +kernel
theorem dX2_makeRow_22 : decode cX2_makeRow 22 = .ok (.iload_n 1, 1) := by decide +kernel
theorem dX2_makeRow_23 : decode cX2_makeRow 23 = .ok (.bipush 60, 2) := by decide +kernel
theorem dX2_makeRow_25 : decode cX2_makeRow 25 = .ok (.imul, 1) := by decide +kernel
theorem dX2_makeRow_26 : decode cX2_makeRow 26 = .ok (.iload_n 3, 1) := by decide +kernel
theorem dX2_makeRow_27 : decode cX2_makeRow 27 = .ok (.iadd, 1) := by decide +kernel
theorem dX2_makeRow_28 : decode cX2_makeRow 28 = .ok (.iconst 0, 1) := by decide +kernel
theorem dX2_makeRow_29 : decode cX2_makeRow 29 = .ok (.invokestatic 35, 3) := by decide +kernel
theorem dX2_makeRow_32 : decode cX2_makeRow 32 = .ok (.return_, 1) := by decide +kernel
theorem dX2_dropRow_0 : decode cX2_dropRow 0 = .ok (.aload_n 0, 1) := by decide +kernel
theorem dX2_dropRow_1 : decode cX2_dropRow 1 = .ok (.iload_n 1, 1) := by decide +kernel
theorem dX2_dropRow_2 : decode cX2_dropRow 2 = .ok (.invokevirtual 27, 3) := by decide +kernel
theorem dX2_dropRow_5 : decode cX2_dropRow 5 = .ok (.istore_n 2, 1) := by decide +kernel
theorem dX2_dropRow_6 : decode cX2_dropRow 6 = .ok (.aload_n 0, 1) := by decide +kernel
theorem dX2_dropRow_7 : decode cX2_dropRow 7 = .ok (.getfield 18, 3) := by decide +kernel
theorem dX2_dropRow_10 : decode cX2_dropRow 10 = .ok (.iload_n 1, 1) := by decide +kernel
theorem dX2_dropRow_11 : decode cX2_dropRow 11 = .ok (.bipush (-9), 2) := by decide +kernel
theorem dX2_dropRow_13 : decode cX2_dropRow 13 = .ok (.iastore, 1) := by decide +kernel
theorem dX2_dropRow_14 : decode cX2_dropRow 14 = .ok (.iload_n 2, 1) := by decide +kernel
theorem dX2_dropRow_15 : decode cX2_dropRow 15 = .ok (.ireturn, 1) := by decide +kernel
theorem dX2_read_0 : decode cX2_read 0 = .ok (.aload_n 0, 1) := by decide +kernel
theorem dX2_read_1 : decode cX2_read 1 = .ok (.getfield 9, 3) := by decide +kernel
theorem dX2_read_4 : decode cX2_read 4 = .ok (.iload_n 1, 1) := by decide +kernel
theorem dX2_read_5 : decode cX2_read 5 = .ok (.bipush 60, 2) := by decide +kernel
theorem dX2_read_7 : decode cX2_read 7 = .ok (.imul, 1) := by decide +kernel
theorem dX2_read_8 : decode cX2_read 8 = .ok (.iload_n 2, 1) := by decide +kernel
theorem dX2_read_9 : decode cX2_read 9 = .ok (.iadd, 1) := by decide +kernel
theorem dX2_read_10 : decode cX2_read 10 = .ok (.iaload, 1) := by decide +kernel
theorem dX2_read_11 : decode cX2_read 11 = .ok (.ireturn, 1) := by decide +kernel
theorem dX2_write_0 : decode cX2_write 0 = .ok (.iload_n 3, 1) := by decide +kernel
theorem dX2_write_1 : decode cX2_write 1 = .ok (.istore 4, 2) := by decide +kernel
theorem dX2_write_3 : decode cX2_write 3 = .ok (.aload_n 0, 1) := by decide +kernel
theorem dX2_write_4 : decode cX2_write 4 = .ok (.getfield 15, 3) := by decide +kernel
theorem dX2_write_7 : decode cX2_write 7 = .ok (.iload_n 1, 1) := by decide +kernel
theorem dX2_write_8 : decode cX2_write 8 = .ok (.iaload, 1) := by decide +kernel
theorem dX2_write_9 : decode cX2_write 9 = .ok (.ifCond .ne 7, 3) := by decide +kernel
theorem dX2_write_12 : decode cX2_write 12 = .ok (.iload_n 3, 1) := by decide +kernel
theorem dX2_write_13 : decode cX2_write 13 = .ok (.i2b, 1) := by decide +kernel
theorem dX2_write_14 : decode cX2_write 14 = .ok (.istore 4, 2) := by decide +kernel
theorem dX2_write_16 : decode cX2_write 16 = .ok (.aload_n 0, 1) := by decide +kernel
theorem dX2_write_17 : decode cX2_write 17 = .ok (.getfield 15, 3) := by decide +kernel
theorem dX2_write_20 : decode cX2_write 20 = .ok (.iload_n 1, 1) := by decide +kernel
theorem dX2_write_21 : decode cX2_write 21 = .ok (.iaload, 1) := by decide +kernel
theorem dX2_write_22 : decode cX2_write 22 = .ok (.iconst 1, 1) := by decide +kernel
theorem dX2_write_23 : decode cX2_write 23 = .ok (.if_icmp .ne 7, 3) := by decide +kernel
theorem dX2_write_26 : decode cX2_write 26 = .ok (.iload_n 3, 1) := by decide +kernel
theorem dX2_write_27 : decode cX2_write 27 = .ok (.i2s, 1) := by decide +kernel
theorem dX2_write_28 : decode cX2_write 28 = .ok (.istore 4, 2) := by decide +kernel
theorem dX2_write_30 : decode cX2_write 30 = .ok (.aload_n 0, 1) := by decide +kernel
theorem dX2_write_31 : decode cX2_write 31 = .ok (.getfield 9, 3) := by decide +kernel
theorem dX2_write_34 : decode cX2_write 34 = .ok (.iload_n 1, 1) := by decide +kernel
theorem dX2_write_35 : decode cX2_write 35 = .ok (.bipush 60, 2) := by decide +kernel
theorem dX2_write_37 : decode cX2_write 37 = .ok (.imul, 1) := by decide +kernel
theorem dX2_write_38 : decode cX2_write 38 = .ok (.iload_n 2, 1) := by decide +kernel
theorem dX2_write_39 : decode cX2_write 39 = .ok (.iadd, 1) := by decide +kernel
theorem dX2_write_40 : decode cX2_write 40 = .ok (.iload 4, 2) := by decide +kernel
theorem dX2_write_42 : decode cX2_write 42 = .ok (.iastore, 1) := by decide +kernel
theorem dX2_write_43 : decode cX2_write 43 = .ok (.return_, 1) := by decide +kernel
theorem dX2_take_0 : decode cX2_take 0 = .ok (.aload_n 0, 1) := by decide +kernel
theorem dX2_take_1 : decode cX2_take 1 = .ok (.getfield 9, 3) := by decide +kernel
theorem dX2_take_4 : decode cX2_take 4 = .ok (.iload_n 1, 1) := by decide +kernel
theorem dX2_take_5 : decode cX2_take 5 = .ok (.bipush 60, 2) := by decide +kernel
theorem dX2_take_7 : decode cX2_take 7 = .ok (.imul, 1) := by decide +kernel
theorem dX2_take_8 : decode cX2_take 8 = .ok (.iload_n 2, 1) := by decide +kernel
theorem dX2_take_9 : decode cX2_take 9 = .ok (.iadd, 1) := by decide +kernel
theorem dX2_take_10 : decode cX2_take 10 = .ok (.aload 4, 2) := by decide +kernel
theorem dX2_take_12 : decode cX2_take 12 = .ok (.iconst 0, 1) := by decide +kernel
theorem dX2_take_13 : decode cX2_take 13 = .ok (.iload_n 3, 1) := by decide +kernel
theorem dX2_take_14 : decode cX2_take 14 = .ok (.invokestatic 38, 3) := by decide +kernel
theorem dX2_take_17 : decode cX2_take 17 = .ok (.return_, 1) := by decide +kernel
theorem dX2_move_0 : decode cX2_move 0 = .ok (.aload_n 0, 1) := by decide +kernel
theorem dX2_move_1 : decode cX2_move 1 = .ok (.getfield 9, 3) := by decide +kernel
theorem dX2_move_4 : decode cX2_move 4 = .ok (.iload_n 1, 1) := by decide +kernel
theorem dX2_move_5 : decode cX2_move 5 = .ok (.bipush 60, 2) := by decide +kernel
theorem dX2_move_7 : decode cX2_move 7 = .ok (.imul, 1) := by decide +kernel
theorem dX2_move_8 : decode cX2_move 8 = .ok (.iload_n 2, 1) := by decide +kernel
theorem dX2_move_9 : decode cX2_move 9 = .ok (.iadd, 1) := by decide +kernel
theorem dX2_move_10 : decode cX2_move 10 = .ok (.aload_n 0, 1) := by decide +kernel
theorem dX2_move_11 : decode cX2_move 11 = .ok (.getfield 9, 3) := by decide +kernel
theorem dX2_move_14 : decode cX2_move 14 = .ok (.iload_n 3, 1) := by decide +kernel
theorem dX2_move_15 : decode cX2_move 15 = .ok (.bipush 60, 2) := by decide +kernel
theorem dX2_move_17 : decode cX2_move 17 = .ok (.imul, 1) := by decide +kernel
theorem dX2_move_18 : decode cX2_move 18 = .ok (.iload 4, 2) := by decide +kernel
theorem dX2_move_20 : decode cX2_move 20 = .ok (.iadd, 1) := by decide +kernel
theorem dX2_move_21 : decode cX2_move 21 = .ok (.iload 5, 2) := by decide +kernel
theorem dX2_move_23 : decode cX2_move 23 = .ok (.invokestatic 38, 3) := by decide +kernel
theorem dX2_move_26 : decode cX2_move 26 = .ok (.return_, 1) := by decide +kernel
theorem dX3_init_0 : decode cX3_init 0 = .ok (.aload_n 0, 1) := by decide +kernel
theorem dX3_init_1 : decode cX3_init 1 = .ok (.invokespecial 3, 3) := by decide +kernel
theorem dX3_init_4 : decode cX3_init 4 = .ok (.aload_n 0, 1) := by decide +kernel
theorem dX3_init_5 : decode cX3_init 5 = .ok (.iconst 5, 1) := by decide +kernel
theorem dX3_init_6 : decode cX3_init 6 = .ok (.newarray .int, 2) := by decide +kernel
theorem dX3_init_8 : decode cX3_init 8 = .ok (.putfield 9, 3) := by decide +kernel
theorem dX3_init_11 : decode cX3_init 11 = .ok (.return_, 1) := by decide +kernel
theorem dX3_placeOf_0 : decode cX3_placeOf 0 = .ok (.iconst 0, 1) := by decide +kernel
theorem dX3_placeOf_1 : decode cX3_placeOf 1 = .ok (.istore_n 3, 1) := by decide +kernel
theorem dX3_placeOf_2 : decode cX3_placeOf 2 = .ok (.iconst 0, 1) := by decide +kernel
theorem dX3_placeOf_3 : decode cX3_placeOf 3 = .ok (.istore 4, 2) := by decide +kernel
theorem dX3_placeOf_5 : decode cX3_placeOf 5 = .ok (.iload 4, 2) := by decide +kernel
theorem dX3_placeOf_7 : decode cX3_placeOf 7 = .ok (.aload_n 0, 1) := by decide +kernel
theorem dX3_placeOf_8 : decode cX3_placeOf 8 = .ok (.getfield 15, 3) := by decide +kernel
theorem dX3_placeOf_11 : decode cX3_placeOf 11 = .ok (.if_icmp .ge 49, 3) := by decide +kernel
theorem dX3_placeOf_14 : decode cX3_placeOf 14 = .ok (.iload 4, 2) := by decide +kernel
theorem dX3_placeOf_16 : decode cX3_placeOf 16 = .ok (.iload_n 1, 1) := by decide +kernel
theorem dX3_placeOf_17 : decode cX3_placeOf 17 = .ok (.if_icmp .ne 6, 3) := by decide +kernel
theorem dX3_placeOf_20 : decode cX3_placeOf 20 = .ok (.goto 34, 3) := by decide +kernel
theorem dX3_placeOf_23 : decode cX3_placeOf 23 = .ok (.aload_n 0, 1) := by decide +kernel
theorem dX3_placeOf_24 : decode cX3_placeOf 24 = .ok (.getfield 9, 3) := by decide +kernel
theorem dX3_placeOf_27 : decode cX3_placeOf 27 = .ok (.iload 4, 2) := by decide +kernel
theorem dX3_placeOf_29 : decode cX3_placeOf 29 = .ok (.iaload, 1) := by decide +kernel
theorem dX3_placeOf_30 : decode cX3_placeOf 30 = .ok (.iload_n 2, 1) := by decide +kernel
theorem dX3_placeOf_31 : decode cX3_placeOf 31 = .ok (.if_icmp .gt 20, 3) := by decide +kernel
theorem dX3_placeOf_34 : decode cX3_placeOf 34 = .ok (.aload_n 0, 1) := by decide +kernel
theorem dX3_placeOf_35 : decode cX3_placeOf 35 = .ok (.getfield 9, 3) := by decide +kernel
theorem dX3_placeOf_38 : decode cX3_placeOf 38 = .ok (.iload 4, 2) := by decide +kernel
theorem dX3_placeOf_40 : decode cX3_placeOf 40 = .ok (.iaload, 1) := by decide +kernel
theorem dX3_placeOf_41 : decode cX3_placeOf 41 = .ok (.iload_n 2, 1) := by decide +kernel
theorem dX3_placeOf_42 : decode cX3_placeOf 42 = .ok (.if_icmp .ne 12, 3) := by decide +kernel
theorem dX3_placeOf_45 : decode cX3_placeOf 45 = .ok (.iload 4, 2) := by decide +kernel
theorem dX3_placeOf_47 : decode cX3_placeOf 47 = .ok (.iload_n 1, 1) := by decide +kernel
theorem dX3_placeOf_48 : decode cX3_placeOf 48 = .ok (.if_icmp .ge 6, 3) := by decide +kernel
theorem dX3_placeOf_51 : decode cX3_placeOf 51 = .ok (.iinc 3 1, 3) := by decide +kernel
theorem dX3_placeOf_54 : decode cX3_placeOf 54 = .ok (.iinc 4 1, 3) := by decide +kernel
theorem dX3_placeOf_57 : decode cX3_placeOf 57 = .ok (.goto (-52), 3) := by decide +kernel
theorem dX3_placeOf_60 : decode cX3_placeOf 60 = .ok (.iload_n 3, 1) := by decide +kernel
theorem dX3_placeOf_61 : decode cX3_placeOf 61 = .ok (.ireturn, 1) := by decide +kernel
theorem dX3_needOf_0 : decode cX3_needOf 0 = .ok (.iconst 1, 1) := by decide +kernel
theorem dX3_needOf_1 : decode cX3_needOf 1 = .ok (.istore_n 2, 1) := by decide +kernel
theorem dX3_needOf_2 : decode cX3_needOf 2 = .ok (.iconst 0, 1) := by decide +kernel
theorem dX3_needOf_3 : decode cX3_needOf 3 = .ok (.istore_n 3, 1) := by decide +kernel
theorem dX3_needOf_4 : decode cX3_needOf 4 = .ok (.iload_n 3, 1) := by decide +kernel
theorem dX3_needOf_5 : decode cX3_needOf 5 = .ok (.aload_n 0, 1) := by decide +kernel
theorem dX3_needOf_6 : decode cX3_needOf 6 = .ok (.getfield 15, 3) := by decide +kernel
theorem dX3_needOf_9 : decode cX3_needOf 9 = .ok (.if_icmp .ge 44, 3) := by decide +kernel
theorem dX3_needOf_12 : decode cX3_needOf 12 = .ok (.iload_n 3, 1) := by decide +kernel
theorem dX3_needOf_13 : decode cX3_needOf 13 = .ok (.iload_n 1, 1) := by decide +kernel
theorem dX3_needOf_14 : decode cX3_needOf 14 = .ok (.if_icmp .ne 6, 3) := by decide +kernel
theorem dX3_needOf_17 : decode cX3_needOf 17 = .ok (.goto 30, 3) := by decide +kernel
theorem dX3_needOf_20 : decode cX3_needOf 20 = .ok (.iload_n 2, 1) := by decide +kernel
theorem dX3_needOf_21 : decode cX3_needOf 21 = .ok (.iload_n 3, 1) := by decide +kernel
theorem dX3_needOf_22 : decode cX3_needOf 22 = .ok (.iload_n 1, 1) := by decide +kernel
theorem dX3_needOf_23 : decode cX3_needOf 23 = .ok (.if_icmp .ge 14, 3) := by decide +kernel
theorem dX3_needOf_26 : decode cX3_needOf 26 = .ok (.aload_n 0, 1) := by decide +kernel
theorem dX3_needOf_27 : decode cX3_needOf 27 = .ok (.getfield 9, 3) := by decide +kernel
theorem dX3_needOf_30 : decode cX3_needOf 30 = .ok (.iload_n 3, 1) := by decide +kernel
theorem dX3_needOf_31 : decode cX3_needOf 31 = .ok (.iaload, 1) := by decide +kernel
theorem dX3_needOf_32 : decode cX3_needOf 32 = .ok (.iconst 1, 1) := by decide +kernel
theorem dX3_needOf_33 : decode cX3_needOf 33 = .ok (.iadd, 1) := by decide +kernel
theorem dX3_needOf_34 : decode cX3_needOf 34 = .ok (.goto 9, 3) := by decide +kernel
theorem dX3_needOf_37 : decode cX3_needOf 37 = .ok (.aload_n 0, 1) := by decide +kernel
theorem dX3_needOf_38 : decode cX3_needOf 38 = .ok (.getfield 9, 3) := by decide +kernel
theorem dX3_needOf_41 : decode cX3_needOf 41 = .ok (.iload_n 3, 1) := by decide +kernel
theorem dX3_needOf_42 : decode cX3_needOf 42 = .ok (.iaload, 1) := by decide +kernel
theorem dX3_needOf_43 : decode cX3_needOf 43 = .ok (.invokestatic 19, 3) := by decide +kernel
theorem dX3_needOf_46 : decode cX3_needOf 46 = .ok (.istore_n 2, 1) := by decide +kernel
theorem dX3_needOf_47 : decode cX3_needOf 47 = .ok (.iinc 3 1, 3) := by decide +kernel
theorem dX3_needOf_50 : decode cX3_needOf 50 = .ok (.goto (-46), 3) := by decide +kernel
theorem dX3_needOf_53 : decode cX3_needOf 53 = .ok (.iload_n 2, 1) := by decide +kernel
theorem dX3_needOf_54 : decode cX3_needOf 54 = .ok (.ireturn, 1) := by decide +kernel
theorem dX3_noLessThan_0 : decode cX3_noLessThan 0 = .ok (.iconst 0, 1) := by decide +kernel
theorem dX3_noLessThan_1 : decode cX3_noLessThan 1 = .ok (.istore_n 2, 1) := by decide +kernel
theorem dX3_noLessThan_2 : decode cX3_noLessThan 2 = .ok (.iconst 0, 1) := by decide +kernel
theorem dX3_noLessThan_3 : decode cX3_noLessThan 3 = .ok (.istore_n 3, 1) := by decide +kernel
theorem dX3_noLessThan_4 : decode cX3_noLessThan 4 = .ok (.iload_n 3, 1) := by decide +kernel
theorem dX3_noLessThan_5 : decode cX3_noLessThan 5 = .ok (.aload_n 0, 1) := by decide +kernel
theorem dX3_noLessThan_6 : decode cX3_noLessThan 6 = .ok (.getfield 15, 3) := by decide +kernel
theorem dX3_noLessThan_9 : decode cX3_noLessThan 9 = .ok (.if_icmp .ge 31, 3) := by decide +kernel
theorem dX3_noLessThan_12 : decode cX3_noLessThan 12 = .ok (.aload_n 0, 1) := by decide +kernel
theorem dX3_noLessThan_13 : decode cX3_noLessThan 13 = .ok (.getfield 9, 3) := by decide +kernel
theorem dX3_noLessThan_16 : decode cX3_noLessThan 16 = .ok (.iload_n 3, 1) := by decide +kernel
theorem dX3_noLessThan_17 : decode cX3_noLessThan 17 = .ok (.iaload, 1) := by decide +kernel
theorem dX3_noLessThan_18 : decode cX3_noLessThan 18 = .ok (.ifCond .le 16, 3) := by decide +kernel
theorem dX3_noLessThan_21 : decode cX3_noLessThan 21 = .ok (.aload_n 0, 1) := by decide +kernel
theorem dX3_noLessThan_22 : decode cX3_noLessThan 22 = .ok (.getfield 9, 3) := by decide +kernel
theorem dX3_noLessThan_25 : decode cX3_noLessThan 25 = .ok (.iload_n 3, 1) := by decide +kernel
theorem dX3_noLessThan_26 : decode cX3_noLessThan 26 = .ok (.iaload, 1) := by decide +kernel
theorem dX3_noLessThan_27 : decode cX3_noLessThan 27 = .ok (.iload_n 1, 1) := by decide +kernel
theorem dX3_noLessThan_28 : decode cX3_noLessThan 28 = .ok (.if_icmp .lt 6, 3) := by decide +kernel
theorem dX3_noLessThan_31 : decode cX3_noLessThan 31 = .ok (.iinc 2 1, 3) := by decide +kernel
theorem dX3_noLessThan_34 : decode cX3_noLessThan 34 = .ok (.iinc 3 1, 3) := by decide +kernel
theorem dX3_noLessThan_37 : decode cX3_noLessThan 37 = .ok (.goto (-33), 3) := by decide +kernel
theorem dX3_noLessThan_40 : decode cX3_noLessThan 40 = .ok (.iload_n 2, 1) := by decide +kernel
theorem dX3_noLessThan_41 : decode cX3_noLessThan 41 = .ok (.ireturn, 1) := by decide +kernel
theorem dX3_layAs_0 : decode cX3_layAs 0 = .ok (.iconst 0, 1) := by decide +kernel
theorem dX3_layAs_1 : decode cX3_layAs 1 = .ok (.istore_n 2, 1) := by decide +kernel
theorem dX3_layAs_2 : decode cX3_layAs 2 = .ok (.iload_n 2, 1) := by decide +kernel
theorem dX3_layAs_3 : decode cX3_layAs 3 = .ok (.aload_n 0, 1) := by decide +kernel
theorem dX3_layAs_4 : decode cX3_layAs 4 = .ok (.getfield 15, 3) := by decide +kernel
theorem dX3_layAs_7 : decode cX3_layAs 7 = .ok (.if_icmp .ge 30, 3) := by decide +kernel
theorem dX3_layAs_10 : decode cX3_layAs 10 = .ok (.aload_n 1, 1) := by decide +kernel
theorem dX3_layAs_11 : decode cX3_layAs 11 = .ok (.iload_n 2, 1) := by decide +kernel
theorem dX3_layAs_12 : decode cX3_layAs 12 = .ok (.iaload, 1) := by decide +kernel
theorem dX3_layAs_13 : decode cX3_layAs 13 = .ok (.istore_n 3, 1) := by decide +kernel
theorem dX3_layAs_14 : decode cX3_layAs 14 = .ok (.aload_n 0, 1) := by decide +kernel
theorem dX3_layAs_15 : decode cX3_layAs 15 = .ok (.iload_n 3, 1) := by decide +kernel
theorem dX3_layAs_16 : decode cX3_layAs 16 = .ok (.aload_n 0, 1) := by decide +kernel
theorem dX3_layAs_17 : decode cX3_layAs 17 = .ok (.getfield 9, 3) := by decide +kernel
theorem dX3_layAs_20 : decode cX3_layAs 20 = .ok (.iload_n 3, 1) := by decide +kernel
theorem dX3_layAs_21 : decode cX3_layAs 21 = .ok (.iaload, 1) := by decide +kernel
theorem dX3_layAs_22 : decode cX3_layAs 22 = .ok (.invokevirtual 25, 3) := by decide +kernel
theorem dX3_layAs_25 : decode cX3_layAs 25 = .ok (.iload_n 2, 1) := by decide +kernel
theorem dX3_layAs_26 : decode cX3_layAs 26 = .ok (.if_icmp .eq 5, 3) := by decide +kernel
theorem dX3_layAs_29 : decode cX3_layAs 29 = .ok (.iconst 0, 1) := by decide +kernel
theorem dX3_layAs_30 : decode cX3_layAs 30 = .ok (.ireturn, 1) := by decide +kernel
theorem dX3_layAs_31 : decode cX3_layAs 31 = .ok (.iinc 2 1, 3) := by decide +kernel
theorem dX3_layAs_34 : decode cX3_layAs 34 = .ok (.goto (-32), 3) := by decide +kernel
theorem dX3_layAs_37 : decode cX3_layAs 37 = .ok (.iconst 1, 1) := by decide +kernel
theorem dX3_layAs_38 : decode cX3_layAs 38 = .ok (.ireturn, 1) := by decide +kernel
theorem dX4_init_0 : decode cX4_init 0 = .ok (.aload_n 0, 1) := by decide +kernel
theorem dX4_init_1 : decode cX4_init 1 = .ok (.invokespecial 3, 3) := by decide +kernel
theorem dX4_init_4 : decode cX4_init 4 = .ok (.aload_n 0, 1) := by decide +kernel
theorem dX4_init_5 : decode cX4_init 5 = .ok (.bipush 60, 2) := by decide +kernel
theorem dX4_init_7 : decode cX4_init 7 = .ok (.newarray .int, 2) := by decide +kernel
theorem dX4_init_9 : decode cX4_init 9 = .ok (.putfield 9, 3) := by decide +kernel
theorem dX4_init_12 : decode cX4_init 12 = .ok (.return_, 1) := by decide +kernel
theorem dX4_firstFault_0 : decode cX4_firstFault 0 = .ok (.iconst 0, 1) := by decide +kernel
theorem dX4_firstFault_1 : decode cX4_firstFault 1 = .ok (.istore_n 1, 1) := by decide +kernel
theorem dX4_firstFault_2 : decode cX4_firstFault 2 = .ok (.iload_n 1, 1) := by decide +kernel
theorem dX4_firstFault_3 : decode cX4_firstFault 3 = .ok (.aload_n 0, 1) := by decide +kernel
theorem dX4_firstFault_4 : decode cX4_firstFault 4 = .ok (.getfield 15, 3) := by decide +kernel
theorem dX4_firstFault_7 : decode cX4_firstFault 7 = .ok (.if_icmp .ge 19, 3) := by decide +kernel
theorem dX4_firstFault_10 : decode cX4_firstFault 10 = .ok (.aload_n 0, 1) := by decide +kernel
theorem dX4_firstFault_11 : decode cX4_firstFault 11 = .ok (.iload_n 1, 1) := by decide +kernel
theorem dX4_firstFault_12 : decode cX4_firstFault 12 = .ok (.invokevirtual 19, 3) := by decide +kernel
theorem dX4_firstFault_15 : decode cX4_firstFault 15 = .ok (.ifCond .ne 5, 3) := by decide +kernel
theorem dX4_firstFault_18 : decode cX4_firstFault 18 = .ok (.iload_n 1, 1) := by decide +kernel
theorem dX4_firstFault_19 : decode cX4_firstFault 19 = .ok (.ireturn, 1) := by decide +kernel
theorem dX4_firstFault_20 : decode cX4_firstFault 20 = .ok (.iinc 1 1, 3) := by decide +kernel
theorem dX4_firstFault_23 : decode cX4_firstFault 23 = .ok (.goto (-21), 3) := by decide +kernel
theorem dX4_firstFault_26 : decode cX4_firstFault 26 = .ok (.aload_n 0, 1) := by decide +kernel
theorem dX4_firstFault_27 : decode cX4_firstFault 27 = .ok (.getfield 15, 3) := by decide +kernel
theorem dX4_firstFault_30 : decode cX4_firstFault 30 = .ok (.iconst 2, 1) := by decide +kernel
theorem dX4_firstFault_31 : decode cX4_firstFault 31 = .ok (.if_icmp .le 18, 3) := by decide +kernel
theorem dX4_firstFault_34 : decode cX4_firstFault 34 = .ok (.aload_n 0, 1) := by decide +kernel
theorem dX4_firstFault_35 : decode cX4_firstFault 35 = .ok (.getfield 15, 3) := by decide +kernel
theorem dX4_firstFault_38 : decode cX4_firstFault 38 = .ok (.iconst 2, 1) := by decide +kernel
theorem dX4_firstFault_39 : decode cX4_firstFault 39 = .ok (.isub, 1) := by decide +kernel
theorem dX4_firstFault_40 : decode cX4_firstFault 40 = .ok (.iconst 5, 1) := by decide +kernel
theorem dX4_firstFault_41 : decode cX4_firstFault 41 = .ok (.irem, 1) := by decide +kernel
theorem dX4_firstFault_42 : decode cX4_firstFault 42 = .ok (.ifCond .ne 7, 3) := by decide +kernel
theorem dX4_firstFault_45 : decode cX4_firstFault 45 = .ok (.iconst 1, 1) := by decide +kernel
theorem dX4_firstFault_46 : decode cX4_firstFault 46 = .ok (.goto 4, 3) := by decide +kernel
theorem dX4_firstFault_49 : decode cX4_firstFault 49 = .ok (.iconst 0, 1) := by decide +kernel
theorem dX4_firstFault_50 : decode cX4_firstFault 50 = .ok (.istore_n 1, 1) := by decide +kernel
theorem dX4_firstFault_51 : decode cX4_firstFault 51 = .ok (.iload_n 1, 1) := by decide +kernel
theorem dX4_firstFault_52 : decode cX4_firstFault 52 = .ok (.ifCond .eq 7, 3) := by decide +kernel
theorem dX4_firstFault_55 : decode cX4_firstFault 55 = .ok (.iconst (-1), 1) := by decide +kernel
theorem dX4_firstFault_56 : decode cX4_firstFault 56 = .ok (.goto 7, 3) := by decide +kernel
theorem dX4_firstFault_59 : decode cX4_firstFault 59 = .ok (.aload_n 0, 1) := by decide +kernel
theorem dX4_firstFault_60 : decode cX4_firstFault 60 = .ok (.getfield 15, 3) := by decide +kernel
theorem dX4_firstFault_63 : decode cX4_firstFault 63 = .ok (.ireturn, 1) := by decide +kernel
theorem dX4_goesOn_0 : decode cX4_goesOn 0 = .ok (.aload_n 0, 1) := by decide +kernel
theorem dX4_goesOn_1 : decode cX4_goesOn 1 = .ok (.getfield 9, 3) := by decide +kernel
theorem dX4_goesOn_4 : decode cX4_goesOn 4 = .ok (.iload_n 1, 1) := by decide +kernel
theorem dX4_goesOn_5 : decode cX4_goesOn 5 = .ok (.iaload, 1) := by decide +kernel
theorem dX4_goesOn_6 : decode cX4_goesOn 6 = .ok (.istore_n 2, 1) := by decide +kernel
theorem dX4_goesOn_7 : decode cX4_goesOn 7 = .ok (.iload_n 1, 1) := by decide +kernel
theorem dX4_goesOn_8 : decode cX4_goesOn 8 = .ok (.ifCond .ne 15, 3) := by decide +kernel
theorem dX4_goesOn_11 : decode cX4_goesOn 11 = .ok (.iload_n 2, 1) := by decide +kernel
theorem dX4_goesOn_12 : decode cX4_goesOn 12 = .ok (.bipush 105, 2) := by decide +kernel
theorem dX4_goesOn_14 : decode cX4_goesOn 14 = .ok (.if_icmp .ne 7, 3) := by decide +kernel
theorem dX4_goesOn_17 : decode cX4_goesOn 17 = .ok (.iconst 1, 1) := by decide +kernel
theorem dX4_goesOn_18 : decode cX4_goesOn 18 = .ok (.goto 4, 3) := by decide +kernel
theorem dX4_goesOn_21 : decode cX4_goesOn 21 = .ok (.iconst 0, 1) := by decide +kernel
theorem dX4_goesOn_22 : decode cX4_goesOn 22 = .ok (.ireturn, 1) := by decide +kernel
theorem dX4_goesOn_23 : decode cX4_goesOn 23 = .ok (.iload_n 1, 1) := by decide +kernel
theorem dX4_goesOn_24 : decode cX4_goesOn 24 = .ok (.iconst 1, 1) := by decide +kernel
theorem dX4_goesOn_25 : decode cX4_goesOn 25 = .ok (.if_icmp .ne 21, 3) := by decide +kernel
theorem dX4_goesOn_28 : decode cX4_goesOn 28 = .ok (.iload_n 2, 1) := by decide +kernel
theorem dX4_goesOn_29 : decode cX4_goesOn 29 = .ok (.bipush 50, 2) := by decide +kernel
theorem dX4_goesOn_31 : decode cX4_goesOn 31 = .ok (.if_icmp .lt 13, 3) := by decide +kernel
theorem dX4_goesOn_34 : decode cX4_goesOn 34 = .ok (.iload_n 2, 1) := by decide +kernel
theorem dX4_goesOn_35 : decode cX4_goesOn 35 = .ok (.bipush 53, 2) := by decide +kernel
theorem dX4_goesOn_37 : decode cX4_goesOn 37 = .ok (.if_icmp .gt 7, 3) := by decide +kernel
theorem dX4_goesOn_40 : decode cX4_goesOn 40 = .ok (.iconst 1, 1) := by decide +kernel
theorem dX4_goesOn_41 : decode cX4_goesOn 41 = .ok (.goto 4, 3) := by decide +kernel
theorem dX4_goesOn_44 : decode cX4_goesOn 44 = .ok (.iconst 0, 1) := by decide +kernel
theorem dX4_goesOn_45 : decode cX4_goesOn 45 = .ok (.ireturn, 1) := by decide +kernel
theorem dX4_goesOn_46 : decode cX4_goesOn 46 = .ok (.iload_n 1, 1) := by decide +kernel
theorem dX4_goesOn_47 : decode cX4_goesOn 47 = .ok (.iconst 2, 1) := by decide +kernel
theorem dX4_goesOn_48 : decode cX4_goesOn 48 = .ok (.isub, 1) := by decide +kernel
theorem dX4_goesOn_49 : decode cX4_goesOn 49 = .ok (.iconst 5, 1) := by decide +kernel
theorem dX4_goesOn_50 : decode cX4_goesOn 50 = .ok (.irem, 1) := by decide +kernel
theorem dX4_goesOn_51 : decode cX4_goesOn 51 = .ok (.tableswitch 135 0 3 #[29, 47, 71, 93], 29) := by decide +kernel
theorem dX4_goesOn_80 : decode cX4_goesOn 80 = .ok (.iload_n 2, 1) := by decide +kernel
theorem dX4_goesOn_81 : decode cX4_goesOn 81 = .ok (.bipush 59, 2) := by decide +kernel
theorem dX4_goesOn_83 : decode cX4_goesOn 83 = .ok (.if_icmp .ne 13, 3) := by decide +kernel
theorem dX4_goesOn_86 : decode cX4_goesOn 86 = .ok (.iload_n 1, 1) := by decide +kernel
theorem dX4_goesOn_87 : decode cX4_goesOn 87 = .ok (.bipush 52, 2) := by decide +kernel
theorem dX4_goesOn_89 : decode cX4_goesOn 89 = .ok (.if_icmp .ge 7, 3) := by decide +kernel
theorem dX4_goesOn_92 : decode cX4_goesOn 92 = .ok (.iconst 1, 1) := by decide +kernel
theorem dX4_goesOn_93 : decode cX4_goesOn 93 = .ok (.goto 4, 3) := by decide +kernel
theorem dX4_goesOn_96 : decode cX4_goesOn 96 = .ok (.iconst 0, 1) := by decide +kernel
theorem dX4_goesOn_97 : decode cX4_goesOn 97 = .ok (.ireturn, 1) := by decide +kernel
theorem dX4_goesOn_98 : decode cX4_goesOn 98 = .ok (.iload_n 2, 1) := by decide +kernel
theorem dX4_goesOn_99 : decode cX4_goesOn 99 = .ok (.bipush 116, 2) := by decide +kernel
theorem dX4_goesOn_101 : decode cX4_goesOn 101 = .ok (.if_icmp .eq 15, 3) := by decide +kernel
theorem dX4_goesOn_104 : decode cX4_goesOn 104 = .ok (.iload_n 2, 1) := by decide +kernel
theorem dX4_goesOn_105 : decode cX4_goesOn 105 = .ok (.bipush 103, 2) := by decide +kernel
theorem dX4_goesOn_107 : decode cX4_goesOn 107 = .ok (.if_icmp .eq 9, 3) := by decide +kernel
theorem dX4_goesOn_110 : decode cX4_goesOn 110 = .ok (.iload_n 2, 1) := by decide +kernel
theorem dX4_goesOn_111 : decode cX4_goesOn 111 = .ok (.bipush 119, 2) := by decide +kernel
theorem dX4_goesOn_113 : decode cX4_goesOn 113 = .ok (.if_icmp .ne 7, 3) := by decide +kernel
theorem dX4_goesOn_116 : decode cX4_goesOn 116 = .ok (.iconst 1, 1) := by decide +kernel
theorem dX4_goesOn_117 : decode cX4_goesOn 117 = .ok (.goto 4, 3) := by decide +kernel
theorem dX4_goesOn_120 : decode cX4_goesOn 120 = .ok (.iconst 0, 1) := by decide +kernel
theorem dX4_goesOn_121 : decode cX4_goesOn 121 = .ok (.ireturn, 1) := by decide +kernel
theorem dX4_goesOn_122 : decode cX4_goesOn 122 = .ok (.iload_n 2, 1) := by decide +kernel
theorem dX4_goesOn_123 : decode cX4_goesOn 123 = .ok (.bipush 48, 2) := by decide +kernel
theorem dX4_goesOn_125 : decode cX4_goesOn 125 = .ok (.if_icmp .lt 17, 3) := by decide +kernel
theorem dX4_goesOn_128 : decode cX4_goesOn 128 = .ok (.iload_n 2, 1) := by decide +kernel
theorem dX4_goesOn_129 : decode cX4_goesOn 129 = .ok (.aload_n 0, 1) := by decide +kernel
theorem dX4_goesOn_130 : decode cX4_goesOn 130 = .ok (.getfield 9, 3) := by decide +kernel
theorem dX4_goesOn_133 : decode cX4_goesOn 133 = .ok (.iconst 1, 1) := by decide +kernel
theorem dX4_goesOn_134 : decode cX4_goesOn 134 = .ok (.iaload, 1) := by decide +kernel
theorem dX4_goesOn_135 : decode cX4_goesOn 135 = .ok (.if_icmp .ge 7, 3) := by decide +kernel
theorem dX4_goesOn_138 : decode cX4_goesOn 138 = .ok (.iconst 1, 1) := by decide +kernel
theorem dX4_goesOn_139 : decode cX4_goesOn 139 = .ok (.goto 4, 3) := by decide +kernel
theorem dX4_goesOn_142 : decode cX4_goesOn 142 = .ok (.iconst 0, 1) := by decide +kernel
theorem dX4_goesOn_143 : decode cX4_goesOn 143 = .ok (.ireturn, 1) := by decide +kernel
theorem dX4_goesOn_144 : decode cX4_goesOn 144 = .ok (.iload_n 2, 1) := by decide +kernel
theorem dX4_goesOn_145 : decode cX4_goesOn 145 = .ok (.invokestatic 23, 3) := by decide +kernel
theorem dX4_goesOn_148 : decode cX4_goesOn 148 = .ok (.ifCond .eq 36, 3) := by decide +kernel
theorem dX4_goesOn_151 : decode cX4_goesOn 151 = .ok (.iload_n 2, 1) := by decide +kernel
theorem dX4_goesOn_152 : decode cX4_goesOn 152 = .ok (.bipush 48, 2) := by decide +kernel
theorem dX4_goesOn_154 : decode cX4_goesOn 154 = .ok (.if_icmp .ne 26, 3) := by decide +kernel
theorem dX4_goesOn_157 : decode cX4_goesOn 157 = .ok (.iload_n 1, 1) := by decide +kernel
theorem dX4_goesOn_158 : decode cX4_goesOn 158 = .ok (.iconst 1, 1) := by decide +kernel
theorem dX4_goesOn_159 : decode cX4_goesOn 159 = .ok (.iadd, 1) := by decide +kernel
theorem dX4_goesOn_160 : decode cX4_goesOn 160 = .ok (.aload_n 0, 1) := by decide +kernel
theorem dX4_goesOn_161 : decode cX4_goesOn 161 = .ok (.getfield 15, 3) := by decide +kernel
theorem dX4_goesOn_164 : decode cX4_goesOn 164 = .ok (.if_icmp .ge 16, 3) := by decide +kernel
theorem dX4_goesOn_167 : decode cX4_goesOn 167 = .ok (.aload_n 0, 1) := by decide +kernel
theorem dX4_goesOn_168 : decode cX4_goesOn 168 = .ok (.getfield 9, 3) := by decide +kernel
theorem dX4_goesOn_171 : decode cX4_goesOn 171 = .ok (.iload_n 1, 1) := by decide +kernel
theorem dX4_goesOn_172 : decode cX4_goesOn 172 = .ok (.iconst 1, 1) := by decide +kernel
theorem dX4_goesOn_173 : decode cX4_goesOn 173 = .ok (.iadd, 1) := by decide +kernel
theorem dX4_goesOn_174 : decode cX4_goesOn 174 = .ok (.iaload, 1) := by decide +kernel
theorem dX4_goesOn_175 : decode cX4_goesOn 175 = .ok (.bipush 48, 2) := by decide +kernel
theorem dX4_goesOn_177 : decode cX4_goesOn 177 = .ok (.if_icmp .eq 7, 3) := by decide +kernel
theorem dX4_goesOn_180 : decode cX4_goesOn 180 = .ok (.iconst 1, 1) := by decide +kernel
theorem dX4_goesOn_181 : decode cX4_goesOn 181 = .ok (.goto 4, 3) := by decide +kernel
theorem dX4_goesOn_184 : decode cX4_goesOn 184 = .ok (.iconst 0, 1) := by decide +kernel
theorem dX4_goesOn_185 : decode cX4_goesOn 185 = .ok (.ireturn, 1) := by decide +kernel
theorem dX4_goesOn_186 : decode cX4_goesOn 186 = .ok (.iload_n 2, 1) := by decide +kernel
theorem dX4_goesOn_187 : decode cX4_goesOn 187 = .ok (.invokestatic 23, 3) := by decide +kernel
theorem dX4_goesOn_190 : decode cX4_goesOn 190 = .ok (.ireturn, 1) := by decide +kernel
theorem dX4_isDigit_0 : decode cX4_isDigit 0 = .ok (.iload_n 0, 1) := by decide +kernel
theorem dX4_isDigit_1 : decode cX4_isDigit 1 = .ok (.bipush 48, 2) := by decide +kernel
theorem dX4_isDigit_3 : decode cX4_isDigit 3 = .ok (.if_icmp .lt 13, 3) := by decide +kernel
theorem dX4_isDigit_6 : decode cX4_isDigit 6 = .ok (.iload_n 0, 1) := by decide +kernel
theorem dX4_isDigit_7 : decode cX4_isDigit 7 = .ok (.bipush 57, 2) := by decide +kernel
theorem dX4_isDigit_9 : decode cX4_isDigit 9 = .ok (.if_icmp .gt 7, 3) := by decide +kernel
theorem dX4_isDigit_12 : decode cX4_isDigit 12 = .ok (.iconst 1, 1) := by decide +kernel
theorem dX4_isDigit_13 : decode cX4_isDigit 13 = .ok (.goto 4, 3) := by decide +kernel
theorem dX4_isDigit_16 : decode cX4_isDigit 16 = .ok (.iconst 0, 1) := by decide +kernel
theorem dX4_isDigit_17 : decode cX4_isDigit 17 = .ok (.ireturn, 1) := by decide +kernel
theorem dX4_guests_0 : decode cX4_guests 0 = .ok (.aload_n 0, 1) := by decide +kernel
theorem dX4_guests_1 : decode cX4_guests 1 = .ok (.getfield 9, 3) := by decide +kernel
theorem dX4_guests_4 : decode cX4_guests 4 = .ok (.iconst 1, 1) := by decide +kernel
theorem dX4_guests_5 : decode cX4_guests 5 = .ok (.iaload, 1) := by decide +kernel
theorem dX4_guests_6 : decode cX4_guests 6 = .ok (.bipush 48, 2) := by decide +kernel
theorem dX4_guests_8 : decode cX4_guests 8 = .ok (.isub, 1) := by decide +kernel
theorem dX4_guests_9 : decode cX4_guests 9 = .ok (.ireturn, 1) := by decide +kernel
theorem dX4_tales_0 : decode cX4_tales 0 = .ok (.aload_n 0, 1) := by decide +kernel
theorem dX4_tales_1 : decode cX4_tales 1 = .ok (.getfield 15, 3) := by decide +kernel
theorem dX4_tales_4 : decode cX4_tales 4 = .ok (.iconst 2, 1) := by decide +kernel
theorem dX4_tales_5 : decode cX4_tales 5 = .ok (.isub, 1) := by decide +kernel
theorem dX4_tales_6 : decode cX4_tales 6 = .ok (.iconst 5, 1) := by decide +kernel
theorem dX4_tales_7 : decode cX4_tales 7 = .ok (.idiv, 1) := by decide +kernel
theorem dX4_tales_8 : decode cX4_tales 8 = .ok (.ireturn, 1) := by decide +kernel
theorem dX4_kindOf_0 : decode cX4_kindOf 0 = .ok (.aload_n 0, 1) := by decide +kernel
theorem dX4_kindOf_1 : decode cX4_kindOf 1 = .ok (.getfield 9, 3) := by decide +kernel
theorem dX4_kindOf_4 : decode cX4_kindOf 4 = .ok (.iconst 2, 1) := by decide +kernel
theorem dX4_kindOf_5 : decode cX4_kindOf 5 = .ok (.iload_n 1, 1) := by decide +kernel
theorem dX4_kindOf_6 : decode cX4_kindOf 6 = .ok (.iconst 5, 1) := by decide +kernel
theorem dX4_kindOf_7 : decode cX4_kindOf 7 = .ok (.imul, 1) := by decide +kernel
theorem dX4_kindOf_8 : decode cX4_kindOf 8 = .ok (.iadd, 1) := by decide +kernel
theorem dX4_kindOf_9 : decode cX4_kindOf 9 = .ok (.iconst 1, 1) := by decide +kernel
theorem dX4_kindOf_10 : decode cX4_kindOf 10 = .ok (.iadd, 1) := by decide +kernel
theorem dX4_kindOf_11 : decode cX4_kindOf 11 = .ok (.iaload, 1) := by decide +kernel
theorem dX4_kindOf_12 : decode cX4_kindOf 12 = .ok (.istore_n 2, 1) := by decide +kernel
theorem dX4_kindOf_13 : decode cX4_kindOf 13 = .ok (.iload_n 2, 1) := by decide +kernel
theorem dX4_kindOf_14 : decode cX4_kindOf 14 = .ok (.bipush 119, 2) := by decide +kernel
theorem dX4_kindOf_16 : decode cX4_kindOf 16 = .ok (.if_icmp .ne 7, 3) := by decide +kernel
theorem dX4_kindOf_19 : decode cX4_kindOf 19 = .ok (.iconst 2, 1) := by decide +kernel
theorem dX4_kindOf_20 : decode cX4_kindOf 20 = .ok (.goto 14, 3) := by decide +kernel
theorem dX4_kindOf_23 : decode cX4_kindOf 23 = .ok (.iload_n 2, 1) := by decide +kernel
theorem dX4_kindOf_24 : decode cX4_kindOf 24 = .ok (.bipush 103, 2) := by decide +kernel
theorem dX4_kindOf_26 : decode cX4_kindOf 26 = .ok (.if_icmp .ne 7, 3) := by decide +kernel
theorem dX4_kindOf_29 : decode cX4_kindOf 29 = .ok (.iconst 1, 1) := by decide +kernel
theorem dX4_kindOf_30 : decode cX4_kindOf 30 = .ok (.goto 4, 3) := by decide +kernel
theorem dX4_kindOf_33 : decode cX4_kindOf 33 = .ok (.iconst 0, 1) := by decide +kernel
theorem dX4_kindOf_34 : decode cX4_kindOf 34 = .ok (.ireturn, 1) := by decide +kernel
theorem dX4_ownerOf_0 : decode cX4_ownerOf 0 = .ok (.aload_n 0, 1) := by decide +kernel
theorem dX4_ownerOf_1 : decode cX4_ownerOf 1 = .ok (.getfield 9, 3) := by decide +kernel
theorem dX4_ownerOf_4 : decode cX4_ownerOf 4 = .ok (.iconst 2, 1) := by decide +kernel
theorem dX4_ownerOf_5 : decode cX4_ownerOf 5 = .ok (.iload_n 1, 1) := by decide +kernel
theorem dX4_ownerOf_6 : decode cX4_ownerOf 6 = .ok (.iconst 5, 1) := by decide +kernel
theorem dX4_ownerOf_7 : decode cX4_ownerOf 7 = .ok (.imul, 1) := by decide +kernel
theorem dX4_ownerOf_8 : decode cX4_ownerOf 8 = .ok (.iadd, 1) := by decide +kernel
theorem dX4_ownerOf_9 : decode cX4_ownerOf 9 = .ok (.iconst 2, 1) := by decide +kernel
theorem dX4_ownerOf_10 : decode cX4_ownerOf 10 = .ok (.iadd, 1) := by decide +kernel
theorem dX4_ownerOf_11 : decode cX4_ownerOf 11 = .ok (.iaload, 1) := by decide +kernel
theorem dX4_ownerOf_12 : decode cX4_ownerOf 12 = .ok (.bipush 48, 2) := by decide +kernel
theorem dX4_ownerOf_14 : decode cX4_ownerOf 14 = .ok (.isub, 1) := by decide +kernel
theorem dX4_ownerOf_15 : decode cX4_ownerOf 15 = .ok (.ireturn, 1) := by decide +kernel
theorem dX4_heightOf_0 : decode cX4_heightOf 0 = .ok (.iconst 2, 1) := by decide +kernel
theorem dX4_heightOf_1 : decode cX4_heightOf 1 = .ok (.iload_n 1, 1) := by decide +kernel
theorem dX4_heightOf_2 : decode cX4_heightOf 2 = .ok (.iconst 5, 1) := by decide +kernel
theorem dX4_heightOf_3 : decode cX4_heightOf 3 = .ok (.imul, 1) := by decide +kernel
theorem dX4_heightOf_4 : decode cX4_heightOf 4 = .ok (.iadd, 1) := by decide +kernel
theorem dX4_heightOf_5 : decode cX4_heightOf 5 = .ok (.iconst 3, 1) := by decide +kernel
theorem dX4_heightOf_6 : decode cX4_heightOf 6 = .ok (.iadd, 1) := by decide +kernel
theorem dX4_heightOf_7 : decode cX4_heightOf 7 = .ok (.istore_n 2, 1) := by decide +kernel
theorem dX4_heightOf_8 : decode cX4_heightOf 8 = .ok (.aload_n 0, 1) := by decide +kernel
theorem dX4_heightOf_9 : decode cX4_heightOf 9 = .ok (.getfield 9, 3) := by decide +kernel
theorem dX4_heightOf_12 : decode cX4_heightOf 12 = .ok (.iload_n 2, 1) := by decide +kernel
theorem dX4_heightOf_13 : decode cX4_heightOf 13 = .ok (.iaload, 1) := by decide +kernel
theorem dX4_heightOf_14 : decode cX4_heightOf 14 = .ok (.bipush 48, 2) := by decide +kernel
theorem dX4_heightOf_16 : decode cX4_heightOf 16 = .ok (.isub, 1) := by decide +kernel
theorem dX4_heightOf_17 : decode cX4_heightOf 17 = .ok (.bipush 10, 2) := by decide +kernel
theorem dX4_heightOf_19 : decode cX4_heightOf 19 = .ok (.imul, 1) := by decide +kernel
theorem dX4_heightOf_20 : decode cX4_heightOf 20 = .ok (.aload_n 0, 1) := by decide +kernel
theorem dX4_heightOf_21 : decode cX4_heightOf 21 = .ok (.getfield 9, 3) := by decide +kernel
theorem dX4_heightOf_24 : decode cX4_heightOf 24 = .ok (.iload_n 2, 1) := by decide +kernel
theorem dX4_heightOf_25 : decode cX4_heightOf 25 = .ok (.iconst 1, 1) := by decide +kernel
theorem dX4_heightOf_26 : decode cX4_heightOf 26 = .ok (.iadd, 1) := by decide +kernel
theorem dX4_heightOf_27 : decode cX4_heightOf 27 = .ok (.iaload, 1) := by decide +kernel
theorem dX4_heightOf_28 : decode cX4_heightOf 28 = .ok (.iadd, 1) := by decide +kernel
theorem dX4_heightOf_29 : decode cX4_heightOf 29 = .ok (.bipush 48, 2) := by decide +kernel
theorem dX4_heightOf_31 : decode cX4_heightOf 31 = .ok (.isub, 1) := by decide +kernel
theorem dX4_heightOf_32 : decode cX4_heightOf 32 = .ok (.ireturn, 1) := by decide +kernel
theorem dX5_init_0 : decode cX5_init 0 = .ok (.aload_n 0, 1) := by decide +kernel
theorem dX5_init_1 : decode cX5_init 1 = .ok (.invokespecial 3, 3) := by decide +kernel
theorem dX5_init_4 : decode cX5_init 4 = .ok (.aload_n 0, 1) := by decide +kernel
theorem dX5_init_5 : decode cX5_init 5 = .ok (.bipush 6, 2) := by decide +kernel
theorem dX5_init_7 : decode cX5_init 7 = .ok (.newarray .int, 2) := by decide +kernel
theorem dX5_init_9 : decode cX5_init 9 = .ok (.putfield 9, 3) := by decide +kernel
theorem dX5_init_12 : decode cX5_init 12 = .ok (.aload_n 0, 1) := by decide +kernel
theorem dX5_init_13 : decode cX5_init 13 = .ok (.bipush 7, 2) := by decide +kernel
theorem dX5_init_15 : decode cX5_init 15 = .ok (.newarray .int, 2) := by decide +kernel
theorem dX5_init_17 : decode cX5_init 17 = .ok (.putfield 15, 3) := by decide +kernel
theorem dX5_init_20 : decode cX5_init 20 = .ok (.aload_n 0, 1) := by decide +kernel
theorem dX5_init_21 : decode cX5_init 21 = .ok (.bipush 10, 2) := by decide +kernel
theorem dX5_init_23 : decode cX5_init 23 = .ok (.newarray .int, 2) := by decide +kernel
theorem dX5_init_25 : decode cX5_init 25 = .ok (.putfield 18, 3) := by decide +kernel
theorem dX5_init_28 : decode cX5_init 28 = .ok (.aload_n 0, 1) := by decide +kernel
theorem dX5_init_29 : decode cX5_init 29 = .ok (.bipush 10, 2) := by decide +kernel
theorem dX5_init_31 : decode cX5_init 31 = .ok (.newarray .int, 2) := by decide +kernel
theorem dX5_init_33 : decode cX5_init 33 = .ok (.putfield 21, 3) := by decide +kernel
theorem dX5_init_36 : decode cX5_init 36 = .ok (.aload_n 0, 1) := by decide +kernel
theorem dX5_init_37 : decode cX5_init 37 = .ok (.bipush 6, 2) := by decide +kernel
theorem dX5_init_39 : decode cX5_init 39 = .ok (.newarray .int, 2) := by decide +kernel
theorem dX5_init_41 : decode cX5_init 41 = .ok (.putfield 24, 3) := by decide +kernel
theorem dX5_init_44 : decode cX5_init 44 = .ok (.aload_n 0, 1) := by decide +kernel
theorem dX5_init_45 : decode cX5_init 45 = .ok (.bipush 6, 2) := by decide +kernel
theorem dX5_init_47 : decode cX5_init 47 = .ok (.newarray .int, 2) := by decide +kernel
theorem dX5_init_49 : decode cX5_init 49 = .ok (.putfield 27, 3) := by decide +kernel
theorem dX5_init_52 : decode cX5_init 52 = .ok (.aload_n 0, 1) := by decide +kernel
theorem dX5_init_53 : decode cX5_init 53 = .ok (.aload_n 1, 1) := by decide +kernel
theorem dX5_init_54 : decode cX5_init 54 = .ok (.putfield 30, 3) := by decide +kernel
theorem dX5_init_57 : decode cX5_init 57 = .ok (.return_, 1) := by decide +kernel
theorem dX5_find_0 : decode cX5_find 0 = .ok (.aload_n 0, 1) := by decide +kernel
theorem dX5_find_1 : decode cX5_find 1 = .ok (.iload_n 1, 1) := by decide +kernel
theorem dX5_find_2 : decode cX5_find 2 = .ok (.putfield 34, 3) := by decide +kernel
theorem dX5_find_5 : decode cX5_find 5 = .ok (.aload_n 0, 1) := by decide +kernel
theorem dX5_find_6 : decode cX5_find 6 = .ok (.iload_n 2, 1) := by decide +kernel
theorem dX5_find_7 : decode cX5_find 7 = .ok (.putfield 38, 3) := by decide +kernel
theorem dX5_find_10 : decode cX5_find 10 = .ok (.aload_n 0, 1) := by decide +kernel
theorem dX5_find_11 : decode cX5_find 11 = .ok (.iconst (-1), 1) := by decide +kernel
theorem dX5_find_12 : decode cX5_find 12 = .ok (.putfield 41, 3) := by decide +kernel
theorem dX5_find_15 : decode cX5_find 15 = .ok (.aload_n 0, 1) := by decide +kernel
theorem dX5_find_16 : decode cX5_find 16 = .ok (.getfield 30, 3) := by decide +kernel
theorem dX5_find_19 : decode cX5_find 19 = .ok (.getfield 44, 3) := by decide +kernel
theorem dX5_find_22 : decode cX5_find 22 = .ok (.iconst 0, 1) := by decide +kernel
theorem dX5_find_23 : decode cX5_find 23 = .ok (.aload_n 0, 1) := by decide +kernel
theorem dX5_find_24 : decode cX5_find 24 = .ok (.getfield 18, 3) := by decide +kernel
theorem dX5_find_27 : decode cX5_find 27 = .ok (.iconst 0, 1) := by decide +kernel
theorem dX5_find_28 : decode cX5_find 28 = .ok (.bipush 10, 2) := by decide +kernel
theorem dX5_find_30 : decode cX5_find 30 = .ok (.invokestatic 47, 3) := by decide +kernel
theorem dX5_find_33 : decode cX5_find 33 = .ok (.aload_n 0, 1) := by decide +kernel
theorem dX5_find_34 : decode cX5_find 34 = .ok (.getfield 30, 3) := by decide +kernel
theorem dX5_find_37 : decode cX5_find 37 = .ok (.getfield 53, 3) := by decide +kernel
theorem dX5_find_40 : decode cX5_find 40 = .ok (.iconst 0, 1) := by decide +kernel
theorem dX5_find_41 : decode cX5_find 41 = .ok (.aload_n 0, 1) := by decide +kernel
theorem dX5_find_42 : decode cX5_find 42 = .ok (.getfield 21, 3) := by decide +kernel
theorem dX5_find_45 : decode cX5_find 45 = .ok (.iconst 0, 1) := by decide +kernel
theorem dX5_find_46 : decode cX5_find 46 = .ok (.bipush 10, 2) := by decide +kernel
theorem dX5_find_48 : decode cX5_find 48 = .ok (.invokestatic 47, 3) := by decide +kernel
theorem dX5_find_51 : decode cX5_find 51 = .ok (.aload_n 0, 1) := by decide +kernel
theorem dX5_find_52 : decode cX5_find 52 = .ok (.getfield 15, 3) := by decide +kernel
theorem dX5_find_55 : decode cX5_find 55 = .ok (.iload_n 2, 1) := by decide +kernel
theorem dX5_find_56 : decode cX5_find 56 = .ok (.iconst 0, 1) := by decide +kernel
theorem dX5_find_57 : decode cX5_find 57 = .ok (.iastore, 1) := by decide +kernel
theorem dX5_find_58 : decode cX5_find 58 = .ok (.iload_n 2, 1) := by decide +kernel
theorem dX5_find_59 : decode cX5_find 59 = .ok (.iconst 1, 1) := by decide +kernel
theorem dX5_find_60 : decode cX5_find 60 = .ok (.isub, 1) := by decide +kernel
theorem dX5_find_61 : decode cX5_find 61 = .ok (.istore_n 3, 1) := by decide +kernel
theorem dX5_find_62 : decode cX5_find 62 = .ok (.iload_n 3, 1) := by decide +kernel
theorem dX5_find_63 : decode cX5_find 63 = .ok (.ifCond .lt 37, 3) := by decide +kernel
theorem dX5_find_66 : decode cX5_find 66 = .ok (.aload_n 0, 1) := by decide +kernel
theorem dX5_find_67 : decode cX5_find 67 = .ok (.getfield 15, 3) := by decide +kernel
theorem dX5_find_70 : decode cX5_find 70 = .ok (.iload_n 3, 1) := by decide +kernel
theorem dX5_find_71 : decode cX5_find 71 = .ok (.aload_n 0, 1) := by decide +kernel
theorem dX5_find_72 : decode cX5_find 72 = .ok (.getfield 15, 3) := by decide +kernel
theorem dX5_find_75 : decode cX5_find 75 = .ok (.iload_n 3, 1) := by decide +kernel
theorem dX5_find_76 : decode cX5_find 76 = .ok (.iconst 1, 1) := by decide +kernel
theorem dX5_find_77 : decode cX5_find 77 = .ok (.iadd, 1) := by decide +kernel
theorem dX5_find_78 : decode cX5_find 78 = .ok (.iaload, 1) := by decide +kernel
theorem dX5_find_79 : decode cX5_find 79 = .ok (.aload_n 0, 1) := by decide +kernel
theorem dX5_find_80 : decode cX5_find 80 = .ok (.iload_n 3, 1) := by decide +kernel
theorem dX5_find_81 : decode cX5_find 81 = .ok (.invokevirtual 54, 3) := by decide +kernel
theorem dX5_find_84 : decode cX5_find 84 = .ok (.ifCond .eq 7, 3) := by decide +kernel
theorem dX5_find_87 : decode cX5_find 87 = .ok (.iconst 1, 1) := by decide +kernel
theorem dX5_find_88 : decode cX5_find 88 = .ok (.goto 4, 3) := by decide +kernel
theorem dX5_find_91 : decode cX5_find 91 = .ok (.iconst 0, 1) := by decide +kernel
theorem dX5_find_92 : decode cX5_find 92 = .ok (.iadd, 1) := by decide +kernel
theorem dX5_find_93 : decode cX5_find 93 = .ok (.iastore, 1) := by decide +kernel
theorem dX5_find_94 : decode cX5_find 94 = .ok (.iinc 3 (-1), 3) := by decide +kernel
theorem dX5_find_97 : decode cX5_find 97 = .ok (.goto (-35), 3) := by decide +kernel
theorem dX5_find_100 : decode cX5_find 100 = .ok (.aload_n 0, 1) := by decide +kernel
theorem dX5_find_101 : decode cX5_find 101 = .ok (.iconst 0, 1) := by decide +kernel
theorem dX5_find_102 : decode cX5_find 102 = .ok (.iconst 0, 1) := by decide +kernel
theorem dX5_find_103 : decode cX5_find 103 = .ok (.invokestatic 58, 3) := by decide +kernel
theorem dX5_find_106 : decode cX5_find 106 = .ok (.return_, 1) := by decide +kernel
theorem dX5_isWithinReach_0 : decode cX5_isWithinReach 0 = .ok (.iconst 0, 1) := by decide +kernel
theorem dX5_isWithinReach_1 : decode cX5_isWithinReach 1 = .ok (.istore_n 2, 1) := by decide +kernel
theorem dX5_isWithinReach_2 : decode cX5_isWithinReach 2 = .ok (.iload_n 2, 1) := by decide +kernel
theorem dX5_isWithinReach_3 : decode cX5_isWithinReach 3 = .ok (.aload_n 0, 1) := by decide +kernel
theorem dX5_isWithinReach_4 : decode cX5_isWithinReach 4 = .ok (.getfield 30, 3) := by decide +kernel
theorem dX5_isWithinReach_7 : decode cX5_isWithinReach 7 = .ok (.getfield 62, 3) := by decide +kernel
theorem dX5_isWithinReach_10 : decode cX5_isWithinReach 10 = .ok (.if_icmp .ge 54, 3) := by decide +kernel
theorem dX5_isWithinReach_13 : decode cX5_isWithinReach 13 = .ok (.aload_n 0, 1) := by decide +kernel
theorem dX5_isWithinReach_14 : decode cX5_isWithinReach 14 = .ok (.getfield 30, 3) := by decide +kernel
theorem dX5_isWithinReach_17 : decode cX5_isWithinReach 17 = .ok (.getfield 65, 3) := by decide +kernel
theorem dX5_isWithinReach_20 : decode cX5_isWithinReach 20 = .ok (.iload_n 2, 1) := by decide +kernel
theorem dX5_isWithinReach_21 : decode cX5_isWithinReach 21 = .ok (.iaload, 1) := by decide +kernel
theorem dX5_isWithinReach_22 : decode cX5_isWithinReach 22 = .ok (.aload_n 0, 1) := by decide +kernel
theorem dX5_isWithinReach_23 : decode cX5_isWithinReach 23 = .ok (.getfield 34, 3) := by decide +kernel
theorem dX5_isWithinReach_26 : decode cX5_isWithinReach 26 = .ok (.if_icmp .ne 32, 3) := by decide +kernel
theorem dX5_isWithinReach_29 : decode cX5_isWithinReach 29 = .ok (.aload_n 0, 1) := by decide +kernel
theorem dX5_isWithinReach_30 : decode cX5_isWithinReach 30 = .ok (.getfield 30, 3) := by decide +kernel
theorem dX5_isWithinReach_33 : decode cX5_isWithinReach 33 = .ok (.iload_n 2, 1) := by decide +kernel
theorem dX5_isWithinReach_34 : decode cX5_isWithinReach 34 = .ok (.aload_n 0, 1) := by decide +kernel
theorem dX5_isWithinReach_35 : decode cX5_isWithinReach 35 = .ok (.getfield 18, 3) := by decide +kernel
theorem dX5_isWithinReach_38 : decode cX5_isWithinReach 38 = .ok (.iload_n 2, 1) := by decide +kernel
theorem dX5_isWithinReach_39 : decode cX5_isWithinReach 39 = .ok (.iaload, 1) := by decide +kernel
theorem dX5_isWithinReach_40 : decode cX5_isWithinReach 40 = .ok (.iload_n 1, 1) := by decide +kernel
theorem dX5_isWithinReach_41 : decode cX5_isWithinReach 41 = .ok (.iconst 2, 1) := by decide +kernel
theorem dX5_isWithinReach_42 : decode cX5_isWithinReach 42 = .ok (.idiv, 1) := by decide +kernel
theorem dX5_isWithinReach_43 : decode cX5_isWithinReach 43 = .ok (.iadd, 1) := by decide +kernel
theorem dX5_isWithinReach_44 : decode cX5_isWithinReach 44 = .ok (.invokevirtual 68, 3) := by decide +kernel
theorem dX5_isWithinReach_47 : decode cX5_isWithinReach 47 = .ok (.aload_n 0, 1) := by decide +kernel
theorem dX5_isWithinReach_48 : decode cX5_isWithinReach 48 = .ok (.getfield 9, 3) := by decide +kernel
theorem dX5_isWithinReach_51 : decode cX5_isWithinReach 51 = .ok (.iload_n 1, 1) := by decide +kernel
theorem dX5_isWithinReach_52 : decode cX5_isWithinReach 52 = .ok (.iaload, 1) := by decide +kernel
theorem dX5_isWithinReach_53 : decode cX5_isWithinReach 53 = .ok (.if_icmp .le 5, 3) := by decide +kernel
theorem dX5_isWithinReach_56 : decode cX5_isWithinReach 56 = .ok (.iconst 1, 1) := by decide +kernel
theorem dX5_isWithinReach_57 : decode cX5_isWithinReach 57 = .ok (.ireturn, 1) := by decide +kernel
theorem dX5_isWithinReach_58 : decode cX5_isWithinReach 58 = .ok (.iinc 2 1, 3) := by decide +kernel
theorem dX5_isWithinReach_61 : decode cX5_isWithinReach 61 = .ok (.goto (-59), 3) := by decide +kernel
theorem dX5_isWithinReach_64 : decode cX5_isWithinReach 64 = .ok (.iconst 0, 1) := by decide +kernel
theorem dX5_isWithinReach_65 : decode cX5_isWithinReach 65 = .ok (.ireturn, 1) := by decide +kernel
theorem dX5_wins_0 : decode cX5_wins 0 = .ok (.aload_n 0, 1) := by decide +kernel
theorem dX5_wins_1 : decode cX5_wins 1 = .ok (.getfield 30, 3) := by decide +kernel
theorem dX5_wins_4 : decode cX5_wins 4 = .ok (.getfield 65, 3) := by decide +kernel
theorem dX5_wins_7 : decode cX5_wins 7 = .ok (.iload_n 1, 1) := by decide +kernel
theorem dX5_wins_8 : decode cX5_wins 8 = .ok (.iaload, 1) := by decide +kernel
theorem dX5_wins_9 : decode cX5_wins 9 = .ok (.aload_n 0, 1) := by decide +kernel
theorem dX5_wins_10 : decode cX5_wins 10 = .ok (.getfield 34, 3) := by decide +kernel
theorem dX5_wins_13 : decode cX5_wins 13 = .ok (.if_icmp .ne 62, 3) := by decide +kernel
theorem dX5_wins_16 : decode cX5_wins 16 = .ok (.aload_n 0, 1) := by decide +kernel
theorem dX5_wins_17 : decode cX5_wins 17 = .ok (.getfield 30, 3) := by decide +kernel
theorem dX5_wins_20 : decode cX5_wins 20 = .ok (.iload_n 1, 1) := by decide +kernel
theorem dX5_wins_21 : decode cX5_wins 21 = .ok (.aload_n 0, 1) := by decide +kernel
theorem dX5_wins_22 : decode cX5_wins 22 = .ok (.getfield 18, 3) := by decide +kernel
theorem dX5_wins_25 : decode cX5_wins 25 = .ok (.iload_n 1, 1) := by decide +kernel
theorem dX5_wins_26 : decode cX5_wins 26 = .ok (.iaload, 1) := by decide +kernel
theorem dX5_wins_27 : decode cX5_wins 27 = .ok (.aload_n 0, 1) := by decide +kernel
theorem dX5_wins_28 : decode cX5_wins 28 = .ok (.getfield 21, 3) := by decide +kernel
theorem dX5_wins_31 : decode cX5_wins 31 = .ok (.iload_n 1, 1) := by decide +kernel
theorem dX5_wins_32 : decode cX5_wins 32 = .ok (.iaload, 1) := by decide +kernel
theorem dX5_wins_33 : decode cX5_wins 33 = .ok (.aload_n 0, 1) := by decide +kernel
theorem dX5_wins_34 : decode cX5_wins 34 = .ok (.getfield 30, 3) := by decide +kernel
theorem dX5_wins_37 : decode cX5_wins 37 = .ok (.getfield 72, 3) := by decide +kernel
theorem dX5_wins_40 : decode cX5_wins 40 = .ok (.iload_n 2, 1) := by decide +kernel
theorem dX5_wins_41 : decode cX5_wins 41 = .ok (.iadd, 1) := by decide +kernel
theorem dX5_wins_42 : decode cX5_wins 42 = .ok (.invokevirtual 75, 3) := by decide +kernel
theorem dX5_wins_45 : decode cX5_wins 45 = .ok (.ifCond .eq 30, 3) := by decide +kernel
theorem dX5_wins_48 : decode cX5_wins 48 = .ok (.aload_n 0, 1) := by decide +kernel
theorem dX5_wins_49 : decode cX5_wins 49 = .ok (.getfield 30, 3) := by decide +kernel
theorem dX5_wins_52 : decode cX5_wins 52 = .ok (.iload_n 1, 1) := by decide +kernel
theorem dX5_wins_53 : decode cX5_wins 53 = .ok (.aload_n 0, 1) := by decide +kernel
theorem dX5_wins_54 : decode cX5_wins 54 = .ok (.getfield 18, 3) := by decide +kernel
theorem dX5_wins_57 : decode cX5_wins 57 = .ok (.iload_n 1, 1) := by decide +kernel
theorem dX5_wins_58 : decode cX5_wins 58 = .ok (.iaload, 1) := by decide +kernel
theorem dX5_wins_59 : decode cX5_wins 59 = .ok (.invokevirtual 68, 3) := by decide +kernel
theorem dX5_wins_62 : decode cX5_wins 62 = .ok (.aload_n 0, 1) := by decide +kernel
theorem dX5_wins_63 : decode cX5_wins 63 = .ok (.getfield 9, 3) := by decide +kernel
theorem dX5_wins_66 : decode cX5_wins 66 = .ok (.iload_n 2, 1) := by decide +kernel
theorem dX5_wins_67 : decode cX5_wins 67 = .ok (.iaload, 1) := by decide +kernel
theorem dX5_wins_68 : decode cX5_wins 68 = .ok (.if_icmp .le 7, 3) := by decide +kernel
theorem dX5_wins_71 : decode cX5_wins 71 = .ok (.iconst 1, 1) := by decide +kernel
theorem dX5_wins_72 : decode cX5_wins 72 = .ok (.goto 4, 3) := by decide +kernel
theorem dX5_wins_75 : decode cX5_wins 75 = .ok (.iconst 0, 1) := by decide +kernel
theorem dX5_wins_76 : decode cX5_wins 76 = .ok (.ireturn, 1) := by decide +kernel
theorem dX5_keep_0 : decode cX5_keep 0 = .ok (.iload_n 1, 1) := by decide +kernel
theorem dX5_keep_1 : decode cX5_keep 1 = .ok (.aload_n 0, 1) := by decide +kernel
theorem dX5_keep_2 : decode cX5_keep 2 = .ok (.getfield 41, 3) := by decide +kernel
theorem dX5_keep_5 : decode cX5_keep 5 = .ok (.if_icmp .gt 4, 3) := by decide +kernel
theorem dX5_keep_8 : decode cX5_keep 8 = .ok (.return_, 1) := by decide +kernel
theorem dX5_keep_9 : decode cX5_keep 9 = .ok (.aload_n 0, 1) := by decide +kernel
theorem dX5_keep_10 : decode cX5_keep 10 = .ok (.iload_n 1, 1) := by decide +kernel
theorem dX5_keep_11 : decode cX5_keep 11 = .ok (.putfield 41, 3) := by decide +kernel
theorem dX5_keep_14 : decode cX5_keep 14 = .ok (.aload_n 0, 1) := by decide +kernel
theorem dX5_keep_15 : decode cX5_keep 15 = .ok (.getfield 24, 3) := by decide +kernel
theorem dX5_keep_18 : decode cX5_keep 18 = .ok (.iconst 0, 1) := by decide +kernel
theorem dX5_keep_19 : decode cX5_keep 19 = .ok (.aload_n 0, 1) := by decide +kernel
theorem dX5_keep_20 : decode cX5_keep 20 = .ok (.getfield 27, 3) := by decide +kernel
theorem dX5_keep_23 : decode cX5_keep 23 = .ok (.iconst 0, 1) := by decide +kernel
theorem dX5_keep_24 : decode cX5_keep 24 = .ok (.bipush 6, 2) := by decide +kernel
theorem dX5_keep_26 : decode cX5_keep 26 = .ok (.invokestatic 47, 3) := by decide +kernel
theorem dX5_keep_29 : decode cX5_keep 29 = .ok (.return_, 1) := by decide +kernel
theorem dX5_search_0 : decode cX5_search 0 = .ok (.iload_n 1, 1) := by decide +kernel
theorem dX5_search_1 : decode cX5_search 1 = .ok (.aload_n 0, 1) := by decide +kernel
theorem dX5_search_2 : decode cX5_search 2 = .ok (.getfield 38, 3) := by decide +kernel
theorem dX5_search_5 : decode cX5_search 5 = .ok (.if_icmp .lt 9, 3) := by decide +kernel
theorem dX5_search_8 : decode cX5_search 8 = .ok (.aload_n 0, 1) := by decide +kernel
theorem dX5_search_9 : decode cX5_search 9 = .ok (.iload_n 2, 1) := by decide +kernel
theorem dX5_search_10 : decode cX5_search 10 = .ok (.invokevirtual 79, 3) := by decide +kernel
theorem dX5_search_13 : decode cX5_search 13 = .ok (.return_, 1) := by decide +kernel
theorem dX5_search_14 : decode cX5_search 14 = .ok (.iload_n 2, 1) := by decide +kernel
theorem dX5_search_15 : decode cX5_search 15 = .ok (.aload_n 0, 1) := by decide +kernel
theorem dX5_search_16 : decode cX5_search 16 = .ok (.getfield 15, 3) := by decide +kernel
theorem dX5_search_19 : decode cX5_search 19 = .ok (.iload_n 1, 1) := by decide +kernel
theorem dX5_search_20 : decode cX5_search 20 = .ok (.iaload, 1) := by decide +kernel
theorem dX5_search_21 : decode cX5_search 21 = .ok (.iadd, 1) := by decide +kernel
theorem dX5_search_22 : decode cX5_search 22 = .ok (.aload_n 0, 1) := by decide +kernel
theorem dX5_search_23 : decode cX5_search 23 = .ok (.getfield 41, 3) := by decide +kernel
theorem dX5_search_26 : decode cX5_search 26 = .ok (.if_icmp .gt 4, 3) := by decide +kernel
theorem dX5_search_29 : decode cX5_search 29 = .ok (.return_, 1) := by decide +kernel
theorem dX5_search_30 : decode cX5_search 30 = .ok (.iconst 0, 1) := by decide +kernel
theorem dX5_search_31 : decode cX5_search 31 = .ok (.istore_n 3, 1) := by decide +kernel
theorem dX5_search_32 : decode cX5_search 32 = .ok (.iload_n 3, 1) := by decide +kernel
theorem dX5_search_33 : decode cX5_search 33 = .ok (.aload_n 0, 1) := by decide +kernel
theorem dX5_search_34 : decode cX5_search 34 = .ok (.getfield 30, 3) := by decide +kernel
theorem dX5_search_37 : decode cX5_search 37 = .ok (.getfield 62, 3) := by decide +kernel
theorem dX5_search_40 : decode cX5_search 40 = .ok (.if_icmp .ge 89, 3) := by decide +kernel
theorem dX5_search_43 : decode cX5_search 43 = .ok (.aload_n 0, 1) := by decide +kernel
theorem dX5_search_44 : decode cX5_search 44 = .ok (.iload_n 3, 1) := by decide +kernel
theorem dX5_search_45 : decode cX5_search 45 = .ok (.iload_n 1, 1) := by decide +kernel
theorem dX5_search_46 : decode cX5_search 46 = .ok (.invokevirtual 83, 3) := by decide +kernel
theorem dX5_search_49 : decode cX5_search 49 = .ok (.ifCond .ne 6, 3) := by decide +kernel
theorem dX5_search_52 : decode cX5_search 52 = .ok (.goto 71, 3) := by decide +kernel
theorem dX5_search_55 : decode cX5_search 55 = .ok (.aload_n 0, 1) := by decide +kernel
theorem dX5_search_56 : decode cX5_search 56 = .ok (.getfield 21, 3) := by decide +kernel
theorem dX5_search_59 : decode cX5_search 59 = .ok (.iload_n 3, 1) := by decide +kernel
theorem dX5_search_60 : decode cX5_search 60 = .ok (.iaload, 1) := by decide +kernel
theorem dX5_search_61 : decode cX5_search 61 = .ok (.istore 4, 2) := by decide +kernel
theorem dX5_search_63 : decode cX5_search 63 = .ok (.aload_n 0, 1) := by decide +kernel
theorem dX5_search_64 : decode cX5_search 64 = .ok (.getfield 18, 3) := by decide +kernel
theorem dX5_search_67 : decode cX5_search 67 = .ok (.iload_n 3, 1) := by decide +kernel
theorem dX5_search_68 : decode cX5_search 68 = .ok (.dup2, 1) := by decide +kernel
theorem dX5_search_69 : decode cX5_search 69 = .ok (.iaload, 1) := by decide +kernel
theorem dX5_search_70 : decode cX5_search 70 = .ok (.iconst 1, 1) := by decide +kernel
theorem dX5_search_71 : decode cX5_search 71 = .ok (.iadd, 1) := by decide +kernel
theorem dX5_search_72 : decode cX5_search 72 = .ok (.iastore, 1) := by decide +kernel
theorem dX5_search_73 : decode cX5_search 73 = .ok (.aload_n 0, 1) := by decide +kernel
theorem dX5_search_74 : decode cX5_search 74 = .ok (.getfield 21, 3) := by decide +kernel
theorem dX5_search_77 : decode cX5_search 77 = .ok (.iload_n 3, 1) := by decide +kernel
theorem dX5_search_78 : decode cX5_search 78 = .ok (.aload_n 0, 1) := by decide +kernel
theorem dX5_search_79 : decode cX5_search 79 = .ok (.getfield 30, 3) := by decide +kernel
theorem dX5_search_82 : decode cX5_search 82 = .ok (.getfield 72, 3) := by decide +kernel
theorem dX5_search_85 : decode cX5_search 85 = .ok (.iload_n 1, 1) := by decide +kernel
theorem dX5_search_86 : decode cX5_search 86 = .ok (.iadd, 1) := by decide +kernel
theorem dX5_search_87 : decode cX5_search 87 = .ok (.iastore, 1) := by decide +kernel
theorem dX5_search_88 : decode cX5_search 88 = .ok (.aload_n 0, 1) := by decide +kernel
theorem dX5_search_89 : decode cX5_search 89 = .ok (.getfield 24, 3) := by decide +kernel
theorem dX5_search_92 : decode cX5_search 92 = .ok (.iload_n 1, 1) := by decide +kernel
theorem dX5_search_93 : decode cX5_search 93 = .ok (.iload_n 3, 1) := by decide +kernel
theorem dX5_search_94 : decode cX5_search 94 = .ok (.iastore, 1) := by decide +kernel
theorem dX5_search_95 : decode cX5_search 95 = .ok (.aload_n 0, 1) := by decide +kernel
theorem dX5_search_96 : decode cX5_search 96 = .ok (.iload_n 1, 1) := by decide +kernel
theorem dX5_search_97 : decode cX5_search 97 = .ok (.iconst 1, 1) := by decide +kernel
theorem dX5_search_98 : decode cX5_search 98 = .ok (.iadd, 1) := by decide +kernel
theorem dX5_search_99 : decode cX5_search 99 = .ok (.iload_n 2, 1) := by decide +kernel
theorem dX5_search_100 : decode cX5_search 100 = .ok (.iconst 1, 1) := by decide +kernel
theorem dX5_search_101 : decode cX5_search 101 = .ok (.iadd, 1) := by decide +kernel
theorem dX5_search_102 : decode cX5_search 102 = .ok (.invokestatic 58, 3) := by decide +kernel
theorem dX5_search_105 : decode cX5_search 105 = .ok (.aload_n 0, 1) := by decide +kernel
theorem dX5_search_106 : decode cX5_search 106 = .ok (.getfield 18, 3) := by decide +kernel
theorem dX5_search_109 : decode cX5_search 109 = .ok (.iload_n 3, 1) := by decide +kernel
theorem dX5_search_110 : decode cX5_search 110 = .ok (.dup2, 1) := by decide +kernel
theorem dX5_search_111 : decode cX5_search 111 = .ok (.iaload, 1) := by decide +kernel
theorem dX5_search_112 : decode cX5_search 112 = .ok (.iconst 1, 1) := by decide +kernel
theorem dX5_search_113 : decode cX5_search 113 = .ok (.isub, 1) := by decide +kernel
theorem dX5_search_114 : decode cX5_search 114 = .ok (.iastore, 1) := by decide +kernel
theorem dX5_search_115 : decode cX5_search 115 = .ok (.aload_n 0, 1) := by decide +kernel
theorem dX5_search_116 : decode cX5_search 116 = .ok (.getfield 21, 3) := by decide +kernel
theorem dX5_search_119 : decode cX5_search 119 = .ok (.iload_n 3, 1) := by decide +kernel
theorem dX5_search_120 : decode cX5_search 120 = .ok (.iload 4, 2) := by decide +kernel
theorem dX5_search_122 : decode cX5_search 122 = .ok (.iastore, 1) := by decide +kernel
theorem dX5_search_123 : decode cX5_search 123 = .ok (.iinc 3 1, 3) := by decide +kernel
theorem dX5_search_126 : decode cX5_search 126 = .ok (.goto (-94), 3) := by decide +kernel
theorem dX5_search_129 : decode cX5_search 129 = .ok (.aload_n 0, 1) := by decide +kernel
theorem dX5_search_130 : decode cX5_search 130 = .ok (.getfield 24, 3) := by decide +kernel
theorem dX5_search_133 : decode cX5_search 133 = .ok (.iload_n 1, 1) := by decide +kernel
theorem dX5_search_134 : decode cX5_search 134 = .ok (.bipush (-9), 2) := by decide +kernel
theorem dX5_search_136 : decode cX5_search 136 = .ok (.iastore, 1) := by decide +kernel
theorem dX5_search_137 : decode cX5_search 137 = .ok (.aload_n 0, 1) := by decide +kernel
theorem dX5_search_138 : decode cX5_search 138 = .ok (.iload_n 1, 1) := by decide +kernel
theorem dX5_search_139 : decode cX5_search 139 = .ok (.iconst 1, 1) := by decide +kernel
theorem dX5_search_140 : decode cX5_search 140 = .ok (.iadd, 1) := by decide +kernel
theorem dX5_search_141 : decode cX5_search 141 = .ok (.iload_n 2, 1) := by decide +kernel
theorem dX5_search_142 : decode cX5_search 142 = .ok (.invokestatic 58, 3) := by decide +kernel
theorem dX5_search_145 : decode cX5_search 145 = .ok (.return_, 1) := by decide +kernel
theorem dX6_init_0 : decode cX6_init 0 = .ok (.aload_n 0, 1) := by decide +kernel
theorem dX6_init_1 : decode cX6_init 1 = .ok (.invokespecial 3, 3) := by decide +kernel
theorem dX6_init_4 : decode cX6_init 4 = .ok (.aload_n 0, 1) := by decide +kernel
theorem dX6_init_5 : decode cX6_init 5 = .ok (.new 9, 3) := by decide +kernel
theorem dX6_init_8 : decode cX6_init 8 = .ok (.dup, 1) := by decide +kernel
theorem dX6_init_9 : decode cX6_init 9 = .ok (.invokespecial 11, 3) := by decide +kernel
theorem dX6_init_12 : decode cX6_init 12 = .ok (.putfield 12, 3) := by decide +kernel
theorem dX6_init_15 : decode cX6_init 15 = .ok (.aload_n 0, 1) := by decide +kernel
theorem dX6_init_16 : decode cX6_init 16 = .ok (.new 18, 3) := by decide +kernel
theorem dX6_init_19 : decode cX6_init 19 = .ok (.dup, 1) := by decide +kernel
theorem dX6_init_20 : decode cX6_init 20 = .ok (.invokespecial 20, 3) := by decide +kernel
theorem dX6_init_23 : decode cX6_init 23 = .ok (.putfield 21, 3) := by decide +kernel
theorem dX6_init_26 : decode cX6_init 26 = .ok (.aload_n 0, 1) := by decide +kernel
theorem dX6_init_27 : decode cX6_init 27 = .ok (.new 25, 3) := by decide +kernel
theorem dX6_init_30 : decode cX6_init 30 = .ok (.dup, 1) := by decide +kernel
theorem dX6_init_31 : decode cX6_init 31 = .ok (.invokespecial 27, 3) := by decide +kernel
theorem dX6_init_34 : decode cX6_init 34 = .ok (.putfield 28, 3) := by decide +kernel
theorem dX6_init_37 : decode cX6_init 37 = .ok (.aload_n 0, 1) := by decide +kernel
theorem dX6_init_38 : decode cX6_init 38 = .ok (.new 32, 3) := by decide +kernel
theorem dX6_init_41 : decode cX6_init 41 = .ok (.dup, 1) := by decide +kernel
theorem dX6_init_42 : decode cX6_init 42 = .ok (.invokespecial 34, 3) := by decide +kernel
theorem dX6_init_45 : decode cX6_init 45 = .ok (.putfield 35, 3) := by decide +kernel
theorem dX6_init_48 : decode cX6_init 48 = .ok (.aload_n 0, 1) := by decide +kernel
theorem dX6_init_49 : decode cX6_init 49 = .ok (.new 39, 3) := by decide +kernel
theorem dX6_init_52 : decode cX6_init 52 = .ok (.dup, 1) := by decide +kernel
theorem dX6_init_53 : decode cX6_init 53 = .ok (.aload_n 0, 1) := by decide +kernel
theorem dX6_init_54 : decode cX6_init 54 = .ok (.getfield 28, 3) := by decide +kernel
theorem dX6_init_57 : decode cX6_init 57 = .ok (.aload_n 0, 1) := by decide +kernel
theorem dX6_init_58 : decode cX6_init 58 = .ok (.getfield 35, 3) := by decide +kernel
theorem dX6_init_61 : decode cX6_init 61 = .ok (.invokespecial 41, 3) := by decide +kernel
theorem dX6_init_64 : decode cX6_init 64 = .ok (.putfield 44, 3) := by decide +kernel
theorem dX6_init_67 : decode cX6_init 67 = .ok (.aload_n 0, 1) := by decide +kernel
theorem dX6_init_68 : decode cX6_init 68 = .ok (.new 48, 3) := by decide +kernel
theorem dX6_init_71 : decode cX6_init 71 = .ok (.dup, 1) := by decide +kernel
theorem dX6_init_72 : decode cX6_init 72 = .ok (.aload_n 0, 1) := by decide +kernel
theorem dX6_init_73 : decode cX6_init 73 = .ok (.getfield 28, 3) := by decide +kernel
theorem dX6_init_76 : decode cX6_init 76 = .ok (.invokespecial 50, 3) := by decide +kernel
theorem dX6_init_79 : decode cX6_init 79 = .ok (.putfield 53, 3) := by decide +kernel
theorem dX6_init_82 : decode cX6_init 82 = .ok (.aload_n 0, 1) := by decide +kernel
theorem dX6_init_83 : decode cX6_init 83 = .ok (.iconst 5, 1) := by decide +kernel
theorem dX6_init_84 : decode cX6_init 84 = .ok (.newarray .int, 2) := by decide +kernel
theorem dX6_init_86 : decode cX6_init 86 = .ok (.putfield 57, 3) := by decide +kernel
theorem dX6_init_89 : decode cX6_init 89 = .ok (.return_, 1) := by decide +kernel
theorem dX6_inn_0 : decode cX6_inn 0 = .ok (.aload_n 0, 1) := by decide +kernel
theorem dX6_inn_1 : decode cX6_inn 1 = .ok (.iconst 0, 1) := by decide +kernel
theorem dX6_inn_2 : decode cX6_inn 2 = .ok (.putfield 61, 3) := by decide +kernel
theorem dX6_inn_5 : decode cX6_inn 5 = .ok (.iload_n 1, 1) := by decide +kernel
theorem dX6_inn_6 : decode cX6_inn 6 = .ok (.invokestatic 65, 3) := by decide +kernel
theorem dX6_inn_9 : decode cX6_inn 9 = .ok (.ifCond .ne 5, 3) := by decide +kernel
theorem dX6_inn_12 : decode cX6_inn 12 = .ok (.iconst (-1), 1) := by decide +kernel
theorem dX6_inn_13 : decode cX6_inn 13 = .ok (.ireturn, 1) := by decide +kernel
theorem dX6_inn_14 : decode cX6_inn 14 = .ok (.iload_n 2, 1) := by decide +kernel
theorem dX6_inn_15 : decode cX6_inn 15 = .ok (.invokestatic 69, 3) := by decide +kernel
theorem dX6_inn_18 : decode cX6_inn 18 = .ok (.ifCond .ne 6, 3) := by decide +kernel
theorem dX6_inn_21 : decode cX6_inn 21 = .ok (.bipush (-2), 2) := by decide +kernel
theorem dX6_inn_23 : decode cX6_inn 23 = .ok (.ireturn, 1) := by decide +kernel
theorem dX6_inn_24 : decode cX6_inn 24 = .ok (.aload_n 0, 1) := by decide +kernel
theorem dX6_inn_25 : decode cX6_inn 25 = .ok (.getfield 12, 3) := by decide +kernel
theorem dX6_inn_28 : decode cX6_inn 28 = .ok (.iload_n 1, 1) := by decide +kernel
theorem dX6_inn_29 : decode cX6_inn 29 = .ok (.iload_n 2, 1) := by decide +kernel
theorem dX6_inn_30 : decode cX6_inn 30 = .ok (.iload_n 3, 1) := by decide +kernel
theorem dX6_inn_31 : decode cX6_inn 31 = .ok (.iload 4, 2) := by decide +kernel
theorem dX6_inn_33 : decode cX6_inn 33 = .ok (.invokevirtual 72, 3) := by decide +kernel
theorem dX6_inn_36 : decode cX6_inn 36 = .ok (.istore 5, 2) := by decide +kernel
theorem dX6_inn_38 : decode cX6_inn 38 = .ok (.iload 5, 2) := by decide +kernel
theorem dX6_inn_40 : decode cX6_inn 40 = .ok (.ifCond .eq 10, 3) := by decide +kernel
theorem dX6_inn_43 : decode cX6_inn 43 = .ok (.aload_n 0, 1) := by decide +kernel
theorem dX6_inn_44 : decode cX6_inn 44 = .ok (.iload 5, 2) := by decide +kernel
theorem dX6_inn_46 : decode cX6_inn 46 = .ok (.invokevirtual 76, 3) := by decide +kernel
theorem dX6_inn_49 : decode cX6_inn 49 = .ok (.ireturn, 1) := by decide +kernel
theorem dX6_inn_50 : decode cX6_inn 50 = .ok (.aload_n 0, 1) := by decide +kernel
theorem dX6_inn_51 : decode cX6_inn 51 = .ok (.getfield 21, 3) := by decide +kernel
theorem dX6_inn_54 : decode cX6_inn 54 = .ok (.iload 4, 2) := by decide +kernel
theorem dX6_inn_56 : decode cX6_inn 56 = .ok (.putfield 80, 3) := by decide +kernel
theorem dX6_inn_59 : decode cX6_inn 59 = .ok (.aload_n 0, 1) := by decide +kernel
theorem dX6_inn_60 : decode cX6_inn 60 = .ok (.getfield 12, 3) := by decide +kernel
theorem dX6_inn_63 : decode cX6_inn 63 = .ok (.iload_n 1, 1) := by decide +kernel
theorem dX6_inn_64 : decode cX6_inn 64 = .ok (.iload_n 3, 1) := by decide +kernel
theorem dX6_inn_65 : decode cX6_inn 65 = .ok (.iload 4, 2) := by decide +kernel
theorem dX6_inn_67 : decode cX6_inn 67 = .ok (.aload_n 0, 1) := by decide +kernel
theorem dX6_inn_68 : decode cX6_inn 68 = .ok (.getfield 21, 3) := by decide +kernel
theorem dX6_inn_71 : decode cX6_inn 71 = .ok (.getfield 83, 3) := by decide +kernel
theorem dX6_inn_74 : decode cX6_inn 74 = .ok (.invokevirtual 86, 3) := by decide +kernel
theorem dX6_inn_77 : decode cX6_inn 77 = .ok (.aload_n 0, 1) := by decide +kernel
theorem dX6_inn_78 : decode cX6_inn 78 = .ok (.getfield 21, 3) := by decide +kernel
theorem dX6_inn_81 : decode cX6_inn 81 = .ok (.invokevirtual 90, 3) := by decide +kernel
theorem dX6_inn_84 : decode cX6_inn 84 = .ok (.istore 6, 2) := by decide +kernel
theorem dX6_inn_86 : decode cX6_inn 86 = .ok (.iload 6, 2) := by decide +kernel
theorem dX6_inn_88 : decode cX6_inn 88 = .ok (.iconst (-1), 1) := by decide +kernel
theorem dX6_inn_89 : decode cX6_inn 89 = .ok (.if_icmp .eq 9, 3) := by decide +kernel
theorem dX6_inn_92 : decode cX6_inn 92 = .ok (.bipush (-100), 2) := by decide +kernel
theorem dX6_inn_94 : decode cX6_inn 94 = .ok (.iload 6, 2) := by decide +kernel
theorem dX6_inn_96 : decode cX6_inn 96 = .ok (.isub, 1) := by decide +kernel
theorem dX6_inn_97 : decode cX6_inn 97 = .ok (.ireturn, 1) := by decide +kernel
theorem dX6_inn_98 : decode cX6_inn 98 = .ok (.aload_n 0, 1) := by decide +kernel
theorem dX6_inn_99 : decode cX6_inn 99 = .ok (.getfield 28, 3) := by decide +kernel
theorem dX6_inn_102 : decode cX6_inn 102 = .ok (.aload_n 0, 1) := by decide +kernel
theorem dX6_inn_103 : decode cX6_inn 103 = .ok (.getfield 21, 3) := by decide +kernel
theorem dX6_inn_106 : decode cX6_inn 106 = .ok (.invokevirtual 94, 3) := by decide +kernel
theorem dX6_inn_109 : decode cX6_inn 109 = .ok (.aload_n 0, 1) := by decide +kernel
theorem dX6_inn_110 : decode cX6_inn 110 = .ok (.getfield 28, 3) := by decide +kernel
theorem dX6_inn_113 : decode cX6_inn 113 = .ok (.getfield 98, 3) := by decide +kernel
theorem dX6_inn_116 : decode cX6_inn 116 = .ok (.ireturn, 1) := by decide +kernel
theorem dX6_ofTale_0 : decode cX6_ofTale 0 = .ok (.aload_n 0, 1) := by decide +kernel
theorem dX6_ofTale_1 : decode cX6_ofTale 1 = .ok (.getfield 28, 3) := by decide +kernel
theorem dX6_ofTale_4 : decode cX6_ofTale 4 = .ok (.iload_n 1, 1) := by decide +kernel
theorem dX6_ofTale_5 : decode cX6_ofTale 5 = .ok (.invokevirtual 101, 3) := by decide +kernel
theorem dX6_ofTale_8 : decode cX6_ofTale 8 = .ok (.ifCond .ne 5, 3) := by decide +kernel
theorem dX6_ofTale_11 : decode cX6_ofTale 11 = .ok (.iconst (-1), 1) := by decide +kernel
theorem dX6_ofTale_12 : decode cX6_ofTale 12 = .ok (.ireturn, 1) := by decide +kernel
theorem dX6_ofTale_13 : decode cX6_ofTale 13 = .ok (.iload_n 2, 1) := by decide +kernel
theorem dX6_ofTale_14 : decode cX6_ofTale 14 = .ok (.tableswitch 118 0 6 #[42, 52, 62, 72, 82, 92, 109], 42) := by decide +kernel
theorem dX6_ofTale_56 : decode cX6_ofTale 56 = .ok (.aload_n 0, 1) := by decide +kernel
theorem dX6_ofTale_57 : decode cX6_ofTale 57 = .ok (.getfield 28, 3) := by decide +kernel
theorem dX6_ofTale_60 : decode cX6_ofTale 60 = .ok (.getfield 104, 3) := by decide +kernel
theorem dX6_ofTale_63 : decode cX6_ofTale 63 = .ok (.iload_n 1, 1) := by decide +kernel
theorem dX6_ofTale_64 : decode cX6_ofTale 64 = .ok (.iaload, 1) := by decide +kernel
theorem dX6_ofTale_65 : decode cX6_ofTale 65 = .ok (.ireturn, 1) := by decide +kernel
theorem dX6_ofTale_66 : decode cX6_ofTale 66 = .ok (.aload_n 0, 1) := by decide +kernel
theorem dX6_ofTale_67 : decode cX6_ofTale 67 = .ok (.getfield 28, 3) := by decide +kernel
theorem dX6_ofTale_70 : decode cX6_ofTale 70 = .ok (.getfield 107, 3) := by decide +kernel
theorem dX6_ofTale_73 : decode cX6_ofTale 73 = .ok (.iload_n 1, 1) := by decide +kernel
theorem dX6_ofTale_74 : decode cX6_ofTale 74 = .ok (.iaload, 1) := by decide +kernel
theorem dX6_ofTale_75 : decode cX6_ofTale 75 = .ok (.ireturn, 1) := by decide +kernel
theorem dX6_ofTale_76 : decode cX6_ofTale 76 = .ok (.aload_n 0, 1) := by decide +kernel
theorem dX6_ofTale_77 : decode cX6_ofTale 77 = .ok (.getfield 28, 3) := by decide +kernel
theorem dX6_ofTale_80 : decode cX6_ofTale 80 = .ok (.getfield 110, 3) := by decide +kernel
theorem dX6_ofTale_83 : decode cX6_ofTale 83 = .ok (.iload_n 1, 1) := by decide +kernel
theorem dX6_ofTale_84 : decode cX6_ofTale 84 = .ok (.iaload, 1) := by decide +kernel
theorem dX6_ofTale_85 : decode cX6_ofTale 85 = .ok (.ireturn, 1) := by decide +kernel
theorem dX6_ofTale_86 : decode cX6_ofTale 86 = .ok (.aload_n 0, 1) := by decide +kernel
theorem dX6_ofTale_87 : decode cX6_ofTale 87 = .ok (.getfield 28, 3) := by decide +kernel
theorem dX6_ofTale_90 : decode cX6_ofTale 90 = .ok (.getfield 113, 3) := by decide +kernel
theorem dX6_ofTale_93 : decode cX6_ofTale 93 = .ok (.iload_n 1, 1) := by decide +kernel
theorem dX6_ofTale_94 : decode cX6_ofTale 94 = .ok (.iaload, 1) := by decide +kernel
theorem dX6_ofTale_95 : decode cX6_ofTale 95 = .ok (.ireturn, 1) := by decide +kernel
theorem dX6_ofTale_96 : decode cX6_ofTale 96 = .ok (.aload_n 0, 1) := by decide +kernel
theorem dX6_ofTale_97 : decode cX6_ofTale 97 = .ok (.getfield 28, 3) := by decide +kernel
theorem dX6_ofTale_100 : decode cX6_ofTale 100 = .ok (.getfield 116, 3) := by decide +kernel
theorem dX6_ofTale_103 : decode cX6_ofTale 103 = .ok (.iload_n 1, 1) := by decide +kernel
theorem dX6_ofTale_104 : decode cX6_ofTale 104 = .ok (.iaload, 1) := by decide +kernel
theorem dX6_ofTale_105 : decode cX6_ofTale 105 = .ok (.ireturn, 1) := by decide +kernel
theorem dX6_ofTale_106 : decode cX6_ofTale 106 = .ok (.aload_n 0, 1) := by decide +kernel
theorem dX6_ofTale_107 : decode cX6_ofTale 107 = .ok (.getfield 28, 3) := by decide +kernel
theorem dX6_ofTale_110 : decode cX6_ofTale 110 = .ok (.iload_n 1, 1) := by decide +kernel
theorem dX6_ofTale_111 : decode cX6_ofTale 111 = .ok (.invokevirtual 119, 3) := by decide +kernel
theorem dX6_ofTale_114 : decode cX6_ofTale 114 = .ok (.ifCond .eq 7, 3) := by decide +kernel
theorem dX6_ofTale_117 : decode cX6_ofTale 117 = .ok (.iconst 1, 1) := by decide +kernel
theorem dX6_ofTale_118 : decode cX6_ofTale 118 = .ok (.goto 4, 3) := by decide +kernel
theorem dX6_ofTale_121 : decode cX6_ofTale 121 = .ok (.iconst 0, 1) := by decide +kernel
theorem dX6_ofTale_122 : decode cX6_ofTale 122 = .ok (.ireturn, 1) := by decide +kernel
theorem dX6_ofTale_123 : decode cX6_ofTale 123 = .ok (.aload_n 0, 1) := by decide +kernel
theorem dX6_ofTale_124 : decode cX6_ofTale 124 = .ok (.getfield 28, 3) := by decide +kernel
theorem dX6_ofTale_127 : decode cX6_ofTale 127 = .ok (.iload_n 1, 1) := by decide +kernel
theorem dX6_ofTale_128 : decode cX6_ofTale 128 = .ok (.invokevirtual 122, 3) := by decide +kernel
theorem dX6_ofTale_131 : decode cX6_ofTale 131 = .ok (.ireturn, 1) := by decide +kernel
theorem dX6_ofTale_132 : decode cX6_ofTale 132 = .ok (.bipush (-2), 2) := by decide +kernel
theorem dX6_ofTale_134 : decode cX6_ofTale 134 = .ok (.ireturn, 1) := by decide +kernel
theorem dX6_memory_0 : decode cX6_memory 0 = .ok (.iload_n 1, 1) := by decide +kernel
theorem dX6_memory_1 : decode cX6_memory 1 = .ok (.ifCond .lt 9, 3) := by decide +kernel
theorem dX6_memory_4 : decode cX6_memory 4 = .ok (.iload_n 1, 1) := by decide +kernel
theorem dX6_memory_5 : decode cX6_memory 5 = .ok (.bipush 99, 2) := by decide +kernel
theorem dX6_memory_7 : decode cX6_memory 7 = .ok (.if_icmp .le 6, 3) := by decide +kernel
theorem dX6_memory_10 : decode cX6_memory 10 = .ok (.bipush (-2), 2) := by decide +kernel
theorem dX6_memory_12 : decode cX6_memory 12 = .ok (.ireturn, 1) := by decide +kernel
theorem dX6_memory_13 : decode cX6_memory 13 = .ok (.aload_n 0, 1) := by decide +kernel
theorem dX6_memory_14 : decode cX6_memory 14 = .ok (.getfield 28, 3) := by decide +kernel
theorem dX6_memory_17 : decode cX6_memory 17 = .ok (.invokevirtual 125, 3) := by decide +kernel
theorem dX6_memory_20 : decode cX6_memory 20 = .ok (.ifCond .ne 6, 3) := by decide +kernel
theorem dX6_memory_23 : decode cX6_memory 23 = .ok (.bipush (-3), 2) := by decide +kernel
theorem dX6_memory_25 : decode cX6_memory 25 = .ok (.ireturn, 1) := by decide +kernel
theorem dX6_memory_26 : decode cX6_memory 26 = .ok (.aload_n 0, 1) := by decide +kernel
theorem dX6_memory_27 : decode cX6_memory 27 = .ok (.getfield 28, 3) := by decide +kernel
theorem dX6_memory_30 : decode cX6_memory 30 = .ok (.getfield 129, 3) := by decide +kernel
theorem dX6_memory_33 : decode cX6_memory 33 = .ok (.istore_n 2, 1) := by decide +kernel
theorem dX6_memory_34 : decode cX6_memory 34 = .ok (.aload_n 0, 1) := by decide +kernel
theorem dX6_memory_35 : decode cX6_memory 35 = .ok (.getfield 28, 3) := by decide +kernel
theorem dX6_memory_38 : decode cX6_memory 38 = .ok (.iload_n 1, 1) := by decide +kernel
theorem dX6_memory_39 : decode cX6_memory 39 = .ok (.putfield 129, 3) := by decide +kernel
theorem dX6_memory_42 : decode cX6_memory 42 = .ok (.iload_n 2, 1) := by decide +kernel
theorem dX6_memory_43 : decode cX6_memory 43 = .ok (.ireturn, 1) := by decide +kernel
theorem dX6_choose_0 : decode cX6_choose 0 = .ok (.aload_n 0, 1) := by decide +kernel
theorem dX6_choose_1 : decode cX6_choose 1 = .ok (.getfield 28, 3) := by decide +kernel
theorem dX6_choose_4 : decode cX6_choose 4 = .ok (.iload_n 1, 1) := by decide +kernel
theorem dX6_choose_5 : decode cX6_choose 5 = .ok (.invokevirtual 132, 3) := by decide +kernel
theorem dX6_choose_8 : decode cX6_choose 8 = .ok (.ifCond .ne 5, 3) := by decide +kernel
theorem dX6_choose_11 : decode cX6_choose 11 = .ok (.iconst (-1), 1) := by decide +kernel
theorem dX6_choose_12 : decode cX6_choose 12 = .ok (.ireturn, 1) := by decide +kernel
theorem dX6_choose_13 : decode cX6_choose 13 = .ok (.iload_n 2, 1) := by decide +kernel
theorem dX6_choose_14 : decode cX6_choose 14 = .ok (.bipush (-9), 2) := by decide +kernel
theorem dX6_choose_16 : decode cX6_choose 16 = .ok (.if_icmp .eq 43, 3) := by decide +kernel
theorem dX6_choose_19 : decode cX6_choose 19 = .ok (.aload_n 0, 1) := by decide +kernel
theorem dX6_choose_20 : decode cX6_choose 20 = .ok (.getfield 28, 3) := by decide +kernel
theorem dX6_choose_23 : decode cX6_choose 23 = .ok (.iload_n 2, 1) := by decide +kernel
theorem dX6_choose_24 : decode cX6_choose 24 = .ok (.invokevirtual 101, 3) := by decide +kernel
theorem dX6_choose_27 : decode cX6_choose 27 = .ok (.ifCond .ne 5, 3) := by decide +kernel
theorem dX6_choose_30 : decode cX6_choose 30 = .ok (.iconst (-1), 1) := by decide +kernel
theorem dX6_choose_31 : decode cX6_choose 31 = .ok (.ireturn, 1) := by decide +kernel
theorem dX6_choose_32 : decode cX6_choose 32 = .ok (.aload_n 0, 1) := by decide +kernel
theorem dX6_choose_33 : decode cX6_choose 33 = .ok (.getfield 28, 3) := by decide +kernel
theorem dX6_choose_36 : decode cX6_choose 36 = .ok (.getfield 107, 3) := by decide +kernel
theorem dX6_choose_39 : decode cX6_choose 39 = .ok (.iload_n 2, 1) := by decide +kernel
theorem dX6_choose_40 : decode cX6_choose 40 = .ok (.iaload, 1) := by decide +kernel
theorem dX6_choose_41 : decode cX6_choose 41 = .ok (.iload_n 1, 1) := by decide +kernel
theorem dX6_choose_42 : decode cX6_choose 42 = .ok (.if_icmp .ne 14, 3) := by decide +kernel
theorem dX6_choose_45 : decode cX6_choose 45 = .ok (.aload_n 0, 1) := by decide +kernel
theorem dX6_choose_46 : decode cX6_choose 46 = .ok (.getfield 28, 3) := by decide +kernel
theorem dX6_choose_49 : decode cX6_choose 49 = .ok (.iload_n 2, 1) := by decide +kernel
theorem dX6_choose_50 : decode cX6_choose 50 = .ok (.invokevirtual 119, 3) := by decide +kernel
theorem dX6_choose_53 : decode cX6_choose 53 = .ok (.ifCond .ne 6, 3) := by decide +kernel
theorem dX6_choose_56 : decode cX6_choose 56 = .ok (.bipush (-3), 2) := by decide +kernel
theorem dX6_choose_58 : decode cX6_choose 58 = .ok (.ireturn, 1) := by decide +kernel
theorem dX6_choose_59 : decode cX6_choose 59 = .ok (.aload_n 0, 1) := by decide +kernel
theorem dX6_choose_60 : decode cX6_choose 60 = .ok (.getfield 28, 3) := by decide +kernel
theorem dX6_choose_63 : decode cX6_choose 63 = .ok (.getfield 135, 3) := by decide +kernel
theorem dX6_choose_66 : decode cX6_choose 66 = .ok (.iload_n 1, 1) := by decide +kernel
theorem dX6_choose_67 : decode cX6_choose 67 = .ok (.iaload, 1) := by decide +kernel
theorem dX6_choose_68 : decode cX6_choose 68 = .ok (.istore_n 3, 1) := by decide +kernel
theorem dX6_choose_69 : decode cX6_choose 69 = .ok (.aload_n 0, 1) := by decide +kernel
theorem dX6_choose_70 : decode cX6_choose 70 = .ok (.getfield 28, 3) := by decide +kernel
theorem dX6_choose_73 : decode cX6_choose 73 = .ok (.getfield 135, 3) := by decide +kernel
theorem dX6_choose_76 : decode cX6_choose 76 = .ok (.iload_n 1, 1) := by decide +kernel
theorem dX6_choose_77 : decode cX6_choose 77 = .ok (.iload_n 2, 1) := by decide +kernel
theorem dX6_choose_78 : decode cX6_choose 78 = .ok (.iastore, 1) := by decide +kernel
theorem dX6_choose_79 : decode cX6_choose 79 = .ok (.iload_n 3, 1) := by decide +kernel
theorem dX6_choose_80 : decode cX6_choose 80 = .ok (.ireturn, 1) := by decide +kernel
theorem dX6_night_0 : decode cX6_night 0 = .ok (.aload_n 0, 1) := by decide +kernel
theorem dX6_night_1 : decode cX6_night 1 = .ok (.getfield 28, 3) := by decide +kernel
theorem dX6_night_4 : decode cX6_night 4 = .ok (.invokevirtual 125, 3) := by decide +kernel
theorem dX6_night_7 : decode cX6_night 7 = .ok (.ifCond .ne 6, 3) := by decide +kernel
theorem dX6_night_10 : decode cX6_night 10 = .ok (.bipush (-3), 2) := by decide +kernel
theorem dX6_night_12 : decode cX6_night 12 = .ok (.ireturn, 1) := by decide +kernel
theorem dX6_night_13 : decode cX6_night 13 = .ok (.aload_n 0, 1) := by decide +kernel
theorem dX6_night_14 : decode cX6_night 14 = .ok (.getfield 28, 3) := by decide +kernel
theorem dX6_night_17 : decode cX6_night 17 = .ok (.getfield 138, 3) := by decide +kernel
theorem dX6_night_20 : decode cX6_night 20 = .ok (.bipush 60, 2) := by decide +kernel
theorem dX6_night_22 : decode cX6_night 22 = .ok (.if_icmp .lt 6, 3) := by decide +kernel
theorem dX6_night_25 : decode cX6_night 25 = .ok (.bipush (-4), 2) := by decide +kernel
theorem dX6_night_27 : decode cX6_night 27 = .ok (.ireturn, 1) := by decide +kernel
theorem dX6_night_28 : decode cX6_night 28 = .ok (.aload_n 0, 1) := by decide +kernel
theorem dX6_night_29 : decode cX6_night 29 = .ok (.getfield 28, 3) := by decide +kernel
theorem dX6_night_32 : decode cX6_night 32 = .ok (.aload_n 0, 1) := by decide +kernel
theorem dX6_night_33 : decode cX6_night 33 = .ok (.getfield 35, 3) := by decide +kernel
theorem dX6_night_36 : decode cX6_night 36 = .ok (.invokevirtual 141, 3) := by decide +kernel
theorem dX6_night_39 : decode cX6_night 39 = .ok (.aload_n 0, 1) := by decide +kernel
theorem dX6_night_40 : decode cX6_night 40 = .ok (.getfield 28, 3) := by decide +kernel
theorem dX6_night_43 : decode cX6_night 43 = .ok (.aload_n 0, 1) := by decide +kernel
theorem dX6_night_44 : decode cX6_night 44 = .ok (.getfield 35, 3) := by decide +kernel
theorem dX6_night_47 : decode cX6_night 47 = .ok (.invokevirtual 145, 3) := by decide +kernel
theorem dX6_night_50 : decode cX6_night 50 = .ok (.ireturn, 1) := by decide +kernel
theorem dX6_ofNight_0 : decode cX6_ofNight 0 = .ok (.aload_n 0, 1) := by decide +kernel
theorem dX6_ofNight_1 : decode cX6_ofNight 1 = .ok (.getfield 28, 3) := by decide +kernel
theorem dX6_ofNight_4 : decode cX6_ofNight 4 = .ok (.iload_n 1, 1) := by decide +kernel
theorem dX6_ofNight_5 : decode cX6_ofNight 5 = .ok (.invokevirtual 149, 3) := by decide +kernel
theorem dX6_ofNight_8 : decode cX6_ofNight 8 = .ok (.ifCond .eq 14, 3) := by decide +kernel
theorem dX6_ofNight_11 : decode cX6_ofNight 11 = .ok (.aload_n 0, 1) := by decide +kernel
theorem dX6_ofNight_12 : decode cX6_ofNight 12 = .ok (.getfield 28, 3) := by decide +kernel
theorem dX6_ofNight_15 : decode cX6_ofNight 15 = .ok (.iload_n 2, 1) := by decide +kernel
theorem dX6_ofNight_16 : decode cX6_ofNight 16 = .ok (.invokevirtual 132, 3) := by decide +kernel
theorem dX6_ofNight_19 : decode cX6_ofNight 19 = .ok (.ifCond .ne 5, 3) := by decide +kernel
theorem dX6_ofNight_22 : decode cX6_ofNight 22 = .ok (.iconst (-1), 1) := by decide +kernel
theorem dX6_ofNight_23 : decode cX6_ofNight 23 = .ok (.ireturn, 1) := by decide +kernel
theorem dX6_ofNight_24 : decode cX6_ofNight 24 = .ok (.iload_n 1, 1) := by decide +kernel
theorem dX6_ofNight_25 : decode cX6_ofNight 25 = .ok (.iconst 5, 1) := by decide +kernel
theorem dX6_ofNight_26 : decode cX6_ofNight 26 = .ok (.imul, 1) := by decide +kernel
theorem dX6_ofNight_27 : decode cX6_ofNight 27 = .ok (.iload_n 2, 1) := by decide +kernel
theorem dX6_ofNight_28 : decode cX6_ofNight 28 = .ok (.iadd, 1) := by decide +kernel
theorem dX6_ofNight_29 : decode cX6_ofNight 29 = .ok (.istore 4, 2) := by decide +kernel
theorem dX6_ofNight_31 : decode cX6_ofNight 31 = .ok (.iload_n 3, 1) := by decide +kernel
theorem dX6_ofNight_32 : decode cX6_ofNight 32 = .ok (.tableswitch 61 0 2 #[28, 39, 50], 28) := by decide +kernel
theorem dX6_ofNight_60 : decode cX6_ofNight 60 = .ok (.aload_n 0, 1) := by decide +kernel
theorem dX6_ofNight_61 : decode cX6_ofNight 61 = .ok (.getfield 28, 3) := by decide +kernel
theorem dX6_ofNight_64 : decode cX6_ofNight 64 = .ok (.getfield 152, 3) := by decide +kernel
theorem dX6_ofNight_67 : decode cX6_ofNight 67 = .ok (.iload 4, 2) := by decide +kernel
theorem dX6_ofNight_69 : decode cX6_ofNight 69 = .ok (.iaload, 1) := by decide +kernel
theorem dX6_ofNight_70 : decode cX6_ofNight 70 = .ok (.ireturn, 1) := by decide +kernel
theorem dX6_ofNight_71 : decode cX6_ofNight 71 = .ok (.aload_n 0, 1) := by decide +kernel
theorem dX6_ofNight_72 : decode cX6_ofNight 72 = .ok (.getfield 28, 3) := by decide +kernel
theorem dX6_ofNight_75 : decode cX6_ofNight 75 = .ok (.getfield 155, 3) := by decide +kernel
theorem dX6_ofNight_78 : decode cX6_ofNight 78 = .ok (.iload 4, 2) := by decide +kernel
theorem dX6_ofNight_80 : decode cX6_ofNight 80 = .ok (.iaload, 1) := by decide +kernel
theorem dX6_ofNight_81 : decode cX6_ofNight 81 = .ok (.ireturn, 1) := by decide +kernel
theorem dX6_ofNight_82 : decode cX6_ofNight 82 = .ok (.aload_n 0, 1) := by decide +kernel
theorem dX6_ofNight_83 : decode cX6_ofNight 83 = .ok (.getfield 28, 3) := by decide +kernel
theorem dX6_ofNight_86 : decode cX6_ofNight 86 = .ok (.getfield 158, 3) := by decide +kernel
theorem dX6_ofNight_89 : decode cX6_ofNight 89 = .ok (.iload 4, 2) := by decide +kernel
theorem dX6_ofNight_91 : decode cX6_ofNight 91 = .ok (.iaload, 1) := by decide +kernel
theorem dX6_ofNight_92 : decode cX6_ofNight 92 = .ok (.ireturn, 1) := by decide +kernel
theorem dX6_ofNight_93 : decode cX6_ofNight 93 = .ok (.bipush (-2), 2) := by decide +kernel
theorem dX6_ofNight_95 : decode cX6_ofNight 95 = .ok (.ireturn, 1) := by decide +kernel
theorem dX6_undo_0 : decode cX6_undo 0 = .ok (.iload_n 1, 1) := by decide +kernel
theorem dX6_undo_1 : decode cX6_undo 1 = .ok (.ifCond .lt 14, 3) := by decide +kernel
theorem dX6_undo_4 : decode cX6_undo 4 = .ok (.iload_n 1, 1) := by decide +kernel
theorem dX6_undo_5 : decode cX6_undo 5 = .ok (.aload_n 0, 1) := by decide +kernel
theorem dX6_undo_6 : decode cX6_undo 6 = .ok (.getfield 28, 3) := by decide +kernel
theorem dX6_undo_9 : decode cX6_undo 9 = .ok (.getfield 138, 3) := by decide +kernel
theorem dX6_undo_12 : decode cX6_undo 12 = .ok (.if_icmp .le 6, 3) := by decide +kernel
theorem dX6_undo_15 : decode cX6_undo 15 = .ok (.bipush (-2), 2) := by decide +kernel
theorem dX6_undo_17 : decode cX6_undo 17 = .ok (.ireturn, 1) := by decide +kernel
theorem dX6_undo_18 : decode cX6_undo 18 = .ok (.aload_n 0, 1) := by decide +kernel
theorem dX6_undo_19 : decode cX6_undo 19 = .ok (.getfield 28, 3) := by decide +kernel
theorem dX6_undo_22 : decode cX6_undo 22 = .ok (.iload_n 1, 1) := by decide +kernel
theorem dX6_undo_23 : decode cX6_undo 23 = .ok (.invokevirtual 161, 3) := by decide +kernel
theorem dX6_undo_26 : decode cX6_undo 26 = .ok (.aload_n 0, 1) := by decide +kernel
theorem dX6_undo_27 : decode cX6_undo 27 = .ok (.getfield 28, 3) := by decide +kernel
theorem dX6_undo_30 : decode cX6_undo 30 = .ok (.getfield 138, 3) := by decide +kernel
theorem dX6_undo_33 : decode cX6_undo 33 = .ok (.ireturn, 1) := by decide +kernel
theorem dX6_lay_0 : decode cX6_lay 0 = .ok (.aload_n 0, 1) := by decide +kernel
theorem dX6_lay_1 : decode cX6_lay 1 = .ok (.getfield 28, 3) := by decide +kernel
theorem dX6_lay_4 : decode cX6_lay 4 = .ok (.iload_n 1, 1) := by decide +kernel
theorem dX6_lay_5 : decode cX6_lay 5 = .ok (.invokevirtual 132, 3) := by decide +kernel
theorem dX6_lay_8 : decode cX6_lay 8 = .ok (.ifCond .eq 14, 3) := by decide +kernel
theorem dX6_lay_11 : decode cX6_lay 11 = .ok (.aload_n 0, 1) := by decide +kernel
theorem dX6_lay_12 : decode cX6_lay 12 = .ok (.getfield 28, 3) := by decide +kernel
theorem dX6_lay_15 : decode cX6_lay 15 = .ok (.iload_n 2, 1) := by decide +kernel
theorem dX6_lay_16 : decode cX6_lay 16 = .ok (.invokevirtual 132, 3) := by decide +kernel
theorem dX6_lay_19 : decode cX6_lay 19 = .ok (.ifCond .ne 5, 3) := by decide +kernel
theorem dX6_lay_22 : decode cX6_lay 22 = .ok (.iconst (-1), 1) := by decide +kernel
theorem dX6_lay_23 : decode cX6_lay 23 = .ok (.ireturn, 1) := by decide +kernel
theorem dX6_lay_24 : decode cX6_lay 24 = .ok (.aload_n 0, 1) := by decide +kernel
theorem dX6_lay_25 : decode cX6_lay 25 = .ok (.getfield 28, 3) := by decide +kernel
theorem dX6_lay_28 : decode cX6_lay 28 = .ok (.iload_n 1, 1) := by decide +kernel
theorem dX6_lay_29 : decode cX6_lay 29 = .ok (.iload_n 2, 1) := by decide +kernel
theorem dX6_lay_30 : decode cX6_lay 30 = .ok (.invokevirtual 165, 3) := by decide +kernel
theorem dX6_lay_33 : decode cX6_lay 33 = .ok (.ireturn, 1) := by decide +kernel
theorem dX6_tonight_0 : decode cX6_tonight 0 = .ok (.aload_n 0, 1) := by decide +kernel
theorem dX6_tonight_1 : decode cX6_tonight 1 = .ok (.getfield 28, 3) := by decide +kernel
theorem dX6_tonight_4 : decode cX6_tonight 4 = .ok (.iload_n 1, 1) := by decide +kernel
theorem dX6_tonight_5 : decode cX6_tonight 5 = .ok (.invokevirtual 132, 3) := by decide +kernel
theorem dX6_tonight_8 : decode cX6_tonight 8 = .ok (.ifCond .ne 5, 3) := by decide +kernel
theorem dX6_tonight_11 : decode cX6_tonight 11 = .ok (.iconst (-1), 1) := by decide +kernel
theorem dX6_tonight_12 : decode cX6_tonight 12 = .ok (.ireturn, 1) := by decide +kernel
theorem dX6_tonight_13 : decode cX6_tonight 13 = .ok (.aload_n 0, 1) := by decide +kernel
theorem dX6_tonight_14 : decode cX6_tonight 14 = .ok (.getfield 28, 3) := by decide +kernel
theorem dX6_tonight_17 : decode cX6_tonight 17 = .ok (.aload_n 0, 1) := by decide +kernel
theorem dX6_tonight_18 : decode cX6_tonight 18 = .ok (.getfield 35, 3) := by decide +kernel
theorem dX6_tonight_21 : decode cX6_tonight 21 = .ok (.invokevirtual 141, 3) := by decide +kernel
theorem dX6_tonight_24 : decode cX6_tonight 24 = .ok (.iload_n 2, 1) := by decide +kernel
theorem dX6_tonight_25 : decode cX6_tonight 25 = .ok (.tableswitch 64 0 2 #[27, 37, 55], 27) := by decide +kernel
theorem dX6_tonight_52 : decode cX6_tonight 52 = .ok (.aload_n 0, 1) := by decide +kernel
theorem dX6_tonight_53 : decode cX6_tonight 53 = .ok (.getfield 28, 3) := by decide +kernel
theorem dX6_tonight_56 : decode cX6_tonight 56 = .ok (.getfield 135, 3) := by decide +kernel
theorem dX6_tonight_59 : decode cX6_tonight 59 = .ok (.iload_n 1, 1) := by decide +kernel
theorem dX6_tonight_60 : decode cX6_tonight 60 = .ok (.iaload, 1) := by decide +kernel
theorem dX6_tonight_61 : decode cX6_tonight 61 = .ok (.ireturn, 1) := by decide +kernel
theorem dX6_tonight_62 : decode cX6_tonight 62 = .ok (.aload_n 0, 1) := by decide +kernel
theorem dX6_tonight_63 : decode cX6_tonight 63 = .ok (.getfield 35, 3) := by decide +kernel
theorem dX6_tonight_66 : decode cX6_tonight 66 = .ok (.iload_n 1, 1) := by decide +kernel
theorem dX6_tonight_67 : decode cX6_tonight 67 = .ok (.aload_n 0, 1) := by decide +kernel
theorem dX6_tonight_68 : decode cX6_tonight 68 = .ok (.getfield 35, 3) := by decide +kernel
theorem dX6_tonight_71 : decode cX6_tonight 71 = .ok (.getfield 169, 3) := by decide +kernel
theorem dX6_tonight_74 : decode cX6_tonight 74 = .ok (.iload_n 1, 1) := by decide +kernel
theorem dX6_tonight_75 : decode cX6_tonight 75 = .ok (.iaload, 1) := by decide +kernel
theorem dX6_tonight_76 : decode cX6_tonight 76 = .ok (.invokevirtual 172, 3) := by decide +kernel
theorem dX6_tonight_79 : decode cX6_tonight 79 = .ok (.ireturn, 1) := by decide +kernel
theorem dX6_tonight_80 : decode cX6_tonight 80 = .ok (.aload_n 0, 1) := by decide +kernel
theorem dX6_tonight_81 : decode cX6_tonight 81 = .ok (.getfield 35, 3) := by decide +kernel
theorem dX6_tonight_84 : decode cX6_tonight 84 = .ok (.iload_n 1, 1) := by decide +kernel
theorem dX6_tonight_85 : decode cX6_tonight 85 = .ok (.invokevirtual 175, 3) := by decide +kernel
theorem dX6_tonight_88 : decode cX6_tonight 88 = .ok (.ireturn, 1) := by decide +kernel
theorem dX6_tonight_89 : decode cX6_tonight 89 = .ok (.bipush (-2), 2) := by decide +kernel
theorem dX6_tonight_91 : decode cX6_tonight 91 = .ok (.ireturn, 1) := by decide +kernel
theorem dX6_answer_0 : decode cX6_answer 0 = .ok (.aload_n 0, 1) := by decide +kernel
theorem dX6_answer_1 : decode cX6_answer 1 = .ok (.iload_n 1, 1) := by decide +kernel
theorem dX6_answer_2 : decode cX6_answer 2 = .ok (.iload_n 2, 1) := by decide +kernel
theorem dX6_answer_3 : decode cX6_answer 3 = .ok (.iconst 0, 1) := by decide +kernel
theorem dX6_answer_4 : decode cX6_answer 4 = .ok (.invokevirtual 178, 3) := by decide +kernel
theorem dX6_answer_7 : decode cX6_answer 7 = .ok (.ireturn, 1) := by decide +kernel
theorem dX6_borrowed_0 : decode cX6_borrowed 0 = .ok (.aload_n 0, 1) := by decide +kernel
theorem dX6_borrowed_1 : decode cX6_borrowed 1 = .ok (.iload_n 1, 1) := by decide +kernel
theorem dX6_borrowed_2 : decode cX6_borrowed 2 = .ok (.iload_n 2, 1) := by decide +kernel
theorem dX6_borrowed_3 : decode cX6_borrowed 3 = .ok (.iconst 1, 1) := by decide +kernel
theorem dX6_borrowed_4 : decode cX6_borrowed 4 = .ok (.invokevirtual 178, 3) := by decide +kernel
theorem dX6_borrowed_7 : decode cX6_borrowed 7 = .ok (.ireturn, 1) := by decide +kernel
theorem dX6_bishop_0 : decode cX6_bishop 0 = .ok (.iload_n 1, 1) := by decide +kernel
theorem dX6_bishop_1 : decode cX6_bishop 1 = .ok (.ifCond .lt 10, 3) := by decide +kernel
theorem dX6_bishop_4 : decode cX6_bishop 4 = .ok (.iload_n 1, 1) := by decide +kernel
theorem dX6_bishop_5 : decode cX6_bishop 5 = .ok (.sipush 999, 3) := by decide +kernel
theorem dX6_bishop_8 : decode cX6_bishop 8 = .ok (.if_icmp .le 6, 3) := by decide +kernel
theorem dX6_bishop_11 : decode cX6_bishop 11 = .ok (.bipush (-2), 2) := by decide +kernel
theorem dX6_bishop_13 : decode cX6_bishop 13 = .ok (.ireturn, 1) := by decide +kernel
theorem dX6_bishop_14 : decode cX6_bishop 14 = .ok (.aload_n 0, 1) := by decide +kernel
theorem dX6_bishop_15 : decode cX6_bishop 15 = .ok (.getfield 28, 3) := by decide +kernel
theorem dX6_bishop_18 : decode cX6_bishop 18 = .ok (.invokevirtual 125, 3) := by decide +kernel
theorem dX6_bishop_21 : decode cX6_bishop 21 = .ok (.ifCond .ne 6, 3) := by decide +kernel
theorem dX6_bishop_24 : decode cX6_bishop 24 = .ok (.bipush (-3), 2) := by decide +kernel
theorem dX6_bishop_26 : decode cX6_bishop 26 = .ok (.ireturn, 1) := by decide +kernel
theorem dX6_bishop_27 : decode cX6_bishop 27 = .ok (.aload_n 0, 1) := by decide +kernel
theorem dX6_bishop_28 : decode cX6_bishop 28 = .ok (.getfield 28, 3) := by decide +kernel
theorem dX6_bishop_31 : decode cX6_bishop 31 = .ok (.aload_n 0, 1) := by decide +kernel
theorem dX6_bishop_32 : decode cX6_bishop 32 = .ok (.getfield 35, 3) := by decide +kernel
theorem dX6_bishop_35 : decode cX6_bishop 35 = .ok (.invokevirtual 141, 3) := by decide +kernel
theorem dX6_bishop_38 : decode cX6_bishop 38 = .ok (.aload_n 0, 1) := by decide +kernel
theorem dX6_bishop_39 : decode cX6_bishop 39 = .ok (.getfield 35, 3) := by decide +kernel
theorem dX6_bishop_42 : decode cX6_bishop 42 = .ok (.iload_n 1, 1) := by decide +kernel
theorem dX6_bishop_43 : decode cX6_bishop 43 = .ok (.invokevirtual 182, 3) := by decide +kernel
theorem dX6_bishop_46 : decode cX6_bishop 46 = .ok (.ireturn, 1) := by decide +kernel
theorem dX6_rests_0 : decode cX6_rests 0 = .ok (.iload_n 1, 1) := by decide +kernel
theorem dX6_rests_1 : decode cX6_rests 1 = .ok (.iconst (-1), 1) := by decide +kernel
theorem dX6_rests_2 : decode cX6_rests 2 = .ok (.if_icmp .eq 16, 3) := by decide +kernel
theorem dX6_rests_5 : decode cX6_rests 5 = .ok (.aload_n 0, 1) := by decide +kernel
theorem dX6_rests_6 : decode cX6_rests 6 = .ok (.getfield 28, 3) := by decide +kernel
theorem dX6_rests_9 : decode cX6_rests 9 = .ok (.iload_n 1, 1) := by decide +kernel
theorem dX6_rests_10 : decode cX6_rests 10 = .ok (.invokevirtual 132, 3) := by decide +kernel
theorem dX6_rests_13 : decode cX6_rests 13 = .ok (.ifCond .ne 5, 3) := by decide +kernel
theorem dX6_rests_16 : decode cX6_rests 16 = .ok (.iconst (-1), 1) := by decide +kernel
theorem dX6_rests_17 : decode cX6_rests 17 = .ok (.ireturn, 1) := by decide +kernel
theorem dX6_rests_18 : decode cX6_rests 18 = .ok (.aload_n 0, 1) := by decide +kernel
theorem dX6_rests_19 : decode cX6_rests 19 = .ok (.getfield 28, 3) := by decide +kernel
theorem dX6_rests_22 : decode cX6_rests 22 = .ok (.invokevirtual 125, 3) := by decide +kernel
theorem dX6_rests_25 : decode cX6_rests 25 = .ok (.ifCond .ne 5, 3) := by decide +kernel
theorem dX6_rests_28 : decode cX6_rests 28 = .ok (.iconst 0, 1) := by decide +kernel
theorem dX6_rests_29 : decode cX6_rests 29 = .ok (.ireturn, 1) := by decide +kernel
theorem dX6_rests_30 : decode cX6_rests 30 = .ok (.aload_n 0, 1) := by decide +kernel
theorem dX6_rests_31 : decode cX6_rests 31 = .ok (.getfield 44, 3) := by decide +kernel
theorem dX6_rests_34 : decode cX6_rests 34 = .ok (.invokevirtual 185, 3) := by decide +kernel
theorem dX6_rests_37 : decode cX6_rests 37 = .ok (.iload_n 1, 1) := by decide +kernel
theorem dX6_rests_38 : decode cX6_rests 38 = .ok (.iconst (-1), 1) := by decide +kernel
theorem dX6_rests_39 : decode cX6_rests 39 = .ok (.if_icmp .ne 13, 3) := by decide +kernel
theorem dX6_rests_42 : decode cX6_rests 42 = .ok (.aload_n 0, 1) := by decide +kernel
theorem dX6_rests_43 : decode cX6_rests 43 = .ok (.getfield 44, 3) := by decide +kernel
theorem dX6_rests_46 : decode cX6_rests 46 = .ok (.getfield 188, 3) := by decide +kernel
theorem dX6_rests_49 : decode cX6_rests 49 = .ok (.goto 12, 3) := by decide +kernel
theorem dX6_rests_52 : decode cX6_rests 52 = .ok (.aload_n 0, 1) := by decide +kernel
theorem dX6_rests_53 : decode cX6_rests 53 = .ok (.getfield 44, 3) := by decide +kernel
theorem dX6_rests_56 : decode cX6_rests 56 = .ok (.getfield 191, 3) := by decide +kernel
theorem dX6_rests_59 : decode cX6_rests 59 = .ok (.iload_n 1, 1) := by decide +kernel
theorem dX6_rests_60 : decode cX6_rests 60 = .ok (.iaload, 1) := by decide +kernel
theorem dX6_rests_61 : decode cX6_rests 61 = .ok (.ireturn, 1) := by decide +kernel
theorem dX6_winter_0 : decode cX6_winter 0 = .ok (.aload_n 0, 1) := by decide +kernel
theorem dX6_winter_1 : decode cX6_winter 1 = .ok (.iconst 0, 1) := by decide +kernel
theorem dX6_winter_2 : decode cX6_winter 2 = .ok (.putfield 61, 3) := by decide +kernel
theorem dX6_winter_5 : decode cX6_winter 5 = .ok (.aload_n 0, 1) := by decide +kernel
theorem dX6_winter_6 : decode cX6_winter 6 = .ok (.getfield 28, 3) := by decide +kernel
theorem dX6_winter_9 : decode cX6_winter 9 = .ok (.iload_n 1, 1) := by decide +kernel
theorem dX6_winter_10 : decode cX6_winter 10 = .ok (.invokevirtual 132, 3) := by decide +kernel
theorem dX6_winter_13 : decode cX6_winter 13 = .ok (.ifCond .eq 10, 3) := by decide +kernel
theorem dX6_winter_16 : decode cX6_winter 16 = .ok (.iload_n 2, 1) := by decide +kernel
theorem dX6_winter_17 : decode cX6_winter 17 = .ok (.invokestatic 65, 3) := by decide +kernel
theorem dX6_winter_20 : decode cX6_winter 20 = .ok (.ifCond .ne 5, 3) := by decide +kernel
theorem dX6_winter_23 : decode cX6_winter 23 = .ok (.iconst (-1), 1) := by decide +kernel
theorem dX6_winter_24 : decode cX6_winter 24 = .ok (.ireturn, 1) := by decide +kernel
theorem dX6_winter_25 : decode cX6_winter 25 = .ok (.iload_n 3, 1) := by decide +kernel
theorem dX6_winter_26 : decode cX6_winter 26 = .ok (.invokestatic 69, 3) := by decide +kernel
theorem dX6_winter_29 : decode cX6_winter 29 = .ok (.ifCond .ne 6, 3) := by decide +kernel
theorem dX6_winter_32 : decode cX6_winter 32 = .ok (.bipush (-2), 2) := by decide +kernel
theorem dX6_winter_34 : decode cX6_winter 34 = .ok (.ireturn, 1) := by decide +kernel
theorem dX6_winter_35 : decode cX6_winter 35 = .ok (.aload_n 0, 1) := by decide +kernel
theorem dX6_winter_36 : decode cX6_winter 36 = .ok (.getfield 12, 3) := by decide +kernel
theorem dX6_winter_39 : decode cX6_winter 39 = .ok (.iload_n 2, 1) := by decide +kernel
theorem dX6_winter_40 : decode cX6_winter 40 = .ok (.iload_n 3, 1) := by decide +kernel
theorem dX6_winter_41 : decode cX6_winter 41 = .ok (.iload 4, 2) := by decide +kernel
theorem dX6_winter_43 : decode cX6_winter 43 = .ok (.iload 5, 2) := by decide +kernel
theorem dX6_winter_45 : decode cX6_winter 45 = .ok (.invokevirtual 72, 3) := by decide +kernel
theorem dX6_winter_48 : decode cX6_winter 48 = .ok (.istore 7, 2) := by decide +kernel
theorem dX6_winter_50 : decode cX6_winter 50 = .ok (.iload 7, 2) := by decide +kernel
theorem dX6_winter_52 : decode cX6_winter 52 = .ok (.ifCond .eq 10, 3) := by decide +kernel
theorem dX6_winter_55 : decode cX6_winter 55 = .ok (.aload_n 0, 1) := by decide +kernel
theorem dX6_winter_56 : decode cX6_winter 56 = .ok (.iload 7, 2) := by decide +kernel
theorem dX6_winter_58 : decode cX6_winter 58 = .ok (.invokevirtual 76, 3) := by decide +kernel
theorem dX6_winter_61 : decode cX6_winter 61 = .ok (.ireturn, 1) := by decide +kernel
theorem dX6_winter_62 : decode cX6_winter 62 = .ok (.iload 5, 2) := by decide +kernel
theorem dX6_winter_64 : decode cX6_winter 64 = .ok (.iconst 1, 1) := by decide +kernel
theorem dX6_winter_65 : decode cX6_winter 65 = .ok (.if_icmp .lt 10, 3) := by decide +kernel
theorem dX6_winter_68 : decode cX6_winter 68 = .ok (.iload 5, 2) := by decide +kernel
theorem dX6_winter_70 : decode cX6_winter 70 = .ok (.bipush 6, 2) := by decide +kernel
theorem dX6_winter_72 : decode cX6_winter 72 = .ok (.if_icmp .le 6, 3) := by decide +kernel
theorem dX6_winter_75 : decode cX6_winter 75 = .ok (.bipush (-2), 2) := by decide +kernel
theorem dX6_winter_77 : decode cX6_winter 77 = .ok (.ireturn, 1) := by decide +kernel
theorem dX6_winter_78 : decode cX6_winter 78 = .ok (.iload 6, 2) := by decide +kernel
theorem dX6_winter_80 : decode cX6_winter 80 = .ok (.iconst (-1), 1) := by decide +kernel
theorem dX6_winter_81 : decode cX6_winter 81 = .ok (.if_icmp .lt 10, 3) := by decide +kernel
theorem dX6_winter_84 : decode cX6_winter 84 = .ok (.iload 6, 2) := by decide +kernel
theorem dX6_winter_86 : decode cX6_winter 86 = .ok (.iload 5, 2) := by decide +kernel
theorem dX6_winter_88 : decode cX6_winter 88 = .ok (.if_icmp .lt 5, 3) := by decide +kernel
theorem dX6_winter_91 : decode cX6_winter 91 = .ok (.iconst (-1), 1) := by decide +kernel
theorem dX6_winter_92 : decode cX6_winter 92 = .ok (.ireturn, 1) := by decide +kernel
theorem dX6_winter_93 : decode cX6_winter 93 = .ok (.aload_n 0, 1) := by decide +kernel
theorem dX6_winter_94 : decode cX6_winter 94 = .ok (.getfield 12, 3) := by decide +kernel
theorem dX6_winter_97 : decode cX6_winter 97 = .ok (.iload_n 2, 1) := by decide +kernel
theorem dX6_winter_98 : decode cX6_winter 98 = .ok (.iload 4, 2) := by decide +kernel
theorem dX6_winter_100 : decode cX6_winter 100 = .ok (.iload 5, 2) := by decide +kernel
theorem dX6_winter_102 : decode cX6_winter 102 = .ok (.aload_n 0, 1) := by decide +kernel
theorem dX6_winter_103 : decode cX6_winter 103 = .ok (.getfield 53, 3) := by decide +kernel
theorem dX6_winter_106 : decode cX6_winter 106 = .ok (.getfield 194, 3) := by decide +kernel
theorem dX6_winter_109 : decode cX6_winter 109 = .ok (.invokevirtual 86, 3) := by decide +kernel
theorem dX6_winter_112 : decode cX6_winter 112 = .ok (.aload_n 0, 1) := by decide +kernel
theorem dX6_winter_113 : decode cX6_winter 113 = .ok (.getfield 53, 3) := by decide +kernel
theorem dX6_winter_116 : decode cX6_winter 116 = .ok (.iload_n 1, 1) := by decide +kernel
theorem dX6_winter_117 : decode cX6_winter 117 = .ok (.iload 5, 2) := by decide +kernel
theorem dX6_winter_119 : decode cX6_winter 119 = .ok (.invokevirtual 197, 3) := by decide +kernel
theorem dX6_winter_122 : decode cX6_winter 122 = .ok (.iload 6, 2) := by decide +kernel
theorem dX6_winter_124 : decode cX6_winter 124 = .ok (.iconst (-1), 1) := by decide +kernel
theorem dX6_winter_125 : decode cX6_winter 125 = .ok (.if_icmp .ne 13, 3) := by decide +kernel
theorem dX6_winter_128 : decode cX6_winter 128 = .ok (.aload_n 0, 1) := by decide +kernel
theorem dX6_winter_129 : decode cX6_winter 129 = .ok (.getfield 53, 3) := by decide +kernel
theorem dX6_winter_132 : decode cX6_winter 132 = .ok (.getfield 200, 3) := by decide +kernel
theorem dX6_winter_135 : decode cX6_winter 135 = .ok (.goto 13, 3) := by decide +kernel
theorem dX6_winter_138 : decode cX6_winter 138 = .ok (.aload_n 0, 1) := by decide +kernel
theorem dX6_winter_139 : decode cX6_winter 139 = .ok (.getfield 53, 3) := by decide +kernel
theorem dX6_winter_142 : decode cX6_winter 142 = .ok (.getfield 203, 3) := by decide +kernel
theorem dX6_winter_145 : decode cX6_winter 145 = .ok (.iload 6, 2) := by decide +kernel
theorem dX6_winter_147 : decode cX6_winter 147 = .ok (.iaload, 1) := by decide +kernel
theorem dX6_winter_148 : decode cX6_winter 148 = .ok (.ireturn, 1) := by decide +kernel
theorem dX6_trade_0 : decode cX6_trade 0 = .ok (.aload_n 0, 1) := by decide +kernel
theorem dX6_trade_1 : decode cX6_trade 1 = .ok (.getfield 28, 3) := by decide +kernel
theorem dX6_trade_4 : decode cX6_trade 4 = .ok (.iload_n 1, 1) := by decide +kernel
theorem dX6_trade_5 : decode cX6_trade 5 = .ok (.invokevirtual 101, 3) := by decide +kernel
theorem dX6_trade_8 : decode cX6_trade 8 = .ok (.ifCond .eq 14, 3) := by decide +kernel
theorem dX6_trade_11 : decode cX6_trade 11 = .ok (.aload_n 0, 1) := by decide +kernel
theorem dX6_trade_12 : decode cX6_trade 12 = .ok (.getfield 28, 3) := by decide +kernel
theorem dX6_trade_15 : decode cX6_trade 15 = .ok (.iload_n 2, 1) := by decide +kernel
theorem dX6_trade_16 : decode cX6_trade 16 = .ok (.invokevirtual 101, 3) := by decide +kernel
theorem dX6_trade_19 : decode cX6_trade 19 = .ok (.ifCond .ne 5, 3) := by decide +kernel
theorem dX6_trade_22 : decode cX6_trade 22 = .ok (.iconst (-1), 1) := by decide +kernel
theorem dX6_trade_23 : decode cX6_trade 23 = .ok (.ireturn, 1) := by decide +kernel
theorem dX6_trade_24 : decode cX6_trade 24 = .ok (.aload_n 0, 1) := by decide +kernel
theorem dX6_trade_25 : decode cX6_trade 25 = .ok (.getfield 28, 3) := by decide +kernel
theorem dX6_trade_28 : decode cX6_trade 28 = .ok (.getfield 107, 3) := by decide +kernel
theorem dX6_trade_31 : decode cX6_trade 31 = .ok (.iload_n 1, 1) := by decide +kernel
theorem dX6_trade_32 : decode cX6_trade 32 = .ok (.iaload, 1) := by decide +kernel
theorem dX6_trade_33 : decode cX6_trade 33 = .ok (.istore_n 3, 1) := by decide +kernel
theorem dX6_trade_34 : decode cX6_trade 34 = .ok (.iload_n 3, 1) := by decide +kernel
theorem dX6_trade_35 : decode cX6_trade 35 = .ok (.aload_n 0, 1) := by decide +kernel
theorem dX6_trade_36 : decode cX6_trade 36 = .ok (.getfield 28, 3) := by decide +kernel
theorem dX6_trade_39 : decode cX6_trade 39 = .ok (.getfield 107, 3) := by decide +kernel
theorem dX6_trade_42 : decode cX6_trade 42 = .ok (.iload_n 2, 1) := by decide +kernel
theorem dX6_trade_43 : decode cX6_trade 43 = .ok (.iaload, 1) := by decide +kernel
theorem dX6_trade_44 : decode cX6_trade 44 = .ok (.if_icmp .ne 6, 3) := by decide +kernel
theorem dX6_trade_47 : decode cX6_trade 47 = .ok (.bipush (-3), 2) := by decide +kernel
theorem dX6_trade_49 : decode cX6_trade 49 = .ok (.ireturn, 1) := by decide +kernel
theorem dX6_trade_50 : decode cX6_trade 50 = .ok (.aload_n 0, 1) := by decide +kernel
theorem dX6_trade_51 : decode cX6_trade 51 = .ok (.getfield 28, 3) := by decide +kernel
theorem dX6_trade_54 : decode cX6_trade 54 = .ok (.iload_n 3, 1) := by decide +kernel
theorem dX6_trade_55 : decode cX6_trade 55 = .ok (.iload_n 1, 1) := by decide +kernel
theorem dX6_trade_56 : decode cX6_trade 56 = .ok (.iload_n 2, 1) := by decide +kernel
theorem dX6_trade_57 : decode cX6_trade 57 = .ok (.invokevirtual 204, 3) := by decide +kernel
theorem dX6_trade_60 : decode cX6_trade 60 = .ok (.aload_n 0, 1) := by decide +kernel
theorem dX6_trade_61 : decode cX6_trade 61 = .ok (.getfield 28, 3) := by decide +kernel
theorem dX6_trade_64 : decode cX6_trade 64 = .ok (.iload_n 3, 1) := by decide +kernel
theorem dX6_trade_65 : decode cX6_trade 65 = .ok (.iload_n 1, 1) := by decide +kernel
theorem dX6_trade_66 : decode cX6_trade 66 = .ok (.iload_n 1, 1) := by decide +kernel
theorem dX6_trade_67 : decode cX6_trade 67 = .ok (.invokevirtual 204, 3) := by decide +kernel
theorem dX6_trade_70 : decode cX6_trade 70 = .ok (.isub, 1) := by decide +kernel
theorem dX6_trade_71 : decode cX6_trade 71 = .ok (.bipush 100, 2) := by decide +kernel
theorem dX6_trade_73 : decode cX6_trade 73 = .ok (.iadd, 1) := by decide +kernel
theorem dX6_trade_74 : decode cX6_trade 74 = .ok (.ireturn, 1) := by decide +kernel
theorem dX6_toldBy_0 : decode cX6_toldBy 0 = .ok (.aload_n 0, 1) := by decide +kernel
theorem dX6_toldBy_1 : decode cX6_toldBy 1 = .ok (.iconst 0, 1) := by decide +kernel
theorem dX6_toldBy_2 : decode cX6_toldBy 2 = .ok (.putfield 61, 3) := by decide +kernel
theorem dX6_toldBy_5 : decode cX6_toldBy 5 = .ok (.aload_n 0, 1) := by decide +kernel
theorem dX6_toldBy_6 : decode cX6_toldBy 6 = .ok (.getfield 28, 3) := by decide +kernel
theorem dX6_toldBy_9 : decode cX6_toldBy 9 = .ok (.iload_n 1, 1) := by decide +kernel
theorem dX6_toldBy_10 : decode cX6_toldBy 10 = .ok (.invokevirtual 149, 3) := by decide +kernel
theorem dX6_toldBy_13 : decode cX6_toldBy 13 = .ok (.ifCond .eq 21, 3) := by decide +kernel
theorem dX6_toldBy_16 : decode cX6_toldBy 16 = .ok (.aload_n 0, 1) := by decide +kernel
theorem dX6_toldBy_17 : decode cX6_toldBy 17 = .ok (.getfield 28, 3) := by decide +kernel
theorem dX6_toldBy_20 : decode cX6_toldBy 20 = .ok (.iload_n 2, 1) := by decide +kernel
theorem dX6_toldBy_21 : decode cX6_toldBy 21 = .ok (.invokevirtual 132, 3) := by decide +kernel
theorem dX6_toldBy_24 : decode cX6_toldBy 24 = .ok (.ifCond .eq 10, 3) := by decide +kernel
theorem dX6_toldBy_27 : decode cX6_toldBy 27 = .ok (.iload_n 3, 1) := by decide +kernel
theorem dX6_toldBy_28 : decode cX6_toldBy 28 = .ok (.invokestatic 65, 3) := by decide +kernel
theorem dX6_toldBy_31 : decode cX6_toldBy 31 = .ok (.ifCond .ne 5, 3) := by decide +kernel
theorem dX6_toldBy_34 : decode cX6_toldBy 34 = .ok (.iconst (-1), 1) := by decide +kernel
theorem dX6_toldBy_35 : decode cX6_toldBy 35 = .ok (.ireturn, 1) := by decide +kernel
theorem dX6_toldBy_36 : decode cX6_toldBy 36 = .ok (.iload 4, 2) := by decide +kernel
theorem dX6_toldBy_38 : decode cX6_toldBy 38 = .ok (.invokestatic 69, 3) := by decide +kernel
theorem dX6_toldBy_41 : decode cX6_toldBy 41 = .ok (.ifCond .ne 6, 3) := by decide +kernel
theorem dX6_toldBy_44 : decode cX6_toldBy 44 = .ok (.bipush (-2), 2) := by decide +kernel
theorem dX6_toldBy_46 : decode cX6_toldBy 46 = .ok (.ireturn, 1) := by decide +kernel
theorem dX6_toldBy_47 : decode cX6_toldBy 47 = .ok (.aload_n 0, 1) := by decide +kernel
theorem dX6_toldBy_48 : decode cX6_toldBy 48 = .ok (.getfield 12, 3) := by decide +kernel
theorem dX6_toldBy_51 : decode cX6_toldBy 51 = .ok (.iload_n 3, 1) := by decide +kernel
theorem dX6_toldBy_52 : decode cX6_toldBy 52 = .ok (.iload 4, 2) := by decide +kernel
theorem dX6_toldBy_54 : decode cX6_toldBy 54 = .ok (.iload 5, 2) := by decide +kernel
theorem dX6_toldBy_56 : decode cX6_toldBy 56 = .ok (.aload_n 0, 1) := by decide +kernel
theorem dX6_toldBy_57 : decode cX6_toldBy 57 = .ok (.getfield 28, 3) := by decide +kernel
theorem dX6_toldBy_60 : decode cX6_toldBy 60 = .ok (.getfield 208, 3) := by decide +kernel
theorem dX6_toldBy_63 : decode cX6_toldBy 63 = .ok (.invokevirtual 72, 3) := by decide +kernel
theorem dX6_toldBy_66 : decode cX6_toldBy 66 = .ok (.istore 6, 2) := by decide +kernel
theorem dX6_toldBy_68 : decode cX6_toldBy 68 = .ok (.iload 6, 2) := by decide +kernel
theorem dX6_toldBy_70 : decode cX6_toldBy 70 = .ok (.ifCond .eq 10, 3) := by decide +kernel
theorem dX6_toldBy_73 : decode cX6_toldBy 73 = .ok (.aload_n 0, 1) := by decide +kernel
theorem dX6_toldBy_74 : decode cX6_toldBy 74 = .ok (.iload 6, 2) := by decide +kernel
theorem dX6_toldBy_76 : decode cX6_toldBy 76 = .ok (.invokevirtual 76, 3) := by decide +kernel
theorem dX6_toldBy_79 : decode cX6_toldBy 79 = .ok (.ireturn, 1) := by decide +kernel
theorem dX6_toldBy_80 : decode cX6_toldBy 80 = .ok (.aload_n 0, 1) := by decide +kernel
theorem dX6_toldBy_81 : decode cX6_toldBy 81 = .ok (.getfield 12, 3) := by decide +kernel
theorem dX6_toldBy_84 : decode cX6_toldBy 84 = .ok (.iload_n 3, 1) := by decide +kernel
theorem dX6_toldBy_85 : decode cX6_toldBy 85 = .ok (.iload 5, 2) := by decide +kernel
theorem dX6_toldBy_87 : decode cX6_toldBy 87 = .ok (.aload_n 0, 1) := by decide +kernel
theorem dX6_toldBy_88 : decode cX6_toldBy 88 = .ok (.getfield 28, 3) := by decide +kernel
theorem dX6_toldBy_91 : decode cX6_toldBy 91 = .ok (.getfield 208, 3) := by decide +kernel
theorem dX6_toldBy_94 : decode cX6_toldBy 94 = .ok (.aload_n 0, 1) := by decide +kernel
theorem dX6_toldBy_95 : decode cX6_toldBy 95 = .ok (.getfield 57, 3) := by decide +kernel
theorem dX6_toldBy_98 : decode cX6_toldBy 98 = .ok (.invokevirtual 86, 3) := by decide +kernel
theorem dX6_toldBy_101 : decode cX6_toldBy 101 = .ok (.aload_n 0, 1) := by decide +kernel
theorem dX6_toldBy_102 : decode cX6_toldBy 102 = .ok (.getfield 28, 3) := by decide +kernel
theorem dX6_toldBy_105 : decode cX6_toldBy 105 = .ok (.aload_n 0, 1) := by decide +kernel
theorem dX6_toldBy_106 : decode cX6_toldBy 106 = .ok (.getfield 57, 3) := by decide +kernel
theorem dX6_toldBy_109 : decode cX6_toldBy 109 = .ok (.invokevirtual 211, 3) := by decide +kernel
theorem dX6_toldBy_112 : decode cX6_toldBy 112 = .ok (.ifCond .ne 6, 3) := by decide +kernel
theorem dX6_toldBy_115 : decode cX6_toldBy 115 = .ok (.bipush (-2), 2) := by decide +kernel
theorem dX6_toldBy_117 : decode cX6_toldBy 117 = .ok (.ireturn, 1) := by decide +kernel
theorem dX6_toldBy_118 : decode cX6_toldBy 118 = .ok (.aload_n 0, 1) := by decide +kernel
theorem dX6_toldBy_119 : decode cX6_toldBy 119 = .ok (.iload_n 1, 1) := by decide +kernel
theorem dX6_toldBy_120 : decode cX6_toldBy 120 = .ok (.iload_n 2, 1) := by decide +kernel
theorem dX6_toldBy_121 : decode cX6_toldBy 121 = .ok (.invokevirtual 215, 3) := by decide +kernel
theorem dX6_toldBy_124 : decode cX6_toldBy 124 = .ok (.ireturn, 1) := by decide +kernel
theorem dX6_sheet_0 : decode cX6_sheet 0 = .ok (.aload_n 0, 1) := by decide +kernel
theorem dX6_sheet_1 : decode cX6_sheet 1 = .ok (.iconst 0, 1) := by decide +kernel
theorem dX6_sheet_2 : decode cX6_sheet 2 = .ok (.putfield 61, 3) := by decide +kernel
theorem dX6_sheet_5 : decode cX6_sheet 5 = .ok (.iload_n 1, 1) := by decide +kernel
theorem dX6_sheet_6 : decode cX6_sheet 6 = .ok (.invokestatic 65, 3) := by decide +kernel
theorem dX6_sheet_9 : decode cX6_sheet 9 = .ok (.ifCond .ne 5, 3) := by decide +kernel
theorem dX6_sheet_12 : decode cX6_sheet 12 = .ok (.iconst (-1), 1) := by decide +kernel
theorem dX6_sheet_13 : decode cX6_sheet 13 = .ok (.ireturn, 1) := by decide +kernel
theorem dX6_sheet_14 : decode cX6_sheet 14 = .ok (.iload_n 2, 1) := by decide +kernel
theorem dX6_sheet_15 : decode cX6_sheet 15 = .ok (.invokestatic 69, 3) := by decide +kernel
theorem dX6_sheet_18 : decode cX6_sheet 18 = .ok (.ifCond .eq 9, 3) := by decide +kernel
theorem dX6_sheet_21 : decode cX6_sheet 21 = .ok (.iload_n 3, 1) := by decide +kernel
theorem dX6_sheet_22 : decode cX6_sheet 22 = .ok (.bipush 60, 2) := by decide +kernel
theorem dX6_sheet_24 : decode cX6_sheet 24 = .ok (.if_icmp .le 6, 3) := by decide +kernel
theorem dX6_sheet_27 : decode cX6_sheet 27 = .ok (.bipush (-2), 2) := by decide +kernel
theorem dX6_sheet_29 : decode cX6_sheet 29 = .ok (.ireturn, 1) := by decide +kernel
theorem dX6_sheet_30 : decode cX6_sheet 30 = .ok (.iload_n 3, 1) := by decide +kernel
theorem dX6_sheet_31 : decode cX6_sheet 31 = .ok (.ifCond .ge 9, 3) := by decide +kernel
theorem dX6_sheet_34 : decode cX6_sheet 34 = .ok (.aload_n 0, 1) := by decide +kernel
theorem dX6_sheet_35 : decode cX6_sheet 35 = .ok (.iconst 4, 1) := by decide +kernel
theorem dX6_sheet_36 : decode cX6_sheet 36 = .ok (.invokevirtual 76, 3) := by decide +kernel
theorem dX6_sheet_39 : decode cX6_sheet 39 = .ok (.ireturn, 1) := by decide +kernel
theorem dX6_sheet_40 : decode cX6_sheet 40 = .ok (.aload_n 0, 1) := by decide +kernel
theorem dX6_sheet_41 : decode cX6_sheet 41 = .ok (.getfield 12, 3) := by decide +kernel
theorem dX6_sheet_44 : decode cX6_sheet 44 = .ok (.iload_n 1, 1) := by decide +kernel
theorem dX6_sheet_45 : decode cX6_sheet 45 = .ok (.iload_n 2, 1) := by decide +kernel
theorem dX6_sheet_46 : decode cX6_sheet 46 = .ok (.iload_n 3, 1) := by decide +kernel
theorem dX6_sheet_47 : decode cX6_sheet 47 = .ok (.invokevirtual 218, 3) := by decide +kernel
theorem dX6_sheet_50 : decode cX6_sheet 50 = .ok (.iconst 1, 1) := by decide +kernel
theorem dX6_sheet_51 : decode cX6_sheet 51 = .ok (.ireturn, 1) := by decide +kernel
theorem dX6_lose_0 : decode cX6_lose 0 = .ok (.iload_n 1, 1) := by decide +kernel
theorem dX6_lose_1 : decode cX6_lose 1 = .ok (.invokestatic 65, 3) := by decide +kernel
theorem dX6_lose_4 : decode cX6_lose 4 = .ok (.ifCond .ne 5, 3) := by decide +kernel
theorem dX6_lose_7 : decode cX6_lose 7 = .ok (.iconst (-1), 1) := by decide +kernel
theorem dX6_lose_8 : decode cX6_lose 8 = .ok (.ireturn, 1) := by decide +kernel
theorem dX6_lose_9 : decode cX6_lose 9 = .ok (.aload_n 0, 1) := by decide +kernel
theorem dX6_lose_10 : decode cX6_lose 10 = .ok (.getfield 12, 3) := by decide +kernel
theorem dX6_lose_13 : decode cX6_lose 13 = .ok (.iload_n 1, 1) := by decide +kernel
theorem dX6_lose_14 : decode cX6_lose 14 = .ok (.invokevirtual 222, 3) := by decide +kernel
theorem dX6_lose_17 : decode cX6_lose 17 = .ok (.ifCond .eq 7, 3) := by decide +kernel
theorem dX6_lose_20 : decode cX6_lose 20 = .ok (.iconst 1, 1) := by decide +kernel
theorem dX6_lose_21 : decode cX6_lose 21 = .ok (.goto 4, 3) := by decide +kernel
theorem dX6_lose_24 : decode cX6_lose 24 = .ok (.iconst 0, 1) := by decide +kernel
theorem dX6_lose_25 : decode cX6_lose 25 = .ok (.ireturn, 1) := by decide +kernel
theorem dX6_put_0 : decode cX6_put 0 = .ok (.aload_n 0, 1) := by decide +kernel
theorem dX6_put_1 : decode cX6_put 1 = .ok (.iconst 0, 1) := by decide +kernel
theorem dX6_put_2 : decode cX6_put 2 = .ok (.putfield 61, 3) := by decide +kernel
theorem dX6_put_5 : decode cX6_put 5 = .ok (.iload_n 1, 1) := by decide +kernel
theorem dX6_put_6 : decode cX6_put 6 = .ok (.invokestatic 65, 3) := by decide +kernel
theorem dX6_put_9 : decode cX6_put 9 = .ok (.ifCond .ne 5, 3) := by decide +kernel
theorem dX6_put_12 : decode cX6_put 12 = .ok (.iconst (-1), 1) := by decide +kernel
theorem dX6_put_13 : decode cX6_put 13 = .ok (.ireturn, 1) := by decide +kernel
theorem dX6_put_14 : decode cX6_put 14 = .ok (.aload_n 0, 1) := by decide +kernel
theorem dX6_put_15 : decode cX6_put 15 = .ok (.getfield 12, 3) := by decide +kernel
theorem dX6_put_18 : decode cX6_put 18 = .ok (.iload_n 1, 1) := by decide +kernel
theorem dX6_put_19 : decode cX6_put 19 = .ok (.invokevirtual 225, 3) := by decide +kernel
theorem dX6_put_22 : decode cX6_put 22 = .ok (.ifCond .ne 9, 3) := by decide +kernel
theorem dX6_put_25 : decode cX6_put 25 = .ok (.aload_n 0, 1) := by decide +kernel
theorem dX6_put_26 : decode cX6_put 26 = .ok (.iconst 1, 1) := by decide +kernel
theorem dX6_put_27 : decode cX6_put 27 = .ok (.invokevirtual 76, 3) := by decide +kernel
theorem dX6_put_30 : decode cX6_put 30 = .ok (.ireturn, 1) := by decide +kernel
theorem dX6_put_31 : decode cX6_put 31 = .ok (.aload_n 0, 1) := by decide +kernel
theorem dX6_put_32 : decode cX6_put 32 = .ok (.getfield 12, 3) := by decide +kernel
theorem dX6_put_35 : decode cX6_put 35 = .ok (.iload_n 1, 1) := by decide +kernel
theorem dX6_put_36 : decode cX6_put 36 = .ok (.iload_n 2, 1) := by decide +kernel
theorem dX6_put_37 : decode cX6_put 37 = .ok (.iconst 1, 1) := by decide +kernel
theorem dX6_put_38 : decode cX6_put 38 = .ok (.invokevirtual 228, 3) := by decide +kernel
theorem dX6_put_41 : decode cX6_put 41 = .ok (.ifCond .ne 9, 3) := by decide +kernel
theorem dX6_put_44 : decode cX6_put 44 = .ok (.aload_n 0, 1) := by decide +kernel
theorem dX6_put_45 : decode cX6_put 45 = .ok (.iconst 3, 1) := by decide +kernel
theorem dX6_put_46 : decode cX6_put 46 = .ok (.invokevirtual 76, 3) := by decide +kernel
theorem dX6_put_49 : decode cX6_put 49 = .ok (.ireturn, 1) := by decide +kernel
theorem dX6_put_50 : decode cX6_put 50 = .ok (.aload_n 0, 1) := by decide +kernel
theorem dX6_put_51 : decode cX6_put 51 = .ok (.getfield 12, 3) := by decide +kernel
theorem dX6_put_54 : decode cX6_put 54 = .ok (.iload_n 1, 1) := by decide +kernel
theorem dX6_put_55 : decode cX6_put 55 = .ok (.iload_n 2, 1) := by decide +kernel
theorem dX6_put_56 : decode cX6_put 56 = .ok (.iload_n 3, 1) := by decide +kernel
theorem dX6_put_57 : decode cX6_put 57 = .ok (.invokevirtual 232, 3) := by decide +kernel
theorem dX6_put_60 : decode cX6_put 60 = .ok (.iconst 1, 1) := by decide +kernel
theorem dX6_put_61 : decode cX6_put 61 = .ok (.ireturn, 1) := by decide +kernel
theorem dX6_cell_0 : decode cX6_cell 0 = .ok (.aload_n 0, 1) := by decide +kernel
theorem dX6_cell_1 : decode cX6_cell 1 = .ok (.iconst 0, 1) := by decide +kernel
theorem dX6_cell_2 : decode cX6_cell 2 = .ok (.putfield 61, 3) := by decide +kernel
theorem dX6_cell_5 : decode cX6_cell 5 = .ok (.iload_n 1, 1) := by decide +kernel
theorem dX6_cell_6 : decode cX6_cell 6 = .ok (.invokestatic 65, 3) := by decide +kernel
theorem dX6_cell_9 : decode cX6_cell 9 = .ok (.ifCond .eq 10, 3) := by decide +kernel
theorem dX6_cell_12 : decode cX6_cell 12 = .ok (.iload_n 3, 1) := by decide +kernel
theorem dX6_cell_13 : decode cX6_cell 13 = .ok (.invokestatic 69, 3) := by decide +kernel
theorem dX6_cell_16 : decode cX6_cell 16 = .ok (.ifCond .ne 7, 3) := by decide +kernel
theorem dX6_cell_19 : decode cX6_cell 19 = .ok (.ldc2_w 235, 3) := by decide +kernel
theorem dX6_cell_22 : decode cX6_cell 22 = .ok (.lreturn, 1) := by decide +kernel
theorem dX6_cell_23 : decode cX6_cell 23 = .ok (.aload_n 0, 1) := by decide +kernel
theorem dX6_cell_24 : decode cX6_cell 24 = .ok (.getfield 12, 3) := by decide +kernel
theorem dX6_cell_27 : decode cX6_cell 27 = .ok (.iload_n 1, 1) := by decide +kernel
theorem dX6_cell_28 : decode cX6_cell 28 = .ok (.iload_n 3, 1) := by decide +kernel
theorem dX6_cell_29 : decode cX6_cell 29 = .ok (.iload_n 2, 1) := by decide +kernel
theorem dX6_cell_30 : decode cX6_cell 30 = .ok (.iconst 1, 1) := by decide +kernel
theorem dX6_cell_31 : decode cX6_cell 31 = .ok (.invokevirtual 72, 3) := by decide +kernel
theorem dX6_cell_34 : decode cX6_cell 34 = .ok (.istore 4, 2) := by decide +kernel
theorem dX6_cell_36 : decode cX6_cell 36 = .ok (.iload 4, 2) := by decide +kernel
theorem dX6_cell_38 : decode cX6_cell 38 = .ok (.ifCond .eq 13, 3) := by decide +kernel
theorem dX6_cell_41 : decode cX6_cell 41 = .ok (.aload_n 0, 1) := by decide +kernel
theorem dX6_cell_42 : decode cX6_cell 42 = .ok (.iload 4, 2) := by decide +kernel
theorem dX6_cell_44 : decode cX6_cell 44 = .ok (.putfield 61, 3) := by decide +kernel
theorem dX6_cell_47 : decode cX6_cell 47 = .ok (.ldc2_w 235, 3) := by decide +kernel
theorem dX6_cell_50 : decode cX6_cell 50 = .ok (.lreturn, 1) := by decide +kernel
theorem dX6_cell_51 : decode cX6_cell 51 = .ok (.aload_n 0, 1) := by decide +kernel
theorem dX6_cell_52 : decode cX6_cell 52 = .ok (.getfield 12, 3) := by decide +kernel
theorem dX6_cell_55 : decode cX6_cell 55 = .ok (.iload_n 1, 1) := by decide +kernel
theorem dX6_cell_56 : decode cX6_cell 56 = .ok (.iload_n 2, 1) := by decide +kernel
theorem dX6_cell_57 : decode cX6_cell 57 = .ok (.invokevirtual 237, 3) := by decide +kernel
theorem dX6_cell_60 : decode cX6_cell 60 = .ok (.i2l, 1) := by decide +kernel
theorem dX6_cell_61 : decode cX6_cell 61 = .ok (.lreturn, 1) := by decide +kernel
theorem dX6_copy_0 : decode cX6_copy 0 = .ok (.aload_n 0, 1) := by decide +kernel
theorem dX6_copy_1 : decode cX6_copy 1 = .ok (.iconst 0, 1) := by decide +kernel
theorem dX6_copy_2 : decode cX6_copy 2 = .ok (.putfield 61, 3) := by decide +kernel
theorem dX6_copy_5 : decode cX6_copy 5 = .ok (.iload_n 1, 1) := by decide +kernel
theorem dX6_copy_6 : decode cX6_copy 6 = .ok (.invokestatic 65, 3) := by decide +kernel
theorem dX6_copy_9 : decode cX6_copy 9 = .ok (.ifCond .eq 10, 3) := by decide +kernel
theorem dX6_copy_12 : decode cX6_copy 12 = .ok (.iload_n 3, 1) := by decide +kernel
theorem dX6_copy_13 : decode cX6_copy 13 = .ok (.invokestatic 65, 3) := by decide +kernel
theorem dX6_copy_16 : decode cX6_copy 16 = .ok (.ifCond .ne 5, 3) := by decide +kernel
theorem dX6_copy_19 : decode cX6_copy 19 = .ok (.iconst (-1), 1) := by decide +kernel
theorem dX6_copy_20 : decode cX6_copy 20 = .ok (.ireturn, 1) := by decide +kernel
theorem dX6_copy_21 : decode cX6_copy 21 = .ok (.aload_n 0, 1) := by decide +kernel
theorem dX6_copy_22 : decode cX6_copy 22 = .ok (.getfield 12, 3) := by decide +kernel
theorem dX6_copy_25 : decode cX6_copy 25 = .ok (.iload_n 1, 1) := by decide +kernel
theorem dX6_copy_26 : decode cX6_copy 26 = .ok (.invokevirtual 225, 3) := by decide +kernel
theorem dX6_copy_29 : decode cX6_copy 29 = .ok (.ifCond .eq 14, 3) := by decide +kernel
theorem dX6_copy_32 : decode cX6_copy 32 = .ok (.aload_n 0, 1) := by decide +kernel
theorem dX6_copy_33 : decode cX6_copy 33 = .ok (.getfield 12, 3) := by decide +kernel
theorem dX6_copy_36 : decode cX6_copy 36 = .ok (.iload_n 3, 1) := by decide +kernel
theorem dX6_copy_37 : decode cX6_copy 37 = .ok (.invokevirtual 225, 3) := by decide +kernel
theorem dX6_copy_40 : decode cX6_copy 40 = .ok (.ifCond .ne 9, 3) := by decide +kernel
theorem dX6_copy_43 : decode cX6_copy 43 = .ok (.aload_n 0, 1) := by decide +kernel
theorem dX6_copy_44 : decode cX6_copy 44 = .ok (.iconst 1, 1) := by decide +kernel
theorem dX6_copy_45 : decode cX6_copy 45 = .ok (.invokevirtual 76, 3) := by decide +kernel
theorem dX6_copy_48 : decode cX6_copy 48 = .ok (.ireturn, 1) := by decide +kernel
theorem dX6_copy_49 : decode cX6_copy 49 = .ok (.aload_n 0, 1) := by decide +kernel
theorem dX6_copy_50 : decode cX6_copy 50 = .ok (.getfield 12, 3) := by decide +kernel
theorem dX6_copy_53 : decode cX6_copy 53 = .ok (.getfield 240, 3) := by decide +kernel
theorem dX6_copy_56 : decode cX6_copy 56 = .ok (.iload_n 1, 1) := by decide +kernel
theorem dX6_copy_57 : decode cX6_copy 57 = .ok (.iaload, 1) := by decide +kernel
theorem dX6_copy_58 : decode cX6_copy 58 = .ok (.aload_n 0, 1) := by decide +kernel
theorem dX6_copy_59 : decode cX6_copy 59 = .ok (.getfield 12, 3) := by decide +kernel
theorem dX6_copy_62 : decode cX6_copy 62 = .ok (.getfield 240, 3) := by decide +kernel
theorem dX6_copy_65 : decode cX6_copy 65 = .ok (.iload_n 3, 1) := by decide +kernel
theorem dX6_copy_66 : decode cX6_copy 66 = .ok (.iaload, 1) := by decide +kernel
theorem dX6_copy_67 : decode cX6_copy 67 = .ok (.if_icmp .eq 9, 3) := by decide +kernel
theorem dX6_copy_70 : decode cX6_copy 70 = .ok (.aload_n 0, 1) := by decide +kernel
theorem dX6_copy_71 : decode cX6_copy 71 = .ok (.iconst 2, 1) := by decide +kernel
theorem dX6_copy_72 : decode cX6_copy 72 = .ok (.invokevirtual 76, 3) := by decide +kernel
theorem dX6_copy_75 : decode cX6_copy 75 = .ok (.ireturn, 1) := by decide +kernel
theorem dX6_copy_76 : decode cX6_copy 76 = .ok (.aload_n 0, 1) := by decide +kernel
theorem dX6_copy_77 : decode cX6_copy 77 = .ok (.getfield 12, 3) := by decide +kernel
theorem dX6_copy_80 : decode cX6_copy 80 = .ok (.iload_n 1, 1) := by decide +kernel
theorem dX6_copy_81 : decode cX6_copy 81 = .ok (.iload_n 2, 1) := by decide +kernel
theorem dX6_copy_82 : decode cX6_copy 82 = .ok (.iload 5, 2) := by decide +kernel
theorem dX6_copy_84 : decode cX6_copy 84 = .ok (.invokevirtual 228, 3) := by decide +kernel
theorem dX6_copy_87 : decode cX6_copy 87 = .ok (.ifCond .eq 18, 3) := by decide +kernel
theorem dX6_copy_90 : decode cX6_copy 90 = .ok (.aload_n 0, 1) := by decide +kernel
theorem dX6_copy_91 : decode cX6_copy 91 = .ok (.getfield 12, 3) := by decide +kernel
theorem dX6_copy_94 : decode cX6_copy 94 = .ok (.iload_n 3, 1) := by decide +kernel
theorem dX6_copy_95 : decode cX6_copy 95 = .ok (.iload 4, 2) := by decide +kernel
theorem dX6_copy_97 : decode cX6_copy 97 = .ok (.iload 5, 2) := by decide +kernel
theorem dX6_copy_99 : decode cX6_copy 99 = .ok (.invokevirtual 228, 3) := by decide +kernel
theorem dX6_copy_102 : decode cX6_copy 102 = .ok (.ifCond .ne 9, 3) := by decide +kernel
theorem dX6_copy_105 : decode cX6_copy 105 = .ok (.aload_n 0, 1) := by decide +kernel
theorem dX6_copy_106 : decode cX6_copy 106 = .ok (.iconst 3, 1) := by decide +kernel
theorem dX6_copy_107 : decode cX6_copy 107 = .ok (.invokevirtual 76, 3) := by decide +kernel
theorem dX6_copy_110 : decode cX6_copy 110 = .ok (.ireturn, 1) := by decide +kernel
theorem dX6_copy_111 : decode cX6_copy 111 = .ok (.aload_n 0, 1) := by decide +kernel
theorem dX6_copy_112 : decode cX6_copy 112 = .ok (.getfield 12, 3) := by decide +kernel
theorem dX6_copy_115 : decode cX6_copy 115 = .ok (.iload_n 1, 1) := by decide +kernel
theorem dX6_copy_116 : decode cX6_copy 116 = .ok (.iload_n 2, 1) := by decide +kernel
theorem dX6_copy_117 : decode cX6_copy 117 = .ok (.iload_n 3, 1) := by decide +kernel
theorem dX6_copy_118 : decode cX6_copy 118 = .ok (.iload 4, 2) := by decide +kernel
theorem dX6_copy_120 : decode cX6_copy 120 = .ok (.iload 5, 2) := by decide +kernel
theorem dX6_copy_122 : decode cX6_copy 122 = .ok (.invokevirtual 243, 3) := by decide +kernel
theorem dX6_copy_125 : decode cX6_copy 125 = .ok (.iload 5, 2) := by decide +kernel
theorem dX6_copy_127 : decode cX6_copy 127 = .ok (.ireturn, 1) := by decide +kernel
theorem dX6_tell_0 : decode cX6_tell 0 = .ok (.aload_n 0, 1) := by decide +kernel
theorem dX6_tell_1 : decode cX6_tell 1 = .ok (.getfield 28, 3) := by decide +kernel
theorem dX6_tell_4 : decode cX6_tell 4 = .ok (.iload_n 1, 1) := by decide +kernel
theorem dX6_tell_5 : decode cX6_tell 5 = .ok (.invokevirtual 101, 3) := by decide +kernel
theorem dX6_tell_8 : decode cX6_tell 8 = .ok (.ifCond .ne 5, 3) := by decide +kernel
theorem dX6_tell_11 : decode cX6_tell 11 = .ok (.iconst (-1), 1) := by decide +kernel
theorem dX6_tell_12 : decode cX6_tell 12 = .ok (.ireturn, 1) := by decide +kernel
theorem dX6_tell_13 : decode cX6_tell 13 = .ok (.aload_n 0, 1) := by decide +kernel
theorem dX6_tell_14 : decode cX6_tell 14 = .ok (.getfield 28, 3) := by decide +kernel
theorem dX6_tell_17 : decode cX6_tell 17 = .ok (.getfield 104, 3) := by decide +kernel
theorem dX6_tell_20 : decode cX6_tell 20 = .ok (.iload_n 1, 1) := by decide +kernel
theorem dX6_tell_21 : decode cX6_tell 21 = .ok (.iaload, 1) := by decide +kernel
theorem dX6_tell_22 : decode cX6_tell 22 = .ok (.lookupswitch 38 #[(1, 26), (2, 32)], 26) := by decide +kernel
theorem dX6_tell_48 : decode cX6_tell 48 = .ok (.aload_n 0, 1) := by decide +kernel
theorem dX6_tell_49 : decode cX6_tell 49 = .ok (.iload_n 1, 1) := by decide +kernel
theorem dX6_tell_50 : decode cX6_tell 50 = .ok (.invokevirtual 247, 3) := by decide +kernel
theorem dX6_tell_53 : decode cX6_tell 53 = .ok (.ireturn, 1) := by decide +kernel
theorem dX6_tell_54 : decode cX6_tell 54 = .ok (.aload_n 0, 1) := by decide +kernel
theorem dX6_tell_55 : decode cX6_tell 55 = .ok (.iload_n 1, 1) := by decide +kernel
theorem dX6_tell_56 : decode cX6_tell 56 = .ok (.invokevirtual 250, 3) := by decide +kernel
theorem dX6_tell_59 : decode cX6_tell 59 = .ok (.ireturn, 1) := by decide +kernel
theorem dX6_tell_60 : decode cX6_tell 60 = .ok (.aload_n 0, 1) := by decide +kernel
theorem dX6_tell_61 : decode cX6_tell 61 = .ok (.iload_n 1, 1) := by decide +kernel
theorem dX6_tell_62 : decode cX6_tell 62 = .ok (.invokevirtual 253, 3) := by decide +kernel
theorem dX6_tell_65 : decode cX6_tell 65 = .ok (.ireturn, 1) := by decide +kernel
theorem dX6_swear_0 : decode cX6_swear 0 = .ok (.aload_n 0, 1) := by decide +kernel
theorem dX6_swear_1 : decode cX6_swear 1 = .ok (.getfield 28, 3) := by decide +kernel
theorem dX6_swear_4 : decode cX6_swear 4 = .ok (.iload_n 1, 1) := by decide +kernel
theorem dX6_swear_5 : decode cX6_swear 5 = .ok (.invokevirtual 101, 3) := by decide +kernel
theorem dX6_swear_8 : decode cX6_swear 8 = .ok (.ifCond .ne 5, 3) := by decide +kernel
theorem dX6_swear_11 : decode cX6_swear 11 = .ok (.iconst (-1), 1) := by decide +kernel
theorem dX6_swear_12 : decode cX6_swear 12 = .ok (.ireturn, 1) := by decide +kernel
theorem dX6_swear_13 : decode cX6_swear 13 = .ok (.aload_n 0, 1) := by decide +kernel
theorem dX6_swear_14 : decode cX6_swear 14 = .ok (.getfield 28, 3) := by decide +kernel
theorem dX6_swear_17 : decode cX6_swear 17 = .ok (.getfield 104, 3) := by decide +kernel
theorem dX6_swear_20 : decode cX6_swear 20 = .ok (.iload_n 1, 1) := by decide +kernel
theorem dX6_swear_21 : decode cX6_swear 21 = .ok (.iaload, 1) := by decide +kernel
theorem dX6_swear_22 : decode cX6_swear 22 = .ok (.iconst 2, 1) := by decide +kernel
theorem dX6_swear_23 : decode cX6_swear 23 = .ok (.if_icmp .ne 11, 3) := by decide +kernel
theorem dX6_swear_26 : decode cX6_swear 26 = .ok (.aload_n 0, 1) := by decide +kernel
theorem dX6_swear_27 : decode cX6_swear 27 = .ok (.iconst 5, 1) := by decide +kernel
theorem dX6_swear_28 : decode cX6_swear 28 = .ok (.invokevirtual 256, 3) := by decide +kernel
theorem dX6_swear_31 : decode cX6_swear 31 = .ok (.bipush 30, 2) := by decide +kernel
theorem dX6_swear_33 : decode cX6_swear 33 = .ok (.ireturn, 1) := by decide +kernel
theorem dX6_swear_34 : decode cX6_swear 34 = .ok (.aload_n 0, 1) := by decide +kernel
theorem dX6_swear_35 : decode cX6_swear 35 = .ok (.iconst 4, 1) := by decide +kernel
theorem dX6_swear_36 : decode cX6_swear 36 = .ok (.invokevirtual 256, 3) := by decide +kernel
theorem dX6_swear_39 : decode cX6_swear 39 = .ok (.iload_n 1, 1) := by decide +kernel
theorem dX6_swear_40 : decode cX6_swear 40 = .ok (.ireturn, 1) := by decide +kernel
theorem dX6_as_0 : decode cX6_as 0 = .ok (.aload_n 0, 1) := by decide +kernel
theorem dX6_as_1 : decode cX6_as 1 = .ok (.iconst 0, 1) := by decide +kernel
theorem dX6_as_2 : decode cX6_as 2 = .ok (.putfield 61, 3) := by decide +kernel
theorem dX6_as_5 : decode cX6_as 5 = .ok (.aload_n 0, 1) := by decide +kernel
theorem dX6_as_6 : decode cX6_as 6 = .ok (.getfield 28, 3) := by decide +kernel
theorem dX6_as_9 : decode cX6_as 9 = .ok (.iload_n 1, 1) := by decide +kernel
theorem dX6_as_10 : decode cX6_as 10 = .ok (.invokevirtual 101, 3) := by decide +kernel
theorem dX6_as_13 : decode cX6_as 13 = .ok (.ifCond .ne 5, 3) := by decide +kernel
theorem dX6_as_16 : decode cX6_as 16 = .ok (.iconst (-1), 1) := by decide +kernel
theorem dX6_as_17 : decode cX6_as 17 = .ok (.ireturn, 1) := by decide +kernel
theorem dX6_as_18 : decode cX6_as 18 = .ok (.iload_n 2, 1) := by decide +kernel
theorem dX6_as_19 : decode cX6_as 19 = .ok (.ifCond .lt 8, 3) := by decide +kernel
theorem dX6_as_22 : decode cX6_as 22 = .ok (.iload_n 2, 1) := by decide +kernel
theorem dX6_as_23 : decode cX6_as 23 = .ok (.iconst 2, 1) := by decide +kernel
theorem dX6_as_24 : decode cX6_as 24 = .ok (.if_icmp .le 6, 3) := by decide +kernel
theorem dX6_as_27 : decode cX6_as 27 = .ok (.bipush (-2), 2) := by decide +kernel
theorem dX6_as_29 : decode cX6_as 29 = .ok (.ireturn, 1) := by decide +kernel
theorem dX6_as_30 : decode cX6_as 30 = .ok (.iload_n 2, 1) := by decide +kernel
theorem dX6_as_31 : decode cX6_as 31 = .ok (.aload_n 0, 1) := by decide +kernel
theorem dX6_as_32 : decode cX6_as 32 = .ok (.getfield 28, 3) := by decide +kernel
theorem dX6_as_35 : decode cX6_as 35 = .ok (.getfield 104, 3) := by decide +kernel
theorem dX6_as_38 : decode cX6_as 38 = .ok (.iload_n 1, 1) := by decide +kernel
theorem dX6_as_39 : decode cX6_as 39 = .ok (.iaload, 1) := by decide +kernel
theorem dX6_as_40 : decode cX6_as 40 = .ok (.if_icmp .le 9, 3) := by decide +kernel
theorem dX6_as_43 : decode cX6_as 43 = .ok (.aload_n 0, 1) := by decide +kernel
theorem dX6_as_44 : decode cX6_as 44 = .ok (.iconst 2, 1) := by decide +kernel
theorem dX6_as_45 : decode cX6_as 45 = .ok (.invokevirtual 76, 3) := by decide +kernel
theorem dX6_as_48 : decode cX6_as 48 = .ok (.ireturn, 1) := by decide +kernel
theorem dX6_as_49 : decode cX6_as 49 = .ok (.iconst 1, 1) := by decide +kernel
theorem dX6_as_50 : decode cX6_as 50 = .ok (.ireturn, 1) := by decide +kernel
theorem dX6_trace_0 : decode cX6_trace 0 = .ok (.aload_n 0, 1) := by decide +kernel
theorem dX6_trace_1 : decode cX6_trace 1 = .ok (.getfield 259, 3) := by decide +kernel
theorem dX6_trace_4 : decode cX6_trace 4 = .ok (.ireturn, 1) := by decide +kernel
theorem dX6_fault_0 : decode cX6_fault 0 = .ok (.aload_n 0, 1) := by decide +kernel
theorem dX6_fault_1 : decode cX6_fault 1 = .ok (.getfield 61, 3) := by decide +kernel
theorem dX6_fault_4 : decode cX6_fault 4 = .ok (.ireturn, 1) := by decide +kernel
theorem dX6_many_0 : decode cX6_many 0 = .ok (.iload_n 1, 1) := by decide +kernel
theorem dX6_many_1 : decode cX6_many 1 = .ok (.tableswitch 63 0 3 #[31, 39, 47, 55], 31) := by decide +kernel
theorem dX6_many_32 : decode cX6_many 32 = .ok (.aload_n 0, 1) := by decide +kernel
theorem dX6_many_33 : decode cX6_many 33 = .ok (.getfield 28, 3) := by decide +kernel
theorem dX6_many_36 : decode cX6_many 36 = .ok (.getfield 208, 3) := by decide +kernel
theorem dX6_many_39 : decode cX6_many 39 = .ok (.ireturn, 1) := by decide +kernel
theorem dX6_many_40 : decode cX6_many 40 = .ok (.aload_n 0, 1) := by decide +kernel
theorem dX6_many_41 : decode cX6_many 41 = .ok (.getfield 28, 3) := by decide +kernel
theorem dX6_many_44 : decode cX6_many 44 = .ok (.getfield 98, 3) := by decide +kernel
theorem dX6_many_47 : decode cX6_many 47 = .ok (.ireturn, 1) := by decide +kernel
theorem dX6_many_48 : decode cX6_many 48 = .ok (.aload_n 0, 1) := by decide +kernel
theorem dX6_many_49 : decode cX6_many 49 = .ok (.getfield 28, 3) := by decide +kernel
theorem dX6_many_52 : decode cX6_many 52 = .ok (.getfield 138, 3) := by decide +kernel
theorem dX6_many_55 : decode cX6_many 55 = .ok (.ireturn, 1) := by decide +kernel
theorem dX6_many_56 : decode cX6_many 56 = .ok (.aload_n 0, 1) := by decide +kernel
theorem dX6_many_57 : decode cX6_many 57 = .ok (.getfield 28, 3) := by decide +kernel
theorem dX6_many_60 : decode cX6_many 60 = .ok (.getfield 129, 3) := by decide +kernel
theorem dX6_many_63 : decode cX6_many 63 = .ok (.ireturn, 1) := by decide +kernel
theorem dX6_many_64 : decode cX6_many 64 = .ok (.bipush (-2), 2) := by decide +kernel
theorem dX6_many_66 : decode cX6_many 66 = .ok (.ireturn, 1) := by decide +kernel
theorem dX6_isSheet_0 : decode cX6_isSheet 0 = .ok (.iload_n 0, 1) := by decide +kernel
theorem dX6_isSheet_1 : decode cX6_isSheet 1 = .ok (.ifCond .lt 12, 3) := by decide +kernel
theorem dX6_isSheet_4 : decode cX6_isSheet 4 = .ok (.iload_n 0, 1) := by decide +kernel
theorem dX6_isSheet_5 : decode cX6_isSheet 5 = .ok (.iconst 4, 1) := by decide +kernel
theorem dX6_isSheet_6 : decode cX6_isSheet 6 = .ok (.if_icmp .ge 7, 3) := by decide +kernel
theorem dX6_isSheet_9 : decode cX6_isSheet 9 = .ok (.iconst 1, 1) := by decide +kernel
theorem dX6_isSheet_10 : decode cX6_isSheet 10 = .ok (.goto 4, 3) := by decide +kernel
theorem dX6_isSheet_13 : decode cX6_isSheet 13 = .ok (.iconst 0, 1) := by decide +kernel
theorem dX6_isSheet_14 : decode cX6_isSheet 14 = .ok (.ireturn, 1) := by decide +kernel
theorem dX6_isSort_0 : decode cX6_isSort 0 = .ok (.iload_n 0, 1) := by decide +kernel
theorem dX6_isSort_1 : decode cX6_isSort 1 = .ok (.ifCond .lt 12, 3) := by decide +kernel
theorem dX6_isSort_4 : decode cX6_isSort 4 = .ok (.iload_n 0, 1) := by decide +kernel
theorem dX6_isSort_5 : decode cX6_isSort 5 = .ok (.iconst 2, 1) := by decide +kernel
theorem dX6_isSort_6 : decode cX6_isSort 6 = .ok (.if_icmp .gt 7, 3) := by decide +kernel
theorem dX6_isSort_9 : decode cX6_isSort 9 = .ok (.iconst 1, 1) := by decide +kernel
theorem dX6_isSort_10 : decode cX6_isSort 10 = .ok (.goto 4, 3) := by decide +kernel
theorem dX6_isSort_13 : decode cX6_isSort 13 = .ok (.iconst 0, 1) := by decide +kernel
theorem dX6_isSort_14 : decode cX6_isSort 14 = .ok (.ireturn, 1) := by decide +kernel
theorem dX6_faulty_0 : decode cX6_faulty 0 = .ok (.aload_n 0, 1) := by decide +kernel
theorem dX6_faulty_1 : decode cX6_faulty 1 = .ok (.iload_n 1, 1) := by decide +kernel
theorem dX6_faulty_2 : decode cX6_faulty 2 = .ok (.putfield 61, 3) := by decide +kernel
theorem dX6_faulty_5 : decode cX6_faulty 5 = .ok (.bipush (-10), 2) := by decide +kernel
theorem dX6_faulty_7 : decode cX6_faulty 7 = .ok (.iload_n 1, 1) := by decide +kernel
theorem dX6_faulty_8 : decode cX6_faulty 8 = .ok (.isub, 1) := by decide +kernel
theorem dX6_faulty_9 : decode cX6_faulty 9 = .ok (.ireturn, 1) := by decide +kernel
theorem dX6_bestReply_0 : decode cX6_bestReply 0 = .ok (.aload_n 0, 1) := by decide +kernel
theorem dX6_bestReply_1 : decode cX6_bestReply 1 = .ok (.getfield 28, 3) := by decide +kernel
theorem dX6_bestReply_4 : decode cX6_bestReply 4 = .ok (.iload_n 1, 1) := by decide +kernel
theorem dX6_bestReply_5 : decode cX6_bestReply 5 = .ok (.invokevirtual 132, 3) := by decide +kernel
theorem dX6_bestReply_8 : decode cX6_bestReply 8 = .ok (.ifCond .ne 5, 3) := by decide +kernel
theorem dX6_bestReply_11 : decode cX6_bestReply 11 = .ok (.iconst (-1), 1) := by decide +kernel
theorem dX6_bestReply_12 : decode cX6_bestReply 12 = .ok (.ireturn, 1) := by decide +kernel
theorem dX6_bestReply_13 : decode cX6_bestReply 13 = .ok (.iload_n 2, 1) := by decide +kernel
theorem dX6_bestReply_14 : decode cX6_bestReply 14 = .ok (.ifCond .lt 8, 3) := by decide +kernel
theorem dX6_bestReply_17 : decode cX6_bestReply 17 = .ok (.iload_n 2, 1) := by decide +kernel
theorem dX6_bestReply_18 : decode cX6_bestReply 18 = .ok (.iconst 1, 1) := by decide +kernel
theorem dX6_bestReply_19 : decode cX6_bestReply 19 = .ok (.if_icmp .le 6, 3) := by decide +kernel
theorem dX6_bestReply_22 : decode cX6_bestReply 22 = .ok (.bipush (-2), 2) := by decide +kernel
theorem dX6_bestReply_24 : decode cX6_bestReply 24 = .ok (.ireturn, 1) := by decide +kernel
theorem dX6_bestReply_25 : decode cX6_bestReply 25 = .ok (.aload_n 0, 1) := by decide +kernel
theorem dX6_bestReply_26 : decode cX6_bestReply 26 = .ok (.getfield 28, 3) := by decide +kernel
theorem dX6_bestReply_29 : decode cX6_bestReply 29 = .ok (.aload_n 0, 1) := by decide +kernel
theorem dX6_bestReply_30 : decode cX6_bestReply 30 = .ok (.getfield 35, 3) := by decide +kernel
theorem dX6_bestReply_33 : decode cX6_bestReply 33 = .ok (.invokevirtual 141, 3) := by decide +kernel
theorem dX6_bestReply_36 : decode cX6_bestReply 36 = .ok (.bipush (-9), 2) := by decide +kernel
theorem dX6_bestReply_38 : decode cX6_bestReply 38 = .ok (.istore 4, 2) := by decide +kernel
theorem dX6_bestReply_40 : decode cX6_bestReply 40 = .ok (.iconst 0, 1) := by decide +kernel
theorem dX6_bestReply_41 : decode cX6_bestReply 41 = .ok (.istore 5, 2) := by decide +kernel
theorem dX6_bestReply_43 : decode cX6_bestReply 43 = .ok (.iload 5, 2) := by decide +kernel
theorem dX6_bestReply_45 : decode cX6_bestReply 45 = .ok (.aload_n 0, 1) := by decide +kernel
theorem dX6_bestReply_46 : decode cX6_bestReply 46 = .ok (.getfield 28, 3) := by decide +kernel
theorem dX6_bestReply_49 : decode cX6_bestReply 49 = .ok (.getfield 98, 3) := by decide +kernel
theorem dX6_bestReply_52 : decode cX6_bestReply 52 = .ok (.if_icmp .ge 49, 3) := by decide +kernel
theorem dX6_bestReply_55 : decode cX6_bestReply 55 = .ok (.aload_n 0, 1) := by decide +kernel
theorem dX6_bestReply_56 : decode cX6_bestReply 56 = .ok (.getfield 28, 3) := by decide +kernel
theorem dX6_bestReply_59 : decode cX6_bestReply 59 = .ok (.iload_n 1, 1) := by decide +kernel
theorem dX6_bestReply_60 : decode cX6_bestReply 60 = .ok (.iload 5, 2) := by decide +kernel
theorem dX6_bestReply_62 : decode cX6_bestReply 62 = .ok (.iload_n 3, 1) := by decide +kernel
theorem dX6_bestReply_63 : decode cX6_bestReply 63 = .ok (.invokevirtual 262, 3) := by decide +kernel
theorem dX6_bestReply_66 : decode cX6_bestReply 66 = .ok (.ifCond .ne 6, 3) := by decide +kernel
theorem dX6_bestReply_69 : decode cX6_bestReply 69 = .ok (.goto 26, 3) := by decide +kernel
theorem dX6_bestReply_72 : decode cX6_bestReply 72 = .ok (.iload 4, 2) := by decide +kernel
theorem dX6_bestReply_74 : decode cX6_bestReply 74 = .ok (.bipush (-9), 2) := by decide +kernel
theorem dX6_bestReply_76 : decode cX6_bestReply 76 = .ok (.if_icmp .eq 15, 3) := by decide +kernel
theorem dX6_bestReply_79 : decode cX6_bestReply 79 = .ok (.aload_n 0, 1) := by decide +kernel
theorem dX6_bestReply_80 : decode cX6_bestReply 80 = .ok (.iload_n 1, 1) := by decide +kernel
theorem dX6_bestReply_81 : decode cX6_bestReply 81 = .ok (.iload 5, 2) := by decide +kernel
theorem dX6_bestReply_83 : decode cX6_bestReply 83 = .ok (.iload 4, 2) := by decide +kernel
theorem dX6_bestReply_85 : decode cX6_bestReply 85 = .ok (.invokevirtual 266, 3) := by decide +kernel
theorem dX6_bestReply_88 : decode cX6_bestReply 88 = .ok (.ifCond .eq 7, 3) := by decide +kernel
theorem dX6_bestReply_91 : decode cX6_bestReply 91 = .ok (.iload 5, 2) := by decide +kernel
theorem dX6_bestReply_93 : decode cX6_bestReply 93 = .ok (.istore 4, 2) := by decide +kernel
theorem dX6_bestReply_95 : decode cX6_bestReply 95 = .ok (.iinc 5 1, 3) := by decide +kernel
theorem dX6_bestReply_98 : decode cX6_bestReply 98 = .ok (.goto (-55), 3) := by decide +kernel
theorem dX6_bestReply_101 : decode cX6_bestReply 101 = .ok (.iload_n 2, 1) := by decide +kernel
theorem dX6_bestReply_102 : decode cX6_bestReply 102 = .ok (.ifCond .eq 10, 3) := by decide +kernel
theorem dX6_bestReply_105 : decode cX6_bestReply 105 = .ok (.iload 4, 2) := by decide +kernel
theorem dX6_bestReply_107 : decode cX6_bestReply 107 = .ok (.bipush (-9), 2) := by decide +kernel
theorem dX6_bestReply_109 : decode cX6_bestReply 109 = .ok (.if_icmp .ne 6, 3) := by decide +kernel
theorem dX6_bestReply_112 : decode cX6_bestReply 112 = .ok (.iload 4, 2) := by decide +kernel
theorem dX6_bestReply_114 : decode cX6_bestReply 114 = .ok (.ireturn, 1) := by decide +kernel
theorem dX6_bestReply_115 : decode cX6_bestReply 115 = .ok (.aload_n 0, 1) := by decide +kernel
theorem dX6_bestReply_116 : decode cX6_bestReply 116 = .ok (.getfield 35, 3) := by decide +kernel
theorem dX6_bestReply_119 : decode cX6_bestReply 119 = .ok (.iload_n 1, 1) := by decide +kernel
theorem dX6_bestReply_120 : decode cX6_bestReply 120 = .ok (.aload_n 0, 1) := by decide +kernel
theorem dX6_bestReply_121 : decode cX6_bestReply 121 = .ok (.getfield 28, 3) := by decide +kernel
theorem dX6_bestReply_124 : decode cX6_bestReply 124 = .ok (.iload 4, 2) := by decide +kernel
theorem dX6_bestReply_126 : decode cX6_bestReply 126 = .ok (.invokevirtual 122, 3) := by decide +kernel
theorem dX6_bestReply_129 : decode cX6_bestReply 129 = .ok (.invokevirtual 172, 3) := by decide +kernel
theorem dX6_bestReply_132 : decode cX6_bestReply 132 = .ok (.ireturn, 1) := by decide +kernel
theorem dX6_isBetterReply_0 : decode cX6_isBetterReply 0 = .ok (.aload_n 0, 1) := by decide +kernel
theorem dX6_isBetterReply_1 : decode cX6_isBetterReply 1 = .ok (.getfield 28, 3) := by decide +kernel
theorem dX6_isBetterReply_4 : decode cX6_isBetterReply 4 = .ok (.iload_n 2, 1) := by decide +kernel
theorem dX6_isBetterReply_5 : decode cX6_isBetterReply 5 = .ok (.invokevirtual 122, 3) := by decide +kernel
theorem dX6_isBetterReply_8 : decode cX6_isBetterReply 8 = .ok (.istore 4, 2) := by decide +kernel
theorem dX6_isBetterReply_10 : decode cX6_isBetterReply 10 = .ok (.aload_n 0, 1) := by decide +kernel
theorem dX6_isBetterReply_11 : decode cX6_isBetterReply 11 = .ok (.getfield 28, 3) := by decide +kernel
theorem dX6_isBetterReply_14 : decode cX6_isBetterReply 14 = .ok (.iload_n 3, 1) := by decide +kernel
theorem dX6_isBetterReply_15 : decode cX6_isBetterReply 15 = .ok (.invokevirtual 122, 3) := by decide +kernel
theorem dX6_isBetterReply_18 : decode cX6_isBetterReply 18 = .ok (.istore 5, 2) := by decide +kernel
theorem dX6_isBetterReply_20 : decode cX6_isBetterReply 20 = .ok (.aload_n 0, 1) := by decide +kernel
theorem dX6_isBetterReply_21 : decode cX6_isBetterReply 21 = .ok (.getfield 35, 3) := by decide +kernel
theorem dX6_isBetterReply_24 : decode cX6_isBetterReply 24 = .ok (.iload_n 1, 1) := by decide +kernel
theorem dX6_isBetterReply_25 : decode cX6_isBetterReply 25 = .ok (.iload 4, 2) := by decide +kernel
theorem dX6_isBetterReply_27 : decode cX6_isBetterReply 27 = .ok (.invokevirtual 172, 3) := by decide +kernel
theorem dX6_isBetterReply_30 : decode cX6_isBetterReply 30 = .ok (.istore 6, 2) := by decide +kernel
theorem dX6_isBetterReply_32 : decode cX6_isBetterReply 32 = .ok (.aload_n 0, 1) := by decide +kernel
theorem dX6_isBetterReply_33 : decode cX6_isBetterReply 33 = .ok (.getfield 35, 3) := by decide +kernel
theorem dX6_isBetterReply_36 : decode cX6_isBetterReply 36 = .ok (.iload_n 1, 1) := by decide +kernel
theorem dX6_isBetterReply_37 : decode cX6_isBetterReply 37 = .ok (.iload 5, 2) := by decide +kernel
theorem dX6_isBetterReply_39 : decode cX6_isBetterReply 39 = .ok (.invokevirtual 172, 3) := by decide +kernel
theorem dX6_isBetterReply_42 : decode cX6_isBetterReply 42 = .ok (.istore 7, 2) := by decide +kernel
theorem dX6_isBetterReply_44 : decode cX6_isBetterReply 44 = .ok (.iload 6, 2) := by decide +kernel
theorem dX6_isBetterReply_46 : decode cX6_isBetterReply 46 = .ok (.iload 7, 2) := by decide +kernel
theorem dX6_isBetterReply_48 : decode cX6_isBetterReply 48 = .ok (.if_icmp .lt 17, 3) := by decide +kernel
theorem dX6_isBetterReply_51 : decode cX6_isBetterReply 51 = .ok (.iload 6, 2) := by decide +kernel
theorem dX6_isBetterReply_53 : decode cX6_isBetterReply 53 = .ok (.iload 7, 2) := by decide +kernel
theorem dX6_isBetterReply_55 : decode cX6_isBetterReply 55 = .ok (.if_icmp .ne 14, 3) := by decide +kernel
theorem dX6_isBetterReply_58 : decode cX6_isBetterReply 58 = .ok (.iload 4, 2) := by decide +kernel
theorem dX6_isBetterReply_60 : decode cX6_isBetterReply 60 = .ok (.iload 5, 2) := by decide +kernel
theorem dX6_isBetterReply_62 : decode cX6_isBetterReply 62 = .ok (.if_icmp .ge 7, 3) := by decide +kernel
theorem dX6_isBetterReply_65 : decode cX6_isBetterReply 65 = .ok (.iconst 1, 1) := by decide +kernel
theorem dX6_isBetterReply_66 : decode cX6_isBetterReply 66 = .ok (.goto 4, 3) := by decide +kernel
theorem dX6_isBetterReply_69 : decode cX6_isBetterReply 69 = .ok (.iconst 0, 1) := by decide +kernel
theorem dX6_isBetterReply_70 : decode cX6_isBetterReply 70 = .ok (.ireturn, 1) := by decide +kernel
theorem dX6_canHaveTold_0 : decode cX6_canHaveTold 0 = .ok (.aload_n 0, 1) := by decide +kernel
theorem dX6_canHaveTold_1 : decode cX6_canHaveTold 1 = .ok (.getfield 28, 3) := by decide +kernel
theorem dX6_canHaveTold_4 : decode cX6_canHaveTold 4 = .ok (.iload_n 1, 1) := by decide +kernel
theorem dX6_canHaveTold_5 : decode cX6_canHaveTold 5 = .ok (.aload_n 0, 1) := by decide +kernel
theorem dX6_canHaveTold_6 : decode cX6_canHaveTold 6 = .ok (.getfield 35, 3) := by decide +kernel
theorem dX6_canHaveTold_9 : decode cX6_canHaveTold 9 = .ok (.invokevirtual 269, 3) := by decide +kernel
theorem dX6_canHaveTold_12 : decode cX6_canHaveTold 12 = .ok (.iconst 0, 1) := by decide +kernel
theorem dX6_canHaveTold_13 : decode cX6_canHaveTold 13 = .ok (.istore_n 3, 1) := by decide +kernel
theorem dX6_canHaveTold_14 : decode cX6_canHaveTold 14 = .ok (.iconst 0, 1) := by decide +kernel
theorem dX6_canHaveTold_15 : decode cX6_canHaveTold 15 = .ok (.istore 4, 2) := by decide +kernel
theorem dX6_canHaveTold_17 : decode cX6_canHaveTold 17 = .ok (.iload 4, 2) := by decide +kernel
theorem dX6_canHaveTold_19 : decode cX6_canHaveTold 19 = .ok (.aload_n 0, 1) := by decide +kernel
theorem dX6_canHaveTold_20 : decode cX6_canHaveTold 20 = .ok (.getfield 28, 3) := by decide +kernel
theorem dX6_canHaveTold_23 : decode cX6_canHaveTold 23 = .ok (.getfield 98, 3) := by decide +kernel
theorem dX6_canHaveTold_26 : decode cX6_canHaveTold 26 = .ok (.if_icmp .ge 75, 3) := by decide +kernel
theorem dX6_canHaveTold_29 : decode cX6_canHaveTold 29 = .ok (.aload_n 0, 1) := by decide +kernel
theorem dX6_canHaveTold_30 : decode cX6_canHaveTold 30 = .ok (.getfield 28, 3) := by decide +kernel
theorem dX6_canHaveTold_33 : decode cX6_canHaveTold 33 = .ok (.getfield 107, 3) := by decide +kernel
theorem dX6_canHaveTold_36 : decode cX6_canHaveTold 36 = .ok (.iload 4, 2) := by decide +kernel
theorem dX6_canHaveTold_38 : decode cX6_canHaveTold 38 = .ok (.iaload, 1) := by decide +kernel
theorem dX6_canHaveTold_39 : decode cX6_canHaveTold 39 = .ok (.iload_n 2, 1) := by decide +kernel
theorem dX6_canHaveTold_40 : decode cX6_canHaveTold 40 = .ok (.if_icmp .eq 6, 3) := by decide +kernel
theorem dX6_canHaveTold_43 : decode cX6_canHaveTold 43 = .ok (.goto 52, 3) := by decide +kernel
theorem dX6_canHaveTold_46 : decode cX6_canHaveTold 46 = .ok (.aload_n 0, 1) := by decide +kernel
theorem dX6_canHaveTold_47 : decode cX6_canHaveTold 47 = .ok (.getfield 35, 3) := by decide +kernel
theorem dX6_canHaveTold_50 : decode cX6_canHaveTold 50 = .ok (.getfield 169, 3) := by decide +kernel
theorem dX6_canHaveTold_53 : decode cX6_canHaveTold 53 = .ok (.iload_n 2, 1) := by decide +kernel
theorem dX6_canHaveTold_54 : decode cX6_canHaveTold 54 = .ok (.aload_n 0, 1) := by decide +kernel
theorem dX6_canHaveTold_55 : decode cX6_canHaveTold 55 = .ok (.getfield 28, 3) := by decide +kernel
theorem dX6_canHaveTold_58 : decode cX6_canHaveTold 58 = .ok (.iload 4, 2) := by decide +kernel
theorem dX6_canHaveTold_60 : decode cX6_canHaveTold 60 = .ok (.aload_n 0, 1) := by decide +kernel
theorem dX6_canHaveTold_61 : decode cX6_canHaveTold 61 = .ok (.getfield 28, 3) := by decide +kernel
theorem dX6_canHaveTold_64 : decode cX6_canHaveTold 64 = .ok (.iload 4, 2) := by decide +kernel
theorem dX6_canHaveTold_66 : decode cX6_canHaveTold 66 = .ok (.iload_n 1, 1) := by decide +kernel
theorem dX6_canHaveTold_67 : decode cX6_canHaveTold 67 = .ok (.invokevirtual 273, 3) := by decide +kernel
theorem dX6_canHaveTold_70 : decode cX6_canHaveTold 70 = .ok (.invokevirtual 276, 3) := by decide +kernel
theorem dX6_canHaveTold_73 : decode cX6_canHaveTold 73 = .ok (.iastore, 1) := by decide +kernel
theorem dX6_canHaveTold_74 : decode cX6_canHaveTold 74 = .ok (.aload_n 0, 1) := by decide +kernel
theorem dX6_canHaveTold_75 : decode cX6_canHaveTold 75 = .ok (.getfield 35, 3) := by decide +kernel
theorem dX6_canHaveTold_78 : decode cX6_canHaveTold 78 = .ok (.aload_n 0, 1) := by decide +kernel
theorem dX6_canHaveTold_79 : decode cX6_canHaveTold 79 = .ok (.getfield 57, 3) := by decide +kernel
theorem dX6_canHaveTold_82 : decode cX6_canHaveTold 82 = .ok (.invokevirtual 279, 3) := by decide +kernel
theorem dX6_canHaveTold_85 : decode cX6_canHaveTold 85 = .ok (.ifCond .eq 10, 3) := by decide +kernel
theorem dX6_canHaveTold_88 : decode cX6_canHaveTold 88 = .ok (.iload_n 3, 1) := by decide +kernel
theorem dX6_canHaveTold_89 : decode cX6_canHaveTold 89 = .ok (.iconst 1, 1) := by decide +kernel
theorem dX6_canHaveTold_90 : decode cX6_canHaveTold 90 = .ok (.iload 4, 2) := by decide +kernel
theorem dX6_canHaveTold_92 : decode cX6_canHaveTold 92 = .ok (.ishl, 1) := by decide +kernel
theorem dX6_canHaveTold_93 : decode cX6_canHaveTold 93 = .ok (.ior, 1) := by decide +kernel
theorem dX6_canHaveTold_94 : decode cX6_canHaveTold 94 = .ok (.istore_n 3, 1) := by decide +kernel
theorem dX6_canHaveTold_95 : decode cX6_canHaveTold 95 = .ok (.iinc 4 1, 3) := by decide +kernel
theorem dX6_canHaveTold_98 : decode cX6_canHaveTold 98 = .ok (.goto (-81), 3) := by decide +kernel
theorem dX6_canHaveTold_101 : decode cX6_canHaveTold 101 = .ok (.aload_n 0, 1) := by decide +kernel
theorem dX6_canHaveTold_102 : decode cX6_canHaveTold 102 = .ok (.getfield 35, 3) := by decide +kernel
theorem dX6_canHaveTold_105 : decode cX6_canHaveTold 105 = .ok (.getfield 169, 3) := by decide +kernel
theorem dX6_canHaveTold_108 : decode cX6_canHaveTold 108 = .ok (.iload_n 2, 1) := by decide +kernel
theorem dX6_canHaveTold_109 : decode cX6_canHaveTold 109 = .ok (.iconst 0, 1) := by decide +kernel
theorem dX6_canHaveTold_110 : decode cX6_canHaveTold 110 = .ok (.iastore, 1) := by decide +kernel
theorem dX6_canHaveTold_111 : decode cX6_canHaveTold 111 = .ok (.aload_n 0, 1) := by decide +kernel
theorem dX6_canHaveTold_112 : decode cX6_canHaveTold 112 = .ok (.getfield 35, 3) := by decide +kernel
theorem dX6_canHaveTold_115 : decode cX6_canHaveTold 115 = .ok (.aload_n 0, 1) := by decide +kernel
theorem dX6_canHaveTold_116 : decode cX6_canHaveTold 116 = .ok (.getfield 57, 3) := by decide +kernel
theorem dX6_canHaveTold_119 : decode cX6_canHaveTold 119 = .ok (.invokevirtual 279, 3) := by decide +kernel
theorem dX6_canHaveTold_122 : decode cX6_canHaveTold 122 = .ok (.ifCond .eq 9, 3) := by decide +kernel
theorem dX6_canHaveTold_125 : decode cX6_canHaveTold 125 = .ok (.iload_n 3, 1) := by decide +kernel
theorem dX6_canHaveTold_126 : decode cX6_canHaveTold 126 = .ok (.sipush 1024, 3) := by decide +kernel
theorem dX6_canHaveTold_129 : decode cX6_canHaveTold 129 = .ok (.ior, 1) := by decide +kernel
theorem dX6_canHaveTold_130 : decode cX6_canHaveTold 130 = .ok (.istore_n 3, 1) := by decide +kernel
theorem dX6_canHaveTold_131 : decode cX6_canHaveTold 131 = .ok (.iload_n 3, 1) := by decide +kernel
theorem dX6_canHaveTold_132 : decode cX6_canHaveTold 132 = .ok (.ireturn, 1) := by decide +kernel
theorem dX6_leaveTrace_0 : decode cX6_leaveTrace 0 = .ok (.aload_n 0, 1) := by decide +kernel
theorem dX6_leaveTrace_1 : decode cX6_leaveTrace 1 = .ok (.bipush 31, 2) := by decide +kernel
theorem dX6_leaveTrace_3 : decode cX6_leaveTrace 3 = .ok (.aload_n 0, 1) := by decide +kernel
theorem dX6_leaveTrace_4 : decode cX6_leaveTrace 4 = .ok (.getfield 259, 3) := by decide +kernel
theorem dX6_leaveTrace_7 : decode cX6_leaveTrace 7 = .ok (.imul, 1) := by decide +kernel
theorem dX6_leaveTrace_8 : decode cX6_leaveTrace 8 = .ok (.iload_n 1, 1) := by decide +kernel
theorem dX6_leaveTrace_9 : decode cX6_leaveTrace 9 = .ok (.iadd, 1) := by decide +kernel
theorem dX6_leaveTrace_10 : decode cX6_leaveTrace 10 = .ok (.putfield 259, 3) := by decide +kernel
theorem dX6_leaveTrace_13 : decode cX6_leaveTrace 13 = .ok (.return_, 1) := by decide +kernel
theorem dX6_tellAsTale_0 : decode cX6_tellAsTale 0 = .ok (.aload_n 0, 1) := by decide +kernel
theorem dX6_tellAsTale_1 : decode cX6_tellAsTale 1 = .ok (.iconst 1, 1) := by decide +kernel
theorem dX6_tellAsTale_2 : decode cX6_tellAsTale 2 = .ok (.invokevirtual 256, 3) := by decide +kernel
theorem dX6_tellAsTale_5 : decode cX6_tellAsTale 5 = .ok (.aload_n 0, 1) := by decide +kernel
theorem dX6_tellAsTale_6 : decode cX6_tellAsTale 6 = .ok (.getfield 28, 3) := by decide +kernel
theorem dX6_tellAsTale_9 : decode cX6_tellAsTale 9 = .ok (.getfield 110, 3) := by decide +kernel
theorem dX6_tellAsTale_12 : decode cX6_tellAsTale 12 = .ok (.iload_n 1, 1) := by decide +kernel
theorem dX6_tellAsTale_13 : decode cX6_tellAsTale 13 = .ok (.iaload, 1) := by decide +kernel
theorem dX6_tellAsTale_14 : decode cX6_tellAsTale 14 = .ok (.ireturn, 1) := by decide +kernel
theorem dX6_tellAsGrown_0 : decode cX6_tellAsGrown 0 = .ok (.aload_n 0, 1) := by decide +kernel
theorem dX6_tellAsGrown_1 : decode cX6_tellAsGrown 1 = .ok (.iconst 2, 1) := by decide +kernel
theorem dX6_tellAsGrown_2 : decode cX6_tellAsGrown 2 = .ok (.invokevirtual 256, 3) := by decide +kernel
theorem dX6_tellAsGrown_5 : decode cX6_tellAsGrown 5 = .ok (.aload_n 0, 1) := by decide +kernel
theorem dX6_tellAsGrown_6 : decode cX6_tellAsGrown 6 = .ok (.iload_n 1, 1) := by decide +kernel
theorem dX6_tellAsGrown_7 : decode cX6_tellAsGrown 7 = .ok (.invokevirtual 253, 3) := by decide +kernel
theorem dX6_tellAsGrown_10 : decode cX6_tellAsGrown 10 = .ok (.bipush 100, 2) := by decide +kernel
theorem dX6_tellAsGrown_12 : decode cX6_tellAsGrown 12 = .ok (.iadd, 1) := by decide +kernel
theorem dX6_tellAsGrown_13 : decode cX6_tellAsGrown 13 = .ok (.ireturn, 1) := by decide +kernel
theorem dX6_tellAsTrue_0 : decode cX6_tellAsTrue 0 = .ok (.aload_n 0, 1) := by decide +kernel
theorem dX6_tellAsTrue_1 : decode cX6_tellAsTrue 1 = .ok (.iconst 3, 1) := by decide +kernel
theorem dX6_tellAsTrue_2 : decode cX6_tellAsTrue 2 = .ok (.invokevirtual 256, 3) := by decide +kernel
theorem dX6_tellAsTrue_5 : decode cX6_tellAsTrue 5 = .ok (.aload_n 0, 1) := by decide +kernel
theorem dX6_tellAsTrue_6 : decode cX6_tellAsTrue 6 = .ok (.iload_n 1, 1) := by decide +kernel
theorem dX6_tellAsTrue_7 : decode cX6_tellAsTrue 7 = .ok (.invokevirtual 247, 3) := by decide +kernel
theorem dX6_tellAsTrue_10 : decode cX6_tellAsTrue 10 = .ok (.istore_n 2, 1) := by decide +kernel
theorem dX6_tellAsTrue_11 : decode cX6_tellAsTrue 11 = .ok (.iload_n 2, 1) := by decide +kernel
theorem dX6_tellAsTrue_12 : decode cX6_tellAsTrue 12 = .ok (.aload_n 0, 1) := by decide +kernel
theorem dX6_tellAsTrue_13 : decode cX6_tellAsTrue 13 = .ok (.iload_n 1, 1) := by decide +kernel
theorem dX6_tellAsTrue_14 : decode cX6_tellAsTrue 14 = .ok (.invokevirtual 253, 3) := by decide +kernel
theorem dX6_tellAsTrue_17 : decode cX6_tellAsTrue 17 = .ok (.iadd, 1) := by decide +kernel
theorem dX6_tellAsTrue_18 : decode cX6_tellAsTrue 18 = .ok (.ireturn, 1) := by decide +kernel
