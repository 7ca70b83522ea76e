/-! ===== decode rows (printed) ===== -/
theorem dX7_init_0 : decode cX7_init 0 = .ok (.aload_n 0, 1) := by decide +kernel
theorem dX7_init_1 : decode cX7_init 1 = .ok (.invokespecial 1, 3) := by decide +kernel
theorem dX7_init_4 : decode cX7_init 4 = .ok (.aload_n 0, 1) := by decide +kernel
theorem dX7_init_5 : decode cX7_init 5 = .ok (.iconst 4, 1) := by decide +kernel
theorem dX7_init_6 : decode cX7_init 6 = .ok (.newarray .int, 2) := by decide +kernel
theorem dX7_init_8 : decode cX7_init 8 = .ok (.dup, 1) := by decide +kernel
theorem dX7_init_9 : decode cX7_init 9 = .ok (.iconst 0, 1) := by decide +kernel
theorem dX7_init_10 : decode cX7_init 10 = .ok (.bipush (-9), 2) := by decide +kernel
theorem dX7_init_12 : decode cX7_init 12 = .ok (.iastore, 1) := by decide +kernel
theorem dX7_init_13 : decode cX7_init 13 = .ok (.dup, 1) := by decide +kernel
theorem dX7_init_14 : decode cX7_init 14 = .ok (.iconst 1, 1) := by decide +kernel
theorem dX7_init_15 : decode cX7_init 15 = .ok (.bipush (-9), 2) := by decide +kernel
theorem dX7_init_17 : decode cX7_init 17 = .ok (.iastore, 1) := by decide +kernel
theorem dX7_init_18 : decode cX7_init 18 = .ok (.dup, 1) := by decide +kernel
theorem dX7_init_19 : decode cX7_init 19 = .ok (.iconst 2, 1) := by decide +kernel
theorem dX7_init_20 : decode cX7_init 20 = .ok (.bipush (-9), 2) := by decide +kernel
theorem dX7_init_22 : decode cX7_init 22 = .ok (.iastore, 1) := by decide +kernel
theorem dX7_init_23 : decode cX7_init 23 = .ok (.dup, 1) := by decide +kernel
theorem dX7_init_24 : decode cX7_init 24 = .ok (.iconst 3, 1) := by decide +kernel
theorem dX7_init_25 : decode cX7_init 25 = .ok (.bipush (-9), 2) := by decide +kernel
theorem dX7_init_27 : decode cX7_init 27 = .ok (.iastore, 1) := by decide +kernel
theorem dX7_init_28 : decode cX7_init 28 = .ok (.putfield 9, 3) := by decide +kernel
theorem dX7_init_31 : decode cX7_init 31 = .ok (.aload_n 0, 1) := by decide +kernel
theorem dX7_init_32 : decode cX7_init 32 = .ok (.iconst 4, 1) := by decide +kernel
theorem dX7_init_33 : decode cX7_init 33 = .ok (.newarray .int, 2) := by decide +kernel
theorem dX7_init_35 : decode cX7_init 35 = .ok (.putfield 13, 3) := by decide +kernel
theorem dX7_init_38 : decode cX7_init 38 = .ok (.aload_n 0, 1) := by decide +kernel
theorem dX7_init_39 : decode cX7_init 39 = .ok (.sipush 240, 3) := by decide +kernel
theorem dX7_init_42 : decode cX7_init 42 = .ok (.newarray .int, 2) := by decide +kernel
theorem dX7_init_44 : decode cX7_init 44 = .ok (.putfield 16, 3) := by decide +kernel
theorem dX7_init_47 : decode cX7_init 47 = .ok (.aload_n 0, 1) := by decide +kernel
theorem dX7_init_48 : decode cX7_init 48 = .ok (.bipush 10, 2) := by decide +kernel
theorem dX7_init_50 : decode cX7_init 50 = .ok (.newarray .int, 2) := by decide +kernel
theorem dX7_init_52 : decode cX7_init 52 = .ok (.putfield 19, 3) := by decide +kernel
theorem dX7_init_55 : decode cX7_init 55 = .ok (.aload_n 0, 1) := by decide +kernel
theorem dX7_init_56 : decode cX7_init 56 = .ok (.bipush 10, 2) := by decide +kernel
theorem dX7_init_58 : decode cX7_init 58 = .ok (.newarray .int, 2) := by decide +kernel
theorem dX7_init_60 : decode cX7_init 60 = .ok (.putfield 22, 3) := by decide +kernel
theorem dX7_init_63 : decode cX7_init 63 = .ok (.aload_n 0, 1) := by decide +kernel
theorem dX7_init_64 : decode cX7_init 64 = .ok (.bipush 10, 2) := by decide +kernel
theorem dX7_init_66 : decode cX7_init 66 = .ok (.newarray .int, 2) := by decide +kernel
theorem dX7_init_68 : decode cX7_init 68 = .ok (.putfield 25, 3) := by decide +kernel
theorem dX7_init_71 : decode cX7_init 71 = .ok (.aload_n 0, 1) := by decide +kernel
theorem dX7_init_72 : decode cX7_init 72 = .ok (.bipush 10, 2) := by decide +kernel
theorem dX7_init_74 : decode cX7_init 74 = .ok (.newarray .int, 2) := by decide +kernel
theorem dX7_init_76 : decode cX7_init 76 = .ok (.putfield 28, 3) := by decide +kernel
theorem dX7_init_79 : decode cX7_init 79 = .ok (.aload_n 0, 1) := by decide +kernel
theorem dX7_init_80 : decode cX7_init 80 = .ok (.bipush 10, 2) := by decide +kernel
theorem dX7_init_82 : decode cX7_init 82 = .ok (.newarray .int, 2) := by decide +kernel
theorem dX7_init_84 : decode cX7_init 84 = .ok (.putfield 31, 3) := by decide +kernel
theorem dX7_init_87 : decode cX7_init 87 = .ok (.aload_n 0, 1) := by decide +kernel
theorem dX7_init_88 : decode cX7_init 88 = .ok (.bipush 10, 2) := by decide +kernel
theorem dX7_init_90 : decode cX7_init 90 = .ok (.newarray .int, 2) := by decide +kernel
theorem dX7_init_92 : decode cX7_init 92 = .ok (.putfield 34, 3) := by decide +kernel
theorem dX7_init_95 : decode cX7_init 95 = .ok (.aload_n 0, 1) := by decide +kernel
theorem dX7_init_96 : decode cX7_init 96 = .ok (.sipush 300, 3) := by decide +kernel
theorem dX7_init_99 : decode cX7_init 99 = .ok (.newarray .int, 2) := by decide +kernel
theorem dX7_init_101 : decode cX7_init 101 = .ok (.putfield 37, 3) := by decide +kernel
theorem dX7_init_104 : decode cX7_init 104 = .ok (.aload_n 0, 1) := by decide +kernel
theorem dX7_init_105 : decode cX7_init 105 = .ok (.sipush 300, 3) := by decide +kernel
theorem dX7_init_108 : decode cX7_init 108 = .ok (.newarray .int, 2) := by decide +kernel
theorem dX7_init_110 : decode cX7_init 110 = .ok (.putfield 40, 3) := by decide +kernel
theorem dX7_init_113 : decode cX7_init 113 = .ok (.aload_n 0, 1) := by decide +kernel
theorem dX7_init_114 : decode cX7_init 114 = .ok (.iconst 5, 1) := by decide +kernel
theorem dX7_init_115 : decode cX7_init 115 = .ok (.newarray .int, 2) := by decide +kernel
theorem dX7_init_117 : decode cX7_init 117 = .ok (.putfield 43, 3) := by decide +kernel
theorem dX7_init_120 : decode cX7_init 120 = .ok (.aload_n 0, 1) := by decide +kernel
theorem dX7_init_121 : decode cX7_init 121 = .ok (.bipush 10, 2) := by decide +kernel
theorem dX7_init_123 : decode cX7_init 123 = .ok (.newarray .int, 2) := by decide +kernel
theorem dX7_init_125 : decode cX7_init 125 = .ok (.putfield 46, 3) := by decide +kernel
theorem dX7_init_128 : decode cX7_init 128 = .ok (.aload_n 0, 1) := by decide +kernel
theorem dX7_init_129 : decode cX7_init 129 = .ok (.bipush 10, 2) := by decide +kernel
theorem dX7_init_131 : decode cX7_init 131 = .ok (.newarray .int, 2) := by decide +kernel
theorem dX7_init_133 : decode cX7_init 133 = .ok (.putfield 49, 3) := by decide +kernel
theorem dX7_init_136 : decode cX7_init 136 = .ok (.aload_n 0, 1) := by decide +kernel
theorem dX7_init_137 : decode cX7_init 137 = .ok (.iconst 5, 1) := by decide +kernel
theorem dX7_init_138 : decode cX7_init 138 = .ok (.newarray .int, 2) := by decide +kernel
theorem dX7_init_140 : decode cX7_init 140 = .ok (.putfield 52, 3) := by decide +kernel
theorem dX7_init_143 : decode cX7_init 143 = .ok (.aload_n 0, 1) := by decide +kernel
theorem dX7_init_144 : decode cX7_init 144 = .ok (.iconst 5, 1) := by decide +kernel
theorem dX7_init_145 : decode cX7_init 145 = .ok (.newarray .int, 2) := by decide +kernel
theorem dX7_init_147 : decode cX7_init 147 = .ok (.putfield 55, 3) := by decide +kernel
theorem dX7_init_150 : decode cX7_init 150 = .ok (.aload_n 0, 1) := by decide +kernel
theorem dX7_init_151 : decode cX7_init 151 = .ok (.iconst 5, 1) := by decide +kernel
theorem dX7_init_152 : decode cX7_init 152 = .ok (.newarray .int, 2) := by decide +kernel
theorem dX7_init_154 : decode cX7_init 154 = .ok (.putfield 58, 3) := by decide +kernel
theorem dX7_init_157 : decode cX7_init 157 = .ok (.aload_n 0, 1) := by decide +kernel
theorem dX7_init_158 : decode cX7_init 158 = .ok (.bipush 6, 2) := by decide +kernel
theorem dX7_init_160 : decode cX7_init 160 = .ok (.newarray .int, 2) := by decide +kernel
theorem dX7_init_162 : decode cX7_init 162 = .ok (.putfield 61, 3) := by decide +kernel
theorem dX7_init_165 : decode cX7_init 165 = .ok (.aload_n 0, 1) := by decide +kernel
theorem dX7_init_166 : decode cX7_init 166 = .ok (.bipush 6, 2) := by decide +kernel
theorem dX7_init_168 : decode cX7_init 168 = .ok (.newarray .int, 2) := by decide +kernel
theorem dX7_init_170 : decode cX7_init 170 = .ok (.putfield 64, 3) := by decide +kernel
theorem dX7_init_173 : decode cX7_init 173 = .ok (.return_, 1) := by decide +kernel
theorem dX7_fails_0 : decode cX7_fails 0 = .ok (.aload_n 0, 1) := by decide +kernel
theorem dX7_fails_1 : decode cX7_fails 1 = .ok (.iload_n 1, 1) := by decide +kernel
theorem dX7_fails_2 : decode cX7_fails 2 = .ok (.putfield 67, 3) := by decide +kernel
theorem dX7_fails_5 : decode cX7_fails 5 = .ok (.bipush (-10), 2) := by decide +kernel
theorem dX7_fails_7 : decode cX7_fails 7 = .ok (.iload_n 1, 1) := by decide +kernel
theorem dX7_fails_8 : decode cX7_fails 8 = .ok (.isub, 1) := by decide +kernel
theorem dX7_fails_9 : decode cX7_fails 9 = .ok (.ireturn, 1) := by decide +kernel
theorem dX7_lost_0 : decode cX7_lost 0 = .ok (.aload_n 0, 1) := by decide +kernel
theorem dX7_lost_1 : decode cX7_lost 1 = .ok (.iload_n 1, 1) := by decide +kernel
theorem dX7_lost_2 : decode cX7_lost 2 = .ok (.putfield 67, 3) := by decide +kernel
theorem dX7_lost_5 : decode cX7_lost 5 = .ok (.ldc2_w 71, 3) := by decide +kernel
theorem dX7_lost_8 : decode cX7_lost 8 = .ok (.lreturn, 1) := by decide +kernel
theorem dX7_within_0 : decode cX7_within 0 = .ok (.iload_n 0, 1) := by decide +kernel
theorem dX7_within_1 : decode cX7_within 1 = .ok (.iload_n 1, 1) := by decide +kernel
theorem dX7_within_2 : decode cX7_within 2 = .ok (.if_icmp .lt 12, 3) := by decide +kernel
theorem dX7_within_5 : decode cX7_within 5 = .ok (.iload_n 0, 1) := by decide +kernel
theorem dX7_within_6 : decode cX7_within 6 = .ok (.iload_n 2, 1) := by decide +kernel
theorem dX7_within_7 : decode cX7_within 7 = .ok (.if_icmp .gt 7, 3) := by decide +kernel
theorem dX7_within_10 : decode cX7_within 10 = .ok (.iconst 1, 1) := by decide +kernel
theorem dX7_within_11 : decode cX7_within 11 = .ok (.goto 4, 3) := by decide +kernel
theorem dX7_within_14 : decode cX7_within 14 = .ok (.iconst 0, 1) := by decide +kernel
theorem dX7_within_15 : decode cX7_within 15 = .ok (.ireturn, 1) := by decide +kernel
theorem dX7_isSheet_0 : decode cX7_isSheet 0 = .ok (.iload_n 0, 1) := by decide +kernel
theorem dX7_isSheet_1 : decode cX7_isSheet 1 = .ok (.iconst 0, 1) := by decide +kernel
theorem dX7_isSheet_2 : decode cX7_isSheet 2 = .ok (.iconst 3, 1) := by decide +kernel
theorem dX7_isSheet_3 : decode cX7_isSheet 3 = .ok (.invokestatic 73, 3) := by decide +kernel
theorem dX7_isSheet_6 : decode cX7_isSheet 6 = .ok (.ireturn, 1) := by decide +kernel
theorem dX7_isSort_0 : decode cX7_isSort 0 = .ok (.iload_n 0, 1) := by decide +kernel
theorem dX7_isSort_1 : decode cX7_isSort 1 = .ok (.iconst 0, 1) := by decide +kernel
theorem dX7_isSort_2 : decode cX7_isSort 2 = .ok (.iconst 2, 1) := by decide +kernel
theorem dX7_isSort_3 : decode cX7_isSort 3 = .ok (.invokestatic 73, 3) := by decide +kernel
theorem dX7_isSort_6 : decode cX7_isSort 6 = .ok (.ireturn, 1) := by decide +kernel
theorem dX7_against_0 : decode cX7_against 0 = .ok (.aload_n 0, 1) := by decide +kernel
theorem dX7_against_1 : decode cX7_against 1 = .ok (.getfield 9, 3) := by decide +kernel
theorem dX7_against_4 : decode cX7_against 4 = .ok (.iload_n 1, 1) := by decide +kernel
theorem dX7_against_5 : decode cX7_against 5 = .ok (.iaload, 1) := by decide +kernel
theorem dX7_against_6 : decode cX7_against 6 = .ok (.bipush (-9), 2) := by decide +kernel
theorem dX7_against_8 : decode cX7_against 8 = .ok (.if_icmp .eq 15, 3) := by decide +kernel
theorem dX7_against_11 : decode cX7_against 11 = .ok (.aload_n 0, 1) := by decide +kernel
theorem dX7_against_12 : decode cX7_against 12 = .ok (.getfield 9, 3) := by decide +kernel
theorem dX7_against_15 : decode cX7_against 15 = .ok (.iload_n 1, 1) := by decide +kernel
theorem dX7_against_16 : decode cX7_against 16 = .ok (.iaload, 1) := by decide +kernel
theorem dX7_against_17 : decode cX7_against 17 = .ok (.iload_n 2, 1) := by decide +kernel
theorem dX7_against_18 : decode cX7_against 18 = .ok (.if_icmp .eq 5, 3) := by decide +kernel
theorem dX7_against_21 : decode cX7_against 21 = .ok (.iconst 2, 1) := by decide +kernel
theorem dX7_against_22 : decode cX7_against 22 = .ok (.ireturn, 1) := by decide +kernel
theorem dX7_against_23 : decode cX7_against 23 = .ok (.aload_n 0, 1) := by decide +kernel
theorem dX7_against_24 : decode cX7_against 24 = .ok (.getfield 9, 3) := by decide +kernel
theorem dX7_against_27 : decode cX7_against 27 = .ok (.iload_n 1, 1) := by decide +kernel
theorem dX7_against_28 : decode cX7_against 28 = .ok (.iaload, 1) := by decide +kernel
theorem dX7_against_29 : decode cX7_against 29 = .ok (.bipush (-9), 2) := by decide +kernel
theorem dX7_against_31 : decode cX7_against 31 = .ok (.if_icmp .ne 5, 3) := by decide +kernel
theorem dX7_against_34 : decode cX7_against 34 = .ok (.iconst 1, 1) := by decide +kernel
theorem dX7_against_35 : decode cX7_against 35 = .ok (.ireturn, 1) := by decide +kernel
theorem dX7_against_36 : decode cX7_against 36 = .ok (.iload 4, 2) := by decide +kernel
theorem dX7_against_38 : decode cX7_against 38 = .ok (.ifCond .ge 5, 3) := by decide +kernel
theorem dX7_against_41 : decode cX7_against 41 = .ok (.iconst 4, 1) := by decide +kernel
theorem dX7_against_42 : decode cX7_against 42 = .ok (.ireturn, 1) := by decide +kernel
theorem dX7_against_43 : decode cX7_against 43 = .ok (.iload_n 3, 1) := by decide +kernel
theorem dX7_against_44 : decode cX7_against 44 = .ok (.ifCond .lt 26, 3) := by decide +kernel
theorem dX7_against_47 : decode cX7_against 47 = .ok (.iload_n 3, 1) := by decide +kernel
theorem dX7_against_48 : decode cX7_against 48 = .ok (.aload_n 0, 1) := by decide +kernel
theorem dX7_against_49 : decode cX7_against 49 = .ok (.getfield 13, 3) := by decide +kernel
theorem dX7_against_52 : decode cX7_against 52 = .ok (.iload_n 1, 1) := by decide +kernel
theorem dX7_against_53 : decode cX7_against 53 = .ok (.iaload, 1) := by decide +kernel
theorem dX7_against_54 : decode cX7_against 54 = .ok (.if_icmp .gt 16, 3) := by decide +kernel
theorem dX7_against_57 : decode cX7_against 57 = .ok (.iload 4, 2) := by decide +kernel
theorem dX7_against_59 : decode cX7_against 59 = .ok (.aload_n 0, 1) := by decide +kernel
theorem dX7_against_60 : decode cX7_against 60 = .ok (.getfield 13, 3) := by decide +kernel
theorem dX7_against_63 : decode cX7_against 63 = .ok (.iload_n 1, 1) := by decide +kernel
theorem dX7_against_64 : decode cX7_against 64 = .ok (.iaload, 1) := by decide +kernel
theorem dX7_against_65 : decode cX7_against 65 = .ok (.iload_n 3, 1) := by decide +kernel
theorem dX7_against_66 : decode cX7_against 66 = .ok (.isub, 1) := by decide +kernel
theorem dX7_against_67 : decode cX7_against 67 = .ok (.if_icmp .le 7, 3) := by decide +kernel
theorem dX7_against_70 : decode cX7_against 70 = .ok (.iconst 3, 1) := by decide +kernel
theorem dX7_against_71 : decode cX7_against 71 = .ok (.goto 4, 3) := by decide +kernel
theorem dX7_against_74 : decode cX7_against 74 = .ok (.iconst 0, 1) := by decide +kernel
theorem dX7_against_75 : decode cX7_against 75 = .ok (.ireturn, 1) := by decide +kernel
theorem dX7_isGuest_0 : decode cX7_isGuest 0 = .ok (.iload_n 1, 1) := by decide +kernel
theorem dX7_isGuest_1 : decode cX7_isGuest 1 = .ok (.ifCond .lt 15, 3) := by decide +kernel
theorem dX7_isGuest_4 : decode cX7_isGuest 4 = .ok (.iload_n 1, 1) := by decide +kernel
theorem dX7_isGuest_5 : decode cX7_isGuest 5 = .ok (.aload_n 0, 1) := by decide +kernel
theorem dX7_isGuest_6 : decode cX7_isGuest 6 = .ok (.getfield 77, 3) := by decide +kernel
theorem dX7_isGuest_9 : decode cX7_isGuest 9 = .ok (.if_icmp .ge 7, 3) := by decide +kernel
theorem dX7_isGuest_12 : decode cX7_isGuest 12 = .ok (.iconst 1, 1) := by decide +kernel
theorem dX7_isGuest_13 : decode cX7_isGuest 13 = .ok (.goto 4, 3) := by decide +kernel
theorem dX7_isGuest_16 : decode cX7_isGuest 16 = .ok (.iconst 0, 1) := by decide +kernel
theorem dX7_isGuest_17 : decode cX7_isGuest 17 = .ok (.ireturn, 1) := by decide +kernel
theorem dX7_isTale_0 : decode cX7_isTale 0 = .ok (.iload_n 1, 1) := by decide +kernel
theorem dX7_isTale_1 : decode cX7_isTale 1 = .ok (.ifCond .lt 15, 3) := by decide +kernel
theorem dX7_isTale_4 : decode cX7_isTale 4 = .ok (.iload_n 1, 1) := by decide +kernel
theorem dX7_isTale_5 : decode cX7_isTale 5 = .ok (.aload_n 0, 1) := by decide +kernel
theorem dX7_isTale_6 : decode cX7_isTale 6 = .ok (.getfield 80, 3) := by decide +kernel
theorem dX7_isTale_9 : decode cX7_isTale 9 = .ok (.if_icmp .ge 7, 3) := by decide +kernel
theorem dX7_isTale_12 : decode cX7_isTale 12 = .ok (.iconst 1, 1) := by decide +kernel
theorem dX7_isTale_13 : decode cX7_isTale 13 = .ok (.goto 4, 3) := by decide +kernel
theorem dX7_isTale_16 : decode cX7_isTale 16 = .ok (.iconst 0, 1) := by decide +kernel
theorem dX7_isTale_17 : decode cX7_isTale 17 = .ok (.ireturn, 1) := by decide +kernel
theorem dX7_digitAt_0 : decode cX7_digitAt 0 = .ok (.iload_n 1, 1) := by decide +kernel
theorem dX7_digitAt_1 : decode cX7_digitAt 1 = .ok (.iload_n 2, 1) := by decide +kernel
theorem dX7_digitAt_2 : decode cX7_digitAt 2 = .ok (.if_icmp .ge 31, 3) := by decide +kernel
theorem dX7_digitAt_5 : decode cX7_digitAt 5 = .ok (.aload_n 0, 1) := by decide +kernel
theorem dX7_digitAt_6 : decode cX7_digitAt 6 = .ok (.getfield 16, 3) := by decide +kernel
theorem dX7_digitAt_9 : decode cX7_digitAt 9 = .ok (.iload_n 1, 1) := by decide +kernel
theorem dX7_digitAt_10 : decode cX7_digitAt 10 = .ok (.iaload, 1) := by decide +kernel
theorem dX7_digitAt_11 : decode cX7_digitAt 11 = .ok (.bipush 48, 2) := by decide +kernel
theorem dX7_digitAt_13 : decode cX7_digitAt 13 = .ok (.bipush 57, 2) := by decide +kernel
theorem dX7_digitAt_15 : decode cX7_digitAt 15 = .ok (.invokestatic 73, 3) := by decide +kernel
theorem dX7_digitAt_18 : decode cX7_digitAt 18 = .ok (.ifCond .eq 15, 3) := by decide +kernel
theorem dX7_digitAt_21 : decode cX7_digitAt 21 = .ok (.aload_n 0, 1) := by decide +kernel
theorem dX7_digitAt_22 : decode cX7_digitAt 22 = .ok (.getfield 16, 3) := by decide +kernel
theorem dX7_digitAt_25 : decode cX7_digitAt 25 = .ok (.iload_n 1, 1) := by decide +kernel
theorem dX7_digitAt_26 : decode cX7_digitAt 26 = .ok (.iaload, 1) := by decide +kernel
theorem dX7_digitAt_27 : decode cX7_digitAt 27 = .ok (.bipush 48, 2) := by decide +kernel
theorem dX7_digitAt_29 : decode cX7_digitAt 29 = .ok (.isub, 1) := by decide +kernel
theorem dX7_digitAt_30 : decode cX7_digitAt 30 = .ok (.goto 5, 3) := by decide +kernel
theorem dX7_digitAt_33 : decode cX7_digitAt 33 = .ok (.bipush (-9), 2) := by decide +kernel
theorem dX7_digitAt_35 : decode cX7_digitAt 35 = .ok (.ireturn, 1) := by decide +kernel
theorem dX7_inn_0 : decode cX7_inn 0 = .ok (.aload_n 0, 1) := by decide +kernel
theorem dX7_inn_1 : decode cX7_inn 1 = .ok (.iconst 0, 1) := by decide +kernel
theorem dX7_inn_2 : decode cX7_inn 2 = .ok (.putfield 67, 3) := by decide +kernel
theorem dX7_inn_5 : decode cX7_inn 5 = .ok (.iload_n 1, 1) := by decide +kernel
theorem dX7_inn_6 : decode cX7_inn 6 = .ok (.invokestatic 83, 3) := by decide +kernel
theorem dX7_inn_9 : decode cX7_inn 9 = .ok (.ifCond .ne 5, 3) := by decide +kernel
theorem dX7_inn_12 : decode cX7_inn 12 = .ok (.iconst (-1), 1) := by decide +kernel
theorem dX7_inn_13 : decode cX7_inn 13 = .ok (.ireturn, 1) := by decide +kernel
theorem dX7_inn_14 : decode cX7_inn 14 = .ok (.iload_n 2, 1) := by decide +kernel
theorem dX7_inn_15 : decode cX7_inn 15 = .ok (.invokestatic 87, 3) := by decide +kernel
theorem dX7_inn_18 : decode cX7_inn 18 = .ok (.ifCond .ne 6, 3) := by decide +kernel
theorem dX7_inn_21 : decode cX7_inn 21 = .ok (.bipush (-2), 2) := by decide +kernel
theorem dX7_inn_23 : decode cX7_inn 23 = .ok (.ireturn, 1) := by decide +kernel
theorem dX7_inn_24 : decode cX7_inn 24 = .ok (.aload_n 0, 1) := by decide +kernel
theorem dX7_inn_25 : decode cX7_inn 25 = .ok (.iload_n 1, 1) := by decide +kernel
theorem dX7_inn_26 : decode cX7_inn 26 = .ok (.iload_n 2, 1) := by decide +kernel
theorem dX7_inn_27 : decode cX7_inn 27 = .ok (.iload_n 3, 1) := by decide +kernel
theorem dX7_inn_28 : decode cX7_inn 28 = .ok (.iload 4, 2) := by decide +kernel
theorem dX7_inn_30 : decode cX7_inn 30 = .ok (.invokevirtual 90, 3) := by decide +kernel
theorem dX7_inn_33 : decode cX7_inn 33 = .ok (.istore 5, 2) := by decide +kernel
theorem dX7_inn_35 : decode cX7_inn 35 = .ok (.iload 5, 2) := by decide +kernel
theorem dX7_inn_37 : decode cX7_inn 37 = .ok (.ifCond .eq 10, 3) := by decide +kernel
theorem dX7_inn_40 : decode cX7_inn 40 = .ok (.aload_n 0, 1) := by decide +kernel
theorem dX7_inn_41 : decode cX7_inn 41 = .ok (.iload 5, 2) := by decide +kernel
theorem dX7_inn_43 : decode cX7_inn 43 = .ok (.invokevirtual 94, 3) := by decide +kernel
theorem dX7_inn_46 : decode cX7_inn 46 = .ok (.ireturn, 1) := by decide +kernel
theorem dX7_inn_47 : decode cX7_inn 47 = .ok (.bipush 60, 2) := by decide +kernel
theorem dX7_inn_49 : decode cX7_inn 49 = .ok (.iload_n 1, 1) := by decide +kernel
theorem dX7_inn_50 : decode cX7_inn 50 = .ok (.imul, 1) := by decide +kernel
theorem dX7_inn_51 : decode cX7_inn 51 = .ok (.iload_n 3, 1) := by decide +kernel
theorem dX7_inn_52 : decode cX7_inn 52 = .ok (.iadd, 1) := by decide +kernel
theorem dX7_inn_53 : decode cX7_inn 53 = .ok (.istore 6, 2) := by decide +kernel
theorem dX7_inn_55 : decode cX7_inn 55 = .ok (.aload_n 0, 1) := by decide +kernel
theorem dX7_inn_56 : decode cX7_inn 56 = .ok (.iload 6, 2) := by decide +kernel
theorem dX7_inn_58 : decode cX7_inn 58 = .ok (.putfield 98, 3) := by decide +kernel
theorem dX7_inn_61 : decode cX7_inn 61 = .ok (.aload_n 0, 1) := by decide +kernel
theorem dX7_inn_62 : decode cX7_inn 62 = .ok (.iload 6, 2) := by decide +kernel
theorem dX7_inn_64 : decode cX7_inn 64 = .ok (.iload 4, 2) := by decide +kernel
theorem dX7_inn_66 : decode cX7_inn 66 = .ok (.iadd, 1) := by decide +kernel
theorem dX7_inn_67 : decode cX7_inn 67 = .ok (.invokevirtual 101, 3) := by decide +kernel
theorem dX7_inn_70 : decode cX7_inn 70 = .ok (.ifCond .ne 14, 3) := by decide +kernel
theorem dX7_inn_73 : decode cX7_inn 73 = .ok (.bipush (-100), 2) := by decide +kernel
theorem dX7_inn_75 : decode cX7_inn 75 = .ok (.aload_n 0, 1) := by decide +kernel
theorem dX7_inn_76 : decode cX7_inn 76 = .ok (.getfield 98, 3) := by decide +kernel
theorem dX7_inn_79 : decode cX7_inn 79 = .ok (.iload 6, 2) := by decide +kernel
theorem dX7_inn_81 : decode cX7_inn 81 = .ok (.isub, 1) := by decide +kernel
theorem dX7_inn_82 : decode cX7_inn 82 = .ok (.isub, 1) := by decide +kernel
theorem dX7_inn_83 : decode cX7_inn 83 = .ok (.ireturn, 1) := by decide +kernel
theorem dX7_inn_84 : decode cX7_inn 84 = .ok (.aload_n 0, 1) := by decide +kernel
theorem dX7_inn_85 : decode cX7_inn 85 = .ok (.aload_n 0, 1) := by decide +kernel
theorem dX7_inn_86 : decode cX7_inn 86 = .ok (.getfield 104, 3) := by decide +kernel
theorem dX7_inn_89 : decode cX7_inn 89 = .ok (.putfield 77, 3) := by decide +kernel
theorem dX7_inn_92 : decode cX7_inn 92 = .ok (.aload_n 0, 1) := by decide +kernel
theorem dX7_inn_93 : decode cX7_inn 93 = .ok (.aload_n 0, 1) := by decide +kernel
theorem dX7_inn_94 : decode cX7_inn 94 = .ok (.getfield 107, 3) := by decide +kernel
theorem dX7_inn_97 : decode cX7_inn 97 = .ok (.putfield 80, 3) := by decide +kernel
theorem dX7_inn_100 : decode cX7_inn 100 = .ok (.iconst 0, 1) := by decide +kernel
theorem dX7_inn_101 : decode cX7_inn 101 = .ok (.istore 7, 2) := by decide +kernel
theorem dX7_inn_103 : decode cX7_inn 103 = .ok (.iload 7, 2) := by decide +kernel
theorem dX7_inn_105 : decode cX7_inn 105 = .ok (.aload_n 0, 1) := by decide +kernel
theorem dX7_inn_106 : decode cX7_inn 106 = .ok (.getfield 80, 3) := by decide +kernel
theorem dX7_inn_109 : decode cX7_inn 109 = .ok (.if_icmp .ge 51, 3) := by decide +kernel
theorem dX7_inn_112 : decode cX7_inn 112 = .ok (.aload_n 0, 1) := by decide +kernel
theorem dX7_inn_113 : decode cX7_inn 113 = .ok (.getfield 19, 3) := by decide +kernel
theorem dX7_inn_116 : decode cX7_inn 116 = .ok (.iload 7, 2) := by decide +kernel
theorem dX7_inn_118 : decode cX7_inn 118 = .ok (.aload_n 0, 1) := by decide +kernel
theorem dX7_inn_119 : decode cX7_inn 119 = .ok (.getfield 28, 3) := by decide +kernel
theorem dX7_inn_122 : decode cX7_inn 122 = .ok (.iload 7, 2) := by decide +kernel
theorem dX7_inn_124 : decode cX7_inn 124 = .ok (.iaload, 1) := by decide +kernel
theorem dX7_inn_125 : decode cX7_inn 125 = .ok (.iastore, 1) := by decide +kernel
theorem dX7_inn_126 : decode cX7_inn 126 = .ok (.aload_n 0, 1) := by decide +kernel
theorem dX7_inn_127 : decode cX7_inn 127 = .ok (.getfield 22, 3) := by decide +kernel
theorem dX7_inn_130 : decode cX7_inn 130 = .ok (.iload 7, 2) := by decide +kernel
theorem dX7_inn_132 : decode cX7_inn 132 = .ok (.aload_n 0, 1) := by decide +kernel
theorem dX7_inn_133 : decode cX7_inn 133 = .ok (.getfield 31, 3) := by decide +kernel
theorem dX7_inn_136 : decode cX7_inn 136 = .ok (.iload 7, 2) := by decide +kernel
theorem dX7_inn_138 : decode cX7_inn 138 = .ok (.iaload, 1) := by decide +kernel
theorem dX7_inn_139 : decode cX7_inn 139 = .ok (.iastore, 1) := by decide +kernel
theorem dX7_inn_140 : decode cX7_inn 140 = .ok (.aload_n 0, 1) := by decide +kernel
theorem dX7_inn_141 : decode cX7_inn 141 = .ok (.getfield 25, 3) := by decide +kernel
theorem dX7_inn_144 : decode cX7_inn 144 = .ok (.iload 7, 2) := by decide +kernel
theorem dX7_inn_146 : decode cX7_inn 146 = .ok (.aload_n 0, 1) := by decide +kernel
theorem dX7_inn_147 : decode cX7_inn 147 = .ok (.getfield 34, 3) := by decide +kernel
theorem dX7_inn_150 : decode cX7_inn 150 = .ok (.iload 7, 2) := by decide +kernel
theorem dX7_inn_152 : decode cX7_inn 152 = .ok (.iaload, 1) := by decide +kernel
theorem dX7_inn_153 : decode cX7_inn 153 = .ok (.iastore, 1) := by decide +kernel
theorem dX7_inn_154 : decode cX7_inn 154 = .ok (.iinc 7 1, 3) := by decide +kernel
theorem dX7_inn_157 : decode cX7_inn 157 = .ok (.goto (-54), 3) := by decide +kernel
theorem dX7_inn_160 : decode cX7_inn 160 = .ok (.aload_n 0, 1) := by decide +kernel
theorem dX7_inn_161 : decode cX7_inn 161 = .ok (.bipush 99, 2) := by decide +kernel
theorem dX7_inn_163 : decode cX7_inn 163 = .ok (.putfield 110, 3) := by decide +kernel
theorem dX7_inn_166 : decode cX7_inn 166 = .ok (.aload_n 0, 1) := by decide +kernel
theorem dX7_inn_167 : decode cX7_inn 167 = .ok (.iconst 0, 1) := by decide +kernel
theorem dX7_inn_168 : decode cX7_inn 168 = .ok (.putfield 113, 3) := by decide +kernel
theorem dX7_inn_171 : decode cX7_inn 171 = .ok (.aload_n 0, 1) := by decide +kernel
theorem dX7_inn_172 : decode cX7_inn 172 = .ok (.invokevirtual 116, 3) := by decide +kernel
theorem dX7_inn_175 : decode cX7_inn 175 = .ok (.aload_n 0, 1) := by decide +kernel
theorem dX7_inn_176 : decode cX7_inn 176 = .ok (.invokevirtual 119, 3) := by decide +kernel
theorem dX7_inn_179 : decode cX7_inn 179 = .ok (.aload_n 0, 1) := by decide +kernel
theorem dX7_inn_180 : decode cX7_inn 180 = .ok (.getfield 80, 3) := by decide +kernel
theorem dX7_inn_183 : decode cX7_inn 183 = .ok (.ireturn, 1) := by decide +kernel
theorem dX7_readInn_0 : decode cX7_readInn 0 = .ok (.aload_n 0, 1) := by decide +kernel
theorem dX7_readInn_1 : decode cX7_readInn 1 = .ok (.getfield 98, 3) := by decide +kernel
theorem dX7_readInn_4 : decode cX7_readInn 4 = .ok (.iload_n 1, 1) := by decide +kernel
theorem dX7_readInn_5 : decode cX7_readInn 5 = .ok (.if_icmp .ge 17, 3) := by decide +kernel
theorem dX7_readInn_8 : decode cX7_readInn 8 = .ok (.aload_n 0, 1) := by decide +kernel
theorem dX7_readInn_9 : decode cX7_readInn 9 = .ok (.getfield 16, 3) := by decide +kernel
theorem dX7_readInn_12 : decode cX7_readInn 12 = .ok (.aload_n 0, 1) := by decide +kernel
theorem dX7_readInn_13 : decode cX7_readInn 13 = .ok (.getfield 98, 3) := by decide +kernel
theorem dX7_readInn_16 : decode cX7_readInn 16 = .ok (.iaload, 1) := by decide +kernel
theorem dX7_readInn_17 : decode cX7_readInn 17 = .ok (.bipush 105, 2) := by decide +kernel
theorem dX7_readInn_19 : decode cX7_readInn 19 = .ok (.if_icmp .eq 5, 3) := by decide +kernel
theorem dX7_readInn_22 : decode cX7_readInn 22 = .ok (.iconst 0, 1) := by decide +kernel
theorem dX7_readInn_23 : decode cX7_readInn 23 = .ok (.ireturn, 1) := by decide +kernel
theorem dX7_readInn_24 : decode cX7_readInn 24 = .ok (.aload_n 0, 1) := by decide +kernel
theorem dX7_readInn_25 : decode cX7_readInn 25 = .ok (.dup, 1) := by decide +kernel
theorem dX7_readInn_26 : decode cX7_readInn 26 = .ok (.getfield 98, 3) := by decide +kernel
theorem dX7_readInn_29 : decode cX7_readInn 29 = .ok (.iconst 1, 1) := by decide +kernel
theorem dX7_readInn_30 : decode cX7_readInn 30 = .ok (.iadd, 1) := by decide +kernel
theorem dX7_readInn_31 : decode cX7_readInn 31 = .ok (.putfield 98, 3) := by decide +kernel
theorem dX7_readInn_34 : decode cX7_readInn 34 = .ok (.aload_n 0, 1) := by decide +kernel
theorem dX7_readInn_35 : decode cX7_readInn 35 = .ok (.aload_n 0, 1) := by decide +kernel
theorem dX7_readInn_36 : decode cX7_readInn 36 = .ok (.aload_n 0, 1) := by decide +kernel
theorem dX7_readInn_37 : decode cX7_readInn 37 = .ok (.getfield 98, 3) := by decide +kernel
theorem dX7_readInn_40 : decode cX7_readInn 40 = .ok (.iload_n 1, 1) := by decide +kernel
theorem dX7_readInn_41 : decode cX7_readInn 41 = .ok (.invokevirtual 122, 3) := by decide +kernel
theorem dX7_readInn_44 : decode cX7_readInn 44 = .ok (.putfield 104, 3) := by decide +kernel
theorem dX7_readInn_47 : decode cX7_readInn 47 = .ok (.aload_n 0, 1) := by decide +kernel
theorem dX7_readInn_48 : decode cX7_readInn 48 = .ok (.getfield 104, 3) := by decide +kernel
theorem dX7_readInn_51 : decode cX7_readInn 51 = .ok (.iconst 2, 1) := by decide +kernel
theorem dX7_readInn_52 : decode cX7_readInn 52 = .ok (.iconst 5, 1) := by decide +kernel
theorem dX7_readInn_53 : decode cX7_readInn 53 = .ok (.invokestatic 73, 3) := by decide +kernel
theorem dX7_readInn_56 : decode cX7_readInn 56 = .ok (.ifCond .ne 5, 3) := by decide +kernel
theorem dX7_readInn_59 : decode cX7_readInn 59 = .ok (.iconst 0, 1) := by decide +kernel
theorem dX7_readInn_60 : decode cX7_readInn 60 = .ok (.ireturn, 1) := by decide +kernel
theorem dX7_readInn_61 : decode cX7_readInn 61 = .ok (.aload_n 0, 1) := by decide +kernel
theorem dX7_readInn_62 : decode cX7_readInn 62 = .ok (.dup, 1) := by decide +kernel
theorem dX7_readInn_63 : decode cX7_readInn 63 = .ok (.getfield 98, 3) := by decide +kernel
theorem dX7_readInn_66 : decode cX7_readInn 66 = .ok (.iconst 1, 1) := by decide +kernel
theorem dX7_readInn_67 : decode cX7_readInn 67 = .ok (.iadd, 1) := by decide +kernel
theorem dX7_readInn_68 : decode cX7_readInn 68 = .ok (.putfield 98, 3) := by decide +kernel
theorem dX7_readInn_71 : decode cX7_readInn 71 = .ok (.aload_n 0, 1) := by decide +kernel
theorem dX7_readInn_72 : decode cX7_readInn 72 = .ok (.iconst 0, 1) := by decide +kernel
theorem dX7_readInn_73 : decode cX7_readInn 73 = .ok (.putfield 107, 3) := by decide +kernel
theorem dX7_readInn_76 : decode cX7_readInn 76 = .ok (.aload_n 0, 1) := by decide +kernel
theorem dX7_readInn_77 : decode cX7_readInn 77 = .ok (.getfield 107, 3) := by decide +kernel
theorem dX7_readInn_80 : decode cX7_readInn 80 = .ok (.ifCond .eq 11, 3) := by decide +kernel
theorem dX7_readInn_83 : decode cX7_readInn 83 = .ok (.aload_n 0, 1) := by decide +kernel
theorem dX7_readInn_84 : decode cX7_readInn 84 = .ok (.getfield 98, 3) := by decide +kernel
theorem dX7_readInn_87 : decode cX7_readInn 87 = .ok (.iload_n 1, 1) := by decide +kernel
theorem dX7_readInn_88 : decode cX7_readInn 88 = .ok (.if_icmp .ge 56, 3) := by decide +kernel
theorem dX7_readInn_91 : decode cX7_readInn 91 = .ok (.aload_n 0, 1) := by decide +kernel
theorem dX7_readInn_92 : decode cX7_readInn 92 = .ok (.getfield 107, 3) := by decide +kernel
theorem dX7_readInn_95 : decode cX7_readInn 95 = .ok (.bipush 10, 2) := by decide +kernel
theorem dX7_readInn_97 : decode cX7_readInn 97 = .ok (.if_icmp .eq 25, 3) := by decide +kernel
theorem dX7_readInn_100 : decode cX7_readInn 100 = .ok (.aload_n 0, 1) := by decide +kernel
theorem dX7_readInn_101 : decode cX7_readInn 101 = .ok (.getfield 98, 3) := by decide +kernel
theorem dX7_readInn_104 : decode cX7_readInn 104 = .ok (.iload_n 1, 1) := by decide +kernel
theorem dX7_readInn_105 : decode cX7_readInn 105 = .ok (.if_icmp .ge 17, 3) := by decide +kernel
theorem dX7_readInn_108 : decode cX7_readInn 108 = .ok (.aload_n 0, 1) := by decide +kernel
theorem dX7_readInn_109 : decode cX7_readInn 109 = .ok (.getfield 16, 3) := by decide +kernel
theorem dX7_readInn_112 : decode cX7_readInn 112 = .ok (.aload_n 0, 1) := by decide +kernel
theorem dX7_readInn_113 : decode cX7_readInn 113 = .ok (.getfield 98, 3) := by decide +kernel
theorem dX7_readInn_116 : decode cX7_readInn 116 = .ok (.iaload, 1) := by decide +kernel
theorem dX7_readInn_117 : decode cX7_readInn 117 = .ok (.bipush 59, 2) := by decide +kernel
theorem dX7_readInn_119 : decode cX7_readInn 119 = .ok (.if_icmp .eq 5, 3) := by decide +kernel
theorem dX7_readInn_122 : decode cX7_readInn 122 = .ok (.iconst 0, 1) := by decide +kernel
theorem dX7_readInn_123 : decode cX7_readInn 123 = .ok (.ireturn, 1) := by decide +kernel
theorem dX7_readInn_124 : decode cX7_readInn 124 = .ok (.aload_n 0, 1) := by decide +kernel
theorem dX7_readInn_125 : decode cX7_readInn 125 = .ok (.dup, 1) := by decide +kernel
theorem dX7_readInn_126 : decode cX7_readInn 126 = .ok (.getfield 98, 3) := by decide +kernel
theorem dX7_readInn_129 : decode cX7_readInn 129 = .ok (.iconst 1, 1) := by decide +kernel
theorem dX7_readInn_130 : decode cX7_readInn 130 = .ok (.iadd, 1) := by decide +kernel
theorem dX7_readInn_131 : decode cX7_readInn 131 = .ok (.putfield 98, 3) := by decide +kernel
theorem dX7_readInn_134 : decode cX7_readInn 134 = .ok (.aload_n 0, 1) := by decide +kernel
theorem dX7_readInn_135 : decode cX7_readInn 135 = .ok (.iload_n 1, 1) := by decide +kernel
theorem dX7_readInn_136 : decode cX7_readInn 136 = .ok (.invokevirtual 126, 3) := by decide +kernel
theorem dX7_readInn_139 : decode cX7_readInn 139 = .ok (.ifCond .ne (-63), 3) := by decide +kernel
theorem dX7_readInn_142 : decode cX7_readInn 142 = .ok (.iconst 0, 1) := by decide +kernel
theorem dX7_readInn_143 : decode cX7_readInn 143 = .ok (.ireturn, 1) := by decide +kernel
theorem dX7_readInn_144 : decode cX7_readInn 144 = .ok (.iconst 1, 1) := by decide +kernel
theorem dX7_readInn_145 : decode cX7_readInn 145 = .ok (.ireturn, 1) := by decide +kernel
theorem dX7_readTale_0 : decode cX7_readTale 0 = .ok (.aload_n 0, 1) := by decide +kernel
theorem dX7_readTale_1 : decode cX7_readTale 1 = .ok (.getfield 98, 3) := by decide +kernel
theorem dX7_readTale_4 : decode cX7_readTale 4 = .ok (.iload_n 1, 1) := by decide +kernel
theorem dX7_readTale_5 : decode cX7_readTale 5 = .ok (.if_icmp .lt 5, 3) := by decide +kernel
theorem dX7_readTale_8 : decode cX7_readTale 8 = .ok (.iconst 0, 1) := by decide +kernel
theorem dX7_readTale_9 : decode cX7_readTale 9 = .ok (.ireturn, 1) := by decide +kernel
theorem dX7_readTale_10 : decode cX7_readTale 10 = .ok (.aload_n 0, 1) := by decide +kernel
theorem dX7_readTale_11 : decode cX7_readTale 11 = .ok (.getfield 16, 3) := by decide +kernel
theorem dX7_readTale_14 : decode cX7_readTale 14 = .ok (.aload_n 0, 1) := by decide +kernel
theorem dX7_readTale_15 : decode cX7_readTale 15 = .ok (.getfield 98, 3) := by decide +kernel
theorem dX7_readTale_18 : decode cX7_readTale 18 = .ok (.iaload, 1) := by decide +kernel
theorem dX7_readTale_19 : decode cX7_readTale 19 = .ok (.istore_n 2, 1) := by decide +kernel
theorem dX7_readTale_20 : decode cX7_readTale 20 = .ok (.aload_n 0, 1) := by decide +kernel
theorem dX7_readTale_21 : decode cX7_readTale 21 = .ok (.getfield 107, 3) := by decide +kernel
theorem dX7_readTale_24 : decode cX7_readTale 24 = .ok (.istore_n 3, 1) := by decide +kernel
theorem dX7_readTale_25 : decode cX7_readTale 25 = .ok (.aload_n 0, 1) := by decide +kernel
theorem dX7_readTale_26 : decode cX7_readTale 26 = .ok (.getfield 28, 3) := by decide +kernel
theorem dX7_readTale_29 : decode cX7_readTale 29 = .ok (.iload_n 3, 1) := by decide +kernel
theorem dX7_readTale_30 : decode cX7_readTale 30 = .ok (.iload_n 2, 1) := by decide +kernel
theorem dX7_readTale_31 : decode cX7_readTale 31 = .ok (.bipush 116, 2) := by decide +kernel
theorem dX7_readTale_33 : decode cX7_readTale 33 = .ok (.if_icmp .ne 7, 3) := by decide +kernel
theorem dX7_readTale_36 : decode cX7_readTale 36 = .ok (.iconst 0, 1) := by decide +kernel
theorem dX7_readTale_37 : decode cX7_readTale 37 = .ok (.goto 25, 3) := by decide +kernel
theorem dX7_readTale_40 : decode cX7_readTale 40 = .ok (.iload_n 2, 1) := by decide +kernel
theorem dX7_readTale_41 : decode cX7_readTale 41 = .ok (.bipush 103, 2) := by decide +kernel
theorem dX7_readTale_43 : decode cX7_readTale 43 = .ok (.if_icmp .ne 7, 3) := by decide +kernel
theorem dX7_readTale_46 : decode cX7_readTale 46 = .ok (.iconst 1, 1) := by decide +kernel
theorem dX7_readTale_47 : decode cX7_readTale 47 = .ok (.goto 15, 3) := by decide +kernel
theorem dX7_readTale_50 : decode cX7_readTale 50 = .ok (.iload_n 2, 1) := by decide +kernel
theorem dX7_readTale_51 : decode cX7_readTale 51 = .ok (.bipush 119, 2) := by decide +kernel
theorem dX7_readTale_53 : decode cX7_readTale 53 = .ok (.if_icmp .ne 7, 3) := by decide +kernel
theorem dX7_readTale_56 : decode cX7_readTale 56 = .ok (.iconst 2, 1) := by decide +kernel
theorem dX7_readTale_57 : decode cX7_readTale 57 = .ok (.goto 5, 3) := by decide +kernel
theorem dX7_readTale_60 : decode cX7_readTale 60 = .ok (.bipush (-9), 2) := by decide +kernel
theorem dX7_readTale_62 : decode cX7_readTale 62 = .ok (.iastore, 1) := by decide +kernel
theorem dX7_readTale_63 : decode cX7_readTale 63 = .ok (.aload_n 0, 1) := by decide +kernel
theorem dX7_readTale_64 : decode cX7_readTale 64 = .ok (.getfield 28, 3) := by decide +kernel
theorem dX7_readTale_67 : decode cX7_readTale 67 = .ok (.iload_n 3, 1) := by decide +kernel
theorem dX7_readTale_68 : decode cX7_readTale 68 = .ok (.iaload, 1) := by decide +kernel
theorem dX7_readTale_69 : decode cX7_readTale 69 = .ok (.bipush (-9), 2) := by decide +kernel
theorem dX7_readTale_71 : decode cX7_readTale 71 = .ok (.if_icmp .ne 5, 3) := by decide +kernel
theorem dX7_readTale_74 : decode cX7_readTale 74 = .ok (.iconst 0, 1) := by decide +kernel
theorem dX7_readTale_75 : decode cX7_readTale 75 = .ok (.ireturn, 1) := by decide +kernel
theorem dX7_readTale_76 : decode cX7_readTale 76 = .ok (.aload_n 0, 1) := by decide +kernel
theorem dX7_readTale_77 : decode cX7_readTale 77 = .ok (.dup, 1) := by decide +kernel
theorem dX7_readTale_78 : decode cX7_readTale 78 = .ok (.getfield 98, 3) := by decide +kernel
theorem dX7_readTale_81 : decode cX7_readTale 81 = .ok (.iconst 1, 1) := by decide +kernel
theorem dX7_readTale_82 : decode cX7_readTale 82 = .ok (.iadd, 1) := by decide +kernel
theorem dX7_readTale_83 : decode cX7_readTale 83 = .ok (.putfield 98, 3) := by decide +kernel
theorem dX7_readTale_86 : decode cX7_readTale 86 = .ok (.aload_n 0, 1) := by decide +kernel
theorem dX7_readTale_87 : decode cX7_readTale 87 = .ok (.getfield 31, 3) := by decide +kernel
theorem dX7_readTale_90 : decode cX7_readTale 90 = .ok (.iload_n 3, 1) := by decide +kernel
theorem dX7_readTale_91 : decode cX7_readTale 91 = .ok (.aload_n 0, 1) := by decide +kernel
theorem dX7_readTale_92 : decode cX7_readTale 92 = .ok (.aload_n 0, 1) := by decide +kernel
theorem dX7_readTale_93 : decode cX7_readTale 93 = .ok (.getfield 98, 3) := by decide +kernel
theorem dX7_readTale_96 : decode cX7_readTale 96 = .ok (.iload_n 1, 1) := by decide +kernel
theorem dX7_readTale_97 : decode cX7_readTale 97 = .ok (.invokevirtual 122, 3) := by decide +kernel
theorem dX7_readTale_100 : decode cX7_readTale 100 = .ok (.iastore, 1) := by decide +kernel
theorem dX7_readTale_101 : decode cX7_readTale 101 = .ok (.aload_n 0, 1) := by decide +kernel
theorem dX7_readTale_102 : decode cX7_readTale 102 = .ok (.getfield 31, 3) := by decide +kernel
theorem dX7_readTale_105 : decode cX7_readTale 105 = .ok (.iload_n 3, 1) := by decide +kernel
theorem dX7_readTale_106 : decode cX7_readTale 106 = .ok (.iaload, 1) := by decide +kernel
theorem dX7_readTale_107 : decode cX7_readTale 107 = .ok (.iconst 0, 1) := by decide +kernel
theorem dX7_readTale_108 : decode cX7_readTale 108 = .ok (.aload_n 0, 1) := by decide +kernel
theorem dX7_readTale_109 : decode cX7_readTale 109 = .ok (.getfield 104, 3) := by decide +kernel
theorem dX7_readTale_112 : decode cX7_readTale 112 = .ok (.iconst 1, 1) := by decide +kernel
theorem dX7_readTale_113 : decode cX7_readTale 113 = .ok (.isub, 1) := by decide +kernel
theorem dX7_readTale_114 : decode cX7_readTale 114 = .ok (.invokestatic 73, 3) := by decide +kernel
theorem dX7_readTale_117 : decode cX7_readTale 117 = .ok (.ifCond .ne 5, 3) := by decide +kernel
theorem dX7_readTale_120 : decode cX7_readTale 120 = .ok (.iconst 0, 1) := by decide +kernel
theorem dX7_readTale_121 : decode cX7_readTale 121 = .ok (.ireturn, 1) := by decide +kernel
theorem dX7_readTale_122 : decode cX7_readTale 122 = .ok (.aload_n 0, 1) := by decide +kernel
theorem dX7_readTale_123 : decode cX7_readTale 123 = .ok (.dup, 1) := by decide +kernel
theorem dX7_readTale_124 : decode cX7_readTale 124 = .ok (.getfield 98, 3) := by decide +kernel
theorem dX7_readTale_127 : decode cX7_readTale 127 = .ok (.iconst 1, 1) := by decide +kernel
theorem dX7_readTale_128 : decode cX7_readTale 128 = .ok (.iadd, 1) := by decide +kernel
theorem dX7_readTale_129 : decode cX7_readTale 129 = .ok (.putfield 98, 3) := by decide +kernel
theorem dX7_readTale_132 : decode cX7_readTale 132 = .ok (.aload_n 0, 1) := by decide +kernel
theorem dX7_readTale_133 : decode cX7_readTale 133 = .ok (.aload_n 0, 1) := by decide +kernel
theorem dX7_readTale_134 : decode cX7_readTale 134 = .ok (.getfield 98, 3) := by decide +kernel
theorem dX7_readTale_137 : decode cX7_readTale 137 = .ok (.iload_n 1, 1) := by decide +kernel
theorem dX7_readTale_138 : decode cX7_readTale 138 = .ok (.invokevirtual 122, 3) := by decide +kernel
theorem dX7_readTale_141 : decode cX7_readTale 141 = .ok (.istore 4, 2) := by decide +kernel
theorem dX7_readTale_143 : decode cX7_readTale 143 = .ok (.aload_n 0, 1) := by decide +kernel
theorem dX7_readTale_144 : decode cX7_readTale 144 = .ok (.aload_n 0, 1) := by decide +kernel
theorem dX7_readTale_145 : decode cX7_readTale 145 = .ok (.getfield 98, 3) := by decide +kernel
theorem dX7_readTale_148 : decode cX7_readTale 148 = .ok (.iconst 1, 1) := by decide +kernel
theorem dX7_readTale_149 : decode cX7_readTale 149 = .ok (.iadd, 1) := by decide +kernel
theorem dX7_readTale_150 : decode cX7_readTale 150 = .ok (.iload_n 1, 1) := by decide +kernel
theorem dX7_readTale_151 : decode cX7_readTale 151 = .ok (.invokevirtual 122, 3) := by decide +kernel
theorem dX7_readTale_154 : decode cX7_readTale 154 = .ok (.istore 5, 2) := by decide +kernel
theorem dX7_readTale_156 : decode cX7_readTale 156 = .ok (.iload 4, 2) := by decide +kernel
theorem dX7_readTale_158 : decode cX7_readTale 158 = .ok (.bipush (-9), 2) := by decide +kernel
theorem dX7_readTale_160 : decode cX7_readTale 160 = .ok (.if_icmp .eq 10, 3) := by decide +kernel
theorem dX7_readTale_163 : decode cX7_readTale 163 = .ok (.iload 5, 2) := by decide +kernel
theorem dX7_readTale_165 : decode cX7_readTale 165 = .ok (.bipush (-9), 2) := by decide +kernel
theorem dX7_readTale_167 : decode cX7_readTale 167 = .ok (.if_icmp .ne 26, 3) := by decide +kernel
theorem dX7_readTale_170 : decode cX7_readTale 170 = .ok (.aload_n 0, 1) := by decide +kernel
theorem dX7_readTale_171 : decode cX7_readTale 171 = .ok (.dup, 1) := by decide +kernel
theorem dX7_readTale_172 : decode cX7_readTale 172 = .ok (.getfield 98, 3) := by decide +kernel
theorem dX7_readTale_175 : decode cX7_readTale 175 = .ok (.iload 4, 2) := by decide +kernel
theorem dX7_readTale_177 : decode cX7_readTale 177 = .ok (.bipush (-9), 2) := by decide +kernel
theorem dX7_readTale_179 : decode cX7_readTale 179 = .ok (.if_icmp .ne 7, 3) := by decide +kernel
theorem dX7_readTale_182 : decode cX7_readTale 182 = .ok (.iconst 0, 1) := by decide +kernel
theorem dX7_readTale_183 : decode cX7_readTale 183 = .ok (.goto 4, 3) := by decide +kernel
theorem dX7_readTale_186 : decode cX7_readTale 186 = .ok (.iconst 1, 1) := by decide +kernel
theorem dX7_readTale_187 : decode cX7_readTale 187 = .ok (.iadd, 1) := by decide +kernel
theorem dX7_readTale_188 : decode cX7_readTale 188 = .ok (.putfield 98, 3) := by decide +kernel
theorem dX7_readTale_191 : decode cX7_readTale 191 = .ok (.iconst 0, 1) := by decide +kernel
theorem dX7_readTale_192 : decode cX7_readTale 192 = .ok (.ireturn, 1) := by decide +kernel
theorem dX7_readTale_193 : decode cX7_readTale 193 = .ok (.aload_n 0, 1) := by decide +kernel
theorem dX7_readTale_194 : decode cX7_readTale 194 = .ok (.getfield 34, 3) := by decide +kernel
theorem dX7_readTale_197 : decode cX7_readTale 197 = .ok (.iload_n 3, 1) := by decide +kernel
theorem dX7_readTale_198 : decode cX7_readTale 198 = .ok (.bipush 10, 2) := by decide +kernel
theorem dX7_readTale_200 : decode cX7_readTale 200 = .ok (.iload 4, 2) := by decide +kernel
theorem dX7_readTale_202 : decode cX7_readTale 202 = .ok (.imul, 1) := by decide +kernel
theorem dX7_readTale_203 : decode cX7_readTale 203 = .ok (.iload 5, 2) := by decide +kernel
theorem dX7_readTale_205 : decode cX7_readTale 205 = .ok (.iadd, 1) := by decide +kernel
theorem dX7_readTale_206 : decode cX7_readTale 206 = .ok (.iastore, 1) := by decide +kernel
theorem dX7_readTale_207 : decode cX7_readTale 207 = .ok (.aload_n 0, 1) := by decide +kernel
theorem dX7_readTale_208 : decode cX7_readTale 208 = .ok (.getfield 34, 3) := by decide +kernel
theorem dX7_readTale_211 : decode cX7_readTale 211 = .ok (.iload_n 3, 1) := by decide +kernel
theorem dX7_readTale_212 : decode cX7_readTale 212 = .ok (.iaload, 1) := by decide +kernel
theorem dX7_readTale_213 : decode cX7_readTale 213 = .ok (.ifCond .ne 5, 3) := by decide +kernel
theorem dX7_readTale_216 : decode cX7_readTale 216 = .ok (.iconst 0, 1) := by decide +kernel
theorem dX7_readTale_217 : decode cX7_readTale 217 = .ok (.ireturn, 1) := by decide +kernel
theorem dX7_readTale_218 : decode cX7_readTale 218 = .ok (.aload_n 0, 1) := by decide +kernel
theorem dX7_readTale_219 : decode cX7_readTale 219 = .ok (.dup, 1) := by decide +kernel
theorem dX7_readTale_220 : decode cX7_readTale 220 = .ok (.getfield 98, 3) := by decide +kernel
theorem dX7_readTale_223 : decode cX7_readTale 223 = .ok (.iconst 2, 1) := by decide +kernel
theorem dX7_readTale_224 : decode cX7_readTale 224 = .ok (.iadd, 1) := by decide +kernel
theorem dX7_readTale_225 : decode cX7_readTale 225 = .ok (.putfield 98, 3) := by decide +kernel
theorem dX7_readTale_228 : decode cX7_readTale 228 = .ok (.aload_n 0, 1) := by decide +kernel
theorem dX7_readTale_229 : decode cX7_readTale 229 = .ok (.dup, 1) := by decide +kernel
theorem dX7_readTale_230 : decode cX7_readTale 230 = .ok (.getfield 107, 3) := by decide +kernel
theorem dX7_readTale_233 : decode cX7_readTale 233 = .ok (.iconst 1, 1) := by decide +kernel
theorem dX7_readTale_234 : decode cX7_readTale 234 = .ok (.iadd, 1) := by decide +kernel
theorem dX7_readTale_235 : decode cX7_readTale 235 = .ok (.putfield 107, 3) := by decide +kernel
theorem dX7_readTale_238 : decode cX7_readTale 238 = .ok (.iconst 1, 1) := by decide +kernel
theorem dX7_readTale_239 : decode cX7_readTale 239 = .ok (.ireturn, 1) := by decide +kernel
theorem dX7_chooseNone_0 : decode cX7_chooseNone 0 = .ok (.iconst 0, 1) := by decide +kernel
theorem dX7_chooseNone_1 : decode cX7_chooseNone 1 = .ok (.istore_n 1, 1) := by decide +kernel
theorem dX7_chooseNone_2 : decode cX7_chooseNone 2 = .ok (.iload_n 1, 1) := by decide +kernel
theorem dX7_chooseNone_3 : decode cX7_chooseNone 3 = .ok (.iconst 5, 1) := by decide +kernel
theorem dX7_chooseNone_4 : decode cX7_chooseNone 4 = .ok (.if_icmp .ge 17, 3) := by decide +kernel
theorem dX7_chooseNone_7 : decode cX7_chooseNone 7 = .ok (.aload_n 0, 1) := by decide +kernel
theorem dX7_chooseNone_8 : decode cX7_chooseNone 8 = .ok (.getfield 43, 3) := by decide +kernel
theorem dX7_chooseNone_11 : decode cX7_chooseNone 11 = .ok (.iload_n 1, 1) := by decide +kernel
theorem dX7_chooseNone_12 : decode cX7_chooseNone 12 = .ok (.bipush (-9), 2) := by decide +kernel
theorem dX7_chooseNone_14 : decode cX7_chooseNone 14 = .ok (.iastore, 1) := by decide +kernel
theorem dX7_chooseNone_15 : decode cX7_chooseNone 15 = .ok (.iinc 1 1, 3) := by decide +kernel
theorem dX7_chooseNone_18 : decode cX7_chooseNone 18 = .ok (.goto (-16), 3) := by decide +kernel
theorem dX7_chooseNone_21 : decode cX7_chooseNone 21 = .ok (.return_, 1) := by decide +kernel
theorem dX7_countTold_0 : decode cX7_countTold 0 = .ok (.iconst 0, 1) := by decide +kernel
theorem dX7_countTold_1 : decode cX7_countTold 1 = .ok (.istore_n 1, 1) := by decide +kernel
theorem dX7_countTold_2 : decode cX7_countTold 2 = .ok (.iload_n 1, 1) := by decide +kernel
theorem dX7_countTold_3 : decode cX7_countTold 3 = .ok (.bipush 10, 2) := by decide +kernel
theorem dX7_countTold_5 : decode cX7_countTold 5 = .ok (.if_icmp .ge 24, 3) := by decide +kernel
theorem dX7_countTold_8 : decode cX7_countTold 8 = .ok (.aload_n 0, 1) := by decide +kernel
theorem dX7_countTold_9 : decode cX7_countTold 9 = .ok (.getfield 46, 3) := by decide +kernel
theorem dX7_countTold_12 : decode cX7_countTold 12 = .ok (.iload_n 1, 1) := by decide +kernel
theorem dX7_countTold_13 : decode cX7_countTold 13 = .ok (.iconst 0, 1) := by decide +kernel
theorem dX7_countTold_14 : decode cX7_countTold 14 = .ok (.iastore, 1) := by decide +kernel
theorem dX7_countTold_15 : decode cX7_countTold 15 = .ok (.aload_n 0, 1) := by decide +kernel
theorem dX7_countTold_16 : decode cX7_countTold 16 = .ok (.getfield 49, 3) := by decide +kernel
theorem dX7_countTold_19 : decode cX7_countTold 19 = .ok (.iload_n 1, 1) := by decide +kernel
theorem dX7_countTold_20 : decode cX7_countTold 20 = .ok (.bipush (-9), 2) := by decide +kernel
theorem dX7_countTold_22 : decode cX7_countTold 22 = .ok (.iastore, 1) := by decide +kernel
theorem dX7_countTold_23 : decode cX7_countTold 23 = .ok (.iinc 1 1, 3) := by decide +kernel
theorem dX7_countTold_26 : decode cX7_countTold 26 = .ok (.goto (-24), 3) := by decide +kernel
theorem dX7_countTold_29 : decode cX7_countTold 29 = .ok (.iconst 0, 1) := by decide +kernel
theorem dX7_countTold_30 : decode cX7_countTold 30 = .ok (.istore_n 1, 1) := by decide +kernel
theorem dX7_countTold_31 : decode cX7_countTold 31 = .ok (.iload_n 1, 1) := by decide +kernel
theorem dX7_countTold_32 : decode cX7_countTold 32 = .ok (.iconst 5, 1) := by decide +kernel
theorem dX7_countTold_33 : decode cX7_countTold 33 = .ok (.aload_n 0, 1) := by decide +kernel
theorem dX7_countTold_34 : decode cX7_countTold 34 = .ok (.getfield 113, 3) := by decide +kernel
theorem dX7_countTold_37 : decode cX7_countTold 37 = .ok (.imul, 1) := by decide +kernel
theorem dX7_countTold_38 : decode cX7_countTold 38 = .ok (.if_icmp .ge 49, 3) := by decide +kernel
theorem dX7_countTold_41 : decode cX7_countTold 41 = .ok (.aload_n 0, 1) := by decide +kernel
theorem dX7_countTold_42 : decode cX7_countTold 42 = .ok (.getfield 37, 3) := by decide +kernel
theorem dX7_countTold_45 : decode cX7_countTold 45 = .ok (.iload_n 1, 1) := by decide +kernel
theorem dX7_countTold_46 : decode cX7_countTold 46 = .ok (.iaload, 1) := by decide +kernel
theorem dX7_countTold_47 : decode cX7_countTold 47 = .ok (.bipush (-9), 2) := by decide +kernel
theorem dX7_countTold_49 : decode cX7_countTold 49 = .ok (.if_icmp .eq 32, 3) := by decide +kernel
theorem dX7_countTold_52 : decode cX7_countTold 52 = .ok (.aload_n 0, 1) := by decide +kernel
theorem dX7_countTold_53 : decode cX7_countTold 53 = .ok (.getfield 46, 3) := by decide +kernel
theorem dX7_countTold_56 : decode cX7_countTold 56 = .ok (.aload_n 0, 1) := by decide +kernel
theorem dX7_countTold_57 : decode cX7_countTold 57 = .ok (.getfield 37, 3) := by decide +kernel
theorem dX7_countTold_60 : decode cX7_countTold 60 = .ok (.iload_n 1, 1) := by decide +kernel
theorem dX7_countTold_61 : decode cX7_countTold 61 = .ok (.iaload, 1) := by decide +kernel
theorem dX7_countTold_62 : decode cX7_countTold 62 = .ok (.dup2, 1) := by decide +kernel
theorem dX7_countTold_63 : decode cX7_countTold 63 = .ok (.iaload, 1) := by decide +kernel
theorem dX7_countTold_64 : decode cX7_countTold 64 = .ok (.iconst 1, 1) := by decide +kernel
theorem dX7_countTold_65 : decode cX7_countTold 65 = .ok (.iadd, 1) := by decide +kernel
theorem dX7_countTold_66 : decode cX7_countTold 66 = .ok (.iastore, 1) := by decide +kernel
theorem dX7_countTold_67 : decode cX7_countTold 67 = .ok (.aload_n 0, 1) := by decide +kernel
theorem dX7_countTold_68 : decode cX7_countTold 68 = .ok (.getfield 49, 3) := by decide +kernel
theorem dX7_countTold_71 : decode cX7_countTold 71 = .ok (.aload_n 0, 1) := by decide +kernel
theorem dX7_countTold_72 : decode cX7_countTold 72 = .ok (.getfield 37, 3) := by decide +kernel
theorem dX7_countTold_75 : decode cX7_countTold 75 = .ok (.iload_n 1, 1) := by decide +kernel
theorem dX7_countTold_76 : decode cX7_countTold 76 = .ok (.iaload, 1) := by decide +kernel
theorem dX7_countTold_77 : decode cX7_countTold 77 = .ok (.iload_n 1, 1) := by decide +kernel
theorem dX7_countTold_78 : decode cX7_countTold 78 = .ok (.iconst 5, 1) := by decide +kernel
theorem dX7_countTold_79 : decode cX7_countTold 79 = .ok (.idiv, 1) := by decide +kernel
theorem dX7_countTold_80 : decode cX7_countTold 80 = .ok (.iastore, 1) := by decide +kernel
theorem dX7_countTold_81 : decode cX7_countTold 81 = .ok (.iinc 1 1, 3) := by decide +kernel
theorem dX7_countTold_84 : decode cX7_countTold 84 = .ok (.goto (-53), 3) := by decide +kernel
theorem dX7_countTold_87 : decode cX7_countTold 87 = .ok (.return_, 1) := by decide +kernel
theorem dX7_mayBe_0 : decode cX7_mayBe 0 = .ok (.iload_n 2, 1) := by decide +kernel
theorem dX7_mayBe_1 : decode cX7_mayBe 1 = .ok (.ifCond .ne 5, 3) := by decide +kernel
theorem dX7_mayBe_4 : decode cX7_mayBe 4 = .ok (.iconst 1, 1) := by decide +kernel
theorem dX7_mayBe_5 : decode cX7_mayBe 5 = .ok (.ireturn, 1) := by decide +kernel
theorem dX7_mayBe_6 : decode cX7_mayBe 6 = .ok (.aload_n 0, 1) := by decide +kernel
theorem dX7_mayBe_7 : decode cX7_mayBe 7 = .ok (.getfield 19, 3) := by decide +kernel
theorem dX7_mayBe_10 : decode cX7_mayBe 10 = .ok (.iload_n 1, 1) := by decide +kernel
theorem dX7_mayBe_11 : decode cX7_mayBe 11 = .ok (.iaload, 1) := by decide +kernel
theorem dX7_mayBe_12 : decode cX7_mayBe 12 = .ok (.ifCond .ne 24, 3) := by decide +kernel
theorem dX7_mayBe_15 : decode cX7_mayBe 15 = .ok (.iload 4, 2) := by decide +kernel
theorem dX7_mayBe_17 : decode cX7_mayBe 17 = .ok (.iload_n 3, 1) := by decide +kernel
theorem dX7_mayBe_18 : decode cX7_mayBe 18 = .ok (.iconst 1, 1) := by decide +kernel
theorem dX7_mayBe_19 : decode cX7_mayBe 19 = .ok (.iadd, 1) := by decide +kernel
theorem dX7_mayBe_20 : decode cX7_mayBe 20 = .ok (.aload_n 0, 1) := by decide +kernel
theorem dX7_mayBe_21 : decode cX7_mayBe 21 = .ok (.getfield 110, 3) := by decide +kernel
theorem dX7_mayBe_24 : decode cX7_mayBe 24 = .ok (.iadd, 1) := by decide +kernel
theorem dX7_mayBe_25 : decode cX7_mayBe 25 = .ok (.if_icmp .lt 7, 3) := by decide +kernel
theorem dX7_mayBe_28 : decode cX7_mayBe 28 = .ok (.iconst 1, 1) := by decide +kernel
theorem dX7_mayBe_29 : decode cX7_mayBe 29 = .ok (.goto 30, 3) := by decide +kernel
theorem dX7_mayBe_32 : decode cX7_mayBe 32 = .ok (.iconst 0, 1) := by decide +kernel
theorem dX7_mayBe_33 : decode cX7_mayBe 33 = .ok (.goto 26, 3) := by decide +kernel
theorem dX7_mayBe_36 : decode cX7_mayBe 36 = .ok (.aload_n 0, 1) := by decide +kernel
theorem dX7_mayBe_37 : decode cX7_mayBe 37 = .ok (.getfield 19, 3) := by decide +kernel
theorem dX7_mayBe_40 : decode cX7_mayBe 40 = .ok (.iload_n 1, 1) := by decide +kernel
theorem dX7_mayBe_41 : decode cX7_mayBe 41 = .ok (.iaload, 1) := by decide +kernel
theorem dX7_mayBe_42 : decode cX7_mayBe 42 = .ok (.iconst 1, 1) := by decide +kernel
theorem dX7_mayBe_43 : decode cX7_mayBe 43 = .ok (.if_icmp .ne 15, 3) := by decide +kernel
theorem dX7_mayBe_46 : decode cX7_mayBe 46 = .ok (.iload_n 3, 1) := by decide +kernel
theorem dX7_mayBe_47 : decode cX7_mayBe 47 = .ok (.iload 4, 2) := by decide +kernel
theorem dX7_mayBe_49 : decode cX7_mayBe 49 = .ok (.iconst 1, 1) := by decide +kernel
theorem dX7_mayBe_50 : decode cX7_mayBe 50 = .ok (.isub, 1) := by decide +kernel
theorem dX7_mayBe_51 : decode cX7_mayBe 51 = .ok (.if_icmp .eq 7, 3) := by decide +kernel
theorem dX7_mayBe_54 : decode cX7_mayBe 54 = .ok (.iconst 1, 1) := by decide +kernel
theorem dX7_mayBe_55 : decode cX7_mayBe 55 = .ok (.goto 4, 3) := by decide +kernel
theorem dX7_mayBe_58 : decode cX7_mayBe 58 = .ok (.iconst 0, 1) := by decide +kernel
theorem dX7_mayBe_59 : decode cX7_mayBe 59 = .ok (.ireturn, 1) := by decide +kernel
theorem dX7_mayNow_0 : decode cX7_mayNow 0 = .ok (.aload_n 0, 1) := by decide +kernel
theorem dX7_mayNow_1 : decode cX7_mayNow 1 = .ok (.iload_n 1, 1) := by decide +kernel
theorem dX7_mayNow_2 : decode cX7_mayNow 2 = .ok (.aload_n 0, 1) := by decide +kernel
theorem dX7_mayNow_3 : decode cX7_mayNow 3 = .ok (.getfield 46, 3) := by decide +kernel
theorem dX7_mayNow_6 : decode cX7_mayNow 6 = .ok (.iload_n 1, 1) := by decide +kernel
theorem dX7_mayNow_7 : decode cX7_mayNow 7 = .ok (.iaload, 1) := by decide +kernel
theorem dX7_mayNow_8 : decode cX7_mayNow 8 = .ok (.aload_n 0, 1) := by decide +kernel
theorem dX7_mayNow_9 : decode cX7_mayNow 9 = .ok (.getfield 49, 3) := by decide +kernel
theorem dX7_mayNow_12 : decode cX7_mayNow 12 = .ok (.iload_n 1, 1) := by decide +kernel
theorem dX7_mayNow_13 : decode cX7_mayNow 13 = .ok (.iaload, 1) := by decide +kernel
theorem dX7_mayNow_14 : decode cX7_mayNow 14 = .ok (.aload_n 0, 1) := by decide +kernel
theorem dX7_mayNow_15 : decode cX7_mayNow 15 = .ok (.getfield 113, 3) := by decide +kernel
theorem dX7_mayNow_18 : decode cX7_mayNow 18 = .ok (.invokevirtual 129, 3) := by decide +kernel
theorem dX7_mayNow_21 : decode cX7_mayNow 21 = .ok (.ireturn, 1) := by decide +kernel
theorem dX7_tallBy_0 : decode cX7_tallBy 0 = .ok (.aload_n 0, 1) := by decide +kernel
theorem dX7_tallBy_1 : decode cX7_tallBy 1 = .ok (.getfield 19, 3) := by decide +kernel
theorem dX7_tallBy_4 : decode cX7_tallBy 4 = .ok (.iload_n 1, 1) := by decide +kernel
theorem dX7_tallBy_5 : decode cX7_tallBy 5 = .ok (.iaload, 1) := by decide +kernel
theorem dX7_tallBy_6 : decode cX7_tallBy 6 = .ok (.ifCond .ne 12, 3) := by decide +kernel
theorem dX7_tallBy_9 : decode cX7_tallBy 9 = .ok (.aload_n 0, 1) := by decide +kernel
theorem dX7_tallBy_10 : decode cX7_tallBy 10 = .ok (.getfield 25, 3) := by decide +kernel
theorem dX7_tallBy_13 : decode cX7_tallBy 13 = .ok (.iload_n 1, 1) := by decide +kernel
theorem dX7_tallBy_14 : decode cX7_tallBy 14 = .ok (.iaload, 1) := by decide +kernel
theorem dX7_tallBy_15 : decode cX7_tallBy 15 = .ok (.goto 37, 3) := by decide +kernel
theorem dX7_tallBy_18 : decode cX7_tallBy 18 = .ok (.aload_n 0, 1) := by decide +kernel
theorem dX7_tallBy_19 : decode cX7_tallBy 19 = .ok (.getfield 19, 3) := by decide +kernel
theorem dX7_tallBy_22 : decode cX7_tallBy 22 = .ok (.iload_n 1, 1) := by decide +kernel
theorem dX7_tallBy_23 : decode cX7_tallBy 23 = .ok (.iaload, 1) := by decide +kernel
theorem dX7_tallBy_24 : decode cX7_tallBy 24 = .ok (.iconst 1, 1) := by decide +kernel
theorem dX7_tallBy_25 : decode cX7_tallBy 25 = .ok (.if_icmp .ne 17, 3) := by decide +kernel
theorem dX7_tallBy_28 : decode cX7_tallBy 28 = .ok (.aload_n 0, 1) := by decide +kernel
theorem dX7_tallBy_29 : decode cX7_tallBy 29 = .ok (.getfield 25, 3) := by decide +kernel
theorem dX7_tallBy_32 : decode cX7_tallBy 32 = .ok (.iload_n 1, 1) := by decide +kernel
theorem dX7_tallBy_33 : decode cX7_tallBy 33 = .ok (.iaload, 1) := by decide +kernel
theorem dX7_tallBy_34 : decode cX7_tallBy 34 = .ok (.bipush 10, 2) := by decide +kernel
theorem dX7_tallBy_36 : decode cX7_tallBy 36 = .ok (.iload_n 2, 1) := by decide +kernel
theorem dX7_tallBy_37 : decode cX7_tallBy 37 = .ok (.imul, 1) := by decide +kernel
theorem dX7_tallBy_38 : decode cX7_tallBy 38 = .ok (.iadd, 1) := by decide +kernel
theorem dX7_tallBy_39 : decode cX7_tallBy 39 = .ok (.goto 13, 3) := by decide +kernel
theorem dX7_tallBy_42 : decode cX7_tallBy 42 = .ok (.aload_n 0, 1) := by decide +kernel
theorem dX7_tallBy_43 : decode cX7_tallBy 43 = .ok (.getfield 25, 3) := by decide +kernel
theorem dX7_tallBy_46 : decode cX7_tallBy 46 = .ok (.iload_n 1, 1) := by decide +kernel
theorem dX7_tallBy_47 : decode cX7_tallBy 47 = .ok (.iaload, 1) := by decide +kernel
theorem dX7_tallBy_48 : decode cX7_tallBy 48 = .ok (.sipush 900, 3) := by decide +kernel
theorem dX7_tallBy_51 : decode cX7_tallBy 51 = .ok (.iadd, 1) := by decide +kernel
theorem dX7_tallBy_52 : decode cX7_tallBy 52 = .ok (.ireturn, 1) := by decide +kernel
theorem dX7_tallNow_0 : decode cX7_tallNow 0 = .ok (.aload_n 0, 1) := by decide +kernel
theorem dX7_tallNow_1 : decode cX7_tallNow 1 = .ok (.iload_n 1, 1) := by decide +kernel
theorem dX7_tallNow_2 : decode cX7_tallNow 2 = .ok (.aload_n 0, 1) := by decide +kernel
theorem dX7_tallNow_3 : decode cX7_tallNow 3 = .ok (.getfield 46, 3) := by decide +kernel
theorem dX7_tallNow_6 : decode cX7_tallNow 6 = .ok (.iload_n 1, 1) := by decide +kernel
theorem dX7_tallNow_7 : decode cX7_tallNow 7 = .ok (.iaload, 1) := by decide +kernel
theorem dX7_tallNow_8 : decode cX7_tallNow 8 = .ok (.invokevirtual 133, 3) := by decide +kernel
theorem dX7_tallNow_11 : decode cX7_tallNow 11 = .ok (.ireturn, 1) := by decide +kernel
theorem dX7_ofTale_0 : decode cX7_ofTale 0 = .ok (.aload_n 0, 1) := by decide +kernel
theorem dX7_ofTale_1 : decode cX7_ofTale 1 = .ok (.iload_n 1, 1) := by decide +kernel
theorem dX7_ofTale_2 : decode cX7_ofTale 2 = .ok (.invokevirtual 136, 3) := by decide +kernel
theorem dX7_ofTale_5 : decode cX7_ofTale 5 = .ok (.ifCond .ne 5, 3) := by decide +kernel
theorem dX7_ofTale_8 : decode cX7_ofTale 8 = .ok (.iconst (-1), 1) := by decide +kernel
theorem dX7_ofTale_9 : decode cX7_ofTale 9 = .ok (.ireturn, 1) := by decide +kernel
theorem dX7_ofTale_10 : decode cX7_ofTale 10 = .ok (.iload_n 2, 1) := by decide +kernel
theorem dX7_ofTale_11 : decode cX7_ofTale 11 = .ok (.tableswitch 96 0 6 #[41, 48, 55, 62, 69, 76, 90], 41) := by decide +kernel
theorem dX7_ofTale_52 : decode cX7_ofTale 52 = .ok (.aload_n 0, 1) := by decide +kernel
theorem dX7_ofTale_53 : decode cX7_ofTale 53 = .ok (.getfield 19, 3) := by decide +kernel
theorem dX7_ofTale_56 : decode cX7_ofTale 56 = .ok (.iload_n 1, 1) := by decide +kernel
theorem dX7_ofTale_57 : decode cX7_ofTale 57 = .ok (.iaload, 1) := by decide +kernel
theorem dX7_ofTale_58 : decode cX7_ofTale 58 = .ok (.ireturn, 1) := by decide +kernel
theorem dX7_ofTale_59 : decode cX7_ofTale 59 = .ok (.aload_n 0, 1) := by decide +kernel
theorem dX7_ofTale_60 : decode cX7_ofTale 60 = .ok (.getfield 22, 3) := by decide +kernel
theorem dX7_ofTale_63 : decode cX7_ofTale 63 = .ok (.iload_n 1, 1) := by decide +kernel
theorem dX7_ofTale_64 : decode cX7_ofTale 64 = .ok (.iaload, 1) := by decide +kernel
theorem dX7_ofTale_65 : decode cX7_ofTale 65 = .ok (.ireturn, 1) := by decide +kernel
theorem dX7_ofTale_66 : decode cX7_ofTale 66 = .ok (.aload_n 0, 1) := by decide +kernel
theorem dX7_ofTale_67 : decode cX7_ofTale 67 = .ok (.getfield 25, 3) := by decide +kernel
theorem dX7_ofTale_70 : decode cX7_ofTale 70 = .ok (.iload_n 1, 1) := by decide +kernel
theorem dX7_ofTale_71 : decode cX7_ofTale 71 = .ok (.iaload, 1) := by decide +kernel
theorem dX7_ofTale_72 : decode cX7_ofTale 72 = .ok (.ireturn, 1) := by decide +kernel
theorem dX7_ofTale_73 : decode cX7_ofTale 73 = .ok (.aload_n 0, 1) := by decide +kernel
theorem dX7_ofTale_74 : decode cX7_ofTale 74 = .ok (.getfield 46, 3) := by decide +kernel
theorem dX7_ofTale_77 : decode cX7_ofTale 77 = .ok (.iload_n 1, 1) := by decide +kernel
theorem dX7_ofTale_78 : decode cX7_ofTale 78 = .ok (.iaload, 1) := by decide +kernel
theorem dX7_ofTale_79 : decode cX7_ofTale 79 = .ok (.ireturn, 1) := by decide +kernel
theorem dX7_ofTale_80 : decode cX7_ofTale 80 = .ok (.aload_n 0, 1) := by decide +kernel
theorem dX7_ofTale_81 : decode cX7_ofTale 81 = .ok (.getfield 49, 3) := by decide +kernel
theorem dX7_ofTale_84 : decode cX7_ofTale 84 = .ok (.iload_n 1, 1) := by decide +kernel
theorem dX7_ofTale_85 : decode cX7_ofTale 85 = .ok (.iaload, 1) := by decide +kernel
theorem dX7_ofTale_86 : decode cX7_ofTale 86 = .ok (.ireturn, 1) := by decide +kernel
theorem dX7_ofTale_87 : decode cX7_ofTale 87 = .ok (.aload_n 0, 1) := by decide +kernel
theorem dX7_ofTale_88 : decode cX7_ofTale 88 = .ok (.iload_n 1, 1) := by decide +kernel
theorem dX7_ofTale_89 : decode cX7_ofTale 89 = .ok (.invokevirtual 139, 3) := by decide +kernel
theorem dX7_ofTale_92 : decode cX7_ofTale 92 = .ok (.ifCond .eq 7, 3) := by decide +kernel
theorem dX7_ofTale_95 : decode cX7_ofTale 95 = .ok (.iconst 1, 1) := by decide +kernel
theorem dX7_ofTale_96 : decode cX7_ofTale 96 = .ok (.goto 4, 3) := by decide +kernel
theorem dX7_ofTale_99 : decode cX7_ofTale 99 = .ok (.iconst 0, 1) := by decide +kernel
theorem dX7_ofTale_100 : decode cX7_ofTale 100 = .ok (.ireturn, 1) := by decide +kernel
theorem dX7_ofTale_101 : decode cX7_ofTale 101 = .ok (.aload_n 0, 1) := by decide +kernel
theorem dX7_ofTale_102 : decode cX7_ofTale 102 = .ok (.iload_n 1, 1) := by decide +kernel
theorem dX7_ofTale_103 : decode cX7_ofTale 103 = .ok (.invokevirtual 142, 3) := by decide +kernel
theorem dX7_ofTale_106 : decode cX7_ofTale 106 = .ok (.ireturn, 1) := by decide +kernel
theorem dX7_ofTale_107 : decode cX7_ofTale 107 = .ok (.bipush (-2), 2) := by decide +kernel
theorem dX7_ofTale_109 : decode cX7_ofTale 109 = .ok (.ireturn, 1) := by decide +kernel
theorem dX7_memory_0 : decode cX7_memory 0 = .ok (.iload_n 1, 1) := by decide +kernel
theorem dX7_memory_1 : decode cX7_memory 1 = .ok (.iconst 0, 1) := by decide +kernel
theorem dX7_memory_2 : decode cX7_memory 2 = .ok (.bipush 99, 2) := by decide +kernel
theorem dX7_memory_4 : decode cX7_memory 4 = .ok (.invokestatic 73, 3) := by decide +kernel
theorem dX7_memory_7 : decode cX7_memory 7 = .ok (.ifCond .ne 6, 3) := by decide +kernel
theorem dX7_memory_10 : decode cX7_memory 10 = .ok (.bipush (-2), 2) := by decide +kernel
theorem dX7_memory_12 : decode cX7_memory 12 = .ok (.ireturn, 1) := by decide +kernel
theorem dX7_memory_13 : decode cX7_memory 13 = .ok (.aload_n 0, 1) := by decide +kernel
theorem dX7_memory_14 : decode cX7_memory 14 = .ok (.getfield 77, 3) := by decide +kernel
theorem dX7_memory_17 : decode cX7_memory 17 = .ok (.ifCond .ne 6, 3) := by decide +kernel
theorem dX7_memory_20 : decode cX7_memory 20 = .ok (.bipush (-3), 2) := by decide +kernel
theorem dX7_memory_22 : decode cX7_memory 22 = .ok (.ireturn, 1) := by decide +kernel
theorem dX7_memory_23 : decode cX7_memory 23 = .ok (.aload_n 0, 1) := by decide +kernel
theorem dX7_memory_24 : decode cX7_memory 24 = .ok (.getfield 110, 3) := by decide +kernel
theorem dX7_memory_27 : decode cX7_memory 27 = .ok (.istore_n 2, 1) := by decide +kernel
theorem dX7_memory_28 : decode cX7_memory 28 = .ok (.aload_n 0, 1) := by decide +kernel
theorem dX7_memory_29 : decode cX7_memory 29 = .ok (.iload_n 1, 1) := by decide +kernel
theorem dX7_memory_30 : decode cX7_memory 30 = .ok (.putfield 110, 3) := by decide +kernel
theorem dX7_memory_33 : decode cX7_memory 33 = .ok (.iload_n 2, 1) := by decide +kernel
theorem dX7_memory_34 : decode cX7_memory 34 = .ok (.ireturn, 1) := by decide +kernel
theorem dX7_choose_0 : decode cX7_choose 0 = .ok (.aload_n 0, 1) := by decide +kernel
theorem dX7_choose_1 : decode cX7_choose 1 = .ok (.iload_n 1, 1) := by decide +kernel
theorem dX7_choose_2 : decode cX7_choose 2 = .ok (.invokevirtual 145, 3) := by decide +kernel
theorem dX7_choose_5 : decode cX7_choose 5 = .ok (.ifCond .eq 17, 3) := by decide +kernel
theorem dX7_choose_8 : decode cX7_choose 8 = .ok (.iload_n 2, 1) := by decide +kernel
theorem dX7_choose_9 : decode cX7_choose 9 = .ok (.bipush (-9), 2) := by decide +kernel
theorem dX7_choose_11 : decode cX7_choose 11 = .ok (.if_icmp .eq 13, 3) := by decide +kernel
theorem dX7_choose_14 : decode cX7_choose 14 = .ok (.aload_n 0, 1) := by decide +kernel
theorem dX7_choose_15 : decode cX7_choose 15 = .ok (.iload_n 2, 1) := by decide +kernel
theorem dX7_choose_16 : decode cX7_choose 16 = .ok (.invokevirtual 136, 3) := by decide +kernel
theorem dX7_choose_19 : decode cX7_choose 19 = .ok (.ifCond .ne 5, 3) := by decide +kernel
theorem dX7_choose_22 : decode cX7_choose 22 = .ok (.iconst (-1), 1) := by decide +kernel
theorem dX7_choose_23 : decode cX7_choose 23 = .ok (.ireturn, 1) := by decide +kernel
theorem dX7_choose_24 : decode cX7_choose 24 = .ok (.iload_n 2, 1) := by decide +kernel
theorem dX7_choose_25 : decode cX7_choose 25 = .ok (.bipush (-9), 2) := by decide +kernel
theorem dX7_choose_27 : decode cX7_choose 27 = .ok (.if_icmp .eq 24, 3) := by decide +kernel
theorem dX7_choose_30 : decode cX7_choose 30 = .ok (.aload_n 0, 1) := by decide +kernel
theorem dX7_choose_31 : decode cX7_choose 31 = .ok (.getfield 22, 3) := by decide +kernel
theorem dX7_choose_34 : decode cX7_choose 34 = .ok (.iload_n 2, 1) := by decide +kernel
theorem dX7_choose_35 : decode cX7_choose 35 = .ok (.iaload, 1) := by decide +kernel
theorem dX7_choose_36 : decode cX7_choose 36 = .ok (.iload_n 1, 1) := by decide +kernel
theorem dX7_choose_37 : decode cX7_choose 37 = .ok (.if_icmp .ne 11, 3) := by decide +kernel
theorem dX7_choose_40 : decode cX7_choose 40 = .ok (.aload_n 0, 1) := by decide +kernel
theorem dX7_choose_41 : decode cX7_choose 41 = .ok (.iload_n 2, 1) := by decide +kernel
theorem dX7_choose_42 : decode cX7_choose 42 = .ok (.invokevirtual 139, 3) := by decide +kernel
theorem dX7_choose_45 : decode cX7_choose 45 = .ok (.ifCond .ne 6, 3) := by decide +kernel
theorem dX7_choose_48 : decode cX7_choose 48 = .ok (.bipush (-3), 2) := by decide +kernel
theorem dX7_choose_50 : decode cX7_choose 50 = .ok (.ireturn, 1) := by decide +kernel
theorem dX7_choose_51 : decode cX7_choose 51 = .ok (.aload_n 0, 1) := by decide +kernel
theorem dX7_choose_52 : decode cX7_choose 52 = .ok (.getfield 43, 3) := by decide +kernel
theorem dX7_choose_55 : decode cX7_choose 55 = .ok (.iload_n 1, 1) := by decide +kernel
theorem dX7_choose_56 : decode cX7_choose 56 = .ok (.iaload, 1) := by decide +kernel
theorem dX7_choose_57 : decode cX7_choose 57 = .ok (.istore_n 3, 1) := by decide +kernel
theorem dX7_choose_58 : decode cX7_choose 58 = .ok (.aload_n 0, 1) := by decide +kernel
theorem dX7_choose_59 : decode cX7_choose 59 = .ok (.getfield 43, 3) := by decide +kernel
theorem dX7_choose_62 : decode cX7_choose 62 = .ok (.iload_n 1, 1) := by decide +kernel
theorem dX7_choose_63 : decode cX7_choose 63 = .ok (.iload_n 2, 1) := by decide +kernel
theorem dX7_choose_64 : decode cX7_choose 64 = .ok (.iastore, 1) := by decide +kernel
theorem dX7_choose_65 : decode cX7_choose 65 = .ok (.iload_n 3, 1) := by decide +kernel
theorem dX7_choose_66 : decode cX7_choose 66 = .ok (.ireturn, 1) := by decide +kernel
theorem dX7_layTall_0 : decode cX7_layTall 0 = .ok (.iconst 0, 1) := by decide +kernel
theorem dX7_layTall_1 : decode cX7_layTall 1 = .ok (.istore_n 1, 1) := by decide +kernel
theorem dX7_layTall_2 : decode cX7_layTall 2 = .ok (.iload_n 1, 1) := by decide +kernel
theorem dX7_layTall_3 : decode cX7_layTall 3 = .ok (.aload_n 0, 1) := by decide +kernel
theorem dX7_layTall_4 : decode cX7_layTall 4 = .ok (.getfield 77, 3) := by decide +kernel
theorem dX7_layTall_7 : decode cX7_layTall 7 = .ok (.if_icmp .ge 40, 3) := by decide +kernel
theorem dX7_layTall_10 : decode cX7_layTall 10 = .ok (.aload_n 0, 1) := by decide +kernel
theorem dX7_layTall_11 : decode cX7_layTall 11 = .ok (.getfield 52, 3) := by decide +kernel
theorem dX7_layTall_14 : decode cX7_layTall 14 = .ok (.iload_n 1, 1) := by decide +kernel
theorem dX7_layTall_15 : decode cX7_layTall 15 = .ok (.aload_n 0, 1) := by decide +kernel
theorem dX7_layTall_16 : decode cX7_layTall 16 = .ok (.getfield 43, 3) := by decide +kernel
theorem dX7_layTall_19 : decode cX7_layTall 19 = .ok (.iload_n 1, 1) := by decide +kernel
theorem dX7_layTall_20 : decode cX7_layTall 20 = .ok (.iaload, 1) := by decide +kernel
theorem dX7_layTall_21 : decode cX7_layTall 21 = .ok (.bipush (-9), 2) := by decide +kernel
theorem dX7_layTall_23 : decode cX7_layTall 23 = .ok (.if_icmp .ne 7, 3) := by decide +kernel
theorem dX7_layTall_26 : decode cX7_layTall 26 = .ok (.iconst 0, 1) := by decide +kernel
theorem dX7_layTall_27 : decode cX7_layTall 27 = .ok (.goto 13, 3) := by decide +kernel
theorem dX7_layTall_30 : decode cX7_layTall 30 = .ok (.aload_n 0, 1) := by decide +kernel
theorem dX7_layTall_31 : decode cX7_layTall 31 = .ok (.aload_n 0, 1) := by decide +kernel
theorem dX7_layTall_32 : decode cX7_layTall 32 = .ok (.getfield 43, 3) := by decide +kernel
theorem dX7_layTall_35 : decode cX7_layTall 35 = .ok (.iload_n 1, 1) := by decide +kernel
theorem dX7_layTall_36 : decode cX7_layTall 36 = .ok (.iaload, 1) := by decide +kernel
theorem dX7_layTall_37 : decode cX7_layTall 37 = .ok (.invokevirtual 142, 3) := by decide +kernel
theorem dX7_layTall_40 : decode cX7_layTall 40 = .ok (.iastore, 1) := by decide +kernel
theorem dX7_layTall_41 : decode cX7_layTall 41 = .ok (.iinc 1 1, 3) := by decide +kernel
theorem dX7_layTall_44 : decode cX7_layTall 44 = .ok (.goto (-42), 3) := by decide +kernel
theorem dX7_layTall_47 : decode cX7_layTall 47 = .ok (.return_, 1) := by decide +kernel
theorem dX7_placeOf_0 : decode cX7_placeOf 0 = .ok (.iconst 0, 1) := by decide +kernel
theorem dX7_placeOf_1 : decode cX7_placeOf 1 = .ok (.istore_n 2, 1) := by decide +kernel
theorem dX7_placeOf_2 : decode cX7_placeOf 2 = .ok (.iconst 0, 1) := by decide +kernel
theorem dX7_placeOf_3 : decode cX7_placeOf 3 = .ok (.istore_n 3, 1) := by decide +kernel
theorem dX7_placeOf_4 : decode cX7_placeOf 4 = .ok (.iload_n 3, 1) := by decide +kernel
theorem dX7_placeOf_5 : decode cX7_placeOf 5 = .ok (.aload_n 0, 1) := by decide +kernel
theorem dX7_placeOf_6 : decode cX7_placeOf 6 = .ok (.getfield 77, 3) := by decide +kernel
theorem dX7_placeOf_9 : decode cX7_placeOf 9 = .ok (.if_icmp .ge 52, 3) := by decide +kernel
theorem dX7_placeOf_12 : decode cX7_placeOf 12 = .ok (.iload_n 2, 1) := by decide +kernel
theorem dX7_placeOf_13 : decode cX7_placeOf 13 = .ok (.aload_n 0, 1) := by decide +kernel
theorem dX7_placeOf_14 : decode cX7_placeOf 14 = .ok (.getfield 52, 3) := by decide +kernel
theorem dX7_placeOf_17 : decode cX7_placeOf 17 = .ok (.iload_n 3, 1) := by decide +kernel
theorem dX7_placeOf_18 : decode cX7_placeOf 18 = .ok (.iaload, 1) := by decide +kernel
theorem dX7_placeOf_19 : decode cX7_placeOf 19 = .ok (.aload_n 0, 1) := by decide +kernel
theorem dX7_placeOf_20 : decode cX7_placeOf 20 = .ok (.getfield 52, 3) := by decide +kernel
theorem dX7_placeOf_23 : decode cX7_placeOf 23 = .ok (.iload_n 1, 1) := by decide +kernel
theorem dX7_placeOf_24 : decode cX7_placeOf 24 = .ok (.iaload, 1) := by decide +kernel
theorem dX7_placeOf_25 : decode cX7_placeOf 25 = .ok (.if_icmp .gt 23, 3) := by decide +kernel
theorem dX7_placeOf_28 : decode cX7_placeOf 28 = .ok (.aload_n 0, 1) := by decide +kernel
theorem dX7_placeOf_29 : decode cX7_placeOf 29 = .ok (.getfield 52, 3) := by decide +kernel
theorem dX7_placeOf_32 : decode cX7_placeOf 32 = .ok (.iload_n 3, 1) := by decide +kernel
theorem dX7_placeOf_33 : decode cX7_placeOf 33 = .ok (.iaload, 1) := by decide +kernel
theorem dX7_placeOf_34 : decode cX7_placeOf 34 = .ok (.aload_n 0, 1) := by decide +kernel
theorem dX7_placeOf_35 : decode cX7_placeOf 35 = .ok (.getfield 52, 3) := by decide +kernel
theorem dX7_placeOf_38 : decode cX7_placeOf 38 = .ok (.iload_n 1, 1) := by decide +kernel
theorem dX7_placeOf_39 : decode cX7_placeOf 39 = .ok (.iaload, 1) := by decide +kernel
theorem dX7_placeOf_40 : decode cX7_placeOf 40 = .ok (.if_icmp .ne 12, 3) := by decide +kernel
theorem dX7_placeOf_43 : decode cX7_placeOf 43 = .ok (.iload_n 3, 1) := by decide +kernel
theorem dX7_placeOf_44 : decode cX7_placeOf 44 = .ok (.iload_n 1, 1) := by decide +kernel
theorem dX7_placeOf_45 : decode cX7_placeOf 45 = .ok (.if_icmp .ge 7, 3) := by decide +kernel
theorem dX7_placeOf_48 : decode cX7_placeOf 48 = .ok (.iconst 1, 1) := by decide +kernel
theorem dX7_placeOf_49 : decode cX7_placeOf 49 = .ok (.goto 4, 3) := by decide +kernel
theorem dX7_placeOf_52 : decode cX7_placeOf 52 = .ok (.iconst 0, 1) := by decide +kernel
theorem dX7_placeOf_53 : decode cX7_placeOf 53 = .ok (.iadd, 1) := by decide +kernel
theorem dX7_placeOf_54 : decode cX7_placeOf 54 = .ok (.istore_n 2, 1) := by decide +kernel
theorem dX7_placeOf_55 : decode cX7_placeOf 55 = .ok (.iinc 3 1, 3) := by decide +kernel
theorem dX7_placeOf_58 : decode cX7_placeOf 58 = .ok (.goto (-54), 3) := by decide +kernel
theorem dX7_placeOf_61 : decode cX7_placeOf 61 = .ok (.iload_n 2, 1) := by decide +kernel
theorem dX7_placeOf_62 : decode cX7_placeOf 62 = .ok (.ireturn, 1) := by decide +kernel
theorem dX7_inBed_0 : decode cX7_inBed 0 = .ok (.iconst 0, 1) := by decide +kernel
theorem dX7_inBed_1 : decode cX7_inBed 1 = .ok (.istore_n 1, 1) := by decide +kernel
theorem dX7_inBed_2 : decode cX7_inBed 2 = .ok (.aload_n 0, 1) := by decide +kernel
theorem dX7_inBed_3 : decode cX7_inBed 3 = .ok (.iload_n 1, 1) := by decide +kernel
theorem dX7_inBed_4 : decode cX7_inBed 4 = .ok (.invokevirtual 148, 3) := by decide +kernel
theorem dX7_inBed_7 : decode cX7_inBed 7 = .ok (.ifCond .eq 9, 3) := by decide +kernel
theorem dX7_inBed_10 : decode cX7_inBed 10 = .ok (.iinc 1 1, 3) := by decide +kernel
theorem dX7_inBed_13 : decode cX7_inBed 13 = .ok (.goto (-11), 3) := by decide +kernel
theorem dX7_inBed_16 : decode cX7_inBed 16 = .ok (.iload_n 1, 1) := by decide +kernel
theorem dX7_inBed_17 : decode cX7_inBed 17 = .ok (.ireturn, 1) := by decide +kernel
theorem dX7_night_0 : decode cX7_night 0 = .ok (.aload_n 0, 1) := by decide +kernel
theorem dX7_night_1 : decode cX7_night 1 = .ok (.getfield 77, 3) := by decide +kernel
theorem dX7_night_4 : decode cX7_night 4 = .ok (.ifCond .ne 6, 3) := by decide +kernel
theorem dX7_night_7 : decode cX7_night 7 = .ok (.bipush (-3), 2) := by decide +kernel
theorem dX7_night_9 : decode cX7_night 9 = .ok (.ireturn, 1) := by decide +kernel
theorem dX7_night_10 : decode cX7_night 10 = .ok (.aload_n 0, 1) := by decide +kernel
theorem dX7_night_11 : decode cX7_night 11 = .ok (.getfield 113, 3) := by decide +kernel
theorem dX7_night_14 : decode cX7_night 14 = .ok (.bipush 60, 2) := by decide +kernel
theorem dX7_night_16 : decode cX7_night 16 = .ok (.if_icmp .ne 6, 3) := by decide +kernel
theorem dX7_night_19 : decode cX7_night 19 = .ok (.bipush (-4), 2) := by decide +kernel
theorem dX7_night_21 : decode cX7_night 21 = .ok (.ireturn, 1) := by decide +kernel
theorem dX7_night_22 : decode cX7_night 22 = .ok (.aload_n 0, 1) := by decide +kernel
theorem dX7_night_23 : decode cX7_night 23 = .ok (.invokevirtual 151, 3) := by decide +kernel
theorem dX7_night_26 : decode cX7_night 26 = .ok (.iconst 0, 1) := by decide +kernel
theorem dX7_night_27 : decode cX7_night 27 = .ok (.istore_n 1, 1) := by decide +kernel
theorem dX7_night_28 : decode cX7_night 28 = .ok (.iload_n 1, 1) := by decide +kernel
theorem dX7_night_29 : decode cX7_night 29 = .ok (.iconst 5, 1) := by decide +kernel
theorem dX7_night_30 : decode cX7_night 30 = .ok (.if_icmp .ge 72, 3) := by decide +kernel
theorem dX7_night_33 : decode cX7_night 33 = .ok (.aload_n 0, 1) := by decide +kernel
theorem dX7_night_34 : decode cX7_night 34 = .ok (.getfield 37, 3) := by decide +kernel
theorem dX7_night_37 : decode cX7_night 37 = .ok (.iconst 5, 1) := by decide +kernel
theorem dX7_night_38 : decode cX7_night 38 = .ok (.aload_n 0, 1) := by decide +kernel
theorem dX7_night_39 : decode cX7_night 39 = .ok (.getfield 113, 3) := by decide +kernel
theorem dX7_night_42 : decode cX7_night 42 = .ok (.imul, 1) := by decide +kernel
theorem dX7_night_43 : decode cX7_night 43 = .ok (.iload_n 1, 1) := by decide +kernel
theorem dX7_night_44 : decode cX7_night 44 = .ok (.iadd, 1) := by decide +kernel
theorem dX7_night_45 : decode cX7_night 45 = .ok (.iload_n 1, 1) := by decide +kernel
theorem dX7_night_46 : decode cX7_night 46 = .ok (.aload_n 0, 1) := by decide +kernel
theorem dX7_night_47 : decode cX7_night 47 = .ok (.getfield 77, 3) := by decide +kernel
theorem dX7_night_50 : decode cX7_night 50 = .ok (.if_icmp .ge 12, 3) := by decide +kernel
theorem dX7_night_53 : decode cX7_night 53 = .ok (.aload_n 0, 1) := by decide +kernel
theorem dX7_night_54 : decode cX7_night 54 = .ok (.getfield 43, 3) := by decide +kernel
theorem dX7_night_57 : decode cX7_night 57 = .ok (.iload_n 1, 1) := by decide +kernel
theorem dX7_night_58 : decode cX7_night 58 = .ok (.iaload, 1) := by decide +kernel
theorem dX7_night_59 : decode cX7_night 59 = .ok (.goto 5, 3) := by decide +kernel
theorem dX7_night_62 : decode cX7_night 62 = .ok (.bipush (-9), 2) := by decide +kernel
theorem dX7_night_64 : decode cX7_night 64 = .ok (.iastore, 1) := by decide +kernel
theorem dX7_night_65 : decode cX7_night 65 = .ok (.aload_n 0, 1) := by decide +kernel
theorem dX7_night_66 : decode cX7_night 66 = .ok (.getfield 40, 3) := by decide +kernel
theorem dX7_night_69 : decode cX7_night 69 = .ok (.iconst 5, 1) := by decide +kernel
theorem dX7_night_70 : decode cX7_night 70 = .ok (.aload_n 0, 1) := by decide +kernel
theorem dX7_night_71 : decode cX7_night 71 = .ok (.getfield 113, 3) := by decide +kernel
theorem dX7_night_74 : decode cX7_night 74 = .ok (.imul, 1) := by decide +kernel
theorem dX7_night_75 : decode cX7_night 75 = .ok (.iload_n 1, 1) := by decide +kernel
theorem dX7_night_76 : decode cX7_night 76 = .ok (.iadd, 1) := by decide +kernel
theorem dX7_night_77 : decode cX7_night 77 = .ok (.iload_n 1, 1) := by decide +kernel
theorem dX7_night_78 : decode cX7_night 78 = .ok (.aload_n 0, 1) := by decide +kernel
theorem dX7_night_79 : decode cX7_night 79 = .ok (.getfield 77, 3) := by decide +kernel
theorem dX7_night_82 : decode cX7_night 82 = .ok (.if_icmp .ge 12, 3) := by decide +kernel
theorem dX7_night_85 : decode cX7_night 85 = .ok (.aload_n 0, 1) := by decide +kernel
theorem dX7_night_86 : decode cX7_night 86 = .ok (.getfield 52, 3) := by decide +kernel
theorem dX7_night_89 : decode cX7_night 89 = .ok (.iload_n 1, 1) := by decide +kernel
theorem dX7_night_90 : decode cX7_night 90 = .ok (.iaload, 1) := by decide +kernel
theorem dX7_night_91 : decode cX7_night 91 = .ok (.goto 4, 3) := by decide +kernel
theorem dX7_night_94 : decode cX7_night 94 = .ok (.iconst 0, 1) := by decide +kernel
theorem dX7_night_95 : decode cX7_night 95 = .ok (.iastore, 1) := by decide +kernel
theorem dX7_night_96 : decode cX7_night 96 = .ok (.iinc 1 1, 3) := by decide +kernel
theorem dX7_night_99 : decode cX7_night 99 = .ok (.goto (-71), 3) := by decide +kernel
theorem dX7_night_102 : decode cX7_night 102 = .ok (.aload_n 0, 1) := by decide +kernel
theorem dX7_night_103 : decode cX7_night 103 = .ok (.invokevirtual 154, 3) := by decide +kernel
theorem dX7_night_106 : decode cX7_night 106 = .ok (.istore_n 1, 1) := by decide +kernel
theorem dX7_night_107 : decode cX7_night 107 = .ok (.aload_n 0, 1) := by decide +kernel
theorem dX7_night_108 : decode cX7_night 108 = .ok (.dup, 1) := by decide +kernel
theorem dX7_night_109 : decode cX7_night 109 = .ok (.getfield 113, 3) := by decide +kernel
theorem dX7_night_112 : decode cX7_night 112 = .ok (.iconst 1, 1) := by decide +kernel
theorem dX7_night_113 : decode cX7_night 113 = .ok (.iadd, 1) := by decide +kernel
theorem dX7_night_114 : decode cX7_night 114 = .ok (.putfield 113, 3) := by decide +kernel
theorem dX7_night_117 : decode cX7_night 117 = .ok (.aload_n 0, 1) := by decide +kernel
theorem dX7_night_118 : decode cX7_night 118 = .ok (.invokevirtual 116, 3) := by decide +kernel
theorem dX7_night_121 : decode cX7_night 121 = .ok (.aload_n 0, 1) := by decide +kernel
theorem dX7_night_122 : decode cX7_night 122 = .ok (.invokevirtual 119, 3) := by decide +kernel
theorem dX7_night_125 : decode cX7_night 125 = .ok (.iload_n 1, 1) := by decide +kernel
theorem dX7_night_126 : decode cX7_night 126 = .ok (.ireturn, 1) := by decide +kernel
theorem dX7_isNight_0 : decode cX7_isNight 0 = .ok (.iload_n 1, 1) := by decide +kernel
theorem dX7_isNight_1 : decode cX7_isNight 1 = .ok (.ifCond .lt 15, 3) := by decide +kernel
theorem dX7_isNight_4 : decode cX7_isNight 4 = .ok (.iload_n 1, 1) := by decide +kernel
theorem dX7_isNight_5 : decode cX7_isNight 5 = .ok (.aload_n 0, 1) := by decide +kernel
theorem dX7_isNight_6 : decode cX7_isNight 6 = .ok (.getfield 113, 3) := by decide +kernel
theorem dX7_isNight_9 : decode cX7_isNight 9 = .ok (.if_icmp .ge 7, 3) := by decide +kernel
theorem dX7_isNight_12 : decode cX7_isNight 12 = .ok (.iconst 1, 1) := by decide +kernel
theorem dX7_isNight_13 : decode cX7_isNight 13 = .ok (.goto 4, 3) := by decide +kernel
theorem dX7_isNight_16 : decode cX7_isNight 16 = .ok (.iconst 0, 1) := by decide +kernel
theorem dX7_isNight_17 : decode cX7_isNight 17 = .ok (.ireturn, 1) := by decide +kernel
theorem dX7_layNight_0 : decode cX7_layNight 0 = .ok (.iconst 0, 1) := by decide +kernel
theorem dX7_layNight_1 : decode cX7_layNight 1 = .ok (.istore_n 2, 1) := by decide +kernel
theorem dX7_layNight_2 : decode cX7_layNight 2 = .ok (.iload_n 2, 1) := by decide +kernel
theorem dX7_layNight_3 : decode cX7_layNight 3 = .ok (.aload_n 0, 1) := by decide +kernel
theorem dX7_layNight_4 : decode cX7_layNight 4 = .ok (.getfield 77, 3) := by decide +kernel
theorem dX7_layNight_7 : decode cX7_layNight 7 = .ok (.if_icmp .ge 25, 3) := by decide +kernel
theorem dX7_layNight_10 : decode cX7_layNight 10 = .ok (.aload_n 0, 1) := by decide +kernel
theorem dX7_layNight_11 : decode cX7_layNight 11 = .ok (.getfield 52, 3) := by decide +kernel
theorem dX7_layNight_14 : decode cX7_layNight 14 = .ok (.iload_n 2, 1) := by decide +kernel
theorem dX7_layNight_15 : decode cX7_layNight 15 = .ok (.aload_n 0, 1) := by decide +kernel
theorem dX7_layNight_16 : decode cX7_layNight 16 = .ok (.getfield 40, 3) := by decide +kernel
theorem dX7_layNight_19 : decode cX7_layNight 19 = .ok (.iconst 5, 1) := by decide +kernel
theorem dX7_layNight_20 : decode cX7_layNight 20 = .ok (.iload_n 1, 1) := by decide +kernel
theorem dX7_layNight_21 : decode cX7_layNight 21 = .ok (.imul, 1) := by decide +kernel
theorem dX7_layNight_22 : decode cX7_layNight 22 = .ok (.iload_n 2, 1) := by decide +kernel
theorem dX7_layNight_23 : decode cX7_layNight 23 = .ok (.iadd, 1) := by decide +kernel
theorem dX7_layNight_24 : decode cX7_layNight 24 = .ok (.iaload, 1) := by decide +kernel
theorem dX7_layNight_25 : decode cX7_layNight 25 = .ok (.iastore, 1) := by decide +kernel
theorem dX7_layNight_26 : decode cX7_layNight 26 = .ok (.iinc 2 1, 3) := by decide +kernel
theorem dX7_layNight_29 : decode cX7_layNight 29 = .ok (.goto (-27), 3) := by decide +kernel
theorem dX7_layNight_32 : decode cX7_layNight 32 = .ok (.return_, 1) := by decide +kernel
theorem dX7_ofNight_0 : decode cX7_ofNight 0 = .ok (.aload_n 0, 1) := by decide +kernel
theorem dX7_ofNight_1 : decode cX7_ofNight 1 = .ok (.iload_n 1, 1) := by decide +kernel
theorem dX7_ofNight_2 : decode cX7_ofNight 2 = .ok (.invokevirtual 158, 3) := by decide +kernel
theorem dX7_ofNight_5 : decode cX7_ofNight 5 = .ok (.ifCond .eq 11, 3) := by decide +kernel
theorem dX7_ofNight_8 : decode cX7_ofNight 8 = .ok (.aload_n 0, 1) := by decide +kernel
theorem dX7_ofNight_9 : decode cX7_ofNight 9 = .ok (.iload_n 2, 1) := by decide +kernel
theorem dX7_ofNight_10 : decode cX7_ofNight 10 = .ok (.invokevirtual 145, 3) := by decide +kernel
theorem dX7_ofNight_13 : decode cX7_ofNight 13 = .ok (.ifCond .ne 5, 3) := by decide +kernel
theorem dX7_ofNight_16 : decode cX7_ofNight 16 = .ok (.iconst (-1), 1) := by decide +kernel
theorem dX7_ofNight_17 : decode cX7_ofNight 17 = .ok (.ireturn, 1) := by decide +kernel
theorem dX7_ofNight_18 : decode cX7_ofNight 18 = .ok (.aload_n 0, 1) := by decide +kernel
theorem dX7_ofNight_19 : decode cX7_ofNight 19 = .ok (.iload_n 1, 1) := by decide +kernel
theorem dX7_ofNight_20 : decode cX7_ofNight 20 = .ok (.invokevirtual 161, 3) := by decide +kernel
theorem dX7_ofNight_23 : decode cX7_ofNight 23 = .ok (.iload_n 3, 1) := by decide +kernel
theorem dX7_ofNight_24 : decode cX7_ofNight 24 = .ok (.ifCond .ne 16, 3) := by decide +kernel
theorem dX7_ofNight_27 : decode cX7_ofNight 27 = .ok (.aload_n 0, 1) := by decide +kernel
theorem dX7_ofNight_28 : decode cX7_ofNight 28 = .ok (.getfield 37, 3) := by decide +kernel
theorem dX7_ofNight_31 : decode cX7_ofNight 31 = .ok (.iconst 5, 1) := by decide +kernel
theorem dX7_ofNight_32 : decode cX7_ofNight 32 = .ok (.iload_n 1, 1) := by decide +kernel
theorem dX7_ofNight_33 : decode cX7_ofNight 33 = .ok (.imul, 1) := by decide +kernel
theorem dX7_ofNight_34 : decode cX7_ofNight 34 = .ok (.iload_n 2, 1) := by decide +kernel
theorem dX7_ofNight_35 : decode cX7_ofNight 35 = .ok (.iadd, 1) := by decide +kernel
theorem dX7_ofNight_36 : decode cX7_ofNight 36 = .ok (.iaload, 1) := by decide +kernel
theorem dX7_ofNight_37 : decode cX7_ofNight 37 = .ok (.goto 32, 3) := by decide +kernel
theorem dX7_ofNight_40 : decode cX7_ofNight 40 = .ok (.iload_n 3, 1) := by decide +kernel
theorem dX7_ofNight_41 : decode cX7_ofNight 41 = .ok (.iconst 1, 1) := by decide +kernel
theorem dX7_ofNight_42 : decode cX7_ofNight 42 = .ok (.if_icmp .ne 11, 3) := by decide +kernel
theorem dX7_ofNight_45 : decode cX7_ofNight 45 = .ok (.aload_n 0, 1) := by decide +kernel
theorem dX7_ofNight_46 : decode cX7_ofNight 46 = .ok (.iload_n 2, 1) := by decide +kernel
theorem dX7_ofNight_47 : decode cX7_ofNight 47 = .ok (.invokevirtual 148, 3) := by decide +kernel
theorem dX7_ofNight_50 : decode cX7_ofNight 50 = .ok (.goto 19, 3) := by decide +kernel
theorem dX7_ofNight_53 : decode cX7_ofNight 53 = .ok (.iload_n 3, 1) := by decide +kernel
theorem dX7_ofNight_54 : decode cX7_ofNight 54 = .ok (.iconst 2, 1) := by decide +kernel
theorem dX7_ofNight_55 : decode cX7_ofNight 55 = .ok (.if_icmp .ne 12, 3) := by decide +kernel
theorem dX7_ofNight_58 : decode cX7_ofNight 58 = .ok (.aload_n 0, 1) := by decide +kernel
theorem dX7_ofNight_59 : decode cX7_ofNight 59 = .ok (.getfield 52, 3) := by decide +kernel
theorem dX7_ofNight_62 : decode cX7_ofNight 62 = .ok (.iload_n 2, 1) := by decide +kernel
theorem dX7_ofNight_63 : decode cX7_ofNight 63 = .ok (.iaload, 1) := by decide +kernel
theorem dX7_ofNight_64 : decode cX7_ofNight 64 = .ok (.goto 5, 3) := by decide +kernel
theorem dX7_ofNight_67 : decode cX7_ofNight 67 = .ok (.bipush (-2), 2) := by decide +kernel
theorem dX7_ofNight_69 : decode cX7_ofNight 69 = .ok (.ireturn, 1) := by decide +kernel
theorem dX7_undo_0 : decode cX7_undo 0 = .ok (.iload_n 1, 1) := by decide +kernel
theorem dX7_undo_1 : decode cX7_undo 1 = .ok (.iconst 0, 1) := by decide +kernel
theorem dX7_undo_2 : decode cX7_undo 2 = .ok (.aload_n 0, 1) := by decide +kernel
theorem dX7_undo_3 : decode cX7_undo 3 = .ok (.getfield 113, 3) := by decide +kernel
theorem dX7_undo_6 : decode cX7_undo 6 = .ok (.invokestatic 73, 3) := by decide +kernel
theorem dX7_undo_9 : decode cX7_undo 9 = .ok (.ifCond .ne 6, 3) := by decide +kernel
theorem dX7_undo_12 : decode cX7_undo 12 = .ok (.bipush (-2), 2) := by decide +kernel
theorem dX7_undo_14 : decode cX7_undo 14 = .ok (.ireturn, 1) := by decide +kernel
theorem dX7_undo_15 : decode cX7_undo 15 = .ok (.aload_n 0, 1) := by decide +kernel
theorem dX7_undo_16 : decode cX7_undo 16 = .ok (.dup, 1) := by decide +kernel
theorem dX7_undo_17 : decode cX7_undo 17 = .ok (.getfield 113, 3) := by decide +kernel
theorem dX7_undo_20 : decode cX7_undo 20 = .ok (.iload_n 1, 1) := by decide +kernel
theorem dX7_undo_21 : decode cX7_undo 21 = .ok (.isub, 1) := by decide +kernel
theorem dX7_undo_22 : decode cX7_undo 22 = .ok (.putfield 113, 3) := by decide +kernel
theorem dX7_undo_25 : decode cX7_undo 25 = .ok (.aload_n 0, 1) := by decide +kernel
theorem dX7_undo_26 : decode cX7_undo 26 = .ok (.invokevirtual 116, 3) := by decide +kernel
theorem dX7_undo_29 : decode cX7_undo 29 = .ok (.aload_n 0, 1) := by decide +kernel
theorem dX7_undo_30 : decode cX7_undo 30 = .ok (.invokevirtual 119, 3) := by decide +kernel
theorem dX7_undo_33 : decode cX7_undo 33 = .ok (.aload_n 0, 1) := by decide +kernel
theorem dX7_undo_34 : decode cX7_undo 34 = .ok (.getfield 113, 3) := by decide +kernel
theorem dX7_undo_37 : decode cX7_undo 37 = .ok (.ireturn, 1) := by decide +kernel
theorem dX7_lay_0 : decode cX7_lay 0 = .ok (.aload_n 0, 1) := by decide +kernel
theorem dX7_lay_1 : decode cX7_lay 1 = .ok (.iload_n 1, 1) := by decide +kernel
theorem dX7_lay_2 : decode cX7_lay 2 = .ok (.invokevirtual 145, 3) := by decide +kernel
theorem dX7_lay_5 : decode cX7_lay 5 = .ok (.ifCond .eq 11, 3) := by decide +kernel
theorem dX7_lay_8 : decode cX7_lay 8 = .ok (.aload_n 0, 1) := by decide +kernel
theorem dX7_lay_9 : decode cX7_lay 9 = .ok (.iload_n 2, 1) := by decide +kernel
theorem dX7_lay_10 : decode cX7_lay 10 = .ok (.invokevirtual 145, 3) := by decide +kernel
theorem dX7_lay_13 : decode cX7_lay 13 = .ok (.ifCond .ne 5, 3) := by decide +kernel
theorem dX7_lay_16 : decode cX7_lay 16 = .ok (.iconst (-1), 1) := by decide +kernel
theorem dX7_lay_17 : decode cX7_lay 17 = .ok (.ireturn, 1) := by decide +kernel
theorem dX7_lay_18 : decode cX7_lay 18 = .ok (.iconst 0, 1) := by decide +kernel
theorem dX7_lay_19 : decode cX7_lay 19 = .ok (.istore_n 3, 1) := by decide +kernel
theorem dX7_lay_20 : decode cX7_lay 20 = .ok (.iconst 0, 1) := by decide +kernel
theorem dX7_lay_21 : decode cX7_lay 21 = .ok (.istore 4, 2) := by decide +kernel
theorem dX7_lay_23 : decode cX7_lay 23 = .ok (.iload 4, 2) := by decide +kernel
theorem dX7_lay_25 : decode cX7_lay 25 = .ok (.aload_n 0, 1) := by decide +kernel
theorem dX7_lay_26 : decode cX7_lay 26 = .ok (.getfield 113, 3) := by decide +kernel
theorem dX7_lay_29 : decode cX7_lay 29 = .ok (.if_icmp .ge 32, 3) := by decide +kernel
theorem dX7_lay_32 : decode cX7_lay 32 = .ok (.aload_n 0, 1) := by decide +kernel
theorem dX7_lay_33 : decode cX7_lay 33 = .ok (.iload 4, 2) := by decide +kernel
theorem dX7_lay_35 : decode cX7_lay 35 = .ok (.invokevirtual 161, 3) := by decide +kernel
theorem dX7_lay_38 : decode cX7_lay 38 = .ok (.iload_n 3, 1) := by decide +kernel
theorem dX7_lay_39 : decode cX7_lay 39 = .ok (.aload_n 0, 1) := by decide +kernel
theorem dX7_lay_40 : decode cX7_lay 40 = .ok (.iload_n 1, 1) := by decide +kernel
theorem dX7_lay_41 : decode cX7_lay 41 = .ok (.invokevirtual 148, 3) := by decide +kernel
theorem dX7_lay_44 : decode cX7_lay 44 = .ok (.iload_n 2, 1) := by decide +kernel
theorem dX7_lay_45 : decode cX7_lay 45 = .ok (.if_icmp .ne 7, 3) := by decide +kernel
theorem dX7_lay_48 : decode cX7_lay 48 = .ok (.iconst 1, 1) := by decide +kernel
theorem dX7_lay_49 : decode cX7_lay 49 = .ok (.goto 4, 3) := by decide +kernel
theorem dX7_lay_52 : decode cX7_lay 52 = .ok (.iconst 0, 1) := by decide +kernel
theorem dX7_lay_53 : decode cX7_lay 53 = .ok (.iadd, 1) := by decide +kernel
theorem dX7_lay_54 : decode cX7_lay 54 = .ok (.istore_n 3, 1) := by decide +kernel
theorem dX7_lay_55 : decode cX7_lay 55 = .ok (.iinc 4 1, 3) := by decide +kernel
theorem dX7_lay_58 : decode cX7_lay 58 = .ok (.goto (-35), 3) := by decide +kernel
theorem dX7_lay_61 : decode cX7_lay 61 = .ok (.iload_n 3, 1) := by decide +kernel
theorem dX7_lay_62 : decode cX7_lay 62 = .ok (.ireturn, 1) := by decide +kernel
theorem dX7_need_0 : decode cX7_need 0 = .ok (.iconst 1, 1) := by decide +kernel
theorem dX7_need_1 : decode cX7_need 1 = .ok (.istore_n 2, 1) := by decide +kernel
theorem dX7_need_2 : decode cX7_need 2 = .ok (.iconst 0, 1) := by decide +kernel
theorem dX7_need_3 : decode cX7_need 3 = .ok (.istore_n 3, 1) := by decide +kernel
theorem dX7_need_4 : decode cX7_need 4 = .ok (.iload_n 3, 1) := by decide +kernel
theorem dX7_need_5 : decode cX7_need 5 = .ok (.aload_n 0, 1) := by decide +kernel
theorem dX7_need_6 : decode cX7_need 6 = .ok (.getfield 77, 3) := by decide +kernel
theorem dX7_need_9 : decode cX7_need 9 = .ok (.if_icmp .ge 60, 3) := by decide +kernel
theorem dX7_need_12 : decode cX7_need 12 = .ok (.iload_n 3, 1) := by decide +kernel
theorem dX7_need_13 : decode cX7_need 13 = .ok (.iload_n 1, 1) := by decide +kernel
theorem dX7_need_14 : decode cX7_need 14 = .ok (.if_icmp .eq 49, 3) := by decide +kernel
theorem dX7_need_17 : decode cX7_need 17 = .ok (.aload_n 0, 1) := by decide +kernel
theorem dX7_need_18 : decode cX7_need 18 = .ok (.getfield 52, 3) := by decide +kernel
theorem dX7_need_21 : decode cX7_need 21 = .ok (.iload_n 3, 1) := by decide +kernel
theorem dX7_need_22 : decode cX7_need 22 = .ok (.iaload, 1) := by decide +kernel
theorem dX7_need_23 : decode cX7_need 23 = .ok (.ifCond .le 40, 3) := by decide +kernel
theorem dX7_need_26 : decode cX7_need 26 = .ok (.iload_n 3, 1) := by decide +kernel
theorem dX7_need_27 : decode cX7_need 27 = .ok (.iload_n 1, 1) := by decide +kernel
theorem dX7_need_28 : decode cX7_need 28 = .ok (.if_icmp .ge 14, 3) := by decide +kernel
theorem dX7_need_31 : decode cX7_need 31 = .ok (.aload_n 0, 1) := by decide +kernel
theorem dX7_need_32 : decode cX7_need 32 = .ok (.getfield 52, 3) := by decide +kernel
theorem dX7_need_35 : decode cX7_need 35 = .ok (.iload_n 3, 1) := by decide +kernel
theorem dX7_need_36 : decode cX7_need 36 = .ok (.iaload, 1) := by decide +kernel
theorem dX7_need_37 : decode cX7_need 37 = .ok (.iconst 1, 1) := by decide +kernel
theorem dX7_need_38 : decode cX7_need 38 = .ok (.iadd, 1) := by decide +kernel
theorem dX7_need_39 : decode cX7_need 39 = .ok (.goto 9, 3) := by decide +kernel
theorem dX7_need_42 : decode cX7_need 42 = .ok (.aload_n 0, 1) := by decide +kernel
theorem dX7_need_43 : decode cX7_need 43 = .ok (.getfield 52, 3) := by decide +kernel
theorem dX7_need_46 : decode cX7_need 46 = .ok (.iload_n 3, 1) := by decide +kernel
theorem dX7_need_47 : decode cX7_need 47 = .ok (.iaload, 1) := by decide +kernel
theorem dX7_need_48 : decode cX7_need 48 = .ok (.istore 4, 2) := by decide +kernel
theorem dX7_need_50 : decode cX7_need 50 = .ok (.iload 4, 2) := by decide +kernel
theorem dX7_need_52 : decode cX7_need 52 = .ok (.iload_n 2, 1) := by decide +kernel
theorem dX7_need_53 : decode cX7_need 53 = .ok (.if_icmp .le 8, 3) := by decide +kernel
theorem dX7_need_56 : decode cX7_need 56 = .ok (.iload 4, 2) := by decide +kernel
theorem dX7_need_58 : decode cX7_need 58 = .ok (.goto 4, 3) := by decide +kernel
theorem dX7_need_61 : decode cX7_need 61 = .ok (.iload_n 2, 1) := by decide +kernel
theorem dX7_need_62 : decode cX7_need 62 = .ok (.istore_n 2, 1) := by decide +kernel
theorem dX7_need_63 : decode cX7_need 63 = .ok (.iinc 3 1, 3) := by decide +kernel
theorem dX7_need_66 : decode cX7_need 66 = .ok (.goto (-62), 3) := by decide +kernel
theorem dX7_need_69 : decode cX7_need 69 = .ok (.iload_n 2, 1) := by decide +kernel
theorem dX7_need_70 : decode cX7_need 70 = .ok (.ireturn, 1) := by decide +kernel
theorem dX7_tonight_0 : decode cX7_tonight 0 = .ok (.aload_n 0, 1) := by decide +kernel
theorem dX7_tonight_1 : decode cX7_tonight 1 = .ok (.iload_n 1, 1) := by decide +kernel
theorem dX7_tonight_2 : decode cX7_tonight 2 = .ok (.invokevirtual 145, 3) := by decide +kernel
theorem dX7_tonight_5 : decode cX7_tonight 5 = .ok (.ifCond .ne 5, 3) := by decide +kernel
theorem dX7_tonight_8 : decode cX7_tonight 8 = .ok (.iconst (-1), 1) := by decide +kernel
theorem dX7_tonight_9 : decode cX7_tonight 9 = .ok (.ireturn, 1) := by decide +kernel
theorem dX7_tonight_10 : decode cX7_tonight 10 = .ok (.aload_n 0, 1) := by decide +kernel
theorem dX7_tonight_11 : decode cX7_tonight 11 = .ok (.invokevirtual 151, 3) := by decide +kernel
theorem dX7_tonight_14 : decode cX7_tonight 14 = .ok (.iload_n 2, 1) := by decide +kernel
theorem dX7_tonight_15 : decode cX7_tonight 15 = .ok (.ifCond .ne 12, 3) := by decide +kernel
theorem dX7_tonight_18 : decode cX7_tonight 18 = .ok (.aload_n 0, 1) := by decide +kernel
theorem dX7_tonight_19 : decode cX7_tonight 19 = .ok (.getfield 43, 3) := by decide +kernel
theorem dX7_tonight_22 : decode cX7_tonight 22 = .ok (.iload_n 1, 1) := by decide +kernel
theorem dX7_tonight_23 : decode cX7_tonight 23 = .ok (.iaload, 1) := by decide +kernel
theorem dX7_tonight_24 : decode cX7_tonight 24 = .ok (.goto 31, 3) := by decide +kernel
theorem dX7_tonight_27 : decode cX7_tonight 27 = .ok (.iload_n 2, 1) := by decide +kernel
theorem dX7_tonight_28 : decode cX7_tonight 28 = .ok (.iconst 1, 1) := by decide +kernel
theorem dX7_tonight_29 : decode cX7_tonight 29 = .ok (.if_icmp .ne 11, 3) := by decide +kernel
theorem dX7_tonight_32 : decode cX7_tonight 32 = .ok (.aload_n 0, 1) := by decide +kernel
theorem dX7_tonight_33 : decode cX7_tonight 33 = .ok (.iload_n 1, 1) := by decide +kernel
theorem dX7_tonight_34 : decode cX7_tonight 34 = .ok (.invokevirtual 148, 3) := by decide +kernel
theorem dX7_tonight_37 : decode cX7_tonight 37 = .ok (.goto 18, 3) := by decide +kernel
theorem dX7_tonight_40 : decode cX7_tonight 40 = .ok (.iload_n 2, 1) := by decide +kernel
theorem dX7_tonight_41 : decode cX7_tonight 41 = .ok (.iconst 2, 1) := by decide +kernel
theorem dX7_tonight_42 : decode cX7_tonight 42 = .ok (.if_icmp .ne 11, 3) := by decide +kernel
theorem dX7_tonight_45 : decode cX7_tonight 45 = .ok (.aload_n 0, 1) := by decide +kernel
theorem dX7_tonight_46 : decode cX7_tonight 46 = .ok (.iload_n 1, 1) := by decide +kernel
theorem dX7_tonight_47 : decode cX7_tonight 47 = .ok (.invokevirtual 165, 3) := by decide +kernel
theorem dX7_tonight_50 : decode cX7_tonight 50 = .ok (.goto 5, 3) := by decide +kernel
theorem dX7_tonight_53 : decode cX7_tonight 53 = .ok (.bipush (-2), 2) := by decide +kernel
theorem dX7_tonight_55 : decode cX7_tonight 55 = .ok (.ireturn, 1) := by decide +kernel
theorem dX7_offer_0 : decode cX7_offer 0 = .ok (.aload_n 0, 1) := by decide +kernel
theorem dX7_offer_1 : decode cX7_offer 1 = .ok (.getfield 52, 3) := by decide +kernel
theorem dX7_offer_4 : decode cX7_offer 4 = .ok (.iload_n 1, 1) := by decide +kernel
theorem dX7_offer_5 : decode cX7_offer 5 = .ok (.aload_n 0, 1) := by decide +kernel
theorem dX7_offer_6 : decode cX7_offer 6 = .ok (.iload_n 2, 1) := by decide +kernel
theorem dX7_offer_7 : decode cX7_offer 7 = .ok (.invokevirtual 142, 3) := by decide +kernel
theorem dX7_offer_10 : decode cX7_offer 10 = .ok (.iastore, 1) := by decide +kernel
theorem dX7_offer_11 : decode cX7_offer 11 = .ok (.aload_n 0, 1) := by decide +kernel
theorem dX7_offer_12 : decode cX7_offer 12 = .ok (.iload_n 1, 1) := by decide +kernel
theorem dX7_offer_13 : decode cX7_offer 13 = .ok (.invokevirtual 148, 3) := by decide +kernel
theorem dX7_offer_16 : decode cX7_offer 16 = .ok (.istore_n 3, 1) := by decide +kernel
theorem dX7_offer_17 : decode cX7_offer 17 = .ok (.aload_n 0, 1) := by decide +kernel
theorem dX7_offer_18 : decode cX7_offer 18 = .ok (.getfield 168, 3) := by decide +kernel
theorem dX7_offer_21 : decode cX7_offer 21 = .ok (.bipush (-9), 2) := by decide +kernel
theorem dX7_offer_23 : decode cX7_offer 23 = .ok (.if_icmp .eq 32, 3) := by decide +kernel
theorem dX7_offer_26 : decode cX7_offer 26 = .ok (.iload_n 3, 1) := by decide +kernel
theorem dX7_offer_27 : decode cX7_offer 27 = .ok (.aload_n 0, 1) := by decide +kernel
theorem dX7_offer_28 : decode cX7_offer 28 = .ok (.getfield 171, 3) := by decide +kernel
theorem dX7_offer_31 : decode cX7_offer 31 = .ok (.if_icmp .lt 24, 3) := by decide +kernel
theorem dX7_offer_34 : decode cX7_offer 34 = .ok (.iload_n 3, 1) := by decide +kernel
theorem dX7_offer_35 : decode cX7_offer 35 = .ok (.aload_n 0, 1) := by decide +kernel
theorem dX7_offer_36 : decode cX7_offer 36 = .ok (.getfield 171, 3) := by decide +kernel
theorem dX7_offer_39 : decode cX7_offer 39 = .ok (.if_icmp .ne 20, 3) := by decide +kernel
theorem dX7_offer_42 : decode cX7_offer 42 = .ok (.aload_n 0, 1) := by decide +kernel
theorem dX7_offer_43 : decode cX7_offer 43 = .ok (.getfield 52, 3) := by decide +kernel
theorem dX7_offer_46 : decode cX7_offer 46 = .ok (.iload_n 1, 1) := by decide +kernel
theorem dX7_offer_47 : decode cX7_offer 47 = .ok (.iaload, 1) := by decide +kernel
theorem dX7_offer_48 : decode cX7_offer 48 = .ok (.aload_n 0, 1) := by decide +kernel
theorem dX7_offer_49 : decode cX7_offer 49 = .ok (.getfield 174, 3) := by decide +kernel
theorem dX7_offer_52 : decode cX7_offer 52 = .ok (.if_icmp .ge 7, 3) := by decide +kernel
theorem dX7_offer_55 : decode cX7_offer 55 = .ok (.iconst 1, 1) := by decide +kernel
theorem dX7_offer_56 : decode cX7_offer 56 = .ok (.goto 4, 3) := by decide +kernel
theorem dX7_offer_59 : decode cX7_offer 59 = .ok (.iconst 0, 1) := by decide +kernel
theorem dX7_offer_60 : decode cX7_offer 60 = .ok (.istore 4, 2) := by decide +kernel
theorem dX7_offer_62 : decode cX7_offer 62 = .ok (.iload 4, 2) := by decide +kernel
theorem dX7_offer_64 : decode cX7_offer 64 = .ok (.ifCond .eq 23, 3) := by decide +kernel
theorem dX7_offer_67 : decode cX7_offer 67 = .ok (.aload_n 0, 1) := by decide +kernel
theorem dX7_offer_68 : decode cX7_offer 68 = .ok (.iload_n 2, 1) := by decide +kernel
theorem dX7_offer_69 : decode cX7_offer 69 = .ok (.putfield 168, 3) := by decide +kernel
theorem dX7_offer_72 : decode cX7_offer 72 = .ok (.aload_n 0, 1) := by decide +kernel
theorem dX7_offer_73 : decode cX7_offer 73 = .ok (.iload_n 3, 1) := by decide +kernel
theorem dX7_offer_74 : decode cX7_offer 74 = .ok (.putfield 171, 3) := by decide +kernel
theorem dX7_offer_77 : decode cX7_offer 77 = .ok (.aload_n 0, 1) := by decide +kernel
theorem dX7_offer_78 : decode cX7_offer 78 = .ok (.aload_n 0, 1) := by decide +kernel
theorem dX7_offer_79 : decode cX7_offer 79 = .ok (.getfield 52, 3) := by decide +kernel
theorem dX7_offer_82 : decode cX7_offer 82 = .ok (.iload_n 1, 1) := by decide +kernel
theorem dX7_offer_83 : decode cX7_offer 83 = .ok (.iaload, 1) := by decide +kernel
theorem dX7_offer_84 : decode cX7_offer 84 = .ok (.putfield 174, 3) := by decide +kernel
theorem dX7_offer_87 : decode cX7_offer 87 = .ok (.return_, 1) := by decide +kernel
theorem dX7_isChosen_0 : decode cX7_isChosen 0 = .ok (.iconst 0, 1) := by decide +kernel
theorem dX7_isChosen_1 : decode cX7_isChosen 1 = .ok (.istore_n 2, 1) := by decide +kernel
theorem dX7_isChosen_2 : decode cX7_isChosen 2 = .ok (.iload_n 2, 1) := by decide +kernel
theorem dX7_isChosen_3 : decode cX7_isChosen 3 = .ok (.aload_n 0, 1) := by decide +kernel
theorem dX7_isChosen_4 : decode cX7_isChosen 4 = .ok (.getfield 77, 3) := by decide +kernel
theorem dX7_isChosen_7 : decode cX7_isChosen 7 = .ok (.if_icmp .ge 21, 3) := by decide +kernel
theorem dX7_isChosen_10 : decode cX7_isChosen 10 = .ok (.aload_n 0, 1) := by decide +kernel
theorem dX7_isChosen_11 : decode cX7_isChosen 11 = .ok (.getfield 43, 3) := by decide +kernel
theorem dX7_isChosen_14 : decode cX7_isChosen 14 = .ok (.iload_n 2, 1) := by decide +kernel
theorem dX7_isChosen_15 : decode cX7_isChosen 15 = .ok (.iaload, 1) := by decide +kernel
theorem dX7_isChosen_16 : decode cX7_isChosen 16 = .ok (.iload_n 1, 1) := by decide +kernel
theorem dX7_isChosen_17 : decode cX7_isChosen 17 = .ok (.if_icmp .ne 5, 3) := by decide +kernel
theorem dX7_isChosen_20 : decode cX7_isChosen 20 = .ok (.iconst 1, 1) := by decide +kernel
theorem dX7_isChosen_21 : decode cX7_isChosen 21 = .ok (.ireturn, 1) := by decide +kernel
theorem dX7_isChosen_22 : decode cX7_isChosen 22 = .ok (.iinc 2 1, 3) := by decide +kernel
theorem dX7_isChosen_25 : decode cX7_isChosen 25 = .ok (.goto (-23), 3) := by decide +kernel
theorem dX7_isChosen_28 : decode cX7_isChosen 28 = .ok (.iconst 0, 1) := by decide +kernel
theorem dX7_isChosen_29 : decode cX7_isChosen 29 = .ok (.ireturn, 1) := by decide +kernel
theorem dX7_found_0 : decode cX7_found 0 = .ok (.iload_n 1, 1) := by decide +kernel
theorem dX7_found_1 : decode cX7_found 1 = .ok (.ifCond .eq 12, 3) := by decide +kernel
theorem dX7_found_4 : decode cX7_found 4 = .ok (.aload_n 0, 1) := by decide +kernel
theorem dX7_found_5 : decode cX7_found 5 = .ok (.getfield 168, 3) := by decide +kernel
theorem dX7_found_8 : decode cX7_found 8 = .ok (.bipush (-9), 2) := by decide +kernel
theorem dX7_found_10 : decode cX7_found 10 = .ok (.if_icmp .ne 10, 3) := by decide +kernel
theorem dX7_found_13 : decode cX7_found 13 = .ok (.aload_n 0, 1) := by decide +kernel
theorem dX7_found_14 : decode cX7_found 14 = .ok (.getfield 168, 3) := by decide +kernel
theorem dX7_found_17 : decode cX7_found 17 = .ok (.goto 7, 3) := by decide +kernel
theorem dX7_found_20 : decode cX7_found 20 = .ok (.aload_n 0, 1) := by decide +kernel
theorem dX7_found_21 : decode cX7_found 21 = .ok (.getfield 171, 3) := by decide +kernel
theorem dX7_found_24 : decode cX7_found 24 = .ok (.ireturn, 1) := by decide +kernel
theorem dX7_answer_0 : decode cX7_answer 0 = .ok (.aload_n 0, 1) := by decide +kernel
theorem dX7_answer_1 : decode cX7_answer 1 = .ok (.iload_n 1, 1) := by decide +kernel
theorem dX7_answer_2 : decode cX7_answer 2 = .ok (.invokevirtual 145, 3) := by decide +kernel
theorem dX7_answer_5 : decode cX7_answer 5 = .ok (.ifCond .ne 5, 3) := by decide +kernel
theorem dX7_answer_8 : decode cX7_answer 8 = .ok (.iconst (-1), 1) := by decide +kernel
theorem dX7_answer_9 : decode cX7_answer 9 = .ok (.ireturn, 1) := by decide +kernel
theorem dX7_answer_10 : decode cX7_answer 10 = .ok (.iload_n 2, 1) := by decide +kernel
theorem dX7_answer_11 : decode cX7_answer 11 = .ok (.iconst 0, 1) := by decide +kernel
theorem dX7_answer_12 : decode cX7_answer 12 = .ok (.iconst 1, 1) := by decide +kernel
theorem dX7_answer_13 : decode cX7_answer 13 = .ok (.invokestatic 73, 3) := by decide +kernel
theorem dX7_answer_16 : decode cX7_answer 16 = .ok (.ifCond .ne 6, 3) := by decide +kernel
theorem dX7_answer_19 : decode cX7_answer 19 = .ok (.bipush (-2), 2) := by decide +kernel
theorem dX7_answer_21 : decode cX7_answer 21 = .ok (.ireturn, 1) := by decide +kernel
theorem dX7_answer_22 : decode cX7_answer 22 = .ok (.aload_n 0, 1) := by decide +kernel
theorem dX7_answer_23 : decode cX7_answer 23 = .ok (.invokevirtual 151, 3) := by decide +kernel
theorem dX7_answer_26 : decode cX7_answer 26 = .ok (.aload_n 0, 1) := by decide +kernel
theorem dX7_answer_27 : decode cX7_answer 27 = .ok (.bipush (-9), 2) := by decide +kernel
theorem dX7_answer_29 : decode cX7_answer 29 = .ok (.putfield 168, 3) := by decide +kernel
theorem dX7_answer_32 : decode cX7_answer 32 = .ok (.iconst 0, 1) := by decide +kernel
theorem dX7_answer_33 : decode cX7_answer 33 = .ok (.istore_n 3, 1) := by decide +kernel
theorem dX7_answer_34 : decode cX7_answer 34 = .ok (.iload_n 3, 1) := by decide +kernel
theorem dX7_answer_35 : decode cX7_answer 35 = .ok (.aload_n 0, 1) := by decide +kernel
theorem dX7_answer_36 : decode cX7_answer 36 = .ok (.getfield 80, 3) := by decide +kernel
theorem dX7_answer_39 : decode cX7_answer 39 = .ok (.if_icmp .ge 33, 3) := by decide +kernel
theorem dX7_answer_42 : decode cX7_answer 42 = .ok (.aload_n 0, 1) := by decide +kernel
theorem dX7_answer_43 : decode cX7_answer 43 = .ok (.getfield 22, 3) := by decide +kernel
theorem dX7_answer_46 : decode cX7_answer 46 = .ok (.iload_n 3, 1) := by decide +kernel
theorem dX7_answer_47 : decode cX7_answer 47 = .ok (.iaload, 1) := by decide +kernel
theorem dX7_answer_48 : decode cX7_answer 48 = .ok (.iload_n 1, 1) := by decide +kernel
theorem dX7_answer_49 : decode cX7_answer 49 = .ok (.if_icmp .ne 17, 3) := by decide +kernel
theorem dX7_answer_52 : decode cX7_answer 52 = .ok (.aload_n 0, 1) := by decide +kernel
theorem dX7_answer_53 : decode cX7_answer 53 = .ok (.iload_n 3, 1) := by decide +kernel
theorem dX7_answer_54 : decode cX7_answer 54 = .ok (.invokevirtual 139, 3) := by decide +kernel
theorem dX7_answer_57 : decode cX7_answer 57 = .ok (.ifCond .eq 9, 3) := by decide +kernel
theorem dX7_answer_60 : decode cX7_answer 60 = .ok (.aload_n 0, 1) := by decide +kernel
theorem dX7_answer_61 : decode cX7_answer 61 = .ok (.iload_n 1, 1) := by decide +kernel
theorem dX7_answer_62 : decode cX7_answer 62 = .ok (.iload_n 3, 1) := by decide +kernel
theorem dX7_answer_63 : decode cX7_answer 63 = .ok (.invokevirtual 177, 3) := by decide +kernel
theorem dX7_answer_66 : decode cX7_answer 66 = .ok (.iinc 3 1, 3) := by decide +kernel
theorem dX7_answer_69 : decode cX7_answer 69 = .ok (.goto (-35), 3) := by decide +kernel
theorem dX7_answer_72 : decode cX7_answer 72 = .ok (.aload_n 0, 1) := by decide +kernel
theorem dX7_answer_73 : decode cX7_answer 73 = .ok (.iload_n 2, 1) := by decide +kernel
theorem dX7_answer_74 : decode cX7_answer 74 = .ok (.invokevirtual 181, 3) := by decide +kernel
theorem dX7_answer_77 : decode cX7_answer 77 = .ok (.ireturn, 1) := by decide +kernel
theorem dX7_borrowed_0 : decode cX7_borrowed 0 = .ok (.aload_n 0, 1) := by decide +kernel
theorem dX7_borrowed_1 : decode cX7_borrowed 1 = .ok (.iload_n 1, 1) := by decide +kernel
theorem dX7_borrowed_2 : decode cX7_borrowed 2 = .ok (.invokevirtual 145, 3) := by decide +kernel
theorem dX7_borrowed_5 : decode cX7_borrowed 5 = .ok (.ifCond .ne 5, 3) := by decide +kernel
theorem dX7_borrowed_8 : decode cX7_borrowed 8 = .ok (.iconst (-1), 1) := by decide +kernel
theorem dX7_borrowed_9 : decode cX7_borrowed 9 = .ok (.ireturn, 1) := by decide +kernel
theorem dX7_borrowed_10 : decode cX7_borrowed 10 = .ok (.iload_n 2, 1) := by decide +kernel
theorem dX7_borrowed_11 : decode cX7_borrowed 11 = .ok (.iconst 0, 1) := by decide +kernel
theorem dX7_borrowed_12 : decode cX7_borrowed 12 = .ok (.iconst 1, 1) := by decide +kernel
theorem dX7_borrowed_13 : decode cX7_borrowed 13 = .ok (.invokestatic 73, 3) := by decide +kernel
theorem dX7_borrowed_16 : decode cX7_borrowed 16 = .ok (.ifCond .ne 6, 3) := by decide +kernel
theorem dX7_borrowed_19 : decode cX7_borrowed 19 = .ok (.bipush (-2), 2) := by decide +kernel
theorem dX7_borrowed_21 : decode cX7_borrowed 21 = .ok (.ireturn, 1) := by decide +kernel
theorem dX7_borrowed_22 : decode cX7_borrowed 22 = .ok (.aload_n 0, 1) := by decide +kernel
theorem dX7_borrowed_23 : decode cX7_borrowed 23 = .ok (.invokevirtual 151, 3) := by decide +kernel
theorem dX7_borrowed_26 : decode cX7_borrowed 26 = .ok (.aload_n 0, 1) := by decide +kernel
theorem dX7_borrowed_27 : decode cX7_borrowed 27 = .ok (.bipush (-9), 2) := by decide +kernel
theorem dX7_borrowed_29 : decode cX7_borrowed 29 = .ok (.putfield 168, 3) := by decide +kernel
theorem dX7_borrowed_32 : decode cX7_borrowed 32 = .ok (.iconst 0, 1) := by decide +kernel
theorem dX7_borrowed_33 : decode cX7_borrowed 33 = .ok (.istore_n 3, 1) := by decide +kernel
theorem dX7_borrowed_34 : decode cX7_borrowed 34 = .ok (.iload_n 3, 1) := by decide +kernel
theorem dX7_borrowed_35 : decode cX7_borrowed 35 = .ok (.aload_n 0, 1) := by decide +kernel
theorem dX7_borrowed_36 : decode cX7_borrowed 36 = .ok (.getfield 80, 3) := by decide +kernel
theorem dX7_borrowed_39 : decode cX7_borrowed 39 = .ok (.if_icmp .ge 41, 3) := by decide +kernel
theorem dX7_borrowed_42 : decode cX7_borrowed 42 = .ok (.aload_n 0, 1) := by decide +kernel
theorem dX7_borrowed_43 : decode cX7_borrowed 43 = .ok (.getfield 22, 3) := by decide +kernel
theorem dX7_borrowed_46 : decode cX7_borrowed 46 = .ok (.iload_n 3, 1) := by decide +kernel
theorem dX7_borrowed_47 : decode cX7_borrowed 47 = .ok (.iaload, 1) := by decide +kernel
theorem dX7_borrowed_48 : decode cX7_borrowed 48 = .ok (.iload_n 1, 1) := by decide +kernel
theorem dX7_borrowed_49 : decode cX7_borrowed 49 = .ok (.if_icmp .eq 25, 3) := by decide +kernel
theorem dX7_borrowed_52 : decode cX7_borrowed 52 = .ok (.aload_n 0, 1) := by decide +kernel
theorem dX7_borrowed_53 : decode cX7_borrowed 53 = .ok (.iload_n 3, 1) := by decide +kernel
theorem dX7_borrowed_54 : decode cX7_borrowed 54 = .ok (.invokevirtual 139, 3) := by decide +kernel
theorem dX7_borrowed_57 : decode cX7_borrowed 57 = .ok (.ifCond .eq 17, 3) := by decide +kernel
theorem dX7_borrowed_60 : decode cX7_borrowed 60 = .ok (.aload_n 0, 1) := by decide +kernel
theorem dX7_borrowed_61 : decode cX7_borrowed 61 = .ok (.iload_n 3, 1) := by decide +kernel
theorem dX7_borrowed_62 : decode cX7_borrowed 62 = .ok (.invokevirtual 184, 3) := by decide +kernel
theorem dX7_borrowed_65 : decode cX7_borrowed 65 = .ok (.ifCond .ne 9, 3) := by decide +kernel
theorem dX7_borrowed_68 : decode cX7_borrowed 68 = .ok (.aload_n 0, 1) := by decide +kernel
theorem dX7_borrowed_69 : decode cX7_borrowed 69 = .ok (.iload_n 1, 1) := by decide +kernel
theorem dX7_borrowed_70 : decode cX7_borrowed 70 = .ok (.iload_n 3, 1) := by decide +kernel
theorem dX7_borrowed_71 : decode cX7_borrowed 71 = .ok (.invokevirtual 177, 3) := by decide +kernel
theorem dX7_borrowed_74 : decode cX7_borrowed 74 = .ok (.iinc 3 1, 3) := by decide +kernel
theorem dX7_borrowed_77 : decode cX7_borrowed 77 = .ok (.goto (-43), 3) := by decide +kernel
theorem dX7_borrowed_80 : decode cX7_borrowed 80 = .ok (.aload_n 0, 1) := by decide +kernel
theorem dX7_borrowed_81 : decode cX7_borrowed 81 = .ok (.iload_n 2, 1) := by decide +kernel
theorem dX7_borrowed_82 : decode cX7_borrowed 82 = .ok (.invokevirtual 181, 3) := by decide +kernel
theorem dX7_borrowed_85 : decode cX7_borrowed 85 = .ok (.ireturn, 1) := by decide +kernel
theorem dX7_bishop_0 : decode cX7_bishop 0 = .ok (.iload_n 1, 1) := by decide +kernel
theorem dX7_bishop_1 : decode cX7_bishop 1 = .ok (.iconst 0, 1) := by decide +kernel
theorem dX7_bishop_2 : decode cX7_bishop 2 = .ok (.sipush 999, 3) := by decide +kernel
theorem dX7_bishop_5 : decode cX7_bishop 5 = .ok (.invokestatic 73, 3) := by decide +kernel
theorem dX7_bishop_8 : decode cX7_bishop 8 = .ok (.ifCond .ne 6, 3) := by decide +kernel
theorem dX7_bishop_11 : decode cX7_bishop 11 = .ok (.bipush (-2), 2) := by decide +kernel
theorem dX7_bishop_13 : decode cX7_bishop 13 = .ok (.ireturn, 1) := by decide +kernel
theorem dX7_bishop_14 : decode cX7_bishop 14 = .ok (.aload_n 0, 1) := by decide +kernel
theorem dX7_bishop_15 : decode cX7_bishop 15 = .ok (.getfield 77, 3) := by decide +kernel
theorem dX7_bishop_18 : decode cX7_bishop 18 = .ok (.ifCond .ne 6, 3) := by decide +kernel
theorem dX7_bishop_21 : decode cX7_bishop 21 = .ok (.bipush (-3), 2) := by decide +kernel
theorem dX7_bishop_23 : decode cX7_bishop 23 = .ok (.ireturn, 1) := by decide +kernel
theorem dX7_bishop_24 : decode cX7_bishop 24 = .ok (.aload_n 0, 1) := by decide +kernel
theorem dX7_bishop_25 : decode cX7_bishop 25 = .ok (.invokevirtual 151, 3) := by decide +kernel
theorem dX7_bishop_28 : decode cX7_bishop 28 = .ok (.iconst 0, 1) := by decide +kernel
theorem dX7_bishop_29 : decode cX7_bishop 29 = .ok (.istore_n 2, 1) := by decide +kernel
theorem dX7_bishop_30 : decode cX7_bishop 30 = .ok (.iconst 0, 1) := by decide +kernel
theorem dX7_bishop_31 : decode cX7_bishop 31 = .ok (.istore_n 3, 1) := by decide +kernel
theorem dX7_bishop_32 : decode cX7_bishop 32 = .ok (.iload_n 3, 1) := by decide +kernel
theorem dX7_bishop_33 : decode cX7_bishop 33 = .ok (.aload_n 0, 1) := by decide +kernel
theorem dX7_bishop_34 : decode cX7_bishop 34 = .ok (.getfield 77, 3) := by decide +kernel
theorem dX7_bishop_37 : decode cX7_bishop 37 = .ok (.if_icmp .ge 38, 3) := by decide +kernel
theorem dX7_bishop_40 : decode cX7_bishop 40 = .ok (.iload_n 2, 1) := by decide +kernel
theorem dX7_bishop_41 : decode cX7_bishop 41 = .ok (.aload_n 0, 1) := by decide +kernel
theorem dX7_bishop_42 : decode cX7_bishop 42 = .ok (.getfield 43, 3) := by decide +kernel
theorem dX7_bishop_45 : decode cX7_bishop 45 = .ok (.iload_n 3, 1) := by decide +kernel
theorem dX7_bishop_46 : decode cX7_bishop 46 = .ok (.iaload, 1) := by decide +kernel
theorem dX7_bishop_47 : decode cX7_bishop 47 = .ok (.bipush (-9), 2) := by decide +kernel
theorem dX7_bishop_49 : decode cX7_bishop 49 = .ok (.if_icmp .eq 17, 3) := by decide +kernel
theorem dX7_bishop_52 : decode cX7_bishop 52 = .ok (.aload_n 0, 1) := by decide +kernel
theorem dX7_bishop_53 : decode cX7_bishop 53 = .ok (.getfield 52, 3) := by decide +kernel
theorem dX7_bishop_56 : decode cX7_bishop 56 = .ok (.iload_n 3, 1) := by decide +kernel
theorem dX7_bishop_57 : decode cX7_bishop 57 = .ok (.iaload, 1) := by decide +kernel
theorem dX7_bishop_58 : decode cX7_bishop 58 = .ok (.iload_n 1, 1) := by decide +kernel
theorem dX7_bishop_59 : decode cX7_bishop 59 = .ok (.if_icmp .lt 7, 3) := by decide +kernel
theorem dX7_bishop_62 : decode cX7_bishop 62 = .ok (.iconst 1, 1) := by decide +kernel
theorem dX7_bishop_63 : decode cX7_bishop 63 = .ok (.goto 4, 3) := by decide +kernel
theorem dX7_bishop_66 : decode cX7_bishop 66 = .ok (.iconst 0, 1) := by decide +kernel
theorem dX7_bishop_67 : decode cX7_bishop 67 = .ok (.iadd, 1) := by decide +kernel
theorem dX7_bishop_68 : decode cX7_bishop 68 = .ok (.istore_n 2, 1) := by decide +kernel
theorem dX7_bishop_69 : decode cX7_bishop 69 = .ok (.iinc 3 1, 3) := by decide +kernel
theorem dX7_bishop_72 : decode cX7_bishop 72 = .ok (.goto (-40), 3) := by decide +kernel
theorem dX7_bishop_75 : decode cX7_bishop 75 = .ok (.iload_n 2, 1) := by decide +kernel
theorem dX7_bishop_76 : decode cX7_bishop 76 = .ok (.ireturn, 1) := by decide +kernel
theorem dX7_nextOwn_0 : decode cX7_nextOwn 0 = .ok (.iload_n 2, 1) := by decide +kernel
theorem dX7_nextOwn_1 : decode cX7_nextOwn 1 = .ok (.iconst 1, 1) := by decide +kernel
theorem dX7_nextOwn_2 : decode cX7_nextOwn 2 = .ok (.iadd, 1) := by decide +kernel
theorem dX7_nextOwn_3 : decode cX7_nextOwn 3 = .ok (.istore_n 3, 1) := by decide +kernel
theorem dX7_nextOwn_4 : decode cX7_nextOwn 4 = .ok (.iload_n 3, 1) := by decide +kernel
theorem dX7_nextOwn_5 : decode cX7_nextOwn 5 = .ok (.aload_n 0, 1) := by decide +kernel
theorem dX7_nextOwn_6 : decode cX7_nextOwn 6 = .ok (.getfield 80, 3) := by decide +kernel
theorem dX7_nextOwn_9 : decode cX7_nextOwn 9 = .ok (.if_icmp .ge 29, 3) := by decide +kernel
theorem dX7_nextOwn_12 : decode cX7_nextOwn 12 = .ok (.aload_n 0, 1) := by decide +kernel
theorem dX7_nextOwn_13 : decode cX7_nextOwn 13 = .ok (.getfield 22, 3) := by decide +kernel
theorem dX7_nextOwn_16 : decode cX7_nextOwn 16 = .ok (.iload_n 3, 1) := by decide +kernel
theorem dX7_nextOwn_17 : decode cX7_nextOwn 17 = .ok (.iaload, 1) := by decide +kernel
theorem dX7_nextOwn_18 : decode cX7_nextOwn 18 = .ok (.iload_n 1, 1) := by decide +kernel
theorem dX7_nextOwn_19 : decode cX7_nextOwn 19 = .ok (.if_icmp .ne 13, 3) := by decide +kernel
theorem dX7_nextOwn_22 : decode cX7_nextOwn 22 = .ok (.aload_n 0, 1) := by decide +kernel
theorem dX7_nextOwn_23 : decode cX7_nextOwn 23 = .ok (.iload_n 3, 1) := by decide +kernel
theorem dX7_nextOwn_24 : decode cX7_nextOwn 24 = .ok (.invokevirtual 139, 3) := by decide +kernel
theorem dX7_nextOwn_27 : decode cX7_nextOwn 27 = .ok (.ifCond .eq 5, 3) := by decide +kernel
theorem dX7_nextOwn_30 : decode cX7_nextOwn 30 = .ok (.iload_n 3, 1) := by decide +kernel
theorem dX7_nextOwn_31 : decode cX7_nextOwn 31 = .ok (.ireturn, 1) := by decide +kernel
theorem dX7_nextOwn_32 : decode cX7_nextOwn 32 = .ok (.iinc 3 1, 3) := by decide +kernel
theorem dX7_nextOwn_35 : decode cX7_nextOwn 35 = .ok (.goto (-31), 3) := by decide +kernel
theorem dX7_nextOwn_38 : decode cX7_nextOwn 38 = .ok (.bipush (-9), 2) := by decide +kernel
theorem dX7_nextOwn_40 : decode cX7_nextOwn 40 = .ok (.ireturn, 1) := by decide +kernel
theorem dX7_layTells_0 : decode cX7_layTells 0 = .ok (.iconst 0, 1) := by decide +kernel
theorem dX7_layTells_1 : decode cX7_layTells 1 = .ok (.istore_n 1, 1) := by decide +kernel
theorem dX7_layTells_2 : decode cX7_layTells 2 = .ok (.iload_n 1, 1) := by decide +kernel
theorem dX7_layTells_3 : decode cX7_layTells 3 = .ok (.aload_n 0, 1) := by decide +kernel
theorem dX7_layTells_4 : decode cX7_layTells 4 = .ok (.getfield 77, 3) := by decide +kernel
theorem dX7_layTells_7 : decode cX7_layTells 7 = .ok (.if_icmp .ge 40, 3) := by decide +kernel
theorem dX7_layTells_10 : decode cX7_layTells 10 = .ok (.aload_n 0, 1) := by decide +kernel
theorem dX7_layTells_11 : decode cX7_layTells 11 = .ok (.getfield 52, 3) := by decide +kernel
theorem dX7_layTells_14 : decode cX7_layTells 14 = .ok (.iload_n 1, 1) := by decide +kernel
theorem dX7_layTells_15 : decode cX7_layTells 15 = .ok (.aload_n 0, 1) := by decide +kernel
theorem dX7_layTells_16 : decode cX7_layTells 16 = .ok (.getfield 55, 3) := by decide +kernel
theorem dX7_layTells_19 : decode cX7_layTells 19 = .ok (.iload_n 1, 1) := by decide +kernel
theorem dX7_layTells_20 : decode cX7_layTells 20 = .ok (.iaload, 1) := by decide +kernel
theorem dX7_layTells_21 : decode cX7_layTells 21 = .ok (.bipush (-9), 2) := by decide +kernel
theorem dX7_layTells_23 : decode cX7_layTells 23 = .ok (.if_icmp .ne 7, 3) := by decide +kernel
theorem dX7_layTells_26 : decode cX7_layTells 26 = .ok (.iconst 0, 1) := by decide +kernel
theorem dX7_layTells_27 : decode cX7_layTells 27 = .ok (.goto 13, 3) := by decide +kernel
theorem dX7_layTells_30 : decode cX7_layTells 30 = .ok (.aload_n 0, 1) := by decide +kernel
theorem dX7_layTells_31 : decode cX7_layTells 31 = .ok (.aload_n 0, 1) := by decide +kernel
theorem dX7_layTells_32 : decode cX7_layTells 32 = .ok (.getfield 55, 3) := by decide +kernel
theorem dX7_layTells_35 : decode cX7_layTells 35 = .ok (.iload_n 1, 1) := by decide +kernel
theorem dX7_layTells_36 : decode cX7_layTells 36 = .ok (.iaload, 1) := by decide +kernel
theorem dX7_layTells_37 : decode cX7_layTells 37 = .ok (.invokevirtual 142, 3) := by decide +kernel
theorem dX7_layTells_40 : decode cX7_layTells 40 = .ok (.iastore, 1) := by decide +kernel
theorem dX7_layTells_41 : decode cX7_layTells 41 = .ok (.iinc 1 1, 3) := by decide +kernel
theorem dX7_layTells_44 : decode cX7_layTells 44 = .ok (.goto (-42), 3) := by decide +kernel
theorem dX7_layTells_47 : decode cX7_layTells 47 = .ok (.return_, 1) := by decide +kernel
theorem dX7_isRest_0 : decode cX7_isRest 0 = .ok (.iconst 0, 1) := by decide +kernel
theorem dX7_isRest_1 : decode cX7_isRest 1 = .ok (.istore_n 1, 1) := by decide +kernel
theorem dX7_isRest_2 : decode cX7_isRest 2 = .ok (.iload_n 1, 1) := by decide +kernel
theorem dX7_isRest_3 : decode cX7_isRest 3 = .ok (.aload_n 0, 1) := by decide +kernel
theorem dX7_isRest_4 : decode cX7_isRest 4 = .ok (.getfield 77, 3) := by decide +kernel
theorem dX7_isRest_7 : decode cX7_isRest 7 = .ok (.if_icmp .ge 64, 3) := by decide +kernel
theorem dX7_isRest_10 : decode cX7_isRest 10 = .ok (.aload_n 0, 1) := by decide +kernel
theorem dX7_isRest_11 : decode cX7_isRest 11 = .ok (.invokevirtual 187, 3) := by decide +kernel
theorem dX7_isRest_14 : decode cX7_isRest 14 = .ok (.aload_n 0, 1) := by decide +kernel
theorem dX7_isRest_15 : decode cX7_isRest 15 = .ok (.iload_n 1, 1) := by decide +kernel
theorem dX7_isRest_16 : decode cX7_isRest 16 = .ok (.invokevirtual 148, 3) := by decide +kernel
theorem dX7_isRest_19 : decode cX7_isRest 19 = .ok (.istore_n 2, 1) := by decide +kernel
theorem dX7_isRest_20 : decode cX7_isRest 20 = .ok (.aload_n 0, 1) := by decide +kernel
theorem dX7_isRest_21 : decode cX7_isRest 21 = .ok (.iload_n 1, 1) := by decide +kernel
theorem dX7_isRest_22 : decode cX7_isRest 22 = .ok (.iconst (-1), 1) := by decide +kernel
theorem dX7_isRest_23 : decode cX7_isRest 23 = .ok (.invokevirtual 190, 3) := by decide +kernel
theorem dX7_isRest_26 : decode cX7_isRest 26 = .ok (.istore_n 3, 1) := by decide +kernel
theorem dX7_isRest_27 : decode cX7_isRest 27 = .ok (.iload_n 3, 1) := by decide +kernel
theorem dX7_isRest_28 : decode cX7_isRest 28 = .ok (.bipush (-9), 2) := by decide +kernel
theorem dX7_isRest_30 : decode cX7_isRest 30 = .ok (.if_icmp .eq 35, 3) := by decide +kernel
theorem dX7_isRest_33 : decode cX7_isRest 33 = .ok (.aload_n 0, 1) := by decide +kernel
theorem dX7_isRest_34 : decode cX7_isRest 34 = .ok (.getfield 52, 3) := by decide +kernel
theorem dX7_isRest_37 : decode cX7_isRest 37 = .ok (.iload_n 1, 1) := by decide +kernel
theorem dX7_isRest_38 : decode cX7_isRest 38 = .ok (.aload_n 0, 1) := by decide +kernel
theorem dX7_isRest_39 : decode cX7_isRest 39 = .ok (.iload_n 3, 1) := by decide +kernel
theorem dX7_isRest_40 : decode cX7_isRest 40 = .ok (.invokevirtual 142, 3) := by decide +kernel
theorem dX7_isRest_43 : decode cX7_isRest 43 = .ok (.iastore, 1) := by decide +kernel
theorem dX7_isRest_44 : decode cX7_isRest 44 = .ok (.aload_n 0, 1) := by decide +kernel
theorem dX7_isRest_45 : decode cX7_isRest 45 = .ok (.iload_n 1, 1) := by decide +kernel
theorem dX7_isRest_46 : decode cX7_isRest 46 = .ok (.invokevirtual 148, 3) := by decide +kernel
theorem dX7_isRest_49 : decode cX7_isRest 49 = .ok (.iload_n 2, 1) := by decide +kernel
theorem dX7_isRest_50 : decode cX7_isRest 50 = .ok (.if_icmp .ge 5, 3) := by decide +kernel
theorem dX7_isRest_53 : decode cX7_isRest 53 = .ok (.iconst 0, 1) := by decide +kernel
theorem dX7_isRest_54 : decode cX7_isRest 54 = .ok (.ireturn, 1) := by decide +kernel
theorem dX7_isRest_55 : decode cX7_isRest 55 = .ok (.aload_n 0, 1) := by decide +kernel
theorem dX7_isRest_56 : decode cX7_isRest 56 = .ok (.iload_n 1, 1) := by decide +kernel
theorem dX7_isRest_57 : decode cX7_isRest 57 = .ok (.iload_n 3, 1) := by decide +kernel
theorem dX7_isRest_58 : decode cX7_isRest 58 = .ok (.invokevirtual 190, 3) := by decide +kernel
theorem dX7_isRest_61 : decode cX7_isRest 61 = .ok (.istore_n 3, 1) := by decide +kernel
theorem dX7_isRest_62 : decode cX7_isRest 62 = .ok (.goto (-35), 3) := by decide +kernel
theorem dX7_isRest_65 : decode cX7_isRest 65 = .ok (.iinc 1 1, 3) := by decide +kernel
theorem dX7_isRest_68 : decode cX7_isRest 68 = .ok (.goto (-66), 3) := by decide +kernel
theorem dX7_isRest_71 : decode cX7_isRest 71 = .ok (.iconst 1, 1) := by decide +kernel
theorem dX7_isRest_72 : decode cX7_isRest 72 = .ok (.ireturn, 1) := by decide +kernel
theorem dX7_nextTells_0 : decode cX7_nextTells 0 = .ok (.aload_n 0, 1) := by decide +kernel
theorem dX7_nextTells_1 : decode cX7_nextTells 1 = .ok (.getfield 77, 3) := by decide +kernel
theorem dX7_nextTells_4 : decode cX7_nextTells 4 = .ok (.iconst 1, 1) := by decide +kernel
theorem dX7_nextTells_5 : decode cX7_nextTells 5 = .ok (.isub, 1) := by decide +kernel
theorem dX7_nextTells_6 : decode cX7_nextTells 6 = .ok (.istore_n 1, 1) := by decide +kernel
theorem dX7_nextTells_7 : decode cX7_nextTells 7 = .ok (.iload_n 1, 1) := by decide +kernel
theorem dX7_nextTells_8 : decode cX7_nextTells 8 = .ok (.ifCond .lt 64, 3) := by decide +kernel
theorem dX7_nextTells_11 : decode cX7_nextTells 11 = .ok (.aload_n 0, 1) := by decide +kernel
theorem dX7_nextTells_12 : decode cX7_nextTells 12 = .ok (.getfield 55, 3) := by decide +kernel
theorem dX7_nextTells_15 : decode cX7_nextTells 15 = .ok (.iload_n 1, 1) := by decide +kernel
theorem dX7_nextTells_16 : decode cX7_nextTells 16 = .ok (.iaload, 1) := by decide +kernel
theorem dX7_nextTells_17 : decode cX7_nextTells 17 = .ok (.bipush (-9), 2) := by decide +kernel
theorem dX7_nextTells_19 : decode cX7_nextTells 19 = .ok (.if_icmp .ne 8, 3) := by decide +kernel
theorem dX7_nextTells_22 : decode cX7_nextTells 22 = .ok (.bipush (-9), 2) := by decide +kernel
theorem dX7_nextTells_24 : decode cX7_nextTells 24 = .ok (.goto 14, 3) := by decide +kernel
theorem dX7_nextTells_27 : decode cX7_nextTells 27 = .ok (.aload_n 0, 1) := by decide +kernel
theorem dX7_nextTells_28 : decode cX7_nextTells 28 = .ok (.iload_n 1, 1) := by decide +kernel
theorem dX7_nextTells_29 : decode cX7_nextTells 29 = .ok (.aload_n 0, 1) := by decide +kernel
theorem dX7_nextTells_30 : decode cX7_nextTells 30 = .ok (.getfield 55, 3) := by decide +kernel
theorem dX7_nextTells_33 : decode cX7_nextTells 33 = .ok (.iload_n 1, 1) := by decide +kernel
theorem dX7_nextTells_34 : decode cX7_nextTells 34 = .ok (.iaload, 1) := by decide +kernel
theorem dX7_nextTells_35 : decode cX7_nextTells 35 = .ok (.invokevirtual 190, 3) := by decide +kernel
theorem dX7_nextTells_38 : decode cX7_nextTells 38 = .ok (.istore_n 2, 1) := by decide +kernel
theorem dX7_nextTells_39 : decode cX7_nextTells 39 = .ok (.iload_n 2, 1) := by decide +kernel
theorem dX7_nextTells_40 : decode cX7_nextTells 40 = .ok (.bipush (-9), 2) := by decide +kernel
theorem dX7_nextTells_42 : decode cX7_nextTells 42 = .ok (.if_icmp .eq 12, 3) := by decide +kernel
theorem dX7_nextTells_45 : decode cX7_nextTells 45 = .ok (.aload_n 0, 1) := by decide +kernel
theorem dX7_nextTells_46 : decode cX7_nextTells 46 = .ok (.getfield 55, 3) := by decide +kernel
theorem dX7_nextTells_49 : decode cX7_nextTells 49 = .ok (.iload_n 1, 1) := by decide +kernel
theorem dX7_nextTells_50 : decode cX7_nextTells 50 = .ok (.iload_n 2, 1) := by decide +kernel
theorem dX7_nextTells_51 : decode cX7_nextTells 51 = .ok (.iastore, 1) := by decide +kernel
theorem dX7_nextTells_52 : decode cX7_nextTells 52 = .ok (.iconst 1, 1) := by decide +kernel
theorem dX7_nextTells_53 : decode cX7_nextTells 53 = .ok (.ireturn, 1) := by decide +kernel
theorem dX7_nextTells_54 : decode cX7_nextTells 54 = .ok (.aload_n 0, 1) := by decide +kernel
theorem dX7_nextTells_55 : decode cX7_nextTells 55 = .ok (.getfield 55, 3) := by decide +kernel
theorem dX7_nextTells_58 : decode cX7_nextTells 58 = .ok (.iload_n 1, 1) := by decide +kernel
theorem dX7_nextTells_59 : decode cX7_nextTells 59 = .ok (.aload_n 0, 1) := by decide +kernel
theorem dX7_nextTells_60 : decode cX7_nextTells 60 = .ok (.iload_n 1, 1) := by decide +kernel
theorem dX7_nextTells_61 : decode cX7_nextTells 61 = .ok (.iconst (-1), 1) := by decide +kernel
theorem dX7_nextTells_62 : decode cX7_nextTells 62 = .ok (.invokevirtual 190, 3) := by decide +kernel
theorem dX7_nextTells_65 : decode cX7_nextTells 65 = .ok (.iastore, 1) := by decide +kernel
theorem dX7_nextTells_66 : decode cX7_nextTells 66 = .ok (.iinc 1 (-1), 3) := by decide +kernel
theorem dX7_nextTells_69 : decode cX7_nextTells 69 = .ok (.goto (-62), 3) := by decide +kernel
theorem dX7_nextTells_72 : decode cX7_nextTells 72 = .ok (.iconst 0, 1) := by decide +kernel
theorem dX7_nextTells_73 : decode cX7_nextTells 73 = .ok (.ireturn, 1) := by decide +kernel
theorem dX7_findRests_0 : decode cX7_findRests 0 = .ok (.iconst 0, 1) := by decide +kernel
theorem dX7_findRests_1 : decode cX7_findRests 1 = .ok (.istore_n 1, 1) := by decide +kernel
theorem dX7_findRests_2 : decode cX7_findRests 2 = .ok (.iconst 0, 1) := by decide +kernel
theorem dX7_findRests_3 : decode cX7_findRests 3 = .ok (.istore_n 2, 1) := by decide +kernel
theorem dX7_findRests_4 : decode cX7_findRests 4 = .ok (.iload_n 2, 1) := by decide +kernel
theorem dX7_findRests_5 : decode cX7_findRests 5 = .ok (.aload_n 0, 1) := by decide +kernel
theorem dX7_findRests_6 : decode cX7_findRests 6 = .ok (.getfield 77, 3) := by decide +kernel
theorem dX7_findRests_9 : decode cX7_findRests 9 = .ok (.if_icmp .ge 29, 3) := by decide +kernel
theorem dX7_findRests_12 : decode cX7_findRests 12 = .ok (.aload_n 0, 1) := by decide +kernel
theorem dX7_findRests_13 : decode cX7_findRests 13 = .ok (.getfield 55, 3) := by decide +kernel
theorem dX7_findRests_16 : decode cX7_findRests 16 = .ok (.iload_n 2, 1) := by decide +kernel
theorem dX7_findRests_17 : decode cX7_findRests 17 = .ok (.aload_n 0, 1) := by decide +kernel
theorem dX7_findRests_18 : decode cX7_findRests 18 = .ok (.iload_n 2, 1) := by decide +kernel
theorem dX7_findRests_19 : decode cX7_findRests 19 = .ok (.iconst (-1), 1) := by decide +kernel
theorem dX7_findRests_20 : decode cX7_findRests 20 = .ok (.invokevirtual 190, 3) := by decide +kernel
theorem dX7_findRests_23 : decode cX7_findRests 23 = .ok (.iastore, 1) := by decide +kernel
theorem dX7_findRests_24 : decode cX7_findRests 24 = .ok (.aload_n 0, 1) := by decide +kernel
theorem dX7_findRests_25 : decode cX7_findRests 25 = .ok (.getfield 58, 3) := by decide +kernel
theorem dX7_findRests_28 : decode cX7_findRests 28 = .ok (.iload_n 2, 1) := by decide +kernel
theorem dX7_findRests_29 : decode cX7_findRests 29 = .ok (.bipush (-9), 2) := by decide +kernel
theorem dX7_findRests_31 : decode cX7_findRests 31 = .ok (.iastore, 1) := by decide +kernel
theorem dX7_findRests_32 : decode cX7_findRests 32 = .ok (.iinc 2 1, 3) := by decide +kernel
theorem dX7_findRests_35 : decode cX7_findRests 35 = .ok (.goto (-31), 3) := by decide +kernel
theorem dX7_findRests_38 : decode cX7_findRests 38 = .ok (.aload_n 0, 1) := by decide +kernel
theorem dX7_findRests_39 : decode cX7_findRests 39 = .ok (.getfield 77, 3) := by decide +kernel
theorem dX7_findRests_42 : decode cX7_findRests 42 = .ok (.ifCond .le 7, 3) := by decide +kernel
theorem dX7_findRests_45 : decode cX7_findRests 45 = .ok (.iconst 1, 1) := by decide +kernel
theorem dX7_findRests_46 : decode cX7_findRests 46 = .ok (.goto 4, 3) := by decide +kernel
theorem dX7_findRests_49 : decode cX7_findRests 49 = .ok (.iconst 0, 1) := by decide +kernel
theorem dX7_findRests_50 : decode cX7_findRests 50 = .ok (.istore_n 2, 1) := by decide +kernel
theorem dX7_findRests_51 : decode cX7_findRests 51 = .ok (.iload_n 2, 1) := by decide +kernel
theorem dX7_findRests_52 : decode cX7_findRests 52 = .ok (.ifCond .eq 53, 3) := by decide +kernel
theorem dX7_findRests_55 : decode cX7_findRests 55 = .ok (.aload_n 0, 1) := by decide +kernel
theorem dX7_findRests_56 : decode cX7_findRests 56 = .ok (.invokevirtual 193, 3) := by decide +kernel
theorem dX7_findRests_59 : decode cX7_findRests 59 = .ok (.ifCond .eq 38, 3) := by decide +kernel
theorem dX7_findRests_62 : decode cX7_findRests 62 = .ok (.iconst 0, 1) := by decide +kernel
theorem dX7_findRests_63 : decode cX7_findRests 63 = .ok (.istore_n 3, 1) := by decide +kernel
theorem dX7_findRests_64 : decode cX7_findRests 64 = .ok (.iload_n 3, 1) := by decide +kernel
theorem dX7_findRests_65 : decode cX7_findRests 65 = .ok (.aload_n 0, 1) := by decide +kernel
theorem dX7_findRests_66 : decode cX7_findRests 66 = .ok (.getfield 77, 3) := by decide +kernel
theorem dX7_findRests_69 : decode cX7_findRests 69 = .ok (.if_icmp .ge 25, 3) := by decide +kernel
theorem dX7_findRests_72 : decode cX7_findRests 72 = .ok (.iload_n 1, 1) := by decide +kernel
theorem dX7_findRests_73 : decode cX7_findRests 73 = .ok (.ifCond .ne 21, 3) := by decide +kernel
theorem dX7_findRests_76 : decode cX7_findRests 76 = .ok (.aload_n 0, 1) := by decide +kernel
theorem dX7_findRests_77 : decode cX7_findRests 77 = .ok (.getfield 58, 3) := by decide +kernel
theorem dX7_findRests_80 : decode cX7_findRests 80 = .ok (.iload_n 3, 1) := by decide +kernel
theorem dX7_findRests_81 : decode cX7_findRests 81 = .ok (.aload_n 0, 1) := by decide +kernel
theorem dX7_findRests_82 : decode cX7_findRests 82 = .ok (.getfield 55, 3) := by decide +kernel
theorem dX7_findRests_85 : decode cX7_findRests 85 = .ok (.iload_n 3, 1) := by decide +kernel
theorem dX7_findRests_86 : decode cX7_findRests 86 = .ok (.iaload, 1) := by decide +kernel
theorem dX7_findRests_87 : decode cX7_findRests 87 = .ok (.iastore, 1) := by decide +kernel
theorem dX7_findRests_88 : decode cX7_findRests 88 = .ok (.iinc 3 1, 3) := by decide +kernel
theorem dX7_findRests_91 : decode cX7_findRests 91 = .ok (.goto (-27), 3) := by decide +kernel
theorem dX7_findRests_94 : decode cX7_findRests 94 = .ok (.iinc 1 1, 3) := by decide +kernel
theorem dX7_findRests_97 : decode cX7_findRests 97 = .ok (.aload_n 0, 1) := by decide +kernel
theorem dX7_findRests_98 : decode cX7_findRests 98 = .ok (.invokevirtual 197, 3) := by decide +kernel
theorem dX7_findRests_101 : decode cX7_findRests 101 = .ok (.istore_n 2, 1) := by decide +kernel
theorem dX7_findRests_102 : decode cX7_findRests 102 = .ok (.goto (-51), 3) := by decide +kernel
theorem dX7_findRests_105 : decode cX7_findRests 105 = .ok (.iload_n 1, 1) := by decide +kernel
theorem dX7_findRests_106 : decode cX7_findRests 106 = .ok (.ireturn, 1) := by decide +kernel
theorem dX7_rests_0 : decode cX7_rests 0 = .ok (.iload_n 1, 1) := by decide +kernel
theorem dX7_rests_1 : decode cX7_rests 1 = .ok (.iconst (-1), 1) := by decide +kernel
theorem dX7_rests_2 : decode cX7_rests 2 = .ok (.if_icmp .eq 13, 3) := by decide +kernel
theorem dX7_rests_5 : decode cX7_rests 5 = .ok (.aload_n 0, 1) := by decide +kernel
theorem dX7_rests_6 : decode cX7_rests 6 = .ok (.iload_n 1, 1) := by decide +kernel
theorem dX7_rests_7 : decode cX7_rests 7 = .ok (.invokevirtual 145, 3) := by decide +kernel
theorem dX7_rests_10 : decode cX7_rests 10 = .ok (.ifCond .ne 5, 3) := by decide +kernel
theorem dX7_rests_13 : decode cX7_rests 13 = .ok (.iconst (-1), 1) := by decide +kernel
theorem dX7_rests_14 : decode cX7_rests 14 = .ok (.ireturn, 1) := by decide +kernel
theorem dX7_rests_15 : decode cX7_rests 15 = .ok (.aload_n 0, 1) := by decide +kernel
theorem dX7_rests_16 : decode cX7_rests 16 = .ok (.invokevirtual 200, 3) := by decide +kernel
theorem dX7_rests_19 : decode cX7_rests 19 = .ok (.istore_n 2, 1) := by decide +kernel
theorem dX7_rests_20 : decode cX7_rests 20 = .ok (.iload_n 1, 1) := by decide +kernel
theorem dX7_rests_21 : decode cX7_rests 21 = .ok (.iconst (-1), 1) := by decide +kernel
theorem dX7_rests_22 : decode cX7_rests 22 = .ok (.if_icmp .ne 7, 3) := by decide +kernel
theorem dX7_rests_25 : decode cX7_rests 25 = .ok (.iload_n 2, 1) := by decide +kernel
theorem dX7_rests_26 : decode cX7_rests 26 = .ok (.goto 9, 3) := by decide +kernel
theorem dX7_rests_29 : decode cX7_rests 29 = .ok (.aload_n 0, 1) := by decide +kernel
theorem dX7_rests_30 : decode cX7_rests 30 = .ok (.getfield 58, 3) := by decide +kernel
theorem dX7_rests_33 : decode cX7_rests 33 = .ok (.iload_n 1, 1) := by decide +kernel
theorem dX7_rests_34 : decode cX7_rests 34 = .ok (.iaload, 1) := by decide +kernel
theorem dX7_rests_35 : decode cX7_rests 35 = .ok (.ireturn, 1) := by decide +kernel
theorem dX7_mayWinter_0 : decode cX7_mayWinter 0 = .ok (.aload_n 0, 1) := by decide +kernel
theorem dX7_mayWinter_1 : decode cX7_mayWinter 1 = .ok (.getfield 22, 3) := by decide +kernel
theorem dX7_mayWinter_4 : decode cX7_mayWinter 4 = .ok (.iload_n 3, 1) := by decide +kernel
theorem dX7_mayWinter_5 : decode cX7_mayWinter 5 = .ok (.iaload, 1) := by decide +kernel
theorem dX7_mayWinter_6 : decode cX7_mayWinter 6 = .ok (.iload_n 1, 1) := by decide +kernel
theorem dX7_mayWinter_7 : decode cX7_mayWinter 7 = .ok (.if_icmp .eq 5, 3) := by decide +kernel
theorem dX7_mayWinter_10 : decode cX7_mayWinter 10 = .ok (.iconst 0, 1) := by decide +kernel
theorem dX7_mayWinter_11 : decode cX7_mayWinter 11 = .ok (.ireturn, 1) := by decide +kernel
theorem dX7_mayWinter_12 : decode cX7_mayWinter 12 = .ok (.aload_n 0, 1) := by decide +kernel
theorem dX7_mayWinter_13 : decode cX7_mayWinter 13 = .ok (.getfield 46, 3) := by decide +kernel
theorem dX7_mayWinter_16 : decode cX7_mayWinter 16 = .ok (.iload_n 3, 1) := by decide +kernel
theorem dX7_mayWinter_17 : decode cX7_mayWinter 17 = .ok (.iaload, 1) := by decide +kernel
theorem dX7_mayWinter_18 : decode cX7_mayWinter 18 = .ok (.istore 5, 2) := by decide +kernel
theorem dX7_mayWinter_20 : decode cX7_mayWinter 20 = .ok (.aload_n 0, 1) := by decide +kernel
theorem dX7_mayWinter_21 : decode cX7_mayWinter 21 = .ok (.getfield 49, 3) := by decide +kernel
theorem dX7_mayWinter_24 : decode cX7_mayWinter 24 = .ok (.iload_n 3, 1) := by decide +kernel
theorem dX7_mayWinter_25 : decode cX7_mayWinter 25 = .ok (.iaload, 1) := by decide +kernel
theorem dX7_mayWinter_26 : decode cX7_mayWinter 26 = .ok (.istore 6, 2) := by decide +kernel
theorem dX7_mayWinter_28 : decode cX7_mayWinter 28 = .ok (.iconst 0, 1) := by decide +kernel
theorem dX7_mayWinter_29 : decode cX7_mayWinter 29 = .ok (.istore 7, 2) := by decide +kernel
theorem dX7_mayWinter_31 : decode cX7_mayWinter 31 = .ok (.iload 7, 2) := by decide +kernel
theorem dX7_mayWinter_33 : decode cX7_mayWinter 33 = .ok (.iload_n 2, 1) := by decide +kernel
theorem dX7_mayWinter_34 : decode cX7_mayWinter 34 = .ok (.if_icmp .ge 55, 3) := by decide +kernel
theorem dX7_mayWinter_37 : decode cX7_mayWinter 37 = .ok (.iload 5, 2) := by decide +kernel
theorem dX7_mayWinter_39 : decode cX7_mayWinter 39 = .ok (.aload_n 0, 1) := by decide +kernel
theorem dX7_mayWinter_40 : decode cX7_mayWinter 40 = .ok (.getfield 61, 3) := by decide +kernel
theorem dX7_mayWinter_43 : decode cX7_mayWinter 43 = .ok (.iload 7, 2) := by decide +kernel
theorem dX7_mayWinter_45 : decode cX7_mayWinter 45 = .ok (.iaload, 1) := by decide +kernel
theorem dX7_mayWinter_46 : decode cX7_mayWinter 46 = .ok (.iload_n 3, 1) := by decide +kernel
theorem dX7_mayWinter_47 : decode cX7_mayWinter 47 = .ok (.if_icmp .ne 7, 3) := by decide +kernel
theorem dX7_mayWinter_50 : decode cX7_mayWinter 50 = .ok (.iconst 1, 1) := by decide +kernel
theorem dX7_mayWinter_51 : decode cX7_mayWinter 51 = .ok (.goto 4, 3) := by decide +kernel
theorem dX7_mayWinter_54 : decode cX7_mayWinter 54 = .ok (.iconst 0, 1) := by decide +kernel
theorem dX7_mayWinter_55 : decode cX7_mayWinter 55 = .ok (.iadd, 1) := by decide +kernel
theorem dX7_mayWinter_56 : decode cX7_mayWinter 56 = .ok (.istore 5, 2) := by decide +kernel
theorem dX7_mayWinter_58 : decode cX7_mayWinter 58 = .ok (.aload_n 0, 1) := by decide +kernel
theorem dX7_mayWinter_59 : decode cX7_mayWinter 59 = .ok (.getfield 61, 3) := by decide +kernel
theorem dX7_mayWinter_62 : decode cX7_mayWinter 62 = .ok (.iload 7, 2) := by decide +kernel
theorem dX7_mayWinter_64 : decode cX7_mayWinter 64 = .ok (.iaload, 1) := by decide +kernel
theorem dX7_mayWinter_65 : decode cX7_mayWinter 65 = .ok (.iload_n 3, 1) := by decide +kernel
theorem dX7_mayWinter_66 : decode cX7_mayWinter 66 = .ok (.if_icmp .ne 13, 3) := by decide +kernel
theorem dX7_mayWinter_69 : decode cX7_mayWinter 69 = .ok (.aload_n 0, 1) := by decide +kernel
theorem dX7_mayWinter_70 : decode cX7_mayWinter 70 = .ok (.getfield 113, 3) := by decide +kernel
theorem dX7_mayWinter_73 : decode cX7_mayWinter 73 = .ok (.iload 7, 2) := by decide +kernel
theorem dX7_mayWinter_75 : decode cX7_mayWinter 75 = .ok (.iadd, 1) := by decide +kernel
theorem dX7_mayWinter_76 : decode cX7_mayWinter 76 = .ok (.goto 5, 3) := by decide +kernel
theorem dX7_mayWinter_79 : decode cX7_mayWinter 79 = .ok (.iload 6, 2) := by decide +kernel
theorem dX7_mayWinter_81 : decode cX7_mayWinter 81 = .ok (.istore 6, 2) := by decide +kernel
theorem dX7_mayWinter_83 : decode cX7_mayWinter 83 = .ok (.iinc 7 1, 3) := by decide +kernel
theorem dX7_mayWinter_86 : decode cX7_mayWinter 86 = .ok (.goto (-55), 3) := by decide +kernel
theorem dX7_mayWinter_89 : decode cX7_mayWinter 89 = .ok (.aload_n 0, 1) := by decide +kernel
theorem dX7_mayWinter_90 : decode cX7_mayWinter 90 = .ok (.iload_n 3, 1) := by decide +kernel
theorem dX7_mayWinter_91 : decode cX7_mayWinter 91 = .ok (.iload 5, 2) := by decide +kernel
theorem dX7_mayWinter_93 : decode cX7_mayWinter 93 = .ok (.iload 6, 2) := by decide +kernel
theorem dX7_mayWinter_95 : decode cX7_mayWinter 95 = .ok (.aload_n 0, 1) := by decide +kernel
theorem dX7_mayWinter_96 : decode cX7_mayWinter 96 = .ok (.getfield 113, 3) := by decide +kernel
theorem dX7_mayWinter_99 : decode cX7_mayWinter 99 = .ok (.iload_n 2, 1) := by decide +kernel
theorem dX7_mayWinter_100 : decode cX7_mayWinter 100 = .ok (.iadd, 1) := by decide +kernel
theorem dX7_mayWinter_101 : decode cX7_mayWinter 101 = .ok (.invokevirtual 129, 3) := by decide +kernel
theorem dX7_mayWinter_104 : decode cX7_mayWinter 104 = .ok (.ifCond .eq 19, 3) := by decide +kernel
theorem dX7_mayWinter_107 : decode cX7_mayWinter 107 = .ok (.aload_n 0, 1) := by decide +kernel
theorem dX7_mayWinter_108 : decode cX7_mayWinter 108 = .ok (.iload_n 3, 1) := by decide +kernel
theorem dX7_mayWinter_109 : decode cX7_mayWinter 109 = .ok (.iload 5, 2) := by decide +kernel
theorem dX7_mayWinter_111 : decode cX7_mayWinter 111 = .ok (.invokevirtual 133, 3) := by decide +kernel
theorem dX7_mayWinter_114 : decode cX7_mayWinter 114 = .ok (.iload 4, 2) := by decide +kernel
theorem dX7_mayWinter_116 : decode cX7_mayWinter 116 = .ok (.if_icmp .le 7, 3) := by decide +kernel
theorem dX7_mayWinter_119 : decode cX7_mayWinter 119 = .ok (.iconst 1, 1) := by decide +kernel
theorem dX7_mayWinter_120 : decode cX7_mayWinter 120 = .ok (.goto 4, 3) := by decide +kernel
theorem dX7_mayWinter_123 : decode cX7_mayWinter 123 = .ok (.iconst 0, 1) := by decide +kernel
theorem dX7_mayWinter_124 : decode cX7_mayWinter 124 = .ok (.ireturn, 1) := by decide +kernel
theorem dX7_nightsOf_0 : decode cX7_nightsOf 0 = .ok (.iconst 0, 1) := by decide +kernel
theorem dX7_nightsOf_1 : decode cX7_nightsOf 1 = .ok (.istore_n 2, 1) := by decide +kernel
theorem dX7_nightsOf_2 : decode cX7_nightsOf 2 = .ok (.iconst 0, 1) := by decide +kernel
theorem dX7_nightsOf_3 : decode cX7_nightsOf 3 = .ok (.istore_n 3, 1) := by decide +kernel
theorem dX7_nightsOf_4 : decode cX7_nightsOf 4 = .ok (.iload_n 3, 1) := by decide +kernel
theorem dX7_nightsOf_5 : decode cX7_nightsOf 5 = .ok (.iload_n 1, 1) := by decide +kernel
theorem dX7_nightsOf_6 : decode cX7_nightsOf 6 = .ok (.if_icmp .ge 25, 3) := by decide +kernel
theorem dX7_nightsOf_9 : decode cX7_nightsOf 9 = .ok (.iload_n 2, 1) := by decide +kernel
theorem dX7_nightsOf_10 : decode cX7_nightsOf 10 = .ok (.aload_n 0, 1) := by decide +kernel
theorem dX7_nightsOf_11 : decode cX7_nightsOf 11 = .ok (.iload_n 3, 1) := by decide +kernel
theorem dX7_nightsOf_12 : decode cX7_nightsOf 12 = .ok (.iaload, 1) := by decide +kernel
theorem dX7_nightsOf_13 : decode cX7_nightsOf 13 = .ok (.bipush 10, 2) := by decide +kernel
theorem dX7_nightsOf_15 : decode cX7_nightsOf 15 = .ok (.if_icmp .ne 7, 3) := by decide +kernel
theorem dX7_nightsOf_18 : decode cX7_nightsOf 18 = .ok (.iconst 0, 1) := by decide +kernel
theorem dX7_nightsOf_19 : decode cX7_nightsOf 19 = .ok (.goto 4, 3) := by decide +kernel
theorem dX7_nightsOf_22 : decode cX7_nightsOf 22 = .ok (.iconst 1, 1) := by decide +kernel
theorem dX7_nightsOf_23 : decode cX7_nightsOf 23 = .ok (.iadd, 1) := by decide +kernel
theorem dX7_nightsOf_24 : decode cX7_nightsOf 24 = .ok (.istore_n 2, 1) := by decide +kernel
theorem dX7_nightsOf_25 : decode cX7_nightsOf 25 = .ok (.iinc 3 1, 3) := by decide +kernel
theorem dX7_nightsOf_28 : decode cX7_nightsOf 28 = .ok (.goto (-24), 3) := by decide +kernel
theorem dX7_nightsOf_31 : decode cX7_nightsOf 31 = .ok (.iload_n 2, 1) := by decide +kernel
theorem dX7_nightsOf_32 : decode cX7_nightsOf 32 = .ok (.ireturn, 1) := by decide +kernel
theorem dX7_findWinter_0 : decode cX7_findWinter 0 = .ok (.bipush (-9), 2) := by decide +kernel
theorem dX7_findWinter_2 : decode cX7_findWinter 2 = .ok (.istore 4, 2) := by decide +kernel
theorem dX7_findWinter_4 : decode cX7_findWinter 4 = .ok (.iconst 0, 1) := by decide +kernel
theorem dX7_findWinter_5 : decode cX7_findWinter 5 = .ok (.istore 5, 2) := by decide +kernel
theorem dX7_findWinter_7 : decode cX7_findWinter 7 = .ok (.aload_n 0, 1) := by decide +kernel
theorem dX7_findWinter_8 : decode cX7_findWinter 8 = .ok (.getfield 61, 3) := by decide +kernel
theorem dX7_findWinter_11 : decode cX7_findWinter 11 = .ok (.iconst 0, 1) := by decide +kernel
theorem dX7_findWinter_12 : decode cX7_findWinter 12 = .ok (.iconst (-1), 1) := by decide +kernel
theorem dX7_findWinter_13 : decode cX7_findWinter 13 = .ok (.iastore, 1) := by decide +kernel
theorem dX7_findWinter_14 : decode cX7_findWinter 14 = .ok (.iload 5, 2) := by decide +kernel
theorem dX7_findWinter_16 : decode cX7_findWinter 16 = .ok (.ifCond .lt 222, 3) := by decide +kernel
theorem dX7_findWinter_19 : decode cX7_findWinter 19 = .ok (.aload_n 0, 1) := by decide +kernel
theorem dX7_findWinter_20 : decode cX7_findWinter 20 = .ok (.getfield 61, 3) := by decide +kernel
theorem dX7_findWinter_23 : decode cX7_findWinter 23 = .ok (.iload 5, 2) := by decide +kernel
theorem dX7_findWinter_25 : decode cX7_findWinter 25 = .ok (.dup2, 1) := by decide +kernel
theorem dX7_findWinter_26 : decode cX7_findWinter 26 = .ok (.iaload, 1) := by decide +kernel
theorem dX7_findWinter_27 : decode cX7_findWinter 27 = .ok (.iconst 1, 1) := by decide +kernel
theorem dX7_findWinter_28 : decode cX7_findWinter 28 = .ok (.iadd, 1) := by decide +kernel
theorem dX7_findWinter_29 : decode cX7_findWinter 29 = .ok (.iastore, 1) := by decide +kernel
theorem dX7_findWinter_30 : decode cX7_findWinter 30 = .ok (.aload_n 0, 1) := by decide +kernel
theorem dX7_findWinter_31 : decode cX7_findWinter 31 = .ok (.getfield 61, 3) := by decide +kernel
theorem dX7_findWinter_34 : decode cX7_findWinter 34 = .ok (.iload 5, 2) := by decide +kernel
theorem dX7_findWinter_36 : decode cX7_findWinter 36 = .ok (.iaload, 1) := by decide +kernel
theorem dX7_findWinter_37 : decode cX7_findWinter 37 = .ok (.bipush 10, 2) := by decide +kernel
theorem dX7_findWinter_39 : decode cX7_findWinter 39 = .ok (.if_icmp .ge 57, 3) := by decide +kernel
theorem dX7_findWinter_42 : decode cX7_findWinter 42 = .ok (.aload_n 0, 1) := by decide +kernel
theorem dX7_findWinter_43 : decode cX7_findWinter 43 = .ok (.getfield 61, 3) := by decide +kernel
theorem dX7_findWinter_46 : decode cX7_findWinter 46 = .ok (.iload 5, 2) := by decide +kernel
theorem dX7_findWinter_48 : decode cX7_findWinter 48 = .ok (.iaload, 1) := by decide +kernel
theorem dX7_findWinter_49 : decode cX7_findWinter 49 = .ok (.aload_n 0, 1) := by decide +kernel
theorem dX7_findWinter_50 : decode cX7_findWinter 50 = .ok (.getfield 80, 3) := by decide +kernel
theorem dX7_findWinter_53 : decode cX7_findWinter 53 = .ok (.if_icmp .ge 29, 3) := by decide +kernel
theorem dX7_findWinter_56 : decode cX7_findWinter 56 = .ok (.aload_n 0, 1) := by decide +kernel
theorem dX7_findWinter_57 : decode cX7_findWinter 57 = .ok (.iload_n 1, 1) := by decide +kernel
theorem dX7_findWinter_58 : decode cX7_findWinter 58 = .ok (.iload 5, 2) := by decide +kernel
theorem dX7_findWinter_60 : decode cX7_findWinter 60 = .ok (.aload_n 0, 1) := by decide +kernel
theorem dX7_findWinter_61 : decode cX7_findWinter 61 = .ok (.getfield 61, 3) := by decide +kernel
theorem dX7_findWinter_64 : decode cX7_findWinter 64 = .ok (.iload 5, 2) := by decide +kernel
theorem dX7_findWinter_66 : decode cX7_findWinter 66 = .ok (.iaload, 1) := by decide +kernel
theorem dX7_findWinter_67 : decode cX7_findWinter 67 = .ok (.aload_n 0, 1) := by decide +kernel
theorem dX7_findWinter_68 : decode cX7_findWinter 68 = .ok (.getfield 16, 3) := by decide +kernel
theorem dX7_findWinter_71 : decode cX7_findWinter 71 = .ok (.iload_n 2, 1) := by decide +kernel
theorem dX7_findWinter_72 : decode cX7_findWinter 72 = .ok (.iload 5, 2) := by decide +kernel
theorem dX7_findWinter_74 : decode cX7_findWinter 74 = .ok (.iadd, 1) := by decide +kernel
theorem dX7_findWinter_75 : decode cX7_findWinter 75 = .ok (.iaload, 1) := by decide +kernel
theorem dX7_findWinter_76 : decode cX7_findWinter 76 = .ok (.invokevirtual 203, 3) := by decide +kernel
theorem dX7_findWinter_79 : decode cX7_findWinter 79 = .ok (.ifCond .ne 17, 3) := by decide +kernel
theorem dX7_findWinter_82 : decode cX7_findWinter 82 = .ok (.aload_n 0, 1) := by decide +kernel
theorem dX7_findWinter_83 : decode cX7_findWinter 83 = .ok (.getfield 61, 3) := by decide +kernel
theorem dX7_findWinter_86 : decode cX7_findWinter 86 = .ok (.iload 5, 2) := by decide +kernel
theorem dX7_findWinter_88 : decode cX7_findWinter 88 = .ok (.dup2, 1) := by decide +kernel
theorem dX7_findWinter_89 : decode cX7_findWinter 89 = .ok (.iaload, 1) := by decide +kernel
theorem dX7_findWinter_90 : decode cX7_findWinter 90 = .ok (.iconst 1, 1) := by decide +kernel
theorem dX7_findWinter_91 : decode cX7_findWinter 91 = .ok (.iadd, 1) := by decide +kernel
theorem dX7_findWinter_92 : decode cX7_findWinter 92 = .ok (.iastore, 1) := by decide +kernel
theorem dX7_findWinter_93 : decode cX7_findWinter 93 = .ok (.goto (-63), 3) := by decide +kernel
theorem dX7_findWinter_96 : decode cX7_findWinter 96 = .ok (.aload_n 0, 1) := by decide +kernel
theorem dX7_findWinter_97 : decode cX7_findWinter 97 = .ok (.getfield 61, 3) := by decide +kernel
theorem dX7_findWinter_100 : decode cX7_findWinter 100 = .ok (.iload 5, 2) := by decide +kernel
theorem dX7_findWinter_102 : decode cX7_findWinter 102 = .ok (.iaload, 1) := by decide +kernel
theorem dX7_findWinter_103 : decode cX7_findWinter 103 = .ok (.bipush 10, 2) := by decide +kernel
theorem dX7_findWinter_105 : decode cX7_findWinter 105 = .ok (.if_icmp .gt 30, 3) := by decide +kernel
theorem dX7_findWinter_108 : decode cX7_findWinter 108 = .ok (.aload_n 0, 1) := by decide +kernel
theorem dX7_findWinter_109 : decode cX7_findWinter 109 = .ok (.getfield 61, 3) := by decide +kernel
theorem dX7_findWinter_112 : decode cX7_findWinter 112 = .ok (.iload 5, 2) := by decide +kernel
theorem dX7_findWinter_114 : decode cX7_findWinter 114 = .ok (.iconst 1, 1) := by decide +kernel
theorem dX7_findWinter_115 : decode cX7_findWinter 115 = .ok (.iadd, 1) := by decide +kernel
theorem dX7_findWinter_116 : decode cX7_findWinter 116 = .ok (.invokestatic 206, 3) := by decide +kernel
theorem dX7_findWinter_119 : decode cX7_findWinter 119 = .ok (.iload_n 3, 1) := by decide +kernel
theorem dX7_findWinter_120 : decode cX7_findWinter 120 = .ok (.iadd, 1) := by decide +kernel
theorem dX7_findWinter_121 : decode cX7_findWinter 121 = .ok (.iconst 1, 1) := by decide +kernel
theorem dX7_findWinter_122 : decode cX7_findWinter 122 = .ok (.isub, 1) := by decide +kernel
theorem dX7_findWinter_123 : decode cX7_findWinter 123 = .ok (.iload 5, 2) := by decide +kernel
theorem dX7_findWinter_125 : decode cX7_findWinter 125 = .ok (.isub, 1) := by decide +kernel
theorem dX7_findWinter_126 : decode cX7_findWinter 126 = .ok (.iload 4, 2) := by decide +kernel
theorem dX7_findWinter_128 : decode cX7_findWinter 128 = .ok (.if_icmp .gt 7, 3) := by decide +kernel
theorem dX7_findWinter_131 : decode cX7_findWinter 131 = .ok (.iconst 1, 1) := by decide +kernel
theorem dX7_findWinter_132 : decode cX7_findWinter 132 = .ok (.goto 4, 3) := by decide +kernel
theorem dX7_findWinter_135 : decode cX7_findWinter 135 = .ok (.iconst 0, 1) := by decide +kernel
theorem dX7_findWinter_136 : decode cX7_findWinter 136 = .ok (.istore 6, 2) := by decide +kernel
theorem dX7_findWinter_138 : decode cX7_findWinter 138 = .ok (.aload_n 0, 1) := by decide +kernel
theorem dX7_findWinter_139 : decode cX7_findWinter 139 = .ok (.getfield 61, 3) := by decide +kernel
theorem dX7_findWinter_142 : decode cX7_findWinter 142 = .ok (.iload 5, 2) := by decide +kernel
theorem dX7_findWinter_144 : decode cX7_findWinter 144 = .ok (.iaload, 1) := by decide +kernel
theorem dX7_findWinter_145 : decode cX7_findWinter 145 = .ok (.bipush 10, 2) := by decide +kernel
theorem dX7_findWinter_147 : decode cX7_findWinter 147 = .ok (.if_icmp .le 9, 3) := by decide +kernel
theorem dX7_findWinter_150 : decode cX7_findWinter 150 = .ok (.iinc 5 (-1), 3) := by decide +kernel
theorem dX7_findWinter_153 : decode cX7_findWinter 153 = .ok (.goto 82, 3) := by decide +kernel
theorem dX7_findWinter_156 : decode cX7_findWinter 156 = .ok (.iload 5, 2) := by decide +kernel
theorem dX7_findWinter_158 : decode cX7_findWinter 158 = .ok (.iload_n 3, 1) := by decide +kernel
theorem dX7_findWinter_159 : decode cX7_findWinter 159 = .ok (.iconst 1, 1) := by decide +kernel
theorem dX7_findWinter_160 : decode cX7_findWinter 160 = .ok (.isub, 1) := by decide +kernel
theorem dX7_findWinter_161 : decode cX7_findWinter 161 = .ok (.if_icmp .ne 58, 3) := by decide +kernel
theorem dX7_findWinter_164 : decode cX7_findWinter 164 = .ok (.aload_n 0, 1) := by decide +kernel
theorem dX7_findWinter_165 : decode cX7_findWinter 165 = .ok (.getfield 61, 3) := by decide +kernel
theorem dX7_findWinter_168 : decode cX7_findWinter 168 = .ok (.iload_n 3, 1) := by decide +kernel
theorem dX7_findWinter_169 : decode cX7_findWinter 169 = .ok (.invokestatic 206, 3) := by decide +kernel
theorem dX7_findWinter_172 : decode cX7_findWinter 172 = .ok (.iload 4, 2) := by decide +kernel
theorem dX7_findWinter_174 : decode cX7_findWinter 174 = .ok (.if_icmp .le 61, 3) := by decide +kernel
theorem dX7_findWinter_177 : decode cX7_findWinter 177 = .ok (.aload_n 0, 1) := by decide +kernel
theorem dX7_findWinter_178 : decode cX7_findWinter 178 = .ok (.getfield 61, 3) := by decide +kernel
theorem dX7_findWinter_181 : decode cX7_findWinter 181 = .ok (.iload_n 3, 1) := by decide +kernel
theorem dX7_findWinter_182 : decode cX7_findWinter 182 = .ok (.invokestatic 206, 3) := by decide +kernel
theorem dX7_findWinter_185 : decode cX7_findWinter 185 = .ok (.istore 4, 2) := by decide +kernel
theorem dX7_findWinter_187 : decode cX7_findWinter 187 = .ok (.iconst 0, 1) := by decide +kernel
theorem dX7_findWinter_188 : decode cX7_findWinter 188 = .ok (.istore 7, 2) := by decide +kernel
theorem dX7_findWinter_190 : decode cX7_findWinter 190 = .ok (.iload 7, 2) := by decide +kernel
theorem dX7_findWinter_192 : decode cX7_findWinter 192 = .ok (.iload_n 3, 1) := by decide +kernel
theorem dX7_findWinter_193 : decode cX7_findWinter 193 = .ok (.if_icmp .ge 23, 3) := by decide +kernel
theorem dX7_findWinter_196 : decode cX7_findWinter 196 = .ok (.aload_n 0, 1) := by decide +kernel
theorem dX7_findWinter_197 : decode cX7_findWinter 197 = .ok (.getfield 64, 3) := by decide +kernel
theorem dX7_findWinter_200 : decode cX7_findWinter 200 = .ok (.iload 7, 2) := by decide +kernel
theorem dX7_findWinter_202 : decode cX7_findWinter 202 = .ok (.aload_n 0, 1) := by decide +kernel
theorem dX7_findWinter_203 : decode cX7_findWinter 203 = .ok (.getfield 61, 3) := by decide +kernel
theorem dX7_findWinter_206 : decode cX7_findWinter 206 = .ok (.iload 7, 2) := by decide +kernel
theorem dX7_findWinter_208 : decode cX7_findWinter 208 = .ok (.iaload, 1) := by decide +kernel
theorem dX7_findWinter_209 : decode cX7_findWinter 209 = .ok (.iastore, 1) := by decide +kernel
theorem dX7_findWinter_210 : decode cX7_findWinter 210 = .ok (.iinc 7 1, 3) := by decide +kernel
theorem dX7_findWinter_213 : decode cX7_findWinter 213 = .ok (.goto (-23), 3) := by decide +kernel
theorem dX7_findWinter_216 : decode cX7_findWinter 216 = .ok (.goto 19, 3) := by decide +kernel
theorem dX7_findWinter_219 : decode cX7_findWinter 219 = .ok (.iload 6, 2) := by decide +kernel
theorem dX7_findWinter_221 : decode cX7_findWinter 221 = .ok (.ifCond .ne 14, 3) := by decide +kernel
theorem dX7_findWinter_224 : decode cX7_findWinter 224 = .ok (.iinc 5 1, 3) := by decide +kernel
theorem dX7_findWinter_227 : decode cX7_findWinter 227 = .ok (.aload_n 0, 1) := by decide +kernel
theorem dX7_findWinter_228 : decode cX7_findWinter 228 = .ok (.getfield 61, 3) := by decide +kernel
theorem dX7_findWinter_231 : decode cX7_findWinter 231 = .ok (.iload 5, 2) := by decide +kernel
theorem dX7_findWinter_233 : decode cX7_findWinter 233 = .ok (.iconst (-1), 1) := by decide +kernel
theorem dX7_findWinter_234 : decode cX7_findWinter 234 = .ok (.iastore, 1) := by decide +kernel
theorem dX7_findWinter_235 : decode cX7_findWinter 235 = .ok (.goto (-221), 3) := by decide +kernel
theorem dX7_findWinter_238 : decode cX7_findWinter 238 = .ok (.iload 4, 2) := by decide +kernel
theorem dX7_findWinter_240 : decode cX7_findWinter 240 = .ok (.ireturn, 1) := by decide +kernel
theorem dX7_winter_0 : decode cX7_winter 0 = .ok (.aload_n 0, 1) := by decide +kernel
theorem dX7_winter_1 : decode cX7_winter 1 = .ok (.iconst 0, 1) := by decide +kernel
theorem dX7_winter_2 : decode cX7_winter 2 = .ok (.putfield 67, 3) := by decide +kernel
theorem dX7_winter_5 : decode cX7_winter 5 = .ok (.aload_n 0, 1) := by decide +kernel
theorem dX7_winter_6 : decode cX7_winter 6 = .ok (.iload_n 1, 1) := by decide +kernel
theorem dX7_winter_7 : decode cX7_winter 7 = .ok (.invokevirtual 145, 3) := by decide +kernel
theorem dX7_winter_10 : decode cX7_winter 10 = .ok (.ifCond .eq 10, 3) := by decide +kernel
theorem dX7_winter_13 : decode cX7_winter 13 = .ok (.iload_n 2, 1) := by decide +kernel
theorem dX7_winter_14 : decode cX7_winter 14 = .ok (.invokestatic 83, 3) := by decide +kernel
theorem dX7_winter_17 : decode cX7_winter 17 = .ok (.ifCond .ne 5, 3) := by decide +kernel
theorem dX7_winter_20 : decode cX7_winter 20 = .ok (.iconst (-1), 1) := by decide +kernel
theorem dX7_winter_21 : decode cX7_winter 21 = .ok (.ireturn, 1) := by decide +kernel
theorem dX7_winter_22 : decode cX7_winter 22 = .ok (.iload_n 3, 1) := by decide +kernel
theorem dX7_winter_23 : decode cX7_winter 23 = .ok (.invokestatic 87, 3) := by decide +kernel
theorem dX7_winter_26 : decode cX7_winter 26 = .ok (.ifCond .ne 6, 3) := by decide +kernel
theorem dX7_winter_29 : decode cX7_winter 29 = .ok (.bipush (-2), 2) := by decide +kernel
theorem dX7_winter_31 : decode cX7_winter 31 = .ok (.ireturn, 1) := by decide +kernel
theorem dX7_winter_32 : decode cX7_winter 32 = .ok (.aload_n 0, 1) := by decide +kernel
theorem dX7_winter_33 : decode cX7_winter 33 = .ok (.iload_n 2, 1) := by decide +kernel
theorem dX7_winter_34 : decode cX7_winter 34 = .ok (.iload_n 3, 1) := by decide +kernel
theorem dX7_winter_35 : decode cX7_winter 35 = .ok (.iload 4, 2) := by decide +kernel
theorem dX7_winter_37 : decode cX7_winter 37 = .ok (.iload 5, 2) := by decide +kernel
theorem dX7_winter_39 : decode cX7_winter 39 = .ok (.invokevirtual 90, 3) := by decide +kernel
theorem dX7_winter_42 : decode cX7_winter 42 = .ok (.istore 7, 2) := by decide +kernel
theorem dX7_winter_44 : decode cX7_winter 44 = .ok (.iload 7, 2) := by decide +kernel
theorem dX7_winter_46 : decode cX7_winter 46 = .ok (.ifCond .eq 10, 3) := by decide +kernel
theorem dX7_winter_49 : decode cX7_winter 49 = .ok (.aload_n 0, 1) := by decide +kernel
theorem dX7_winter_50 : decode cX7_winter 50 = .ok (.iload 7, 2) := by decide +kernel
theorem dX7_winter_52 : decode cX7_winter 52 = .ok (.invokevirtual 94, 3) := by decide +kernel
theorem dX7_winter_55 : decode cX7_winter 55 = .ok (.ireturn, 1) := by decide +kernel
theorem dX7_winter_56 : decode cX7_winter 56 = .ok (.iload 5, 2) := by decide +kernel
theorem dX7_winter_58 : decode cX7_winter 58 = .ok (.iconst 1, 1) := by decide +kernel
theorem dX7_winter_59 : decode cX7_winter 59 = .ok (.bipush 6, 2) := by decide +kernel
theorem dX7_winter_61 : decode cX7_winter 61 = .ok (.invokestatic 73, 3) := by decide +kernel
theorem dX7_winter_64 : decode cX7_winter 64 = .ok (.ifCond .ne 6, 3) := by decide +kernel
theorem dX7_winter_67 : decode cX7_winter 67 = .ok (.bipush (-2), 2) := by decide +kernel
theorem dX7_winter_69 : decode cX7_winter 69 = .ok (.ireturn, 1) := by decide +kernel
theorem dX7_winter_70 : decode cX7_winter 70 = .ok (.iload 6, 2) := by decide +kernel
theorem dX7_winter_72 : decode cX7_winter 72 = .ok (.iconst (-1), 1) := by decide +kernel
theorem dX7_winter_73 : decode cX7_winter 73 = .ok (.iload 5, 2) := by decide +kernel
theorem dX7_winter_75 : decode cX7_winter 75 = .ok (.iconst 1, 1) := by decide +kernel
theorem dX7_winter_76 : decode cX7_winter 76 = .ok (.isub, 1) := by decide +kernel
theorem dX7_winter_77 : decode cX7_winter 77 = .ok (.invokestatic 73, 3) := by decide +kernel
theorem dX7_winter_80 : decode cX7_winter 80 = .ok (.ifCond .ne 5, 3) := by decide +kernel
theorem dX7_winter_83 : decode cX7_winter 83 = .ok (.iconst (-1), 1) := by decide +kernel
theorem dX7_winter_84 : decode cX7_winter 84 = .ok (.ireturn, 1) := by decide +kernel
theorem dX7_winter_85 : decode cX7_winter 85 = .ok (.aload_n 0, 1) := by decide +kernel
theorem dX7_winter_86 : decode cX7_winter 86 = .ok (.iload_n 1, 1) := by decide +kernel
theorem dX7_winter_87 : decode cX7_winter 87 = .ok (.bipush 60, 2) := by decide +kernel
theorem dX7_winter_89 : decode cX7_winter 89 = .ok (.iload_n 2, 1) := by decide +kernel
theorem dX7_winter_90 : decode cX7_winter 90 = .ok (.imul, 1) := by decide +kernel
theorem dX7_winter_91 : decode cX7_winter 91 = .ok (.iload 4, 2) := by decide +kernel
theorem dX7_winter_93 : decode cX7_winter 93 = .ok (.iadd, 1) := by decide +kernel
theorem dX7_winter_94 : decode cX7_winter 94 = .ok (.iload 5, 2) := by decide +kernel
theorem dX7_winter_96 : decode cX7_winter 96 = .ok (.invokevirtual 210, 3) := by decide +kernel
theorem dX7_winter_99 : decode cX7_winter 99 = .ok (.istore 8, 2) := by decide +kernel
theorem dX7_winter_101 : decode cX7_winter 101 = .ok (.iload 6, 2) := by decide +kernel
theorem dX7_winter_103 : decode cX7_winter 103 = .ok (.iconst (-1), 1) := by decide +kernel
theorem dX7_winter_104 : decode cX7_winter 104 = .ok (.if_icmp .ne 8, 3) := by decide +kernel
theorem dX7_winter_107 : decode cX7_winter 107 = .ok (.iload 8, 2) := by decide +kernel
theorem dX7_winter_109 : decode cX7_winter 109 = .ok (.goto 27, 3) := by decide +kernel
theorem dX7_winter_112 : decode cX7_winter 112 = .ok (.aload_n 0, 1) := by decide +kernel
theorem dX7_winter_113 : decode cX7_winter 113 = .ok (.getfield 64, 3) := by decide +kernel
theorem dX7_winter_116 : decode cX7_winter 116 = .ok (.iload 6, 2) := by decide +kernel
theorem dX7_winter_118 : decode cX7_winter 118 = .ok (.iaload, 1) := by decide +kernel
theorem dX7_winter_119 : decode cX7_winter 119 = .ok (.bipush 10, 2) := by decide +kernel
theorem dX7_winter_121 : decode cX7_winter 121 = .ok (.if_icmp .ne 8, 3) := by decide +kernel
theorem dX7_winter_124 : decode cX7_winter 124 = .ok (.bipush (-9), 2) := by decide +kernel
theorem dX7_winter_126 : decode cX7_winter 126 = .ok (.goto 10, 3) := by decide +kernel
theorem dX7_winter_129 : decode cX7_winter 129 = .ok (.aload_n 0, 1) := by decide +kernel
theorem dX7_winter_130 : decode cX7_winter 130 = .ok (.getfield 64, 3) := by decide +kernel
theorem dX7_winter_133 : decode cX7_winter 133 = .ok (.iload 6, 2) := by decide +kernel
theorem dX7_winter_135 : decode cX7_winter 135 = .ok (.iaload, 1) := by decide +kernel
theorem dX7_winter_136 : decode cX7_winter 136 = .ok (.ireturn, 1) := by decide +kernel
theorem dX7_strong_0 : decode cX7_strong 0 = .ok (.iconst (-1), 1) := by decide +kernel
theorem dX7_strong_1 : decode cX7_strong 1 = .ok (.istore_n 2, 1) := by decide +kernel
theorem dX7_strong_2 : decode cX7_strong 2 = .ok (.iconst 0, 1) := by decide +kernel
theorem dX7_strong_3 : decode cX7_strong 3 = .ok (.istore_n 3, 1) := by decide +kernel
theorem dX7_strong_4 : decode cX7_strong 4 = .ok (.iload_n 3, 1) := by decide +kernel
theorem dX7_strong_5 : decode cX7_strong 5 = .ok (.aload_n 0, 1) := by decide +kernel
theorem dX7_strong_6 : decode cX7_strong 6 = .ok (.getfield 80, 3) := by decide +kernel
theorem dX7_strong_9 : decode cX7_strong 9 = .ok (.if_icmp .ge 46, 3) := by decide +kernel
theorem dX7_strong_12 : decode cX7_strong 12 = .ok (.aload_n 0, 1) := by decide +kernel
theorem dX7_strong_13 : decode cX7_strong 13 = .ok (.getfield 22, 3) := by decide +kernel
theorem dX7_strong_16 : decode cX7_strong 16 = .ok (.iload_n 3, 1) := by decide +kernel
theorem dX7_strong_17 : decode cX7_strong 17 = .ok (.iaload, 1) := by decide +kernel
theorem dX7_strong_18 : decode cX7_strong 18 = .ok (.iload_n 1, 1) := by decide +kernel
theorem dX7_strong_19 : decode cX7_strong 19 = .ok (.if_icmp .eq 28, 3) := by decide +kernel
theorem dX7_strong_22 : decode cX7_strong 22 = .ok (.aload_n 0, 1) := by decide +kernel
theorem dX7_strong_23 : decode cX7_strong 23 = .ok (.iload_n 3, 1) := by decide +kernel
theorem dX7_strong_24 : decode cX7_strong 24 = .ok (.invokevirtual 139, 3) := by decide +kernel
theorem dX7_strong_27 : decode cX7_strong 27 = .ok (.ifCond .eq 20, 3) := by decide +kernel
theorem dX7_strong_30 : decode cX7_strong 30 = .ok (.aload_n 0, 1) := by decide +kernel
theorem dX7_strong_31 : decode cX7_strong 31 = .ok (.iload_n 3, 1) := by decide +kernel
theorem dX7_strong_32 : decode cX7_strong 32 = .ok (.invokevirtual 142, 3) := by decide +kernel
theorem dX7_strong_35 : decode cX7_strong 35 = .ok (.iload_n 2, 1) := by decide +kernel
theorem dX7_strong_36 : decode cX7_strong 36 = .ok (.if_icmp .le 11, 3) := by decide +kernel
theorem dX7_strong_39 : decode cX7_strong 39 = .ok (.aload_n 0, 1) := by decide +kernel
theorem dX7_strong_40 : decode cX7_strong 40 = .ok (.iload_n 3, 1) := by decide +kernel
theorem dX7_strong_41 : decode cX7_strong 41 = .ok (.invokevirtual 142, 3) := by decide +kernel
theorem dX7_strong_44 : decode cX7_strong 44 = .ok (.goto 4, 3) := by decide +kernel
theorem dX7_strong_47 : decode cX7_strong 47 = .ok (.iload_n 2, 1) := by decide +kernel
theorem dX7_strong_48 : decode cX7_strong 48 = .ok (.istore_n 2, 1) := by decide +kernel
theorem dX7_strong_49 : decode cX7_strong 49 = .ok (.iinc 3 1, 3) := by decide +kernel
theorem dX7_strong_52 : decode cX7_strong 52 = .ok (.goto (-48), 3) := by decide +kernel
theorem dX7_strong_55 : decode cX7_strong 55 = .ok (.iconst 0, 1) := by decide +kernel
theorem dX7_strong_56 : decode cX7_strong 56 = .ok (.istore_n 3, 1) := by decide +kernel
theorem dX7_strong_57 : decode cX7_strong 57 = .ok (.iconst 0, 1) := by decide +kernel
theorem dX7_strong_58 : decode cX7_strong 58 = .ok (.istore 4, 2) := by decide +kernel
theorem dX7_strong_60 : decode cX7_strong 60 = .ok (.iload 4, 2) := by decide +kernel
theorem dX7_strong_62 : decode cX7_strong 62 = .ok (.aload_n 0, 1) := by decide +kernel
theorem dX7_strong_63 : decode cX7_strong 63 = .ok (.getfield 80, 3) := by decide +kernel
theorem dX7_strong_66 : decode cX7_strong 66 = .ok (.if_icmp .ge 47, 3) := by decide +kernel
theorem dX7_strong_69 : decode cX7_strong 69 = .ok (.iload_n 3, 1) := by decide +kernel
theorem dX7_strong_70 : decode cX7_strong 70 = .ok (.aload_n 0, 1) := by decide +kernel
theorem dX7_strong_71 : decode cX7_strong 71 = .ok (.getfield 22, 3) := by decide +kernel
theorem dX7_strong_74 : decode cX7_strong 74 = .ok (.iload 4, 2) := by decide +kernel
theorem dX7_strong_76 : decode cX7_strong 76 = .ok (.iaload, 1) := by decide +kernel
theorem dX7_strong_77 : decode cX7_strong 77 = .ok (.iload_n 1, 1) := by decide +kernel
theorem dX7_strong_78 : decode cX7_strong 78 = .ok (.if_icmp .ne 26, 3) := by decide +kernel
theorem dX7_strong_81 : decode cX7_strong 81 = .ok (.aload_n 0, 1) := by decide +kernel
theorem dX7_strong_82 : decode cX7_strong 82 = .ok (.iload 4, 2) := by decide +kernel
theorem dX7_strong_84 : decode cX7_strong 84 = .ok (.invokevirtual 139, 3) := by decide +kernel
theorem dX7_strong_87 : decode cX7_strong 87 = .ok (.ifCond .eq 17, 3) := by decide +kernel
theorem dX7_strong_90 : decode cX7_strong 90 = .ok (.aload_n 0, 1) := by decide +kernel
theorem dX7_strong_91 : decode cX7_strong 91 = .ok (.iload 4, 2) := by decide +kernel
theorem dX7_strong_93 : decode cX7_strong 93 = .ok (.invokevirtual 142, 3) := by decide +kernel
theorem dX7_strong_96 : decode cX7_strong 96 = .ok (.iload_n 2, 1) := by decide +kernel
theorem dX7_strong_97 : decode cX7_strong 97 = .ok (.if_icmp .le 7, 3) := by decide +kernel
theorem dX7_strong_100 : decode cX7_strong 100 = .ok (.iconst 1, 1) := by decide +kernel
theorem dX7_strong_101 : decode cX7_strong 101 = .ok (.goto 4, 3) := by decide +kernel
theorem dX7_strong_104 : decode cX7_strong 104 = .ok (.iconst 0, 1) := by decide +kernel
theorem dX7_strong_105 : decode cX7_strong 105 = .ok (.iadd, 1) := by decide +kernel
theorem dX7_strong_106 : decode cX7_strong 106 = .ok (.istore_n 3, 1) := by decide +kernel
theorem dX7_strong_107 : decode cX7_strong 107 = .ok (.iinc 4 1, 3) := by decide +kernel
theorem dX7_strong_110 : decode cX7_strong 110 = .ok (.goto (-50), 3) := by decide +kernel
theorem dX7_strong_113 : decode cX7_strong 113 = .ok (.iload_n 3, 1) := by decide +kernel
theorem dX7_strong_114 : decode cX7_strong 114 = .ok (.ireturn, 1) := by decide +kernel
theorem dX7_trade_0 : decode cX7_trade 0 = .ok (.aload_n 0, 1) := by decide +kernel
theorem dX7_trade_1 : decode cX7_trade 1 = .ok (.iload_n 1, 1) := by decide +kernel
theorem dX7_trade_2 : decode cX7_trade 2 = .ok (.invokevirtual 136, 3) := by decide +kernel
theorem dX7_trade_5 : decode cX7_trade 5 = .ok (.ifCond .eq 11, 3) := by decide +kernel
theorem dX7_trade_8 : decode cX7_trade 8 = .ok (.aload_n 0, 1) := by decide +kernel
theorem dX7_trade_9 : decode cX7_trade 9 = .ok (.iload_n 2, 1) := by decide +kernel
theorem dX7_trade_10 : decode cX7_trade 10 = .ok (.invokevirtual 136, 3) := by decide +kernel
theorem dX7_trade_13 : decode cX7_trade 13 = .ok (.ifCond .ne 5, 3) := by decide +kernel
theorem dX7_trade_16 : decode cX7_trade 16 = .ok (.iconst (-1), 1) := by decide +kernel
theorem dX7_trade_17 : decode cX7_trade 17 = .ok (.ireturn, 1) := by decide +kernel
theorem dX7_trade_18 : decode cX7_trade 18 = .ok (.aload_n 0, 1) := by decide +kernel
theorem dX7_trade_19 : decode cX7_trade 19 = .ok (.getfield 22, 3) := by decide +kernel
theorem dX7_trade_22 : decode cX7_trade 22 = .ok (.iload_n 1, 1) := by decide +kernel
theorem dX7_trade_23 : decode cX7_trade 23 = .ok (.iaload, 1) := by decide +kernel
theorem dX7_trade_24 : decode cX7_trade 24 = .ok (.istore_n 3, 1) := by decide +kernel
theorem dX7_trade_25 : decode cX7_trade 25 = .ok (.aload_n 0, 1) := by decide +kernel
theorem dX7_trade_26 : decode cX7_trade 26 = .ok (.getfield 22, 3) := by decide +kernel
theorem dX7_trade_29 : decode cX7_trade 29 = .ok (.iload_n 2, 1) := by decide +kernel
theorem dX7_trade_30 : decode cX7_trade 30 = .ok (.iaload, 1) := by decide +kernel
theorem dX7_trade_31 : decode cX7_trade 31 = .ok (.istore 4, 2) := by decide +kernel
theorem dX7_trade_33 : decode cX7_trade 33 = .ok (.iload_n 3, 1) := by decide +kernel
theorem dX7_trade_34 : decode cX7_trade 34 = .ok (.iload 4, 2) := by decide +kernel
theorem dX7_trade_36 : decode cX7_trade 36 = .ok (.if_icmp .ne 6, 3) := by decide +kernel
theorem dX7_trade_39 : decode cX7_trade 39 = .ok (.bipush (-3), 2) := by decide +kernel
theorem dX7_trade_41 : decode cX7_trade 41 = .ok (.ireturn, 1) := by decide +kernel
theorem dX7_trade_42 : decode cX7_trade 42 = .ok (.aload_n 0, 1) := by decide +kernel
theorem dX7_trade_43 : decode cX7_trade 43 = .ok (.iload_n 3, 1) := by decide +kernel
theorem dX7_trade_44 : decode cX7_trade 44 = .ok (.invokevirtual 214, 3) := by decide +kernel
theorem dX7_trade_47 : decode cX7_trade 47 = .ok (.istore 5, 2) := by decide +kernel
theorem dX7_trade_49 : decode cX7_trade 49 = .ok (.aload_n 0, 1) := by decide +kernel
theorem dX7_trade_50 : decode cX7_trade 50 = .ok (.getfield 22, 3) := by decide +kernel
theorem dX7_trade_53 : decode cX7_trade 53 = .ok (.iload_n 1, 1) := by decide +kernel
theorem dX7_trade_54 : decode cX7_trade 54 = .ok (.iload 4, 2) := by decide +kernel
theorem dX7_trade_56 : decode cX7_trade 56 = .ok (.iastore, 1) := by decide +kernel
theorem dX7_trade_57 : decode cX7_trade 57 = .ok (.aload_n 0, 1) := by decide +kernel
theorem dX7_trade_58 : decode cX7_trade 58 = .ok (.getfield 22, 3) := by decide +kernel
theorem dX7_trade_61 : decode cX7_trade 61 = .ok (.iload_n 2, 1) := by decide +kernel
theorem dX7_trade_62 : decode cX7_trade 62 = .ok (.iload_n 3, 1) := by decide +kernel
theorem dX7_trade_63 : decode cX7_trade 63 = .ok (.iastore, 1) := by decide +kernel
theorem dX7_trade_64 : decode cX7_trade 64 = .ok (.aload_n 0, 1) := by decide +kernel
theorem dX7_trade_65 : decode cX7_trade 65 = .ok (.iload_n 3, 1) := by decide +kernel
theorem dX7_trade_66 : decode cX7_trade 66 = .ok (.invokevirtual 214, 3) := by decide +kernel
theorem dX7_trade_69 : decode cX7_trade 69 = .ok (.istore 6, 2) := by decide +kernel
theorem dX7_trade_71 : decode cX7_trade 71 = .ok (.aload_n 0, 1) := by decide +kernel
theorem dX7_trade_72 : decode cX7_trade 72 = .ok (.getfield 22, 3) := by decide +kernel
theorem dX7_trade_75 : decode cX7_trade 75 = .ok (.iload_n 1, 1) := by decide +kernel
theorem dX7_trade_76 : decode cX7_trade 76 = .ok (.iload_n 3, 1) := by decide +kernel
theorem dX7_trade_77 : decode cX7_trade 77 = .ok (.iastore, 1) := by decide +kernel
theorem dX7_trade_78 : decode cX7_trade 78 = .ok (.aload_n 0, 1) := by decide +kernel
theorem dX7_trade_79 : decode cX7_trade 79 = .ok (.getfield 22, 3) := by decide +kernel
theorem dX7_trade_82 : decode cX7_trade 82 = .ok (.iload_n 2, 1) := by decide +kernel
theorem dX7_trade_83 : decode cX7_trade 83 = .ok (.iload 4, 2) := by decide +kernel
theorem dX7_trade_85 : decode cX7_trade 85 = .ok (.iastore, 1) := by decide +kernel
theorem dX7_trade_86 : decode cX7_trade 86 = .ok (.iload 6, 2) := by decide +kernel
theorem dX7_trade_88 : decode cX7_trade 88 = .ok (.iload 5, 2) := by decide +kernel
theorem dX7_trade_90 : decode cX7_trade 90 = .ok (.isub, 1) := by decide +kernel
theorem dX7_trade_91 : decode cX7_trade 91 = .ok (.bipush 100, 2) := by decide +kernel
theorem dX7_trade_93 : decode cX7_trade 93 = .ok (.iadd, 1) := by decide +kernel
theorem dX7_trade_94 : decode cX7_trade 94 = .ok (.ireturn, 1) := by decide +kernel
theorem dX7_areAllGuests_0 : decode cX7_areAllGuests 0 = .ok (.iconst 0, 1) := by decide +kernel
theorem dX7_areAllGuests_1 : decode cX7_areAllGuests 1 = .ok (.istore_n 2, 1) := by decide +kernel
theorem dX7_areAllGuests_2 : decode cX7_areAllGuests 2 = .ok (.iconst 0, 1) := by decide +kernel
theorem dX7_areAllGuests_3 : decode cX7_areAllGuests 3 = .ok (.istore_n 3, 1) := by decide +kernel
theorem dX7_areAllGuests_4 : decode cX7_areAllGuests 4 = .ok (.iload_n 3, 1) := by decide +kernel
theorem dX7_areAllGuests_5 : decode cX7_areAllGuests 5 = .ok (.aload_n 0, 1) := by decide +kernel
theorem dX7_areAllGuests_6 : decode cX7_areAllGuests 6 = .ok (.getfield 77, 3) := by decide +kernel
theorem dX7_areAllGuests_9 : decode cX7_areAllGuests 9 = .ok (.if_icmp .ge 39, 3) := by decide +kernel
theorem dX7_areAllGuests_12 : decode cX7_areAllGuests 12 = .ok (.aload_n 0, 1) := by decide +kernel
theorem dX7_areAllGuests_13 : decode cX7_areAllGuests 13 = .ok (.aload_n 0, 1) := by decide +kernel
theorem dX7_areAllGuests_14 : decode cX7_areAllGuests 14 = .ok (.getfield 16, 3) := by decide +kernel
theorem dX7_areAllGuests_17 : decode cX7_areAllGuests 17 = .ok (.iload_n 1, 1) := by decide +kernel
theorem dX7_areAllGuests_18 : decode cX7_areAllGuests 18 = .ok (.iload_n 3, 1) := by decide +kernel
theorem dX7_areAllGuests_19 : decode cX7_areAllGuests 19 = .ok (.iadd, 1) := by decide +kernel
theorem dX7_areAllGuests_20 : decode cX7_areAllGuests 20 = .ok (.iaload, 1) := by decide +kernel
theorem dX7_areAllGuests_21 : decode cX7_areAllGuests 21 = .ok (.invokevirtual 145, 3) := by decide +kernel
theorem dX7_areAllGuests_24 : decode cX7_areAllGuests 24 = .ok (.ifCond .ne 5, 3) := by decide +kernel
theorem dX7_areAllGuests_27 : decode cX7_areAllGuests 27 = .ok (.iconst 0, 1) := by decide +kernel
theorem dX7_areAllGuests_28 : decode cX7_areAllGuests 28 = .ok (.ireturn, 1) := by decide +kernel
theorem dX7_areAllGuests_29 : decode cX7_areAllGuests 29 = .ok (.iload_n 2, 1) := by decide +kernel
theorem dX7_areAllGuests_30 : decode cX7_areAllGuests 30 = .ok (.iconst 1, 1) := by decide +kernel
theorem dX7_areAllGuests_31 : decode cX7_areAllGuests 31 = .ok (.aload_n 0, 1) := by decide +kernel
theorem dX7_areAllGuests_32 : decode cX7_areAllGuests 32 = .ok (.getfield 16, 3) := by decide +kernel
theorem dX7_areAllGuests_35 : decode cX7_areAllGuests 35 = .ok (.iload_n 1, 1) := by decide +kernel
theorem dX7_areAllGuests_36 : decode cX7_areAllGuests 36 = .ok (.iload_n 3, 1) := by decide +kernel
theorem dX7_areAllGuests_37 : decode cX7_areAllGuests 37 = .ok (.iadd, 1) := by decide +kernel
theorem dX7_areAllGuests_38 : decode cX7_areAllGuests 38 = .ok (.iaload, 1) := by decide +kernel
theorem dX7_areAllGuests_39 : decode cX7_areAllGuests 39 = .ok (.ishl, 1) := by decide +kernel
theorem dX7_areAllGuests_40 : decode cX7_areAllGuests 40 = .ok (.ior, 1) := by decide +kernel
theorem dX7_areAllGuests_41 : decode cX7_areAllGuests 41 = .ok (.istore_n 2, 1) := by decide +kernel
theorem dX7_areAllGuests_42 : decode cX7_areAllGuests 42 = .ok (.iinc 3 1, 3) := by decide +kernel
theorem dX7_areAllGuests_45 : decode cX7_areAllGuests 45 = .ok (.goto (-41), 3) := by decide +kernel
theorem dX7_areAllGuests_48 : decode cX7_areAllGuests 48 = .ok (.iload_n 2, 1) := by decide +kernel
theorem dX7_areAllGuests_49 : decode cX7_areAllGuests 49 = .ok (.iconst 1, 1) := by decide +kernel
theorem dX7_areAllGuests_50 : decode cX7_areAllGuests 50 = .ok (.aload_n 0, 1) := by decide +kernel
theorem dX7_areAllGuests_51 : decode cX7_areAllGuests 51 = .ok (.getfield 77, 3) := by decide +kernel
theorem dX7_areAllGuests_54 : decode cX7_areAllGuests 54 = .ok (.ishl, 1) := by decide +kernel
theorem dX7_areAllGuests_55 : decode cX7_areAllGuests 55 = .ok (.iconst 1, 1) := by decide +kernel
theorem dX7_areAllGuests_56 : decode cX7_areAllGuests 56 = .ok (.isub, 1) := by decide +kernel
theorem dX7_areAllGuests_57 : decode cX7_areAllGuests 57 = .ok (.if_icmp .ne 7, 3) := by decide +kernel
theorem dX7_areAllGuests_60 : decode cX7_areAllGuests 60 = .ok (.iconst 1, 1) := by decide +kernel
theorem dX7_areAllGuests_61 : decode cX7_areAllGuests 61 = .ok (.goto 4, 3) := by decide +kernel
theorem dX7_areAllGuests_64 : decode cX7_areAllGuests 64 = .ok (.iconst 0, 1) := by decide +kernel
theorem dX7_areAllGuests_65 : decode cX7_areAllGuests 65 = .ok (.ireturn, 1) := by decide +kernel
theorem dX7_doLie_0 : decode cX7_doLie 0 = .ok (.iconst 0, 1) := by decide +kernel
theorem dX7_doLie_1 : decode cX7_doLie 1 = .ok (.istore_n 2, 1) := by decide +kernel
theorem dX7_doLie_2 : decode cX7_doLie 2 = .ok (.iload_n 2, 1) := by decide +kernel
theorem dX7_doLie_3 : decode cX7_doLie 3 = .ok (.aload_n 0, 1) := by decide +kernel
theorem dX7_doLie_4 : decode cX7_doLie 4 = .ok (.getfield 77, 3) := by decide +kernel
theorem dX7_doLie_7 : decode cX7_doLie 7 = .ok (.if_icmp .ge 27, 3) := by decide +kernel
theorem dX7_doLie_10 : decode cX7_doLie 10 = .ok (.aload_n 0, 1) := by decide +kernel
theorem dX7_doLie_11 : decode cX7_doLie 11 = .ok (.aload_n 0, 1) := by decide +kernel
theorem dX7_doLie_12 : decode cX7_doLie 12 = .ok (.getfield 16, 3) := by decide +kernel
theorem dX7_doLie_15 : decode cX7_doLie 15 = .ok (.iload_n 1, 1) := by decide +kernel
theorem dX7_doLie_16 : decode cX7_doLie 16 = .ok (.iload_n 2, 1) := by decide +kernel
theorem dX7_doLie_17 : decode cX7_doLie 17 = .ok (.iadd, 1) := by decide +kernel
theorem dX7_doLie_18 : decode cX7_doLie 18 = .ok (.iaload, 1) := by decide +kernel
theorem dX7_doLie_19 : decode cX7_doLie 19 = .ok (.invokevirtual 148, 3) := by decide +kernel
theorem dX7_doLie_22 : decode cX7_doLie 22 = .ok (.iload_n 2, 1) := by decide +kernel
theorem dX7_doLie_23 : decode cX7_doLie 23 = .ok (.if_icmp .eq 5, 3) := by decide +kernel
theorem dX7_doLie_26 : decode cX7_doLie 26 = .ok (.iconst 0, 1) := by decide +kernel
theorem dX7_doLie_27 : decode cX7_doLie 27 = .ok (.ireturn, 1) := by decide +kernel
theorem dX7_doLie_28 : decode cX7_doLie 28 = .ok (.iinc 2 1, 3) := by decide +kernel
theorem dX7_doLie_31 : decode cX7_doLie 31 = .ok (.goto (-29), 3) := by decide +kernel
theorem dX7_doLie_34 : decode cX7_doLie 34 = .ok (.iconst 1, 1) := by decide +kernel
theorem dX7_doLie_35 : decode cX7_doLie 35 = .ok (.ireturn, 1) := by decide +kernel
theorem dX7_timesBefore_0 : decode cX7_timesBefore 0 = .ok (.iconst 0, 1) := by decide +kernel
theorem dX7_timesBefore_1 : decode cX7_timesBefore 1 = .ok (.istore_n 3, 1) := by decide +kernel
theorem dX7_timesBefore_2 : decode cX7_timesBefore 2 = .ok (.iconst 0, 1) := by decide +kernel
theorem dX7_timesBefore_3 : decode cX7_timesBefore 3 = .ok (.istore 4, 2) := by decide +kernel
theorem dX7_timesBefore_5 : decode cX7_timesBefore 5 = .ok (.iload 4, 2) := by decide +kernel
theorem dX7_timesBefore_7 : decode cX7_timesBefore 7 = .ok (.iconst 5, 1) := by decide +kernel
theorem dX7_timesBefore_8 : decode cX7_timesBefore 8 = .ok (.iload_n 2, 1) := by decide +kernel
theorem dX7_timesBefore_9 : decode cX7_timesBefore 9 = .ok (.imul, 1) := by decide +kernel
theorem dX7_timesBefore_10 : decode cX7_timesBefore 10 = .ok (.if_icmp .ge 28, 3) := by decide +kernel
theorem dX7_timesBefore_13 : decode cX7_timesBefore 13 = .ok (.iload_n 3, 1) := by decide +kernel
theorem dX7_timesBefore_14 : decode cX7_timesBefore 14 = .ok (.aload_n 0, 1) := by decide +kernel
theorem dX7_timesBefore_15 : decode cX7_timesBefore 15 = .ok (.getfield 37, 3) := by decide +kernel
theorem dX7_timesBefore_18 : decode cX7_timesBefore 18 = .ok (.iload 4, 2) := by decide +kernel
theorem dX7_timesBefore_20 : decode cX7_timesBefore 20 = .ok (.iaload, 1) := by decide +kernel
theorem dX7_timesBefore_21 : decode cX7_timesBefore 21 = .ok (.iload_n 1, 1) := by decide +kernel
theorem dX7_timesBefore_22 : decode cX7_timesBefore 22 = .ok (.if_icmp .ne 7, 3) := by decide +kernel
theorem dX7_timesBefore_25 : decode cX7_timesBefore 25 = .ok (.iconst 1, 1) := by decide +kernel
theorem dX7_timesBefore_26 : decode cX7_timesBefore 26 = .ok (.goto 4, 3) := by decide +kernel
theorem dX7_timesBefore_29 : decode cX7_timesBefore 29 = .ok (.iconst 0, 1) := by decide +kernel
theorem dX7_timesBefore_30 : decode cX7_timesBefore 30 = .ok (.iadd, 1) := by decide +kernel
theorem dX7_timesBefore_31 : decode cX7_timesBefore 31 = .ok (.istore_n 3, 1) := by decide +kernel
theorem dX7_timesBefore_32 : decode cX7_timesBefore 32 = .ok (.iinc 4 1, 3) := by decide +kernel
theorem dX7_timesBefore_35 : decode cX7_timesBefore 35 = .ok (.goto (-30), 3) := by decide +kernel
theorem dX7_timesBefore_38 : decode cX7_timesBefore 38 = .ok (.iload_n 3, 1) := by decide +kernel
theorem dX7_timesBefore_39 : decode cX7_timesBefore 39 = .ok (.ireturn, 1) := by decide +kernel
theorem dX7_toldBy_0 : decode cX7_toldBy 0 = .ok (.aload_n 0, 1) := by decide +kernel
theorem dX7_toldBy_1 : decode cX7_toldBy 1 = .ok (.iconst 0, 1) := by decide +kernel
theorem dX7_toldBy_2 : decode cX7_toldBy 2 = .ok (.putfield 67, 3) := by decide +kernel
theorem dX7_toldBy_5 : decode cX7_toldBy 5 = .ok (.aload_n 0, 1) := by decide +kernel
theorem dX7_toldBy_6 : decode cX7_toldBy 6 = .ok (.iload_n 1, 1) := by decide +kernel
theorem dX7_toldBy_7 : decode cX7_toldBy 7 = .ok (.invokevirtual 158, 3) := by decide +kernel
theorem dX7_toldBy_10 : decode cX7_toldBy 10 = .ok (.ifCond .eq 18, 3) := by decide +kernel
theorem dX7_toldBy_13 : decode cX7_toldBy 13 = .ok (.aload_n 0, 1) := by decide +kernel
theorem dX7_toldBy_14 : decode cX7_toldBy 14 = .ok (.iload_n 2, 1) := by decide +kernel
theorem dX7_toldBy_15 : decode cX7_toldBy 15 = .ok (.invokevirtual 145, 3) := by decide +kernel
theorem dX7_toldBy_18 : decode cX7_toldBy 18 = .ok (.ifCond .eq 10, 3) := by decide +kernel
theorem dX7_toldBy_21 : decode cX7_toldBy 21 = .ok (.iload_n 3, 1) := by decide +kernel
theorem dX7_toldBy_22 : decode cX7_toldBy 22 = .ok (.invokestatic 83, 3) := by decide +kernel
theorem dX7_toldBy_25 : decode cX7_toldBy 25 = .ok (.ifCond .ne 5, 3) := by decide +kernel
theorem dX7_toldBy_28 : decode cX7_toldBy 28 = .ok (.iconst (-1), 1) := by decide +kernel
theorem dX7_toldBy_29 : decode cX7_toldBy 29 = .ok (.ireturn, 1) := by decide +kernel
theorem dX7_toldBy_30 : decode cX7_toldBy 30 = .ok (.iload 4, 2) := by decide +kernel
theorem dX7_toldBy_32 : decode cX7_toldBy 32 = .ok (.invokestatic 87, 3) := by decide +kernel
theorem dX7_toldBy_35 : decode cX7_toldBy 35 = .ok (.ifCond .ne 6, 3) := by decide +kernel
theorem dX7_toldBy_38 : decode cX7_toldBy 38 = .ok (.bipush (-2), 2) := by decide +kernel
theorem dX7_toldBy_40 : decode cX7_toldBy 40 = .ok (.ireturn, 1) := by decide +kernel
theorem dX7_toldBy_41 : decode cX7_toldBy 41 = .ok (.aload_n 0, 1) := by decide +kernel
theorem dX7_toldBy_42 : decode cX7_toldBy 42 = .ok (.iload_n 3, 1) := by decide +kernel
theorem dX7_toldBy_43 : decode cX7_toldBy 43 = .ok (.iload 4, 2) := by decide +kernel
theorem dX7_toldBy_45 : decode cX7_toldBy 45 = .ok (.iload 5, 2) := by decide +kernel
theorem dX7_toldBy_47 : decode cX7_toldBy 47 = .ok (.aload_n 0, 1) := by decide +kernel
theorem dX7_toldBy_48 : decode cX7_toldBy 48 = .ok (.getfield 77, 3) := by decide +kernel
theorem dX7_toldBy_51 : decode cX7_toldBy 51 = .ok (.invokevirtual 90, 3) := by decide +kernel
theorem dX7_toldBy_54 : decode cX7_toldBy 54 = .ok (.istore 6, 2) := by decide +kernel
theorem dX7_toldBy_56 : decode cX7_toldBy 56 = .ok (.iload 6, 2) := by decide +kernel
theorem dX7_toldBy_58 : decode cX7_toldBy 58 = .ok (.ifCond .eq 10, 3) := by decide +kernel
theorem dX7_toldBy_61 : decode cX7_toldBy 61 = .ok (.aload_n 0, 1) := by decide +kernel
theorem dX7_toldBy_62 : decode cX7_toldBy 62 = .ok (.iload 6, 2) := by decide +kernel
theorem dX7_toldBy_64 : decode cX7_toldBy 64 = .ok (.invokevirtual 94, 3) := by decide +kernel
theorem dX7_toldBy_67 : decode cX7_toldBy 67 = .ok (.ireturn, 1) := by decide +kernel
theorem dX7_toldBy_68 : decode cX7_toldBy 68 = .ok (.bipush 60, 2) := by decide +kernel
theorem dX7_toldBy_70 : decode cX7_toldBy 70 = .ok (.iload_n 3, 1) := by decide +kernel
theorem dX7_toldBy_71 : decode cX7_toldBy 71 = .ok (.imul, 1) := by decide +kernel
theorem dX7_toldBy_72 : decode cX7_toldBy 72 = .ok (.iload 5, 2) := by decide +kernel
theorem dX7_toldBy_74 : decode cX7_toldBy 74 = .ok (.iadd, 1) := by decide +kernel
theorem dX7_toldBy_75 : decode cX7_toldBy 75 = .ok (.istore 7, 2) := by decide +kernel
theorem dX7_toldBy_77 : decode cX7_toldBy 77 = .ok (.aload_n 0, 1) := by decide +kernel
theorem dX7_toldBy_78 : decode cX7_toldBy 78 = .ok (.iload 7, 2) := by decide +kernel
theorem dX7_toldBy_80 : decode cX7_toldBy 80 = .ok (.invokevirtual 217, 3) := by decide +kernel
theorem dX7_toldBy_83 : decode cX7_toldBy 83 = .ok (.ifCond .ne 6, 3) := by decide +kernel
theorem dX7_toldBy_86 : decode cX7_toldBy 86 = .ok (.bipush (-2), 2) := by decide +kernel
theorem dX7_toldBy_88 : decode cX7_toldBy 88 = .ok (.ireturn, 1) := by decide +kernel
theorem dX7_toldBy_89 : decode cX7_toldBy 89 = .ok (.aload_n 0, 1) := by decide +kernel
theorem dX7_toldBy_90 : decode cX7_toldBy 90 = .ok (.iload_n 1, 1) := by decide +kernel
theorem dX7_toldBy_91 : decode cX7_toldBy 91 = .ok (.invokevirtual 161, 3) := by decide +kernel
theorem dX7_toldBy_94 : decode cX7_toldBy 94 = .ok (.iconst 0, 1) := by decide +kernel
theorem dX7_toldBy_95 : decode cX7_toldBy 95 = .ok (.istore 8, 2) := by decide +kernel
theorem dX7_toldBy_97 : decode cX7_toldBy 97 = .ok (.iconst 0, 1) := by decide +kernel
theorem dX7_toldBy_98 : decode cX7_toldBy 98 = .ok (.istore 9, 2) := by decide +kernel
theorem dX7_toldBy_100 : decode cX7_toldBy 100 = .ok (.iload 9, 2) := by decide +kernel
theorem dX7_toldBy_102 : decode cX7_toldBy 102 = .ok (.aload_n 0, 1) := by decide +kernel
theorem dX7_toldBy_103 : decode cX7_toldBy 103 = .ok (.getfield 80, 3) := by decide +kernel
theorem dX7_toldBy_106 : decode cX7_toldBy 106 = .ok (.if_icmp .ge 61, 3) := by decide +kernel
theorem dX7_toldBy_109 : decode cX7_toldBy 109 = .ok (.aload_n 0, 1) := by decide +kernel
theorem dX7_toldBy_110 : decode cX7_toldBy 110 = .ok (.getfield 22, 3) := by decide +kernel
theorem dX7_toldBy_113 : decode cX7_toldBy 113 = .ok (.iload 9, 2) := by decide +kernel
theorem dX7_toldBy_115 : decode cX7_toldBy 115 = .ok (.iaload, 1) := by decide +kernel
theorem dX7_toldBy_116 : decode cX7_toldBy 116 = .ok (.iload_n 2, 1) := by decide +kernel
theorem dX7_toldBy_117 : decode cX7_toldBy 117 = .ok (.if_icmp .ne 44, 3) := by decide +kernel
theorem dX7_toldBy_120 : decode cX7_toldBy 120 = .ok (.aload_n 0, 1) := by decide +kernel
theorem dX7_toldBy_121 : decode cX7_toldBy 121 = .ok (.getfield 52, 3) := by decide +kernel
theorem dX7_toldBy_124 : decode cX7_toldBy 124 = .ok (.iload_n 2, 1) := by decide +kernel
theorem dX7_toldBy_125 : decode cX7_toldBy 125 = .ok (.aload_n 0, 1) := by decide +kernel
theorem dX7_toldBy_126 : decode cX7_toldBy 126 = .ok (.iload 9, 2) := by decide +kernel
theorem dX7_toldBy_128 : decode cX7_toldBy 128 = .ok (.aload_n 0, 1) := by decide +kernel
theorem dX7_toldBy_129 : decode cX7_toldBy 129 = .ok (.iload 9, 2) := by decide +kernel
theorem dX7_toldBy_131 : decode cX7_toldBy 131 = .ok (.iload_n 1, 1) := by decide +kernel
theorem dX7_toldBy_132 : decode cX7_toldBy 132 = .ok (.invokevirtual 220, 3) := by decide +kernel
theorem dX7_toldBy_135 : decode cX7_toldBy 135 = .ok (.invokevirtual 133, 3) := by decide +kernel
theorem dX7_toldBy_138 : decode cX7_toldBy 138 = .ok (.iastore, 1) := by decide +kernel
theorem dX7_toldBy_139 : decode cX7_toldBy 139 = .ok (.iload 8, 2) := by decide +kernel
theorem dX7_toldBy_141 : decode cX7_toldBy 141 = .ok (.aload_n 0, 1) := by decide +kernel
theorem dX7_toldBy_142 : decode cX7_toldBy 142 = .ok (.iload 7, 2) := by decide +kernel
theorem dX7_toldBy_144 : decode cX7_toldBy 144 = .ok (.invokevirtual 223, 3) := by decide +kernel
theorem dX7_toldBy_147 : decode cX7_toldBy 147 = .ok (.ifCond .eq 10, 3) := by decide +kernel
theorem dX7_toldBy_150 : decode cX7_toldBy 150 = .ok (.iconst 1, 1) := by decide +kernel
theorem dX7_toldBy_151 : decode cX7_toldBy 151 = .ok (.iload 9, 2) := by decide +kernel
theorem dX7_toldBy_153 : decode cX7_toldBy 153 = .ok (.ishl, 1) := by decide +kernel
theorem dX7_toldBy_154 : decode cX7_toldBy 154 = .ok (.goto 4, 3) := by decide +kernel
theorem dX7_toldBy_157 : decode cX7_toldBy 157 = .ok (.iconst 0, 1) := by decide +kernel
theorem dX7_toldBy_158 : decode cX7_toldBy 158 = .ok (.ior, 1) := by decide +kernel
theorem dX7_toldBy_159 : decode cX7_toldBy 159 = .ok (.istore 8, 2) := by decide +kernel
theorem dX7_toldBy_161 : decode cX7_toldBy 161 = .ok (.iinc 9 1, 3) := by decide +kernel
theorem dX7_toldBy_164 : decode cX7_toldBy 164 = .ok (.goto (-64), 3) := by decide +kernel
theorem dX7_toldBy_167 : decode cX7_toldBy 167 = .ok (.aload_n 0, 1) := by decide +kernel
theorem dX7_toldBy_168 : decode cX7_toldBy 168 = .ok (.getfield 52, 3) := by decide +kernel
theorem dX7_toldBy_171 : decode cX7_toldBy 171 = .ok (.iload_n 2, 1) := by decide +kernel
theorem dX7_toldBy_172 : decode cX7_toldBy 172 = .ok (.iconst 0, 1) := by decide +kernel
theorem dX7_toldBy_173 : decode cX7_toldBy 173 = .ok (.iastore, 1) := by decide +kernel
theorem dX7_toldBy_174 : decode cX7_toldBy 174 = .ok (.iload 8, 2) := by decide +kernel
theorem dX7_toldBy_176 : decode cX7_toldBy 176 = .ok (.aload_n 0, 1) := by decide +kernel
theorem dX7_toldBy_177 : decode cX7_toldBy 177 = .ok (.iload 7, 2) := by decide +kernel
theorem dX7_toldBy_179 : decode cX7_toldBy 179 = .ok (.invokevirtual 223, 3) := by decide +kernel
theorem dX7_toldBy_182 : decode cX7_toldBy 182 = .ok (.ifCond .eq 9, 3) := by decide +kernel
theorem dX7_toldBy_185 : decode cX7_toldBy 185 = .ok (.sipush 1024, 3) := by decide +kernel
theorem dX7_toldBy_188 : decode cX7_toldBy 188 = .ok (.goto 4, 3) := by decide +kernel
theorem dX7_toldBy_191 : decode cX7_toldBy 191 = .ok (.iconst 0, 1) := by decide +kernel
theorem dX7_toldBy_192 : decode cX7_toldBy 192 = .ok (.ior, 1) := by decide +kernel
theorem dX7_toldBy_193 : decode cX7_toldBy 193 = .ok (.ireturn, 1) := by decide +kernel
theorem dX7_sheet_0 : decode cX7_sheet 0 = .ok (.aload_n 0, 1) := by decide +kernel
theorem dX7_sheet_1 : decode cX7_sheet 1 = .ok (.iconst 0, 1) := by decide +kernel
theorem dX7_sheet_2 : decode cX7_sheet 2 = .ok (.putfield 67, 3) := by decide +kernel
theorem dX7_sheet_5 : decode cX7_sheet 5 = .ok (.iload_n 1, 1) := by decide +kernel
theorem dX7_sheet_6 : decode cX7_sheet 6 = .ok (.invokestatic 83, 3) := by decide +kernel
theorem dX7_sheet_9 : decode cX7_sheet 9 = .ok (.ifCond .ne 5, 3) := by decide +kernel
theorem dX7_sheet_12 : decode cX7_sheet 12 = .ok (.iconst (-1), 1) := by decide +kernel
theorem dX7_sheet_13 : decode cX7_sheet 13 = .ok (.ireturn, 1) := by decide +kernel
theorem dX7_sheet_14 : decode cX7_sheet 14 = .ok (.iload_n 2, 1) := by decide +kernel
theorem dX7_sheet_15 : decode cX7_sheet 15 = .ok (.invokestatic 87, 3) := by decide +kernel
theorem dX7_sheet_18 : decode cX7_sheet 18 = .ok (.ifCond .eq 9, 3) := by decide +kernel
theorem dX7_sheet_21 : decode cX7_sheet 21 = .ok (.iload_n 3, 1) := by decide +kernel
theorem dX7_sheet_22 : decode cX7_sheet 22 = .ok (.bipush 60, 2) := by decide +kernel
theorem dX7_sheet_24 : decode cX7_sheet 24 = .ok (.if_icmp .le 6, 3) := by decide +kernel
theorem dX7_sheet_27 : decode cX7_sheet 27 = .ok (.bipush (-2), 2) := by decide +kernel
theorem dX7_sheet_29 : decode cX7_sheet 29 = .ok (.ireturn, 1) := by decide +kernel
theorem dX7_sheet_30 : decode cX7_sheet 30 = .ok (.iload_n 3, 1) := by decide +kernel
theorem dX7_sheet_31 : decode cX7_sheet 31 = .ok (.ifCond .ge 9, 3) := by decide +kernel
theorem dX7_sheet_34 : decode cX7_sheet 34 = .ok (.aload_n 0, 1) := by decide +kernel
theorem dX7_sheet_35 : decode cX7_sheet 35 = .ok (.iconst 4, 1) := by decide +kernel
theorem dX7_sheet_36 : decode cX7_sheet 36 = .ok (.invokevirtual 94, 3) := by decide +kernel
theorem dX7_sheet_39 : decode cX7_sheet 39 = .ok (.ireturn, 1) := by decide +kernel
theorem dX7_sheet_40 : decode cX7_sheet 40 = .ok (.aload_n 0, 1) := by decide +kernel
theorem dX7_sheet_41 : decode cX7_sheet 41 = .ok (.getfield 9, 3) := by decide +kernel
theorem dX7_sheet_44 : decode cX7_sheet 44 = .ok (.iload_n 1, 1) := by decide +kernel
theorem dX7_sheet_45 : decode cX7_sheet 45 = .ok (.iload_n 2, 1) := by decide +kernel
theorem dX7_sheet_46 : decode cX7_sheet 46 = .ok (.iastore, 1) := by decide +kernel
theorem dX7_sheet_47 : decode cX7_sheet 47 = .ok (.aload_n 0, 1) := by decide +kernel
theorem dX7_sheet_48 : decode cX7_sheet 48 = .ok (.getfield 13, 3) := by decide +kernel
theorem dX7_sheet_51 : decode cX7_sheet 51 = .ok (.iload_n 1, 1) := by decide +kernel
theorem dX7_sheet_52 : decode cX7_sheet 52 = .ok (.iload_n 3, 1) := by decide +kernel
theorem dX7_sheet_53 : decode cX7_sheet 53 = .ok (.iastore, 1) := by decide +kernel
theorem dX7_sheet_54 : decode cX7_sheet 54 = .ok (.iconst 0, 1) := by decide +kernel
theorem dX7_sheet_55 : decode cX7_sheet 55 = .ok (.istore 4, 2) := by decide +kernel
theorem dX7_sheet_57 : decode cX7_sheet 57 = .ok (.iload 4, 2) := by decide +kernel
theorem dX7_sheet_59 : decode cX7_sheet 59 = .ok (.bipush 60, 2) := by decide +kernel
theorem dX7_sheet_61 : decode cX7_sheet 61 = .ok (.if_icmp .ge 22, 3) := by decide +kernel
theorem dX7_sheet_64 : decode cX7_sheet 64 = .ok (.aload_n 0, 1) := by decide +kernel
theorem dX7_sheet_65 : decode cX7_sheet 65 = .ok (.getfield 16, 3) := by decide +kernel
theorem dX7_sheet_68 : decode cX7_sheet 68 = .ok (.bipush 60, 2) := by decide +kernel
theorem dX7_sheet_70 : decode cX7_sheet 70 = .ok (.iload_n 1, 1) := by decide +kernel
theorem dX7_sheet_71 : decode cX7_sheet 71 = .ok (.imul, 1) := by decide +kernel
theorem dX7_sheet_72 : decode cX7_sheet 72 = .ok (.iload 4, 2) := by decide +kernel
theorem dX7_sheet_74 : decode cX7_sheet 74 = .ok (.iadd, 1) := by decide +kernel
theorem dX7_sheet_75 : decode cX7_sheet 75 = .ok (.iconst 0, 1) := by decide +kernel
theorem dX7_sheet_76 : decode cX7_sheet 76 = .ok (.iastore, 1) := by decide +kernel
theorem dX7_sheet_77 : decode cX7_sheet 77 = .ok (.iinc 4 1, 3) := by decide +kernel
theorem dX7_sheet_80 : decode cX7_sheet 80 = .ok (.goto (-23), 3) := by decide +kernel
theorem dX7_sheet_83 : decode cX7_sheet 83 = .ok (.iconst 1, 1) := by decide +kernel
theorem dX7_sheet_84 : decode cX7_sheet 84 = .ok (.ireturn, 1) := by decide +kernel
theorem dX7_lose_0 : decode cX7_lose 0 = .ok (.iload_n 1, 1) := by decide +kernel
theorem dX7_lose_1 : decode cX7_lose 1 = .ok (.invokestatic 83, 3) := by decide +kernel
theorem dX7_lose_4 : decode cX7_lose 4 = .ok (.ifCond .ne 5, 3) := by decide +kernel
theorem dX7_lose_7 : decode cX7_lose 7 = .ok (.iconst (-1), 1) := by decide +kernel
theorem dX7_lose_8 : decode cX7_lose 8 = .ok (.ireturn, 1) := by decide +kernel
theorem dX7_lose_9 : decode cX7_lose 9 = .ok (.aload_n 0, 1) := by decide +kernel
theorem dX7_lose_10 : decode cX7_lose 10 = .ok (.getfield 9, 3) := by decide +kernel
theorem dX7_lose_13 : decode cX7_lose 13 = .ok (.iload_n 1, 1) := by decide +kernel
theorem dX7_lose_14 : decode cX7_lose 14 = .ok (.iaload, 1) := by decide +kernel
theorem dX7_lose_15 : decode cX7_lose 15 = .ok (.bipush (-9), 2) := by decide +kernel
theorem dX7_lose_17 : decode cX7_lose 17 = .ok (.if_icmp .ne 7, 3) := by decide +kernel
theorem dX7_lose_20 : decode cX7_lose 20 = .ok (.iconst 0, 1) := by decide +kernel
theorem dX7_lose_21 : decode cX7_lose 21 = .ok (.goto 4, 3) := by decide +kernel
theorem dX7_lose_24 : decode cX7_lose 24 = .ok (.iconst 1, 1) := by decide +kernel
theorem dX7_lose_25 : decode cX7_lose 25 = .ok (.istore_n 2, 1) := by decide +kernel
theorem dX7_lose_26 : decode cX7_lose 26 = .ok (.aload_n 0, 1) := by decide +kernel
theorem dX7_lose_27 : decode cX7_lose 27 = .ok (.getfield 9, 3) := by decide +kernel
theorem dX7_lose_30 : decode cX7_lose 30 = .ok (.iload_n 1, 1) := by decide +kernel
theorem dX7_lose_31 : decode cX7_lose 31 = .ok (.bipush (-9), 2) := by decide +kernel
theorem dX7_lose_33 : decode cX7_lose 33 = .ok (.iastore, 1) := by decide +kernel
theorem dX7_lose_34 : decode cX7_lose 34 = .ok (.iload_n 2, 1) := by decide +kernel
theorem dX7_lose_35 : decode cX7_lose 35 = .ok (.ireturn, 1) := by decide +kernel
theorem dX7_put_0 : decode cX7_put 0 = .ok (.aload_n 0, 1) := by decide +kernel
theorem dX7_put_1 : decode cX7_put 1 = .ok (.iconst 0, 1) := by decide +kernel
theorem dX7_put_2 : decode cX7_put 2 = .ok (.putfield 67, 3) := by decide +kernel
theorem dX7_put_5 : decode cX7_put 5 = .ok (.iload_n 1, 1) := by decide +kernel
theorem dX7_put_6 : decode cX7_put 6 = .ok (.invokestatic 83, 3) := by decide +kernel
theorem dX7_put_9 : decode cX7_put 9 = .ok (.ifCond .ne 5, 3) := by decide +kernel
theorem dX7_put_12 : decode cX7_put 12 = .ok (.iconst (-1), 1) := by decide +kernel
theorem dX7_put_13 : decode cX7_put 13 = .ok (.ireturn, 1) := by decide +kernel
theorem dX7_put_14 : decode cX7_put 14 = .ok (.aload_n 0, 1) := by decide +kernel
theorem dX7_put_15 : decode cX7_put 15 = .ok (.getfield 9, 3) := by decide +kernel
theorem dX7_put_18 : decode cX7_put 18 = .ok (.iload_n 1, 1) := by decide +kernel
theorem dX7_put_19 : decode cX7_put 19 = .ok (.iaload, 1) := by decide +kernel
theorem dX7_put_20 : decode cX7_put 20 = .ok (.bipush (-9), 2) := by decide +kernel
theorem dX7_put_22 : decode cX7_put 22 = .ok (.if_icmp .ne 9, 3) := by decide +kernel
theorem dX7_put_25 : decode cX7_put 25 = .ok (.aload_n 0, 1) := by decide +kernel
theorem dX7_put_26 : decode cX7_put 26 = .ok (.iconst 1, 1) := by decide +kernel
theorem dX7_put_27 : decode cX7_put 27 = .ok (.invokevirtual 94, 3) := by decide +kernel
theorem dX7_put_30 : decode cX7_put 30 = .ok (.ireturn, 1) := by decide +kernel
theorem dX7_put_31 : decode cX7_put 31 = .ok (.iload_n 2, 1) := by decide +kernel
theorem dX7_put_32 : decode cX7_put 32 = .ok (.iconst 0, 1) := by decide +kernel
theorem dX7_put_33 : decode cX7_put 33 = .ok (.aload_n 0, 1) := by decide +kernel
theorem dX7_put_34 : decode cX7_put 34 = .ok (.getfield 13, 3) := by decide +kernel
theorem dX7_put_37 : decode cX7_put 37 = .ok (.iload_n 1, 1) := by decide +kernel
theorem dX7_put_38 : decode cX7_put 38 = .ok (.iaload, 1) := by decide +kernel
theorem dX7_put_39 : decode cX7_put 39 = .ok (.iconst 1, 1) := by decide +kernel
theorem dX7_put_40 : decode cX7_put 40 = .ok (.isub, 1) := by decide +kernel
theorem dX7_put_41 : decode cX7_put 41 = .ok (.invokestatic 73, 3) := by decide +kernel
theorem dX7_put_44 : decode cX7_put 44 = .ok (.ifCond .ne 9, 3) := by decide +kernel
theorem dX7_put_47 : decode cX7_put 47 = .ok (.aload_n 0, 1) := by decide +kernel
theorem dX7_put_48 : decode cX7_put 48 = .ok (.iconst 3, 1) := by decide +kernel
theorem dX7_put_49 : decode cX7_put 49 = .ok (.invokevirtual 94, 3) := by decide +kernel
theorem dX7_put_52 : decode cX7_put 52 = .ok (.ireturn, 1) := by decide +kernel
theorem dX7_put_53 : decode cX7_put 53 = .ok (.aload_n 0, 1) := by decide +kernel
theorem dX7_put_54 : decode cX7_put 54 = .ok (.getfield 16, 3) := by decide +kernel
theorem dX7_put_57 : decode cX7_put 57 = .ok (.bipush 60, 2) := by decide +kernel
theorem dX7_put_59 : decode cX7_put 59 = .ok (.iload_n 1, 1) := by decide +kernel
theorem dX7_put_60 : decode cX7_put 60 = .ok (.imul, 1) := by decide +kernel
theorem dX7_put_61 : decode cX7_put 61 = .ok (.iload_n 2, 1) := by decide +kernel
theorem dX7_put_62 : decode cX7_put 62 = .ok (.iadd, 1) := by decide +kernel
theorem dX7_put_63 : decode cX7_put 63 = .ok (.aload_n 0, 1) := by decide +kernel
theorem dX7_put_64 : decode cX7_put 64 = .ok (.getfield 9, 3) := by decide +kernel
theorem dX7_put_67 : decode cX7_put 67 = .ok (.iload_n 1, 1) := by decide +kernel
theorem dX7_put_68 : decode cX7_put 68 = .ok (.iaload, 1) := by decide +kernel
theorem dX7_put_69 : decode cX7_put 69 = .ok (.ifCond .ne 8, 3) := by decide +kernel
theorem dX7_put_72 : decode cX7_put 72 = .ok (.iload_n 3, 1) := by decide +kernel
theorem dX7_put_73 : decode cX7_put 73 = .ok (.i2b, 1) := by decide +kernel
theorem dX7_put_74 : decode cX7_put 74 = .ok (.goto 19, 3) := by decide +kernel
theorem dX7_put_77 : decode cX7_put 77 = .ok (.aload_n 0, 1) := by decide +kernel
theorem dX7_put_78 : decode cX7_put 78 = .ok (.getfield 9, 3) := by decide +kernel
theorem dX7_put_81 : decode cX7_put 81 = .ok (.iload_n 1, 1) := by decide +kernel
theorem dX7_put_82 : decode cX7_put 82 = .ok (.iaload, 1) := by decide +kernel
theorem dX7_put_83 : decode cX7_put 83 = .ok (.iconst 1, 1) := by decide +kernel
theorem dX7_put_84 : decode cX7_put 84 = .ok (.if_icmp .ne 8, 3) := by decide +kernel
theorem dX7_put_87 : decode cX7_put 87 = .ok (.iload_n 3, 1) := by decide +kernel
theorem dX7_put_88 : decode cX7_put 88 = .ok (.i2s, 1) := by decide +kernel
theorem dX7_put_89 : decode cX7_put 89 = .ok (.goto 4, 3) := by decide +kernel
theorem dX7_put_92 : decode cX7_put 92 = .ok (.iload_n 3, 1) := by decide +kernel
theorem dX7_put_93 : decode cX7_put 93 = .ok (.iastore, 1) := by decide +kernel
theorem dX7_put_94 : decode cX7_put 94 = .ok (.iconst 1, 1) := by decide +kernel
theorem dX7_put_95 : decode cX7_put 95 = .ok (.ireturn, 1) := by decide +kernel
theorem dX7_cell_0 : decode cX7_cell 0 = .ok (.aload_n 0, 1) := by decide +kernel
theorem dX7_cell_1 : decode cX7_cell 1 = .ok (.iconst 0, 1) := by decide +kernel
theorem dX7_cell_2 : decode cX7_cell 2 = .ok (.putfield 67, 3) := by decide +kernel
theorem dX7_cell_5 : decode cX7_cell 5 = .ok (.iload_n 1, 1) := by decide +kernel
theorem dX7_cell_6 : decode cX7_cell 6 = .ok (.invokestatic 83, 3) := by decide +kernel
theorem dX7_cell_9 : decode cX7_cell 9 = .ok (.ifCond .eq 10, 3) := by decide +kernel
theorem dX7_cell_12 : decode cX7_cell 12 = .ok (.iload_n 3, 1) := by decide +kernel
theorem dX7_cell_13 : decode cX7_cell 13 = .ok (.invokestatic 87, 3) := by decide +kernel
theorem dX7_cell_16 : decode cX7_cell 16 = .ok (.ifCond .ne 7, 3) := by decide +kernel
theorem dX7_cell_19 : decode cX7_cell 19 = .ok (.ldc2_w 71, 3) := by decide +kernel
theorem dX7_cell_22 : decode cX7_cell 22 = .ok (.lreturn, 1) := by decide +kernel
theorem dX7_cell_23 : decode cX7_cell 23 = .ok (.aload_n 0, 1) := by decide +kernel
theorem dX7_cell_24 : decode cX7_cell 24 = .ok (.getfield 9, 3) := by decide +kernel
theorem dX7_cell_27 : decode cX7_cell 27 = .ok (.iload_n 1, 1) := by decide +kernel
theorem dX7_cell_28 : decode cX7_cell 28 = .ok (.iaload, 1) := by decide +kernel
theorem dX7_cell_29 : decode cX7_cell 29 = .ok (.bipush (-9), 2) := by decide +kernel
theorem dX7_cell_31 : decode cX7_cell 31 = .ok (.if_icmp .eq 19, 3) := by decide +kernel
theorem dX7_cell_34 : decode cX7_cell 34 = .ok (.aload_n 0, 1) := by decide +kernel
theorem dX7_cell_35 : decode cX7_cell 35 = .ok (.getfield 9, 3) := by decide +kernel
theorem dX7_cell_38 : decode cX7_cell 38 = .ok (.iload_n 1, 1) := by decide +kernel
theorem dX7_cell_39 : decode cX7_cell 39 = .ok (.iaload, 1) := by decide +kernel
theorem dX7_cell_40 : decode cX7_cell 40 = .ok (.iload_n 3, 1) := by decide +kernel
theorem dX7_cell_41 : decode cX7_cell 41 = .ok (.if_icmp .eq 9, 3) := by decide +kernel
theorem dX7_cell_44 : decode cX7_cell 44 = .ok (.aload_n 0, 1) := by decide +kernel
theorem dX7_cell_45 : decode cX7_cell 45 = .ok (.iconst 2, 1) := by decide +kernel
theorem dX7_cell_46 : decode cX7_cell 46 = .ok (.invokevirtual 226, 3) := by decide +kernel
theorem dX7_cell_49 : decode cX7_cell 49 = .ok (.lreturn, 1) := by decide +kernel
theorem dX7_cell_50 : decode cX7_cell 50 = .ok (.aload_n 0, 1) := by decide +kernel
theorem dX7_cell_51 : decode cX7_cell 51 = .ok (.getfield 9, 3) := by decide +kernel
theorem dX7_cell_54 : decode cX7_cell 54 = .ok (.iload_n 1, 1) := by decide +kernel
theorem dX7_cell_55 : decode cX7_cell 55 = .ok (.iaload, 1) := by decide +kernel
theorem dX7_cell_56 : decode cX7_cell 56 = .ok (.bipush (-9), 2) := by decide +kernel
theorem dX7_cell_58 : decode cX7_cell 58 = .ok (.if_icmp .ne 9, 3) := by decide +kernel
theorem dX7_cell_61 : decode cX7_cell 61 = .ok (.aload_n 0, 1) := by decide +kernel
theorem dX7_cell_62 : decode cX7_cell 62 = .ok (.iconst 1, 1) := by decide +kernel
theorem dX7_cell_63 : decode cX7_cell 63 = .ok (.invokevirtual 226, 3) := by decide +kernel
theorem dX7_cell_66 : decode cX7_cell 66 = .ok (.lreturn, 1) := by decide +kernel
theorem dX7_cell_67 : decode cX7_cell 67 = .ok (.iload_n 2, 1) := by decide +kernel
theorem dX7_cell_68 : decode cX7_cell 68 = .ok (.iconst 0, 1) := by decide +kernel
theorem dX7_cell_69 : decode cX7_cell 69 = .ok (.aload_n 0, 1) := by decide +kernel
theorem dX7_cell_70 : decode cX7_cell 70 = .ok (.getfield 13, 3) := by decide +kernel
theorem dX7_cell_73 : decode cX7_cell 73 = .ok (.iload_n 1, 1) := by decide +kernel
theorem dX7_cell_74 : decode cX7_cell 74 = .ok (.iaload, 1) := by decide +kernel
theorem dX7_cell_75 : decode cX7_cell 75 = .ok (.iconst 1, 1) := by decide +kernel
theorem dX7_cell_76 : decode cX7_cell 76 = .ok (.isub, 1) := by decide +kernel
theorem dX7_cell_77 : decode cX7_cell 77 = .ok (.invokestatic 73, 3) := by decide +kernel
theorem dX7_cell_80 : decode cX7_cell 80 = .ok (.ifCond .ne 9, 3) := by decide +kernel
theorem dX7_cell_83 : decode cX7_cell 83 = .ok (.aload_n 0, 1) := by decide +kernel
theorem dX7_cell_84 : decode cX7_cell 84 = .ok (.iconst 3, 1) := by decide +kernel
theorem dX7_cell_85 : decode cX7_cell 85 = .ok (.invokevirtual 226, 3) := by decide +kernel
theorem dX7_cell_88 : decode cX7_cell 88 = .ok (.lreturn, 1) := by decide +kernel
theorem dX7_cell_89 : decode cX7_cell 89 = .ok (.aload_n 0, 1) := by decide +kernel
theorem dX7_cell_90 : decode cX7_cell 90 = .ok (.getfield 16, 3) := by decide +kernel
theorem dX7_cell_93 : decode cX7_cell 93 = .ok (.bipush 60, 2) := by decide +kernel
theorem dX7_cell_95 : decode cX7_cell 95 = .ok (.iload_n 1, 1) := by decide +kernel
theorem dX7_cell_96 : decode cX7_cell 96 = .ok (.imul, 1) := by decide +kernel
theorem dX7_cell_97 : decode cX7_cell 97 = .ok (.iload_n 2, 1) := by decide +kernel
theorem dX7_cell_98 : decode cX7_cell 98 = .ok (.iadd, 1) := by decide +kernel
theorem dX7_cell_99 : decode cX7_cell 99 = .ok (.iaload, 1) := by decide +kernel
theorem dX7_cell_100 : decode cX7_cell 100 = .ok (.i2l, 1) := by decide +kernel
theorem dX7_cell_101 : decode cX7_cell 101 = .ok (.lreturn, 1) := by decide +kernel
theorem dX7_copy_0 : decode cX7_copy 0 = .ok (.aload_n 0, 1) := by decide +kernel
theorem dX7_copy_1 : decode cX7_copy 1 = .ok (.iconst 0, 1) := by decide +kernel
theorem dX7_copy_2 : decode cX7_copy 2 = .ok (.putfield 67, 3) := by decide +kernel
theorem dX7_copy_5 : decode cX7_copy 5 = .ok (.iload_n 1, 1) := by decide +kernel
theorem dX7_copy_6 : decode cX7_copy 6 = .ok (.invokestatic 83, 3) := by decide +kernel
theorem dX7_copy_9 : decode cX7_copy 9 = .ok (.ifCond .eq 10, 3) := by decide +kernel
theorem dX7_copy_12 : decode cX7_copy 12 = .ok (.iload_n 3, 1) := by decide +kernel
theorem dX7_copy_13 : decode cX7_copy 13 = .ok (.invokestatic 83, 3) := by decide +kernel
theorem dX7_copy_16 : decode cX7_copy 16 = .ok (.ifCond .ne 5, 3) := by decide +kernel
theorem dX7_copy_19 : decode cX7_copy 19 = .ok (.iconst (-1), 1) := by decide +kernel
theorem dX7_copy_20 : decode cX7_copy 20 = .ok (.ireturn, 1) := by decide +kernel
theorem dX7_copy_21 : decode cX7_copy 21 = .ok (.aload_n 0, 1) := by decide +kernel
theorem dX7_copy_22 : decode cX7_copy 22 = .ok (.getfield 9, 3) := by decide +kernel
theorem dX7_copy_25 : decode cX7_copy 25 = .ok (.iload_n 1, 1) := by decide +kernel
theorem dX7_copy_26 : decode cX7_copy 26 = .ok (.iaload, 1) := by decide +kernel
theorem dX7_copy_27 : decode cX7_copy 27 = .ok (.bipush (-9), 2) := by decide +kernel
theorem dX7_copy_29 : decode cX7_copy 29 = .ok (.if_icmp .eq 14, 3) := by decide +kernel
theorem dX7_copy_32 : decode cX7_copy 32 = .ok (.aload_n 0, 1) := by decide +kernel
theorem dX7_copy_33 : decode cX7_copy 33 = .ok (.getfield 9, 3) := by decide +kernel
theorem dX7_copy_36 : decode cX7_copy 36 = .ok (.iload_n 3, 1) := by decide +kernel
theorem dX7_copy_37 : decode cX7_copy 37 = .ok (.iaload, 1) := by decide +kernel
theorem dX7_copy_38 : decode cX7_copy 38 = .ok (.bipush (-9), 2) := by decide +kernel
theorem dX7_copy_40 : decode cX7_copy 40 = .ok (.if_icmp .ne 9, 3) := by decide +kernel
theorem dX7_copy_43 : decode cX7_copy 43 = .ok (.aload_n 0, 1) := by decide +kernel
theorem dX7_copy_44 : decode cX7_copy 44 = .ok (.iconst 1, 1) := by decide +kernel
theorem dX7_copy_45 : decode cX7_copy 45 = .ok (.invokevirtual 94, 3) := by decide +kernel
theorem dX7_copy_48 : decode cX7_copy 48 = .ok (.ireturn, 1) := by decide +kernel
theorem dX7_copy_49 : decode cX7_copy 49 = .ok (.aload_n 0, 1) := by decide +kernel
theorem dX7_copy_50 : decode cX7_copy 50 = .ok (.getfield 9, 3) := by decide +kernel
theorem dX7_copy_53 : decode cX7_copy 53 = .ok (.iload_n 1, 1) := by decide +kernel
theorem dX7_copy_54 : decode cX7_copy 54 = .ok (.iaload, 1) := by decide +kernel
theorem dX7_copy_55 : decode cX7_copy 55 = .ok (.aload_n 0, 1) := by decide +kernel
theorem dX7_copy_56 : decode cX7_copy 56 = .ok (.getfield 9, 3) := by decide +kernel
theorem dX7_copy_59 : decode cX7_copy 59 = .ok (.iload_n 3, 1) := by decide +kernel
theorem dX7_copy_60 : decode cX7_copy 60 = .ok (.iaload, 1) := by decide +kernel
theorem dX7_copy_61 : decode cX7_copy 61 = .ok (.if_icmp .eq 9, 3) := by decide +kernel
theorem dX7_copy_64 : decode cX7_copy 64 = .ok (.aload_n 0, 1) := by decide +kernel
theorem dX7_copy_65 : decode cX7_copy 65 = .ok (.iconst 2, 1) := by decide +kernel
theorem dX7_copy_66 : decode cX7_copy 66 = .ok (.invokevirtual 94, 3) := by decide +kernel
theorem dX7_copy_69 : decode cX7_copy 69 = .ok (.ireturn, 1) := by decide +kernel
theorem dX7_copy_70 : decode cX7_copy 70 = .ok (.iload_n 2, 1) := by decide +kernel
theorem dX7_copy_71 : decode cX7_copy 71 = .ok (.ifCond .lt 38, 3) := by decide +kernel
theorem dX7_copy_74 : decode cX7_copy 74 = .ok (.iload 4, 2) := by decide +kernel
theorem dX7_copy_76 : decode cX7_copy 76 = .ok (.ifCond .lt 33, 3) := by decide +kernel
theorem dX7_copy_79 : decode cX7_copy 79 = .ok (.iload 5, 2) := by decide +kernel
theorem dX7_copy_81 : decode cX7_copy 81 = .ok (.ifCond .lt 28, 3) := by decide +kernel
theorem dX7_copy_84 : decode cX7_copy 84 = .ok (.iload_n 2, 1) := by decide +kernel
theorem dX7_copy_85 : decode cX7_copy 85 = .ok (.aload_n 0, 1) := by decide +kernel
theorem dX7_copy_86 : decode cX7_copy 86 = .ok (.getfield 13, 3) := by decide +kernel
theorem dX7_copy_89 : decode cX7_copy 89 = .ok (.iload_n 1, 1) := by decide +kernel
theorem dX7_copy_90 : decode cX7_copy 90 = .ok (.iaload, 1) := by decide +kernel
theorem dX7_copy_91 : decode cX7_copy 91 = .ok (.if_icmp .gt 18, 3) := by decide +kernel
theorem dX7_copy_94 : decode cX7_copy 94 = .ok (.iload 4, 2) := by decide +kernel
theorem dX7_copy_96 : decode cX7_copy 96 = .ok (.aload_n 0, 1) := by decide +kernel
theorem dX7_copy_97 : decode cX7_copy 97 = .ok (.getfield 13, 3) := by decide +kernel
theorem dX7_copy_100 : decode cX7_copy 100 = .ok (.iload_n 3, 1) := by decide +kernel
theorem dX7_copy_101 : decode cX7_copy 101 = .ok (.iaload, 1) := by decide +kernel
theorem dX7_copy_102 : decode cX7_copy 102 = .ok (.if_icmp .gt 7, 3) := by decide +kernel
theorem dX7_copy_105 : decode cX7_copy 105 = .ok (.iconst 1, 1) := by decide +kernel
theorem dX7_copy_106 : decode cX7_copy 106 = .ok (.goto 4, 3) := by decide +kernel
theorem dX7_copy_109 : decode cX7_copy 109 = .ok (.iconst 0, 1) := by decide +kernel
theorem dX7_copy_110 : decode cX7_copy 110 = .ok (.istore 6, 2) := by decide +kernel
theorem dX7_copy_112 : decode cX7_copy 112 = .ok (.iload 6, 2) := by decide +kernel
theorem dX7_copy_114 : decode cX7_copy 114 = .ok (.ifCond .eq 30, 3) := by decide +kernel
theorem dX7_copy_117 : decode cX7_copy 117 = .ok (.iload 5, 2) := by decide +kernel
theorem dX7_copy_119 : decode cX7_copy 119 = .ok (.aload_n 0, 1) := by decide +kernel
theorem dX7_copy_120 : decode cX7_copy 120 = .ok (.getfield 13, 3) := by decide +kernel
theorem dX7_copy_123 : decode cX7_copy 123 = .ok (.iload_n 1, 1) := by decide +kernel
theorem dX7_copy_124 : decode cX7_copy 124 = .ok (.iaload, 1) := by decide +kernel
theorem dX7_copy_125 : decode cX7_copy 125 = .ok (.iload_n 2, 1) := by decide +kernel
theorem dX7_copy_126 : decode cX7_copy 126 = .ok (.isub, 1) := by decide +kernel
theorem dX7_copy_127 : decode cX7_copy 127 = .ok (.if_icmp .gt 17, 3) := by decide +kernel
theorem dX7_copy_130 : decode cX7_copy 130 = .ok (.iload 5, 2) := by decide +kernel
theorem dX7_copy_132 : decode cX7_copy 132 = .ok (.aload_n 0, 1) := by decide +kernel
theorem dX7_copy_133 : decode cX7_copy 133 = .ok (.getfield 13, 3) := by decide +kernel
theorem dX7_copy_136 : decode cX7_copy 136 = .ok (.iload_n 3, 1) := by decide +kernel
theorem dX7_copy_137 : decode cX7_copy 137 = .ok (.iaload, 1) := by decide +kernel
theorem dX7_copy_138 : decode cX7_copy 138 = .ok (.iload 4, 2) := by decide +kernel
theorem dX7_copy_140 : decode cX7_copy 140 = .ok (.isub, 1) := by decide +kernel
theorem dX7_copy_141 : decode cX7_copy 141 = .ok (.if_icmp .le 9, 3) := by decide +kernel
theorem dX7_copy_144 : decode cX7_copy 144 = .ok (.aload_n 0, 1) := by decide +kernel
theorem dX7_copy_145 : decode cX7_copy 145 = .ok (.iconst 3, 1) := by decide +kernel
theorem dX7_copy_146 : decode cX7_copy 146 = .ok (.invokevirtual 94, 3) := by decide +kernel
theorem dX7_copy_149 : decode cX7_copy 149 = .ok (.ireturn, 1) := by decide +kernel
theorem dX7_copy_150 : decode cX7_copy 150 = .ok (.iload_n 2, 1) := by decide +kernel
theorem dX7_copy_151 : decode cX7_copy 151 = .ok (.iload 4, 2) := by decide +kernel
theorem dX7_copy_153 : decode cX7_copy 153 = .ok (.if_icmp .ge 7, 3) := by decide +kernel
theorem dX7_copy_156 : decode cX7_copy 156 = .ok (.iconst 1, 1) := by decide +kernel
theorem dX7_copy_157 : decode cX7_copy 157 = .ok (.goto 4, 3) := by decide +kernel
theorem dX7_copy_160 : decode cX7_copy 160 = .ok (.iconst 0, 1) := by decide +kernel
theorem dX7_copy_161 : decode cX7_copy 161 = .ok (.istore 7, 2) := by decide +kernel
theorem dX7_copy_163 : decode cX7_copy 163 = .ok (.iconst 0, 1) := by decide +kernel
theorem dX7_copy_164 : decode cX7_copy 164 = .ok (.istore 8, 2) := by decide +kernel
theorem dX7_copy_166 : decode cX7_copy 166 = .ok (.iload 8, 2) := by decide +kernel
theorem dX7_copy_168 : decode cX7_copy 168 = .ok (.iload 5, 2) := by decide +kernel
theorem dX7_copy_170 : decode cX7_copy 170 = .ok (.if_icmp .ge 57, 3) := by decide +kernel
theorem dX7_copy_173 : decode cX7_copy 173 = .ok (.iload 7, 2) := by decide +kernel
theorem dX7_copy_175 : decode cX7_copy 175 = .ok (.ifCond .eq 13, 3) := by decide +kernel
theorem dX7_copy_178 : decode cX7_copy 178 = .ok (.iload 5, 2) := by decide +kernel
theorem dX7_copy_180 : decode cX7_copy 180 = .ok (.iconst 1, 1) := by decide +kernel
theorem dX7_copy_181 : decode cX7_copy 181 = .ok (.isub, 1) := by decide +kernel
theorem dX7_copy_182 : decode cX7_copy 182 = .ok (.iload 8, 2) := by decide +kernel
theorem dX7_copy_184 : decode cX7_copy 184 = .ok (.isub, 1) := by decide +kernel
theorem dX7_copy_185 : decode cX7_copy 185 = .ok (.goto 5, 3) := by decide +kernel
theorem dX7_copy_188 : decode cX7_copy 188 = .ok (.iload 8, 2) := by decide +kernel
theorem dX7_copy_190 : decode cX7_copy 190 = .ok (.istore 9, 2) := by decide +kernel
theorem dX7_copy_192 : decode cX7_copy 192 = .ok (.aload_n 0, 1) := by decide +kernel
theorem dX7_copy_193 : decode cX7_copy 193 = .ok (.getfield 16, 3) := by decide +kernel
theorem dX7_copy_196 : decode cX7_copy 196 = .ok (.bipush 60, 2) := by decide +kernel
theorem dX7_copy_198 : decode cX7_copy 198 = .ok (.iload_n 3, 1) := by decide +kernel
theorem dX7_copy_199 : decode cX7_copy 199 = .ok (.imul, 1) := by decide +kernel
theorem dX7_copy_200 : decode cX7_copy 200 = .ok (.iload 4, 2) := by decide +kernel
theorem dX7_copy_202 : decode cX7_copy 202 = .ok (.iadd, 1) := by decide +kernel
theorem dX7_copy_203 : decode cX7_copy 203 = .ok (.iload 9, 2) := by decide +kernel
theorem dX7_copy_205 : decode cX7_copy 205 = .ok (.iadd, 1) := by decide +kernel
theorem dX7_copy_206 : decode cX7_copy 206 = .ok (.aload_n 0, 1) := by decide +kernel
theorem dX7_copy_207 : decode cX7_copy 207 = .ok (.getfield 16, 3) := by decide +kernel
theorem dX7_copy_210 : decode cX7_copy 210 = .ok (.bipush 60, 2) := by decide +kernel
theorem dX7_copy_212 : decode cX7_copy 212 = .ok (.iload_n 1, 1) := by decide +kernel
theorem dX7_copy_213 : decode cX7_copy 213 = .ok (.imul, 1) := by decide +kernel
theorem dX7_copy_214 : decode cX7_copy 214 = .ok (.iload_n 2, 1) := by decide +kernel
theorem dX7_copy_215 : decode cX7_copy 215 = .ok (.iadd, 1) := by decide +kernel
theorem dX7_copy_216 : decode cX7_copy 216 = .ok (.iload 9, 2) := by decide +kernel
theorem dX7_copy_218 : decode cX7_copy 218 = .ok (.iadd, 1) := by decide +kernel
theorem dX7_copy_219 : decode cX7_copy 219 = .ok (.iaload, 1) := by decide +kernel
theorem dX7_copy_220 : decode cX7_copy 220 = .ok (.iastore, 1) := by decide +kernel
theorem dX7_copy_221 : decode cX7_copy 221 = .ok (.iinc 8 1, 3) := by decide +kernel
theorem dX7_copy_224 : decode cX7_copy 224 = .ok (.goto (-58), 3) := by decide +kernel
theorem dX7_copy_227 : decode cX7_copy 227 = .ok (.iload 5, 2) := by decide +kernel
theorem dX7_copy_229 : decode cX7_copy 229 = .ok (.ireturn, 1) := by decide +kernel
theorem dX7_begins_0 : decode cX7_begins 0 = .ok (.aload_n 0, 1) := by decide +kernel
theorem dX7_begins_1 : decode cX7_begins 1 = .ok (.bipush 31, 2) := by decide +kernel
theorem dX7_begins_3 : decode cX7_begins 3 = .ok (.aload_n 0, 1) := by decide +kernel
theorem dX7_begins_4 : decode cX7_begins 4 = .ok (.getfield 230, 3) := by decide +kernel
theorem dX7_begins_7 : decode cX7_begins 7 = .ok (.imul, 1) := by decide +kernel
theorem dX7_begins_8 : decode cX7_begins 8 = .ok (.iload_n 1, 1) := by decide +kernel
theorem dX7_begins_9 : decode cX7_begins 9 = .ok (.iadd, 1) := by decide +kernel
theorem dX7_begins_10 : decode cX7_begins 10 = .ok (.putfield 230, 3) := by decide +kernel
theorem dX7_begins_13 : decode cX7_begins 13 = .ok (.return_, 1) := by decide +kernel
theorem dX7_tell_0 : decode cX7_tell 0 = .ok (.aload_n 0, 1) := by decide +kernel
theorem dX7_tell_1 : decode cX7_tell 1 = .ok (.iload_n 1, 1) := by decide +kernel
theorem dX7_tell_2 : decode cX7_tell 2 = .ok (.invokevirtual 136, 3) := by decide +kernel
theorem dX7_tell_5 : decode cX7_tell 5 = .ok (.ifCond .ne 5, 3) := by decide +kernel
theorem dX7_tell_8 : decode cX7_tell 8 = .ok (.iconst (-1), 1) := by decide +kernel
theorem dX7_tell_9 : decode cX7_tell 9 = .ok (.ireturn, 1) := by decide +kernel
theorem dX7_tell_10 : decode cX7_tell 10 = .ok (.aload_n 0, 1) := by decide +kernel
theorem dX7_tell_11 : decode cX7_tell 11 = .ok (.getfield 25, 3) := by decide +kernel
theorem dX7_tell_14 : decode cX7_tell 14 = .ok (.iload_n 1, 1) := by decide +kernel
theorem dX7_tell_15 : decode cX7_tell 15 = .ok (.iaload, 1) := by decide +kernel
theorem dX7_tell_16 : decode cX7_tell 16 = .ok (.istore_n 2, 1) := by decide +kernel
theorem dX7_tell_17 : decode cX7_tell 17 = .ok (.aload_n 0, 1) := by decide +kernel
theorem dX7_tell_18 : decode cX7_tell 18 = .ok (.getfield 19, 3) := by decide +kernel
theorem dX7_tell_21 : decode cX7_tell 21 = .ok (.iload_n 1, 1) := by decide +kernel
theorem dX7_tell_22 : decode cX7_tell 22 = .ok (.iaload, 1) := by decide +kernel
theorem dX7_tell_23 : decode cX7_tell 23 = .ok (.lookupswitch 67 #[(1, 25), (2, 40)], 25) := by decide +kernel
theorem dX7_tell_48 : decode cX7_tell 48 = .ok (.aload_n 0, 1) := by decide +kernel
theorem dX7_tell_49 : decode cX7_tell 49 = .ok (.iconst 2, 1) := by decide +kernel
theorem dX7_tell_50 : decode cX7_tell 50 = .ok (.invokevirtual 233, 3) := by decide +kernel
theorem dX7_tell_53 : decode cX7_tell 53 = .ok (.aload_n 0, 1) := by decide +kernel
theorem dX7_tell_54 : decode cX7_tell 54 = .ok (.iconst 1, 1) := by decide +kernel
theorem dX7_tell_55 : decode cX7_tell 55 = .ok (.invokevirtual 233, 3) := by decide +kernel
theorem dX7_tell_58 : decode cX7_tell 58 = .ok (.iload_n 2, 1) := by decide +kernel
theorem dX7_tell_59 : decode cX7_tell 59 = .ok (.bipush 100, 2) := by decide +kernel
theorem dX7_tell_61 : decode cX7_tell 61 = .ok (.iadd, 1) := by decide +kernel
theorem dX7_tell_62 : decode cX7_tell 62 = .ok (.ireturn, 1) := by decide +kernel
theorem dX7_tell_63 : decode cX7_tell 63 = .ok (.aload_n 0, 1) := by decide +kernel
theorem dX7_tell_64 : decode cX7_tell 64 = .ok (.iconst 3, 1) := by decide +kernel
theorem dX7_tell_65 : decode cX7_tell 65 = .ok (.invokevirtual 233, 3) := by decide +kernel
theorem dX7_tell_68 : decode cX7_tell 68 = .ok (.aload_n 0, 1) := by decide +kernel
theorem dX7_tell_69 : decode cX7_tell 69 = .ok (.iconst 2, 1) := by decide +kernel
theorem dX7_tell_70 : decode cX7_tell 70 = .ok (.invokevirtual 233, 3) := by decide +kernel
theorem dX7_tell_73 : decode cX7_tell 73 = .ok (.aload_n 0, 1) := by decide +kernel
theorem dX7_tell_74 : decode cX7_tell 74 = .ok (.iconst 1, 1) := by decide +kernel
theorem dX7_tell_75 : decode cX7_tell 75 = .ok (.invokevirtual 233, 3) := by decide +kernel
theorem dX7_tell_78 : decode cX7_tell 78 = .ok (.aload_n 0, 1) := by decide +kernel
theorem dX7_tell_79 : decode cX7_tell 79 = .ok (.iconst 1, 1) := by decide +kernel
theorem dX7_tell_80 : decode cX7_tell 80 = .ok (.invokevirtual 233, 3) := by decide +kernel
theorem dX7_tell_83 : decode cX7_tell 83 = .ok (.iconst 2, 1) := by decide +kernel
theorem dX7_tell_84 : decode cX7_tell 84 = .ok (.iload_n 2, 1) := by decide +kernel
theorem dX7_tell_85 : decode cX7_tell 85 = .ok (.imul, 1) := by decide +kernel
theorem dX7_tell_86 : decode cX7_tell 86 = .ok (.bipush 100, 2) := by decide +kernel
theorem dX7_tell_88 : decode cX7_tell 88 = .ok (.iadd, 1) := by decide +kernel
theorem dX7_tell_89 : decode cX7_tell 89 = .ok (.ireturn, 1) := by decide +kernel
theorem dX7_tell_90 : decode cX7_tell 90 = .ok (.aload_n 0, 1) := by decide +kernel
theorem dX7_tell_91 : decode cX7_tell 91 = .ok (.iconst 1, 1) := by decide +kernel
theorem dX7_tell_92 : decode cX7_tell 92 = .ok (.invokevirtual 233, 3) := by decide +kernel
theorem dX7_tell_95 : decode cX7_tell 95 = .ok (.iload_n 2, 1) := by decide +kernel
theorem dX7_tell_96 : decode cX7_tell 96 = .ok (.ireturn, 1) := by decide +kernel
theorem dX7_swear_0 : decode cX7_swear 0 = .ok (.aload_n 0, 1) := by decide +kernel
theorem dX7_swear_1 : decode cX7_swear 1 = .ok (.iload_n 1, 1) := by decide +kernel
theorem dX7_swear_2 : decode cX7_swear 2 = .ok (.invokevirtual 136, 3) := by decide +kernel
theorem dX7_swear_5 : decode cX7_swear 5 = .ok (.ifCond .ne 5, 3) := by decide +kernel
theorem dX7_swear_8 : decode cX7_swear 8 = .ok (.iconst (-1), 1) := by decide +kernel
theorem dX7_swear_9 : decode cX7_swear 9 = .ok (.ireturn, 1) := by decide +kernel
theorem dX7_swear_10 : decode cX7_swear 10 = .ok (.aload_n 0, 1) := by decide +kernel
theorem dX7_swear_11 : decode cX7_swear 11 = .ok (.aload_n 0, 1) := by decide +kernel
theorem dX7_swear_12 : decode cX7_swear 12 = .ok (.getfield 19, 3) := by decide +kernel
theorem dX7_swear_15 : decode cX7_swear 15 = .ok (.iload_n 1, 1) := by decide +kernel
theorem dX7_swear_16 : decode cX7_swear 16 = .ok (.iaload, 1) := by decide +kernel
theorem dX7_swear_17 : decode cX7_swear 17 = .ok (.iconst 2, 1) := by decide +kernel
theorem dX7_swear_18 : decode cX7_swear 18 = .ok (.if_icmp .ne 7, 3) := by decide +kernel
theorem dX7_swear_21 : decode cX7_swear 21 = .ok (.iconst 5, 1) := by decide +kernel
theorem dX7_swear_22 : decode cX7_swear 22 = .ok (.goto 4, 3) := by decide +kernel
theorem dX7_swear_25 : decode cX7_swear 25 = .ok (.iconst 4, 1) := by decide +kernel
theorem dX7_swear_26 : decode cX7_swear 26 = .ok (.invokevirtual 233, 3) := by decide +kernel
theorem dX7_swear_29 : decode cX7_swear 29 = .ok (.aload_n 0, 1) := by decide +kernel
theorem dX7_swear_30 : decode cX7_swear 30 = .ok (.getfield 19, 3) := by decide +kernel
theorem dX7_swear_33 : decode cX7_swear 33 = .ok (.iload_n 1, 1) := by decide +kernel
theorem dX7_swear_34 : decode cX7_swear 34 = .ok (.iaload, 1) := by decide +kernel
theorem dX7_swear_35 : decode cX7_swear 35 = .ok (.iconst 2, 1) := by decide +kernel
theorem dX7_swear_36 : decode cX7_swear 36 = .ok (.if_icmp .ne 8, 3) := by decide +kernel
theorem dX7_swear_39 : decode cX7_swear 39 = .ok (.bipush 30, 2) := by decide +kernel
theorem dX7_swear_41 : decode cX7_swear 41 = .ok (.goto 4, 3) := by decide +kernel
theorem dX7_swear_44 : decode cX7_swear 44 = .ok (.iload_n 1, 1) := by decide +kernel
theorem dX7_swear_45 : decode cX7_swear 45 = .ok (.ireturn, 1) := by decide +kernel
theorem dX7_as_0 : decode cX7_as 0 = .ok (.aload_n 0, 1) := by decide +kernel
theorem dX7_as_1 : decode cX7_as 1 = .ok (.iconst 0, 1) := by decide +kernel
theorem dX7_as_2 : decode cX7_as 2 = .ok (.putfield 67, 3) := by decide +kernel
theorem dX7_as_5 : decode cX7_as 5 = .ok (.aload_n 0, 1) := by decide +kernel
theorem dX7_as_6 : decode cX7_as 6 = .ok (.iload_n 1, 1) := by decide +kernel
theorem dX7_as_7 : decode cX7_as 7 = .ok (.invokevirtual 136, 3) := by decide +kernel
theorem dX7_as_10 : decode cX7_as 10 = .ok (.ifCond .ne 5, 3) := by decide +kernel
theorem dX7_as_13 : decode cX7_as 13 = .ok (.iconst (-1), 1) := by decide +kernel
theorem dX7_as_14 : decode cX7_as 14 = .ok (.ireturn, 1) := by decide +kernel
theorem dX7_as_15 : decode cX7_as 15 = .ok (.iload_n 2, 1) := by decide +kernel
theorem dX7_as_16 : decode cX7_as 16 = .ok (.iconst 0, 1) := by decide +kernel
theorem dX7_as_17 : decode cX7_as 17 = .ok (.iconst 2, 1) := by decide +kernel
theorem dX7_as_18 : decode cX7_as 18 = .ok (.invokestatic 73, 3) := by decide +kernel
theorem dX7_as_21 : decode cX7_as 21 = .ok (.ifCond .ne 6, 3) := by decide +kernel
theorem dX7_as_24 : decode cX7_as 24 = .ok (.bipush (-2), 2) := by decide +kernel
theorem dX7_as_26 : decode cX7_as 26 = .ok (.ireturn, 1) := by decide +kernel
theorem dX7_as_27 : decode cX7_as 27 = .ok (.aload_n 0, 1) := by decide +kernel
theorem dX7_as_28 : decode cX7_as 28 = .ok (.getfield 19, 3) := by decide +kernel
theorem dX7_as_31 : decode cX7_as 31 = .ok (.iload_n 1, 1) := by decide +kernel
theorem dX7_as_32 : decode cX7_as 32 = .ok (.iaload, 1) := by decide +kernel
theorem dX7_as_33 : decode cX7_as 33 = .ok (.iload_n 2, 1) := by decide +kernel
theorem dX7_as_34 : decode cX7_as 34 = .ok (.if_icmp .lt 7, 3) := by decide +kernel
theorem dX7_as_37 : decode cX7_as 37 = .ok (.iconst 1, 1) := by decide +kernel
theorem dX7_as_38 : decode cX7_as 38 = .ok (.goto 8, 3) := by decide +kernel
theorem dX7_as_41 : decode cX7_as 41 = .ok (.aload_n 0, 1) := by decide +kernel
theorem dX7_as_42 : decode cX7_as 42 = .ok (.iconst 2, 1) := by decide +kernel
theorem dX7_as_43 : decode cX7_as 43 = .ok (.invokevirtual 94, 3) := by decide +kernel
theorem dX7_as_46 : decode cX7_as 46 = .ok (.ireturn, 1) := by decide +kernel
theorem dX7_trace_0 : decode cX7_trace 0 = .ok (.aload_n 0, 1) := by decide +kernel
theorem dX7_trace_1 : decode cX7_trace 1 = .ok (.getfield 230, 3) := by decide +kernel
theorem dX7_trace_4 : decode cX7_trace 4 = .ok (.ireturn, 1) := by decide +kernel
theorem dX7_fault_0 : decode cX7_fault 0 = .ok (.aload_n 0, 1) := by decide +kernel
theorem dX7_fault_1 : decode cX7_fault 1 = .ok (.getfield 67, 3) := by decide +kernel
theorem dX7_fault_4 : decode cX7_fault 4 = .ok (.ireturn, 1) := by decide +kernel
theorem dX7_many_0 : decode cX7_many 0 = .ok (.iload_n 1, 1) := by decide +kernel
theorem dX7_many_1 : decode cX7_many 1 = .ok (.ifCond .ne 10, 3) := by decide +kernel
theorem dX7_many_4 : decode cX7_many 4 = .ok (.aload_n 0, 1) := by decide +kernel
theorem dX7_many_5 : decode cX7_many 5 = .ok (.getfield 77, 3) := by decide +kernel
theorem dX7_many_8 : decode cX7_many 8 = .ok (.goto 41, 3) := by decide +kernel
theorem dX7_many_11 : decode cX7_many 11 = .ok (.iload_n 1, 1) := by decide +kernel
theorem dX7_many_12 : decode cX7_many 12 = .ok (.iconst 1, 1) := by decide +kernel
theorem dX7_many_13 : decode cX7_many 13 = .ok (.if_icmp .ne 10, 3) := by decide +kernel
theorem dX7_many_16 : decode cX7_many 16 = .ok (.aload_n 0, 1) := by decide +kernel
theorem dX7_many_17 : decode cX7_many 17 = .ok (.getfield 80, 3) := by decide +kernel
theorem dX7_many_20 : decode cX7_many 20 = .ok (.goto 29, 3) := by decide +kernel
theorem dX7_many_23 : decode cX7_many 23 = .ok (.iload_n 1, 1) := by decide +kernel
theorem dX7_many_24 : decode cX7_many 24 = .ok (.iconst 2, 1) := by decide +kernel
theorem dX7_many_25 : decode cX7_many 25 = .ok (.if_icmp .ne 10, 3) := by decide +kernel
theorem dX7_many_28 : decode cX7_many 28 = .ok (.aload_n 0, 1) := by decide +kernel
theorem dX7_many_29 : decode cX7_many 29 = .ok (.getfield 113, 3) := by decide +kernel
theorem dX7_many_32 : decode cX7_many 32 = .ok (.goto 17, 3) := by decide +kernel
theorem dX7_many_35 : decode cX7_many 35 = .ok (.iload_n 1, 1) := by decide +kernel
theorem dX7_many_36 : decode cX7_many 36 = .ok (.iconst 3, 1) := by decide +kernel
theorem dX7_many_37 : decode cX7_many 37 = .ok (.if_icmp .ne 10, 3) := by decide +kernel
theorem dX7_many_40 : decode cX7_many 40 = .ok (.aload_n 0, 1) := by decide +kernel
theorem dX7_many_41 : decode cX7_many 41 = .ok (.getfield 110, 3) := by decide +kernel
theorem dX7_many_44 : decode cX7_many 44 = .ok (.goto 5, 3) := by decide +kernel
theorem dX7_many_47 : decode cX7_many 47 = .ok (.bipush (-2), 2) := by decide +kernel
theorem dX7_many_49 : decode cX7_many 49 = .ok (.ireturn, 1) := by decide +kernel
