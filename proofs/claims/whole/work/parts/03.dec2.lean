theorem dX7_goBack_26 : decode cX7_goBack 26 = .ok (.iload_n 1, 1) := by decide +kernel
theorem dX7_goBack_27 : decode cX7_goBack 27 = .ok (.baload, 1) := by decide +kernel
theorem dX7_goBack_28 : decode cX7_goBack 28 = .ok (.ifCond .ne 5, 3) := by decide +kernel
theorem dX7_goBack_31 : decode cX7_goBack 31 = .ok (.iconst 0, 1) := by decide +kernel
theorem dX7_goBack_32 : decode cX7_goBack 32 = .ok (.ireturn, 1) := by decide +kernel
theorem dX7_goBack_33 : decode cX7_goBack 33 = .ok (.aload_n 0, 1) := by decide +kernel
theorem dX7_goBack_34 : decode cX7_goBack 34 = .ok (.getfield 32, 3) := by decide +kernel
theorem dX7_goBack_37 : decode cX7_goBack 37 = .ok (.getfield 75, 3) := by decide +kernel
theorem dX7_goBack_40 : decode cX7_goBack 40 = .ok (.aload_n 0, 1) := by decide +kernel
theorem dX7_goBack_41 : decode cX7_goBack 41 = .ok (.getfield 11, 3) := by decide +kernel
theorem dX7_goBack_44 : decode cX7_goBack 44 = .ok (.iload_n 1, 1) := by decide +kernel
theorem dX7_goBack_45 : decode cX7_goBack 45 = .ok (.aaload, 1) := by decide +kernel
theorem dX7_goBack_46 : decode cX7_goBack 46 = .ok (.invokevirtual 125, 3) := by decide +kernel
theorem dX7_goBack_49 : decode cX7_goBack 49 = .ok (.iconst 1, 1) := by decide +kernel
theorem dX7_goBack_50 : decode cX7_goBack 50 = .ok (.ireturn, 1) := by decide +kernel
theorem dX8_init_0 : decode cX8_init 0 = .ok (.aload_n 0, 1) := by decide +kernel
theorem dX8_init_1 : decode cX8_init 1 = .ok (.invokespecial 3, 3) := by decide +kernel
theorem dX8_init_4 : decode cX8_init 4 = .ok (.aload_n 0, 1) := by decide +kernel
theorem dX8_init_5 : decode cX8_init 5 = .ok (.new 9, 3) := by decide +kernel
theorem dX8_init_8 : decode cX8_init 8 = .ok (.dup, 1) := by decide +kernel
theorem dX8_init_9 : decode cX8_init 9 = .ok (.invokespecial 11, 3) := by decide +kernel
theorem dX8_init_12 : decode cX8_init 12 = .ok (.putfield 12, 3) := by decide +kernel
theorem dX8_init_15 : decode cX8_init 15 = .ok (.aload_n 0, 1) := by decide +kernel
theorem dX8_init_16 : decode cX8_init 16 = .ok (.bipush 30, 2) := by decide +kernel
theorem dX8_init_18 : decode cX8_init 18 = .ok (.newarray .int, 2) := by decide +kernel
theorem dX8_init_20 : decode cX8_init 20 = .ok (.putfield 18, 3) := by decide +kernel
theorem dX8_init_23 : decode cX8_init 23 = .ok (.aload_n 0, 1) := by decide +kernel
theorem dX8_init_24 : decode cX8_init 24 = .ok (.bipush 25, 2) := by decide +kernel
theorem dX8_init_26 : decode cX8_init 26 = .ok (.newarray .int, 2) := by decide +kernel
theorem dX8_init_28 : decode cX8_init 28 = .ok (.putfield 22, 3) := by decide +kernel
theorem dX8_init_31 : decode cX8_init 31 = .ok (.aload_n 0, 1) := by decide +kernel
theorem dX8_init_32 : decode cX8_init 32 = .ok (.aload_n 1, 1) := by decide +kernel
theorem dX8_init_33 : decode cX8_init 33 = .ok (.putfield 25, 3) := by decide +kernel
theorem dX8_init_36 : decode cX8_init 36 = .ok (.aload_n 0, 1) := by decide +kernel
theorem dX8_init_37 : decode cX8_init 37 = .ok (.getfield 12, 3) := by decide +kernel
theorem dX8_init_40 : decode cX8_init 40 = .ok (.aload_n 1, 1) := by decide +kernel
theorem dX8_init_41 : decode cX8_init 41 = .ok (.getfield 29, 3) := by decide +kernel
theorem dX8_init_44 : decode cX8_init 44 = .ok (.putfield 35, 3) := by decide +kernel
theorem dX8_init_47 : decode cX8_init 47 = .ok (.return_, 1) := by decide +kernel
theorem dX8_begin_0 : decode cX8_begin 0 = .ok (.aload_n 0, 1) := by decide +kernel
theorem dX8_begin_1 : decode cX8_begin 1 = .ok (.getfield 12, 3) := by decide +kernel
theorem dX8_begin_4 : decode cX8_begin 4 = .ok (.aload_n 0, 1) := by decide +kernel
theorem dX8_begin_5 : decode cX8_begin 5 = .ok (.getfield 25, 3) := by decide +kernel
theorem dX8_begin_8 : decode cX8_begin 8 = .ok (.getfield 29, 3) := by decide +kernel
theorem dX8_begin_11 : decode cX8_begin 11 = .ok (.invokevirtual 38, 3) := by decide +kernel
theorem dX8_begin_14 : decode cX8_begin 14 = .ok (.return_, 1) := by decide +kernel
theorem dX8_hear_0 : decode cX8_hear 0 = .ok (.aload_n 0, 1) := by decide +kernel
theorem dX8_hear_1 : decode cX8_hear 1 = .ok (.getfield 25, 3) := by decide +kernel
theorem dX8_hear_4 : decode cX8_hear 4 = .ok (.aload_n 0, 1) := by decide +kernel
theorem dX8_hear_5 : decode cX8_hear 5 = .ok (.getfield 12, 3) := by decide +kernel
theorem dX8_hear_8 : decode cX8_hear 8 = .ok (.iload_n 1, 1) := by decide +kernel
theorem dX8_hear_9 : decode cX8_hear 9 = .ok (.invokevirtual 42, 3) := by decide +kernel
theorem dX8_hear_12 : decode cX8_hear 12 = .ok (.istore_n 2, 1) := by decide +kernel
theorem dX8_hear_13 : decode cX8_hear 13 = .ok (.aload_n 0, 1) := by decide +kernel
theorem dX8_hear_14 : decode cX8_hear 14 = .ok (.dup, 1) := by decide +kernel
theorem dX8_hear_15 : decode cX8_hear 15 = .ok (.getfield 46, 3) := by decide +kernel
theorem dX8_hear_18 : decode cX8_hear 18 = .ok (.iconst 1, 1) := by decide +kernel
theorem dX8_hear_19 : decode cX8_hear 19 = .ok (.iadd, 1) := by decide +kernel
theorem dX8_hear_20 : decode cX8_hear 20 = .ok (.putfield 46, 3) := by decide +kernel
theorem dX8_hear_23 : decode cX8_hear 23 = .ok (.iload_n 2, 1) := by decide +kernel
theorem dX8_hear_24 : decode cX8_hear 24 = .ok (.iconst (-1), 1) := by decide +kernel
theorem dX8_hear_25 : decode cX8_hear 25 = .ok (.if_icmp .ge 15, 3) := by decide +kernel
theorem dX8_hear_28 : decode cX8_hear 28 = .ok (.aload_n 0, 1) := by decide +kernel
theorem dX8_hear_29 : decode cX8_hear 29 = .ok (.iconst (-1), 1) := by decide +kernel
theorem dX8_hear_30 : decode cX8_hear 30 = .ok (.iload_n 2, 1) := by decide +kernel
theorem dX8_hear_31 : decode cX8_hear 31 = .ok (.isub, 1) := by decide +kernel
theorem dX8_hear_32 : decode cX8_hear 32 = .ok (.putfield 49, 3) := by decide +kernel
theorem dX8_hear_35 : decode cX8_hear 35 = .ok (.aload_n 0, 1) := by decide +kernel
theorem dX8_hear_36 : decode cX8_hear 36 = .ok (.getfield 49, 3) := by decide +kernel
theorem dX8_hear_39 : decode cX8_hear 39 = .ok (.ireturn, 1) := by decide +kernel
theorem dX8_hear_40 : decode cX8_hear 40 = .ok (.iload_n 2, 1) := by decide +kernel
theorem dX8_hear_41 : decode cX8_hear 41 = .ok (.ifCond .lt 22, 3) := by decide +kernel
theorem dX8_hear_44 : decode cX8_hear 44 = .ok (.iload_n 2, 1) := by decide +kernel
theorem dX8_hear_45 : decode cX8_hear 45 = .ok (.aload_n 0, 1) := by decide +kernel
theorem dX8_hear_46 : decode cX8_hear 46 = .ok (.getfield 18, 3) := by decide +kernel
theorem dX8_hear_49 : decode cX8_hear 49 = .ok (.arraylength, 1) := by decide +kernel
theorem dX8_hear_50 : decode cX8_hear 50 = .ok (.if_icmp .ge 13, 3) := by decide +kernel
theorem dX8_hear_53 : decode cX8_hear 53 = .ok (.aload_n 0, 1) := by decide +kernel
theorem dX8_hear_54 : decode cX8_hear 54 = .ok (.getfield 18, 3) := by decide +kernel
theorem dX8_hear_57 : decode cX8_hear 57 = .ok (.iload_n 2, 1) := by decide +kernel
theorem dX8_hear_58 : decode cX8_hear 58 = .ok (.dup2, 1) := by decide +kernel
theorem dX8_hear_59 : decode cX8_hear 59 = .ok (.iaload, 1) := by decide +kernel
theorem dX8_hear_60 : decode cX8_hear 60 = .ok (.iconst 1, 1) := by decide +kernel
theorem dX8_hear_61 : decode cX8_hear 61 = .ok (.iadd, 1) := by decide +kernel
theorem dX8_hear_62 : decode cX8_hear 62 = .ok (.iastore, 1) := by decide +kernel
theorem dX8_hear_63 : decode cX8_hear 63 = .ok (.aload_n 0, 1) := by decide +kernel
theorem dX8_hear_64 : decode cX8_hear 64 = .ok (.getfield 12, 3) := by decide +kernel
theorem dX8_hear_67 : decode cX8_hear 67 = .ok (.getfield 52, 3) := by decide +kernel
theorem dX8_hear_70 : decode cX8_hear 70 = .ok (.iconst 1, 1) := by decide +kernel
theorem dX8_hear_71 : decode cX8_hear 71 = .ok (.iadd, 1) := by decide +kernel
theorem dX8_hear_72 : decode cX8_hear 72 = .ok (.istore_n 3, 1) := by decide +kernel
theorem dX8_hear_73 : decode cX8_hear 73 = .ok (.iload_n 3, 1) := by decide +kernel
theorem dX8_hear_74 : decode cX8_hear 74 = .ok (.ifCond .lt 22, 3) := by decide +kernel
theorem dX8_hear_77 : decode cX8_hear 77 = .ok (.iload_n 3, 1) := by decide +kernel
theorem dX8_hear_78 : decode cX8_hear 78 = .ok (.aload_n 0, 1) := by decide +kernel
theorem dX8_hear_79 : decode cX8_hear 79 = .ok (.getfield 22, 3) := by decide +kernel
theorem dX8_hear_82 : decode cX8_hear 82 = .ok (.arraylength, 1) := by decide +kernel
theorem dX8_hear_83 : decode cX8_hear 83 = .ok (.if_icmp .ge 13, 3) := by decide +kernel
theorem dX8_hear_86 : decode cX8_hear 86 = .ok (.aload_n 0, 1) := by decide +kernel
theorem dX8_hear_87 : decode cX8_hear 87 = .ok (.getfield 22, 3) := by decide +kernel
theorem dX8_hear_90 : decode cX8_hear 90 = .ok (.iload_n 3, 1) := by decide +kernel
theorem dX8_hear_91 : decode cX8_hear 91 = .ok (.dup2, 1) := by decide +kernel
theorem dX8_hear_92 : decode cX8_hear 92 = .ok (.iaload, 1) := by decide +kernel
theorem dX8_hear_93 : decode cX8_hear 93 = .ok (.iconst 1, 1) := by decide +kernel
theorem dX8_hear_94 : decode cX8_hear 94 = .ok (.iadd, 1) := by decide +kernel
theorem dX8_hear_95 : decode cX8_hear 95 = .ok (.iastore, 1) := by decide +kernel
theorem dX8_hear_96 : decode cX8_hear 96 = .ok (.iconst 0, 1) := by decide +kernel
theorem dX8_hear_97 : decode cX8_hear 97 = .ok (.ireturn, 1) := by decide +kernel
theorem dX9_init_0 : decode cX9_init 0 = .ok (.aload_n 0, 1) := by decide +kernel
theorem dX9_init_1 : decode cX9_init 1 = .ok (.invokespecial 3, 3) := by decide +kernel
theorem dX9_init_4 : decode cX9_init 4 = .ok (.aload_n 0, 1) := by decide +kernel
theorem dX9_init_5 : decode cX9_init 5 = .ok (.new 9, 3) := by decide +kernel
theorem dX9_init_8 : decode cX9_init 8 = .ok (.dup, 1) := by decide +kernel
theorem dX9_init_9 : decode cX9_init 9 = .ok (.invokespecial 11, 3) := by decide +kernel
theorem dX9_init_12 : decode cX9_init 12 = .ok (.putfield 12, 3) := by decide +kernel
theorem dX9_init_15 : decode cX9_init 15 = .ok (.aload_n 0, 1) := by decide +kernel
theorem dX9_init_16 : decode cX9_init 16 = .ok (.bipush 60, 2) := by decide +kernel
theorem dX9_init_18 : decode cX9_init 18 = .ok (.newarray .int, 2) := by decide +kernel
theorem dX9_init_20 : decode cX9_init 20 = .ok (.putfield 18, 3) := by decide +kernel
theorem dX9_init_23 : decode cX9_init 23 = .ok (.aload_n 0, 1) := by decide +kernel
theorem dX9_init_24 : decode cX9_init 24 = .ok (.aload_n 1, 1) := by decide +kernel
theorem dX9_init_25 : decode cX9_init 25 = .ok (.putfield 22, 3) := by decide +kernel
theorem dX9_init_28 : decode cX9_init 28 = .ok (.aload_n 0, 1) := by decide +kernel
theorem dX9_init_29 : decode cX9_init 29 = .ok (.aload_n 2, 1) := by decide +kernel
theorem dX9_init_30 : decode cX9_init 30 = .ok (.putfield 26, 3) := by decide +kernel
theorem dX9_init_33 : decode cX9_init 33 = .ok (.return_, 1) := by decide +kernel
theorem dX9_rage_0 : decode cX9_rage 0 = .ok (.aload_n 0, 1) := by decide +kernel
theorem dX9_rage_1 : decode cX9_rage 1 = .ok (.getfield 26, 3) := by decide +kernel
theorem dX9_rage_4 : decode cX9_rage 4 = .ok (.invokevirtual 30, 3) := by decide +kernel
theorem dX9_rage_7 : decode cX9_rage 7 = .ok (.aload_n 0, 1) := by decide +kernel
theorem dX9_rage_8 : decode cX9_rage 8 = .ok (.iconst 0, 1) := by decide +kernel
theorem dX9_rage_9 : decode cX9_rage 9 = .ok (.putfield 35, 3) := by decide +kernel
theorem dX9_rage_12 : decode cX9_rage 12 = .ok (.aload_n 0, 1) := by decide +kernel
theorem dX9_rage_13 : decode cX9_rage 13 = .ok (.iconst 0, 1) := by decide +kernel
theorem dX9_rage_14 : decode cX9_rage 14 = .ok (.putfield 39, 3) := by decide +kernel
theorem dX9_rage_17 : decode cX9_rage 17 = .ok (.iload_n 1, 1) := by decide +kernel
theorem dX9_rage_18 : decode cX9_rage 18 = .ok (.istore_n 3, 1) := by decide +kernel
theorem dX9_rage_19 : decode cX9_rage 19 = .ok (.iconst 0, 1) := by decide +kernel
theorem dX9_rage_20 : decode cX9_rage 20 = .ok (.istore 4, 2) := by decide +kernel
theorem dX9_rage_22 : decode cX9_rage 22 = .ok (.iload 4, 2) := by decide +kernel
theorem dX9_rage_24 : decode cX9_rage 24 = .ok (.iload_n 2, 1) := by decide +kernel
theorem dX9_rage_25 : decode cX9_rage 25 = .ok (.if_icmp .ge 114, 3) := by decide +kernel
theorem dX9_rage_28 : decode cX9_rage 28 = .ok (.iload 4, 2) := by decide +kernel
theorem dX9_rage_30 : decode cX9_rage 30 = .ok (.aload_n 0, 1) := by decide +kernel
theorem dX9_rage_31 : decode cX9_rage 31 = .ok (.getfield 18, 3) := by decide +kernel
theorem dX9_rage_34 : decode cX9_rage 34 = .ok (.arraylength, 1) := by decide +kernel
theorem dX9_rage_35 : decode cX9_rage 35 = .ok (.if_icmp .ge 104, 3) := by decide +kernel
theorem dX9_rage_38 : decode cX9_rage 38 = .ok (.aload_n 0, 1) := by decide +kernel
theorem dX9_rage_39 : decode cX9_rage 39 = .ok (.getfield 39, 3) := by decide +kernel
theorem dX9_rage_42 : decode cX9_rage 42 = .ok (.ifCond .ne 97, 3) := by decide +kernel
theorem dX9_rage_45 : decode cX9_rage 45 = .ok (.aload_n 0, 1) := by decide +kernel
theorem dX9_rage_46 : decode cX9_rage 46 = .ok (.getfield 26, 3) := by decide +kernel
theorem dX9_rage_49 : decode cX9_rage 49 = .ok (.getfield 42, 3) := by decide +kernel
theorem dX9_rage_52 : decode cX9_rage 52 = .ok (.getfield 45, 3) := by decide +kernel
theorem dX9_rage_55 : decode cX9_rage 55 = .ok (.ifCond .ne 84, 3) := by decide +kernel
theorem dX9_rage_58 : decode cX9_rage 58 = .ok (.iload_n 3, 1) := by decide +kernel
theorem dX9_rage_59 : decode cX9_rage 59 = .ok (.invokestatic 48, 3) := by decide +kernel
theorem dX9_rage_62 : decode cX9_rage 62 = .ok (.istore_n 3, 1) := by decide +kernel
theorem dX9_rage_63 : decode cX9_rage 63 = .ok (.aload_n 0, 1) := by decide +kernel
theorem dX9_rage_64 : decode cX9_rage 64 = .ok (.getfield 18, 3) := by decide +kernel
theorem dX9_rage_67 : decode cX9_rage 67 = .ok (.iload 4, 2) := by decide +kernel
theorem dX9_rage_69 : decode cX9_rage 69 = .ok (.iload_n 3, 1) := by decide +kernel
theorem dX9_rage_70 : decode cX9_rage 70 = .ok (.aload_n 0, 1) := by decide +kernel
theorem dX9_rage_71 : decode cX9_rage 71 = .ok (.getfield 22, 3) := by decide +kernel
theorem dX9_rage_74 : decode cX9_rage 74 = .ok (.getfield 54, 3) := by decide +kernel
theorem dX9_rage_77 : decode cX9_rage 77 = .ok (.getfield 57, 3) := by decide +kernel
theorem dX9_rage_80 : decode cX9_rage 80 = .ok (.invokestatic 62, 3) := by decide +kernel
theorem dX9_rage_83 : decode cX9_rage 83 = .ok (.iastore, 1) := by decide +kernel
theorem dX9_rage_84 : decode cX9_rage 84 = .ok (.aload_n 0, 1) := by decide +kernel
theorem dX9_rage_85 : decode cX9_rage 85 = .ok (.iload 4, 2) := by decide +kernel
theorem dX9_rage_87 : decode cX9_rage 87 = .ok (.iconst 1, 1) := by decide +kernel
theorem dX9_rage_88 : decode cX9_rage 88 = .ok (.iadd, 1) := by decide +kernel
theorem dX9_rage_89 : decode cX9_rage 89 = .ok (.putfield 35, 3) := by decide +kernel
theorem dX9_rage_92 : decode cX9_rage 92 = .ok (.aload_n 0, 1) := by decide +kernel
theorem dX9_rage_93 : decode cX9_rage 93 = .ok (.getfield 26, 3) := by decide +kernel
theorem dX9_rage_96 : decode cX9_rage 96 = .ok (.aload_n 0, 1) := by decide +kernel
theorem dX9_rage_97 : decode cX9_rage 97 = .ok (.getfield 18, 3) := by decide +kernel
theorem dX9_rage_100 : decode cX9_rage 100 = .ok (.iload 4, 2) := by decide +kernel
theorem dX9_rage_102 : decode cX9_rage 102 = .ok (.iaload, 1) := by decide +kernel
theorem dX9_rage_103 : decode cX9_rage 103 = .ok (.invokevirtual 66, 3) := by decide +kernel
theorem dX9_rage_106 : decode cX9_rage 106 = .ok (.istore 5, 2) := by decide +kernel
theorem dX9_rage_108 : decode cX9_rage 108 = .ok (.aload_n 0, 1) := by decide +kernel
theorem dX9_rage_109 : decode cX9_rage 109 = .ok (.aload_n 0, 1) := by decide +kernel
theorem dX9_rage_110 : decode cX9_rage 110 = .ok (.aload_n 0, 1) := by decide +kernel
theorem dX9_rage_111 : decode cX9_rage 111 = .ok (.getfield 26, 3) := by decide +kernel
theorem dX9_rage_114 : decode cX9_rage 114 = .ok (.getfield 42, 3) := by decide +kernel
theorem dX9_rage_117 : decode cX9_rage 117 = .ok (.iload 5, 2) := by decide +kernel
theorem dX9_rage_119 : decode cX9_rage 119 = .ok (.ifCond .eq 7, 3) := by decide +kernel
theorem dX9_rage_122 : decode cX9_rage 122 = .ok (.iconst 1, 1) := by decide +kernel
theorem dX9_rage_123 : decode cX9_rage 123 = .ok (.goto 4, 3) := by decide +kernel
theorem dX9_rage_126 : decode cX9_rage 126 = .ok (.iconst 0, 1) := by decide +kernel
theorem dX9_rage_127 : decode cX9_rage 127 = .ok (.invokevirtual 69, 3) := by decide +kernel
theorem dX9_rage_130 : decode cX9_rage 130 = .ok (.putfield 39, 3) := by decide +kernel
theorem dX9_rage_133 : decode cX9_rage 133 = .ok (.iinc 4 1, 3) := by decide +kernel
theorem dX9_rage_136 : decode cX9_rage 136 = .ok (.goto (-114), 3) := by decide +kernel
theorem dX9_rage_139 : decode cX9_rage 139 = .ok (.aload_n 0, 1) := by decide +kernel
theorem dX9_rage_140 : decode cX9_rage 140 = .ok (.getfield 39, 3) := by decide +kernel
theorem dX9_rage_143 : decode cX9_rage 143 = .ok (.ireturn, 1) := by decide +kernel
theorem dX9_ruleBroken_0 : decode cX9_ruleBroken 0 = .ok (.iload_n 2, 1) := by decide +kernel
theorem dX9_ruleBroken_1 : decode cX9_ruleBroken 1 = .ok (.ifCond .eq 5, 3) := by decide +kernel
theorem dX9_ruleBroken_4 : decode cX9_ruleBroken 4 = .ok (.iconst 1, 1) := by decide +kernel
theorem dX9_ruleBroken_5 : decode cX9_ruleBroken 5 = .ok (.ireturn, 1) := by decide +kernel
theorem dX9_ruleBroken_6 : decode cX9_ruleBroken 6 = .ok (.aload_n 0, 1) := by decide +kernel
theorem dX9_ruleBroken_7 : decode cX9_ruleBroken 7 = .ok (.getfield 22, 3) := by decide +kernel
theorem dX9_ruleBroken_10 : decode cX9_ruleBroken 10 = .ok (.aload_n 1, 1) := by decide +kernel
theorem dX9_ruleBroken_11 : decode cX9_ruleBroken 11 = .ok (.getfield 73, 3) := by decide +kernel
theorem dX9_ruleBroken_14 : decode cX9_ruleBroken 14 = .ok (.invokevirtual 76, 3) := by decide +kernel
theorem dX9_ruleBroken_17 : decode cX9_ruleBroken 17 = .ok (.ifCond .ne 5, 3) := by decide +kernel
theorem dX9_ruleBroken_20 : decode cX9_ruleBroken 20 = .ok (.iconst 2, 1) := by decide +kernel
theorem dX9_ruleBroken_21 : decode cX9_ruleBroken 21 = .ok (.ireturn, 1) := by decide +kernel
theorem dX9_ruleBroken_22 : decode cX9_ruleBroken 22 = .ok (.aload_n 1, 1) := by decide +kernel
theorem dX9_ruleBroken_23 : decode cX9_ruleBroken 23 = .ok (.invokevirtual 79, 3) := by decide +kernel
theorem dX9_ruleBroken_26 : decode cX9_ruleBroken 26 = .ok (.ifCond .eq 7, 3) := by decide +kernel
theorem dX9_ruleBroken_29 : decode cX9_ruleBroken 29 = .ok (.iconst 3, 1) := by decide +kernel
theorem dX9_ruleBroken_30 : decode cX9_ruleBroken 30 = .ok (.goto 4, 3) := by decide +kernel
theorem dX9_ruleBroken_33 : decode cX9_ruleBroken 33 = .ok (.iconst 0, 1) := by decide +kernel
theorem dX9_ruleBroken_34 : decode cX9_ruleBroken 34 = .ok (.ireturn, 1) := by decide +kernel
theorem dX9_shorten_0 : decode cX9_shorten 0 = .ok (.iconst 0, 1) := by decide +kernel
theorem dX9_shorten_1 : decode cX9_shorten 1 = .ok (.istore_n 1, 1) := by decide +kernel
theorem dX9_shorten_2 : decode cX9_shorten 2 = .ok (.iload_n 1, 1) := by decide +kernel
theorem dX9_shorten_3 : decode cX9_shorten 3 = .ok (.aload_n 0, 1) := by decide +kernel
theorem dX9_shorten_4 : decode cX9_shorten 4 = .ok (.getfield 18, 3) := by decide +kernel
theorem dX9_shorten_7 : decode cX9_shorten 7 = .ok (.arraylength, 1) := by decide +kernel
theorem dX9_shorten_8 : decode cX9_shorten 8 = .ok (.if_icmp .ge 27, 3) := by decide +kernel
theorem dX9_shorten_11 : decode cX9_shorten 11 = .ok (.aload_n 0, 1) := by decide +kernel
theorem dX9_shorten_12 : decode cX9_shorten 12 = .ok (.invokevirtual 83, 3) := by decide +kernel
theorem dX9_shorten_15 : decode cX9_shorten 15 = .ok (.istore_n 2, 1) := by decide +kernel
theorem dX9_shorten_16 : decode cX9_shorten 16 = .ok (.iload_n 2, 1) := by decide +kernel
theorem dX9_shorten_17 : decode cX9_shorten 17 = .ok (.iconst (-1), 1) := by decide +kernel
theorem dX9_shorten_18 : decode cX9_shorten 18 = .ok (.if_icmp .ne 6, 3) := by decide +kernel
theorem dX9_shorten_21 : decode cX9_shorten 21 = .ok (.goto 14, 3) := by decide +kernel
theorem dX9_shorten_24 : decode cX9_shorten 24 = .ok (.aload_n 0, 1) := by decide +kernel
theorem dX9_shorten_25 : decode cX9_shorten 25 = .ok (.iload_n 2, 1) := by decide +kernel
theorem dX9_shorten_26 : decode cX9_shorten 26 = .ok (.invokevirtual 87, 3) := by decide +kernel
theorem dX9_shorten_29 : decode cX9_shorten 29 = .ok (.iinc 1 1, 3) := by decide +kernel
theorem dX9_shorten_32 : decode cX9_shorten 32 = .ok (.goto (-30), 3) := by decide +kernel
theorem dX9_shorten_35 : decode cX9_shorten 35 = .ok (.aload_n 0, 1) := by decide +kernel
theorem dX9_shorten_36 : decode cX9_shorten 36 = .ok (.getfield 35, 3) := by decide +kernel
theorem dX9_shorten_39 : decode cX9_shorten 39 = .ok (.ireturn, 1) := by decide +kernel
theorem dX9_firstThatCanGo_0 : decode cX9_firstThatCanGo 0 = .ok (.iconst 0, 1) := by decide +kernel
theorem dX9_firstThatCanGo_1 : decode cX9_firstThatCanGo 1 = .ok (.istore_n 1, 1) := by decide +kernel
theorem dX9_firstThatCanGo_2 : decode cX9_firstThatCanGo 2 = .ok (.iload_n 1, 1) := by decide +kernel
theorem dX9_firstThatCanGo_3 : decode cX9_firstThatCanGo 3 = .ok (.aload_n 0, 1) := by decide +kernel
theorem dX9_firstThatCanGo_4 : decode cX9_firstThatCanGo 4 = .ok (.getfield 35, 3) := by decide +kernel
theorem dX9_firstThatCanGo_7 : decode cX9_firstThatCanGo 7 = .ok (.if_icmp .ge 19, 3) := by decide +kernel
theorem dX9_firstThatCanGo_10 : decode cX9_firstThatCanGo 10 = .ok (.aload_n 0, 1) := by decide +kernel
theorem dX9_firstThatCanGo_11 : decode cX9_firstThatCanGo 11 = .ok (.iload_n 1, 1) := by decide +kernel
theorem dX9_firstThatCanGo_12 : decode cX9_firstThatCanGo 12 = .ok (.invokevirtual 91, 3) := by decide +kernel
theorem dX9_firstThatCanGo_15 : decode cX9_firstThatCanGo 15 = .ok (.ifCond .eq 5, 3) := by decide +kernel
theorem dX9_firstThatCanGo_18 : decode cX9_firstThatCanGo 18 = .ok (.iload_n 1, 1) := by decide +kernel
theorem dX9_firstThatCanGo_19 : decode cX9_firstThatCanGo 19 = .ok (.ireturn, 1) := by decide +kernel
theorem dX9_firstThatCanGo_20 : decode cX9_firstThatCanGo 20 = .ok (.iinc 1 1, 3) := by decide +kernel
theorem dX9_firstThatCanGo_23 : decode cX9_firstThatCanGo 23 = .ok (.goto (-21), 3) := by decide +kernel
theorem dX9_firstThatCanGo_26 : decode cX9_firstThatCanGo 26 = .ok (.iconst (-1), 1) := by decide +kernel
theorem dX9_firstThatCanGo_27 : decode cX9_firstThatCanGo 27 = .ok (.ireturn, 1) := by decide +kernel
theorem dX9_breaksAlikeWithout_0 : decode cX9_breaksAlikeWithout 0 = .ok (.aload_n 0, 1) := by decide +kernel
theorem dX9_breaksAlikeWithout_1 : decode cX9_breaksAlikeWithout 1 = .ok (.getfield 12, 3) := by decide +kernel
theorem dX9_breaksAlikeWithout_4 : decode cX9_breaksAlikeWithout 4 = .ok (.aload_n 0, 1) := by decide +kernel
theorem dX9_breaksAlikeWithout_5 : decode cX9_breaksAlikeWithout 5 = .ok (.getfield 22, 3) := by decide +kernel
theorem dX9_breaksAlikeWithout_8 : decode cX9_breaksAlikeWithout 8 = .ok (.getfield 95, 3) := by decide +kernel
theorem dX9_breaksAlikeWithout_11 : decode cX9_breaksAlikeWithout 11 = .ok (.invokevirtual 98, 3) := by decide +kernel
theorem dX9_breaksAlikeWithout_14 : decode cX9_breaksAlikeWithout 14 = .ok (.iload_n 1, 1) := by decide +kernel
theorem dX9_breaksAlikeWithout_15 : decode cX9_breaksAlikeWithout 15 = .ok (.aload_n 0, 1) := by decide +kernel
theorem dX9_breaksAlikeWithout_16 : decode cX9_breaksAlikeWithout 16 = .ok (.getfield 35, 3) := by decide +kernel
theorem dX9_breaksAlikeWithout_19 : decode cX9_breaksAlikeWithout 19 = .ok (.iconst 1, 1) := by decide +kernel
theorem dX9_breaksAlikeWithout_20 : decode cX9_breaksAlikeWithout 20 = .ok (.isub, 1) := by decide +kernel
theorem dX9_breaksAlikeWithout_21 : decode cX9_breaksAlikeWithout 21 = .ok (.if_icmp .ne 12, 3) := by decide +kernel
theorem dX9_breaksAlikeWithout_24 : decode cX9_breaksAlikeWithout 24 = .ok (.aload_n 0, 1) := by decide +kernel
theorem dX9_breaksAlikeWithout_25 : decode cX9_breaksAlikeWithout 25 = .ok (.getfield 35, 3) := by decide +kernel
theorem dX9_breaksAlikeWithout_28 : decode cX9_breaksAlikeWithout 28 = .ok (.iconst 2, 1) := by decide +kernel
theorem dX9_breaksAlikeWithout_29 : decode cX9_breaksAlikeWithout 29 = .ok (.isub, 1) := by decide +kernel
theorem dX9_breaksAlikeWithout_30 : decode cX9_breaksAlikeWithout 30 = .ok (.goto 9, 3) := by decide +kernel
theorem dX9_breaksAlikeWithout_33 : decode cX9_breaksAlikeWithout 33 = .ok (.aload_n 0, 1) := by decide +kernel
theorem dX9_breaksAlikeWithout_34 : decode cX9_breaksAlikeWithout 34 = .ok (.getfield 35, 3) := by decide +kernel
theorem dX9_breaksAlikeWithout_37 : decode cX9_breaksAlikeWithout 37 = .ok (.iconst 1, 1) := by decide +kernel
theorem dX9_breaksAlikeWithout_38 : decode cX9_breaksAlikeWithout 38 = .ok (.isub, 1) := by decide +kernel
theorem dX9_breaksAlikeWithout_39 : decode cX9_breaksAlikeWithout 39 = .ok (.istore_n 2, 1) := by decide +kernel
theorem dX9_breaksAlikeWithout_40 : decode cX9_breaksAlikeWithout 40 = .ok (.iconst 0, 1) := by decide +kernel
theorem dX9_breaksAlikeWithout_41 : decode cX9_breaksAlikeWithout 41 = .ok (.istore_n 3, 1) := by decide +kernel
theorem dX9_breaksAlikeWithout_42 : decode cX9_breaksAlikeWithout 42 = .ok (.iload_n 3, 1) := by decide +kernel
theorem dX9_breaksAlikeWithout_43 : decode cX9_breaksAlikeWithout 43 = .ok (.iload_n 2, 1) := by decide +kernel
theorem dX9_breaksAlikeWithout_44 : decode cX9_breaksAlikeWithout 44 = .ok (.if_icmp .gt 105, 3) := by decide +kernel
theorem dX9_breaksAlikeWithout_47 : decode cX9_breaksAlikeWithout 47 = .ok (.iload_n 3, 1) := by decide +kernel
theorem dX9_breaksAlikeWithout_48 : decode cX9_breaksAlikeWithout 48 = .ok (.aload_n 0, 1) := by decide +kernel
theorem dX9_breaksAlikeWithout_49 : decode cX9_breaksAlikeWithout 49 = .ok (.getfield 18, 3) := by decide +kernel
theorem dX9_breaksAlikeWithout_52 : decode cX9_breaksAlikeWithout 52 = .ok (.arraylength, 1) := by decide +kernel
theorem dX9_breaksAlikeWithout_53 : decode cX9_breaksAlikeWithout 53 = .ok (.if_icmp .ge 96, 3) := by decide +kernel
theorem dX9_breaksAlikeWithout_56 : decode cX9_breaksAlikeWithout 56 = .ok (.iload_n 3, 1) := by decide +kernel
theorem dX9_breaksAlikeWithout_57 : decode cX9_breaksAlikeWithout 57 = .ok (.iload_n 1, 1) := by decide +kernel
theorem dX9_breaksAlikeWithout_58 : decode cX9_breaksAlikeWithout 58 = .ok (.if_icmp .ne 6, 3) := by decide +kernel
theorem dX9_breaksAlikeWithout_61 : decode cX9_breaksAlikeWithout 61 = .ok (.goto 82, 3) := by decide +kernel
theorem dX9_breaksAlikeWithout_64 : decode cX9_breaksAlikeWithout 64 = .ok (.aload_n 0, 1) := by decide +kernel
theorem dX9_breaksAlikeWithout_65 : decode cX9_breaksAlikeWithout 65 = .ok (.getfield 12, 3) := by decide +kernel
theorem dX9_breaksAlikeWithout_68 : decode cX9_breaksAlikeWithout 68 = .ok (.getfield 45, 3) := by decide +kernel
theorem dX9_breaksAlikeWithout_71 : decode cX9_breaksAlikeWithout 71 = .ok (.ifCond .eq 5, 3) := by decide +kernel
theorem dX9_breaksAlikeWithout_74 : decode cX9_breaksAlikeWithout 74 = .ok (.iconst 0, 1) := by decide +kernel
theorem dX9_breaksAlikeWithout_75 : decode cX9_breaksAlikeWithout 75 = .ok (.ireturn, 1) := by decide +kernel
theorem dX9_breaksAlikeWithout_76 : decode cX9_breaksAlikeWithout 76 = .ok (.aload_n 0, 1) := by decide +kernel
theorem dX9_breaksAlikeWithout_77 : decode cX9_breaksAlikeWithout 77 = .ok (.getfield 22, 3) := by decide +kernel
theorem dX9_breaksAlikeWithout_80 : decode cX9_breaksAlikeWithout 80 = .ok (.aload_n 0, 1) := by decide +kernel
theorem dX9_breaksAlikeWithout_81 : decode cX9_breaksAlikeWithout 81 = .ok (.getfield 12, 3) := by decide +kernel
theorem dX9_breaksAlikeWithout_84 : decode cX9_breaksAlikeWithout 84 = .ok (.aload_n 0, 1) := by decide +kernel
theorem dX9_breaksAlikeWithout_85 : decode cX9_breaksAlikeWithout 85 = .ok (.getfield 18, 3) := by decide +kernel
theorem dX9_breaksAlikeWithout_88 : decode cX9_breaksAlikeWithout 88 = .ok (.iload_n 3, 1) := by decide +kernel
theorem dX9_breaksAlikeWithout_89 : decode cX9_breaksAlikeWithout 89 = .ok (.iaload, 1) := by decide +kernel
theorem dX9_breaksAlikeWithout_90 : decode cX9_breaksAlikeWithout 90 = .ok (.invokevirtual 100, 3) := by decide +kernel
theorem dX9_breaksAlikeWithout_93 : decode cX9_breaksAlikeWithout 93 = .ok (.istore 4, 2) := by decide +kernel
theorem dX9_breaksAlikeWithout_95 : decode cX9_breaksAlikeWithout 95 = .ok (.aload_n 0, 1) := by decide +kernel
theorem dX9_breaksAlikeWithout_96 : decode cX9_breaksAlikeWithout 96 = .ok (.aload_n 0, 1) := by decide +kernel
theorem dX9_breaksAlikeWithout_97 : decode cX9_breaksAlikeWithout 97 = .ok (.getfield 12, 3) := by decide +kernel
theorem dX9_breaksAlikeWithout_100 : decode cX9_breaksAlikeWithout 100 = .ok (.iload 4, 2) := by decide +kernel
theorem dX9_breaksAlikeWithout_102 : decode cX9_breaksAlikeWithout 102 = .ok (.iconst (-1), 1) := by decide +kernel
theorem dX9_breaksAlikeWithout_103 : decode cX9_breaksAlikeWithout 103 = .ok (.if_icmp .ge 7, 3) := by decide +kernel
theorem dX9_breaksAlikeWithout_106 : decode cX9_breaksAlikeWithout 106 = .ok (.iconst 1, 1) := by decide +kernel
theorem dX9_breaksAlikeWithout_107 : decode cX9_breaksAlikeWithout 107 = .ok (.goto 4, 3) := by decide +kernel
theorem dX9_breaksAlikeWithout_110 : decode cX9_breaksAlikeWithout 110 = .ok (.iconst 0, 1) := by decide +kernel
theorem dX9_breaksAlikeWithout_111 : decode cX9_breaksAlikeWithout 111 = .ok (.invokevirtual 69, 3) := by decide +kernel
theorem dX9_breaksAlikeWithout_114 : decode cX9_breaksAlikeWithout 114 = .ok (.istore 5, 2) := by decide +kernel
theorem dX9_breaksAlikeWithout_116 : decode cX9_breaksAlikeWithout 116 = .ok (.iload_n 3, 1) := by decide +kernel
theorem dX9_breaksAlikeWithout_117 : decode cX9_breaksAlikeWithout 117 = .ok (.iload_n 2, 1) := by decide +kernel
theorem dX9_breaksAlikeWithout_118 : decode cX9_breaksAlikeWithout 118 = .ok (.if_icmp .ne 18, 3) := by decide +kernel
theorem dX9_breaksAlikeWithout_121 : decode cX9_breaksAlikeWithout 121 = .ok (.iload 5, 2) := by decide +kernel
theorem dX9_breaksAlikeWithout_123 : decode cX9_breaksAlikeWithout 123 = .ok (.aload_n 0, 1) := by decide +kernel
theorem dX9_breaksAlikeWithout_124 : decode cX9_breaksAlikeWithout 124 = .ok (.getfield 39, 3) := by decide +kernel
theorem dX9_breaksAlikeWithout_127 : decode cX9_breaksAlikeWithout 127 = .ok (.if_icmp .ne 7, 3) := by decide +kernel
theorem dX9_breaksAlikeWithout_130 : decode cX9_breaksAlikeWithout 130 = .ok (.iconst 1, 1) := by decide +kernel
theorem dX9_breaksAlikeWithout_131 : decode cX9_breaksAlikeWithout 131 = .ok (.goto 4, 3) := by decide +kernel
theorem dX9_breaksAlikeWithout_134 : decode cX9_breaksAlikeWithout 134 = .ok (.iconst 0, 1) := by decide +kernel
theorem dX9_breaksAlikeWithout_135 : decode cX9_breaksAlikeWithout 135 = .ok (.ireturn, 1) := by decide +kernel
theorem dX9_breaksAlikeWithout_136 : decode cX9_breaksAlikeWithout 136 = .ok (.iload 5, 2) := by decide +kernel
theorem dX9_breaksAlikeWithout_138 : decode cX9_breaksAlikeWithout 138 = .ok (.ifCond .eq 5, 3) := by decide +kernel
theorem dX9_breaksAlikeWithout_141 : decode cX9_breaksAlikeWithout 141 = .ok (.iconst 0, 1) := by decide +kernel
theorem dX9_breaksAlikeWithout_142 : decode cX9_breaksAlikeWithout 142 = .ok (.ireturn, 1) := by decide +kernel
theorem dX9_breaksAlikeWithout_143 : decode cX9_breaksAlikeWithout 143 = .ok (.iinc 3 1, 3) := by decide +kernel
theorem dX9_breaksAlikeWithout_146 : decode cX9_breaksAlikeWithout 146 = .ok (.goto (-104), 3) := by decide +kernel
theorem dX9_breaksAlikeWithout_149 : decode cX9_breaksAlikeWithout 149 = .ok (.iconst 0, 1) := by decide +kernel
theorem dX9_breaksAlikeWithout_150 : decode cX9_breaksAlikeWithout 150 = .ok (.ireturn, 1) := by decide +kernel
theorem dX9_drop_0 : decode cX9_drop 0 = .ok (.iload_n 1, 1) := by decide +kernel
theorem dX9_drop_1 : decode cX9_drop 1 = .ok (.istore_n 2, 1) := by decide +kernel
theorem dX9_drop_2 : decode cX9_drop 2 = .ok (.iload_n 2, 1) := by decide +kernel
theorem dX9_drop_3 : decode cX9_drop 3 = .ok (.ifCond .lt 44, 3) := by decide +kernel
theorem dX9_drop_6 : decode cX9_drop 6 = .ok (.iload_n 2, 1) := by decide +kernel
theorem dX9_drop_7 : decode cX9_drop 7 = .ok (.aload_n 0, 1) := by decide +kernel
theorem dX9_drop_8 : decode cX9_drop 8 = .ok (.getfield 35, 3) := by decide +kernel
theorem dX9_drop_11 : decode cX9_drop 11 = .ok (.iconst 1, 1) := by decide +kernel
theorem dX9_drop_12 : decode cX9_drop 12 = .ok (.isub, 1) := by decide +kernel
theorem dX9_drop_13 : decode cX9_drop 13 = .ok (.if_icmp .ge 34, 3) := by decide +kernel
theorem dX9_drop_16 : decode cX9_drop 16 = .ok (.iload_n 2, 1) := by decide +kernel
theorem dX9_drop_17 : decode cX9_drop 17 = .ok (.aload_n 0, 1) := by decide +kernel
theorem dX9_drop_18 : decode cX9_drop 18 = .ok (.getfield 18, 3) := by decide +kernel
theorem dX9_drop_21 : decode cX9_drop 21 = .ok (.arraylength, 1) := by decide +kernel
theorem dX9_drop_22 : decode cX9_drop 22 = .ok (.iconst 1, 1) := by decide +kernel
theorem dX9_drop_23 : decode cX9_drop 23 = .ok (.isub, 1) := by decide +kernel
theorem dX9_drop_24 : decode cX9_drop 24 = .ok (.if_icmp .ge 23, 3) := by decide +kernel
theorem dX9_drop_27 : decode cX9_drop 27 = .ok (.aload_n 0, 1) := by decide +kernel
theorem dX9_drop_28 : decode cX9_drop 28 = .ok (.getfield 18, 3) := by decide +kernel
theorem dX9_drop_31 : decode cX9_drop 31 = .ok (.iload_n 2, 1) := by decide +kernel
theorem dX9_drop_32 : decode cX9_drop 32 = .ok (.aload_n 0, 1) := by decide +kernel
theorem dX9_drop_33 : decode cX9_drop 33 = .ok (.getfield 18, 3) := by decide +kernel
theorem dX9_drop_36 : decode cX9_drop 36 = .ok (.iload_n 2, 1) := by decide +kernel
theorem dX9_drop_37 : decode cX9_drop 37 = .ok (.iconst 1, 1) := by decide +kernel
theorem dX9_drop_38 : decode cX9_drop 38 = .ok (.iadd, 1) := by decide +kernel
theorem dX9_drop_39 : decode cX9_drop 39 = .ok (.iaload, 1) := by decide +kernel
theorem dX9_drop_40 : decode cX9_drop 40 = .ok (.iastore, 1) := by decide +kernel
theorem dX9_drop_41 : decode cX9_drop 41 = .ok (.iinc 2 1, 3) := by decide +kernel
theorem dX9_drop_44 : decode cX9_drop 44 = .ok (.goto (-42), 3) := by decide +kernel
theorem dX9_drop_47 : decode cX9_drop 47 = .ok (.aload_n 0, 1) := by decide +kernel
theorem dX9_drop_48 : decode cX9_drop 48 = .ok (.dup, 1) := by decide +kernel
theorem dX9_drop_49 : decode cX9_drop 49 = .ok (.getfield 35, 3) := by decide +kernel
theorem dX9_drop_52 : decode cX9_drop 52 = .ok (.iconst 1, 1) := by decide +kernel
theorem dX9_drop_53 : decode cX9_drop 53 = .ok (.isub, 1) := by decide +kernel
theorem dX9_drop_54 : decode cX9_drop 54 = .ok (.putfield 35, 3) := by decide +kernel
theorem dX9_drop_57 : decode cX9_drop 57 = .ok (.return_, 1) := by decide +kernel
theorem dX10_init_0 : decode cX10_init 0 = .ok (.aload_n 0, 1) := by decide +kernel
theorem dX10_init_1 : decode cX10_init 1 = .ok (.invokespecial 3, 3) := by decide +kernel
theorem dX10_init_4 : decode cX10_init 4 = .ok (.aload_n 0, 1) := by decide +kernel
theorem dX10_init_5 : decode cX10_init 5 = .ok (.new 9, 3) := by decide +kernel
theorem dX10_init_8 : decode cX10_init 8 = .ok (.dup, 1) := by decide +kernel
theorem dX10_init_9 : decode cX10_init 9 = .ok (.bipush 16, 2) := by decide +kernel
theorem dX10_init_11 : decode cX10_init 11 = .ok (.bipush 6, 2) := by decide +kernel
theorem dX10_init_13 : decode cX10_init 13 = .ok (.invokespecial 11, 3) := by decide +kernel
theorem dX10_init_16 : decode cX10_init 16 = .ok (.putfield 14, 3) := by decide +kernel
theorem dX10_init_19 : decode cX10_init 19 = .ok (.aload_n 0, 1) := by decide +kernel
theorem dX10_init_20 : decode cX10_init 20 = .ok (.new 9, 3) := by decide +kernel
theorem dX10_init_23 : decode cX10_init 23 = .ok (.dup, 1) := by decide +kernel
theorem dX10_init_24 : decode cX10_init 24 = .ok (.bipush 24, 2) := by decide +kernel
theorem dX10_init_26 : decode cX10_init 26 = .ok (.bipush 20, 2) := by decide +kernel
theorem dX10_init_28 : decode cX10_init 28 = .ok (.invokespecial 11, 3) := by decide +kernel
theorem dX10_init_31 : decode cX10_init 31 = .ok (.putfield 20, 3) := by decide +kernel
theorem dX10_init_34 : decode cX10_init 34 = .ok (.aload_n 0, 1) := by decide +kernel
theorem dX10_init_35 : decode cX10_init 35 = .ok (.bipush 30, 2) := by decide +kernel
theorem dX10_init_37 : decode cX10_init 37 = .ok (.anewarray 23, 3) := by decide +kernel
theorem dX10_init_40 : decode cX10_init 40 = .ok (.putfield 25, 3) := by decide +kernel
theorem dX10_init_43 : decode cX10_init 43 = .ok (.aload_n 0, 1) := by decide +kernel
theorem dX10_init_44 : decode cX10_init 44 = .ok (.iconst 4, 1) := by decide +kernel
theorem dX10_init_45 : decode cX10_init 45 = .ok (.anewarray 29, 3) := by decide +kernel
theorem dX10_init_48 : decode cX10_init 48 = .ok (.putfield 31, 3) := by decide +kernel
theorem dX10_init_51 : decode cX10_init 51 = .ok (.aload_n 0, 1) := by decide +kernel
theorem dX10_init_52 : decode cX10_init 52 = .ok (.iload_n 1, 1) := by decide +kernel
theorem dX10_init_53 : decode cX10_init 53 = .ok (.putfield 35, 3) := by decide +kernel
theorem dX10_init_56 : decode cX10_init 56 = .ok (.iconst 0, 1) := by decide +kernel
theorem dX10_init_57 : decode cX10_init 57 = .ok (.istore_n 2, 1) := by decide +kernel
theorem dX10_init_58 : decode cX10_init 58 = .ok (.iload_n 2, 1) := by decide +kernel
theorem dX10_init_59 : decode cX10_init 59 = .ok (.aload_n 0, 1) := by decide +kernel
theorem dX10_init_60 : decode cX10_init 60 = .ok (.getfield 25, 3) := by decide +kernel
theorem dX10_init_63 : decode cX10_init 63 = .ok (.arraylength, 1) := by decide +kernel
theorem dX10_init_64 : decode cX10_init 64 = .ok (.if_icmp .ge 22, 3) := by decide +kernel
theorem dX10_init_67 : decode cX10_init 67 = .ok (.aload_n 0, 1) := by decide +kernel
theorem dX10_init_68 : decode cX10_init 68 = .ok (.getfield 25, 3) := by decide +kernel
theorem dX10_init_71 : decode cX10_init 71 = .ok (.iload_n 2, 1) := by decide +kernel
theorem dX10_init_72 : decode cX10_init 72 = .ok (.new 23, 3) := by decide +kernel
theorem dX10_init_75 : decode cX10_init 75 = .ok (.dup, 1) := by decide +kernel
theorem dX10_init_76 : decode cX10_init 76 = .ok (.invokespecial 39, 3) := by decide +kernel
theorem dX10_init_79 : decode cX10_init 79 = .ok (.aastore, 1) := by decide +kernel
theorem dX10_init_80 : decode cX10_init 80 = .ok (.iinc 2 1, 3) := by decide +kernel
theorem dX10_init_83 : decode cX10_init 83 = .ok (.goto (-25), 3) := by decide +kernel
theorem dX10_init_86 : decode cX10_init 86 = .ok (.iconst 0, 1) := by decide +kernel
theorem dX10_init_87 : decode cX10_init 87 = .ok (.istore_n 2, 1) := by decide +kernel
theorem dX10_init_88 : decode cX10_init 88 = .ok (.iload_n 2, 1) := by decide +kernel
theorem dX10_init_89 : decode cX10_init 89 = .ok (.aload_n 0, 1) := by decide +kernel
theorem dX10_init_90 : decode cX10_init 90 = .ok (.getfield 31, 3) := by decide +kernel
theorem dX10_init_93 : decode cX10_init 93 = .ok (.arraylength, 1) := by decide +kernel
theorem dX10_init_94 : decode cX10_init 94 = .ok (.if_icmp .ge 22, 3) := by decide +kernel
theorem dX10_init_97 : decode cX10_init 97 = .ok (.aload_n 0, 1) := by decide +kernel
theorem dX10_init_98 : decode cX10_init 98 = .ok (.getfield 31, 3) := by decide +kernel
theorem dX10_init_101 : decode cX10_init 101 = .ok (.iload_n 2, 1) := by decide +kernel
theorem dX10_init_102 : decode cX10_init 102 = .ok (.new 29, 3) := by decide +kernel
theorem dX10_init_105 : decode cX10_init 105 = .ok (.dup, 1) := by decide +kernel
theorem dX10_init_106 : decode cX10_init 106 = .ok (.invokespecial 40, 3) := by decide +kernel
theorem dX10_init_109 : decode cX10_init 109 = .ok (.aastore, 1) := by decide +kernel
theorem dX10_init_110 : decode cX10_init 110 = .ok (.iinc 2 1, 3) := by decide +kernel
theorem dX10_init_113 : decode cX10_init 113 = .ok (.goto (-25), 3) := by decide +kernel
theorem dX10_init_116 : decode cX10_init 116 = .ok (.return_, 1) := by decide +kernel
theorem dX10_nextRule_0 : decode cX10_nextRule 0 = .ok (.aload_n 0, 1) := by decide +kernel
theorem dX10_nextRule_1 : decode cX10_nextRule 1 = .ok (.getfield 41, 3) := by decide +kernel
theorem dX10_nextRule_4 : decode cX10_nextRule 4 = .ok (.ifCond .lt 15, 3) := by decide +kernel
theorem dX10_nextRule_7 : decode cX10_nextRule 7 = .ok (.aload_n 0, 1) := by decide +kernel
theorem dX10_nextRule_8 : decode cX10_nextRule 8 = .ok (.getfield 41, 3) := by decide +kernel
theorem dX10_nextRule_11 : decode cX10_nextRule 11 = .ok (.aload_n 0, 1) := by decide +kernel
theorem dX10_nextRule_12 : decode cX10_nextRule 12 = .ok (.getfield 25, 3) := by decide +kernel
theorem dX10_nextRule_15 : decode cX10_nextRule 15 = .ok (.arraylength, 1) := by decide +kernel
theorem dX10_nextRule_16 : decode cX10_nextRule 16 = .ok (.if_icmp .lt 5, 3) := by decide +kernel
theorem dX10_nextRule_19 : decode cX10_nextRule 19 = .ok (.aconst_null, 1) := by decide +kernel
theorem dX10_nextRule_20 : decode cX10_nextRule 20 = .ok (.areturn, 1) := by decide +kernel
theorem dX10_nextRule_21 : decode cX10_nextRule 21 = .ok (.aload_n 0, 1) := by decide +kernel
theorem dX10_nextRule_22 : decode cX10_nextRule 22 = .ok (.dup, 1) := by decide +kernel
theorem dX10_nextRule_23 : decode cX10_nextRule 23 = .ok (.getfield 41, 3) := by decide +kernel
theorem dX10_nextRule_26 : decode cX10_nextRule 26 = .ok (.iconst 1, 1) := by decide +kernel
theorem dX10_nextRule_27 : decode cX10_nextRule 27 = .ok (.iadd, 1) := by decide +kernel
theorem dX10_nextRule_28 : decode cX10_nextRule 28 = .ok (.putfield 41, 3) := by decide +kernel
theorem dX10_nextRule_31 : decode cX10_nextRule 31 = .ok (.aload_n 0, 1) := by decide +kernel
theorem dX10_nextRule_32 : decode cX10_nextRule 32 = .ok (.getfield 25, 3) := by decide +kernel
theorem dX10_nextRule_35 : decode cX10_nextRule 35 = .ok (.aload_n 0, 1) := by decide +kernel
theorem dX10_nextRule_36 : decode cX10_nextRule 36 = .ok (.getfield 41, 3) := by decide +kernel
theorem dX10_nextRule_39 : decode cX10_nextRule 39 = .ok (.iconst 1, 1) := by decide +kernel
theorem dX10_nextRule_40 : decode cX10_nextRule 40 = .ok (.isub, 1) := by decide +kernel
theorem dX10_nextRule_41 : decode cX10_nextRule 41 = .ok (.aaload, 1) := by decide +kernel
theorem dX10_nextRule_42 : decode cX10_nextRule 42 = .ok (.areturn, 1) := by decide +kernel
theorem dX10_say_0 : decode cX10_say 0 = .ok (.aload_n 0, 1) := by decide +kernel
theorem dX10_say_1 : decode cX10_say 1 = .ok (.getfield 14, 3) := by decide +kernel
theorem dX10_say_4 : decode cX10_say 4 = .ok (.iload_n 2, 1) := by decide +kernel
theorem dX10_say_5 : decode cX10_say 5 = .ok (.invokevirtual 44, 3) := by decide +kernel
theorem dX10_say_8 : decode cX10_say 8 = .ok (.ifCond .eq 12, 3) := by decide +kernel
theorem dX10_say_11 : decode cX10_say 11 = .ok (.aload_n 0, 1) := by decide +kernel
theorem dX10_say_12 : decode cX10_say 12 = .ok (.aload_n 1, 1) := by decide +kernel
theorem dX10_say_13 : decode cX10_say 13 = .ok (.iload_n 2, 1) := by decide +kernel
theorem dX10_say_14 : decode cX10_say 14 = .ok (.invokevirtual 48, 3) := by decide +kernel
theorem dX10_say_17 : decode cX10_say 17 = .ok (.goto 4, 3) := by decide +kernel
theorem dX10_say_20 : decode cX10_say 20 = .ok (.iconst (-1), 1) := by decide +kernel
theorem dX10_say_21 : decode cX10_say 21 = .ok (.istore_n 3, 1) := by decide +kernel
theorem dX10_say_22 : decode cX10_say 22 = .ok (.iload_n 3, 1) := by decide +kernel
theorem dX10_say_23 : decode cX10_say 23 = .ok (.ifCond .lt 12, 3) := by decide +kernel
theorem dX10_say_26 : decode cX10_say 26 = .ok (.iload_n 3, 1) := by decide +kernel
theorem dX10_say_27 : decode cX10_say 27 = .ok (.aload_n 0, 1) := by decide +kernel
theorem dX10_say_28 : decode cX10_say 28 = .ok (.getfield 25, 3) := by decide +kernel
theorem dX10_say_31 : decode cX10_say 31 = .ok (.arraylength, 1) := by decide +kernel
theorem dX10_say_32 : decode cX10_say 32 = .ok (.if_icmp .lt 10, 3) := by decide +kernel
theorem dX10_say_35 : decode cX10_say 35 = .ok (.aload_n 1, 1) := by decide +kernel
theorem dX10_say_36 : decode cX10_say 36 = .ok (.iconst (-1), 1) := by decide +kernel
theorem dX10_say_37 : decode cX10_say 37 = .ok (.putfield 52, 3) := by decide +kernel
theorem dX10_say_40 : decode cX10_say 40 = .ok (.iconst (-1), 1) := by decide +kernel
theorem dX10_say_41 : decode cX10_say 41 = .ok (.ireturn, 1) := by decide +kernel
theorem dX10_say_42 : decode cX10_say 42 = .ok (.aload_n 0, 1) := by decide +kernel
theorem dX10_say_43 : decode cX10_say 43 = .ok (.getfield 25, 3) := by decide +kernel
theorem dX10_say_46 : decode cX10_say 46 = .ok (.iload_n 3, 1) := by decide +kernel
theorem dX10_say_47 : decode cX10_say 47 = .ok (.aaload, 1) := by decide +kernel
theorem dX10_say_48 : decode cX10_say 48 = .ok (.astore 4, 2) := by decide +kernel
theorem dX10_say_50 : decode cX10_say 50 = .ok (.aload_n 0, 1) := by decide +kernel
theorem dX10_say_51 : decode cX10_say 51 = .ok (.aload 4, 2) := by decide +kernel
theorem dX10_say_53 : decode cX10_say 53 = .ok (.aload_n 1, 1) := by decide +kernel
theorem dX10_say_54 : decode cX10_say 54 = .ok (.invokevirtual 57, 3) := by decide +kernel
theorem dX10_say_57 : decode cX10_say 57 = .ok (.istore 5, 2) := by decide +kernel
theorem dX10_say_59 : decode cX10_say 59 = .ok (.iload 5, 2) := by decide +kernel
theorem dX10_say_61 : decode cX10_say 61 = .ok (.ifCond .eq 8, 3) := by decide +kernel
theorem dX10_say_64 : decode cX10_say 64 = .ok (.iconst (-1), 1) := by decide +kernel
theorem dX10_say_65 : decode cX10_say 65 = .ok (.iload 5, 2) := by decide +kernel
theorem dX10_say_67 : decode cX10_say 67 = .ok (.isub, 1) := by decide +kernel
theorem dX10_say_68 : decode cX10_say 68 = .ok (.ireturn, 1) := by decide +kernel
theorem dX10_say_69 : decode cX10_say 69 = .ok (.aload 4, 2) := by decide +kernel
theorem dX10_say_71 : decode cX10_say 71 = .ok (.getfield 61, 3) := by decide +kernel
theorem dX10_say_74 : decode cX10_say 74 = .ok (.iconst (-1), 1) := by decide +kernel
theorem dX10_say_75 : decode cX10_say 75 = .ok (.if_icmp .eq 12, 3) := by decide +kernel
theorem dX10_say_78 : decode cX10_say 78 = .ok (.aload_n 1, 1) := by decide +kernel
theorem dX10_say_79 : decode cX10_say 79 = .ok (.aload 4, 2) := by decide +kernel
theorem dX10_say_81 : decode cX10_say 81 = .ok (.getfield 61, 3) := by decide +kernel
theorem dX10_say_84 : decode cX10_say 84 = .ok (.putfield 64, 3) := by decide +kernel
theorem dX10_say_87 : decode cX10_say 87 = .ok (.aload_n 1, 1) := by decide +kernel
theorem dX10_say_88 : decode cX10_say 88 = .ok (.aload 4, 2) := by decide +kernel
theorem dX10_say_90 : decode cX10_say 90 = .ok (.getfield 67, 3) := by decide +kernel
theorem dX10_say_93 : decode cX10_say 93 = .ok (.putfield 52, 3) := by decide +kernel
theorem dX10_say_96 : decode cX10_say 96 = .ok (.iload_n 3, 1) := by decide +kernel
theorem dX10_say_97 : decode cX10_say 97 = .ok (.ireturn, 1) := by decide +kernel
theorem dX10_firstThatFits_0 : decode cX10_firstThatFits 0 = .ok (.iconst 0, 1) := by decide +kernel
theorem dX10_firstThatFits_1 : decode cX10_firstThatFits 1 = .ok (.istore_n 3, 1) := by decide +kernel
theorem dX10_firstThatFits_2 : decode cX10_firstThatFits 2 = .ok (.iload_n 3, 1) := by decide +kernel
theorem dX10_firstThatFits_3 : decode cX10_firstThatFits 3 = .ok (.aload_n 0, 1) := by decide +kernel
theorem dX10_firstThatFits_4 : decode cX10_firstThatFits 4 = .ok (.getfield 41, 3) := by decide +kernel
theorem dX10_firstThatFits_7 : decode cX10_firstThatFits 7 = .ok (.if_icmp .ge 34, 3) := by decide +kernel
theorem dX10_firstThatFits_10 : decode cX10_firstThatFits 10 = .ok (.iload_n 3, 1) := by decide +kernel
theorem dX10_firstThatFits_11 : decode cX10_firstThatFits 11 = .ok (.aload_n 0, 1) := by decide +kernel
theorem dX10_firstThatFits_12 : decode cX10_firstThatFits 12 = .ok (.getfield 25, 3) := by decide +kernel
theorem dX10_firstThatFits_15 : decode cX10_firstThatFits 15 = .ok (.arraylength, 1) := by decide +kernel
theorem dX10_firstThatFits_16 : decode cX10_firstThatFits 16 = .ok (.if_icmp .ge 25, 3) := by decide +kernel
theorem dX10_firstThatFits_19 : decode cX10_firstThatFits 19 = .ok (.aload_n 0, 1) := by decide +kernel
theorem dX10_firstThatFits_20 : decode cX10_firstThatFits 20 = .ok (.getfield 25, 3) := by decide +kernel
theorem dX10_firstThatFits_23 : decode cX10_firstThatFits 23 = .ok (.iload_n 3, 1) := by decide +kernel
theorem dX10_firstThatFits_24 : decode cX10_firstThatFits 24 = .ok (.aaload, 1) := by decide +kernel
theorem dX10_firstThatFits_25 : decode cX10_firstThatFits 25 = .ok (.aload_n 1, 1) := by decide +kernel
theorem dX10_firstThatFits_26 : decode cX10_firstThatFits 26 = .ok (.iload_n 2, 1) := by decide +kernel
theorem dX10_firstThatFits_27 : decode cX10_firstThatFits 27 = .ok (.invokevirtual 70, 3) := by decide +kernel
theorem dX10_firstThatFits_30 : decode cX10_firstThatFits 30 = .ok (.ifCond .eq 5, 3) := by decide +kernel
theorem dX10_firstThatFits_33 : decode cX10_firstThatFits 33 = .ok (.iload_n 3, 1) := by decide +kernel
theorem dX10_firstThatFits_34 : decode cX10_firstThatFits 34 = .ok (.ireturn, 1) := by decide +kernel
theorem dX10_firstThatFits_35 : decode cX10_firstThatFits 35 = .ok (.iinc 3 1, 3) := by decide +kernel
theorem dX10_firstThatFits_38 : decode cX10_firstThatFits 38 = .ok (.goto (-36), 3) := by decide +kernel
theorem dX10_firstThatFits_41 : decode cX10_firstThatFits 41 = .ok (.iconst (-1), 1) := by decide +kernel
theorem dX10_firstThatFits_42 : decode cX10_firstThatFits 42 = .ok (.ireturn, 1) := by decide +kernel
theorem dX10_act_0 : decode cX10_act 0 = .ok (.aload_n 1, 1) := by decide +kernel
theorem dX10_act_1 : decode cX10_act 1 = .ok (.getfield 74, 3) := by decide +kernel
theorem dX10_act_4 : decode cX10_act 4 = .ok (.tableswitch 143 1 6 #[40, 63, 70, 89, 101, 133], 40) := by decide +kernel
theorem dX10_act_44 : decode cX10_act 44 = .ok (.aload_n 2, 1) := by decide +kernel
theorem dX10_act_45 : decode cX10_act 45 = .ok (.aload_n 1, 1) := by decide +kernel
theorem dX10_act_46 : decode cX10_act 46 = .ok (.getfield 76, 3) := by decide +kernel
theorem dX10_act_49 : decode cX10_act 49 = .ok (.aload_n 2, 1) := by decide +kernel
theorem dX10_act_50 : decode cX10_act 50 = .ok (.aload_n 1, 1) := by decide +kernel
theorem dX10_act_51 : decode cX10_act 51 = .ok (.getfield 76, 3) := by decide +kernel
theorem dX10_act_54 : decode cX10_act 54 = .ok (.invokevirtual 79, 3) := by decide +kernel
theorem dX10_act_57 : decode cX10_act 57 = .ok (.aload_n 1, 1) := by decide +kernel
theorem dX10_act_58 : decode cX10_act 58 = .ok (.getfield 83, 3) := by decide +kernel
theorem dX10_act_61 : decode cX10_act 61 = .ok (.iadd, 1) := by decide +kernel
theorem dX10_act_62 : decode cX10_act 62 = .ok (.invokevirtual 86, 3) := by decide +kernel
theorem dX10_act_65 : decode cX10_act 65 = .ok (.iconst 0, 1) := by decide +kernel
theorem dX10_act_66 : decode cX10_act 66 = .ok (.ireturn, 1) := by decide +kernel
theorem dX10_act_67 : decode cX10_act 67 = .ok (.aload_n 0, 1) := by decide +kernel
theorem dX10_act_68 : decode cX10_act 68 = .ok (.aload_n 1, 1) := by decide +kernel
theorem dX10_act_69 : decode cX10_act 69 = .ok (.aload_n 2, 1) := by decide +kernel
theorem dX10_act_70 : decode cX10_act 70 = .ok (.invokevirtual 89, 3) := by decide +kernel
theorem dX10_act_73 : decode cX10_act 73 = .ok (.ireturn, 1) := by decide +kernel
theorem dX10_act_74 : decode cX10_act 74 = .ok (.aload_n 0, 1) := by decide +kernel
theorem dX10_act_75 : decode cX10_act 75 = .ok (.aload_n 1, 1) := by decide +kernel
theorem dX10_act_76 : decode cX10_act 76 = .ok (.getfield 76, 3) := by decide +kernel
theorem dX10_act_79 : decode cX10_act 79 = .ok (.iconst 2, 1) := by decide +kernel
theorem dX10_act_80 : decode cX10_act 80 = .ok (.aload_n 2, 1) := by decide +kernel
theorem dX10_act_81 : decode cX10_act 81 = .ok (.aload_n 1, 1) := by decide +kernel
theorem dX10_act_82 : decode cX10_act 82 = .ok (.getfield 83, 3) := by decide +kernel
theorem dX10_act_85 : decode cX10_act 85 = .ok (.invokevirtual 79, 3) := by decide +kernel
theorem dX10_act_88 : decode cX10_act 88 = .ok (.aload_n 2, 1) := by decide +kernel
theorem dX10_act_89 : decode cX10_act 89 = .ok (.invokevirtual 92, 3) := by decide +kernel
theorem dX10_act_92 : decode cX10_act 92 = .ok (.ireturn, 1) := by decide +kernel
theorem dX10_act_93 : decode cX10_act 93 = .ok (.aload_n 0, 1) := by decide +kernel
theorem dX10_act_94 : decode cX10_act 94 = .ok (.aload_n 1, 1) := by decide +kernel
theorem dX10_act_95 : decode cX10_act 95 = .ok (.getfield 76, 3) := by decide +kernel
theorem dX10_act_98 : decode cX10_act 98 = .ok (.iconst 1, 1) := by decide +kernel
theorem dX10_act_99 : decode cX10_act 99 = .ok (.iconst 0, 1) := by decide +kernel
theorem dX10_act_100 : decode cX10_act 100 = .ok (.aload_n 2, 1) := by decide +kernel
theorem dX10_act_101 : decode cX10_act 101 = .ok (.invokevirtual 92, 3) := by decide +kernel
theorem dX10_act_104 : decode cX10_act 104 = .ok (.ireturn, 1) := by decide +kernel
theorem dX10_act_105 : decode cX10_act 105 = .ok (.aload_n 2, 1) := by decide +kernel
theorem dX10_act_106 : decode cX10_act 106 = .ok (.aload_n 2, 1) := by decide +kernel
theorem dX10_act_107 : decode cX10_act 107 = .ok (.getfield 96, 3) := by decide +kernel
theorem dX10_act_110 : decode cX10_act 110 = .ok (.invokestatic 99, 3) := by decide +kernel
theorem dX10_act_113 : decode cX10_act 113 = .ok (.putfield 96, 3) := by decide +kernel
theorem dX10_act_116 : decode cX10_act 116 = .ok (.aload_n 2, 1) := by decide +kernel
theorem dX10_act_117 : decode cX10_act 117 = .ok (.aload_n 1, 1) := by decide +kernel
theorem dX10_act_118 : decode cX10_act 118 = .ok (.getfield 76, 3) := by decide +kernel
theorem dX10_act_121 : decode cX10_act 121 = .ok (.aload_n 2, 1) := by decide +kernel
theorem dX10_act_122 : decode cX10_act 122 = .ok (.getfield 96, 3) := by decide +kernel
theorem dX10_act_125 : decode cX10_act 125 = .ok (.aload_n 1, 1) := by decide +kernel
theorem dX10_act_126 : decode cX10_act 126 = .ok (.getfield 83, 3) := by decide +kernel
theorem dX10_act_129 : decode cX10_act 129 = .ok (.invokestatic 102, 3) := by decide +kernel
theorem dX10_act_132 : decode cX10_act 132 = .ok (.invokevirtual 86, 3) := by decide +kernel
theorem dX10_act_135 : decode cX10_act 135 = .ok (.iconst 0, 1) := by decide +kernel
theorem dX10_act_136 : decode cX10_act 136 = .ok (.ireturn, 1) := by decide +kernel
theorem dX10_act_137 : decode cX10_act 137 = .ok (.aload_n 2, 1) := by decide +kernel
theorem dX10_act_138 : decode cX10_act 138 = .ok (.aload_n 1, 1) := by decide +kernel
theorem dX10_act_139 : decode cX10_act 139 = .ok (.getfield 76, 3) := by decide +kernel
theorem dX10_act_142 : decode cX10_act 142 = .ok (.putfield 106, 3) := by decide +kernel
theorem dX10_act_145 : decode cX10_act 145 = .ok (.iconst 0, 1) := by decide +kernel
theorem dX10_act_146 : decode cX10_act 146 = .ok (.ireturn, 1) := by decide +kernel
theorem dX10_act_147 : decode cX10_act 147 = .ok (.iconst 0, 1) := by decide +kernel
theorem dX10_act_148 : decode cX10_act 148 = .ok (.ireturn, 1) := by decide +kernel
theorem dX10_divide_0 : decode cX10_divide 0 = .ok (.aload_n 2, 1) := by decide +kernel
theorem dX10_divide_1 : decode cX10_divide 1 = .ok (.aload_n 1, 1) := by decide +kernel
theorem dX10_divide_2 : decode cX10_divide 2 = .ok (.getfield 83, 3) := by decide +kernel
theorem dX10_divide_5 : decode cX10_divide 5 = .ok (.invokevirtual 79, 3) := by decide +kernel
theorem dX10_divide_8 : decode cX10_divide 8 = .ok (.istore_n 3, 1) := by decide +kernel
theorem dX10_divide_9 : decode cX10_divide 9 = .ok (.iload_n 3, 1) := by decide +kernel
theorem dX10_divide_10 : decode cX10_divide 10 = .ok (.ifCond .ne 5, 3) := by decide +kernel
theorem dX10_divide_13 : decode cX10_divide 13 = .ok (.iconst 4, 1) := by decide +kernel
theorem dX10_divide_14 : decode cX10_divide 14 = .ok (.ireturn, 1) := by decide +kernel
theorem dX10_divide_15 : decode cX10_divide 15 = .ok (.aload_n 2, 1) := by decide +kernel
theorem dX10_divide_16 : decode cX10_divide 16 = .ok (.aload_n 1, 1) := by decide +kernel
theorem dX10_divide_17 : decode cX10_divide 17 = .ok (.getfield 76, 3) := by decide +kernel
theorem dX10_divide_20 : decode cX10_divide 20 = .ok (.bipush 12, 2) := by decide +kernel
theorem dX10_divide_22 : decode cX10_divide 22 = .ok (.iload_n 3, 1) := by decide +kernel
theorem dX10_divide_23 : decode cX10_divide 23 = .ok (.idiv, 1) := by decide +kernel
theorem dX10_divide_24 : decode cX10_divide 24 = .ok (.invokevirtual 86, 3) := by decide +kernel
theorem dX10_divide_27 : decode cX10_divide 27 = .ok (.iconst 0, 1) := by decide +kernel
theorem dX10_divide_28 : decode cX10_divide 28 = .ok (.ireturn, 1) := by decide +kernel
theorem dX10_takeItem_0 : decode cX10_takeItem 0 = .ok (.iload_n 1, 1) := by decide +kernel
theorem dX10_takeItem_1 : decode cX10_takeItem 1 = .ok (.ifCond .lt 12, 3) := by decide +kernel
theorem dX10_takeItem_4 : decode cX10_takeItem 4 = .ok (.iload_n 1, 1) := by decide +kernel
theorem dX10_takeItem_5 : decode cX10_takeItem 5 = .ok (.aload_n 0, 1) := by decide +kernel
theorem dX10_takeItem_6 : decode cX10_takeItem 6 = .ok (.getfield 31, 3) := by decide +kernel
theorem dX10_takeItem_9 : decode cX10_takeItem 9 = .ok (.arraylength, 1) := by decide +kernel
theorem dX10_takeItem_10 : decode cX10_takeItem 10 = .ok (.if_icmp .lt 5, 3) := by decide +kernel
theorem dX10_takeItem_13 : decode cX10_takeItem 13 = .ok (.iconst 1, 1) := by decide +kernel
theorem dX10_takeItem_14 : decode cX10_takeItem 14 = .ok (.ireturn, 1) := by decide +kernel
theorem dX10_takeItem_15 : decode cX10_takeItem 15 = .ok (.aload_n 0, 1) := by decide +kernel
theorem dX10_takeItem_16 : decode cX10_takeItem 16 = .ok (.getfield 31, 3) := by decide +kernel
theorem dX10_takeItem_19 : decode cX10_takeItem 19 = .ok (.iload_n 1, 1) := by decide +kernel
theorem dX10_takeItem_20 : decode cX10_takeItem 20 = .ok (.aaload, 1) := by decide +kernel
theorem dX10_takeItem_21 : decode cX10_takeItem 21 = .ok (.iload_n 2, 1) := by decide +kernel
theorem dX10_takeItem_22 : decode cX10_takeItem 22 = .ok (.iload_n 3, 1) := by decide +kernel
theorem dX10_takeItem_23 : decode cX10_takeItem 23 = .ok (.invokevirtual 109, 3) := by decide +kernel
theorem dX10_takeItem_26 : decode cX10_takeItem 26 = .ok (.istore 5, 2) := by decide +kernel
theorem dX10_takeItem_28 : decode cX10_takeItem 28 = .ok (.iload 5, 2) := by decide +kernel
theorem dX10_takeItem_30 : decode cX10_takeItem 30 = .ok (.ifCond .ne 20, 3) := by decide +kernel
theorem dX10_takeItem_33 : decode cX10_takeItem 33 = .ok (.aload 4, 2) := by decide +kernel
theorem dX10_takeItem_35 : decode cX10_takeItem 35 = .ok (.bipush 7, 2) := by decide +kernel
theorem dX10_takeItem_37 : decode cX10_takeItem 37 = .ok (.aload_n 0, 1) := by decide +kernel
theorem dX10_takeItem_38 : decode cX10_takeItem 38 = .ok (.getfield 31, 3) := by decide +kernel
theorem dX10_takeItem_41 : decode cX10_takeItem 41 = .ok (.iload_n 1, 1) := by decide +kernel
theorem dX10_takeItem_42 : decode cX10_takeItem 42 = .ok (.aaload, 1) := by decide +kernel
theorem dX10_takeItem_43 : decode cX10_takeItem 43 = .ok (.iload_n 3, 1) := by decide +kernel
theorem dX10_takeItem_44 : decode cX10_takeItem 44 = .ok (.invokevirtual 112, 3) := by decide +kernel
theorem dX10_takeItem_47 : decode cX10_takeItem 47 = .ok (.invokevirtual 86, 3) := by decide +kernel
theorem dX10_takeItem_50 : decode cX10_takeItem 50 = .ok (.iload 5, 2) := by decide +kernel
theorem dX10_takeItem_52 : decode cX10_takeItem 52 = .ok (.ireturn, 1) := by decide +kernel
theorem dX10_nextSeed_0 : decode cX10_nextSeed 0 = .ok (.iload_n 0, 1) := by decide +kernel
theorem dX10_nextSeed_1 : decode cX10_nextSeed 1 = .ok (.ldc 115, 2) := by decide +kernel
theorem dX10_nextSeed_3 : decode cX10_nextSeed 3 = .ok (.imul, 1) := by decide +kernel
theorem dX10_nextSeed_4 : decode cX10_nextSeed 4 = .ok (.sipush 12345, 3) := by decide +kernel
theorem dX10_nextSeed_7 : decode cX10_nextSeed 7 = .ok (.iadd, 1) := by decide +kernel
theorem dX10_nextSeed_8 : decode cX10_nextSeed 8 = .ok (.ireturn, 1) := by decide +kernel
theorem dX10_drawn_0 : decode cX10_drawn 0 = .ok (.iload_n 1, 1) := by decide +kernel
theorem dX10_drawn_1 : decode cX10_drawn 1 = .ok (.iconst 1, 1) := by decide +kernel
theorem dX10_drawn_2 : decode cX10_drawn 2 = .ok (.if_icmp .ge 7, 3) := by decide +kernel
theorem dX10_drawn_5 : decode cX10_drawn 5 = .ok (.iconst 0, 1) := by decide +kernel
theorem dX10_drawn_6 : decode cX10_drawn 6 = .ok (.goto 13, 3) := by decide +kernel
theorem dX10_drawn_9 : decode cX10_drawn 9 = .ok (.iload_n 0, 1) := by decide +kernel
theorem dX10_drawn_10 : decode cX10_drawn 10 = .ok (.bipush 16, 2) := by decide +kernel
theorem dX10_drawn_12 : decode cX10_drawn 12 = .ok (.iushr, 1) := by decide +kernel
theorem dX10_drawn_13 : decode cX10_drawn 13 = .ok (.sipush 32767, 3) := by decide +kernel
theorem dX10_drawn_16 : decode cX10_drawn 16 = .ok (.iand, 1) := by decide +kernel
theorem dX10_drawn_17 : decode cX10_drawn 17 = .ok (.iload_n 1, 1) := by decide +kernel
theorem dX10_drawn_18 : decode cX10_drawn 18 = .ok (.irem, 1) := by decide +kernel
theorem dX10_drawn_19 : decode cX10_drawn 19 = .ok (.ireturn, 1) := by decide +kernel
theorem dX10_textLength_0 : decode cX10_textLength 0 = .ok (.iload_n 1, 1) := by decide +kernel
theorem dX10_textLength_1 : decode cX10_textLength 1 = .ok (.iconst (-1), 1) := by decide +kernel
theorem dX10_textLength_2 : decode cX10_textLength 2 = .ok (.if_icmp .ne 7, 3) := by decide +kernel
theorem dX10_textLength_5 : decode cX10_textLength 5 = .ok (.iconst 1, 1) := by decide +kernel
theorem dX10_textLength_6 : decode cX10_textLength 6 = .ok (.goto 11, 3) := by decide +kernel
theorem dX10_textLength_9 : decode cX10_textLength 9 = .ok (.aload_n 0, 1) := by decide +kernel
theorem dX10_textLength_10 : decode cX10_textLength 10 = .ok (.getfield 20, 3) := by decide +kernel
theorem dX10_textLength_13 : decode cX10_textLength 13 = .ok (.iload_n 1, 1) := by decide +kernel
theorem dX10_textLength_14 : decode cX10_textLength 14 = .ok (.invokevirtual 116, 3) := by decide +kernel
theorem dX10_textLength_17 : decode cX10_textLength 17 = .ok (.ireturn, 1) := by decide +kernel
theorem dX10_textSign_0 : decode cX10_textSign 0 = .ok (.iload_n 1, 1) := by decide +kernel
theorem dX10_textSign_1 : decode cX10_textSign 1 = .ok (.iconst (-1), 1) := by decide +kernel
theorem dX10_textSign_2 : decode cX10_textSign 2 = .ok (.if_icmp .ne 8, 3) := by decide +kernel
theorem dX10_textSign_5 : decode cX10_textSign 5 = .ok (.bipush 63, 2) := by decide +kernel
theorem dX10_textSign_7 : decode cX10_textSign 7 = .ok (.goto 12, 3) := by decide +kernel
theorem dX10_textSign_10 : decode cX10_textSign 10 = .ok (.aload_n 0, 1) := by decide +kernel
theorem dX10_textSign_11 : decode cX10_textSign 11 = .ok (.getfield 20, 3) := by decide +kernel
theorem dX10_textSign_14 : decode cX10_textSign 14 = .ok (.iload_n 1, 1) := by decide +kernel
theorem dX10_textSign_15 : decode cX10_textSign 15 = .ok (.iload_n 2, 1) := by decide +kernel
theorem dX10_textSign_16 : decode cX10_textSign 16 = .ok (.invokevirtual 119, 3) := by decide +kernel
theorem dX10_textSign_19 : decode cX10_textSign 19 = .ok (.ireturn, 1) := by decide +kernel
theorem dX10_textStands_0 : decode cX10_textStands 0 = .ok (.iload_n 1, 1) := by decide +kernel
theorem dX10_textStands_1 : decode cX10_textStands 1 = .ok (.iconst (-1), 1) := by decide +kernel
theorem dX10_textStands_2 : decode cX10_textStands 2 = .ok (.if_icmp .ne 27, 3) := by decide +kernel
theorem dX10_textStands_5 : decode cX10_textStands 5 = .ok (.iload 4, 2) := by decide +kernel
theorem dX10_textStands_7 : decode cX10_textStands 7 = .ok (.iload_n 3, 1) := by decide +kernel
theorem dX10_textStands_8 : decode cX10_textStands 8 = .ok (.isub, 1) := by decide +kernel
theorem dX10_textStands_9 : decode cX10_textStands 9 = .ok (.iconst 1, 1) := by decide +kernel
theorem dX10_textStands_10 : decode cX10_textStands 10 = .ok (.if_icmp .ne 17, 3) := by decide +kernel
theorem dX10_textStands_13 : decode cX10_textStands 13 = .ok (.aload_n 2, 1) := by decide +kernel
theorem dX10_textStands_14 : decode cX10_textStands 14 = .ok (.iload_n 3, 1) := by decide +kernel
theorem dX10_textStands_15 : decode cX10_textStands 15 = .ok (.invokevirtual 122, 3) := by decide +kernel
theorem dX10_textStands_18 : decode cX10_textStands 18 = .ok (.bipush 63, 2) := by decide +kernel
theorem dX10_textStands_20 : decode cX10_textStands 20 = .ok (.if_icmp .ne 7, 3) := by decide +kernel
theorem dX10_textStands_23 : decode cX10_textStands 23 = .ok (.iconst 1, 1) := by decide +kernel
theorem dX10_textStands_24 : decode cX10_textStands 24 = .ok (.goto 4, 3) := by decide +kernel
theorem dX10_textStands_27 : decode cX10_textStands 27 = .ok (.iconst 0, 1) := by decide +kernel
theorem dX10_textStands_28 : decode cX10_textStands 28 = .ok (.ireturn, 1) := by decide +kernel
theorem dX10_textStands_29 : decode cX10_textStands 29 = .ok (.aload_n 0, 1) := by decide +kernel
theorem dX10_textStands_30 : decode cX10_textStands 30 = .ok (.getfield 20, 3) := by decide +kernel
theorem dX10_textStands_33 : decode cX10_textStands 33 = .ok (.iload_n 1, 1) := by decide +kernel
theorem dX10_textStands_34 : decode cX10_textStands 34 = .ok (.aload_n 2, 1) := by decide +kernel
theorem dX10_textStands_35 : decode cX10_textStands 35 = .ok (.iload_n 3, 1) := by decide +kernel
theorem dX10_textStands_36 : decode cX10_textStands 36 = .ok (.iload 4, 2) := by decide +kernel
theorem dX10_textStands_38 : decode cX10_textStands 38 = .ok (.invokevirtual 127, 3) := by decide +kernel
theorem dX10_textStands_41 : decode cX10_textStands 41 = .ok (.ireturn, 1) := by decide +kernel
theorem dX11_init_0 : decode cX11_init 0 = .ok (.aload_n 0, 1) := by decide +kernel
theorem dX11_init_1 : decode cX11_init 1 = .ok (.invokespecial 1, 3) := by decide +kernel
theorem dX11_init_4 : decode cX11_init 4 = .ok (.aload_n 0, 1) := by decide +kernel
theorem dX11_init_5 : decode cX11_init 5 = .ok (.new 7, 3) := by decide +kernel
theorem dX11_init_8 : decode cX11_init 8 = .ok (.dup, 1) := by decide +kernel
theorem dX11_init_9 : decode cX11_init 9 = .ok (.sipush 600, 3) := by decide +kernel
theorem dX11_init_12 : decode cX11_init 12 = .ok (.invokespecial 11, 3) := by decide +kernel
theorem dX11_init_15 : decode cX11_init 15 = .ok (.putfield 14, 3) := by decide +kernel
theorem dX11_init_18 : decode cX11_init 18 = .ok (.aload_n 0, 1) := by decide +kernel
theorem dX11_init_19 : decode cX11_init 19 = .ok (.bipush 10, 2) := by decide +kernel
theorem dX11_init_21 : decode cX11_init 21 = .ok (.anewarray 7, 3) := by decide +kernel
theorem dX11_init_24 : decode cX11_init 24 = .ok (.putfield 18, 3) := by decide +kernel
theorem dX11_init_27 : decode cX11_init 27 = .ok (.aload_n 0, 1) := by decide +kernel
theorem dX11_init_28 : decode cX11_init 28 = .ok (.new 22, 3) := by decide +kernel
theorem dX11_init_31 : decode cX11_init 31 = .ok (.dup, 1) := by decide +kernel
theorem dX11_init_32 : decode cX11_init 32 = .ok (.iload_n 1, 1) := by decide +kernel
theorem dX11_init_33 : decode cX11_init 33 = .ok (.invokespecial 24, 3) := by decide +kernel
theorem dX11_init_36 : decode cX11_init 36 = .ok (.putfield 25, 3) := by decide +kernel
theorem dX11_init_39 : decode cX11_init 39 = .ok (.aload_n 0, 1) := by decide +kernel
theorem dX11_init_40 : decode cX11_init 40 = .ok (.new 29, 3) := by decide +kernel
theorem dX11_init_43 : decode cX11_init 43 = .ok (.dup, 1) := by decide +kernel
theorem dX11_init_44 : decode cX11_init 44 = .ok (.aload_n 0, 1) := by decide +kernel
theorem dX11_init_45 : decode cX11_init 45 = .ok (.getfield 25, 3) := by decide +kernel
theorem dX11_init_48 : decode cX11_init 48 = .ok (.invokespecial 31, 3) := by decide +kernel
theorem dX11_init_51 : decode cX11_init 51 = .ok (.putfield 34, 3) := by decide +kernel
theorem dX11_init_54 : decode cX11_init 54 = .ok (.aload_n 0, 1) := by decide +kernel
theorem dX11_init_55 : decode cX11_init 55 = .ok (.new 38, 3) := by decide +kernel
theorem dX11_init_58 : decode cX11_init 58 = .ok (.dup, 1) := by decide +kernel
theorem dX11_init_59 : decode cX11_init 59 = .ok (.aload_n 0, 1) := by decide +kernel
theorem dX11_init_60 : decode cX11_init 60 = .ok (.getfield 25, 3) := by decide +kernel
theorem dX11_init_63 : decode cX11_init 63 = .ok (.aload_n 0, 1) := by decide +kernel
theorem dX11_init_64 : decode cX11_init 64 = .ok (.getfield 34, 3) := by decide +kernel
theorem dX11_init_67 : decode cX11_init 67 = .ok (.invokespecial 40, 3) := by decide +kernel
theorem dX11_init_70 : decode cX11_init 70 = .ok (.putfield 43, 3) := by decide +kernel
theorem dX11_init_73 : decode cX11_init 73 = .ok (.aload_n 0, 1) := by decide +kernel
theorem dX11_init_74 : decode cX11_init 74 = .ok (.new 47, 3) := by decide +kernel
theorem dX11_init_77 : decode cX11_init 77 = .ok (.dup, 1) := by decide +kernel
theorem dX11_init_78 : decode cX11_init 78 = .ok (.aload_n 0, 1) := by decide +kernel
theorem dX11_init_79 : decode cX11_init 79 = .ok (.getfield 25, 3) := by decide +kernel
theorem dX11_init_82 : decode cX11_init 82 = .ok (.aload_n 0, 1) := by decide +kernel
theorem dX11_init_83 : decode cX11_init 83 = .ok (.getfield 34, 3) := by decide +kernel
theorem dX11_init_86 : decode cX11_init 86 = .ok (.invokespecial 49, 3) := by decide +kernel
theorem dX11_init_89 : decode cX11_init 89 = .ok (.putfield 50, 3) := by decide +kernel
theorem dX11_init_92 : decode cX11_init 92 = .ok (.return_, 1) := by decide +kernel
theorem dX11_feed_0 : decode cX11_feed 0 = .ok (.iload_n 3, 1) := by decide +kernel
theorem dX11_feed_1 : decode cX11_feed 1 = .ok (.iconst 1, 1) := by decide +kernel
theorem dX11_feed_2 : decode cX11_feed 2 = .ok (.if_icmp .lt 9, 3) := by decide +kernel
theorem dX11_feed_5 : decode cX11_feed 5 = .ok (.iload_n 3, 1) := by decide +kernel
theorem dX11_feed_6 : decode cX11_feed 6 = .ok (.bipush 8, 2) := by decide +kernel
theorem dX11_feed_8 : decode cX11_feed 8 = .ok (.if_icmp .le 6, 3) := by decide +kernel
theorem dX11_feed_11 : decode cX11_feed 11 = .ok (.bipush (-3), 2) := by decide +kernel
theorem dX11_feed_13 : decode cX11_feed 13 = .ok (.ireturn, 1) := by decide +kernel
theorem dX11_feed_14 : decode cX11_feed 14 = .ok (.aload_n 0, 1) := by decide +kernel
theorem dX11_feed_15 : decode cX11_feed 15 = .ok (.getfield 14, 3) := by decide +kernel
theorem dX11_feed_18 : decode cX11_feed 18 = .ok (.getfield 54, 3) := by decide +kernel
theorem dX11_feed_21 : decode cX11_feed 21 = .ok (.iload_n 3, 1) := by decide +kernel
theorem dX11_feed_22 : decode cX11_feed 22 = .ok (.iadd, 1) := by decide +kernel
theorem dX11_feed_23 : decode cX11_feed 23 = .ok (.sipush 600, 3) := by decide +kernel
theorem dX11_feed_26 : decode cX11_feed 26 = .ok (.if_icmp .le 6, 3) := by decide +kernel
theorem dX11_feed_29 : decode cX11_feed 29 = .ok (.bipush (-5), 2) := by decide +kernel
theorem dX11_feed_31 : decode cX11_feed 31 = .ok (.ireturn, 1) := by decide +kernel
theorem dX11_feed_32 : decode cX11_feed 32 = .ok (.iload_n 3, 1) := by decide +kernel
theorem dX11_feed_33 : decode cX11_feed 33 = .ok (.iconst 1, 1) := by decide +kernel
theorem dX11_feed_34 : decode cX11_feed 34 = .ok (.isub, 1) := by decide +kernel
theorem dX11_feed_35 : decode cX11_feed 35 = .ok (.istore 4, 2) := by decide +kernel
theorem dX11_feed_37 : decode cX11_feed 37 = .ok (.iload 4, 2) := by decide +kernel
theorem dX11_feed_39 : decode cX11_feed 39 = .ok (.ifCond .lt 28, 3) := by decide +kernel
theorem dX11_feed_42 : decode cX11_feed 42 = .ok (.aload_n 0, 1) := by decide +kernel
theorem dX11_feed_43 : decode cX11_feed 43 = .ok (.getfield 14, 3) := by decide +kernel
theorem dX11_feed_46 : decode cX11_feed 46 = .ok (.lload_n 1, 1) := by decide +kernel
theorem dX11_feed_47 : decode cX11_feed 47 = .ok (.bipush 8, 2) := by decide +kernel
theorem dX11_feed_49 : decode cX11_feed 49 = .ok (.iload 4, 2) := by decide +kernel
theorem dX11_feed_51 : decode cX11_feed 51 = .ok (.imul, 1) := by decide +kernel
theorem dX11_feed_52 : decode cX11_feed 52 = .ok (.lushr, 1) := by decide +kernel
theorem dX11_feed_53 : decode cX11_feed 53 = .ok (.l2i, 1) := by decide +kernel
theorem dX11_feed_54 : decode cX11_feed 54 = .ok (.sipush 255, 3) := by decide +kernel
theorem dX11_feed_57 : decode cX11_feed 57 = .ok (.iand, 1) := by decide +kernel
theorem dX11_feed_58 : decode cX11_feed 58 = .ok (.invokevirtual 58, 3) := by decide +kernel
theorem dX11_feed_61 : decode cX11_feed 61 = .ok (.iinc 4 (-1), 3) := by decide +kernel
theorem dX11_feed_64 : decode cX11_feed 64 = .ok (.goto (-27), 3) := by decide +kernel
theorem dX11_feed_67 : decode cX11_feed 67 = .ok (.aload_n 0, 1) := by decide +kernel
theorem dX11_feed_68 : decode cX11_feed 68 = .ok (.getfield 14, 3) := by decide +kernel
theorem dX11_feed_71 : decode cX11_feed 71 = .ok (.getfield 54, 3) := by decide +kernel
theorem dX11_feed_74 : decode cX11_feed 74 = .ok (.ireturn, 1) := by decide +kernel
theorem dX11_word_0 : decode cX11_word 0 = .ok (.aload_n 0, 1) := by decide +kernel
theorem dX11_word_1 : decode cX11_word 1 = .ok (.invokevirtual 61, 3) := by decide +kernel
theorem dX11_word_4 : decode cX11_word 4 = .ok (.istore_n 1, 1) := by decide +kernel
theorem dX11_word_5 : decode cX11_word 5 = .ok (.aload_n 0, 1) := by decide +kernel
theorem dX11_word_6 : decode cX11_word 6 = .ok (.getfield 14, 3) := by decide +kernel
theorem dX11_word_9 : decode cX11_word 9 = .ok (.invokevirtual 65, 3) := by decide +kernel
theorem dX11_word_12 : decode cX11_word 12 = .ok (.iload_n 1, 1) := by decide +kernel
theorem dX11_word_13 : decode cX11_word 13 = .ok (.ireturn, 1) := by decide +kernel
theorem dX11_addWord_0 : decode cX11_addWord 0 = .ok (.aload_n 0, 1) := by decide +kernel
theorem dX11_addWord_1 : decode cX11_addWord 1 = .ok (.getfield 14, 3) := by decide +kernel
theorem dX11_addWord_4 : decode cX11_addWord 4 = .ok (.iconst 0, 1) := by decide +kernel
theorem dX11_addWord_5 : decode cX11_addWord 5 = .ok (.invokestatic 68, 3) := by decide +kernel
theorem dX11_addWord_8 : decode cX11_addWord 8 = .ok (.aload_n 0, 1) := by decide +kernel
theorem dX11_addWord_9 : decode cX11_addWord 9 = .ok (.getfield 14, 3) := by decide +kernel
theorem dX11_addWord_12 : decode cX11_addWord 12 = .ok (.getfield 54, 3) := by decide +kernel
theorem dX11_addWord_15 : decode cX11_addWord 15 = .ok (.if_icmp .eq 6, 3) := by decide +kernel
theorem dX11_addWord_18 : decode cX11_addWord 18 = .ok (.bipush (-3), 2) := by decide +kernel
theorem dX11_addWord_20 : decode cX11_addWord 20 = .ok (.ireturn, 1) := by decide +kernel
theorem dX11_addWord_21 : decode cX11_addWord 21 = .ok (.aload_n 0, 1) := by decide +kernel
theorem dX11_addWord_22 : decode cX11_addWord 22 = .ok (.getfield 25, 3) := by decide +kernel
theorem dX11_addWord_25 : decode cX11_addWord 25 = .ok (.getfield 74, 3) := by decide +kernel
theorem dX11_addWord_28 : decode cX11_addWord 28 = .ok (.aload_n 0, 1) := by decide +kernel
theorem dX11_addWord_29 : decode cX11_addWord 29 = .ok (.getfield 14, 3) := by decide +kernel
theorem dX11_addWord_32 : decode cX11_addWord 32 = .ok (.iconst 0, 1) := by decide +kernel
theorem dX11_addWord_33 : decode cX11_addWord 33 = .ok (.aload_n 0, 1) := by decide +kernel
theorem dX11_addWord_34 : decode cX11_addWord 34 = .ok (.getfield 14, 3) := by decide +kernel
theorem dX11_addWord_37 : decode cX11_addWord 37 = .ok (.getfield 54, 3) := by decide +kernel
theorem dX11_addWord_40 : decode cX11_addWord 40 = .ok (.invokevirtual 78, 3) := by decide +kernel
theorem dX11_addWord_43 : decode cX11_addWord 43 = .ok (.istore_n 1, 1) := by decide +kernel
theorem dX11_addWord_44 : decode cX11_addWord 44 = .ok (.iload_n 1, 1) := by decide +kernel
theorem dX11_addWord_45 : decode cX11_addWord 45 = .ok (.iconst (-1), 1) := by decide +kernel
theorem dX11_addWord_46 : decode cX11_addWord 46 = .ok (.if_icmp .eq 7, 3) := by decide +kernel
theorem dX11_addWord_49 : decode cX11_addWord 49 = .ok (.iload_n 1, 1) := by decide +kernel
theorem dX11_addWord_50 : decode cX11_addWord 50 = .ok (.goto 17, 3) := by decide +kernel
theorem dX11_addWord_53 : decode cX11_addWord 53 = .ok (.aload_n 0, 1) := by decide +kernel
theorem dX11_addWord_54 : decode cX11_addWord 54 = .ok (.getfield 25, 3) := by decide +kernel
theorem dX11_addWord_57 : decode cX11_addWord 57 = .ok (.getfield 74, 3) := by decide +kernel
theorem dX11_addWord_60 : decode cX11_addWord 60 = .ok (.aload_n 0, 1) := by decide +kernel
theorem dX11_addWord_61 : decode cX11_addWord 61 = .ok (.getfield 14, 3) := by decide +kernel
theorem dX11_addWord_64 : decode cX11_addWord 64 = .ok (.invokevirtual 84, 3) := by decide +kernel
theorem dX11_addWord_67 : decode cX11_addWord 67 = .ok (.ireturn, 1) := by decide +kernel
theorem dX11_text_0 : decode cX11_text 0 = .ok (.aload_n 0, 1) := by decide +kernel
theorem dX11_text_1 : decode cX11_text 1 = .ok (.invokevirtual 87, 3) := by decide +kernel
theorem dX11_text_4 : decode cX11_text 4 = .ok (.istore_n 1, 1) := by decide +kernel
theorem dX11_text_5 : decode cX11_text 5 = .ok (.aload_n 0, 1) := by decide +kernel
theorem dX11_text_6 : decode cX11_text 6 = .ok (.getfield 14, 3) := by decide +kernel
theorem dX11_text_9 : decode cX11_text 9 = .ok (.invokevirtual 65, 3) := by decide +kernel
theorem dX11_text_12 : decode cX11_text 12 = .ok (.iload_n 1, 1) := by decide +kernel
theorem dX11_text_13 : decode cX11_text 13 = .ok (.ireturn, 1) := by decide +kernel
theorem dX11_addText_0 : decode cX11_addText 0 = .ok (.aload_n 0, 1) := by decide +kernel
theorem dX11_addText_1 : decode cX11_addText 1 = .ok (.getfield 14, 3) := by decide +kernel
theorem dX11_addText_4 : decode cX11_addText 4 = .ok (.getfield 54, 3) := by decide +kernel
theorem dX11_addText_7 : decode cX11_addText 7 = .ok (.bipush 20, 2) := by decide +kernel
theorem dX11_addText_9 : decode cX11_addText 9 = .ok (.if_icmp .gt 21, 3) := by decide +kernel
theorem dX11_addText_12 : decode cX11_addText 12 = .ok (.aload_n 0, 1) := by decide +kernel
theorem dX11_addText_13 : decode cX11_addText 13 = .ok (.getfield 14, 3) := by decide +kernel
theorem dX11_addText_16 : decode cX11_addText 16 = .ok (.iconst 0, 1) := by decide +kernel
theorem dX11_addText_17 : decode cX11_addText 17 = .ok (.invokestatic 90, 3) := by decide +kernel
theorem dX11_addText_20 : decode cX11_addText 20 = .ok (.aload_n 0, 1) := by decide +kernel
theorem dX11_addText_21 : decode cX11_addText 21 = .ok (.getfield 14, 3) := by decide +kernel
theorem dX11_addText_24 : decode cX11_addText 24 = .ok (.getfield 54, 3) := by decide +kernel
theorem dX11_addText_27 : decode cX11_addText 27 = .ok (.if_icmp .eq 6, 3) := by decide +kernel
theorem dX11_addText_30 : decode cX11_addText 30 = .ok (.bipush (-3), 2) := by decide +kernel
theorem dX11_addText_32 : decode cX11_addText 32 = .ok (.ireturn, 1) := by decide +kernel
theorem dX11_addText_33 : decode cX11_addText 33 = .ok (.aload_n 0, 1) := by decide +kernel
theorem dX11_addText_34 : decode cX11_addText 34 = .ok (.getfield 25, 3) := by decide +kernel
theorem dX11_addText_37 : decode cX11_addText 37 = .ok (.getfield 93, 3) := by decide +kernel
theorem dX11_addText_40 : decode cX11_addText 40 = .ok (.aload_n 0, 1) := by decide +kernel
theorem dX11_addText_41 : decode cX11_addText 41 = .ok (.getfield 14, 3) := by decide +kernel
theorem dX11_addText_44 : decode cX11_addText 44 = .ok (.invokevirtual 84, 3) := by decide +kernel
theorem dX11_addText_47 : decode cX11_addText 47 = .ok (.ireturn, 1) := by decide +kernel
theorem dX11_rule_0 : decode cX11_rule 0 = .ok (.aload_n 0, 1) := by decide +kernel
theorem dX11_rule_1 : decode cX11_rule 1 = .ok (.getfield 25, 3) := by decide +kernel
theorem dX11_rule_4 : decode cX11_rule 4 = .ok (.getfield 74, 3) := by decide +kernel
theorem dX11_rule_7 : decode cX11_rule 7 = .ok (.iload_n 2, 1) := by decide +kernel
theorem dX11_rule_8 : decode cX11_rule 8 = .ok (.invokevirtual 96, 3) := by decide +kernel
theorem dX11_rule_11 : decode cX11_rule 11 = .ok (.ifCond .eq 18, 3) := by decide +kernel
theorem dX11_rule_14 : decode cX11_rule 14 = .ok (.aload_n 0, 1) := by decide +kernel
theorem dX11_rule_15 : decode cX11_rule 15 = .ok (.getfield 25, 3) := by decide +kernel
theorem dX11_rule_18 : decode cX11_rule 18 = .ok (.getfield 93, 3) := by decide +kernel
theorem dX11_rule_21 : decode cX11_rule 21 = .ok (.iload 8, 2) := by decide +kernel
theorem dX11_rule_23 : decode cX11_rule 23 = .ok (.invokevirtual 96, 3) := by decide +kernel
theorem dX11_rule_26 : decode cX11_rule 26 = .ok (.ifCond .ne 6, 3) := by decide +kernel
theorem dX11_rule_29 : decode cX11_rule 29 = .ok (.bipush (-2), 2) := by decide +kernel
theorem dX11_rule_31 : decode cX11_rule 31 = .ok (.ireturn, 1) := by decide +kernel
theorem dX11_rule_32 : decode cX11_rule 32 = .ok (.iload_n 1, 1) := by decide +kernel
theorem dX11_rule_33 : decode cX11_rule 33 = .ok (.iconst (-1), 1) := by decide +kernel
theorem dX11_rule_34 : decode cX11_rule 34 = .ok (.bipush 7, 2) := by decide +kernel
theorem dX11_rule_36 : decode cX11_rule 36 = .ok (.invokestatic 100, 3) := by decide +kernel
theorem dX11_rule_39 : decode cX11_rule 39 = .ok (.ifCond .eq 24, 3) := by decide +kernel
theorem dX11_rule_42 : decode cX11_rule 42 = .ok (.iload 9, 2) := by decide +kernel
theorem dX11_rule_44 : decode cX11_rule 44 = .ok (.iconst (-1), 1) := by decide +kernel
theorem dX11_rule_45 : decode cX11_rule 45 = .ok (.bipush 7, 2) := by decide +kernel
theorem dX11_rule_47 : decode cX11_rule 47 = .ok (.invokestatic 100, 3) := by decide +kernel
theorem dX11_rule_50 : decode cX11_rule 50 = .ok (.ifCond .eq 13, 3) := by decide +kernel
theorem dX11_rule_53 : decode cX11_rule 53 = .ok (.iload_n 3, 1) := by decide +kernel
theorem dX11_rule_54 : decode cX11_rule 54 = .ok (.iconst (-1), 1) := by decide +kernel
theorem dX11_rule_55 : decode cX11_rule 55 = .ok (.bipush 7, 2) := by decide +kernel
theorem dX11_rule_57 : decode cX11_rule 57 = .ok (.invokestatic 100, 3) := by decide +kernel
theorem dX11_rule_60 : decode cX11_rule 60 = .ok (.ifCond .ne 6, 3) := by decide +kernel
theorem dX11_rule_63 : decode cX11_rule 63 = .ok (.bipush (-3), 2) := by decide +kernel
theorem dX11_rule_65 : decode cX11_rule 65 = .ok (.ireturn, 1) := by decide +kernel
theorem dX11_rule_66 : decode cX11_rule 66 = .ok (.iload 5, 2) := by decide +kernel
theorem dX11_rule_68 : decode cX11_rule 68 = .ok (.iload 6, 2) := by decide +kernel
theorem dX11_rule_70 : decode cX11_rule 70 = .ok (.iload 7, 2) := by decide +kernel
theorem dX11_rule_72 : decode cX11_rule 72 = .ok (.invokestatic 104, 3) := by decide +kernel
theorem dX11_rule_75 : decode cX11_rule 75 = .ok (.ifCond .ne 6, 3) := by decide +kernel
theorem dX11_rule_78 : decode cX11_rule 78 = .ok (.bipush (-3), 2) := by decide +kernel
theorem dX11_rule_80 : decode cX11_rule 80 = .ok (.ireturn, 1) := by decide +kernel
theorem dX11_rule_81 : decode cX11_rule 81 = .ok (.aload_n 0, 1) := by decide +kernel
theorem dX11_rule_82 : decode cX11_rule 82 = .ok (.getfield 25, 3) := by decide +kernel
theorem dX11_rule_85 : decode cX11_rule 85 = .ok (.invokevirtual 107, 3) := by decide +kernel
theorem dX11_rule_88 : decode cX11_rule 88 = .ok (.astore 10, 2) := by decide +kernel
theorem dX11_rule_90 : decode cX11_rule 90 = .ok (.aload 10, 2) := by decide +kernel
theorem dX11_rule_92 : decode cX11_rule 92 = .ok (.ifnonnull 6, 3) := by decide +kernel
theorem dX11_rule_95 : decode cX11_rule 95 = .ok (.bipush (-5), 2) := by decide +kernel
theorem dX11_rule_97 : decode cX11_rule 97 = .ok (.ireturn, 1) := by decide +kernel
theorem dX11_rule_98 : decode cX11_rule 98 = .ok (.aload 10, 2) := by decide +kernel
theorem dX11_rule_100 : decode cX11_rule 100 = .ok (.iload_n 1, 1) := by decide +kernel
theorem dX11_rule_101 : decode cX11_rule 101 = .ok (.putfield 111, 3) := by decide +kernel
theorem dX11_rule_104 : decode cX11_rule 104 = .ok (.aload 10, 2) := by decide +kernel
theorem dX11_rule_106 : decode cX11_rule 106 = .ok (.iload_n 2, 1) := by decide +kernel
theorem dX11_rule_107 : decode cX11_rule 107 = .ok (.putfield 116, 3) := by decide +kernel
theorem dX11_rule_110 : decode cX11_rule 110 = .ok (.aload 10, 2) := by decide +kernel
theorem dX11_rule_112 : decode cX11_rule 112 = .ok (.iload_n 3, 1) := by decide +kernel
theorem dX11_rule_113 : decode cX11_rule 113 = .ok (.putfield 119, 3) := by decide +kernel
theorem dX11_rule_116 : decode cX11_rule 116 = .ok (.aload 10, 2) := by decide +kernel
theorem dX11_rule_118 : decode cX11_rule 118 = .ok (.iload 4, 2) := by decide +kernel
theorem dX11_rule_120 : decode cX11_rule 120 = .ok (.putfield 122, 3) := by decide +kernel
theorem dX11_rule_123 : decode cX11_rule 123 = .ok (.aload 10, 2) := by decide +kernel
theorem dX11_rule_125 : decode cX11_rule 125 = .ok (.iload 5, 2) := by decide +kernel
theorem dX11_rule_127 : decode cX11_rule 127 = .ok (.putfield 125, 3) := by decide +kernel
theorem dX11_rule_130 : decode cX11_rule 130 = .ok (.aload 10, 2) := by decide +kernel
theorem dX11_rule_132 : decode cX11_rule 132 = .ok (.iload 6, 2) := by decide +kernel
theorem dX11_rule_134 : decode cX11_rule 134 = .ok (.putfield 128, 3) := by decide +kernel
theorem dX11_rule_137 : decode cX11_rule 137 = .ok (.aload 10, 2) := by decide +kernel
theorem dX11_rule_139 : decode cX11_rule 139 = .ok (.iload 7, 2) := by decide +kernel
theorem dX11_rule_141 : decode cX11_rule 141 = .ok (.putfield 131, 3) := by decide +kernel
theorem dX11_rule_144 : decode cX11_rule 144 = .ok (.aload 10, 2) := by decide +kernel
theorem dX11_rule_146 : decode cX11_rule 146 = .ok (.iload 8, 2) := by decide +kernel
theorem dX11_rule_148 : decode cX11_rule 148 = .ok (.putfield 134, 3) := by decide +kernel
theorem dX11_rule_151 : decode cX11_rule 151 = .ok (.aload 10, 2) := by decide +kernel
theorem dX11_rule_153 : decode cX11_rule 153 = .ok (.iload 9, 2) := by decide +kernel
theorem dX11_rule_155 : decode cX11_rule 155 = .ok (.putfield 137, 3) := by decide +kernel
theorem dX11_rule_158 : decode cX11_rule 158 = .ok (.aload_n 0, 1) := by decide +kernel
theorem dX11_rule_159 : decode cX11_rule 159 = .ok (.getfield 25, 3) := by decide +kernel
theorem dX11_rule_162 : decode cX11_rule 162 = .ok (.getfield 140, 3) := by decide +kernel
theorem dX11_rule_165 : decode cX11_rule 165 = .ok (.iconst 1, 1) := by decide +kernel
theorem dX11_rule_166 : decode cX11_rule 166 = .ok (.isub, 1) := by decide +kernel
theorem dX11_rule_167 : decode cX11_rule 167 = .ok (.ireturn, 1) := by decide +kernel
theorem dX11_actWants_0 : decode cX11_actWants 0 = .ok (.iload_n 0, 1) := by decide +kernel
theorem dX11_actWants_1 : decode cX11_actWants 1 = .ok (.tableswitch 166 0 6 #[43, 45, 74, 100, 125, 132, 158], 43) := by decide +kernel
theorem dX11_actWants_44 : decode cX11_actWants 44 = .ok (.iconst 1, 1) := by decide +kernel
theorem dX11_actWants_45 : decode cX11_actWants 45 = .ok (.ireturn, 1) := by decide +kernel
theorem dX11_actWants_46 : decode cX11_actWants 46 = .ok (.iload_n 1, 1) := by decide +kernel
theorem dX11_actWants_47 : decode cX11_actWants 47 = .ok (.iconst 0, 1) := by decide +kernel
theorem dX11_actWants_48 : decode cX11_actWants 48 = .ok (.bipush 7, 2) := by decide +kernel
theorem dX11_actWants_50 : decode cX11_actWants 50 = .ok (.invokestatic 100, 3) := by decide +kernel
theorem dX11_actWants_53 : decode cX11_actWants 53 = .ok (.ifCond .eq 20, 3) := by decide +kernel
theorem dX11_actWants_56 : decode cX11_actWants 56 = .ok (.iload_n 2, 1) := by decide +kernel
theorem dX11_actWants_57 : decode cX11_actWants 57 = .ok (.sipush (-1000), 3) := by decide +kernel
theorem dX11_actWants_60 : decode cX11_actWants 60 = .ok (.sipush 1000, 3) := by decide +kernel
theorem dX11_actWants_63 : decode cX11_actWants 63 = .ok (.invokestatic 100, 3) := by decide +kernel
theorem dX11_actWants_66 : decode cX11_actWants 66 = .ok (.ifCond .eq 7, 3) := by decide +kernel
theorem dX11_actWants_69 : decode cX11_actWants 69 = .ok (.iconst 1, 1) := by decide +kernel
theorem dX11_actWants_70 : decode cX11_actWants 70 = .ok (.goto 4, 3) := by decide +kernel
theorem dX11_actWants_73 : decode cX11_actWants 73 = .ok (.iconst 0, 1) := by decide +kernel
theorem dX11_actWants_74 : decode cX11_actWants 74 = .ok (.ireturn, 1) := by decide +kernel
theorem dX11_actWants_75 : decode cX11_actWants 75 = .ok (.iload_n 1, 1) := by decide +kernel
theorem dX11_actWants_76 : decode cX11_actWants 76 = .ok (.iconst 0, 1) := by decide +kernel
theorem dX11_actWants_77 : decode cX11_actWants 77 = .ok (.bipush 7, 2) := by decide +kernel
theorem dX11_actWants_79 : decode cX11_actWants 79 = .ok (.invokestatic 100, 3) := by decide +kernel
theorem dX11_actWants_82 : decode cX11_actWants 82 = .ok (.ifCond .eq 17, 3) := by decide +kernel
theorem dX11_actWants_85 : decode cX11_actWants 85 = .ok (.iload_n 2, 1) := by decide +kernel
theorem dX11_actWants_86 : decode cX11_actWants 86 = .ok (.iconst 0, 1) := by decide +kernel
theorem dX11_actWants_87 : decode cX11_actWants 87 = .ok (.bipush 7, 2) := by decide +kernel
theorem dX11_actWants_89 : decode cX11_actWants 89 = .ok (.invokestatic 100, 3) := by decide +kernel
theorem dX11_actWants_92 : decode cX11_actWants 92 = .ok (.ifCond .eq 7, 3) := by decide +kernel
theorem dX11_actWants_95 : decode cX11_actWants 95 = .ok (.iconst 1, 1) := by decide +kernel
theorem dX11_actWants_96 : decode cX11_actWants 96 = .ok (.goto 4, 3) := by decide +kernel
theorem dX11_actWants_99 : decode cX11_actWants 99 = .ok (.iconst 0, 1) := by decide +kernel
theorem dX11_actWants_100 : decode cX11_actWants 100 = .ok (.ireturn, 1) := by decide +kernel
theorem dX11_actWants_101 : decode cX11_actWants 101 = .ok (.iload_n 1, 1) := by decide +kernel
theorem dX11_actWants_102 : decode cX11_actWants 102 = .ok (.iconst 0, 1) := by decide +kernel
theorem dX11_actWants_103 : decode cX11_actWants 103 = .ok (.iconst 3, 1) := by decide +kernel
theorem dX11_actWants_104 : decode cX11_actWants 104 = .ok (.invokestatic 100, 3) := by decide +kernel
theorem dX11_actWants_107 : decode cX11_actWants 107 = .ok (.ifCond .eq 17, 3) := by decide +kernel
theorem dX11_actWants_110 : decode cX11_actWants 110 = .ok (.iload_n 2, 1) := by decide +kernel
theorem dX11_actWants_111 : decode cX11_actWants 111 = .ok (.iconst 0, 1) := by decide +kernel
theorem dX11_actWants_112 : decode cX11_actWants 112 = .ok (.bipush 7, 2) := by decide +kernel
theorem dX11_actWants_114 : decode cX11_actWants 114 = .ok (.invokestatic 100, 3) := by decide +kernel
theorem dX11_actWants_117 : decode cX11_actWants 117 = .ok (.ifCond .eq 7, 3) := by decide +kernel
theorem dX11_actWants_120 : decode cX11_actWants 120 = .ok (.iconst 1, 1) := by decide +kernel
theorem dX11_actWants_121 : decode cX11_actWants 121 = .ok (.goto 4, 3) := by decide +kernel
theorem dX11_actWants_124 : decode cX11_actWants 124 = .ok (.iconst 0, 1) := by decide +kernel
theorem dX11_actWants_125 : decode cX11_actWants 125 = .ok (.ireturn, 1) := by decide +kernel
theorem dX11_actWants_126 : decode cX11_actWants 126 = .ok (.iload_n 1, 1) := by decide +kernel
theorem dX11_actWants_127 : decode cX11_actWants 127 = .ok (.iconst 0, 1) := by decide +kernel
theorem dX11_actWants_128 : decode cX11_actWants 128 = .ok (.iconst 3, 1) := by decide +kernel
theorem dX11_actWants_129 : decode cX11_actWants 129 = .ok (.invokestatic 100, 3) := by decide +kernel
theorem dX11_actWants_132 : decode cX11_actWants 132 = .ok (.ireturn, 1) := by decide +kernel
theorem dX11_actWants_133 : decode cX11_actWants 133 = .ok (.iload_n 1, 1) := by decide +kernel
theorem dX11_actWants_134 : decode cX11_actWants 134 = .ok (.iconst 0, 1) := by decide +kernel
theorem dX11_actWants_135 : decode cX11_actWants 135 = .ok (.bipush 7, 2) := by decide +kernel
theorem dX11_actWants_137 : decode cX11_actWants 137 = .ok (.invokestatic 100, 3) := by decide +kernel
theorem dX11_actWants_140 : decode cX11_actWants 140 = .ok (.ifCond .eq 17, 3) := by decide +kernel
theorem dX11_actWants_143 : decode cX11_actWants 143 = .ok (.iload_n 2, 1) := by decide +kernel
theorem dX11_actWants_144 : decode cX11_actWants 144 = .ok (.iconst 1, 1) := by decide +kernel
theorem dX11_actWants_145 : decode cX11_actWants 145 = .ok (.bipush 100, 2) := by decide +kernel
theorem dX11_actWants_147 : decode cX11_actWants 147 = .ok (.invokestatic 100, 3) := by decide +kernel
theorem dX11_actWants_150 : decode cX11_actWants 150 = .ok (.ifCond .eq 7, 3) := by decide +kernel
theorem dX11_actWants_153 : decode cX11_actWants 153 = .ok (.iconst 1, 1) := by decide +kernel
theorem dX11_actWants_154 : decode cX11_actWants 154 = .ok (.goto 4, 3) := by decide +kernel
theorem dX11_actWants_157 : decode cX11_actWants 157 = .ok (.iconst 0, 1) := by decide +kernel
theorem dX11_actWants_158 : decode cX11_actWants 158 = .ok (.ireturn, 1) := by decide +kernel
theorem dX11_actWants_159 : decode cX11_actWants 159 = .ok (.iload_n 1, 1) := by decide +kernel
theorem dX11_actWants_160 : decode cX11_actWants 160 = .ok (.iconst 1, 1) := by decide +kernel
theorem dX11_actWants_161 : decode cX11_actWants 161 = .ok (.bipush 9, 2) := by decide +kernel
theorem dX11_actWants_163 : decode cX11_actWants 163 = .ok (.invokestatic 100, 3) := by decide +kernel
theorem dX11_actWants_166 : decode cX11_actWants 166 = .ok (.ireturn, 1) := by decide +kernel
theorem dX11_actWants_167 : decode cX11_actWants 167 = .ok (.iconst 0, 1) := by decide +kernel
theorem dX11_actWants_168 : decode cX11_actWants 168 = .ok (.ireturn, 1) := by decide +kernel
theorem dX11_inside_0 : decode cX11_inside 0 = .ok (.iload_n 0, 1) := by decide +kernel
theorem dX11_inside_1 : decode cX11_inside 1 = .ok (.iload_n 1, 1) := by decide +kernel
theorem dX11_inside_2 : decode cX11_inside 2 = .ok (.if_icmp .lt 12, 3) := by decide +kernel
theorem dX11_inside_5 : decode cX11_inside 5 = .ok (.iload_n 0, 1) := by decide +kernel
theorem dX11_inside_6 : decode cX11_inside 6 = .ok (.iload_n 2, 1) := by decide +kernel
theorem dX11_inside_7 : decode cX11_inside 7 = .ok (.if_icmp .gt 7, 3) := by decide +kernel
theorem dX11_inside_10 : decode cX11_inside 10 = .ok (.iconst 1, 1) := by decide +kernel
theorem dX11_inside_11 : decode cX11_inside 11 = .ok (.goto 4, 3) := by decide +kernel
theorem dX11_inside_14 : decode cX11_inside 14 = .ok (.iconst 0, 1) := by decide +kernel
theorem dX11_inside_15 : decode cX11_inside 15 = .ok (.ireturn, 1) := by decide +kernel
theorem dX11_holder_0 : decode cX11_holder 0 = .ok (.iload_n 1, 1) := by decide +kernel
theorem dX11_holder_1 : decode cX11_holder 1 = .ok (.iconst 0, 1) := by decide +kernel
theorem dX11_holder_2 : decode cX11_holder 2 = .ok (.iconst 3, 1) := by decide +kernel
theorem dX11_holder_3 : decode cX11_holder 3 = .ok (.invokestatic 100, 3) := by decide +kernel
theorem dX11_holder_6 : decode cX11_holder 6 = .ok (.ifCond .ne 6, 3) := by decide +kernel
theorem dX11_holder_9 : decode cX11_holder 9 = .ok (.bipush (-2), 2) := by decide +kernel
theorem dX11_holder_11 : decode cX11_holder 11 = .ok (.ireturn, 1) := by decide +kernel
theorem dX11_holder_12 : decode cX11_holder 12 = .ok (.iload_n 2, 1) := by decide +kernel
theorem dX11_holder_13 : decode cX11_holder 13 = .ok (.iconst 0, 1) := by decide +kernel
theorem dX11_holder_14 : decode cX11_holder 14 = .ok (.iconst 2, 1) := by decide +kernel
theorem dX11_holder_15 : decode cX11_holder 15 = .ok (.invokestatic 100, 3) := by decide +kernel
theorem dX11_holder_18 : decode cX11_holder 18 = .ok (.ifCond .ne 6, 3) := by decide +kernel
theorem dX11_holder_21 : decode cX11_holder 21 = .ok (.bipush (-3), 2) := by decide +kernel
theorem dX11_holder_23 : decode cX11_holder 23 = .ok (.ireturn, 1) := by decide +kernel
theorem dX11_holder_24 : decode cX11_holder 24 = .ok (.iload_n 2, 1) := by decide +kernel
theorem dX11_holder_25 : decode cX11_holder 25 = .ok (.iconst 2, 1) := by decide +kernel
theorem dX11_holder_26 : decode cX11_holder 26 = .ok (.if_icmp .ne 15, 3) := by decide +kernel
theorem dX11_holder_29 : decode cX11_holder 29 = .ok (.iload_n 3, 1) := by decide +kernel
theorem dX11_holder_30 : decode cX11_holder 30 = .ok (.iconst 1, 1) := by decide +kernel
theorem dX11_holder_31 : decode cX11_holder 31 = .ok (.iconst 4, 1) := by decide +kernel
theorem dX11_holder_32 : decode cX11_holder 32 = .ok (.invokestatic 100, 3) := by decide +kernel
theorem dX11_holder_35 : decode cX11_holder 35 = .ok (.ifCond .ne 6, 3) := by decide +kernel
theorem dX11_holder_38 : decode cX11_holder 38 = .ok (.bipush (-3), 2) := by decide +kernel
theorem dX11_holder_40 : decode cX11_holder 40 = .ok (.ireturn, 1) := by decide +kernel
theorem dX11_holder_41 : decode cX11_holder 41 = .ok (.aload_n 0, 1) := by decide +kernel
theorem dX11_holder_42 : decode cX11_holder 42 = .ok (.getfield 25, 3) := by decide +kernel
theorem dX11_holder_45 : decode cX11_holder 45 = .ok (.getfield 143, 3) := by decide +kernel
theorem dX11_holder_48 : decode cX11_holder 48 = .ok (.iload_n 1, 1) := by decide +kernel
theorem dX11_holder_49 : decode cX11_holder 49 = .ok (.aaload, 1) := by decide +kernel
theorem dX11_holder_50 : decode cX11_holder 50 = .ok (.iload_n 2, 1) := by decide +kernel
theorem dX11_holder_51 : decode cX11_holder 51 = .ok (.iload_n 2, 1) := by decide +kernel
theorem dX11_holder_52 : decode cX11_holder 52 = .ok (.iconst 2, 1) := by decide +kernel
theorem dX11_holder_53 : decode cX11_holder 53 = .ok (.if_icmp .ne 7, 3) := by decide +kernel
theorem dX11_holder_56 : decode cX11_holder 56 = .ok (.iload_n 3, 1) := by decide +kernel
theorem dX11_holder_57 : decode cX11_holder 57 = .ok (.goto 4, 3) := by decide +kernel
theorem dX11_holder_60 : decode cX11_holder 60 = .ok (.iconst 1, 1) := by decide +kernel
theorem dX11_holder_61 : decode cX11_holder 61 = .ok (.iload 4, 2) := by decide +kernel
theorem dX11_holder_63 : decode cX11_holder 63 = .ok (.invokevirtual 147, 3) := by decide +kernel
theorem dX11_holder_66 : decode cX11_holder 66 = .ok (.iconst 1, 1) := by decide +kernel
theorem dX11_holder_67 : decode cX11_holder 67 = .ok (.ireturn, 1) := by decide +kernel
theorem dX11_seed_0 : decode cX11_seed 0 = .ok (.aload_n 0, 1) := by decide +kernel
theorem dX11_seed_1 : decode cX11_seed 1 = .ok (.getfield 25, 3) := by decide +kernel
theorem dX11_seed_4 : decode cX11_seed 4 = .ok (.getfield 153, 3) := by decide +kernel
theorem dX11_seed_7 : decode cX11_seed 7 = .ok (.istore_n 2, 1) := by decide +kernel
theorem dX11_seed_8 : decode cX11_seed 8 = .ok (.aload_n 0, 1) := by decide +kernel
theorem dX11_seed_9 : decode cX11_seed 9 = .ok (.getfield 25, 3) := by decide +kernel
theorem dX11_seed_12 : decode cX11_seed 12 = .ok (.iload_n 1, 1) := by decide +kernel
theorem dX11_seed_13 : decode cX11_seed 13 = .ok (.putfield 153, 3) := by decide +kernel
theorem dX11_seed_16 : decode cX11_seed 16 = .ok (.iload_n 2, 1) := by decide +kernel
theorem dX11_seed_17 : decode cX11_seed 17 = .ok (.ireturn, 1) := by decide +kernel
theorem dX11_script_0 : decode cX11_script 0 = .ok (.aload_n 0, 1) := by decide +kernel
theorem dX11_script_1 : decode cX11_script 1 = .ok (.invokevirtual 156, 3) := by decide +kernel
theorem dX11_script_4 : decode cX11_script 4 = .ok (.istore_n 1, 1) := by decide +kernel
theorem dX11_script_5 : decode cX11_script 5 = .ok (.aload_n 0, 1) := by decide +kernel
theorem dX11_script_6 : decode cX11_script 6 = .ok (.getfield 14, 3) := by decide +kernel
theorem dX11_script_9 : decode cX11_script 9 = .ok (.invokevirtual 65, 3) := by decide +kernel
theorem dX11_script_12 : decode cX11_script 12 = .ok (.iload_n 1, 1) := by decide +kernel
theorem dX11_script_13 : decode cX11_script 13 = .ok (.ireturn, 1) := by decide +kernel
theorem dX11_addScript_0 : decode cX11_addScript 0 = .ok (.aload_n 0, 1) := by decide +kernel
theorem dX11_addScript_1 : decode cX11_addScript 1 = .ok (.getfield 159, 3) := by decide +kernel
theorem dX11_addScript_4 : decode cX11_addScript 4 = .ok (.ifCond .lt 15, 3) := by decide +kernel
theorem dX11_addScript_7 : decode cX11_addScript 7 = .ok (.aload_n 0, 1) := by decide +kernel
theorem dX11_addScript_8 : decode cX11_addScript 8 = .ok (.getfield 159, 3) := by decide +kernel
theorem dX11_addScript_11 : decode cX11_addScript 11 = .ok (.aload_n 0, 1) := by decide +kernel
theorem dX11_addScript_12 : decode cX11_addScript 12 = .ok (.getfield 18, 3) := by decide +kernel
theorem dX11_addScript_15 : decode cX11_addScript 15 = .ok (.arraylength, 1) := by decide +kernel
theorem dX11_addScript_16 : decode cX11_addScript 16 = .ok (.if_icmp .lt 6, 3) := by decide +kernel
theorem dX11_addScript_19 : decode cX11_addScript 19 = .ok (.bipush (-5), 2) := by decide +kernel
theorem dX11_addScript_21 : decode cX11_addScript 21 = .ok (.ireturn, 1) := by decide +kernel
theorem dX11_addScript_22 : decode cX11_addScript 22 = .ok (.aload_n 0, 1) := by decide +kernel
theorem dX11_addScript_23 : decode cX11_addScript 23 = .ok (.getfield 14, 3) := by decide +kernel
theorem dX11_addScript_26 : decode cX11_addScript 26 = .ok (.invokestatic 162, 3) := by decide +kernel
theorem dX11_addScript_29 : decode cX11_addScript 29 = .ok (.istore_n 1, 1) := by decide +kernel
theorem dX11_addScript_30 : decode cX11_addScript 30 = .ok (.iload_n 1, 1) := by decide +kernel
theorem dX11_addScript_31 : decode cX11_addScript 31 = .ok (.iconst (-1), 1) := by decide +kernel
theorem dX11_addScript_32 : decode cX11_addScript 32 = .ok (.if_icmp .eq 8, 3) := by decide +kernel
theorem dX11_addScript_35 : decode cX11_addScript 35 = .ok (.bipush (-10), 2) := by decide +kernel
theorem dX11_addScript_37 : decode cX11_addScript 37 = .ok (.iload_n 1, 1) := by decide +kernel
theorem dX11_addScript_38 : decode cX11_addScript 38 = .ok (.isub, 1) := by decide +kernel
theorem dX11_addScript_39 : decode cX11_addScript 39 = .ok (.ireturn, 1) := by decide +kernel
theorem dX11_addScript_40 : decode cX11_addScript 40 = .ok (.aload_n 0, 1) := by decide +kernel
theorem dX11_addScript_41 : decode cX11_addScript 41 = .ok (.getfield 18, 3) := by decide +kernel
theorem dX11_addScript_44 : decode cX11_addScript 44 = .ok (.aload_n 0, 1) := by decide +kernel
theorem dX11_addScript_45 : decode cX11_addScript 45 = .ok (.getfield 159, 3) := by decide +kernel
theorem dX11_addScript_48 : decode cX11_addScript 48 = .ok (.aload_n 0, 1) := by decide +kernel
theorem dX11_addScript_49 : decode cX11_addScript 49 = .ok (.getfield 14, 3) := by decide +kernel
theorem dX11_addScript_52 : decode cX11_addScript 52 = .ok (.invokevirtual 165, 3) := by decide +kernel
theorem dX11_addScript_55 : decode cX11_addScript 55 = .ok (.aastore, 1) := by decide +kernel
theorem dX11_addScript_56 : decode cX11_addScript 56 = .ok (.aload_n 0, 1) := by decide +kernel
theorem dX11_addScript_57 : decode cX11_addScript 57 = .ok (.dup, 1) := by decide +kernel
theorem dX11_addScript_58 : decode cX11_addScript 58 = .ok (.getfield 159, 3) := by decide +kernel
theorem dX11_addScript_61 : decode cX11_addScript 61 = .ok (.iconst 1, 1) := by decide +kernel
theorem dX11_addScript_62 : decode cX11_addScript 62 = .ok (.iadd, 1) := by decide +kernel
theorem dX11_addScript_63 : decode cX11_addScript 63 = .ok (.putfield 159, 3) := by decide +kernel
theorem dX11_addScript_66 : decode cX11_addScript 66 = .ok (.aload_n 0, 1) := by decide +kernel
theorem dX11_addScript_67 : decode cX11_addScript 67 = .ok (.getfield 159, 3) := by decide +kernel
theorem dX11_addScript_70 : decode cX11_addScript 70 = .ok (.iconst 1, 1) := by decide +kernel
theorem dX11_addScript_71 : decode cX11_addScript 71 = .ok (.isub, 1) := by decide +kernel
theorem dX11_addScript_72 : decode cX11_addScript 72 = .ok (.ireturn, 1) := by decide +kernel
theorem dX11_run_0 : decode cX11_run 0 = .ok (.iload_n 1, 1) := by decide +kernel
theorem dX11_run_1 : decode cX11_run 1 = .ok (.iconst 0, 1) := by decide +kernel
theorem dX11_run_2 : decode cX11_run 2 = .ok (.aload_n 0, 1) := by decide +kernel
theorem dX11_run_3 : decode cX11_run 3 = .ok (.getfield 159, 3) := by decide +kernel
theorem dX11_run_6 : decode cX11_run 6 = .ok (.iconst 1, 1) := by decide +kernel
theorem dX11_run_7 : decode cX11_run 7 = .ok (.isub, 1) := by decide +kernel
theorem dX11_run_8 : decode cX11_run 8 = .ok (.invokestatic 100, 3) := by decide +kernel
theorem dX11_run_11 : decode cX11_run 11 = .ok (.ifCond .ne 6, 3) := by decide +kernel
theorem dX11_run_14 : decode cX11_run 14 = .ok (.bipush (-2), 2) := by decide +kernel
theorem dX11_run_16 : decode cX11_run 16 = .ok (.ireturn, 1) := by decide +kernel
theorem dX11_run_17 : decode cX11_run 17 = .ok (.aload_n 0, 1) := by decide +kernel
theorem dX11_run_18 : decode cX11_run 18 = .ok (.getfield 18, 3) := by decide +kernel
theorem dX11_run_21 : decode cX11_run 21 = .ok (.iload_n 1, 1) := by decide +kernel
theorem dX11_run_22 : decode cX11_run 22 = .ok (.aaload, 1) := by decide +kernel
theorem dX11_run_23 : decode cX11_run 23 = .ok (.astore_n 2, 1) := by decide +kernel
theorem dX11_run_24 : decode cX11_run 24 = .ok (.aload_n 2, 1) := by decide +kernel
theorem dX11_run_25 : decode cX11_run 25 = .ok (.ifnonnull 8, 3) := by decide +kernel
theorem dX11_run_28 : decode cX11_run 28 = .ok (.bipush (-2), 2) := by decide +kernel
theorem dX11_run_30 : decode cX11_run 30 = .ok (.goto 11, 3) := by decide +kernel
theorem dX11_run_33 : decode cX11_run 33 = .ok (.aload_n 0, 1) := by decide +kernel
theorem dX11_run_34 : decode cX11_run 34 = .ok (.getfield 43, 3) := by decide +kernel
theorem dX11_run_37 : decode cX11_run 37 = .ok (.aload_n 2, 1) := by decide +kernel
theorem dX11_run_38 : decode cX11_run 38 = .ok (.invokevirtual 169, 3) := by decide +kernel
theorem dX11_run_41 : decode cX11_run 41 = .ok (.ireturn, 1) := by decide +kernel
theorem dX11_failed_0 : decode cX11_failed 0 = .ok (.iload_n 1, 1) := by decide +kernel
theorem dX11_failed_1 : decode cX11_failed 1 = .ok (.iconst 0, 1) := by decide +kernel
theorem dX11_failed_2 : decode cX11_failed 2 = .ok (.aload_n 0, 1) := by decide +kernel
theorem dX11_failed_3 : decode cX11_failed 3 = .ok (.getfield 43, 3) := by decide +kernel
theorem dX11_failed_6 : decode cX11_failed 6 = .ok (.getfield 172, 3) := by decide +kernel
theorem dX11_failed_9 : decode cX11_failed 9 = .ok (.iconst 1, 1) := by decide +kernel
theorem dX11_failed_10 : decode cX11_failed 10 = .ok (.isub, 1) := by decide +kernel
theorem dX11_failed_11 : decode cX11_failed 11 = .ok (.invokestatic 100, 3) := by decide +kernel
theorem dX11_failed_14 : decode cX11_failed 14 = .ok (.ifCond .ne 6, 3) := by decide +kernel
theorem dX11_failed_17 : decode cX11_failed 17 = .ok (.bipush (-2), 2) := by decide +kernel
theorem dX11_failed_19 : decode cX11_failed 19 = .ok (.ireturn, 1) := by decide +kernel
theorem dX11_failed_20 : decode cX11_failed 20 = .ok (.iload_n 2, 1) := by decide +kernel
theorem dX11_failed_21 : decode cX11_failed 21 = .ok (.iconst 0, 1) := by decide +kernel
theorem dX11_failed_22 : decode cX11_failed 22 = .ok (.iconst 1, 1) := by decide +kernel
theorem dX11_failed_23 : decode cX11_failed 23 = .ok (.invokestatic 100, 3) := by decide +kernel
theorem dX11_failed_26 : decode cX11_failed 26 = .ok (.ifCond .ne 6, 3) := by decide +kernel
theorem dX11_failed_29 : decode cX11_failed 29 = .ok (.bipush (-3), 2) := by decide +kernel
theorem dX11_failed_31 : decode cX11_failed 31 = .ok (.ireturn, 1) := by decide +kernel
theorem dX11_failed_32 : decode cX11_failed 32 = .ok (.iload_n 2, 1) := by decide +kernel
theorem dX11_failed_33 : decode cX11_failed 33 = .ok (.ifCond .ne 15, 3) := by decide +kernel
theorem dX11_failed_36 : decode cX11_failed 36 = .ok (.aload_n 0, 1) := by decide +kernel
theorem dX11_failed_37 : decode cX11_failed 37 = .ok (.getfield 43, 3) := by decide +kernel
theorem dX11_failed_40 : decode cX11_failed 40 = .ok (.getfield 175, 3) := by decide +kernel
theorem dX11_failed_43 : decode cX11_failed 43 = .ok (.iload_n 1, 1) := by decide +kernel
theorem dX11_failed_44 : decode cX11_failed 44 = .ok (.iaload, 1) := by decide +kernel
theorem dX11_failed_45 : decode cX11_failed 45 = .ok (.goto 12, 3) := by decide +kernel
theorem dX11_failed_48 : decode cX11_failed 48 = .ok (.aload_n 0, 1) := by decide +kernel
theorem dX11_failed_49 : decode cX11_failed 49 = .ok (.getfield 43, 3) := by decide +kernel
theorem dX11_failed_52 : decode cX11_failed 52 = .ok (.getfield 179, 3) := by decide +kernel
theorem dX11_failed_55 : decode cX11_failed 55 = .ok (.iload_n 1, 1) := by decide +kernel
theorem dX11_failed_56 : decode cX11_failed 56 = .ok (.iaload, 1) := by decide +kernel
theorem dX11_failed_57 : decode cX11_failed 57 = .ok (.ireturn, 1) := by decide +kernel
theorem dX11_replay_0 : decode cX11_replay 0 = .ok (.aload_n 0, 1) := by decide +kernel
theorem dX11_replay_1 : decode cX11_replay 1 = .ok (.getfield 14, 3) := by decide +kernel
theorem dX11_replay_4 : decode cX11_replay 4 = .ok (.invokestatic 182, 3) := by decide +kernel
theorem dX11_replay_7 : decode cX11_replay 7 = .ok (.istore_n 1, 1) := by decide +kernel
theorem dX11_replay_8 : decode cX11_replay 8 = .ok (.iload_n 1, 1) := by decide +kernel
theorem dX11_replay_9 : decode cX11_replay 9 = .ok (.iconst (-1), 1) := by decide +kernel
theorem dX11_replay_10 : decode cX11_replay 10 = .ok (.if_icmp .eq 10, 3) := by decide +kernel
theorem dX11_replay_13 : decode cX11_replay 13 = .ok (.bipush (-10), 2) := by decide +kernel
theorem dX11_replay_15 : decode cX11_replay 15 = .ok (.iload_n 1, 1) := by decide +kernel
theorem dX11_replay_16 : decode cX11_replay 16 = .ok (.isub, 1) := by decide +kernel
theorem dX11_replay_17 : decode cX11_replay 17 = .ok (.goto 7, 3) := by decide +kernel
theorem dX11_replay_20 : decode cX11_replay 20 = .ok (.aload_n 0, 1) := by decide +kernel
theorem dX11_replay_21 : decode cX11_replay 21 = .ok (.invokevirtual 185, 3) := by decide +kernel
theorem dX11_replay_24 : decode cX11_replay 24 = .ok (.istore_n 2, 1) := by decide +kernel
theorem dX11_replay_25 : decode cX11_replay 25 = .ok (.aload_n 0, 1) := by decide +kernel
theorem dX11_replay_26 : decode cX11_replay 26 = .ok (.getfield 14, 3) := by decide +kernel
theorem dX11_replay_29 : decode cX11_replay 29 = .ok (.invokevirtual 65, 3) := by decide +kernel
theorem dX11_replay_32 : decode cX11_replay 32 = .ok (.iload_n 2, 1) := by decide +kernel
theorem dX11_replay_33 : decode cX11_replay 33 = .ok (.ireturn, 1) := by decide +kernel
theorem dX11_firstUnlikeLine_0 : decode cX11_firstUnlikeLine 0 = .ok (.aload_n 0, 1) := by decide +kernel
theorem dX11_firstUnlikeLine_1 : decode cX11_firstUnlikeLine 1 = .ok (.getfield 34, 3) := by decide +kernel
theorem dX11_firstUnlikeLine_4 : decode cX11_firstUnlikeLine 4 = .ok (.invokevirtual 188, 3) := by decide +kernel
theorem dX11_firstUnlikeLine_7 : decode cX11_firstUnlikeLine 7 = .ok (.iconst 0, 1) := by decide +kernel
theorem dX11_firstUnlikeLine_8 : decode cX11_firstUnlikeLine 8 = .ok (.istore_n 1, 1) := by decide +kernel
theorem dX11_firstUnlikeLine_9 : decode cX11_firstUnlikeLine 9 = .ok (.iconst 2, 1) := by decide +kernel
theorem dX11_firstUnlikeLine_10 : decode cX11_firstUnlikeLine 10 = .ok (.istore_n 2, 1) := by decide +kernel
theorem dX11_firstUnlikeLine_11 : decode cX11_firstUnlikeLine 11 = .ok (.iload_n 2, 1) := by decide +kernel
theorem dX11_firstUnlikeLine_12 : decode cX11_firstUnlikeLine 12 = .ok (.bipush 40, 2) := by decide +kernel
theorem dX11_firstUnlikeLine_14 : decode cX11_firstUnlikeLine 14 = .ok (.if_icmp .gt 61, 3) := by decide +kernel
theorem dX11_firstUnlikeLine_17 : decode cX11_firstUnlikeLine 17 = .ok (.iload_n 1, 1) := by decide +kernel
theorem dX11_firstUnlikeLine_18 : decode cX11_firstUnlikeLine 18 = .ok (.aload_n 0, 1) := by decide +kernel
theorem dX11_firstUnlikeLine_19 : decode cX11_firstUnlikeLine 19 = .ok (.getfield 14, 3) := by decide +kernel
theorem dX11_firstUnlikeLine_22 : decode cX11_firstUnlikeLine 22 = .ok (.getfield 54, 3) := by decide +kernel
theorem dX11_firstUnlikeLine_25 : decode cX11_firstUnlikeLine 25 = .ok (.if_icmp .ge 50, 3) := by decide +kernel
theorem dX11_firstUnlikeLine_28 : decode cX11_firstUnlikeLine 28 = .ok (.aload_n 0, 1) := by decide +kernel
theorem dX11_firstUnlikeLine_29 : decode cX11_firstUnlikeLine 29 = .ok (.getfield 14, 3) := by decide +kernel
theorem dX11_firstUnlikeLine_32 : decode cX11_firstUnlikeLine 32 = .ok (.iload_n 1, 1) := by decide +kernel
theorem dX11_firstUnlikeLine_33 : decode cX11_firstUnlikeLine 33 = .ok (.invokestatic 191, 3) := by decide +kernel
theorem dX11_firstUnlikeLine_36 : decode cX11_firstUnlikeLine 36 = .ok (.istore_n 3, 1) := by decide +kernel
theorem dX11_firstUnlikeLine_37 : decode cX11_firstUnlikeLine 37 = .ok (.aload_n 0, 1) := by decide +kernel
theorem dX11_firstUnlikeLine_38 : decode cX11_firstUnlikeLine 38 = .ok (.getfield 14, 3) := by decide +kernel
theorem dX11_firstUnlikeLine_41 : decode cX11_firstUnlikeLine 41 = .ok (.iload_n 3, 1) := by decide +kernel
theorem dX11_firstUnlikeLine_42 : decode cX11_firstUnlikeLine 42 = .ok (.iconst 1, 1) := by decide +kernel
theorem dX11_firstUnlikeLine_43 : decode cX11_firstUnlikeLine 43 = .ok (.iadd, 1) := by decide +kernel
theorem dX11_firstUnlikeLine_44 : decode cX11_firstUnlikeLine 44 = .ok (.invokestatic 191, 3) := by decide +kernel
theorem dX11_firstUnlikeLine_47 : decode cX11_firstUnlikeLine 47 = .ok (.istore 4, 2) := by decide +kernel
theorem dX11_firstUnlikeLine_49 : decode cX11_firstUnlikeLine 49 = .ok (.aload_n 0, 1) := by decide +kernel
theorem dX11_firstUnlikeLine_50 : decode cX11_firstUnlikeLine 50 = .ok (.iload_n 1, 1) := by decide +kernel
theorem dX11_firstUnlikeLine_51 : decode cX11_firstUnlikeLine 51 = .ok (.iconst 2, 1) := by decide +kernel
theorem dX11_firstUnlikeLine_52 : decode cX11_firstUnlikeLine 52 = .ok (.iadd, 1) := by decide +kernel
theorem dX11_firstUnlikeLine_53 : decode cX11_firstUnlikeLine 53 = .ok (.iload_n 3, 1) := by decide +kernel
theorem dX11_firstUnlikeLine_54 : decode cX11_firstUnlikeLine 54 = .ok (.iload 4, 2) := by decide +kernel
theorem dX11_firstUnlikeLine_56 : decode cX11_firstUnlikeLine 56 = .ok (.invokevirtual 194, 3) := by decide +kernel
theorem dX11_firstUnlikeLine_59 : decode cX11_firstUnlikeLine 59 = .ok (.ifCond .ne 5, 3) := by decide +kernel
theorem dX11_firstUnlikeLine_62 : decode cX11_firstUnlikeLine 62 = .ok (.iload_n 2, 1) := by decide +kernel
theorem dX11_firstUnlikeLine_63 : decode cX11_firstUnlikeLine 63 = .ok (.ireturn, 1) := by decide +kernel
theorem dX11_firstUnlikeLine_64 : decode cX11_firstUnlikeLine 64 = .ok (.iload 4, 2) := by decide +kernel
theorem dX11_firstUnlikeLine_66 : decode cX11_firstUnlikeLine 66 = .ok (.iconst 1, 1) := by decide +kernel
theorem dX11_firstUnlikeLine_67 : decode cX11_firstUnlikeLine 67 = .ok (.iadd, 1) := by decide +kernel
theorem dX11_firstUnlikeLine_68 : decode cX11_firstUnlikeLine 68 = .ok (.istore_n 1, 1) := by decide +kernel
theorem dX11_firstUnlikeLine_69 : decode cX11_firstUnlikeLine 69 = .ok (.iinc 2 2, 3) := by decide +kernel
theorem dX11_firstUnlikeLine_72 : decode cX11_firstUnlikeLine 72 = .ok (.goto (-61), 3) := by decide +kernel
theorem dX11_firstUnlikeLine_75 : decode cX11_firstUnlikeLine 75 = .ok (.iconst 0, 1) := by decide +kernel
theorem dX11_firstUnlikeLine_76 : decode cX11_firstUnlikeLine 76 = .ok (.ireturn, 1) := by decide +kernel
theorem dX11_answersAlike_0 : decode cX11_answersAlike 0 = .ok (.iload_n 2, 1) := by decide +kernel
theorem dX11_answersAlike_1 : decode cX11_answersAlike 1 = .ok (.iconst 1, 1) := by decide +kernel
theorem dX11_answersAlike_2 : decode cX11_answersAlike 2 = .ok (.iadd, 1) := by decide +kernel
theorem dX11_answersAlike_3 : decode cX11_answersAlike 3 = .ok (.istore 4, 2) := by decide +kernel
theorem dX11_answersAlike_5 : decode cX11_answersAlike 5 = .ok (.aload_n 0, 1) := by decide +kernel
theorem dX11_answersAlike_6 : decode cX11_answersAlike 6 = .ok (.getfield 34, 3) := by decide +kernel
theorem dX11_answersAlike_9 : decode cX11_answersAlike 9 = .ok (.getfield 197, 3) := by decide +kernel
theorem dX11_answersAlike_12 : decode cX11_answersAlike 12 = .ok (.getfield 201, 3) := by decide +kernel
theorem dX11_answersAlike_15 : decode cX11_answersAlike 15 = .ok (.ifCond .eq 31, 3) := by decide +kernel
theorem dX11_answersAlike_18 : decode cX11_answersAlike 18 = .ok (.iload_n 3, 1) := by decide +kernel
theorem dX11_answersAlike_19 : decode cX11_answersAlike 19 = .ok (.iload 4, 2) := by decide +kernel
theorem dX11_answersAlike_21 : decode cX11_answersAlike 21 = .ok (.isub, 1) := by decide +kernel
theorem dX11_answersAlike_22 : decode cX11_answersAlike 22 = .ok (.iconst 1, 1) := by decide +kernel
theorem dX11_answersAlike_23 : decode cX11_answersAlike 23 = .ok (.if_icmp .ne 21, 3) := by decide +kernel
theorem dX11_answersAlike_26 : decode cX11_answersAlike 26 = .ok (.aload_n 0, 1) := by decide +kernel
theorem dX11_answersAlike_27 : decode cX11_answersAlike 27 = .ok (.getfield 14, 3) := by decide +kernel
theorem dX11_answersAlike_30 : decode cX11_answersAlike 30 = .ok (.iload 4, 2) := by decide +kernel
theorem dX11_answersAlike_32 : decode cX11_answersAlike 32 = .ok (.invokevirtual 206, 3) := by decide +kernel
theorem dX11_answersAlike_35 : decode cX11_answersAlike 35 = .ok (.bipush 46, 2) := by decide +kernel
theorem dX11_answersAlike_37 : decode cX11_answersAlike 37 = .ok (.if_icmp .ne 7, 3) := by decide +kernel
theorem dX11_answersAlike_40 : decode cX11_answersAlike 40 = .ok (.iconst 1, 1) := by decide +kernel
theorem dX11_answersAlike_41 : decode cX11_answersAlike 41 = .ok (.goto 4, 3) := by decide +kernel
theorem dX11_answersAlike_44 : decode cX11_answersAlike 44 = .ok (.iconst 0, 1) := by decide +kernel
theorem dX11_answersAlike_45 : decode cX11_answersAlike 45 = .ok (.ireturn, 1) := by decide +kernel
theorem dX11_answersAlike_46 : decode cX11_answersAlike 46 = .ok (.aload_n 0, 1) := by decide +kernel
theorem dX11_answersAlike_47 : decode cX11_answersAlike 47 = .ok (.getfield 34, 3) := by decide +kernel
theorem dX11_answersAlike_50 : decode cX11_answersAlike 50 = .ok (.aload_n 0, 1) := by decide +kernel
theorem dX11_answersAlike_51 : decode cX11_answersAlike 51 = .ok (.getfield 25, 3) := by decide +kernel
theorem dX11_answersAlike_54 : decode cX11_answersAlike 54 = .ok (.getfield 74, 3) := by decide +kernel
theorem dX11_answersAlike_57 : decode cX11_answersAlike 57 = .ok (.aload_n 0, 1) := by decide +kernel
theorem dX11_answersAlike_58 : decode cX11_answersAlike 58 = .ok (.getfield 14, 3) := by decide +kernel
theorem dX11_answersAlike_61 : decode cX11_answersAlike 61 = .ok (.iload_n 1, 1) := by decide +kernel
theorem dX11_answersAlike_62 : decode cX11_answersAlike 62 = .ok (.iload_n 2, 1) := by decide +kernel
theorem dX11_answersAlike_63 : decode cX11_answersAlike 63 = .ok (.invokevirtual 78, 3) := by decide +kernel
theorem dX11_answersAlike_66 : decode cX11_answersAlike 66 = .ok (.invokevirtual 210, 3) := by decide +kernel
theorem dX11_answersAlike_69 : decode cX11_answersAlike 69 = .ok (.istore 5, 2) := by decide +kernel
theorem dX11_answersAlike_71 : decode cX11_answersAlike 71 = .ok (.iload 5, 2) := by decide +kernel
theorem dX11_answersAlike_73 : decode cX11_answersAlike 73 = .ok (.ifCond .eq 50, 3) := by decide +kernel
theorem dX11_answersAlike_76 : decode cX11_answersAlike 76 = .ok (.iload_n 3, 1) := by decide +kernel
theorem dX11_answersAlike_77 : decode cX11_answersAlike 77 = .ok (.iload 4, 2) := by decide +kernel
theorem dX11_answersAlike_79 : decode cX11_answersAlike 79 = .ok (.isub, 1) := by decide +kernel
theorem dX11_answersAlike_80 : decode cX11_answersAlike 80 = .ok (.iconst 2, 1) := by decide +kernel
theorem dX11_answersAlike_81 : decode cX11_answersAlike 81 = .ok (.if_icmp .ne 40, 3) := by decide +kernel
theorem dX11_answersAlike_84 : decode cX11_answersAlike 84 = .ok (.aload_n 0, 1) := by decide +kernel
theorem dX11_answersAlike_85 : decode cX11_answersAlike 85 = .ok (.getfield 14, 3) := by decide +kernel
theorem dX11_answersAlike_88 : decode cX11_answersAlike 88 = .ok (.iload 4, 2) := by decide +kernel
theorem dX11_answersAlike_90 : decode cX11_answersAlike 90 = .ok (.invokevirtual 206, 3) := by decide +kernel
theorem dX11_answersAlike_93 : decode cX11_answersAlike 93 = .ok (.bipush 33, 2) := by decide +kernel
theorem dX11_answersAlike_95 : decode cX11_answersAlike 95 = .ok (.if_icmp .ne 26, 3) := by decide +kernel
theorem dX11_answersAlike_98 : decode cX11_answersAlike 98 = .ok (.aload_n 0, 1) := by decide +kernel
theorem dX11_answersAlike_99 : decode cX11_answersAlike 99 = .ok (.getfield 14, 3) := by decide +kernel
theorem dX11_answersAlike_102 : decode cX11_answersAlike 102 = .ok (.iload 4, 2) := by decide +kernel
theorem dX11_answersAlike_104 : decode cX11_answersAlike 104 = .ok (.iconst 1, 1) := by decide +kernel
theorem dX11_answersAlike_105 : decode cX11_answersAlike 105 = .ok (.iadd, 1) := by decide +kernel
theorem dX11_answersAlike_106 : decode cX11_answersAlike 106 = .ok (.invokevirtual 206, 3) := by decide +kernel
theorem dX11_answersAlike_109 : decode cX11_answersAlike 109 = .ok (.bipush 48, 2) := by decide +kernel
theorem dX11_answersAlike_111 : decode cX11_answersAlike 111 = .ok (.iload 5, 2) := by decide +kernel
theorem dX11_answersAlike_113 : decode cX11_answersAlike 113 = .ok (.iadd, 1) := by decide +kernel
theorem dX11_answersAlike_114 : decode cX11_answersAlike 114 = .ok (.if_icmp .ne 7, 3) := by decide +kernel
theorem dX11_answersAlike_117 : decode cX11_answersAlike 117 = .ok (.iconst 1, 1) := by decide +kernel
theorem dX11_answersAlike_118 : decode cX11_answersAlike 118 = .ok (.goto 4, 3) := by decide +kernel
theorem dX11_answersAlike_121 : decode cX11_answersAlike 121 = .ok (.iconst 0, 1) := by decide +kernel
theorem dX11_answersAlike_122 : decode cX11_answersAlike 122 = .ok (.ireturn, 1) := by decide +kernel
theorem dX11_answersAlike_123 : decode cX11_answersAlike 123 = .ok (.aload_n 0, 1) := by decide +kernel
theorem dX11_answersAlike_124 : decode cX11_answersAlike 124 = .ok (.getfield 25, 3) := by decide +kernel
theorem dX11_answersAlike_127 : decode cX11_answersAlike 127 = .ok (.aload_n 0, 1) := by decide +kernel
theorem dX11_answersAlike_128 : decode cX11_answersAlike 128 = .ok (.getfield 34, 3) := by decide +kernel
theorem dX11_answersAlike_131 : decode cX11_answersAlike 131 = .ok (.getfield 197, 3) := by decide +kernel
theorem dX11_answersAlike_134 : decode cX11_answersAlike 134 = .ok (.getfield 213, 3) := by decide +kernel
theorem dX11_answersAlike_137 : decode cX11_answersAlike 137 = .ok (.aload_n 0, 1) := by decide +kernel
theorem dX11_answersAlike_138 : decode cX11_answersAlike 138 = .ok (.getfield 14, 3) := by decide +kernel
theorem dX11_answersAlike_141 : decode cX11_answersAlike 141 = .ok (.iload 4, 2) := by decide +kernel
theorem dX11_answersAlike_143 : decode cX11_answersAlike 143 = .ok (.iload_n 3, 1) := by decide +kernel
theorem dX11_answersAlike_144 : decode cX11_answersAlike 144 = .ok (.invokevirtual 216, 3) := by decide +kernel
theorem dX11_answersAlike_147 : decode cX11_answersAlike 147 = .ok (.ireturn, 1) := by decide +kernel
theorem dX11_storm_0 : decode cX11_storm 0 = .ok (.iload_n 2, 1) := by decide +kernel
theorem dX11_storm_1 : decode cX11_storm 1 = .ok (.iconst 0, 1) := by decide +kernel
theorem dX11_storm_2 : decode cX11_storm 2 = .ok (.bipush 60, 2) := by decide +kernel
theorem dX11_storm_4 : decode cX11_storm 4 = .ok (.invokestatic 100, 3) := by decide +kernel
theorem dX11_storm_7 : decode cX11_storm 7 = .ok (.ifCond .ne 6, 3) := by decide +kernel
theorem dX11_storm_10 : decode cX11_storm 10 = .ok (.bipush (-3), 2) := by decide +kernel
theorem dX11_storm_12 : decode cX11_storm 12 = .ok (.ireturn, 1) := by decide +kernel
theorem dX11_storm_13 : decode cX11_storm 13 = .ok (.aload_n 0, 1) := by decide +kernel
theorem dX11_storm_14 : decode cX11_storm 14 = .ok (.getfield 25, 3) := by decide +kernel
theorem dX11_storm_17 : decode cX11_storm 17 = .ok (.getfield 74, 3) := by decide +kernel
theorem dX11_storm_20 : decode cX11_storm 20 = .ok (.getfield 220, 3) := by decide +kernel
theorem dX11_storm_23 : decode cX11_storm 23 = .ok (.ifCond .ne 6, 3) := by decide +kernel
theorem dX11_storm_26 : decode cX11_storm 26 = .ok (.bipush (-4), 2) := by decide +kernel
theorem dX11_storm_28 : decode cX11_storm 28 = .ok (.ireturn, 1) := by decide +kernel
theorem dX11_storm_29 : decode cX11_storm 29 = .ok (.aload_n 0, 1) := by decide +kernel
theorem dX11_storm_30 : decode cX11_storm 30 = .ok (.getfield 50, 3) := by decide +kernel
theorem dX11_storm_33 : decode cX11_storm 33 = .ok (.iload_n 1, 1) := by decide +kernel
theorem dX11_storm_34 : decode cX11_storm 34 = .ok (.iload_n 2, 1) := by decide +kernel
theorem dX11_storm_35 : decode cX11_storm 35 = .ok (.invokevirtual 223, 3) := by decide +kernel
theorem dX11_storm_38 : decode cX11_storm 38 = .ok (.ireturn, 1) := by decide +kernel
theorem dX11_play_0 : decode cX11_play 0 = .ok (.aload_n 0, 1) := by decide +kernel
theorem dX11_play_1 : decode cX11_play 1 = .ok (.getfield 50, 3) := by decide +kernel
theorem dX11_play_4 : decode cX11_play 4 = .ok (.getfield 227, 3) := by decide +kernel
theorem dX11_play_7 : decode cX11_play 7 = .ok (.ireturn, 1) := by decide +kernel
theorem dX11_played_0 : decode cX11_played 0 = .ok (.iload_n 1, 1) := by decide +kernel
theorem dX11_played_1 : decode cX11_played 1 = .ok (.iconst 0, 1) := by decide +kernel
theorem dX11_played_2 : decode cX11_played 2 = .ok (.aload_n 0, 1) := by decide +kernel
theorem dX11_played_3 : decode cX11_played 3 = .ok (.getfield 50, 3) := by decide +kernel
theorem dX11_played_6 : decode cX11_played 6 = .ok (.getfield 227, 3) := by decide +kernel
theorem dX11_played_9 : decode cX11_played 9 = .ok (.iconst 1, 1) := by decide +kernel
theorem dX11_played_10 : decode cX11_played 10 = .ok (.isub, 1) := by decide +kernel
theorem dX11_played_11 : decode cX11_played 11 = .ok (.invokestatic 100, 3) := by decide +kernel
theorem dX11_played_14 : decode cX11_played 14 = .ok (.ifCond .eq 15, 3) := by decide +kernel
theorem dX11_played_17 : decode cX11_played 17 = .ok (.aload_n 0, 1) := by decide +kernel
theorem dX11_played_18 : decode cX11_played 18 = .ok (.getfield 50, 3) := by decide +kernel
theorem dX11_played_21 : decode cX11_played 21 = .ok (.getfield 228, 3) := by decide +kernel
theorem dX11_played_24 : decode cX11_played 24 = .ok (.iload_n 1, 1) := by decide +kernel
theorem dX11_played_25 : decode cX11_played 25 = .ok (.iaload, 1) := by decide +kernel
theorem dX11_played_26 : decode cX11_played 26 = .ok (.goto 5, 3) := by decide +kernel
theorem dX11_played_29 : decode cX11_played 29 = .ok (.bipush (-2), 2) := by decide +kernel
theorem dX11_played_31 : decode cX11_played 31 = .ok (.ireturn, 1) := by decide +kernel
theorem dX11_shrink_0 : decode cX11_shrink 0 = .ok (.aload_n 0, 1) := by decide +kernel
theorem dX11_shrink_1 : decode cX11_shrink 1 = .ok (.getfield 50, 3) := by decide +kernel
theorem dX11_shrink_4 : decode cX11_shrink 4 = .ok (.getfield 230, 3) := by decide +kernel
theorem dX11_shrink_7 : decode cX11_shrink 7 = .ok (.ifCond .ne 6, 3) := by decide +kernel
theorem dX11_shrink_10 : decode cX11_shrink 10 = .ok (.bipush (-4), 2) := by decide +kernel
theorem dX11_shrink_12 : decode cX11_shrink 12 = .ok (.ireturn, 1) := by decide +kernel
theorem dX11_shrink_13 : decode cX11_shrink 13 = .ok (.aload_n 0, 1) := by decide +kernel
theorem dX11_shrink_14 : decode cX11_shrink 14 = .ok (.getfield 50, 3) := by decide +kernel
theorem dX11_shrink_17 : decode cX11_shrink 17 = .ok (.invokevirtual 233, 3) := by decide +kernel
theorem dX11_shrink_20 : decode cX11_shrink 20 = .ok (.ireturn, 1) := by decide +kernel
theorem dX11_state_0 : decode cX11_state 0 = .ok (.iload_n 1, 1) := by decide +kernel
theorem dX11_state_1 : decode cX11_state 1 = .ok (.tableswitch 75 0 3 #[31, 42, 53, 64], 31) := by decide +kernel
theorem dX11_state_32 : decode cX11_state 32 = .ok (.aload_n 0, 1) := by decide +kernel
theorem dX11_state_33 : decode cX11_state 33 = .ok (.getfield 34, 3) := by decide +kernel
theorem dX11_state_36 : decode cX11_state 36 = .ok (.getfield 197, 3) := by decide +kernel
theorem dX11_state_39 : decode cX11_state 39 = .ok (.getfield 236, 3) := by decide +kernel
theorem dX11_state_42 : decode cX11_state 42 = .ok (.ireturn, 1) := by decide +kernel
theorem dX11_state_43 : decode cX11_state 43 = .ok (.aload_n 0, 1) := by decide +kernel
theorem dX11_state_44 : decode cX11_state 44 = .ok (.getfield 34, 3) := by decide +kernel
theorem dX11_state_47 : decode cX11_state 47 = .ok (.getfield 197, 3) := by decide +kernel
theorem dX11_state_50 : decode cX11_state 50 = .ok (.getfield 201, 3) := by decide +kernel
theorem dX11_state_53 : decode cX11_state 53 = .ok (.ireturn, 1) := by decide +kernel
theorem dX11_state_54 : decode cX11_state 54 = .ok (.aload_n 0, 1) := by decide +kernel
theorem dX11_state_55 : decode cX11_state 55 = .ok (.getfield 34, 3) := by decide +kernel
theorem dX11_state_58 : decode cX11_state 58 = .ok (.getfield 197, 3) := by decide +kernel
theorem dX11_state_61 : decode cX11_state 61 = .ok (.getfield 237, 3) := by decide +kernel
theorem dX11_state_64 : decode cX11_state 64 = .ok (.ireturn, 1) := by decide +kernel
theorem dX11_state_65 : decode cX11_state 65 = .ok (.aload_n 0, 1) := by decide +kernel
theorem dX11_state_66 : decode cX11_state 66 = .ok (.getfield 34, 3) := by decide +kernel
theorem dX11_state_69 : decode cX11_state 69 = .ok (.getfield 197, 3) := by decide +kernel
theorem dX11_state_72 : decode cX11_state 72 = .ok (.getfield 213, 3) := by decide +kernel
theorem dX11_state_75 : decode cX11_state 75 = .ok (.ireturn, 1) := by decide +kernel
theorem dX11_state_76 : decode cX11_state 76 = .ok (.iload_n 1, 1) := by decide +kernel
theorem dX11_state_77 : decode cX11_state 77 = .ok (.iconst 4, 1) := by decide +kernel
theorem dX11_state_78 : decode cX11_state 78 = .ok (.bipush 11, 2) := by decide +kernel
theorem dX11_state_80 : decode cX11_state 80 = .ok (.invokestatic 100, 3) := by decide +kernel
theorem dX11_state_83 : decode cX11_state 83 = .ok (.ifCond .eq 19, 3) := by decide +kernel
theorem dX11_state_86 : decode cX11_state 86 = .ok (.aload_n 0, 1) := by decide +kernel
theorem dX11_state_87 : decode cX11_state 87 = .ok (.getfield 34, 3) := by decide +kernel
theorem dX11_state_90 : decode cX11_state 90 = .ok (.getfield 197, 3) := by decide +kernel
theorem dX11_state_93 : decode cX11_state 93 = .ok (.iload_n 1, 1) := by decide +kernel
theorem dX11_state_94 : decode cX11_state 94 = .ok (.iconst 4, 1) := by decide +kernel
theorem dX11_state_95 : decode cX11_state 95 = .ok (.isub, 1) := by decide +kernel
theorem dX11_state_96 : decode cX11_state 96 = .ok (.invokevirtual 240, 3) := by decide +kernel
theorem dX11_state_99 : decode cX11_state 99 = .ok (.goto 5, 3) := by decide +kernel
theorem dX11_state_102 : decode cX11_state 102 = .ok (.bipush (-3), 2) := by decide +kernel
theorem dX11_state_104 : decode cX11_state 104 = .ok (.ireturn, 1) := by decide +kernel
theorem dX11_done_0 : decode cX11_done 0 = .ok (.iload_n 1, 1) := by decide +kernel
theorem dX11_done_1 : decode cX11_done 1 = .ok (.iconst 0, 1) := by decide +kernel
theorem dX11_done_2 : decode cX11_done 2 = .ok (.aload_n 0, 1) := by decide +kernel
theorem dX11_done_3 : decode cX11_done 3 = .ok (.getfield 25, 3) := by decide +kernel
theorem dX11_done_6 : decode cX11_done 6 = .ok (.getfield 140, 3) := by decide +kernel
theorem dX11_done_9 : decode cX11_done 9 = .ok (.iconst 1, 1) := by decide +kernel
theorem dX11_done_10 : decode cX11_done 10 = .ok (.isub, 1) := by decide +kernel
theorem dX11_done_11 : decode cX11_done 11 = .ok (.invokestatic 100, 3) := by decide +kernel
theorem dX11_done_14 : decode cX11_done 14 = .ok (.ifCond .eq 15, 3) := by decide +kernel
theorem dX11_done_17 : decode cX11_done 17 = .ok (.aload_n 0, 1) := by decide +kernel
theorem dX11_done_18 : decode cX11_done 18 = .ok (.getfield 34, 3) := by decide +kernel
theorem dX11_done_21 : decode cX11_done 21 = .ok (.getfield 242, 3) := by decide +kernel
theorem dX11_done_24 : decode cX11_done 24 = .ok (.iload_n 1, 1) := by decide +kernel
theorem dX11_done_25 : decode cX11_done 25 = .ok (.iaload, 1) := by decide +kernel
theorem dX11_done_26 : decode cX11_done 26 = .ok (.goto 5, 3) := by decide +kernel
theorem dX11_done_29 : decode cX11_done 29 = .ok (.bipush (-2), 2) := by decide +kernel
theorem dX11_done_31 : decode cX11_done 31 = .ok (.ireturn, 1) := by decide +kernel
theorem dX11_shown_0 : decode cX11_shown 0 = .ok (.iload_n 1, 1) := by decide +kernel
theorem dX11_shown_1 : decode cX11_shown 1 = .ok (.iconst (-1), 1) := by decide +kernel
theorem dX11_shown_2 : decode cX11_shown 2 = .ok (.if_icmp .eq 20, 3) := by decide +kernel
theorem dX11_shown_5 : decode cX11_shown 5 = .ok (.aload_n 0, 1) := by decide +kernel
theorem dX11_shown_6 : decode cX11_shown 6 = .ok (.getfield 25, 3) := by decide +kernel
theorem dX11_shown_9 : decode cX11_shown 9 = .ok (.getfield 93, 3) := by decide +kernel
theorem dX11_shown_12 : decode cX11_shown 12 = .ok (.iload_n 1, 1) := by decide +kernel
theorem dX11_shown_13 : decode cX11_shown 13 = .ok (.invokevirtual 96, 3) := by decide +kernel
theorem dX11_shown_16 : decode cX11_shown 16 = .ok (.ifCond .ne 6, 3) := by decide +kernel
theorem dX11_shown_19 : decode cX11_shown 19 = .ok (.bipush (-2), 2) := by decide +kernel
theorem dX11_shown_21 : decode cX11_shown 21 = .ok (.ireturn, 1) := by decide +kernel
theorem dX11_shown_22 : decode cX11_shown 22 = .ok (.aload_n 0, 1) := by decide +kernel
theorem dX11_shown_23 : decode cX11_shown 23 = .ok (.getfield 34, 3) := by decide +kernel
theorem dX11_shown_26 : decode cX11_shown 26 = .ok (.getfield 245, 3) := by decide +kernel
theorem dX11_shown_29 : decode cX11_shown 29 = .ok (.iload_n 1, 1) := by decide +kernel
theorem dX11_shown_30 : decode cX11_shown 30 = .ok (.iconst 1, 1) := by decide +kernel
theorem dX11_shown_31 : decode cX11_shown 31 = .ok (.iadd, 1) := by decide +kernel
theorem dX11_shown_32 : decode cX11_shown 32 = .ok (.iaload, 1) := by decide +kernel
theorem dX11_shown_33 : decode cX11_shown 33 = .ok (.ireturn, 1) := by decide +kernel
theorem dX11_never_0 : decode cX11_never 0 = .ok (.iload_n 1, 1) := by decide +kernel
theorem dX11_never_1 : decode cX11_never 1 = .ok (.istore_n 2, 1) := by decide +kernel
theorem dX11_never_2 : decode cX11_never 2 = .ok (.iconst 0, 1) := by decide +kernel
theorem dX11_never_3 : decode cX11_never 3 = .ok (.istore_n 3, 1) := by decide +kernel
theorem dX11_never_4 : decode cX11_never 4 = .ok (.iload_n 3, 1) := by decide +kernel
theorem dX11_never_5 : decode cX11_never 5 = .ok (.aload_n 0, 1) := by decide +kernel
theorem dX11_never_6 : decode cX11_never 6 = .ok (.getfield 25, 3) := by decide +kernel
theorem dX11_never_9 : decode cX11_never 9 = .ok (.getfield 140, 3) := by decide +kernel
theorem dX11_never_12 : decode cX11_never 12 = .ok (.if_icmp .ge 33, 3) := by decide +kernel
theorem dX11_never_15 : decode cX11_never 15 = .ok (.aload_n 0, 1) := by decide +kernel
theorem dX11_never_16 : decode cX11_never 16 = .ok (.getfield 34, 3) := by decide +kernel
theorem dX11_never_19 : decode cX11_never 19 = .ok (.getfield 242, 3) := by decide +kernel
theorem dX11_never_22 : decode cX11_never 22 = .ok (.iload_n 3, 1) := by decide +kernel
theorem dX11_never_23 : decode cX11_never 23 = .ok (.iaload, 1) := by decide +kernel
theorem dX11_never_24 : decode cX11_never 24 = .ok (.ifCond .eq 6, 3) := by decide +kernel
theorem dX11_never_27 : decode cX11_never 27 = .ok (.goto 12, 3) := by decide +kernel
theorem dX11_never_30 : decode cX11_never 30 = .ok (.iload_n 2, 1) := by decide +kernel
theorem dX11_never_31 : decode cX11_never 31 = .ok (.ifCond .ne 5, 3) := by decide +kernel
theorem dX11_never_34 : decode cX11_never 34 = .ok (.iload_n 3, 1) := by decide +kernel
theorem dX11_never_35 : decode cX11_never 35 = .ok (.ireturn, 1) := by decide +kernel
theorem dX11_never_36 : decode cX11_never 36 = .ok (.iinc 2 (-1), 3) := by decide +kernel
theorem dX11_never_39 : decode cX11_never 39 = .ok (.iinc 3 1, 3) := by decide +kernel
theorem dX11_never_42 : decode cX11_never 42 = .ok (.goto (-38), 3) := by decide +kernel
theorem dX11_never_45 : decode cX11_never 45 = .ok (.iconst (-1), 1) := by decide +kernel
theorem dX11_never_46 : decode cX11_never 46 = .ok (.ireturn, 1) := by decide +kernel
theorem dX11_share_0 : decode cX11_share 0 = .ok (.iconst 0, 1) := by decide +kernel
theorem dX11_share_1 : decode cX11_share 1 = .ok (.istore_n 1, 1) := by decide +kernel
theorem dX11_share_2 : decode cX11_share 2 = .ok (.iconst 0, 1) := by decide +kernel
theorem dX11_share_3 : decode cX11_share 3 = .ok (.istore_n 2, 1) := by decide +kernel
theorem dX11_share_4 : decode cX11_share 4 = .ok (.iconst 0, 1) := by decide +kernel
theorem dX11_share_5 : decode cX11_share 5 = .ok (.istore_n 3, 1) := by decide +kernel
theorem dX11_share_6 : decode cX11_share 6 = .ok (.iload_n 3, 1) := by decide +kernel
theorem dX11_share_7 : decode cX11_share 7 = .ok (.aload_n 0, 1) := by decide +kernel
theorem dX11_share_8 : decode cX11_share 8 = .ok (.getfield 25, 3) := by decide +kernel
theorem dX11_share_11 : decode cX11_share 11 = .ok (.getfield 140, 3) := by decide +kernel
theorem dX11_share_14 : decode cX11_share 14 = .ok (.if_icmp .ge 36, 3) := by decide +kernel
theorem dX11_share_17 : decode cX11_share 17 = .ok (.iload_n 1, 1) := by decide +kernel
theorem dX11_share_18 : decode cX11_share 18 = .ok (.aload_n 0, 1) := by decide +kernel
theorem dX11_share_19 : decode cX11_share 19 = .ok (.getfield 34, 3) := by decide +kernel
theorem dX11_share_22 : decode cX11_share 22 = .ok (.getfield 242, 3) := by decide +kernel
theorem dX11_share_25 : decode cX11_share 25 = .ok (.iload_n 3, 1) := by decide +kernel
theorem dX11_share_26 : decode cX11_share 26 = .ok (.iaload, 1) := by decide +kernel
theorem dX11_share_27 : decode cX11_share 27 = .ok (.iadd, 1) := by decide +kernel
theorem dX11_share_28 : decode cX11_share 28 = .ok (.istore_n 1, 1) := by decide +kernel
theorem dX11_share_29 : decode cX11_share 29 = .ok (.aload_n 0, 1) := by decide +kernel
theorem dX11_share_30 : decode cX11_share 30 = .ok (.getfield 34, 3) := by decide +kernel
theorem dX11_share_33 : decode cX11_share 33 = .ok (.getfield 242, 3) := by decide +kernel
theorem dX11_share_36 : decode cX11_share 36 = .ok (.iload_n 3, 1) := by decide +kernel
theorem dX11_share_37 : decode cX11_share 37 = .ok (.iaload, 1) := by decide +kernel
theorem dX11_share_38 : decode cX11_share 38 = .ok (.ifCond .le 6, 3) := by decide +kernel
theorem dX11_share_41 : decode cX11_share 41 = .ok (.iinc 2 1, 3) := by decide +kernel
theorem dX11_share_44 : decode cX11_share 44 = .ok (.iinc 3 1, 3) := by decide +kernel
theorem dX11_share_47 : decode cX11_share 47 = .ok (.goto (-41), 3) := by decide +kernel
theorem dX11_share_50 : decode cX11_share 50 = .ok (.iload_n 2, 1) := by decide +kernel
theorem dX11_share_51 : decode cX11_share 51 = .ok (.ifCond .ne 13, 3) := by decide +kernel
theorem dX11_share_54 : decode cX11_share 54 = .ok (.new 248, 3) := by decide +kernel
theorem dX11_share_57 : decode cX11_share 57 = .ok (.dup, 1) := by decide +kernel
theorem dX11_share_58 : decode cX11_share 58 = .ok (.ldc 250, 2) := by decide +kernel
theorem dX11_share_60 : decode cX11_share 60 = .ok (.invokespecial 252, 3) := by decide +kernel
theorem dX11_share_63 : decode cX11_share 63 = .ok (.athrow, 1) := by decide +kernel
theorem dX11_share_64 : decode cX11_share 64 = .ok (.iload_n 1, 1) := by decide +kernel
theorem dX11_share_65 : decode cX11_share 65 = .ok (.iload_n 2, 1) := by decide +kernel
theorem dX11_share_66 : decode cX11_share 66 = .ok (.idiv, 1) := by decide +kernel
theorem dX11_share_67 : decode cX11_share 67 = .ok (.ireturn, 1) := by decide +kernel
theorem dX11_told_0 : decode cX11_told 0 = .ok (.iload_n 1, 1) := by decide +kernel
theorem dX11_told_1 : decode cX11_told 1 = .ok (.tableswitch 114 0 7 #[47, 55, 66, 77, 85, 90, 98, 106], 47) := by decide +kernel
theorem dX11_told_48 : decode cX11_told 48 = .ok (.aload_n 0, 1) := by decide +kernel
theorem dX11_told_49 : decode cX11_told 49 = .ok (.getfield 14, 3) := by decide +kernel
theorem dX11_told_52 : decode cX11_told 52 = .ok (.getfield 54, 3) := by decide +kernel
theorem dX11_told_55 : decode cX11_told 55 = .ok (.ireturn, 1) := by decide +kernel
theorem dX11_told_56 : decode cX11_told 56 = .ok (.aload_n 0, 1) := by decide +kernel
theorem dX11_told_57 : decode cX11_told 57 = .ok (.getfield 25, 3) := by decide +kernel
theorem dX11_told_60 : decode cX11_told 60 = .ok (.getfield 74, 3) := by decide +kernel
theorem dX11_told_63 : decode cX11_told 63 = .ok (.getfield 220, 3) := by decide +kernel
theorem dX11_told_66 : decode cX11_told 66 = .ok (.ireturn, 1) := by decide +kernel
theorem dX11_told_67 : decode cX11_told 67 = .ok (.aload_n 0, 1) := by decide +kernel
theorem dX11_told_68 : decode cX11_told 68 = .ok (.getfield 25, 3) := by decide +kernel
theorem dX11_told_71 : decode cX11_told 71 = .ok (.getfield 93, 3) := by decide +kernel
theorem dX11_told_74 : decode cX11_told 74 = .ok (.getfield 220, 3) := by decide +kernel
theorem dX11_told_77 : decode cX11_told 77 = .ok (.ireturn, 1) := by decide +kernel
theorem dX11_told_78 : decode cX11_told 78 = .ok (.aload_n 0, 1) := by decide +kernel
theorem dX11_told_79 : decode cX11_told 79 = .ok (.getfield 25, 3) := by decide +kernel
theorem dX11_told_82 : decode cX11_told 82 = .ok (.getfield 140, 3) := by decide +kernel
theorem dX11_told_85 : decode cX11_told 85 = .ok (.ireturn, 1) := by decide +kernel
theorem dX11_told_86 : decode cX11_told 86 = .ok (.aload_n 0, 1) := by decide +kernel
theorem dX11_told_87 : decode cX11_told 87 = .ok (.getfield 159, 3) := by decide +kernel
theorem dX11_told_90 : decode cX11_told 90 = .ok (.ireturn, 1) := by decide +kernel
theorem dX11_told_91 : decode cX11_told 91 = .ok (.aload_n 0, 1) := by decide +kernel
theorem dX11_told_92 : decode cX11_told 92 = .ok (.getfield 43, 3) := by decide +kernel
theorem dX11_told_95 : decode cX11_told 95 = .ok (.getfield 172, 3) := by decide +kernel
theorem dX11_told_98 : decode cX11_told 98 = .ok (.ireturn, 1) := by decide +kernel
theorem dX11_told_99 : decode cX11_told 99 = .ok (.aload_n 0, 1) := by decide +kernel
theorem dX11_told_100 : decode cX11_told 100 = .ok (.getfield 34, 3) := by decide +kernel
theorem dX11_told_103 : decode cX11_told 103 = .ok (.getfield 255, 3) := by decide +kernel
theorem dX11_told_106 : decode cX11_told 106 = .ok (.ireturn, 1) := by decide +kernel
theorem dX11_told_107 : decode cX11_told 107 = .ok (.aload_n 0, 1) := by decide +kernel
theorem dX11_told_108 : decode cX11_told 108 = .ok (.getfield 34, 3) := by decide +kernel
theorem dX11_told_111 : decode cX11_told 111 = .ok (.getfield 258, 3) := by decide +kernel
theorem dX11_told_114 : decode cX11_told 114 = .ok (.ireturn, 1) := by decide +kernel
theorem dX11_told_115 : decode cX11_told 115 = .ok (.bipush (-3), 2) := by decide +kernel
theorem dX11_told_117 : decode cX11_told 117 = .ok (.ireturn, 1) := by decide +kernel
theorem dX12_thrown_0 : decode cX12_thrown 0 = .ok (.aload_n 0, 1) := by decide +kernel
theorem dX12_thrown_1 : decode cX12_thrown 1 = .ok (.getfield 1, 3) := by decide +kernel
theorem dX12_thrown_4 : decode cX12_thrown 4 = .ok (.ireturn, 1) := by decide +kernel
theorem dX12_init_0 : decode cX12_init 0 = .ok (.aload_n 0, 1) := by decide +kernel
theorem dX12_init_1 : decode cX12_init 1 = .ok (.invokespecial 7, 3) := by decide +kernel
theorem dX12_init_4 : decode cX12_init 4 = .ok (.aload_n 0, 1) := by decide +kernel
theorem dX12_init_5 : decode cX12_init 5 = .ok (.sipush 600, 3) := by decide +kernel
theorem dX12_init_8 : decode cX12_init 8 = .ok (.newarray .int, 2) := by decide +kernel
theorem dX12_init_10 : decode cX12_init 10 = .ok (.putfield 13, 3) := by decide +kernel
theorem dX12_init_13 : decode cX12_init 13 = .ok (.aload_n 0, 1) := by decide +kernel
theorem dX12_init_14 : decode cX12_init 14 = .ok (.bipush 96, 2) := by decide +kernel
theorem dX12_init_16 : decode cX12_init 16 = .ok (.newarray .int, 2) := by decide +kernel
theorem dX12_init_18 : decode cX12_init 18 = .ok (.putfield 17, 3) := by decide +kernel
theorem dX12_init_21 : decode cX12_init 21 = .ok (.aload_n 0, 1) := by decide +kernel
theorem dX12_init_22 : decode cX12_init 22 = .ok (.bipush 16, 2) := by decide +kernel
theorem dX12_init_24 : decode cX12_init 24 = .ok (.newarray .int, 2) := by decide +kernel
theorem dX12_init_26 : decode cX12_init 26 = .ok (.putfield 20, 3) := by decide +kernel
theorem dX12_init_29 : decode cX12_init 29 = .ok (.aload_n 0, 1) := by decide +kernel
theorem dX12_init_30 : decode cX12_init 30 = .ok (.sipush 480, 3) := by decide +kernel
theorem dX12_init_33 : decode cX12_init 33 = .ok (.newarray .int, 2) := by decide +kernel
theorem dX12_init_35 : decode cX12_init 35 = .ok (.putfield 23, 3) := by decide +kernel
theorem dX12_init_38 : decode cX12_init 38 = .ok (.aload_n 0, 1) := by decide +kernel
theorem dX12_init_39 : decode cX12_init 39 = .ok (.bipush 24, 2) := by decide +kernel
theorem dX12_init_41 : decode cX12_init 41 = .ok (.newarray .int, 2) := by decide +kernel
theorem dX12_init_43 : decode cX12_init 43 = .ok (.putfield 26, 3) := by decide +kernel
theorem dX12_init_46 : decode cX12_init 46 = .ok (.aload_n 0, 1) := by decide +kernel
theorem dX12_init_47 : decode cX12_init 47 = .ok (.bipush 30, 2) := by decide +kernel
theorem dX12_init_49 : decode cX12_init 49 = .ok (.newarray .int, 2) := by decide +kernel
theorem dX12_init_51 : decode cX12_init 51 = .ok (.putfield 29, 3) := by decide +kernel
theorem dX12_init_54 : decode cX12_init 54 = .ok (.aload_n 0, 1) := by decide +kernel
theorem dX12_init_55 : decode cX12_init 55 = .ok (.bipush 30, 2) := by decide +kernel
theorem dX12_init_57 : decode cX12_init 57 = .ok (.newarray .int, 2) := by decide +kernel
theorem dX12_init_59 : decode cX12_init 59 = .ok (.putfield 32, 3) := by decide +kernel
theorem dX12_init_62 : decode cX12_init 62 = .ok (.aload_n 0, 1) := by decide +kernel
theorem dX12_init_63 : decode cX12_init 63 = .ok (.bipush 30, 2) := by decide +kernel
theorem dX12_init_65 : decode cX12_init 65 = .ok (.newarray .int, 2) := by decide +kernel
theorem dX12_init_67 : decode cX12_init 67 = .ok (.putfield 35, 3) := by decide +kernel
theorem dX12_init_70 : decode cX12_init 70 = .ok (.aload_n 0, 1) := by decide +kernel
theorem dX12_init_71 : decode cX12_init 71 = .ok (.bipush 30, 2) := by decide +kernel
theorem dX12_init_73 : decode cX12_init 73 = .ok (.newarray .int, 2) := by decide +kernel
theorem dX12_init_75 : decode cX12_init 75 = .ok (.putfield 38, 3) := by decide +kernel
theorem dX12_init_78 : decode cX12_init 78 = .ok (.aload_n 0, 1) := by decide +kernel
theorem dX12_init_79 : decode cX12_init 79 = .ok (.bipush 30, 2) := by decide +kernel
theorem dX12_init_81 : decode cX12_init 81 = .ok (.newarray .int, 2) := by decide +kernel
theorem dX12_init_83 : decode cX12_init 83 = .ok (.putfield 41, 3) := by decide +kernel
theorem dX12_init_86 : decode cX12_init 86 = .ok (.aload_n 0, 1) := by decide +kernel
theorem dX12_init_87 : decode cX12_init 87 = .ok (.bipush 30, 2) := by decide +kernel
theorem dX12_init_89 : decode cX12_init 89 = .ok (.newarray .int, 2) := by decide +kernel
theorem dX12_init_91 : decode cX12_init 91 = .ok (.putfield 44, 3) := by decide +kernel
theorem dX12_init_94 : decode cX12_init 94 = .ok (.aload_n 0, 1) := by decide +kernel
theorem dX12_init_95 : decode cX12_init 95 = .ok (.bipush 30, 2) := by decide +kernel
theorem dX12_init_97 : decode cX12_init 97 = .ok (.newarray .int, 2) := by decide +kernel
theorem dX12_init_99 : decode cX12_init 99 = .ok (.putfield 47, 3) := by decide +kernel
theorem dX12_init_102 : decode cX12_init 102 = .ok (.aload_n 0, 1) := by decide +kernel
theorem dX12_init_103 : decode cX12_init 103 = .ok (.bipush 30, 2) := by decide +kernel
theorem dX12_init_105 : decode cX12_init 105 = .ok (.newarray .int, 2) := by decide +kernel
theorem dX12_init_107 : decode cX12_init 107 = .ok (.putfield 50, 3) := by decide +kernel
theorem dX12_init_110 : decode cX12_init 110 = .ok (.aload_n 0, 1) := by decide +kernel
theorem dX12_init_111 : decode cX12_init 111 = .ok (.bipush 30, 2) := by decide +kernel
theorem dX12_init_113 : decode cX12_init 113 = .ok (.newarray .int, 2) := by decide +kernel
theorem dX12_init_115 : decode cX12_init 115 = .ok (.putfield 53, 3) := by decide +kernel
theorem dX12_init_118 : decode cX12_init 118 = .ok (.aload_n 0, 1) := by decide +kernel
theorem dX12_init_119 : decode cX12_init 119 = .ok (.bipush 30, 2) := by decide +kernel
theorem dX12_init_121 : decode cX12_init 121 = .ok (.newarray .int, 2) := by decide +kernel
theorem dX12_init_123 : decode cX12_init 123 = .ok (.putfield 56, 3) := by decide +kernel
theorem dX12_init_126 : decode cX12_init 126 = .ok (.aload_n 0, 1) := by decide +kernel
theorem dX12_init_127 : decode cX12_init 127 = .ok (.bipush 25, 2) := by decide +kernel
theorem dX12_init_129 : decode cX12_init 129 = .ok (.newarray .int, 2) := by decide +kernel
theorem dX12_init_131 : decode cX12_init 131 = .ok (.putfield 59, 3) := by decide +kernel
theorem dX12_init_134 : decode cX12_init 134 = .ok (.aload_n 0, 1) := by decide +kernel
theorem dX12_init_135 : decode cX12_init 135 = .ok (.iconst 4, 1) := by decide +kernel
theorem dX12_init_136 : decode cX12_init 136 = .ok (.newarray .int, 2) := by decide +kernel
theorem dX12_init_138 : decode cX12_init 138 = .ok (.putfield 62, 3) := by decide +kernel
theorem dX12_init_141 : decode cX12_init 141 = .ok (.aload_n 0, 1) := by decide +kernel
theorem dX12_init_142 : decode cX12_init 142 = .ok (.iconst 4, 1) := by decide +kernel
theorem dX12_init_143 : decode cX12_init 143 = .ok (.newarray .int, 2) := by decide +kernel
theorem dX12_init_145 : decode cX12_init 145 = .ok (.putfield 65, 3) := by decide +kernel
theorem dX12_init_148 : decode cX12_init 148 = .ok (.aload_n 0, 1) := by decide +kernel
theorem dX12_init_149 : decode cX12_init 149 = .ok (.iconst 4, 1) := by decide +kernel
theorem dX12_init_150 : decode cX12_init 150 = .ok (.newarray .int, 2) := by decide +kernel
theorem dX12_init_152 : decode cX12_init 152 = .ok (.putfield 68, 3) := by decide +kernel
theorem dX12_init_155 : decode cX12_init 155 = .ok (.aload_n 0, 1) := by decide +kernel
theorem dX12_init_156 : decode cX12_init 156 = .ok (.iconst 1, 1) := by decide +kernel
theorem dX12_init_157 : decode cX12_init 157 = .ok (.putfield 71, 3) := by decide +kernel
theorem dX12_init_160 : decode cX12_init 160 = .ok (.aload_n 0, 1) := by decide +kernel
theorem dX12_init_161 : decode cX12_init 161 = .ok (.bipush 72, 2) := by decide +kernel
theorem dX12_init_163 : decode cX12_init 163 = .ok (.newarray .int, 2) := by decide +kernel
theorem dX12_init_165 : decode cX12_init 165 = .ok (.putfield 75, 3) := by decide +kernel
theorem dX12_init_168 : decode cX12_init 168 = .ok (.aload_n 0, 1) := by decide +kernel
theorem dX12_init_169 : decode cX12_init 169 = .ok (.bipush 6, 2) := by decide +kernel
theorem dX12_init_171 : decode cX12_init 171 = .ok (.newarray .boolean, 2) := by decide +kernel
theorem dX12_init_173 : decode cX12_init 173 = .ok (.putfield 78, 3) := by decide +kernel
theorem dX12_init_176 : decode cX12_init 176 = .ok (.aload_n 0, 1) := by decide +kernel
theorem dX12_init_177 : decode cX12_init 177 = .ok (.sipush 6000, 3) := by decide +kernel
theorem dX12_init_180 : decode cX12_init 180 = .ok (.newarray .int, 2) := by decide +kernel
theorem dX12_init_182 : decode cX12_init 182 = .ok (.putfield 82, 3) := by decide +kernel
theorem dX12_init_185 : decode cX12_init 185 = .ok (.aload_n 0, 1) := by decide +kernel
theorem dX12_init_186 : decode cX12_init 186 = .ok (.bipush 10, 2) := by decide +kernel
theorem dX12_init_188 : decode cX12_init 188 = .ok (.newarray .int, 2) := by decide +kernel
theorem dX12_init_190 : decode cX12_init 190 = .ok (.putfield 85, 3) := by decide +kernel
theorem dX12_init_193 : decode cX12_init 193 = .ok (.aload_n 0, 1) := by decide +kernel
