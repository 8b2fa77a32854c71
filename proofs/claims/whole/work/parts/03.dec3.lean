theorem dX12_init_194 : decode cX12_init 194 = .ok (.bipush 40, 2) := by decide +kernel
theorem dX12_init_196 : decode cX12_init 196 = .ok (.newarray .int, 2) := by decide +kernel
theorem dX12_init_198 : decode cX12_init 198 = .ok (.putfield 88, 3) := by decide +kernel
theorem dX12_init_201 : decode cX12_init 201 = .ok (.aload_n 0, 1) := by decide +kernel
theorem dX12_init_202 : decode cX12_init 202 = .ok (.bipush 40, 2) := by decide +kernel
theorem dX12_init_204 : decode cX12_init 204 = .ok (.newarray .int, 2) := by decide +kernel
theorem dX12_init_206 : decode cX12_init 206 = .ok (.putfield 91, 3) := by decide +kernel
theorem dX12_init_209 : decode cX12_init 209 = .ok (.aload_n 0, 1) := by decide +kernel
theorem dX12_init_210 : decode cX12_init 210 = .ok (.bipush 60, 2) := by decide +kernel
theorem dX12_init_212 : decode cX12_init 212 = .ok (.newarray .int, 2) := by decide +kernel
theorem dX12_init_214 : decode cX12_init 214 = .ok (.putfield 94, 3) := by decide +kernel
theorem dX12_init_217 : decode cX12_init 217 = .ok (.aload_n 0, 1) := by decide +kernel
theorem dX12_init_218 : decode cX12_init 218 = .ok (.iload_n 1, 1) := by decide +kernel
theorem dX12_init_219 : decode cX12_init 219 = .ok (.putfield 97, 3) := by decide +kernel
theorem dX12_init_222 : decode cX12_init 222 = .ok (.aload_n 0, 1) := by decide +kernel
theorem dX12_init_223 : decode cX12_init 223 = .ok (.invokevirtual 100, 3) := by decide +kernel
theorem dX12_init_226 : decode cX12_init 226 = .ok (.return_, 1) := by decide +kernel
theorem dX12_in_0 : decode cX12_in 0 = .ok (.lload_n 0, 1) := by decide +kernel
theorem dX12_in_1 : decode cX12_in 1 = .ok (.lload_n 2, 1) := by decide +kernel
theorem dX12_in_2 : decode cX12_in 2 = .ok (.lcmp, 1) := by decide +kernel
theorem dX12_in_3 : decode cX12_in 3 = .ok (.ifCond .lt 14, 3) := by decide +kernel
theorem dX12_in_6 : decode cX12_in 6 = .ok (.lload_n 0, 1) := by decide +kernel
theorem dX12_in_7 : decode cX12_in 7 = .ok (.lload 4, 2) := by decide +kernel
theorem dX12_in_9 : decode cX12_in 9 = .ok (.lcmp, 1) := by decide +kernel
theorem dX12_in_10 : decode cX12_in 10 = .ok (.ifCond .gt 7, 3) := by decide +kernel
theorem dX12_in_13 : decode cX12_in 13 = .ok (.iconst 1, 1) := by decide +kernel
theorem dX12_in_14 : decode cX12_in 14 = .ok (.goto 4, 3) := by decide +kernel
theorem dX12_in_17 : decode cX12_in 17 = .ok (.iconst 0, 1) := by decide +kernel
theorem dX12_in_18 : decode cX12_in 18 = .ok (.ireturn, 1) := by decide +kernel
theorem dX12_feed_0 : decode cX12_feed 0 = .ok (.aload_n 0, 1) := by decide +kernel
theorem dX12_feed_1 : decode cX12_feed 1 = .ok (.iconst 0, 1) := by decide +kernel
theorem dX12_feed_2 : decode cX12_feed 2 = .ok (.putfield 1, 3) := by decide +kernel
theorem dX12_feed_5 : decode cX12_feed 5 = .ok (.iload_n 3, 1) := by decide +kernel
theorem dX12_feed_6 : decode cX12_feed 6 = .ok (.i2l, 1) := by decide +kernel
theorem dX12_feed_7 : decode cX12_feed 7 = .ok (.lconst 1, 1) := by decide +kernel
theorem dX12_feed_8 : decode cX12_feed 8 = .ok (.ldc2_w 103, 3) := by decide +kernel
theorem dX12_feed_11 : decode cX12_feed 11 = .ok (.invokestatic 105, 3) := by decide +kernel
theorem dX12_feed_14 : decode cX12_feed 14 = .ok (.ifCond .ne 6, 3) := by decide +kernel
theorem dX12_feed_17 : decode cX12_feed 17 = .ok (.bipush (-3), 2) := by decide +kernel
theorem dX12_feed_19 : decode cX12_feed 19 = .ok (.ireturn, 1) := by decide +kernel
theorem dX12_feed_20 : decode cX12_feed 20 = .ok (.aload_n 0, 1) := by decide +kernel
theorem dX12_feed_21 : decode cX12_feed 21 = .ok (.getfield 109, 3) := by decide +kernel
theorem dX12_feed_24 : decode cX12_feed 24 = .ok (.iload_n 3, 1) := by decide +kernel
theorem dX12_feed_25 : decode cX12_feed 25 = .ok (.iadd, 1) := by decide +kernel
theorem dX12_feed_26 : decode cX12_feed 26 = .ok (.sipush 600, 3) := by decide +kernel
theorem dX12_feed_29 : decode cX12_feed 29 = .ok (.if_icmp .le 6, 3) := by decide +kernel
theorem dX12_feed_32 : decode cX12_feed 32 = .ok (.bipush (-5), 2) := by decide +kernel
theorem dX12_feed_34 : decode cX12_feed 34 = .ok (.ireturn, 1) := by decide +kernel
theorem dX12_feed_35 : decode cX12_feed 35 = .ok (.iload_n 3, 1) := by decide +kernel
theorem dX12_feed_36 : decode cX12_feed 36 = .ok (.iconst 1, 1) := by decide +kernel
theorem dX12_feed_37 : decode cX12_feed 37 = .ok (.isub, 1) := by decide +kernel
theorem dX12_feed_38 : decode cX12_feed 38 = .ok (.istore 4, 2) := by decide +kernel
theorem dX12_feed_40 : decode cX12_feed 40 = .ok (.iload 4, 2) := by decide +kernel
theorem dX12_feed_42 : decode cX12_feed 42 = .ok (.ifCond .lt 40, 3) := by decide +kernel
theorem dX12_feed_45 : decode cX12_feed 45 = .ok (.aload_n 0, 1) := by decide +kernel
theorem dX12_feed_46 : decode cX12_feed 46 = .ok (.getfield 13, 3) := by decide +kernel
theorem dX12_feed_49 : decode cX12_feed 49 = .ok (.aload_n 0, 1) := by decide +kernel
theorem dX12_feed_50 : decode cX12_feed 50 = .ok (.getfield 109, 3) := by decide +kernel
theorem dX12_feed_53 : decode cX12_feed 53 = .ok (.lload_n 1, 1) := by decide +kernel
theorem dX12_feed_54 : decode cX12_feed 54 = .ok (.bipush 8, 2) := by decide +kernel
theorem dX12_feed_56 : decode cX12_feed 56 = .ok (.iload 4, 2) := by decide +kernel
theorem dX12_feed_58 : decode cX12_feed 58 = .ok (.imul, 1) := by decide +kernel
theorem dX12_feed_59 : decode cX12_feed 59 = .ok (.lshr, 1) := by decide +kernel
theorem dX12_feed_60 : decode cX12_feed 60 = .ok (.ldc2_w 112, 3) := by decide +kernel
theorem dX12_feed_63 : decode cX12_feed 63 = .ok (.land, 1) := by decide +kernel
theorem dX12_feed_64 : decode cX12_feed 64 = .ok (.l2i, 1) := by decide +kernel
theorem dX12_feed_65 : decode cX12_feed 65 = .ok (.iastore, 1) := by decide +kernel
theorem dX12_feed_66 : decode cX12_feed 66 = .ok (.aload_n 0, 1) := by decide +kernel
theorem dX12_feed_67 : decode cX12_feed 67 = .ok (.dup, 1) := by decide +kernel
theorem dX12_feed_68 : decode cX12_feed 68 = .ok (.getfield 109, 3) := by decide +kernel
theorem dX12_feed_71 : decode cX12_feed 71 = .ok (.iconst 1, 1) := by decide +kernel
theorem dX12_feed_72 : decode cX12_feed 72 = .ok (.iadd, 1) := by decide +kernel
theorem dX12_feed_73 : decode cX12_feed 73 = .ok (.putfield 109, 3) := by decide +kernel
theorem dX12_feed_76 : decode cX12_feed 76 = .ok (.iinc 4 (-1), 3) := by decide +kernel
theorem dX12_feed_79 : decode cX12_feed 79 = .ok (.goto (-39), 3) := by decide +kernel
theorem dX12_feed_82 : decode cX12_feed 82 = .ok (.aload_n 0, 1) := by decide +kernel
theorem dX12_feed_83 : decode cX12_feed 83 = .ok (.getfield 109, 3) := by decide +kernel
theorem dX12_feed_86 : decode cX12_feed 86 = .ok (.ireturn, 1) := by decide +kernel
theorem dX12_isLetter_0 : decode cX12_isLetter 0 = .ok (.iload_n 0, 1) := by decide +kernel
theorem dX12_isLetter_1 : decode cX12_isLetter 1 = .ok (.i2l, 1) := by decide +kernel
theorem dX12_isLetter_2 : decode cX12_isLetter 2 = .ok (.ldc2_w 114, 3) := by decide +kernel
theorem dX12_isLetter_5 : decode cX12_isLetter 5 = .ok (.ldc2_w 116, 3) := by decide +kernel
theorem dX12_isLetter_8 : decode cX12_isLetter 8 = .ok (.invokestatic 105, 3) := by decide +kernel
theorem dX12_isLetter_11 : decode cX12_isLetter 11 = .ok (.ireturn, 1) := by decide +kernel
theorem dX12_isSign_0 : decode cX12_isSign 0 = .ok (.iload_n 0, 1) := by decide +kernel
theorem dX12_isSign_1 : decode cX12_isSign 1 = .ok (.i2l, 1) := by decide +kernel
theorem dX12_isSign_2 : decode cX12_isSign 2 = .ok (.ldc2_w 118, 3) := by decide +kernel
theorem dX12_isSign_5 : decode cX12_isSign 5 = .ok (.ldc2_w 120, 3) := by decide +kernel
theorem dX12_isSign_8 : decode cX12_isSign 8 = .ok (.invokestatic 105, 3) := by decide +kernel
theorem dX12_isSign_11 : decode cX12_isSign 11 = .ok (.ireturn, 1) := by decide +kernel
theorem dX12_wordAt_0 : decode cX12_wordAt 0 = .ok (.iconst 0, 1) := by decide +kernel
theorem dX12_wordAt_1 : decode cX12_wordAt 1 = .ok (.istore 4, 2) := by decide +kernel
theorem dX12_wordAt_3 : decode cX12_wordAt 3 = .ok (.iload 4, 2) := by decide +kernel
theorem dX12_wordAt_5 : decode cX12_wordAt 5 = .ok (.aload_n 0, 1) := by decide +kernel
theorem dX12_wordAt_6 : decode cX12_wordAt 6 = .ok (.getfield 122, 3) := by decide +kernel
theorem dX12_wordAt_9 : decode cX12_wordAt 9 = .ok (.if_icmp .ge 84, 3) := by decide +kernel
theorem dX12_wordAt_12 : decode cX12_wordAt 12 = .ok (.aload_n 0, 1) := by decide +kernel
theorem dX12_wordAt_13 : decode cX12_wordAt 13 = .ok (.getfield 20, 3) := by decide +kernel
theorem dX12_wordAt_16 : decode cX12_wordAt 16 = .ok (.iload 4, 2) := by decide +kernel
theorem dX12_wordAt_18 : decode cX12_wordAt 18 = .ok (.iaload, 1) := by decide +kernel
theorem dX12_wordAt_19 : decode cX12_wordAt 19 = .ok (.iload_n 3, 1) := by decide +kernel
theorem dX12_wordAt_20 : decode cX12_wordAt 20 = .ok (.if_icmp .ne 7, 3) := by decide +kernel
theorem dX12_wordAt_23 : decode cX12_wordAt 23 = .ok (.iconst 1, 1) := by decide +kernel
theorem dX12_wordAt_24 : decode cX12_wordAt 24 = .ok (.goto 4, 3) := by decide +kernel
theorem dX12_wordAt_27 : decode cX12_wordAt 27 = .ok (.iconst 0, 1) := by decide +kernel
theorem dX12_wordAt_28 : decode cX12_wordAt 28 = .ok (.istore 5, 2) := by decide +kernel
theorem dX12_wordAt_30 : decode cX12_wordAt 30 = .ok (.iconst 0, 1) := by decide +kernel
theorem dX12_wordAt_31 : decode cX12_wordAt 31 = .ok (.istore 6, 2) := by decide +kernel
theorem dX12_wordAt_33 : decode cX12_wordAt 33 = .ok (.iload 6, 2) := by decide +kernel
theorem dX12_wordAt_35 : decode cX12_wordAt 35 = .ok (.iload_n 3, 1) := by decide +kernel
theorem dX12_wordAt_36 : decode cX12_wordAt 36 = .ok (.if_icmp .ge 43, 3) := by decide +kernel
theorem dX12_wordAt_39 : decode cX12_wordAt 39 = .ok (.iload 5, 2) := by decide +kernel
theorem dX12_wordAt_41 : decode cX12_wordAt 41 = .ok (.ifCond .eq 38, 3) := by decide +kernel
theorem dX12_wordAt_44 : decode cX12_wordAt 44 = .ok (.aload_n 0, 1) := by decide +kernel
theorem dX12_wordAt_45 : decode cX12_wordAt 45 = .ok (.getfield 17, 3) := by decide +kernel
theorem dX12_wordAt_48 : decode cX12_wordAt 48 = .ok (.bipush 6, 2) := by decide +kernel
theorem dX12_wordAt_50 : decode cX12_wordAt 50 = .ok (.iload 4, 2) := by decide +kernel
theorem dX12_wordAt_52 : decode cX12_wordAt 52 = .ok (.imul, 1) := by decide +kernel
theorem dX12_wordAt_53 : decode cX12_wordAt 53 = .ok (.iload 6, 2) := by decide +kernel
theorem dX12_wordAt_55 : decode cX12_wordAt 55 = .ok (.iadd, 1) := by decide +kernel
theorem dX12_wordAt_56 : decode cX12_wordAt 56 = .ok (.iaload, 1) := by decide +kernel
theorem dX12_wordAt_57 : decode cX12_wordAt 57 = .ok (.aload_n 1, 1) := by decide +kernel
theorem dX12_wordAt_58 : decode cX12_wordAt 58 = .ok (.iload_n 2, 1) := by decide +kernel
theorem dX12_wordAt_59 : decode cX12_wordAt 59 = .ok (.iload 6, 2) := by decide +kernel
theorem dX12_wordAt_61 : decode cX12_wordAt 61 = .ok (.iadd, 1) := by decide +kernel
theorem dX12_wordAt_62 : decode cX12_wordAt 62 = .ok (.iaload, 1) := by decide +kernel
theorem dX12_wordAt_63 : decode cX12_wordAt 63 = .ok (.if_icmp .ne 7, 3) := by decide +kernel
theorem dX12_wordAt_66 : decode cX12_wordAt 66 = .ok (.iconst 1, 1) := by decide +kernel
theorem dX12_wordAt_67 : decode cX12_wordAt 67 = .ok (.goto 4, 3) := by decide +kernel
theorem dX12_wordAt_70 : decode cX12_wordAt 70 = .ok (.iconst 0, 1) := by decide +kernel
theorem dX12_wordAt_71 : decode cX12_wordAt 71 = .ok (.istore 5, 2) := by decide +kernel
theorem dX12_wordAt_73 : decode cX12_wordAt 73 = .ok (.iinc 6 1, 3) := by decide +kernel
theorem dX12_wordAt_76 : decode cX12_wordAt 76 = .ok (.goto (-43), 3) := by decide +kernel
theorem dX12_wordAt_79 : decode cX12_wordAt 79 = .ok (.iload 5, 2) := by decide +kernel
theorem dX12_wordAt_81 : decode cX12_wordAt 81 = .ok (.ifCond .eq 6, 3) := by decide +kernel
theorem dX12_wordAt_84 : decode cX12_wordAt 84 = .ok (.iload 4, 2) := by decide +kernel
theorem dX12_wordAt_86 : decode cX12_wordAt 86 = .ok (.ireturn, 1) := by decide +kernel
theorem dX12_wordAt_87 : decode cX12_wordAt 87 = .ok (.iinc 4 1, 3) := by decide +kernel
theorem dX12_wordAt_90 : decode cX12_wordAt 90 = .ok (.goto (-87), 3) := by decide +kernel
theorem dX12_wordAt_93 : decode cX12_wordAt 93 = .ok (.iconst (-1), 1) := by decide +kernel
theorem dX12_wordAt_94 : decode cX12_wordAt 94 = .ok (.ireturn, 1) := by decide +kernel
theorem dX12_word_0 : decode cX12_word 0 = .ok (.aload_n 0, 1) := by decide +kernel
theorem dX12_word_1 : decode cX12_word 1 = .ok (.iconst 0, 1) := by decide +kernel
theorem dX12_word_2 : decode cX12_word 2 = .ok (.putfield 1, 3) := by decide +kernel
theorem dX12_word_5 : decode cX12_word 5 = .ok (.aload_n 0, 1) := by decide +kernel
theorem dX12_word_6 : decode cX12_word 6 = .ok (.getfield 109, 3) := by decide +kernel
theorem dX12_word_9 : decode cX12_word 9 = .ok (.istore_n 1, 1) := by decide +kernel
theorem dX12_word_10 : decode cX12_word 10 = .ok (.aload_n 0, 1) := by decide +kernel
theorem dX12_word_11 : decode cX12_word 11 = .ok (.iconst 0, 1) := by decide +kernel
theorem dX12_word_12 : decode cX12_word 12 = .ok (.putfield 109, 3) := by decide +kernel
theorem dX12_word_15 : decode cX12_word 15 = .ok (.iload_n 1, 1) := by decide +kernel
theorem dX12_word_16 : decode cX12_word 16 = .ok (.i2l, 1) := by decide +kernel
theorem dX12_word_17 : decode cX12_word 17 = .ok (.lconst 1, 1) := by decide +kernel
theorem dX12_word_18 : decode cX12_word 18 = .ok (.ldc2_w 125, 3) := by decide +kernel
theorem dX12_word_21 : decode cX12_word 21 = .ok (.invokestatic 105, 3) := by decide +kernel
theorem dX12_word_24 : decode cX12_word 24 = .ok (.istore_n 2, 1) := by decide +kernel
theorem dX12_word_25 : decode cX12_word 25 = .ok (.iconst 0, 1) := by decide +kernel
theorem dX12_word_26 : decode cX12_word 26 = .ok (.istore_n 3, 1) := by decide +kernel
theorem dX12_word_27 : decode cX12_word 27 = .ok (.iload_n 3, 1) := by decide +kernel
theorem dX12_word_28 : decode cX12_word 28 = .ok (.iload_n 1, 1) := by decide +kernel
theorem dX12_word_29 : decode cX12_word 29 = .ok (.if_icmp .ge 23, 3) := by decide +kernel
theorem dX12_word_32 : decode cX12_word 32 = .ok (.iload_n 2, 1) := by decide +kernel
theorem dX12_word_33 : decode cX12_word 33 = .ok (.ifCond .eq 19, 3) := by decide +kernel
theorem dX12_word_36 : decode cX12_word 36 = .ok (.aload_n 0, 1) := by decide +kernel
theorem dX12_word_37 : decode cX12_word 37 = .ok (.getfield 13, 3) := by decide +kernel
theorem dX12_word_40 : decode cX12_word 40 = .ok (.iload_n 3, 1) := by decide +kernel
theorem dX12_word_41 : decode cX12_word 41 = .ok (.iaload, 1) := by decide +kernel
theorem dX12_word_42 : decode cX12_word 42 = .ok (.invokestatic 127, 3) := by decide +kernel
theorem dX12_word_45 : decode cX12_word 45 = .ok (.istore_n 2, 1) := by decide +kernel
theorem dX12_word_46 : decode cX12_word 46 = .ok (.iinc 3 1, 3) := by decide +kernel
theorem dX12_word_49 : decode cX12_word 49 = .ok (.goto (-22), 3) := by decide +kernel
theorem dX12_word_52 : decode cX12_word 52 = .ok (.iload_n 2, 1) := by decide +kernel
theorem dX12_word_53 : decode cX12_word 53 = .ok (.ifCond .ne 6, 3) := by decide +kernel
theorem dX12_word_56 : decode cX12_word 56 = .ok (.bipush (-3), 2) := by decide +kernel
theorem dX12_word_58 : decode cX12_word 58 = .ok (.ireturn, 1) := by decide +kernel
theorem dX12_word_59 : decode cX12_word 59 = .ok (.aload_n 0, 1) := by decide +kernel
theorem dX12_word_60 : decode cX12_word 60 = .ok (.aload_n 0, 1) := by decide +kernel
theorem dX12_word_61 : decode cX12_word 61 = .ok (.getfield 13, 3) := by decide +kernel
theorem dX12_word_64 : decode cX12_word 64 = .ok (.iconst 0, 1) := by decide +kernel
theorem dX12_word_65 : decode cX12_word 65 = .ok (.iload_n 1, 1) := by decide +kernel
theorem dX12_word_66 : decode cX12_word 66 = .ok (.invokevirtual 131, 3) := by decide +kernel
theorem dX12_word_69 : decode cX12_word 69 = .ok (.istore_n 3, 1) := by decide +kernel
theorem dX12_word_70 : decode cX12_word 70 = .ok (.iload_n 3, 1) := by decide +kernel
theorem dX12_word_71 : decode cX12_word 71 = .ok (.ifCond .ge 12, 3) := by decide +kernel
theorem dX12_word_74 : decode cX12_word 74 = .ok (.aload_n 0, 1) := by decide +kernel
theorem dX12_word_75 : decode cX12_word 75 = .ok (.getfield 122, 3) := by decide +kernel
theorem dX12_word_78 : decode cX12_word 78 = .ok (.bipush 16, 2) := by decide +kernel
theorem dX12_word_80 : decode cX12_word 80 = .ok (.if_icmp .ne 14, 3) := by decide +kernel
theorem dX12_word_83 : decode cX12_word 83 = .ok (.iload_n 3, 1) := by decide +kernel
theorem dX12_word_84 : decode cX12_word 84 = .ok (.ifCond .lt 7, 3) := by decide +kernel
theorem dX12_word_87 : decode cX12_word 87 = .ok (.iload_n 3, 1) := by decide +kernel
theorem dX12_word_88 : decode cX12_word 88 = .ok (.goto 5, 3) := by decide +kernel
theorem dX12_word_91 : decode cX12_word 91 = .ok (.bipush (-5), 2) := by decide +kernel
theorem dX12_word_93 : decode cX12_word 93 = .ok (.ireturn, 1) := by decide +kernel
theorem dX12_word_94 : decode cX12_word 94 = .ok (.iconst 0, 1) := by decide +kernel
theorem dX12_word_95 : decode cX12_word 95 = .ok (.istore 4, 2) := by decide +kernel
theorem dX12_word_97 : decode cX12_word 97 = .ok (.iload 4, 2) := by decide +kernel
theorem dX12_word_99 : decode cX12_word 99 = .ok (.iload_n 1, 1) := by decide +kernel
theorem dX12_word_100 : decode cX12_word 100 = .ok (.if_icmp .ge 31, 3) := by decide +kernel
theorem dX12_word_103 : decode cX12_word 103 = .ok (.aload_n 0, 1) := by decide +kernel
theorem dX12_word_104 : decode cX12_word 104 = .ok (.getfield 17, 3) := by decide +kernel
theorem dX12_word_107 : decode cX12_word 107 = .ok (.bipush 6, 2) := by decide +kernel
theorem dX12_word_109 : decode cX12_word 109 = .ok (.aload_n 0, 1) := by decide +kernel
theorem dX12_word_110 : decode cX12_word 110 = .ok (.getfield 122, 3) := by decide +kernel
theorem dX12_word_113 : decode cX12_word 113 = .ok (.imul, 1) := by decide +kernel
theorem dX12_word_114 : decode cX12_word 114 = .ok (.iload 4, 2) := by decide +kernel
theorem dX12_word_116 : decode cX12_word 116 = .ok (.iadd, 1) := by decide +kernel
theorem dX12_word_117 : decode cX12_word 117 = .ok (.aload_n 0, 1) := by decide +kernel
theorem dX12_word_118 : decode cX12_word 118 = .ok (.getfield 13, 3) := by decide +kernel
theorem dX12_word_121 : decode cX12_word 121 = .ok (.iload 4, 2) := by decide +kernel
theorem dX12_word_123 : decode cX12_word 123 = .ok (.iaload, 1) := by decide +kernel
theorem dX12_word_124 : decode cX12_word 124 = .ok (.iastore, 1) := by decide +kernel
theorem dX12_word_125 : decode cX12_word 125 = .ok (.iinc 4 1, 3) := by decide +kernel
theorem dX12_word_128 : decode cX12_word 128 = .ok (.goto (-31), 3) := by decide +kernel
theorem dX12_word_131 : decode cX12_word 131 = .ok (.aload_n 0, 1) := by decide +kernel
theorem dX12_word_132 : decode cX12_word 132 = .ok (.getfield 20, 3) := by decide +kernel
theorem dX12_word_135 : decode cX12_word 135 = .ok (.aload_n 0, 1) := by decide +kernel
theorem dX12_word_136 : decode cX12_word 136 = .ok (.getfield 122, 3) := by decide +kernel
theorem dX12_word_139 : decode cX12_word 139 = .ok (.iload_n 1, 1) := by decide +kernel
theorem dX12_word_140 : decode cX12_word 140 = .ok (.iastore, 1) := by decide +kernel
theorem dX12_word_141 : decode cX12_word 141 = .ok (.aload_n 0, 1) := by decide +kernel
theorem dX12_word_142 : decode cX12_word 142 = .ok (.dup, 1) := by decide +kernel
theorem dX12_word_143 : decode cX12_word 143 = .ok (.getfield 122, 3) := by decide +kernel
theorem dX12_word_146 : decode cX12_word 146 = .ok (.iconst 1, 1) := by decide +kernel
theorem dX12_word_147 : decode cX12_word 147 = .ok (.iadd, 1) := by decide +kernel
theorem dX12_word_148 : decode cX12_word 148 = .ok (.putfield 122, 3) := by decide +kernel
theorem dX12_word_151 : decode cX12_word 151 = .ok (.aload_n 0, 1) := by decide +kernel
theorem dX12_word_152 : decode cX12_word 152 = .ok (.getfield 122, 3) := by decide +kernel
theorem dX12_word_155 : decode cX12_word 155 = .ok (.iconst 1, 1) := by decide +kernel
theorem dX12_word_156 : decode cX12_word 156 = .ok (.isub, 1) := by decide +kernel
theorem dX12_word_157 : decode cX12_word 157 = .ok (.ireturn, 1) := by decide +kernel
theorem dX12_text_0 : decode cX12_text 0 = .ok (.aload_n 0, 1) := by decide +kernel
theorem dX12_text_1 : decode cX12_text 1 = .ok (.iconst 0, 1) := by decide +kernel
theorem dX12_text_2 : decode cX12_text 2 = .ok (.putfield 1, 3) := by decide +kernel
theorem dX12_text_5 : decode cX12_text 5 = .ok (.aload_n 0, 1) := by decide +kernel
theorem dX12_text_6 : decode cX12_text 6 = .ok (.getfield 109, 3) := by decide +kernel
theorem dX12_text_9 : decode cX12_text 9 = .ok (.istore_n 1, 1) := by decide +kernel
theorem dX12_text_10 : decode cX12_text 10 = .ok (.aload_n 0, 1) := by decide +kernel
theorem dX12_text_11 : decode cX12_text 11 = .ok (.iconst 0, 1) := by decide +kernel
theorem dX12_text_12 : decode cX12_text 12 = .ok (.putfield 109, 3) := by decide +kernel
theorem dX12_text_15 : decode cX12_text 15 = .ok (.iload_n 1, 1) := by decide +kernel
theorem dX12_text_16 : decode cX12_text 16 = .ok (.bipush 20, 2) := by decide +kernel
theorem dX12_text_18 : decode cX12_text 18 = .ok (.if_icmp .gt 7, 3) := by decide +kernel
theorem dX12_text_21 : decode cX12_text 21 = .ok (.iconst 1, 1) := by decide +kernel
theorem dX12_text_22 : decode cX12_text 22 = .ok (.goto 4, 3) := by decide +kernel
theorem dX12_text_25 : decode cX12_text 25 = .ok (.iconst 0, 1) := by decide +kernel
theorem dX12_text_26 : decode cX12_text 26 = .ok (.istore_n 2, 1) := by decide +kernel
theorem dX12_text_27 : decode cX12_text 27 = .ok (.iconst 0, 1) := by decide +kernel
theorem dX12_text_28 : decode cX12_text 28 = .ok (.istore_n 3, 1) := by decide +kernel
theorem dX12_text_29 : decode cX12_text 29 = .ok (.iload_n 3, 1) := by decide +kernel
theorem dX12_text_30 : decode cX12_text 30 = .ok (.iload_n 1, 1) := by decide +kernel
theorem dX12_text_31 : decode cX12_text 31 = .ok (.if_icmp .ge 23, 3) := by decide +kernel
theorem dX12_text_34 : decode cX12_text 34 = .ok (.iload_n 2, 1) := by decide +kernel
theorem dX12_text_35 : decode cX12_text 35 = .ok (.ifCond .eq 19, 3) := by decide +kernel
theorem dX12_text_38 : decode cX12_text 38 = .ok (.aload_n 0, 1) := by decide +kernel
theorem dX12_text_39 : decode cX12_text 39 = .ok (.getfield 13, 3) := by decide +kernel
theorem dX12_text_42 : decode cX12_text 42 = .ok (.iload_n 3, 1) := by decide +kernel
theorem dX12_text_43 : decode cX12_text 43 = .ok (.iaload, 1) := by decide +kernel
theorem dX12_text_44 : decode cX12_text 44 = .ok (.invokestatic 135, 3) := by decide +kernel
theorem dX12_text_47 : decode cX12_text 47 = .ok (.istore_n 2, 1) := by decide +kernel
theorem dX12_text_48 : decode cX12_text 48 = .ok (.iinc 3 1, 3) := by decide +kernel
theorem dX12_text_51 : decode cX12_text 51 = .ok (.goto (-22), 3) := by decide +kernel
theorem dX12_text_54 : decode cX12_text 54 = .ok (.iload_n 2, 1) := by decide +kernel
theorem dX12_text_55 : decode cX12_text 55 = .ok (.ifCond .ne 6, 3) := by decide +kernel
theorem dX12_text_58 : decode cX12_text 58 = .ok (.bipush (-3), 2) := by decide +kernel
theorem dX12_text_60 : decode cX12_text 60 = .ok (.ireturn, 1) := by decide +kernel
theorem dX12_text_61 : decode cX12_text 61 = .ok (.aload_n 0, 1) := by decide +kernel
theorem dX12_text_62 : decode cX12_text 62 = .ok (.getfield 138, 3) := by decide +kernel
theorem dX12_text_65 : decode cX12_text 65 = .ok (.bipush 24, 2) := by decide +kernel
theorem dX12_text_67 : decode cX12_text 67 = .ok (.if_icmp .ne 6, 3) := by decide +kernel
theorem dX12_text_70 : decode cX12_text 70 = .ok (.bipush (-5), 2) := by decide +kernel
theorem dX12_text_72 : decode cX12_text 72 = .ok (.ireturn, 1) := by decide +kernel
theorem dX12_text_73 : decode cX12_text 73 = .ok (.iconst 0, 1) := by decide +kernel
theorem dX12_text_74 : decode cX12_text 74 = .ok (.istore_n 3, 1) := by decide +kernel
theorem dX12_text_75 : decode cX12_text 75 = .ok (.iload_n 3, 1) := by decide +kernel
theorem dX12_text_76 : decode cX12_text 76 = .ok (.iload_n 1, 1) := by decide +kernel
theorem dX12_text_77 : decode cX12_text 77 = .ok (.if_icmp .ge 29, 3) := by decide +kernel
theorem dX12_text_80 : decode cX12_text 80 = .ok (.aload_n 0, 1) := by decide +kernel
theorem dX12_text_81 : decode cX12_text 81 = .ok (.getfield 23, 3) := by decide +kernel
theorem dX12_text_84 : decode cX12_text 84 = .ok (.bipush 20, 2) := by decide +kernel
theorem dX12_text_86 : decode cX12_text 86 = .ok (.aload_n 0, 1) := by decide +kernel
theorem dX12_text_87 : decode cX12_text 87 = .ok (.getfield 138, 3) := by decide +kernel
theorem dX12_text_90 : decode cX12_text 90 = .ok (.imul, 1) := by decide +kernel
theorem dX12_text_91 : decode cX12_text 91 = .ok (.iload_n 3, 1) := by decide +kernel
theorem dX12_text_92 : decode cX12_text 92 = .ok (.iadd, 1) := by decide +kernel
theorem dX12_text_93 : decode cX12_text 93 = .ok (.aload_n 0, 1) := by decide +kernel
theorem dX12_text_94 : decode cX12_text 94 = .ok (.getfield 13, 3) := by decide +kernel
theorem dX12_text_97 : decode cX12_text 97 = .ok (.iload_n 3, 1) := by decide +kernel
theorem dX12_text_98 : decode cX12_text 98 = .ok (.iaload, 1) := by decide +kernel
theorem dX12_text_99 : decode cX12_text 99 = .ok (.iastore, 1) := by decide +kernel
theorem dX12_text_100 : decode cX12_text 100 = .ok (.iinc 3 1, 3) := by decide +kernel
theorem dX12_text_103 : decode cX12_text 103 = .ok (.goto (-28), 3) := by decide +kernel
theorem dX12_text_106 : decode cX12_text 106 = .ok (.aload_n 0, 1) := by decide +kernel
theorem dX12_text_107 : decode cX12_text 107 = .ok (.getfield 26, 3) := by decide +kernel
theorem dX12_text_110 : decode cX12_text 110 = .ok (.aload_n 0, 1) := by decide +kernel
theorem dX12_text_111 : decode cX12_text 111 = .ok (.getfield 138, 3) := by decide +kernel
theorem dX12_text_114 : decode cX12_text 114 = .ok (.iload_n 1, 1) := by decide +kernel
theorem dX12_text_115 : decode cX12_text 115 = .ok (.iastore, 1) := by decide +kernel
theorem dX12_text_116 : decode cX12_text 116 = .ok (.aload_n 0, 1) := by decide +kernel
theorem dX12_text_117 : decode cX12_text 117 = .ok (.dup, 1) := by decide +kernel
theorem dX12_text_118 : decode cX12_text 118 = .ok (.getfield 138, 3) := by decide +kernel
theorem dX12_text_121 : decode cX12_text 121 = .ok (.iconst 1, 1) := by decide +kernel
theorem dX12_text_122 : decode cX12_text 122 = .ok (.iadd, 1) := by decide +kernel
theorem dX12_text_123 : decode cX12_text 123 = .ok (.putfield 138, 3) := by decide +kernel
theorem dX12_text_126 : decode cX12_text 126 = .ok (.aload_n 0, 1) := by decide +kernel
theorem dX12_text_127 : decode cX12_text 127 = .ok (.getfield 138, 3) := by decide +kernel
theorem dX12_text_130 : decode cX12_text 130 = .ok (.iconst 1, 1) := by decide +kernel
theorem dX12_text_131 : decode cX12_text 131 = .ok (.isub, 1) := by decide +kernel
theorem dX12_text_132 : decode cX12_text 132 = .ok (.ireturn, 1) := by decide +kernel
theorem dX12_actFits_0 : decode cX12_actFits 0 = .ok (.iload_n 0, 1) := by decide +kernel
theorem dX12_actFits_1 : decode cX12_actFits 1 = .ok (.tableswitch 187 0 6 #[43, 45, 77, 107, 137, 147, 177], 43) := by decide +kernel
theorem dX12_actFits_44 : decode cX12_actFits 44 = .ok (.iconst 1, 1) := by decide +kernel
theorem dX12_actFits_45 : decode cX12_actFits 45 = .ok (.ireturn, 1) := by decide +kernel
theorem dX12_actFits_46 : decode cX12_actFits 46 = .ok (.iload_n 1, 1) := by decide +kernel
theorem dX12_actFits_47 : decode cX12_actFits 47 = .ok (.i2l, 1) := by decide +kernel
theorem dX12_actFits_48 : decode cX12_actFits 48 = .ok (.lconst 0, 1) := by decide +kernel
theorem dX12_actFits_49 : decode cX12_actFits 49 = .ok (.ldc2_w 141, 3) := by decide +kernel
theorem dX12_actFits_52 : decode cX12_actFits 52 = .ok (.invokestatic 105, 3) := by decide +kernel
theorem dX12_actFits_55 : decode cX12_actFits 55 = .ok (.ifCond .eq 21, 3) := by decide +kernel
theorem dX12_actFits_58 : decode cX12_actFits 58 = .ok (.iload_n 2, 1) := by decide +kernel
theorem dX12_actFits_59 : decode cX12_actFits 59 = .ok (.i2l, 1) := by decide +kernel
theorem dX12_actFits_60 : decode cX12_actFits 60 = .ok (.ldc2_w 143, 3) := by decide +kernel
theorem dX12_actFits_63 : decode cX12_actFits 63 = .ok (.ldc2_w 145, 3) := by decide +kernel
theorem dX12_actFits_66 : decode cX12_actFits 66 = .ok (.invokestatic 105, 3) := by decide +kernel
theorem dX12_actFits_69 : decode cX12_actFits 69 = .ok (.ifCond .eq 7, 3) := by decide +kernel
theorem dX12_actFits_72 : decode cX12_actFits 72 = .ok (.iconst 1, 1) := by decide +kernel
theorem dX12_actFits_73 : decode cX12_actFits 73 = .ok (.goto 4, 3) := by decide +kernel
theorem dX12_actFits_76 : decode cX12_actFits 76 = .ok (.iconst 0, 1) := by decide +kernel
theorem dX12_actFits_77 : decode cX12_actFits 77 = .ok (.ireturn, 1) := by decide +kernel
theorem dX12_actFits_78 : decode cX12_actFits 78 = .ok (.iload_n 1, 1) := by decide +kernel
theorem dX12_actFits_79 : decode cX12_actFits 79 = .ok (.i2l, 1) := by decide +kernel
theorem dX12_actFits_80 : decode cX12_actFits 80 = .ok (.lconst 0, 1) := by decide +kernel
theorem dX12_actFits_81 : decode cX12_actFits 81 = .ok (.ldc2_w 141, 3) := by decide +kernel
theorem dX12_actFits_84 : decode cX12_actFits 84 = .ok (.invokestatic 105, 3) := by decide +kernel
theorem dX12_actFits_87 : decode cX12_actFits 87 = .ok (.ifCond .eq 19, 3) := by decide +kernel
theorem dX12_actFits_90 : decode cX12_actFits 90 = .ok (.iload_n 2, 1) := by decide +kernel
theorem dX12_actFits_91 : decode cX12_actFits 91 = .ok (.i2l, 1) := by decide +kernel
theorem dX12_actFits_92 : decode cX12_actFits 92 = .ok (.lconst 0, 1) := by decide +kernel
theorem dX12_actFits_93 : decode cX12_actFits 93 = .ok (.ldc2_w 141, 3) := by decide +kernel
theorem dX12_actFits_96 : decode cX12_actFits 96 = .ok (.invokestatic 105, 3) := by decide +kernel
theorem dX12_actFits_99 : decode cX12_actFits 99 = .ok (.ifCond .eq 7, 3) := by decide +kernel
theorem dX12_actFits_102 : decode cX12_actFits 102 = .ok (.iconst 1, 1) := by decide +kernel
theorem dX12_actFits_103 : decode cX12_actFits 103 = .ok (.goto 4, 3) := by decide +kernel
theorem dX12_actFits_106 : decode cX12_actFits 106 = .ok (.iconst 0, 1) := by decide +kernel
theorem dX12_actFits_107 : decode cX12_actFits 107 = .ok (.ireturn, 1) := by decide +kernel
theorem dX12_actFits_108 : decode cX12_actFits 108 = .ok (.iload_n 1, 1) := by decide +kernel
theorem dX12_actFits_109 : decode cX12_actFits 109 = .ok (.i2l, 1) := by decide +kernel
theorem dX12_actFits_110 : decode cX12_actFits 110 = .ok (.lconst 0, 1) := by decide +kernel
theorem dX12_actFits_111 : decode cX12_actFits 111 = .ok (.ldc2_w 147, 3) := by decide +kernel
theorem dX12_actFits_114 : decode cX12_actFits 114 = .ok (.invokestatic 105, 3) := by decide +kernel
theorem dX12_actFits_117 : decode cX12_actFits 117 = .ok (.ifCond .eq 19, 3) := by decide +kernel
theorem dX12_actFits_120 : decode cX12_actFits 120 = .ok (.iload_n 2, 1) := by decide +kernel
theorem dX12_actFits_121 : decode cX12_actFits 121 = .ok (.i2l, 1) := by decide +kernel
theorem dX12_actFits_122 : decode cX12_actFits 122 = .ok (.lconst 0, 1) := by decide +kernel
theorem dX12_actFits_123 : decode cX12_actFits 123 = .ok (.ldc2_w 141, 3) := by decide +kernel
theorem dX12_actFits_126 : decode cX12_actFits 126 = .ok (.invokestatic 105, 3) := by decide +kernel
theorem dX12_actFits_129 : decode cX12_actFits 129 = .ok (.ifCond .eq 7, 3) := by decide +kernel
theorem dX12_actFits_132 : decode cX12_actFits 132 = .ok (.iconst 1, 1) := by decide +kernel
theorem dX12_actFits_133 : decode cX12_actFits 133 = .ok (.goto 4, 3) := by decide +kernel
theorem dX12_actFits_136 : decode cX12_actFits 136 = .ok (.iconst 0, 1) := by decide +kernel
theorem dX12_actFits_137 : decode cX12_actFits 137 = .ok (.ireturn, 1) := by decide +kernel
theorem dX12_actFits_138 : decode cX12_actFits 138 = .ok (.iload_n 1, 1) := by decide +kernel
theorem dX12_actFits_139 : decode cX12_actFits 139 = .ok (.i2l, 1) := by decide +kernel
theorem dX12_actFits_140 : decode cX12_actFits 140 = .ok (.lconst 0, 1) := by decide +kernel
theorem dX12_actFits_141 : decode cX12_actFits 141 = .ok (.ldc2_w 147, 3) := by decide +kernel
theorem dX12_actFits_144 : decode cX12_actFits 144 = .ok (.invokestatic 105, 3) := by decide +kernel
theorem dX12_actFits_147 : decode cX12_actFits 147 = .ok (.ireturn, 1) := by decide +kernel
theorem dX12_actFits_148 : decode cX12_actFits 148 = .ok (.iload_n 1, 1) := by decide +kernel
theorem dX12_actFits_149 : decode cX12_actFits 149 = .ok (.i2l, 1) := by decide +kernel
theorem dX12_actFits_150 : decode cX12_actFits 150 = .ok (.lconst 0, 1) := by decide +kernel
theorem dX12_actFits_151 : decode cX12_actFits 151 = .ok (.ldc2_w 141, 3) := by decide +kernel
theorem dX12_actFits_154 : decode cX12_actFits 154 = .ok (.invokestatic 105, 3) := by decide +kernel
theorem dX12_actFits_157 : decode cX12_actFits 157 = .ok (.ifCond .eq 19, 3) := by decide +kernel
theorem dX12_actFits_160 : decode cX12_actFits 160 = .ok (.iload_n 2, 1) := by decide +kernel
theorem dX12_actFits_161 : decode cX12_actFits 161 = .ok (.i2l, 1) := by decide +kernel
theorem dX12_actFits_162 : decode cX12_actFits 162 = .ok (.lconst 1, 1) := by decide +kernel
theorem dX12_actFits_163 : decode cX12_actFits 163 = .ok (.ldc2_w 149, 3) := by decide +kernel
theorem dX12_actFits_166 : decode cX12_actFits 166 = .ok (.invokestatic 105, 3) := by decide +kernel
theorem dX12_actFits_169 : decode cX12_actFits 169 = .ok (.ifCond .eq 7, 3) := by decide +kernel
theorem dX12_actFits_172 : decode cX12_actFits 172 = .ok (.iconst 1, 1) := by decide +kernel
theorem dX12_actFits_173 : decode cX12_actFits 173 = .ok (.goto 4, 3) := by decide +kernel
theorem dX12_actFits_176 : decode cX12_actFits 176 = .ok (.iconst 0, 1) := by decide +kernel
theorem dX12_actFits_177 : decode cX12_actFits 177 = .ok (.ireturn, 1) := by decide +kernel
theorem dX12_actFits_178 : decode cX12_actFits 178 = .ok (.iload_n 1, 1) := by decide +kernel
theorem dX12_actFits_179 : decode cX12_actFits 179 = .ok (.i2l, 1) := by decide +kernel
theorem dX12_actFits_180 : decode cX12_actFits 180 = .ok (.lconst 1, 1) := by decide +kernel
theorem dX12_actFits_181 : decode cX12_actFits 181 = .ok (.ldc2_w 151, 3) := by decide +kernel
theorem dX12_actFits_184 : decode cX12_actFits 184 = .ok (.invokestatic 105, 3) := by decide +kernel
theorem dX12_actFits_187 : decode cX12_actFits 187 = .ok (.ireturn, 1) := by decide +kernel
theorem dX12_actFits_188 : decode cX12_actFits 188 = .ok (.iconst 0, 1) := by decide +kernel
theorem dX12_actFits_189 : decode cX12_actFits 189 = .ok (.ireturn, 1) := by decide +kernel
theorem dX12_rule_0 : decode cX12_rule 0 = .ok (.aload_n 0, 1) := by decide +kernel
theorem dX12_rule_1 : decode cX12_rule 1 = .ok (.iconst 0, 1) := by decide +kernel
theorem dX12_rule_2 : decode cX12_rule 2 = .ok (.putfield 1, 3) := by decide +kernel
theorem dX12_rule_5 : decode cX12_rule 5 = .ok (.iload_n 2, 1) := by decide +kernel
theorem dX12_rule_6 : decode cX12_rule 6 = .ok (.i2l, 1) := by decide +kernel
theorem dX12_rule_7 : decode cX12_rule 7 = .ok (.lconst 0, 1) := by decide +kernel
theorem dX12_rule_8 : decode cX12_rule 8 = .ok (.aload_n 0, 1) := by decide +kernel
theorem dX12_rule_9 : decode cX12_rule 9 = .ok (.getfield 122, 3) := by decide +kernel
theorem dX12_rule_12 : decode cX12_rule 12 = .ok (.iconst 1, 1) := by decide +kernel
theorem dX12_rule_13 : decode cX12_rule 13 = .ok (.isub, 1) := by decide +kernel
theorem dX12_rule_14 : decode cX12_rule 14 = .ok (.i2l, 1) := by decide +kernel
theorem dX12_rule_15 : decode cX12_rule 15 = .ok (.invokestatic 105, 3) := by decide +kernel
theorem dX12_rule_18 : decode cX12_rule 18 = .ok (.ifCond .eq 20, 3) := by decide +kernel
theorem dX12_rule_21 : decode cX12_rule 21 = .ok (.iload 8, 2) := by decide +kernel
theorem dX12_rule_23 : decode cX12_rule 23 = .ok (.i2l, 1) := by decide +kernel
theorem dX12_rule_24 : decode cX12_rule 24 = .ok (.lconst 0, 1) := by decide +kernel
theorem dX12_rule_25 : decode cX12_rule 25 = .ok (.aload_n 0, 1) := by decide +kernel
theorem dX12_rule_26 : decode cX12_rule 26 = .ok (.getfield 138, 3) := by decide +kernel
theorem dX12_rule_29 : decode cX12_rule 29 = .ok (.iconst 1, 1) := by decide +kernel
theorem dX12_rule_30 : decode cX12_rule 30 = .ok (.isub, 1) := by decide +kernel
theorem dX12_rule_31 : decode cX12_rule 31 = .ok (.i2l, 1) := by decide +kernel
theorem dX12_rule_32 : decode cX12_rule 32 = .ok (.invokestatic 105, 3) := by decide +kernel
theorem dX12_rule_35 : decode cX12_rule 35 = .ok (.ifCond .ne 6, 3) := by decide +kernel
theorem dX12_rule_38 : decode cX12_rule 38 = .ok (.bipush (-2), 2) := by decide +kernel
theorem dX12_rule_40 : decode cX12_rule 40 = .ok (.ireturn, 1) := by decide +kernel
theorem dX12_rule_41 : decode cX12_rule 41 = .ok (.iload_n 1, 1) := by decide +kernel
theorem dX12_rule_42 : decode cX12_rule 42 = .ok (.i2l, 1) := by decide +kernel
theorem dX12_rule_43 : decode cX12_rule 43 = .ok (.ldc2_w 153, 3) := by decide +kernel
theorem dX12_rule_46 : decode cX12_rule 46 = .ok (.ldc2_w 141, 3) := by decide +kernel
theorem dX12_rule_49 : decode cX12_rule 49 = .ok (.invokestatic 105, 3) := by decide +kernel
theorem dX12_rule_52 : decode cX12_rule 52 = .ok (.ifCond .eq 44, 3) := by decide +kernel
theorem dX12_rule_55 : decode cX12_rule 55 = .ok (.iload 9, 2) := by decide +kernel
theorem dX12_rule_57 : decode cX12_rule 57 = .ok (.i2l, 1) := by decide +kernel
theorem dX12_rule_58 : decode cX12_rule 58 = .ok (.ldc2_w 153, 3) := by decide +kernel
theorem dX12_rule_61 : decode cX12_rule 61 = .ok (.ldc2_w 141, 3) := by decide +kernel
theorem dX12_rule_64 : decode cX12_rule 64 = .ok (.invokestatic 105, 3) := by decide +kernel
theorem dX12_rule_67 : decode cX12_rule 67 = .ok (.ifCond .eq 29, 3) := by decide +kernel
theorem dX12_rule_70 : decode cX12_rule 70 = .ok (.iload_n 3, 1) := by decide +kernel
theorem dX12_rule_71 : decode cX12_rule 71 = .ok (.i2l, 1) := by decide +kernel
theorem dX12_rule_72 : decode cX12_rule 72 = .ok (.ldc2_w 153, 3) := by decide +kernel
theorem dX12_rule_75 : decode cX12_rule 75 = .ok (.ldc2_w 141, 3) := by decide +kernel
theorem dX12_rule_78 : decode cX12_rule 78 = .ok (.invokestatic 105, 3) := by decide +kernel
theorem dX12_rule_81 : decode cX12_rule 81 = .ok (.ifCond .eq 15, 3) := by decide +kernel
theorem dX12_rule_84 : decode cX12_rule 84 = .ok (.iload 5, 2) := by decide +kernel
theorem dX12_rule_86 : decode cX12_rule 86 = .ok (.iload 6, 2) := by decide +kernel
theorem dX12_rule_88 : decode cX12_rule 88 = .ok (.iload 7, 2) := by decide +kernel
theorem dX12_rule_90 : decode cX12_rule 90 = .ok (.invokestatic 155, 3) := by decide +kernel
theorem dX12_rule_93 : decode cX12_rule 93 = .ok (.ifCond .ne 6, 3) := by decide +kernel
theorem dX12_rule_96 : decode cX12_rule 96 = .ok (.bipush (-3), 2) := by decide +kernel
theorem dX12_rule_98 : decode cX12_rule 98 = .ok (.ireturn, 1) := by decide +kernel
theorem dX12_rule_99 : decode cX12_rule 99 = .ok (.aload_n 0, 1) := by decide +kernel
theorem dX12_rule_100 : decode cX12_rule 100 = .ok (.getfield 159, 3) := by decide +kernel
theorem dX12_rule_103 : decode cX12_rule 103 = .ok (.bipush 30, 2) := by decide +kernel
theorem dX12_rule_105 : decode cX12_rule 105 = .ok (.if_icmp .ne 6, 3) := by decide +kernel
theorem dX12_rule_108 : decode cX12_rule 108 = .ok (.bipush (-5), 2) := by decide +kernel
theorem dX12_rule_110 : decode cX12_rule 110 = .ok (.ireturn, 1) := by decide +kernel
theorem dX12_rule_111 : decode cX12_rule 111 = .ok (.aload_n 0, 1) := by decide +kernel
theorem dX12_rule_112 : decode cX12_rule 112 = .ok (.getfield 159, 3) := by decide +kernel
theorem dX12_rule_115 : decode cX12_rule 115 = .ok (.istore 10, 2) := by decide +kernel
theorem dX12_rule_117 : decode cX12_rule 117 = .ok (.aload_n 0, 1) := by decide +kernel
theorem dX12_rule_118 : decode cX12_rule 118 = .ok (.dup, 1) := by decide +kernel
theorem dX12_rule_119 : decode cX12_rule 119 = .ok (.getfield 159, 3) := by decide +kernel
theorem dX12_rule_122 : decode cX12_rule 122 = .ok (.iconst 1, 1) := by decide +kernel
theorem dX12_rule_123 : decode cX12_rule 123 = .ok (.iadd, 1) := by decide +kernel
theorem dX12_rule_124 : decode cX12_rule 124 = .ok (.putfield 159, 3) := by decide +kernel
theorem dX12_rule_127 : decode cX12_rule 127 = .ok (.aload_n 0, 1) := by decide +kernel
theorem dX12_rule_128 : decode cX12_rule 128 = .ok (.getfield 29, 3) := by decide +kernel
theorem dX12_rule_131 : decode cX12_rule 131 = .ok (.iload 10, 2) := by decide +kernel
theorem dX12_rule_133 : decode cX12_rule 133 = .ok (.iload_n 1, 1) := by decide +kernel
theorem dX12_rule_134 : decode cX12_rule 134 = .ok (.iastore, 1) := by decide +kernel
theorem dX12_rule_135 : decode cX12_rule 135 = .ok (.aload_n 0, 1) := by decide +kernel
theorem dX12_rule_136 : decode cX12_rule 136 = .ok (.getfield 32, 3) := by decide +kernel
theorem dX12_rule_139 : decode cX12_rule 139 = .ok (.iload 10, 2) := by decide +kernel
theorem dX12_rule_141 : decode cX12_rule 141 = .ok (.iload_n 2, 1) := by decide +kernel
theorem dX12_rule_142 : decode cX12_rule 142 = .ok (.iastore, 1) := by decide +kernel
theorem dX12_rule_143 : decode cX12_rule 143 = .ok (.aload_n 0, 1) := by decide +kernel
theorem dX12_rule_144 : decode cX12_rule 144 = .ok (.getfield 35, 3) := by decide +kernel
theorem dX12_rule_147 : decode cX12_rule 147 = .ok (.iload 10, 2) := by decide +kernel
theorem dX12_rule_149 : decode cX12_rule 149 = .ok (.iload_n 3, 1) := by decide +kernel
theorem dX12_rule_150 : decode cX12_rule 150 = .ok (.iastore, 1) := by decide +kernel
theorem dX12_rule_151 : decode cX12_rule 151 = .ok (.aload_n 0, 1) := by decide +kernel
theorem dX12_rule_152 : decode cX12_rule 152 = .ok (.getfield 38, 3) := by decide +kernel
theorem dX12_rule_155 : decode cX12_rule 155 = .ok (.iload 10, 2) := by decide +kernel
theorem dX12_rule_157 : decode cX12_rule 157 = .ok (.iload 4, 2) := by decide +kernel
theorem dX12_rule_159 : decode cX12_rule 159 = .ok (.iastore, 1) := by decide +kernel
theorem dX12_rule_160 : decode cX12_rule 160 = .ok (.aload_n 0, 1) := by decide +kernel
theorem dX12_rule_161 : decode cX12_rule 161 = .ok (.getfield 41, 3) := by decide +kernel
theorem dX12_rule_164 : decode cX12_rule 164 = .ok (.iload 10, 2) := by decide +kernel
theorem dX12_rule_166 : decode cX12_rule 166 = .ok (.iload 5, 2) := by decide +kernel
theorem dX12_rule_168 : decode cX12_rule 168 = .ok (.iastore, 1) := by decide +kernel
theorem dX12_rule_169 : decode cX12_rule 169 = .ok (.aload_n 0, 1) := by decide +kernel
theorem dX12_rule_170 : decode cX12_rule 170 = .ok (.getfield 44, 3) := by decide +kernel
theorem dX12_rule_173 : decode cX12_rule 173 = .ok (.iload 10, 2) := by decide +kernel
theorem dX12_rule_175 : decode cX12_rule 175 = .ok (.iload 6, 2) := by decide +kernel
theorem dX12_rule_177 : decode cX12_rule 177 = .ok (.iastore, 1) := by decide +kernel
theorem dX12_rule_178 : decode cX12_rule 178 = .ok (.aload_n 0, 1) := by decide +kernel
theorem dX12_rule_179 : decode cX12_rule 179 = .ok (.getfield 47, 3) := by decide +kernel
theorem dX12_rule_182 : decode cX12_rule 182 = .ok (.iload 10, 2) := by decide +kernel
theorem dX12_rule_184 : decode cX12_rule 184 = .ok (.iload 7, 2) := by decide +kernel
theorem dX12_rule_186 : decode cX12_rule 186 = .ok (.iastore, 1) := by decide +kernel
theorem dX12_rule_187 : decode cX12_rule 187 = .ok (.aload_n 0, 1) := by decide +kernel
theorem dX12_rule_188 : decode cX12_rule 188 = .ok (.getfield 50, 3) := by decide +kernel
theorem dX12_rule_191 : decode cX12_rule 191 = .ok (.iload 10, 2) := by decide +kernel
theorem dX12_rule_193 : decode cX12_rule 193 = .ok (.iload 8, 2) := by decide +kernel
theorem dX12_rule_195 : decode cX12_rule 195 = .ok (.iastore, 1) := by decide +kernel
theorem dX12_rule_196 : decode cX12_rule 196 = .ok (.aload_n 0, 1) := by decide +kernel
theorem dX12_rule_197 : decode cX12_rule 197 = .ok (.getfield 53, 3) := by decide +kernel
theorem dX12_rule_200 : decode cX12_rule 200 = .ok (.iload 10, 2) := by decide +kernel
theorem dX12_rule_202 : decode cX12_rule 202 = .ok (.iload 9, 2) := by decide +kernel
theorem dX12_rule_204 : decode cX12_rule 204 = .ok (.iastore, 1) := by decide +kernel
theorem dX12_rule_205 : decode cX12_rule 205 = .ok (.iload 10, 2) := by decide +kernel
theorem dX12_rule_207 : decode cX12_rule 207 = .ok (.ireturn, 1) := by decide +kernel
theorem dX12_holder_0 : decode cX12_holder 0 = .ok (.aload_n 0, 1) := by decide +kernel
theorem dX12_holder_1 : decode cX12_holder 1 = .ok (.iconst 0, 1) := by decide +kernel
theorem dX12_holder_2 : decode cX12_holder 2 = .ok (.putfield 1, 3) := by decide +kernel
theorem dX12_holder_5 : decode cX12_holder 5 = .ok (.iload_n 1, 1) := by decide +kernel
theorem dX12_holder_6 : decode cX12_holder 6 = .ok (.i2l, 1) := by decide +kernel
theorem dX12_holder_7 : decode cX12_holder 7 = .ok (.lconst 0, 1) := by decide +kernel
theorem dX12_holder_8 : decode cX12_holder 8 = .ok (.ldc2_w 147, 3) := by decide +kernel
theorem dX12_holder_11 : decode cX12_holder 11 = .ok (.invokestatic 105, 3) := by decide +kernel
theorem dX12_holder_14 : decode cX12_holder 14 = .ok (.ifCond .ne 6, 3) := by decide +kernel
theorem dX12_holder_17 : decode cX12_holder 17 = .ok (.bipush (-2), 2) := by decide +kernel
theorem dX12_holder_19 : decode cX12_holder 19 = .ok (.ireturn, 1) := by decide +kernel
theorem dX12_holder_20 : decode cX12_holder 20 = .ok (.iload_n 2, 1) := by decide +kernel
theorem dX12_holder_21 : decode cX12_holder 21 = .ok (.i2l, 1) := by decide +kernel
theorem dX12_holder_22 : decode cX12_holder 22 = .ok (.lconst 0, 1) := by decide +kernel
theorem dX12_holder_23 : decode cX12_holder 23 = .ok (.ldc2_w 162, 3) := by decide +kernel
theorem dX12_holder_26 : decode cX12_holder 26 = .ok (.invokestatic 105, 3) := by decide +kernel
theorem dX12_holder_29 : decode cX12_holder 29 = .ok (.ifCond .eq 20, 3) := by decide +kernel
theorem dX12_holder_32 : decode cX12_holder 32 = .ok (.iload_n 2, 1) := by decide +kernel
theorem dX12_holder_33 : decode cX12_holder 33 = .ok (.iconst 2, 1) := by decide +kernel
theorem dX12_holder_34 : decode cX12_holder 34 = .ok (.if_icmp .ne 18, 3) := by decide +kernel
theorem dX12_holder_37 : decode cX12_holder 37 = .ok (.iload_n 3, 1) := by decide +kernel
theorem dX12_holder_38 : decode cX12_holder 38 = .ok (.i2l, 1) := by decide +kernel
theorem dX12_holder_39 : decode cX12_holder 39 = .ok (.lconst 1, 1) := by decide +kernel
theorem dX12_holder_40 : decode cX12_holder 40 = .ok (.ldc2_w 164, 3) := by decide +kernel
theorem dX12_holder_43 : decode cX12_holder 43 = .ok (.invokestatic 105, 3) := by decide +kernel
theorem dX12_holder_46 : decode cX12_holder 46 = .ok (.ifCond .ne 6, 3) := by decide +kernel
theorem dX12_holder_49 : decode cX12_holder 49 = .ok (.bipush (-3), 2) := by decide +kernel
theorem dX12_holder_51 : decode cX12_holder 51 = .ok (.ireturn, 1) := by decide +kernel
theorem dX12_holder_52 : decode cX12_holder 52 = .ok (.aload_n 0, 1) := by decide +kernel
theorem dX12_holder_53 : decode cX12_holder 53 = .ok (.getfield 62, 3) := by decide +kernel
theorem dX12_holder_56 : decode cX12_holder 56 = .ok (.iload_n 1, 1) := by decide +kernel
theorem dX12_holder_57 : decode cX12_holder 57 = .ok (.iload_n 2, 1) := by decide +kernel
theorem dX12_holder_58 : decode cX12_holder 58 = .ok (.iastore, 1) := by decide +kernel
theorem dX12_holder_59 : decode cX12_holder 59 = .ok (.aload_n 0, 1) := by decide +kernel
theorem dX12_holder_60 : decode cX12_holder 60 = .ok (.getfield 65, 3) := by decide +kernel
theorem dX12_holder_63 : decode cX12_holder 63 = .ok (.iload_n 1, 1) := by decide +kernel
theorem dX12_holder_64 : decode cX12_holder 64 = .ok (.iload_n 3, 1) := by decide +kernel
theorem dX12_holder_65 : decode cX12_holder 65 = .ok (.iastore, 1) := by decide +kernel
theorem dX12_holder_66 : decode cX12_holder 66 = .ok (.aload_n 0, 1) := by decide +kernel
theorem dX12_holder_67 : decode cX12_holder 67 = .ok (.getfield 68, 3) := by decide +kernel
theorem dX12_holder_70 : decode cX12_holder 70 = .ok (.iload_n 1, 1) := by decide +kernel
theorem dX12_holder_71 : decode cX12_holder 71 = .ok (.iload 4, 2) := by decide +kernel
theorem dX12_holder_73 : decode cX12_holder 73 = .ok (.iastore, 1) := by decide +kernel
theorem dX12_holder_74 : decode cX12_holder 74 = .ok (.iconst 1, 1) := by decide +kernel
theorem dX12_holder_75 : decode cX12_holder 75 = .ok (.ireturn, 1) := by decide +kernel
theorem dX12_seed_0 : decode cX12_seed 0 = .ok (.aload_n 0, 1) := by decide +kernel
theorem dX12_seed_1 : decode cX12_seed 1 = .ok (.iconst 0, 1) := by decide +kernel
theorem dX12_seed_2 : decode cX12_seed 2 = .ok (.putfield 1, 3) := by decide +kernel
theorem dX12_seed_5 : decode cX12_seed 5 = .ok (.aload_n 0, 1) := by decide +kernel
theorem dX12_seed_6 : decode cX12_seed 6 = .ok (.getfield 97, 3) := by decide +kernel
theorem dX12_seed_9 : decode cX12_seed 9 = .ok (.istore_n 2, 1) := by decide +kernel
theorem dX12_seed_10 : decode cX12_seed 10 = .ok (.aload_n 0, 1) := by decide +kernel
theorem dX12_seed_11 : decode cX12_seed 11 = .ok (.iload_n 1, 1) := by decide +kernel
theorem dX12_seed_12 : decode cX12_seed 12 = .ok (.putfield 97, 3) := by decide +kernel
theorem dX12_seed_15 : decode cX12_seed 15 = .ok (.iload_n 2, 1) := by decide +kernel
theorem dX12_seed_16 : decode cX12_seed 16 = .ok (.ireturn, 1) := by decide +kernel
theorem dX12_begin_0 : decode cX12_begin 0 = .ok (.iconst 0, 1) := by decide +kernel
theorem dX12_begin_1 : decode cX12_begin 1 = .ok (.istore_n 1, 1) := by decide +kernel
theorem dX12_begin_2 : decode cX12_begin 2 = .ok (.iload_n 1, 1) := by decide +kernel
theorem dX12_begin_3 : decode cX12_begin 3 = .ok (.bipush 12, 2) := by decide +kernel
theorem dX12_begin_5 : decode cX12_begin 5 = .ok (.if_icmp .ge 16, 3) := by decide +kernel
theorem dX12_begin_8 : decode cX12_begin 8 = .ok (.aload_n 0, 1) := by decide +kernel
theorem dX12_begin_9 : decode cX12_begin 9 = .ok (.getfield 75, 3) := by decide +kernel
theorem dX12_begin_12 : decode cX12_begin 12 = .ok (.iload_n 1, 1) := by decide +kernel
theorem dX12_begin_13 : decode cX12_begin 13 = .ok (.iconst 0, 1) := by decide +kernel
theorem dX12_begin_14 : decode cX12_begin 14 = .ok (.iastore, 1) := by decide +kernel
theorem dX12_begin_15 : decode cX12_begin 15 = .ok (.iinc 1 1, 3) := by decide +kernel
theorem dX12_begin_18 : decode cX12_begin 18 = .ok (.goto (-16), 3) := by decide +kernel
theorem dX12_begin_21 : decode cX12_begin 21 = .ok (.aload_n 0, 1) := by decide +kernel
theorem dX12_begin_22 : decode cX12_begin 22 = .ok (.getfield 75, 3) := by decide +kernel
theorem dX12_begin_25 : decode cX12_begin 25 = .ok (.iconst 2, 1) := by decide +kernel
theorem dX12_begin_26 : decode cX12_begin 26 = .ok (.aload_n 0, 1) := by decide +kernel
theorem dX12_begin_27 : decode cX12_begin 27 = .ok (.getfield 97, 3) := by decide +kernel
theorem dX12_begin_30 : decode cX12_begin 30 = .ok (.iastore, 1) := by decide +kernel
theorem dX12_begin_31 : decode cX12_begin 31 = .ok (.aload_n 0, 1) := by decide +kernel
theorem dX12_begin_32 : decode cX12_begin 32 = .ok (.getfield 75, 3) := by decide +kernel
theorem dX12_begin_35 : decode cX12_begin 35 = .ok (.iconst 3, 1) := by decide +kernel
theorem dX12_begin_36 : decode cX12_begin 36 = .ok (.bipush (-2), 2) := by decide +kernel
theorem dX12_begin_38 : decode cX12_begin 38 = .ok (.iastore, 1) := by decide +kernel
theorem dX12_begin_39 : decode cX12_begin 39 = .ok (.iconst 1, 1) := by decide +kernel
theorem dX12_begin_40 : decode cX12_begin 40 = .ok (.istore_n 1, 1) := by decide +kernel
theorem dX12_begin_41 : decode cX12_begin 41 = .ok (.iload_n 1, 1) := by decide +kernel
theorem dX12_begin_42 : decode cX12_begin 42 = .ok (.iconst 5, 1) := by decide +kernel
theorem dX12_begin_43 : decode cX12_begin 43 = .ok (.if_icmp .ge 16, 3) := by decide +kernel
theorem dX12_begin_46 : decode cX12_begin 46 = .ok (.aload_n 0, 1) := by decide +kernel
theorem dX12_begin_47 : decode cX12_begin 47 = .ok (.getfield 78, 3) := by decide +kernel
theorem dX12_begin_50 : decode cX12_begin 50 = .ok (.iload_n 1, 1) := by decide +kernel
theorem dX12_begin_51 : decode cX12_begin 51 = .ok (.iconst 0, 1) := by decide +kernel
theorem dX12_begin_52 : decode cX12_begin 52 = .ok (.bastore, 1) := by decide +kernel
theorem dX12_begin_53 : decode cX12_begin 53 = .ok (.iinc 1 1, 3) := by decide +kernel
theorem dX12_begin_56 : decode cX12_begin 56 = .ok (.goto (-15), 3) := by decide +kernel
theorem dX12_begin_59 : decode cX12_begin 59 = .ok (.return_, 1) := by decide +kernel
theorem dX12_copy_0 : decode cX12_copy 0 = .ok (.iconst 0, 1) := by decide +kernel
theorem dX12_copy_1 : decode cX12_copy 1 = .ok (.istore_n 3, 1) := by decide +kernel
theorem dX12_copy_2 : decode cX12_copy 2 = .ok (.iload_n 3, 1) := by decide +kernel
theorem dX12_copy_3 : decode cX12_copy 3 = .ok (.bipush 12, 2) := by decide +kernel
theorem dX12_copy_5 : decode cX12_copy 5 = .ok (.if_icmp .ge 31, 3) := by decide +kernel
theorem dX12_copy_8 : decode cX12_copy 8 = .ok (.aload_n 0, 1) := by decide +kernel
theorem dX12_copy_9 : decode cX12_copy 9 = .ok (.getfield 75, 3) := by decide +kernel
theorem dX12_copy_12 : decode cX12_copy 12 = .ok (.bipush 12, 2) := by decide +kernel
theorem dX12_copy_14 : decode cX12_copy 14 = .ok (.iload_n 2, 1) := by decide +kernel
theorem dX12_copy_15 : decode cX12_copy 15 = .ok (.imul, 1) := by decide +kernel
theorem dX12_copy_16 : decode cX12_copy 16 = .ok (.iload_n 3, 1) := by decide +kernel
theorem dX12_copy_17 : decode cX12_copy 17 = .ok (.iadd, 1) := by decide +kernel
theorem dX12_copy_18 : decode cX12_copy 18 = .ok (.aload_n 0, 1) := by decide +kernel
theorem dX12_copy_19 : decode cX12_copy 19 = .ok (.getfield 75, 3) := by decide +kernel
theorem dX12_copy_22 : decode cX12_copy 22 = .ok (.bipush 12, 2) := by decide +kernel
theorem dX12_copy_24 : decode cX12_copy 24 = .ok (.iload_n 1, 1) := by decide +kernel
theorem dX12_copy_25 : decode cX12_copy 25 = .ok (.imul, 1) := by decide +kernel
theorem dX12_copy_26 : decode cX12_copy 26 = .ok (.iload_n 3, 1) := by decide +kernel
theorem dX12_copy_27 : decode cX12_copy 27 = .ok (.iadd, 1) := by decide +kernel
theorem dX12_copy_28 : decode cX12_copy 28 = .ok (.iaload, 1) := by decide +kernel
theorem dX12_copy_29 : decode cX12_copy 29 = .ok (.iastore, 1) := by decide +kernel
theorem dX12_copy_30 : decode cX12_copy 30 = .ok (.iinc 3 1, 3) := by decide +kernel
theorem dX12_copy_33 : decode cX12_copy 33 = .ok (.goto (-31), 3) := by decide +kernel
theorem dX12_copy_36 : decode cX12_copy 36 = .ok (.return_, 1) := by decide +kernel
theorem dX12_drawn_0 : decode cX12_drawn 0 = .ok (.iload_n 0, 1) := by decide +kernel
theorem dX12_drawn_1 : decode cX12_drawn 1 = .ok (.ldc 166, 2) := by decide +kernel
theorem dX12_drawn_3 : decode cX12_drawn 3 = .ok (.imul, 1) := by decide +kernel
theorem dX12_drawn_4 : decode cX12_drawn 4 = .ok (.sipush 12345, 3) := by decide +kernel
theorem dX12_drawn_7 : decode cX12_drawn 7 = .ok (.iadd, 1) := by decide +kernel
theorem dX12_drawn_8 : decode cX12_drawn 8 = .ok (.ireturn, 1) := by decide +kernel
theorem dX12_acts_0 : decode cX12_acts 0 = .ok (.aload_n 0, 1) := by decide +kernel
theorem dX12_acts_1 : decode cX12_acts 1 = .ok (.getfield 44, 3) := by decide +kernel
theorem dX12_acts_4 : decode cX12_acts 4 = .ok (.iload_n 1, 1) := by decide +kernel
theorem dX12_acts_5 : decode cX12_acts 5 = .ok (.iaload, 1) := by decide +kernel
theorem dX12_acts_6 : decode cX12_acts 6 = .ok (.istore_n 2, 1) := by decide +kernel
theorem dX12_acts_7 : decode cX12_acts 7 = .ok (.aload_n 0, 1) := by decide +kernel
theorem dX12_acts_8 : decode cX12_acts 8 = .ok (.getfield 47, 3) := by decide +kernel
theorem dX12_acts_11 : decode cX12_acts 11 = .ok (.iload_n 1, 1) := by decide +kernel
theorem dX12_acts_12 : decode cX12_acts 12 = .ok (.iaload, 1) := by decide +kernel
theorem dX12_acts_13 : decode cX12_acts 13 = .ok (.istore_n 3, 1) := by decide +kernel
theorem dX12_acts_14 : decode cX12_acts 14 = .ok (.aload_n 0, 1) := by decide +kernel
theorem dX12_acts_15 : decode cX12_acts 15 = .ok (.getfield 41, 3) := by decide +kernel
theorem dX12_acts_18 : decode cX12_acts 18 = .ok (.iload_n 1, 1) := by decide +kernel
theorem dX12_acts_19 : decode cX12_acts 19 = .ok (.iaload, 1) := by decide +kernel
theorem dX12_acts_20 : decode cX12_acts 20 = .ok (.tableswitch 253 1 6 #[40, 54, 88, 164, 204, 244], 40) := by decide +kernel
theorem dX12_acts_60 : decode cX12_acts 60 = .ok (.aload_n 0, 1) := by decide +kernel
theorem dX12_acts_61 : decode cX12_acts 61 = .ok (.getfield 75, 3) := by decide +kernel
theorem dX12_acts_64 : decode cX12_acts 64 = .ok (.iconst 4, 1) := by decide +kernel
theorem dX12_acts_65 : decode cX12_acts 65 = .ok (.iload_n 2, 1) := by decide +kernel
theorem dX12_acts_66 : decode cX12_acts 66 = .ok (.iadd, 1) := by decide +kernel
theorem dX12_acts_67 : decode cX12_acts 67 = .ok (.dup2, 1) := by decide +kernel
theorem dX12_acts_68 : decode cX12_acts 68 = .ok (.iaload, 1) := by decide +kernel
theorem dX12_acts_69 : decode cX12_acts 69 = .ok (.iload_n 3, 1) := by decide +kernel
theorem dX12_acts_70 : decode cX12_acts 70 = .ok (.iadd, 1) := by decide +kernel
theorem dX12_acts_71 : decode cX12_acts 71 = .ok (.iastore, 1) := by decide +kernel
theorem dX12_acts_72 : decode cX12_acts 72 = .ok (.iconst 0, 1) := by decide +kernel
theorem dX12_acts_73 : decode cX12_acts 73 = .ok (.ireturn, 1) := by decide +kernel
theorem dX12_acts_74 : decode cX12_acts 74 = .ok (.aload_n 0, 1) := by decide +kernel
theorem dX12_acts_75 : decode cX12_acts 75 = .ok (.getfield 75, 3) := by decide +kernel
theorem dX12_acts_78 : decode cX12_acts 78 = .ok (.iconst 4, 1) := by decide +kernel
theorem dX12_acts_79 : decode cX12_acts 79 = .ok (.iload_n 3, 1) := by decide +kernel
theorem dX12_acts_80 : decode cX12_acts 80 = .ok (.iadd, 1) := by decide +kernel
theorem dX12_acts_81 : decode cX12_acts 81 = .ok (.iaload, 1) := by decide +kernel
theorem dX12_acts_82 : decode cX12_acts 82 = .ok (.ifCond .ne 5, 3) := by decide +kernel
theorem dX12_acts_85 : decode cX12_acts 85 = .ok (.iconst 4, 1) := by decide +kernel
theorem dX12_acts_86 : decode cX12_acts 86 = .ok (.ireturn, 1) := by decide +kernel
theorem dX12_acts_87 : decode cX12_acts 87 = .ok (.aload_n 0, 1) := by decide +kernel
theorem dX12_acts_88 : decode cX12_acts 88 = .ok (.getfield 75, 3) := by decide +kernel
theorem dX12_acts_91 : decode cX12_acts 91 = .ok (.iconst 4, 1) := by decide +kernel
theorem dX12_acts_92 : decode cX12_acts 92 = .ok (.iload_n 2, 1) := by decide +kernel
theorem dX12_acts_93 : decode cX12_acts 93 = .ok (.iadd, 1) := by decide +kernel
theorem dX12_acts_94 : decode cX12_acts 94 = .ok (.bipush 12, 2) := by decide +kernel
theorem dX12_acts_96 : decode cX12_acts 96 = .ok (.aload_n 0, 1) := by decide +kernel
theorem dX12_acts_97 : decode cX12_acts 97 = .ok (.getfield 75, 3) := by decide +kernel
theorem dX12_acts_100 : decode cX12_acts 100 = .ok (.iconst 4, 1) := by decide +kernel
theorem dX12_acts_101 : decode cX12_acts 101 = .ok (.iload_n 3, 1) := by decide +kernel
theorem dX12_acts_102 : decode cX12_acts 102 = .ok (.iadd, 1) := by decide +kernel
theorem dX12_acts_103 : decode cX12_acts 103 = .ok (.iaload, 1) := by decide +kernel
theorem dX12_acts_104 : decode cX12_acts 104 = .ok (.idiv, 1) := by decide +kernel
theorem dX12_acts_105 : decode cX12_acts 105 = .ok (.iastore, 1) := by decide +kernel
theorem dX12_acts_106 : decode cX12_acts 106 = .ok (.iconst 0, 1) := by decide +kernel
theorem dX12_acts_107 : decode cX12_acts 107 = .ok (.ireturn, 1) := by decide +kernel
theorem dX12_acts_108 : decode cX12_acts 108 = .ok (.aload_n 0, 1) := by decide +kernel
theorem dX12_acts_109 : decode cX12_acts 109 = .ok (.getfield 62, 3) := by decide +kernel
theorem dX12_acts_112 : decode cX12_acts 112 = .ok (.iload_n 2, 1) := by decide +kernel
theorem dX12_acts_113 : decode cX12_acts 113 = .ok (.iaload, 1) := by decide +kernel
theorem dX12_acts_114 : decode cX12_acts 114 = .ok (.iconst 2, 1) := by decide +kernel
theorem dX12_acts_115 : decode cX12_acts 115 = .ok (.if_icmp .eq 18, 3) := by decide +kernel
theorem dX12_acts_118 : decode cX12_acts 118 = .ok (.aload_n 0, 1) := by decide +kernel
theorem dX12_acts_119 : decode cX12_acts 119 = .ok (.getfield 62, 3) := by decide +kernel
theorem dX12_acts_122 : decode cX12_acts 122 = .ok (.iload_n 2, 1) := by decide +kernel
theorem dX12_acts_123 : decode cX12_acts 123 = .ok (.iaload, 1) := by decide +kernel
theorem dX12_acts_124 : decode cX12_acts 124 = .ok (.ifCond .ne 7, 3) := by decide +kernel
theorem dX12_acts_127 : decode cX12_acts 127 = .ok (.iconst 1, 1) := by decide +kernel
theorem dX12_acts_128 : decode cX12_acts 128 = .ok (.goto 4, 3) := by decide +kernel
theorem dX12_acts_131 : decode cX12_acts 131 = .ok (.iconst 2, 1) := by decide +kernel
theorem dX12_acts_132 : decode cX12_acts 132 = .ok (.ireturn, 1) := by decide +kernel
theorem dX12_acts_133 : decode cX12_acts 133 = .ok (.aload_n 0, 1) := by decide +kernel
theorem dX12_acts_134 : decode cX12_acts 134 = .ok (.getfield 75, 3) := by decide +kernel
theorem dX12_acts_137 : decode cX12_acts 137 = .ok (.iconst 4, 1) := by decide +kernel
theorem dX12_acts_138 : decode cX12_acts 138 = .ok (.iload_n 3, 1) := by decide +kernel
theorem dX12_acts_139 : decode cX12_acts 139 = .ok (.iadd, 1) := by decide +kernel
theorem dX12_acts_140 : decode cX12_acts 140 = .ok (.iaload, 1) := by decide +kernel
theorem dX12_acts_141 : decode cX12_acts 141 = .ok (.i2l, 1) := by decide +kernel
theorem dX12_acts_142 : decode cX12_acts 142 = .ok (.lconst 0, 1) := by decide +kernel
theorem dX12_acts_143 : decode cX12_acts 143 = .ok (.aload_n 0, 1) := by decide +kernel
theorem dX12_acts_144 : decode cX12_acts 144 = .ok (.getfield 65, 3) := by decide +kernel
theorem dX12_acts_147 : decode cX12_acts 147 = .ok (.iload_n 2, 1) := by decide +kernel
theorem dX12_acts_148 : decode cX12_acts 148 = .ok (.iaload, 1) := by decide +kernel
theorem dX12_acts_149 : decode cX12_acts 149 = .ok (.iconst 1, 1) := by decide +kernel
theorem dX12_acts_150 : decode cX12_acts 150 = .ok (.isub, 1) := by decide +kernel
theorem dX12_acts_151 : decode cX12_acts 151 = .ok (.i2l, 1) := by decide +kernel
theorem dX12_acts_152 : decode cX12_acts 152 = .ok (.invokestatic 105, 3) := by decide +kernel
theorem dX12_acts_155 : decode cX12_acts 155 = .ok (.ifCond .ne 5, 3) := by decide +kernel
theorem dX12_acts_158 : decode cX12_acts 158 = .ok (.iconst 3, 1) := by decide +kernel
theorem dX12_acts_159 : decode cX12_acts 159 = .ok (.ireturn, 1) := by decide +kernel
theorem dX12_acts_160 : decode cX12_acts 160 = .ok (.aload_n 0, 1) := by decide +kernel
theorem dX12_acts_161 : decode cX12_acts 161 = .ok (.getfield 75, 3) := by decide +kernel
theorem dX12_acts_164 : decode cX12_acts 164 = .ok (.bipush 11, 2) := by decide +kernel
theorem dX12_acts_166 : decode cX12_acts 166 = .ok (.aload_n 0, 1) := by decide +kernel
theorem dX12_acts_167 : decode cX12_acts 167 = .ok (.getfield 68, 3) := by decide +kernel
theorem dX12_acts_170 : decode cX12_acts 170 = .ok (.iload_n 2, 1) := by decide +kernel
theorem dX12_acts_171 : decode cX12_acts 171 = .ok (.iaload, 1) := by decide +kernel
theorem dX12_acts_172 : decode cX12_acts 172 = .ok (.aload_n 0, 1) := by decide +kernel
theorem dX12_acts_173 : decode cX12_acts 173 = .ok (.getfield 75, 3) := by decide +kernel
theorem dX12_acts_176 : decode cX12_acts 176 = .ok (.iconst 4, 1) := by decide +kernel
theorem dX12_acts_177 : decode cX12_acts 177 = .ok (.iload_n 3, 1) := by decide +kernel
theorem dX12_acts_178 : decode cX12_acts 178 = .ok (.iadd, 1) := by decide +kernel
theorem dX12_acts_179 : decode cX12_acts 179 = .ok (.iaload, 1) := by decide +kernel
theorem dX12_acts_180 : decode cX12_acts 180 = .ok (.iadd, 1) := by decide +kernel
theorem dX12_acts_181 : decode cX12_acts 181 = .ok (.iastore, 1) := by decide +kernel
theorem dX12_acts_182 : decode cX12_acts 182 = .ok (.iconst 0, 1) := by decide +kernel
theorem dX12_acts_183 : decode cX12_acts 183 = .ok (.ireturn, 1) := by decide +kernel
theorem dX12_acts_184 : decode cX12_acts 184 = .ok (.aload_n 0, 1) := by decide +kernel
theorem dX12_acts_185 : decode cX12_acts 185 = .ok (.getfield 62, 3) := by decide +kernel
theorem dX12_acts_188 : decode cX12_acts 188 = .ok (.iload_n 2, 1) := by decide +kernel
theorem dX12_acts_189 : decode cX12_acts 189 = .ok (.iaload, 1) := by decide +kernel
theorem dX12_acts_190 : decode cX12_acts 190 = .ok (.iconst 1, 1) := by decide +kernel
theorem dX12_acts_191 : decode cX12_acts 191 = .ok (.if_icmp .eq 18, 3) := by decide +kernel
theorem dX12_acts_194 : decode cX12_acts 194 = .ok (.aload_n 0, 1) := by decide +kernel
theorem dX12_acts_195 : decode cX12_acts 195 = .ok (.getfield 62, 3) := by decide +kernel
theorem dX12_acts_198 : decode cX12_acts 198 = .ok (.iload_n 2, 1) := by decide +kernel
theorem dX12_acts_199 : decode cX12_acts 199 = .ok (.iaload, 1) := by decide +kernel
theorem dX12_acts_200 : decode cX12_acts 200 = .ok (.ifCond .ne 7, 3) := by decide +kernel
theorem dX12_acts_203 : decode cX12_acts 203 = .ok (.iconst 1, 1) := by decide +kernel
theorem dX12_acts_204 : decode cX12_acts 204 = .ok (.goto 4, 3) := by decide +kernel
theorem dX12_acts_207 : decode cX12_acts 207 = .ok (.iconst 2, 1) := by decide +kernel
theorem dX12_acts_208 : decode cX12_acts 208 = .ok (.ireturn, 1) := by decide +kernel
theorem dX12_acts_209 : decode cX12_acts 209 = .ok (.aload_n 0, 1) := by decide +kernel
theorem dX12_acts_210 : decode cX12_acts 210 = .ok (.getfield 75, 3) := by decide +kernel
theorem dX12_acts_213 : decode cX12_acts 213 = .ok (.bipush 11, 2) := by decide +kernel
theorem dX12_acts_215 : decode cX12_acts 215 = .ok (.aload_n 0, 1) := by decide +kernel
theorem dX12_acts_216 : decode cX12_acts 216 = .ok (.getfield 68, 3) := by decide +kernel
theorem dX12_acts_219 : decode cX12_acts 219 = .ok (.iload_n 2, 1) := by decide +kernel
theorem dX12_acts_220 : decode cX12_acts 220 = .ok (.iaload, 1) := by decide +kernel
theorem dX12_acts_221 : decode cX12_acts 221 = .ok (.iastore, 1) := by decide +kernel
theorem dX12_acts_222 : decode cX12_acts 222 = .ok (.iconst 0, 1) := by decide +kernel
theorem dX12_acts_223 : decode cX12_acts 223 = .ok (.ireturn, 1) := by decide +kernel
theorem dX12_acts_224 : decode cX12_acts 224 = .ok (.aload_n 0, 1) := by decide +kernel
theorem dX12_acts_225 : decode cX12_acts 225 = .ok (.getfield 75, 3) := by decide +kernel
theorem dX12_acts_228 : decode cX12_acts 228 = .ok (.iconst 2, 1) := by decide +kernel
theorem dX12_acts_229 : decode cX12_acts 229 = .ok (.aload_n 0, 1) := by decide +kernel
theorem dX12_acts_230 : decode cX12_acts 230 = .ok (.getfield 75, 3) := by decide +kernel
theorem dX12_acts_233 : decode cX12_acts 233 = .ok (.iconst 2, 1) := by decide +kernel
theorem dX12_acts_234 : decode cX12_acts 234 = .ok (.iaload, 1) := by decide +kernel
theorem dX12_acts_235 : decode cX12_acts 235 = .ok (.invokestatic 167, 3) := by decide +kernel
theorem dX12_acts_238 : decode cX12_acts 238 = .ok (.iastore, 1) := by decide +kernel
theorem dX12_acts_239 : decode cX12_acts 239 = .ok (.aload_n 0, 1) := by decide +kernel
theorem dX12_acts_240 : decode cX12_acts 240 = .ok (.getfield 75, 3) := by decide +kernel
theorem dX12_acts_243 : decode cX12_acts 243 = .ok (.iconst 4, 1) := by decide +kernel
theorem dX12_acts_244 : decode cX12_acts 244 = .ok (.iload_n 2, 1) := by decide +kernel
theorem dX12_acts_245 : decode cX12_acts 245 = .ok (.iadd, 1) := by decide +kernel
theorem dX12_acts_246 : decode cX12_acts 246 = .ok (.aload_n 0, 1) := by decide +kernel
theorem dX12_acts_247 : decode cX12_acts 247 = .ok (.getfield 75, 3) := by decide +kernel
theorem dX12_acts_250 : decode cX12_acts 250 = .ok (.iconst 2, 1) := by decide +kernel
theorem dX12_acts_251 : decode cX12_acts 251 = .ok (.iaload, 1) := by decide +kernel
theorem dX12_acts_252 : decode cX12_acts 252 = .ok (.bipush 16, 2) := by decide +kernel
theorem dX12_acts_254 : decode cX12_acts 254 = .ok (.iushr, 1) := by decide +kernel
theorem dX12_acts_255 : decode cX12_acts 255 = .ok (.sipush 32767, 3) := by decide +kernel
theorem dX12_acts_258 : decode cX12_acts 258 = .ok (.iand, 1) := by decide +kernel
theorem dX12_acts_259 : decode cX12_acts 259 = .ok (.iload_n 3, 1) := by decide +kernel
theorem dX12_acts_260 : decode cX12_acts 260 = .ok (.irem, 1) := by decide +kernel
theorem dX12_acts_261 : decode cX12_acts 261 = .ok (.iastore, 1) := by decide +kernel
theorem dX12_acts_262 : decode cX12_acts 262 = .ok (.iconst 0, 1) := by decide +kernel
theorem dX12_acts_263 : decode cX12_acts 263 = .ok (.ireturn, 1) := by decide +kernel
theorem dX12_acts_264 : decode cX12_acts 264 = .ok (.aload_n 0, 1) := by decide +kernel
theorem dX12_acts_265 : decode cX12_acts 265 = .ok (.getfield 75, 3) := by decide +kernel
theorem dX12_acts_268 : decode cX12_acts 268 = .ok (.iconst 1, 1) := by decide +kernel
theorem dX12_acts_269 : decode cX12_acts 269 = .ok (.iload_n 2, 1) := by decide +kernel
theorem dX12_acts_270 : decode cX12_acts 270 = .ok (.iastore, 1) := by decide +kernel
theorem dX12_acts_271 : decode cX12_acts 271 = .ok (.iconst 0, 1) := by decide +kernel
theorem dX12_acts_272 : decode cX12_acts 272 = .ok (.ireturn, 1) := by decide +kernel
theorem dX12_acts_273 : decode cX12_acts 273 = .ok (.iconst 0, 1) := by decide +kernel
theorem dX12_acts_274 : decode cX12_acts 274 = .ok (.ireturn, 1) := by decide +kernel
theorem dX12_shows_0 : decode cX12_shows 0 = .ok (.aload_n 0, 1) := by decide +kernel
theorem dX12_shows_1 : decode cX12_shows 1 = .ok (.getfield 75, 3) := by decide +kernel
theorem dX12_shows_4 : decode cX12_shows 4 = .ok (.iconst 3, 1) := by decide +kernel
theorem dX12_shows_5 : decode cX12_shows 5 = .ok (.iload_n 1, 1) := by decide +kernel
theorem dX12_shows_6 : decode cX12_shows 6 = .ok (.iastore, 1) := by decide +kernel
theorem dX12_shows_7 : decode cX12_shows 7 = .ok (.aload_n 0, 1) := by decide +kernel
theorem dX12_shows_8 : decode cX12_shows 8 = .ok (.getfield 59, 3) := by decide +kernel
theorem dX12_shows_11 : decode cX12_shows 11 = .ok (.iload_n 1, 1) := by decide +kernel
theorem dX12_shows_12 : decode cX12_shows 12 = .ok (.ifCond .ge 8, 3) := by decide +kernel
theorem dX12_shows_15 : decode cX12_shows 15 = .ok (.bipush 24, 2) := by decide +kernel
theorem dX12_shows_17 : decode cX12_shows 17 = .ok (.goto 4, 3) := by decide +kernel
theorem dX12_shows_20 : decode cX12_shows 20 = .ok (.iload_n 1, 1) := by decide +kernel
theorem dX12_shows_21 : decode cX12_shows 21 = .ok (.dup2, 1) := by decide +kernel
theorem dX12_shows_22 : decode cX12_shows 22 = .ok (.iaload, 1) := by decide +kernel
theorem dX12_shows_23 : decode cX12_shows 23 = .ok (.aload_n 0, 1) := by decide +kernel
theorem dX12_shows_24 : decode cX12_shows 24 = .ok (.getfield 71, 3) := by decide +kernel
theorem dX12_shows_27 : decode cX12_shows 27 = .ok (.ifCond .eq 7, 3) := by decide +kernel
theorem dX12_shows_30 : decode cX12_shows 30 = .ok (.iconst 1, 1) := by decide +kernel
theorem dX12_shows_31 : decode cX12_shows 31 = .ok (.goto 4, 3) := by decide +kernel
theorem dX12_shows_34 : decode cX12_shows 34 = .ok (.iconst 0, 1) := by decide +kernel
theorem dX12_shows_35 : decode cX12_shows 35 = .ok (.iadd, 1) := by decide +kernel
theorem dX12_shows_36 : decode cX12_shows 36 = .ok (.iastore, 1) := by decide +kernel
theorem dX12_shows_37 : decode cX12_shows 37 = .ok (.return_, 1) := by decide +kernel
theorem dX12_says_0 : decode cX12_says 0 = .ok (.aload_n 0, 1) := by decide +kernel
theorem dX12_says_1 : decode cX12_says 1 = .ok (.dup, 1) := by decide +kernel
theorem dX12_says_2 : decode cX12_says 2 = .ok (.getfield 171, 3) := by decide +kernel
theorem dX12_says_5 : decode cX12_says 5 = .ok (.aload_n 0, 1) := by decide +kernel
theorem dX12_says_6 : decode cX12_says 6 = .ok (.getfield 71, 3) := by decide +kernel
theorem dX12_says_9 : decode cX12_says 9 = .ok (.ifCond .eq 7, 3) := by decide +kernel
theorem dX12_says_12 : decode cX12_says 12 = .ok (.iconst 1, 1) := by decide +kernel
theorem dX12_says_13 : decode cX12_says 13 = .ok (.goto 4, 3) := by decide +kernel
theorem dX12_says_16 : decode cX12_says 16 = .ok (.iconst 0, 1) := by decide +kernel
theorem dX12_says_17 : decode cX12_says 17 = .ok (.iadd, 1) := by decide +kernel
theorem dX12_says_18 : decode cX12_says 18 = .ok (.putfield 171, 3) := by decide +kernel
theorem dX12_says_21 : decode cX12_says 21 = .ok (.iconst 0, 1) := by decide +kernel
theorem dX12_says_22 : decode cX12_says 22 = .ok (.istore_n 2, 1) := by decide +kernel
theorem dX12_says_23 : decode cX12_says 23 = .ok (.iload_n 2, 1) := by decide +kernel
theorem dX12_says_24 : decode cX12_says 24 = .ok (.aload_n 0, 1) := by decide +kernel
theorem dX12_says_25 : decode cX12_says 25 = .ok (.getfield 159, 3) := by decide +kernel
theorem dX12_says_28 : decode cX12_says 28 = .ok (.if_icmp .ge 74, 3) := by decide +kernel
theorem dX12_says_31 : decode cX12_says 31 = .ok (.iload_n 1, 1) := by decide +kernel
theorem dX12_says_32 : decode cX12_says 32 = .ok (.aload_n 0, 1) := by decide +kernel
theorem dX12_says_33 : decode cX12_says 33 = .ok (.getfield 32, 3) := by decide +kernel
theorem dX12_says_36 : decode cX12_says 36 = .ok (.iload_n 2, 1) := by decide +kernel
theorem dX12_says_37 : decode cX12_says 37 = .ok (.iaload, 1) := by decide +kernel
theorem dX12_says_38 : decode cX12_says 38 = .ok (.if_icmp .ne 58, 3) := by decide +kernel
theorem dX12_says_41 : decode cX12_says 41 = .ok (.aload_n 0, 1) := by decide +kernel
theorem dX12_says_42 : decode cX12_says 42 = .ok (.getfield 29, 3) := by decide +kernel
theorem dX12_says_45 : decode cX12_says 45 = .ok (.iload_n 2, 1) := by decide +kernel
theorem dX12_says_46 : decode cX12_says 46 = .ok (.iaload, 1) := by decide +kernel
theorem dX12_says_47 : decode cX12_says 47 = .ok (.ifCond .lt 18, 3) := by decide +kernel
theorem dX12_says_50 : decode cX12_says 50 = .ok (.aload_n 0, 1) := by decide +kernel
theorem dX12_says_51 : decode cX12_says 51 = .ok (.getfield 29, 3) := by decide +kernel
theorem dX12_says_54 : decode cX12_says 54 = .ok (.iload_n 2, 1) := by decide +kernel
theorem dX12_says_55 : decode cX12_says 55 = .ok (.iaload, 1) := by decide +kernel
theorem dX12_says_56 : decode cX12_says 56 = .ok (.aload_n 0, 1) := by decide +kernel
theorem dX12_says_57 : decode cX12_says 57 = .ok (.getfield 75, 3) := by decide +kernel
theorem dX12_says_60 : decode cX12_says 60 = .ok (.iconst 0, 1) := by decide +kernel
theorem dX12_says_61 : decode cX12_says 61 = .ok (.iaload, 1) := by decide +kernel
theorem dX12_says_62 : decode cX12_says 62 = .ok (.if_icmp .ne 34, 3) := by decide +kernel
theorem dX12_says_65 : decode cX12_says 65 = .ok (.aload_n 0, 1) := by decide +kernel
theorem dX12_says_66 : decode cX12_says 66 = .ok (.getfield 35, 3) := by decide +kernel
theorem dX12_says_69 : decode cX12_says 69 = .ok (.iload_n 2, 1) := by decide +kernel
theorem dX12_says_70 : decode cX12_says 70 = .ok (.iaload, 1) := by decide +kernel
theorem dX12_says_71 : decode cX12_says 71 = .ok (.ifCond .lt 31, 3) := by decide +kernel
theorem dX12_says_74 : decode cX12_says 74 = .ok (.aload_n 0, 1) := by decide +kernel
theorem dX12_says_75 : decode cX12_says 75 = .ok (.getfield 75, 3) := by decide +kernel
theorem dX12_says_78 : decode cX12_says 78 = .ok (.iconst 4, 1) := by decide +kernel
theorem dX12_says_79 : decode cX12_says 79 = .ok (.aload_n 0, 1) := by decide +kernel
theorem dX12_says_80 : decode cX12_says 80 = .ok (.getfield 35, 3) := by decide +kernel
theorem dX12_says_83 : decode cX12_says 83 = .ok (.iload_n 2, 1) := by decide +kernel
theorem dX12_says_84 : decode cX12_says 84 = .ok (.iaload, 1) := by decide +kernel
theorem dX12_says_85 : decode cX12_says 85 = .ok (.iadd, 1) := by decide +kernel
theorem dX12_says_86 : decode cX12_says 86 = .ok (.iaload, 1) := by decide +kernel
theorem dX12_says_87 : decode cX12_says 87 = .ok (.aload_n 0, 1) := by decide +kernel
theorem dX12_says_88 : decode cX12_says 88 = .ok (.getfield 38, 3) := by decide +kernel
theorem dX12_says_91 : decode cX12_says 91 = .ok (.iload_n 2, 1) := by decide +kernel
theorem dX12_says_92 : decode cX12_says 92 = .ok (.iaload, 1) := by decide +kernel
theorem dX12_says_93 : decode cX12_says 93 = .ok (.if_icmp .ge 9, 3) := by decide +kernel
theorem dX12_says_96 : decode cX12_says 96 = .ok (.iinc 2 1, 3) := by decide +kernel
theorem dX12_says_99 : decode cX12_says 99 = .ok (.goto (-76), 3) := by decide +kernel
theorem dX12_says_102 : decode cX12_says 102 = .ok (.iload_n 1, 1) := by decide +kernel
theorem dX12_says_103 : decode cX12_says 103 = .ok (.ifCond .lt 11, 3) := by decide +kernel
theorem dX12_says_106 : decode cX12_says 106 = .ok (.iload_n 2, 1) := by decide +kernel
theorem dX12_says_107 : decode cX12_says 107 = .ok (.aload_n 0, 1) := by decide +kernel
theorem dX12_says_108 : decode cX12_says 108 = .ok (.getfield 159, 3) := by decide +kernel
theorem dX12_says_111 : decode cX12_says 111 = .ok (.if_icmp .ne 10, 3) := by decide +kernel
theorem dX12_says_114 : decode cX12_says 114 = .ok (.aload_n 0, 1) := by decide +kernel
theorem dX12_says_115 : decode cX12_says 115 = .ok (.iconst (-1), 1) := by decide +kernel
theorem dX12_says_116 : decode cX12_says 116 = .ok (.invokevirtual 174, 3) := by decide +kernel
theorem dX12_says_119 : decode cX12_says 119 = .ok (.iconst 0, 1) := by decide +kernel
theorem dX12_says_120 : decode cX12_says 120 = .ok (.ireturn, 1) := by decide +kernel
theorem dX12_says_121 : decode cX12_says 121 = .ok (.aload_n 0, 1) := by decide +kernel
theorem dX12_says_122 : decode cX12_says 122 = .ok (.iload_n 2, 1) := by decide +kernel
theorem dX12_says_123 : decode cX12_says 123 = .ok (.invokevirtual 178, 3) := by decide +kernel
theorem dX12_says_126 : decode cX12_says 126 = .ok (.istore_n 3, 1) := by decide +kernel
theorem dX12_says_127 : decode cX12_says 127 = .ok (.iload_n 3, 1) := by decide +kernel
theorem dX12_says_128 : decode cX12_says 128 = .ok (.ifCond .le 24, 3) := by decide +kernel
theorem dX12_says_131 : decode cX12_says 131 = .ok (.aload_n 0, 1) := by decide +kernel
theorem dX12_says_132 : decode cX12_says 132 = .ok (.aload_n 0, 1) := by decide +kernel
theorem dX12_says_133 : decode cX12_says 133 = .ok (.getfield 71, 3) := by decide +kernel
theorem dX12_says_136 : decode cX12_says 136 = .ok (.ifCond .eq 7, 3) := by decide +kernel
theorem dX12_says_139 : decode cX12_says 139 = .ok (.iload_n 3, 1) := by decide +kernel
theorem dX12_says_140 : decode cX12_says 140 = .ok (.goto 7, 3) := by decide +kernel
theorem dX12_says_143 : decode cX12_says 143 = .ok (.aload_n 0, 1) := by decide +kernel
theorem dX12_says_144 : decode cX12_says 144 = .ok (.getfield 181, 3) := by decide +kernel
theorem dX12_says_147 : decode cX12_says 147 = .ok (.putfield 181, 3) := by decide +kernel
theorem dX12_says_150 : decode cX12_says 150 = .ok (.iload_n 3, 1) := by decide +kernel
theorem dX12_says_151 : decode cX12_says 151 = .ok (.ireturn, 1) := by decide +kernel
theorem dX12_says_152 : decode cX12_says 152 = .ok (.aload_n 0, 1) := by decide +kernel
theorem dX12_says_153 : decode cX12_says 153 = .ok (.getfield 75, 3) := by decide +kernel
theorem dX12_says_156 : decode cX12_says 156 = .ok (.iconst 0, 1) := by decide +kernel
theorem dX12_says_157 : decode cX12_says 157 = .ok (.aload_n 0, 1) := by decide +kernel
theorem dX12_says_158 : decode cX12_says 158 = .ok (.getfield 53, 3) := by decide +kernel
theorem dX12_says_161 : decode cX12_says 161 = .ok (.iload_n 2, 1) := by decide +kernel
theorem dX12_says_162 : decode cX12_says 162 = .ok (.iaload, 1) := by decide +kernel
theorem dX12_says_163 : decode cX12_says 163 = .ok (.ifCond .ge 12, 3) := by decide +kernel
theorem dX12_says_166 : decode cX12_says 166 = .ok (.aload_n 0, 1) := by decide +kernel
theorem dX12_says_167 : decode cX12_says 167 = .ok (.getfield 75, 3) := by decide +kernel
theorem dX12_says_170 : decode cX12_says 170 = .ok (.iconst 0, 1) := by decide +kernel
theorem dX12_says_171 : decode cX12_says 171 = .ok (.iaload, 1) := by decide +kernel
theorem dX12_says_172 : decode cX12_says 172 = .ok (.goto 9, 3) := by decide +kernel
theorem dX12_says_175 : decode cX12_says 175 = .ok (.aload_n 0, 1) := by decide +kernel
theorem dX12_says_176 : decode cX12_says 176 = .ok (.getfield 53, 3) := by decide +kernel
theorem dX12_says_179 : decode cX12_says 179 = .ok (.iload_n 2, 1) := by decide +kernel
theorem dX12_says_180 : decode cX12_says 180 = .ok (.iaload, 1) := by decide +kernel
theorem dX12_says_181 : decode cX12_says 181 = .ok (.iastore, 1) := by decide +kernel
theorem dX12_says_182 : decode cX12_says 182 = .ok (.aload_n 0, 1) := by decide +kernel
theorem dX12_says_183 : decode cX12_says 183 = .ok (.getfield 56, 3) := by decide +kernel
theorem dX12_says_186 : decode cX12_says 186 = .ok (.iload_n 2, 1) := by decide +kernel
theorem dX12_says_187 : decode cX12_says 187 = .ok (.dup2, 1) := by decide +kernel
theorem dX12_says_188 : decode cX12_says 188 = .ok (.iaload, 1) := by decide +kernel
theorem dX12_says_189 : decode cX12_says 189 = .ok (.aload_n 0, 1) := by decide +kernel
theorem dX12_says_190 : decode cX12_says 190 = .ok (.getfield 71, 3) := by decide +kernel
theorem dX12_says_193 : decode cX12_says 193 = .ok (.ifCond .eq 7, 3) := by decide +kernel
theorem dX12_says_196 : decode cX12_says 196 = .ok (.iconst 1, 1) := by decide +kernel
theorem dX12_says_197 : decode cX12_says 197 = .ok (.goto 4, 3) := by decide +kernel
theorem dX12_says_200 : decode cX12_says 200 = .ok (.iconst 0, 1) := by decide +kernel
theorem dX12_says_201 : decode cX12_says 201 = .ok (.iadd, 1) := by decide +kernel
theorem dX12_says_202 : decode cX12_says 202 = .ok (.iastore, 1) := by decide +kernel
theorem dX12_says_203 : decode cX12_says 203 = .ok (.aload_n 0, 1) := by decide +kernel
theorem dX12_says_204 : decode cX12_says 204 = .ok (.aload_n 0, 1) := by decide +kernel
theorem dX12_says_205 : decode cX12_says 205 = .ok (.getfield 50, 3) := by decide +kernel
theorem dX12_says_208 : decode cX12_says 208 = .ok (.iload_n 2, 1) := by decide +kernel
theorem dX12_says_209 : decode cX12_says 209 = .ok (.iaload, 1) := by decide +kernel
theorem dX12_says_210 : decode cX12_says 210 = .ok (.invokevirtual 174, 3) := by decide +kernel
theorem dX12_says_213 : decode cX12_says 213 = .ok (.iconst 0, 1) := by decide +kernel
theorem dX12_says_214 : decode cX12_says 214 = .ok (.ireturn, 1) := by decide +kernel
theorem dX12_byteAt_0 : decode cX12_byteAt 0 = .ok (.iload_n 1, 1) := by decide +kernel
theorem dX12_byteAt_1 : decode cX12_byteAt 1 = .ok (.aload_n 0, 1) := by decide +kernel
theorem dX12_byteAt_2 : decode cX12_byteAt 2 = .ok (.getfield 109, 3) := by decide +kernel
theorem dX12_byteAt_5 : decode cX12_byteAt 5 = .ok (.if_icmp .ge 12, 3) := by decide +kernel
theorem dX12_byteAt_8 : decode cX12_byteAt 8 = .ok (.aload_n 0, 1) := by decide +kernel
theorem dX12_byteAt_9 : decode cX12_byteAt 9 = .ok (.getfield 13, 3) := by decide +kernel
theorem dX12_byteAt_12 : decode cX12_byteAt 12 = .ok (.iload_n 1, 1) := by decide +kernel
theorem dX12_byteAt_13 : decode cX12_byteAt 13 = .ok (.iaload, 1) := by decide +kernel
theorem dX12_byteAt_14 : decode cX12_byteAt 14 = .ok (.goto 5, 3) := by decide +kernel
theorem dX12_byteAt_17 : decode cX12_byteAt 17 = .ok (.bipush 10, 2) := by decide +kernel
theorem dX12_byteAt_19 : decode cX12_byteAt 19 = .ok (.ireturn, 1) := by decide +kernel
theorem dX12_wrongWords_0 : decode cX12_wrongWords 0 = .ok (.iload_n 1, 1) := by decide +kernel
theorem dX12_wrongWords_1 : decode cX12_wrongWords 1 = .ok (.istore_n 3, 1) := by decide +kernel
theorem dX12_wrongWords_2 : decode cX12_wrongWords 2 = .ok (.iconst 0, 1) := by decide +kernel
theorem dX12_wrongWords_3 : decode cX12_wrongWords 3 = .ok (.istore 4, 2) := by decide +kernel
theorem dX12_wrongWords_5 : decode cX12_wrongWords 5 = .ok (.aload_n 0, 1) := by decide +kernel
theorem dX12_wrongWords_6 : decode cX12_wrongWords 6 = .ok (.iload_n 3, 1) := by decide +kernel
theorem dX12_wrongWords_7 : decode cX12_wrongWords 7 = .ok (.invokevirtual 184, 3) := by decide +kernel
theorem dX12_wrongWords_10 : decode cX12_wrongWords 10 = .ok (.istore 5, 2) := by decide +kernel
theorem dX12_wrongWords_12 : decode cX12_wrongWords 12 = .ok (.iload 5, 2) := by decide +kernel
theorem dX12_wrongWords_14 : decode cX12_wrongWords 14 = .ok (.bipush 10, 2) := by decide +kernel
theorem dX12_wrongWords_16 : decode cX12_wrongWords 16 = .ok (.if_icmp .eq 14, 3) := by decide +kernel
theorem dX12_wrongWords_19 : decode cX12_wrongWords 19 = .ok (.iload 5, 2) := by decide +kernel
theorem dX12_wrongWords_21 : decode cX12_wrongWords 21 = .ok (.bipush 32, 2) := by decide +kernel
theorem dX12_wrongWords_23 : decode cX12_wrongWords 23 = .ok (.if_icmp .ne 11, 3) := by decide +kernel
theorem dX12_wrongWords_26 : decode cX12_wrongWords 26 = .ok (.iload_n 2, 1) := by decide +kernel
theorem dX12_wrongWords_27 : decode cX12_wrongWords 27 = .ok (.ifCond .ne 7, 3) := by decide +kernel
theorem dX12_wrongWords_30 : decode cX12_wrongWords 30 = .ok (.iconst 1, 1) := by decide +kernel
theorem dX12_wrongWords_31 : decode cX12_wrongWords 31 = .ok (.goto 4, 3) := by decide +kernel
theorem dX12_wrongWords_34 : decode cX12_wrongWords 34 = .ok (.iconst 0, 1) := by decide +kernel
theorem dX12_wrongWords_35 : decode cX12_wrongWords 35 = .ok (.istore 6, 2) := by decide +kernel
theorem dX12_wrongWords_37 : decode cX12_wrongWords 37 = .ok (.iload 6, 2) := by decide +kernel
theorem dX12_wrongWords_39 : decode cX12_wrongWords 39 = .ok (.ifCond .eq 23, 3) := by decide +kernel
theorem dX12_wrongWords_42 : decode cX12_wrongWords 42 = .ok (.iload 4, 2) := by decide +kernel
theorem dX12_wrongWords_44 : decode cX12_wrongWords 44 = .ok (.ifCond .le 18, 3) := by decide +kernel
theorem dX12_wrongWords_47 : decode cX12_wrongWords 47 = .ok (.iload 5, 2) := by decide +kernel
theorem dX12_wrongWords_49 : decode cX12_wrongWords 49 = .ok (.bipush 10, 2) := by decide +kernel
theorem dX12_wrongWords_51 : decode cX12_wrongWords 51 = .ok (.if_icmp .ne 5, 3) := by decide +kernel
theorem dX12_wrongWords_54 : decode cX12_wrongWords 54 = .ok (.iconst (-1), 1) := by decide +kernel
theorem dX12_wrongWords_55 : decode cX12_wrongWords 55 = .ok (.ireturn, 1) := by decide +kernel
theorem dX12_wrongWords_56 : decode cX12_wrongWords 56 = .ok (.iconst 0, 1) := by decide +kernel
theorem dX12_wrongWords_57 : decode cX12_wrongWords 57 = .ok (.istore 4, 2) := by decide +kernel
theorem dX12_wrongWords_59 : decode cX12_wrongWords 59 = .ok (.goto 26, 3) := by decide +kernel
theorem dX12_wrongWords_62 : decode cX12_wrongWords 62 = .ok (.iload 5, 2) := by decide +kernel
theorem dX12_wrongWords_64 : decode cX12_wrongWords 64 = .ok (.invokestatic 127, 3) := by decide +kernel
theorem dX12_wrongWords_67 : decode cX12_wrongWords 67 = .ok (.ifCond .eq 16, 3) := by decide +kernel
theorem dX12_wrongWords_70 : decode cX12_wrongWords 70 = .ok (.iload 4, 2) := by decide +kernel
theorem dX12_wrongWords_72 : decode cX12_wrongWords 72 = .ok (.bipush 6, 2) := by decide +kernel
theorem dX12_wrongWords_74 : decode cX12_wrongWords 74 = .ok (.if_icmp .ge 9, 3) := by decide +kernel
theorem dX12_wrongWords_77 : decode cX12_wrongWords 77 = .ok (.iinc 4 1, 3) := by decide +kernel
theorem dX12_wrongWords_80 : decode cX12_wrongWords 80 = .ok (.goto 5, 3) := by decide +kernel
theorem dX12_wrongWords_83 : decode cX12_wrongWords 83 = .ok (.iload_n 3, 1) := by decide +kernel
theorem dX12_wrongWords_84 : decode cX12_wrongWords 84 = .ok (.ireturn, 1) := by decide +kernel
theorem dX12_wrongWords_85 : decode cX12_wrongWords 85 = .ok (.iinc 3 1, 3) := by decide +kernel
theorem dX12_wrongWords_88 : decode cX12_wrongWords 88 = .ok (.goto (-83), 3) := by decide +kernel
theorem dX12_wrongPattern_0 : decode cX12_wrongPattern 0 = .ok (.iload_n 1, 1) := by decide +kernel
theorem dX12_wrongPattern_1 : decode cX12_wrongPattern 1 = .ok (.istore_n 2, 1) := by decide +kernel
theorem dX12_wrongPattern_2 : decode cX12_wrongPattern 2 = .ok (.iconst 0, 1) := by decide +kernel
theorem dX12_wrongPattern_3 : decode cX12_wrongPattern 3 = .ok (.istore_n 3, 1) := by decide +kernel
theorem dX12_wrongPattern_4 : decode cX12_wrongPattern 4 = .ok (.aload_n 0, 1) := by decide +kernel
theorem dX12_wrongPattern_5 : decode cX12_wrongPattern 5 = .ok (.iload_n 2, 1) := by decide +kernel
theorem dX12_wrongPattern_6 : decode cX12_wrongPattern 6 = .ok (.invokevirtual 184, 3) := by decide +kernel
theorem dX12_wrongPattern_9 : decode cX12_wrongPattern 9 = .ok (.bipush 10, 2) := by decide +kernel
theorem dX12_wrongPattern_11 : decode cX12_wrongPattern 11 = .ok (.if_icmp .eq 100, 3) := by decide +kernel
theorem dX12_wrongPattern_14 : decode cX12_wrongPattern 14 = .ok (.aload_n 0, 1) := by decide +kernel
theorem dX12_wrongPattern_15 : decode cX12_wrongPattern 15 = .ok (.iload_n 2, 1) := by decide +kernel
theorem dX12_wrongPattern_16 : decode cX12_wrongPattern 16 = .ok (.invokevirtual 184, 3) := by decide +kernel
theorem dX12_wrongPattern_19 : decode cX12_wrongPattern 19 = .ok (.istore 4, 2) := by decide +kernel
theorem dX12_wrongPattern_21 : decode cX12_wrongPattern 21 = .ok (.iload 4, 2) := by decide +kernel
theorem dX12_wrongPattern_23 : decode cX12_wrongPattern 23 = .ok (.invokestatic 135, 3) := by decide +kernel
theorem dX12_wrongPattern_26 : decode cX12_wrongPattern 26 = .ok (.ifCond .eq 15, 3) := by decide +kernel
theorem dX12_wrongPattern_29 : decode cX12_wrongPattern 29 = .ok (.iload_n 3, 1) := by decide +kernel
theorem dX12_wrongPattern_30 : decode cX12_wrongPattern 30 = .ok (.iconst 1, 1) := by decide +kernel
theorem dX12_wrongPattern_31 : decode cX12_wrongPattern 31 = .ok (.if_icmp .ne 12, 3) := by decide +kernel
theorem dX12_wrongPattern_34 : decode cX12_wrongPattern 34 = .ok (.iload 4, 2) := by decide +kernel
theorem dX12_wrongPattern_36 : decode cX12_wrongPattern 36 = .ok (.bipush 93, 2) := by decide +kernel
theorem dX12_wrongPattern_38 : decode cX12_wrongPattern 38 = .ok (.if_icmp .ne 5, 3) := by decide +kernel
theorem dX12_wrongPattern_41 : decode cX12_wrongPattern 41 = .ok (.iload_n 2, 1) := by decide +kernel
theorem dX12_wrongPattern_42 : decode cX12_wrongPattern 42 = .ok (.ireturn, 1) := by decide +kernel
theorem dX12_wrongPattern_43 : decode cX12_wrongPattern 43 = .ok (.iload_n 3, 1) := by decide +kernel
theorem dX12_wrongPattern_44 : decode cX12_wrongPattern 44 = .ok (.iconst 3, 1) := by decide +kernel
theorem dX12_wrongPattern_45 : decode cX12_wrongPattern 45 = .ok (.if_icmp .ne 7, 3) := by decide +kernel
theorem dX12_wrongPattern_48 : decode cX12_wrongPattern 48 = .ok (.iconst 0, 1) := by decide +kernel
theorem dX12_wrongPattern_49 : decode cX12_wrongPattern 49 = .ok (.goto 55, 3) := by decide +kernel
theorem dX12_wrongPattern_52 : decode cX12_wrongPattern 52 = .ok (.iload_n 3, 1) := by decide +kernel
theorem dX12_wrongPattern_53 : decode cX12_wrongPattern 53 = .ok (.iconst 1, 1) := by decide +kernel
theorem dX12_wrongPattern_54 : decode cX12_wrongPattern 54 = .ok (.if_icmp .ne 7, 3) := by decide +kernel
theorem dX12_wrongPattern_57 : decode cX12_wrongPattern 57 = .ok (.iconst 2, 1) := by decide +kernel
theorem dX12_wrongPattern_58 : decode cX12_wrongPattern 58 = .ok (.goto 46, 3) := by decide +kernel
theorem dX12_wrongPattern_61 : decode cX12_wrongPattern 61 = .ok (.iload_n 3, 1) := by decide +kernel
theorem dX12_wrongPattern_62 : decode cX12_wrongPattern 62 = .ok (.iconst 2, 1) := by decide +kernel
theorem dX12_wrongPattern_63 : decode cX12_wrongPattern 63 = .ok (.if_icmp .ne 18, 3) := by decide +kernel
theorem dX12_wrongPattern_66 : decode cX12_wrongPattern 66 = .ok (.iload 4, 2) := by decide +kernel
theorem dX12_wrongPattern_68 : decode cX12_wrongPattern 68 = .ok (.bipush 93, 2) := by decide +kernel
theorem dX12_wrongPattern_70 : decode cX12_wrongPattern 70 = .ok (.if_icmp .ne 7, 3) := by decide +kernel
theorem dX12_wrongPattern_73 : decode cX12_wrongPattern 73 = .ok (.iconst 0, 1) := by decide +kernel
theorem dX12_wrongPattern_74 : decode cX12_wrongPattern 74 = .ok (.goto 30, 3) := by decide +kernel
theorem dX12_wrongPattern_77 : decode cX12_wrongPattern 77 = .ok (.iconst 2, 1) := by decide +kernel
theorem dX12_wrongPattern_78 : decode cX12_wrongPattern 78 = .ok (.goto 26, 3) := by decide +kernel
theorem dX12_wrongPattern_81 : decode cX12_wrongPattern 81 = .ok (.iload 4, 2) := by decide +kernel
theorem dX12_wrongPattern_83 : decode cX12_wrongPattern 83 = .ok (.bipush 91, 2) := by decide +kernel
theorem dX12_wrongPattern_85 : decode cX12_wrongPattern 85 = .ok (.if_icmp .ne 7, 3) := by decide +kernel
theorem dX12_wrongPattern_88 : decode cX12_wrongPattern 88 = .ok (.iconst 1, 1) := by decide +kernel
theorem dX12_wrongPattern_89 : decode cX12_wrongPattern 89 = .ok (.goto 15, 3) := by decide +kernel
theorem dX12_wrongPattern_92 : decode cX12_wrongPattern 92 = .ok (.iload 4, 2) := by decide +kernel
theorem dX12_wrongPattern_94 : decode cX12_wrongPattern 94 = .ok (.bipush 92, 2) := by decide +kernel
theorem dX12_wrongPattern_96 : decode cX12_wrongPattern 96 = .ok (.if_icmp .ne 7, 3) := by decide +kernel
theorem dX12_wrongPattern_99 : decode cX12_wrongPattern 99 = .ok (.iconst 3, 1) := by decide +kernel
theorem dX12_wrongPattern_100 : decode cX12_wrongPattern 100 = .ok (.goto 4, 3) := by decide +kernel
theorem dX12_wrongPattern_103 : decode cX12_wrongPattern 103 = .ok (.iconst 0, 1) := by decide +kernel
theorem dX12_wrongPattern_104 : decode cX12_wrongPattern 104 = .ok (.istore_n 3, 1) := by decide +kernel
theorem dX12_wrongPattern_105 : decode cX12_wrongPattern 105 = .ok (.iinc 2 1, 3) := by decide +kernel
theorem dX12_wrongPattern_108 : decode cX12_wrongPattern 108 = .ok (.goto (-104), 3) := by decide +kernel
theorem dX12_wrongPattern_111 : decode cX12_wrongPattern 111 = .ok (.iload_n 3, 1) := by decide +kernel
theorem dX12_wrongPattern_112 : decode cX12_wrongPattern 112 = .ok (.ifCond .ne 7, 3) := by decide +kernel
theorem dX12_wrongPattern_115 : decode cX12_wrongPattern 115 = .ok (.iconst (-1), 1) := by decide +kernel
theorem dX12_wrongPattern_116 : decode cX12_wrongPattern 116 = .ok (.goto 4, 3) := by decide +kernel
theorem dX12_wrongPattern_119 : decode cX12_wrongPattern 119 = .ok (.iload_n 2, 1) := by decide +kernel
theorem dX12_wrongPattern_120 : decode cX12_wrongPattern 120 = .ok (.ireturn, 1) := by decide +kernel
theorem dX12_wrongFlag_0 : decode cX12_wrongFlag 0 = .ok (.aload_n 0, 1) := by decide +kernel
theorem dX12_wrongFlag_1 : decode cX12_wrongFlag 1 = .ok (.iload_n 1, 1) := by decide +kernel
theorem dX12_wrongFlag_2 : decode cX12_wrongFlag 2 = .ok (.invokevirtual 184, 3) := by decide +kernel
theorem dX12_wrongFlag_5 : decode cX12_wrongFlag 5 = .ok (.i2l, 1) := by decide +kernel
theorem dX12_wrongFlag_6 : decode cX12_wrongFlag 6 = .ok (.ldc2_w 187, 3) := by decide +kernel
theorem dX12_wrongFlag_9 : decode cX12_wrongFlag 9 = .ok (.ldc2_w 189, 3) := by decide +kernel
theorem dX12_wrongFlag_12 : decode cX12_wrongFlag 12 = .ok (.invokestatic 105, 3) := by decide +kernel
theorem dX12_wrongFlag_15 : decode cX12_wrongFlag 15 = .ok (.ifCond .ne 5, 3) := by decide +kernel
theorem dX12_wrongFlag_18 : decode cX12_wrongFlag 18 = .ok (.iload_n 1, 1) := by decide +kernel
theorem dX12_wrongFlag_19 : decode cX12_wrongFlag 19 = .ok (.ireturn, 1) := by decide +kernel
theorem dX12_wrongFlag_20 : decode cX12_wrongFlag 20 = .ok (.aload_n 0, 1) := by decide +kernel
theorem dX12_wrongFlag_21 : decode cX12_wrongFlag 21 = .ok (.iload_n 1, 1) := by decide +kernel
theorem dX12_wrongFlag_22 : decode cX12_wrongFlag 22 = .ok (.iconst 1, 1) := by decide +kernel
theorem dX12_wrongFlag_23 : decode cX12_wrongFlag 23 = .ok (.iadd, 1) := by decide +kernel
theorem dX12_wrongFlag_24 : decode cX12_wrongFlag 24 = .ok (.invokevirtual 184, 3) := by decide +kernel
theorem dX12_wrongFlag_27 : decode cX12_wrongFlag 27 = .ok (.bipush 32, 2) := by decide +kernel
theorem dX12_wrongFlag_29 : decode cX12_wrongFlag 29 = .ok (.if_icmp .eq 7, 3) := by decide +kernel
theorem dX12_wrongFlag_32 : decode cX12_wrongFlag 32 = .ok (.iload_n 1, 1) := by decide +kernel
theorem dX12_wrongFlag_33 : decode cX12_wrongFlag 33 = .ok (.iconst 1, 1) := by decide +kernel
theorem dX12_wrongFlag_34 : decode cX12_wrongFlag 34 = .ok (.iadd, 1) := by decide +kernel
theorem dX12_wrongFlag_35 : decode cX12_wrongFlag 35 = .ok (.ireturn, 1) := by decide +kernel
theorem dX12_wrongFlag_36 : decode cX12_wrongFlag 36 = .ok (.iload_n 1, 1) := by decide +kernel
theorem dX12_wrongFlag_37 : decode cX12_wrongFlag 37 = .ok (.iconst 2, 1) := by decide +kernel
theorem dX12_wrongFlag_38 : decode cX12_wrongFlag 38 = .ok (.iadd, 1) := by decide +kernel
theorem dX12_wrongFlag_39 : decode cX12_wrongFlag 39 = .ok (.istore_n 2, 1) := by decide +kernel
theorem dX12_wrongFlag_40 : decode cX12_wrongFlag 40 = .ok (.iload_n 2, 1) := by decide +kernel
theorem dX12_wrongFlag_41 : decode cX12_wrongFlag 41 = .ok (.aload_n 0, 1) := by decide +kernel
theorem dX12_wrongFlag_42 : decode cX12_wrongFlag 42 = .ok (.iload_n 2, 1) := by decide +kernel
theorem dX12_wrongFlag_43 : decode cX12_wrongFlag 43 = .ok (.invokevirtual 184, 3) := by decide +kernel
theorem dX12_wrongFlag_46 : decode cX12_wrongFlag 46 = .ok (.bipush 45, 2) := by decide +kernel
theorem dX12_wrongFlag_48 : decode cX12_wrongFlag 48 = .ok (.if_icmp .ne 7, 3) := by decide +kernel
theorem dX12_wrongFlag_51 : decode cX12_wrongFlag 51 = .ok (.iconst 1, 1) := by decide +kernel
theorem dX12_wrongFlag_52 : decode cX12_wrongFlag 52 = .ok (.goto 4, 3) := by decide +kernel
theorem dX12_wrongFlag_55 : decode cX12_wrongFlag 55 = .ok (.iconst 0, 1) := by decide +kernel
theorem dX12_wrongFlag_56 : decode cX12_wrongFlag 56 = .ok (.iadd, 1) := by decide +kernel
theorem dX12_wrongFlag_57 : decode cX12_wrongFlag 57 = .ok (.istore_n 2, 1) := by decide +kernel
theorem dX12_wrongFlag_58 : decode cX12_wrongFlag 58 = .ok (.iconst 0, 1) := by decide +kernel
theorem dX12_wrongFlag_59 : decode cX12_wrongFlag 59 = .ok (.istore_n 3, 1) := by decide +kernel
theorem dX12_wrongFlag_60 : decode cX12_wrongFlag 60 = .ok (.aload_n 0, 1) := by decide +kernel
theorem dX12_wrongFlag_61 : decode cX12_wrongFlag 61 = .ok (.iload_n 2, 1) := by decide +kernel
theorem dX12_wrongFlag_62 : decode cX12_wrongFlag 62 = .ok (.invokevirtual 184, 3) := by decide +kernel
theorem dX12_wrongFlag_65 : decode cX12_wrongFlag 65 = .ok (.i2l, 1) := by decide +kernel
theorem dX12_wrongFlag_66 : decode cX12_wrongFlag 66 = .ok (.ldc2_w 187, 3) := by decide +kernel
theorem dX12_wrongFlag_69 : decode cX12_wrongFlag 69 = .ok (.ldc2_w 191, 3) := by decide +kernel
theorem dX12_wrongFlag_72 : decode cX12_wrongFlag 72 = .ok (.invokestatic 105, 3) := by decide +kernel
theorem dX12_wrongFlag_75 : decode cX12_wrongFlag 75 = .ok (.ifCond .eq 18, 3) := by decide +kernel
theorem dX12_wrongFlag_78 : decode cX12_wrongFlag 78 = .ok (.iload_n 3, 1) := by decide +kernel
theorem dX12_wrongFlag_79 : decode cX12_wrongFlag 79 = .ok (.bipush 6, 2) := by decide +kernel
theorem dX12_wrongFlag_81 : decode cX12_wrongFlag 81 = .ok (.if_icmp .ge 12, 3) := by decide +kernel
theorem dX12_wrongFlag_84 : decode cX12_wrongFlag 84 = .ok (.iinc 3 1, 3) := by decide +kernel
theorem dX12_wrongFlag_87 : decode cX12_wrongFlag 87 = .ok (.iinc 2 1, 3) := by decide +kernel
theorem dX12_wrongFlag_90 : decode cX12_wrongFlag 90 = .ok (.goto (-30), 3) := by decide +kernel
theorem dX12_wrongFlag_93 : decode cX12_wrongFlag 93 = .ok (.iload_n 3, 1) := by decide +kernel
theorem dX12_wrongFlag_94 : decode cX12_wrongFlag 94 = .ok (.ifCond .le 17, 3) := by decide +kernel
theorem dX12_wrongFlag_97 : decode cX12_wrongFlag 97 = .ok (.aload_n 0, 1) := by decide +kernel
theorem dX12_wrongFlag_98 : decode cX12_wrongFlag 98 = .ok (.iload_n 2, 1) := by decide +kernel
theorem dX12_wrongFlag_99 : decode cX12_wrongFlag 99 = .ok (.invokevirtual 184, 3) := by decide +kernel
theorem dX12_wrongFlag_102 : decode cX12_wrongFlag 102 = .ok (.bipush 10, 2) := by decide +kernel
theorem dX12_wrongFlag_104 : decode cX12_wrongFlag 104 = .ok (.if_icmp .ne 7, 3) := by decide +kernel
theorem dX12_wrongFlag_107 : decode cX12_wrongFlag 107 = .ok (.iconst (-1), 1) := by decide +kernel
theorem dX12_wrongFlag_108 : decode cX12_wrongFlag 108 = .ok (.goto 4, 3) := by decide +kernel
theorem dX12_wrongFlag_111 : decode cX12_wrongFlag 111 = .ok (.iload_n 2, 1) := by decide +kernel
theorem dX12_wrongFlag_112 : decode cX12_wrongFlag 112 = .ok (.ireturn, 1) := by decide +kernel
theorem dX12_wrongDigit_0 : decode cX12_wrongDigit 0 = .ok (.aload_n 0, 1) := by decide +kernel
theorem dX12_wrongDigit_1 : decode cX12_wrongDigit 1 = .ok (.iload_n 1, 1) := by decide +kernel
theorem dX12_wrongDigit_2 : decode cX12_wrongDigit 2 = .ok (.invokevirtual 184, 3) := by decide +kernel
theorem dX12_wrongDigit_5 : decode cX12_wrongDigit 5 = .ok (.i2l, 1) := by decide +kernel
theorem dX12_wrongDigit_6 : decode cX12_wrongDigit 6 = .ok (.iload_n 2, 1) := by decide +kernel
theorem dX12_wrongDigit_7 : decode cX12_wrongDigit 7 = .ok (.i2l, 1) := by decide +kernel
theorem dX12_wrongDigit_8 : decode cX12_wrongDigit 8 = .ok (.iload_n 3, 1) := by decide +kernel
theorem dX12_wrongDigit_9 : decode cX12_wrongDigit 9 = .ok (.i2l, 1) := by decide +kernel
theorem dX12_wrongDigit_10 : decode cX12_wrongDigit 10 = .ok (.invokestatic 105, 3) := by decide +kernel
theorem dX12_wrongDigit_13 : decode cX12_wrongDigit 13 = .ok (.ifCond .ne 7, 3) := by decide +kernel
theorem dX12_wrongDigit_16 : decode cX12_wrongDigit 16 = .ok (.iload_n 1, 1) := by decide +kernel
theorem dX12_wrongDigit_17 : decode cX12_wrongDigit 17 = .ok (.goto 22, 3) := by decide +kernel
theorem dX12_wrongDigit_20 : decode cX12_wrongDigit 20 = .ok (.aload_n 0, 1) := by decide +kernel
theorem dX12_wrongDigit_21 : decode cX12_wrongDigit 21 = .ok (.iload_n 1, 1) := by decide +kernel
theorem dX12_wrongDigit_22 : decode cX12_wrongDigit 22 = .ok (.iconst 1, 1) := by decide +kernel
theorem dX12_wrongDigit_23 : decode cX12_wrongDigit 23 = .ok (.iadd, 1) := by decide +kernel
theorem dX12_wrongDigit_24 : decode cX12_wrongDigit 24 = .ok (.invokevirtual 184, 3) := by decide +kernel
theorem dX12_wrongDigit_27 : decode cX12_wrongDigit 27 = .ok (.bipush 10, 2) := by decide +kernel
theorem dX12_wrongDigit_29 : decode cX12_wrongDigit 29 = .ok (.if_icmp .eq 9, 3) := by decide +kernel
theorem dX12_wrongDigit_32 : decode cX12_wrongDigit 32 = .ok (.iload_n 1, 1) := by decide +kernel
theorem dX12_wrongDigit_33 : decode cX12_wrongDigit 33 = .ok (.iconst 1, 1) := by decide +kernel
theorem dX12_wrongDigit_34 : decode cX12_wrongDigit 34 = .ok (.iadd, 1) := by decide +kernel
theorem dX12_wrongDigit_35 : decode cX12_wrongDigit 35 = .ok (.goto 4, 3) := by decide +kernel
theorem dX12_wrongDigit_38 : decode cX12_wrongDigit 38 = .ok (.iconst (-1), 1) := by decide +kernel
theorem dX12_wrongDigit_39 : decode cX12_wrongDigit 39 = .ok (.ireturn, 1) := by decide +kernel
theorem dX12_wrongLine_0 : decode cX12_wrongLine 0 = .ok (.aload_n 0, 1) := by decide +kernel
theorem dX12_wrongLine_1 : decode cX12_wrongLine 1 = .ok (.iload_n 1, 1) := by decide +kernel
theorem dX12_wrongLine_2 : decode cX12_wrongLine 2 = .ok (.invokevirtual 184, 3) := by decide +kernel
theorem dX12_wrongLine_5 : decode cX12_wrongLine 5 = .ok (.istore_n 2, 1) := by decide +kernel
theorem dX12_wrongLine_6 : decode cX12_wrongLine 6 = .ok (.iload_n 2, 1) := by decide +kernel
theorem dX12_wrongLine_7 : decode cX12_wrongLine 7 = .ok (.bipush 62, 2) := by decide +kernel
theorem dX12_wrongLine_9 : decode cX12_wrongLine 9 = .ok (.if_icmp .eq 47, 3) := by decide +kernel
theorem dX12_wrongLine_12 : decode cX12_wrongLine 12 = .ok (.iload_n 2, 1) := by decide +kernel
theorem dX12_wrongLine_13 : decode cX12_wrongLine 13 = .ok (.bipush 61, 2) := by decide +kernel
theorem dX12_wrongLine_15 : decode cX12_wrongLine 15 = .ok (.if_icmp .eq 41, 3) := by decide +kernel
theorem dX12_wrongLine_18 : decode cX12_wrongLine 18 = .ok (.iload_n 2, 1) := by decide +kernel
theorem dX12_wrongLine_19 : decode cX12_wrongLine 19 = .ok (.bipush 63, 2) := by decide +kernel
theorem dX12_wrongLine_21 : decode cX12_wrongLine 21 = .ok (.if_icmp .eq 35, 3) := by decide +kernel
theorem dX12_wrongLine_24 : decode cX12_wrongLine 24 = .ok (.iload_n 2, 1) := by decide +kernel
theorem dX12_wrongLine_25 : decode cX12_wrongLine 25 = .ok (.bipush 64, 2) := by decide +kernel
theorem dX12_wrongLine_27 : decode cX12_wrongLine 27 = .ok (.if_icmp .eq 29, 3) := by decide +kernel
theorem dX12_wrongLine_30 : decode cX12_wrongLine 30 = .ok (.iload_n 2, 1) := by decide +kernel
theorem dX12_wrongLine_31 : decode cX12_wrongLine 31 = .ok (.bipush 33, 2) := by decide +kernel
theorem dX12_wrongLine_33 : decode cX12_wrongLine 33 = .ok (.if_icmp .eq 23, 3) := by decide +kernel
theorem dX12_wrongLine_36 : decode cX12_wrongLine 36 = .ok (.iload_n 2, 1) := by decide +kernel
theorem dX12_wrongLine_37 : decode cX12_wrongLine 37 = .ok (.bipush 115, 2) := by decide +kernel
theorem dX12_wrongLine_39 : decode cX12_wrongLine 39 = .ok (.if_icmp .eq 17, 3) := by decide +kernel
theorem dX12_wrongLine_42 : decode cX12_wrongLine 42 = .ok (.iload_n 2, 1) := by decide +kernel
theorem dX12_wrongLine_43 : decode cX12_wrongLine 43 = .ok (.bipush 98, 2) := by decide +kernel
theorem dX12_wrongLine_45 : decode cX12_wrongLine 45 = .ok (.if_icmp .eq 11, 3) := by decide +kernel
theorem dX12_wrongLine_48 : decode cX12_wrongLine 48 = .ok (.iload_n 2, 1) := by decide +kernel
theorem dX12_wrongLine_49 : decode cX12_wrongLine 49 = .ok (.bipush 35, 2) := by decide +kernel
theorem dX12_wrongLine_51 : decode cX12_wrongLine 51 = .ok (.if_icmp .eq 5, 3) := by decide +kernel
theorem dX12_wrongLine_54 : decode cX12_wrongLine 54 = .ok (.iload_n 1, 1) := by decide +kernel
theorem dX12_wrongLine_55 : decode cX12_wrongLine 55 = .ok (.ireturn, 1) := by decide +kernel
theorem dX12_wrongLine_56 : decode cX12_wrongLine 56 = .ok (.aload_n 0, 1) := by decide +kernel
theorem dX12_wrongLine_57 : decode cX12_wrongLine 57 = .ok (.iload_n 1, 1) := by decide +kernel
theorem dX12_wrongLine_58 : decode cX12_wrongLine 58 = .ok (.iconst 1, 1) := by decide +kernel
theorem dX12_wrongLine_59 : decode cX12_wrongLine 59 = .ok (.iadd, 1) := by decide +kernel
theorem dX12_wrongLine_60 : decode cX12_wrongLine 60 = .ok (.invokevirtual 184, 3) := by decide +kernel
theorem dX12_wrongLine_63 : decode cX12_wrongLine 63 = .ok (.bipush 32, 2) := by decide +kernel
theorem dX12_wrongLine_65 : decode cX12_wrongLine 65 = .ok (.if_icmp .eq 7, 3) := by decide +kernel
theorem dX12_wrongLine_68 : decode cX12_wrongLine 68 = .ok (.iload_n 1, 1) := by decide +kernel
theorem dX12_wrongLine_69 : decode cX12_wrongLine 69 = .ok (.iconst 1, 1) := by decide +kernel
theorem dX12_wrongLine_70 : decode cX12_wrongLine 70 = .ok (.iadd, 1) := by decide +kernel
theorem dX12_wrongLine_71 : decode cX12_wrongLine 71 = .ok (.ireturn, 1) := by decide +kernel
theorem dX12_wrongLine_72 : decode cX12_wrongLine 72 = .ok (.iload_n 2, 1) := by decide +kernel
theorem dX12_wrongLine_73 : decode cX12_wrongLine 73 = .ok (.lookupswitch 110 #[(33, 96), (35, 108), (61, 68), (62, 59), (63, 76), (64, 84)], 59) := by decide +kernel
theorem dX12_wrongLine_132 : decode cX12_wrongLine 132 = .ok (.aload_n 0, 1) := by decide +kernel
theorem dX12_wrongLine_133 : decode cX12_wrongLine 133 = .ok (.iload_n 1, 1) := by decide +kernel
theorem dX12_wrongLine_134 : decode cX12_wrongLine 134 = .ok (.iconst 2, 1) := by decide +kernel
theorem dX12_wrongLine_135 : decode cX12_wrongLine 135 = .ok (.iadd, 1) := by decide +kernel
theorem dX12_wrongLine_136 : decode cX12_wrongLine 136 = .ok (.iconst 0, 1) := by decide +kernel
theorem dX12_wrongLine_137 : decode cX12_wrongLine 137 = .ok (.invokevirtual 193, 3) := by decide +kernel
theorem dX12_wrongLine_140 : decode cX12_wrongLine 140 = .ok (.ireturn, 1) := by decide +kernel
theorem dX12_wrongLine_141 : decode cX12_wrongLine 141 = .ok (.aload_n 0, 1) := by decide +kernel
theorem dX12_wrongLine_142 : decode cX12_wrongLine 142 = .ok (.iload_n 1, 1) := by decide +kernel
theorem dX12_wrongLine_143 : decode cX12_wrongLine 143 = .ok (.iconst 2, 1) := by decide +kernel
theorem dX12_wrongLine_144 : decode cX12_wrongLine 144 = .ok (.iadd, 1) := by decide +kernel
theorem dX12_wrongLine_145 : decode cX12_wrongLine 145 = .ok (.invokevirtual 197, 3) := by decide +kernel
theorem dX12_wrongLine_148 : decode cX12_wrongLine 148 = .ok (.ireturn, 1) := by decide +kernel
theorem dX12_wrongLine_149 : decode cX12_wrongLine 149 = .ok (.aload_n 0, 1) := by decide +kernel
theorem dX12_wrongLine_150 : decode cX12_wrongLine 150 = .ok (.iload_n 1, 1) := by decide +kernel
theorem dX12_wrongLine_151 : decode cX12_wrongLine 151 = .ok (.iconst 2, 1) := by decide +kernel
theorem dX12_wrongLine_152 : decode cX12_wrongLine 152 = .ok (.iadd, 1) := by decide +kernel
theorem dX12_wrongLine_153 : decode cX12_wrongLine 153 = .ok (.invokevirtual 200, 3) := by decide +kernel
theorem dX12_wrongLine_156 : decode cX12_wrongLine 156 = .ok (.ireturn, 1) := by decide +kernel
theorem dX12_wrongLine_157 : decode cX12_wrongLine 157 = .ok (.aload_n 0, 1) := by decide +kernel
theorem dX12_wrongLine_158 : decode cX12_wrongLine 158 = .ok (.iload_n 1, 1) := by decide +kernel
theorem dX12_wrongLine_159 : decode cX12_wrongLine 159 = .ok (.iconst 2, 1) := by decide +kernel
theorem dX12_wrongLine_160 : decode cX12_wrongLine 160 = .ok (.iadd, 1) := by decide +kernel
theorem dX12_wrongLine_161 : decode cX12_wrongLine 161 = .ok (.bipush 48, 2) := by decide +kernel
theorem dX12_wrongLine_163 : decode cX12_wrongLine 163 = .ok (.bipush 55, 2) := by decide +kernel
theorem dX12_wrongLine_165 : decode cX12_wrongLine 165 = .ok (.invokevirtual 203, 3) := by decide +kernel
theorem dX12_wrongLine_168 : decode cX12_wrongLine 168 = .ok (.ireturn, 1) := by decide +kernel
theorem dX12_wrongLine_169 : decode cX12_wrongLine 169 = .ok (.aload_n 0, 1) := by decide +kernel
theorem dX12_wrongLine_170 : decode cX12_wrongLine 170 = .ok (.iload_n 1, 1) := by decide +kernel
theorem dX12_wrongLine_171 : decode cX12_wrongLine 171 = .ok (.iconst 2, 1) := by decide +kernel
theorem dX12_wrongLine_172 : decode cX12_wrongLine 172 = .ok (.iadd, 1) := by decide +kernel
theorem dX12_wrongLine_173 : decode cX12_wrongLine 173 = .ok (.bipush 49, 2) := by decide +kernel
theorem dX12_wrongLine_175 : decode cX12_wrongLine 175 = .ok (.bipush 57, 2) := by decide +kernel
theorem dX12_wrongLine_177 : decode cX12_wrongLine 177 = .ok (.invokevirtual 203, 3) := by decide +kernel
theorem dX12_wrongLine_180 : decode cX12_wrongLine 180 = .ok (.ireturn, 1) := by decide +kernel
theorem dX12_wrongLine_181 : decode cX12_wrongLine 181 = .ok (.iconst (-1), 1) := by decide +kernel
theorem dX12_wrongLine_182 : decode cX12_wrongLine 182 = .ok (.ireturn, 1) := by decide +kernel
theorem dX12_wrongLine_183 : decode cX12_wrongLine 183 = .ok (.aload_n 0, 1) := by decide +kernel
theorem dX12_wrongLine_184 : decode cX12_wrongLine 184 = .ok (.iload_n 1, 1) := by decide +kernel
theorem dX12_wrongLine_185 : decode cX12_wrongLine 185 = .ok (.iconst 2, 1) := by decide +kernel
theorem dX12_wrongLine_186 : decode cX12_wrongLine 186 = .ok (.iadd, 1) := by decide +kernel
theorem dX12_wrongLine_187 : decode cX12_wrongLine 187 = .ok (.bipush 48, 2) := by decide +kernel
theorem dX12_wrongLine_189 : decode cX12_wrongLine 189 = .ok (.bipush 51, 2) := by decide +kernel
theorem dX12_wrongLine_191 : decode cX12_wrongLine 191 = .ok (.invokevirtual 203, 3) := by decide +kernel
theorem dX12_wrongLine_194 : decode cX12_wrongLine 194 = .ok (.ireturn, 1) := by decide +kernel
theorem dX12_script_0 : decode cX12_script 0 = .ok (.aload_n 0, 1) := by decide +kernel
theorem dX12_script_1 : decode cX12_script 1 = .ok (.iconst 0, 1) := by decide +kernel
theorem dX12_script_2 : decode cX12_script 2 = .ok (.putfield 1, 3) := by decide +kernel
theorem dX12_script_5 : decode cX12_script 5 = .ok (.iconst (-1), 1) := by decide +kernel
theorem dX12_script_6 : decode cX12_script 6 = .ok (.istore_n 1, 1) := by decide +kernel
theorem dX12_script_7 : decode cX12_script 7 = .ok (.iconst 0, 1) := by decide +kernel
theorem dX12_script_8 : decode cX12_script 8 = .ok (.istore_n 2, 1) := by decide +kernel
theorem dX12_script_9 : decode cX12_script 9 = .ok (.iconst 0, 1) := by decide +kernel
theorem dX12_script_10 : decode cX12_script 10 = .ok (.istore_n 3, 1) := by decide +kernel
theorem dX12_script_11 : decode cX12_script 11 = .ok (.iload_n 2, 1) := by decide +kernel
theorem dX12_script_12 : decode cX12_script 12 = .ok (.aload_n 0, 1) := by decide +kernel
theorem dX12_script_13 : decode cX12_script 13 = .ok (.getfield 109, 3) := by decide +kernel
theorem dX12_script_16 : decode cX12_script 16 = .ok (.if_icmp .ge 68, 3) := by decide +kernel
theorem dX12_script_19 : decode cX12_script 19 = .ok (.iload_n 1, 1) := by decide +kernel
theorem dX12_script_20 : decode cX12_script 20 = .ok (.ifCond .ge 64, 3) := by decide +kernel
theorem dX12_script_23 : decode cX12_script 23 = .ok (.iinc 3 1, 3) := by decide +kernel
theorem dX12_script_26 : decode cX12_script 26 = .ok (.aload_n 0, 1) := by decide +kernel
theorem dX12_script_27 : decode cX12_script 27 = .ok (.getfield 13, 3) := by decide +kernel
theorem dX12_script_30 : decode cX12_script 30 = .ok (.iload_n 2, 1) := by decide +kernel
theorem dX12_script_31 : decode cX12_script 31 = .ok (.iaload, 1) := by decide +kernel
theorem dX12_script_32 : decode cX12_script 32 = .ok (.bipush 10, 2) := by decide +kernel
theorem dX12_script_34 : decode cX12_script 34 = .ok (.if_icmp .eq 44, 3) := by decide +kernel
theorem dX12_script_37 : decode cX12_script 37 = .ok (.iload_n 3, 1) := by decide +kernel
theorem dX12_script_38 : decode cX12_script 38 = .ok (.bipush 40, 2) := by decide +kernel
theorem dX12_script_40 : decode cX12_script 40 = .ok (.if_icmp .le 7, 3) := by decide +kernel
theorem dX12_script_43 : decode cX12_script 43 = .ok (.iload_n 2, 1) := by decide +kernel
theorem dX12_script_44 : decode cX12_script 44 = .ok (.goto 8, 3) := by decide +kernel
theorem dX12_script_47 : decode cX12_script 47 = .ok (.aload_n 0, 1) := by decide +kernel
theorem dX12_script_48 : decode cX12_script 48 = .ok (.iload_n 2, 1) := by decide +kernel
theorem dX12_script_49 : decode cX12_script 49 = .ok (.invokevirtual 207, 3) := by decide +kernel
theorem dX12_script_52 : decode cX12_script 52 = .ok (.istore_n 1, 1) := by decide +kernel
theorem dX12_script_53 : decode cX12_script 53 = .ok (.iload_n 2, 1) := by decide +kernel
theorem dX12_script_54 : decode cX12_script 54 = .ok (.aload_n 0, 1) := by decide +kernel
theorem dX12_script_55 : decode cX12_script 55 = .ok (.getfield 109, 3) := by decide +kernel
theorem dX12_script_58 : decode cX12_script 58 = .ok (.if_icmp .ge 20, 3) := by decide +kernel
theorem dX12_script_61 : decode cX12_script 61 = .ok (.aload_n 0, 1) := by decide +kernel
theorem dX12_script_62 : decode cX12_script 62 = .ok (.getfield 13, 3) := by decide +kernel
theorem dX12_script_65 : decode cX12_script 65 = .ok (.iload_n 2, 1) := by decide +kernel
theorem dX12_script_66 : decode cX12_script 66 = .ok (.iaload, 1) := by decide +kernel
theorem dX12_script_67 : decode cX12_script 67 = .ok (.bipush 10, 2) := by decide +kernel
theorem dX12_script_69 : decode cX12_script 69 = .ok (.if_icmp .eq 9, 3) := by decide +kernel
theorem dX12_script_72 : decode cX12_script 72 = .ok (.iinc 2 1, 3) := by decide +kernel
theorem dX12_script_75 : decode cX12_script 75 = .ok (.goto (-22), 3) := by decide +kernel
theorem dX12_script_78 : decode cX12_script 78 = .ok (.iinc 2 1, 3) := by decide +kernel
theorem dX12_script_81 : decode cX12_script 81 = .ok (.goto (-70), 3) := by decide +kernel
theorem dX12_script_84 : decode cX12_script 84 = .ok (.aload_n 0, 1) := by decide +kernel
theorem dX12_script_85 : decode cX12_script 85 = .ok (.getfield 109, 3) := by decide +kernel
theorem dX12_script_88 : decode cX12_script 88 = .ok (.istore 4, 2) := by decide +kernel
theorem dX12_script_90 : decode cX12_script 90 = .ok (.aload_n 0, 1) := by decide +kernel
theorem dX12_script_91 : decode cX12_script 91 = .ok (.iconst 0, 1) := by decide +kernel
theorem dX12_script_92 : decode cX12_script 92 = .ok (.putfield 109, 3) := by decide +kernel
theorem dX12_script_95 : decode cX12_script 95 = .ok (.aload_n 0, 1) := by decide +kernel
theorem dX12_script_96 : decode cX12_script 96 = .ok (.getfield 210, 3) := by decide +kernel
theorem dX12_script_99 : decode cX12_script 99 = .ok (.bipush 10, 2) := by decide +kernel
theorem dX12_script_101 : decode cX12_script 101 = .ok (.if_icmp .ne 6, 3) := by decide +kernel
theorem dX12_script_104 : decode cX12_script 104 = .ok (.bipush (-5), 2) := by decide +kernel
theorem dX12_script_106 : decode cX12_script 106 = .ok (.ireturn, 1) := by decide +kernel
theorem dX12_script_107 : decode cX12_script 107 = .ok (.iload_n 1, 1) := by decide +kernel
theorem dX12_script_108 : decode cX12_script 108 = .ok (.ifCond .lt 8, 3) := by decide +kernel
theorem dX12_script_111 : decode cX12_script 111 = .ok (.bipush (-10), 2) := by decide +kernel
theorem dX12_script_113 : decode cX12_script 113 = .ok (.iload_n 1, 1) := by decide +kernel
theorem dX12_script_114 : decode cX12_script 114 = .ok (.isub, 1) := by decide +kernel
theorem dX12_script_115 : decode cX12_script 115 = .ok (.ireturn, 1) := by decide +kernel
theorem dX12_script_116 : decode cX12_script 116 = .ok (.iconst 0, 1) := by decide +kernel
theorem dX12_script_117 : decode cX12_script 117 = .ok (.istore 5, 2) := by decide +kernel
theorem dX12_script_119 : decode cX12_script 119 = .ok (.iload 5, 2) := by decide +kernel
theorem dX12_script_121 : decode cX12_script 121 = .ok (.iload 4, 2) := by decide +kernel
theorem dX12_script_123 : decode cX12_script 123 = .ok (.if_icmp .ge 32, 3) := by decide +kernel
theorem dX12_script_126 : decode cX12_script 126 = .ok (.aload_n 0, 1) := by decide +kernel
theorem dX12_script_127 : decode cX12_script 127 = .ok (.getfield 82, 3) := by decide +kernel
theorem dX12_script_130 : decode cX12_script 130 = .ok (.sipush 600, 3) := by decide +kernel
theorem dX12_script_133 : decode cX12_script 133 = .ok (.aload_n 0, 1) := by decide +kernel
theorem dX12_script_134 : decode cX12_script 134 = .ok (.getfield 210, 3) := by decide +kernel
theorem dX12_script_137 : decode cX12_script 137 = .ok (.imul, 1) := by decide +kernel
theorem dX12_script_138 : decode cX12_script 138 = .ok (.iload 5, 2) := by decide +kernel
theorem dX12_script_140 : decode cX12_script 140 = .ok (.iadd, 1) := by decide +kernel
theorem dX12_script_141 : decode cX12_script 141 = .ok (.aload_n 0, 1) := by decide +kernel
theorem dX12_script_142 : decode cX12_script 142 = .ok (.getfield 13, 3) := by decide +kernel
theorem dX12_script_145 : decode cX12_script 145 = .ok (.iload 5, 2) := by decide +kernel
theorem dX12_script_147 : decode cX12_script 147 = .ok (.iaload, 1) := by decide +kernel
theorem dX12_script_148 : decode cX12_script 148 = .ok (.iastore, 1) := by decide +kernel
theorem dX12_script_149 : decode cX12_script 149 = .ok (.iinc 5 1, 3) := by decide +kernel
theorem dX12_script_152 : decode cX12_script 152 = .ok (.goto (-33), 3) := by decide +kernel
theorem dX12_script_155 : decode cX12_script 155 = .ok (.aload_n 0, 1) := by decide +kernel
theorem dX12_script_156 : decode cX12_script 156 = .ok (.getfield 85, 3) := by decide +kernel
theorem dX12_script_159 : decode cX12_script 159 = .ok (.aload_n 0, 1) := by decide +kernel
theorem dX12_script_160 : decode cX12_script 160 = .ok (.getfield 210, 3) := by decide +kernel
theorem dX12_script_163 : decode cX12_script 163 = .ok (.iload 4, 2) := by decide +kernel
theorem dX12_script_165 : decode cX12_script 165 = .ok (.iastore, 1) := by decide +kernel
theorem dX12_script_166 : decode cX12_script 166 = .ok (.aload_n 0, 1) := by decide +kernel
theorem dX12_script_167 : decode cX12_script 167 = .ok (.dup, 1) := by decide +kernel
theorem dX12_script_168 : decode cX12_script 168 = .ok (.getfield 210, 3) := by decide +kernel
theorem dX12_script_171 : decode cX12_script 171 = .ok (.iconst 1, 1) := by decide +kernel
theorem dX12_script_172 : decode cX12_script 172 = .ok (.iadd, 1) := by decide +kernel
theorem dX12_script_173 : decode cX12_script 173 = .ok (.putfield 210, 3) := by decide +kernel
theorem dX12_script_176 : decode cX12_script 176 = .ok (.aload_n 0, 1) := by decide +kernel
theorem dX12_script_177 : decode cX12_script 177 = .ok (.getfield 210, 3) := by decide +kernel
theorem dX12_script_180 : decode cX12_script 180 = .ok (.iconst 1, 1) := by decide +kernel
theorem dX12_script_181 : decode cX12_script 181 = .ok (.isub, 1) := by decide +kernel
theorem dX12_script_182 : decode cX12_script 182 = .ok (.ireturn, 1) := by decide +kernel
theorem dX12_signOf_0 : decode cX12_signOf 0 = .ok (.iload_n 1, 1) := by decide +kernel
theorem dX12_signOf_1 : decode cX12_signOf 1 = .ok (.ifCond .ge 8, 3) := by decide +kernel
theorem dX12_signOf_4 : decode cX12_signOf 4 = .ok (.bipush 63, 2) := by decide +kernel
theorem dX12_signOf_6 : decode cX12_signOf 6 = .ok (.goto 14, 3) := by decide +kernel
theorem dX12_signOf_9 : decode cX12_signOf 9 = .ok (.aload_n 0, 1) := by decide +kernel
theorem dX12_signOf_10 : decode cX12_signOf 10 = .ok (.getfield 23, 3) := by decide +kernel
theorem dX12_signOf_13 : decode cX12_signOf 13 = .ok (.bipush 20, 2) := by decide +kernel
theorem dX12_signOf_15 : decode cX12_signOf 15 = .ok (.iload_n 1, 1) := by decide +kernel
theorem dX12_signOf_16 : decode cX12_signOf 16 = .ok (.imul, 1) := by decide +kernel
theorem dX12_signOf_17 : decode cX12_signOf 17 = .ok (.iload_n 2, 1) := by decide +kernel
theorem dX12_signOf_18 : decode cX12_signOf 18 = .ok (.iadd, 1) := by decide +kernel
theorem dX12_signOf_19 : decode cX12_signOf 19 = .ok (.iaload, 1) := by decide +kernel
theorem dX12_signOf_20 : decode cX12_signOf 20 = .ok (.ireturn, 1) := by decide +kernel
theorem dX12_signsOf_0 : decode cX12_signsOf 0 = .ok (.iload_n 1, 1) := by decide +kernel
theorem dX12_signsOf_1 : decode cX12_signsOf 1 = .ok (.ifCond .ge 7, 3) := by decide +kernel
theorem dX12_signsOf_4 : decode cX12_signsOf 4 = .ok (.iconst 1, 1) := by decide +kernel
theorem dX12_signsOf_5 : decode cX12_signsOf 5 = .ok (.goto 9, 3) := by decide +kernel
theorem dX12_signsOf_8 : decode cX12_signsOf 8 = .ok (.aload_n 0, 1) := by decide +kernel
theorem dX12_signsOf_9 : decode cX12_signsOf 9 = .ok (.getfield 26, 3) := by decide +kernel
theorem dX12_signsOf_12 : decode cX12_signsOf 12 = .ok (.iload_n 1, 1) := by decide +kernel
theorem dX12_signsOf_13 : decode cX12_signsOf 13 = .ok (.iaload, 1) := by decide +kernel
theorem dX12_signsOf_14 : decode cX12_signsOf 14 = .ok (.ireturn, 1) := by decide +kernel
theorem dX12_matches_0 : decode cX12_matches 0 = .ok (.aload_n 0, 1) := by decide +kernel
theorem dX12_matches_1 : decode cX12_matches 1 = .ok (.iload_n 3, 1) := by decide +kernel
theorem dX12_matches_2 : decode cX12_matches 2 = .ok (.invokevirtual 213, 3) := by decide +kernel
theorem dX12_matches_5 : decode cX12_matches 5 = .ok (.istore 4, 2) := by decide +kernel
theorem dX12_matches_7 : decode cX12_matches 7 = .ok (.iconst 1, 1) := by decide +kernel
theorem dX12_matches_8 : decode cX12_matches 8 = .ok (.istore 5, 2) := by decide +kernel
theorem dX12_matches_10 : decode cX12_matches 10 = .ok (.iload_n 1, 1) := by decide +kernel
theorem dX12_matches_11 : decode cX12_matches 11 = .ok (.istore 6, 2) := by decide +kernel
theorem dX12_matches_13 : decode cX12_matches 13 = .ok (.iload 6, 2) := by decide +kernel
theorem dX12_matches_15 : decode cX12_matches 15 = .ok (.iload_n 2, 1) := by decide +kernel
theorem dX12_matches_16 : decode cX12_matches 16 = .ok (.if_icmp .ge 289, 3) := by decide +kernel
theorem dX12_matches_19 : decode cX12_matches 19 = .ok (.aload_n 0, 1) := by decide +kernel
theorem dX12_matches_20 : decode cX12_matches 20 = .ok (.getfield 82, 3) := by decide +kernel
theorem dX12_matches_23 : decode cX12_matches 23 = .ok (.iload 6, 2) := by decide +kernel
theorem dX12_matches_25 : decode cX12_matches 25 = .ok (.iaload, 1) := by decide +kernel
theorem dX12_matches_26 : decode cX12_matches 26 = .ok (.istore 7, 2) := by decide +kernel
theorem dX12_matches_28 : decode cX12_matches 28 = .ok (.iload 6, 2) := by decide +kernel
theorem dX12_matches_30 : decode cX12_matches 30 = .ok (.iconst 1, 1) := by decide +kernel
theorem dX12_matches_31 : decode cX12_matches 31 = .ok (.iadd, 1) := by decide +kernel
theorem dX12_matches_32 : decode cX12_matches 32 = .ok (.istore 8, 2) := by decide +kernel
theorem dX12_matches_34 : decode cX12_matches 34 = .ok (.iload 7, 2) := by decide +kernel
theorem dX12_matches_36 : decode cX12_matches 36 = .ok (.bipush 91, 2) := by decide +kernel
theorem dX12_matches_38 : decode cX12_matches 38 = .ok (.if_icmp .ne 27, 3) := by decide +kernel
theorem dX12_matches_41 : decode cX12_matches 41 = .ok (.aload_n 0, 1) := by decide +kernel
theorem dX12_matches_42 : decode cX12_matches 42 = .ok (.getfield 82, 3) := by decide +kernel
theorem dX12_matches_45 : decode cX12_matches 45 = .ok (.iload 8, 2) := by decide +kernel
theorem dX12_matches_47 : decode cX12_matches 47 = .ok (.iaload, 1) := by decide +kernel
theorem dX12_matches_48 : decode cX12_matches 48 = .ok (.bipush 93, 2) := by decide +kernel
theorem dX12_matches_50 : decode cX12_matches 50 = .ok (.if_icmp .eq 9, 3) := by decide +kernel
theorem dX12_matches_53 : decode cX12_matches 53 = .ok (.iinc 8 1, 3) := by decide +kernel
theorem dX12_matches_56 : decode cX12_matches 56 = .ok (.goto (-15), 3) := by decide +kernel
theorem dX12_matches_59 : decode cX12_matches 59 = .ok (.iinc 8 1, 3) := by decide +kernel
theorem dX12_matches_62 : decode cX12_matches 62 = .ok (.goto 13, 3) := by decide +kernel
theorem dX12_matches_65 : decode cX12_matches 65 = .ok (.iload 7, 2) := by decide +kernel
theorem dX12_matches_67 : decode cX12_matches 67 = .ok (.bipush 92, 2) := by decide +kernel
theorem dX12_matches_69 : decode cX12_matches 69 = .ok (.if_icmp .ne 6, 3) := by decide +kernel
theorem dX12_matches_72 : decode cX12_matches 72 = .ok (.iinc 8 1, 3) := by decide +kernel
theorem dX12_matches_75 : decode cX12_matches 75 = .ok (.iconst 0, 1) := by decide +kernel
theorem dX12_matches_76 : decode cX12_matches 76 = .ok (.istore 9, 2) := by decide +kernel
theorem dX12_matches_78 : decode cX12_matches 78 = .ok (.iconst 0, 1) := by decide +kernel
theorem dX12_matches_79 : decode cX12_matches 79 = .ok (.istore 10, 2) := by decide +kernel
theorem dX12_matches_81 : decode cX12_matches 81 = .ok (.iload 10, 2) := by decide +kernel
theorem dX12_matches_83 : decode cX12_matches 83 = .ok (.iload 4, 2) := by decide +kernel
theorem dX12_matches_85 : decode cX12_matches 85 = .ok (.if_icmp .gt 209, 3) := by decide +kernel
theorem dX12_matches_88 : decode cX12_matches 88 = .ok (.iload 5, 2) := by decide +kernel
theorem dX12_matches_90 : decode cX12_matches 90 = .ok (.iload 10, 2) := by decide +kernel
theorem dX12_matches_92 : decode cX12_matches 92 = .ok (.ishr, 1) := by decide +kernel
theorem dX12_matches_93 : decode cX12_matches 93 = .ok (.iconst 1, 1) := by decide +kernel
theorem dX12_matches_94 : decode cX12_matches 94 = .ok (.iand, 1) := by decide +kernel
theorem dX12_matches_95 : decode cX12_matches 95 = .ok (.iconst 1, 1) := by decide +kernel
theorem dX12_matches_96 : decode cX12_matches 96 = .ok (.if_icmp .ne 7, 3) := by decide +kernel
theorem dX12_matches_99 : decode cX12_matches 99 = .ok (.iconst 1, 1) := by decide +kernel
theorem dX12_matches_100 : decode cX12_matches 100 = .ok (.goto 4, 3) := by decide +kernel
theorem dX12_matches_103 : decode cX12_matches 103 = .ok (.iconst 0, 1) := by decide +kernel
theorem dX12_matches_104 : decode cX12_matches 104 = .ok (.istore 11, 2) := by decide +kernel
theorem dX12_matches_106 : decode cX12_matches 106 = .ok (.iload 7, 2) := by decide +kernel
theorem dX12_matches_108 : decode cX12_matches 108 = .ok (.bipush 42, 2) := by decide +kernel
theorem dX12_matches_110 : decode cX12_matches 110 = .ok (.if_icmp .ne 29, 3) := by decide +kernel
theorem dX12_matches_113 : decode cX12_matches 113 = .ok (.iload 9, 2) := by decide +kernel
theorem dX12_matches_115 : decode cX12_matches 115 = .ok (.iload 11, 2) := by decide +kernel
theorem dX12_matches_117 : decode cX12_matches 117 = .ok (.ifCond .ne 8, 3) := by decide +kernel
theorem dX12_matches_120 : decode cX12_matches 120 = .ok (.iload 9, 2) := by decide +kernel
theorem dX12_matches_122 : decode cX12_matches 122 = .ok (.ifCond .eq 10, 3) := by decide +kernel
theorem dX12_matches_125 : decode cX12_matches 125 = .ok (.iconst 1, 1) := by decide +kernel
theorem dX12_matches_126 : decode cX12_matches 126 = .ok (.iload 10, 2) := by decide +kernel
theorem dX12_matches_128 : decode cX12_matches 128 = .ok (.ishl, 1) := by decide +kernel
theorem dX12_matches_129 : decode cX12_matches 129 = .ok (.goto 4, 3) := by decide +kernel
theorem dX12_matches_132 : decode cX12_matches 132 = .ok (.iconst 0, 1) := by decide +kernel
theorem dX12_matches_133 : decode cX12_matches 133 = .ok (.ior, 1) := by decide +kernel
theorem dX12_matches_134 : decode cX12_matches 134 = .ok (.istore 9, 2) := by decide +kernel
theorem dX12_matches_136 : decode cX12_matches 136 = .ok (.goto 152, 3) := by decide +kernel
theorem dX12_matches_139 : decode cX12_matches 139 = .ok (.iload 11, 2) := by decide +kernel
theorem dX12_matches_141 : decode cX12_matches 141 = .ok (.ifCond .eq 147, 3) := by decide +kernel
theorem dX12_matches_144 : decode cX12_matches 144 = .ok (.iload 10, 2) := by decide +kernel
theorem dX12_matches_146 : decode cX12_matches 146 = .ok (.iload 4, 2) := by decide +kernel
theorem dX12_matches_148 : decode cX12_matches 148 = .ok (.if_icmp .ge 140, 3) := by decide +kernel
theorem dX12_matches_151 : decode cX12_matches 151 = .ok (.aload_n 0, 1) := by decide +kernel
theorem dX12_matches_152 : decode cX12_matches 152 = .ok (.iload_n 3, 1) := by decide +kernel
theorem dX12_matches_153 : decode cX12_matches 153 = .ok (.iload 10, 2) := by decide +kernel
theorem dX12_matches_155 : decode cX12_matches 155 = .ok (.invokevirtual 216, 3) := by decide +kernel
theorem dX12_matches_158 : decode cX12_matches 158 = .ok (.istore 12, 2) := by decide +kernel
theorem dX12_matches_160 : decode cX12_matches 160 = .ok (.iload 7, 2) := by decide +kernel
theorem dX12_matches_162 : decode cX12_matches 162 = .ok (.bipush 46, 2) := by decide +kernel
theorem dX12_matches_164 : decode cX12_matches 164 = .ok (.if_icmp .eq 45, 3) := by decide +kernel
theorem dX12_matches_167 : decode cX12_matches 167 = .ok (.iload 7, 2) := by decide +kernel
theorem dX12_matches_169 : decode cX12_matches 169 = .ok (.bipush 92, 2) := by decide +kernel
theorem dX12_matches_171 : decode cX12_matches 171 = .ok (.if_icmp .ne 17, 3) := by decide +kernel
theorem dX12_matches_174 : decode cX12_matches 174 = .ok (.aload_n 0, 1) := by decide +kernel
theorem dX12_matches_175 : decode cX12_matches 175 = .ok (.getfield 82, 3) := by decide +kernel
theorem dX12_matches_178 : decode cX12_matches 178 = .ok (.iload 6, 2) := by decide +kernel
theorem dX12_matches_180 : decode cX12_matches 180 = .ok (.iconst 1, 1) := by decide +kernel
theorem dX12_matches_181 : decode cX12_matches 181 = .ok (.iadd, 1) := by decide +kernel
theorem dX12_matches_182 : decode cX12_matches 182 = .ok (.iaload, 1) := by decide +kernel
theorem dX12_matches_183 : decode cX12_matches 183 = .ok (.iload 12, 2) := by decide +kernel
theorem dX12_matches_185 : decode cX12_matches 185 = .ok (.if_icmp .eq 24, 3) := by decide +kernel
theorem dX12_matches_188 : decode cX12_matches 188 = .ok (.iload 7, 2) := by decide +kernel
theorem dX12_matches_190 : decode cX12_matches 190 = .ok (.bipush 92, 2) := by decide +kernel
theorem dX12_matches_192 : decode cX12_matches 192 = .ok (.if_icmp .eq 21, 3) := by decide +kernel
theorem dX12_matches_195 : decode cX12_matches 195 = .ok (.iload 7, 2) := by decide +kernel
theorem dX12_matches_197 : decode cX12_matches 197 = .ok (.bipush 91, 2) := by decide +kernel
theorem dX12_matches_199 : decode cX12_matches 199 = .ok (.if_icmp .eq 14, 3) := by decide +kernel
theorem dX12_matches_202 : decode cX12_matches 202 = .ok (.iload 7, 2) := by decide +kernel
theorem dX12_matches_204 : decode cX12_matches 204 = .ok (.iload 12, 2) := by decide +kernel
theorem dX12_matches_206 : decode cX12_matches 206 = .ok (.if_icmp .ne 7, 3) := by decide +kernel
theorem dX12_matches_209 : decode cX12_matches 209 = .ok (.iconst 1, 1) := by decide +kernel
theorem dX12_matches_210 : decode cX12_matches 210 = .ok (.goto 4, 3) := by decide +kernel
theorem dX12_matches_213 : decode cX12_matches 213 = .ok (.iconst 0, 1) := by decide +kernel
theorem dX12_matches_214 : decode cX12_matches 214 = .ok (.istore 13, 2) := by decide +kernel
theorem dX12_matches_216 : decode cX12_matches 216 = .ok (.iload 6, 2) := by decide +kernel
theorem dX12_matches_218 : decode cX12_matches 218 = .ok (.iconst 1, 1) := by decide +kernel
theorem dX12_matches_219 : decode cX12_matches 219 = .ok (.iadd, 1) := by decide +kernel
theorem dX12_matches_220 : decode cX12_matches 220 = .ok (.istore 14, 2) := by decide +kernel
theorem dX12_matches_222 : decode cX12_matches 222 = .ok (.iload 7, 2) := by decide +kernel
theorem dX12_matches_224 : decode cX12_matches 224 = .ok (.bipush 91, 2) := by decide +kernel
theorem dX12_matches_226 : decode cX12_matches 226 = .ok (.if_icmp .ne 42, 3) := by decide +kernel
theorem dX12_matches_229 : decode cX12_matches 229 = .ok (.iload 14, 2) := by decide +kernel
theorem dX12_matches_231 : decode cX12_matches 231 = .ok (.iload 8, 2) := by decide +kernel
theorem dX12_matches_233 : decode cX12_matches 233 = .ok (.iconst 1, 1) := by decide +kernel
theorem dX12_matches_234 : decode cX12_matches 234 = .ok (.isub, 1) := by decide +kernel
theorem dX12_matches_235 : decode cX12_matches 235 = .ok (.if_icmp .ge 33, 3) := by decide +kernel
theorem dX12_matches_238 : decode cX12_matches 238 = .ok (.iload 13, 2) := by decide +kernel
theorem dX12_matches_240 : decode cX12_matches 240 = .ok (.ifCond .ne 15, 3) := by decide +kernel
theorem dX12_matches_243 : decode cX12_matches 243 = .ok (.aload_n 0, 1) := by decide +kernel
theorem dX12_matches_244 : decode cX12_matches 244 = .ok (.getfield 82, 3) := by decide +kernel
theorem dX12_matches_247 : decode cX12_matches 247 = .ok (.iload 14, 2) := by decide +kernel
theorem dX12_matches_249 : decode cX12_matches 249 = .ok (.iaload, 1) := by decide +kernel
theorem dX12_matches_250 : decode cX12_matches 250 = .ok (.iload 12, 2) := by decide +kernel
theorem dX12_matches_252 : decode cX12_matches 252 = .ok (.if_icmp .ne 7, 3) := by decide +kernel
theorem dX12_matches_255 : decode cX12_matches 255 = .ok (.iconst 1, 1) := by decide +kernel
theorem dX12_matches_256 : decode cX12_matches 256 = .ok (.goto 4, 3) := by decide +kernel
theorem dX12_matches_259 : decode cX12_matches 259 = .ok (.iconst 0, 1) := by decide +kernel
theorem dX12_matches_260 : decode cX12_matches 260 = .ok (.istore 13, 2) := by decide +kernel
theorem dX12_matches_262 : decode cX12_matches 262 = .ok (.iinc 14 1, 3) := by decide +kernel
theorem dX12_matches_265 : decode cX12_matches 265 = .ok (.goto (-43), 3) := by decide +kernel
theorem dX12_matches_268 : decode cX12_matches 268 = .ok (.iload 9, 2) := by decide +kernel
theorem dX12_matches_270 : decode cX12_matches 270 = .ok (.iload 13, 2) := by decide +kernel
theorem dX12_matches_272 : decode cX12_matches 272 = .ok (.ifCond .eq 12, 3) := by decide +kernel
theorem dX12_matches_275 : decode cX12_matches 275 = .ok (.iconst 1, 1) := by decide +kernel
theorem dX12_matches_276 : decode cX12_matches 276 = .ok (.iload 10, 2) := by decide +kernel
theorem dX12_matches_278 : decode cX12_matches 278 = .ok (.iconst 1, 1) := by decide +kernel
theorem dX12_matches_279 : decode cX12_matches 279 = .ok (.iadd, 1) := by decide +kernel
theorem dX12_matches_280 : decode cX12_matches 280 = .ok (.ishl, 1) := by decide +kernel
theorem dX12_matches_281 : decode cX12_matches 281 = .ok (.goto 4, 3) := by decide +kernel
theorem dX12_matches_284 : decode cX12_matches 284 = .ok (.iconst 0, 1) := by decide +kernel
theorem dX12_matches_285 : decode cX12_matches 285 = .ok (.ior, 1) := by decide +kernel
theorem dX12_matches_286 : decode cX12_matches 286 = .ok (.istore 9, 2) := by decide +kernel
theorem dX12_matches_288 : decode cX12_matches 288 = .ok (.iinc 10 1, 3) := by decide +kernel
theorem dX12_matches_291 : decode cX12_matches 291 = .ok (.goto (-210), 3) := by decide +kernel
theorem dX12_matches_294 : decode cX12_matches 294 = .ok (.iload 9, 2) := by decide +kernel
theorem dX12_matches_296 : decode cX12_matches 296 = .ok (.istore 5, 2) := by decide +kernel
theorem dX12_matches_298 : decode cX12_matches 298 = .ok (.iload 8, 2) := by decide +kernel
theorem dX12_matches_300 : decode cX12_matches 300 = .ok (.istore 6, 2) := by decide +kernel
theorem dX12_matches_302 : decode cX12_matches 302 = .ok (.goto (-289), 3) := by decide +kernel
theorem dX12_matches_305 : decode cX12_matches 305 = .ok (.iload 5, 2) := by decide +kernel
theorem dX12_matches_307 : decode cX12_matches 307 = .ok (.iload 4, 2) := by decide +kernel
theorem dX12_matches_309 : decode cX12_matches 309 = .ok (.ishr, 1) := by decide +kernel
theorem dX12_matches_310 : decode cX12_matches 310 = .ok (.iconst 1, 1) := by decide +kernel
theorem dX12_matches_311 : decode cX12_matches 311 = .ok (.iand, 1) := by decide +kernel
theorem dX12_matches_312 : decode cX12_matches 312 = .ok (.iconst 1, 1) := by decide +kernel
theorem dX12_matches_313 : decode cX12_matches 313 = .ok (.if_icmp .ne 7, 3) := by decide +kernel
theorem dX12_matches_316 : decode cX12_matches 316 = .ok (.iconst 1, 1) := by decide +kernel
theorem dX12_matches_317 : decode cX12_matches 317 = .ok (.goto 4, 3) := by decide +kernel
theorem dX12_matches_320 : decode cX12_matches 320 = .ok (.iconst 0, 1) := by decide +kernel
theorem dX12_matches_321 : decode cX12_matches 321 = .ok (.ireturn, 1) := by decide +kernel
theorem dX12_comesOut_0 : decode cX12_comesOut 0 = .ok (.aload_n 0, 1) := by decide +kernel
theorem dX12_comesOut_1 : decode cX12_comesOut 1 = .ok (.getfield 82, 3) := by decide +kernel
theorem dX12_comesOut_4 : decode cX12_comesOut 4 = .ok (.iload_n 1, 1) := by decide +kernel
theorem dX12_comesOut_5 : decode cX12_comesOut 5 = .ok (.iaload, 1) := by decide +kernel
theorem dX12_comesOut_6 : decode cX12_comesOut 6 = .ok (.istore_n 3, 1) := by decide +kernel
theorem dX12_comesOut_7 : decode cX12_comesOut 7 = .ok (.iload_n 2, 1) := by decide +kernel
theorem dX12_comesOut_8 : decode cX12_comesOut 8 = .ok (.iload_n 1, 1) := by decide +kernel
theorem dX12_comesOut_9 : decode cX12_comesOut 9 = .ok (.iconst 2, 1) := by decide +kernel
theorem dX12_comesOut_10 : decode cX12_comesOut 10 = .ok (.iadd, 1) := by decide +kernel
theorem dX12_comesOut_11 : decode cX12_comesOut 11 = .ok (.if_icmp .le 17, 3) := by decide +kernel
theorem dX12_comesOut_14 : decode cX12_comesOut 14 = .ok (.aload_n 0, 1) := by decide +kernel
theorem dX12_comesOut_15 : decode cX12_comesOut 15 = .ok (.getfield 82, 3) := by decide +kernel
theorem dX12_comesOut_18 : decode cX12_comesOut 18 = .ok (.iload_n 1, 1) := by decide +kernel
theorem dX12_comesOut_19 : decode cX12_comesOut 19 = .ok (.iconst 2, 1) := by decide +kernel
theorem dX12_comesOut_20 : decode cX12_comesOut 20 = .ok (.iadd, 1) := by decide +kernel
theorem dX12_comesOut_21 : decode cX12_comesOut 21 = .ok (.iaload, 1) := by decide +kernel
theorem dX12_comesOut_22 : decode cX12_comesOut 22 = .ok (.bipush 48, 2) := by decide +kernel
theorem dX12_comesOut_24 : decode cX12_comesOut 24 = .ok (.isub, 1) := by decide +kernel
theorem dX12_comesOut_25 : decode cX12_comesOut 25 = .ok (.goto 4, 3) := by decide +kernel
theorem dX12_comesOut_28 : decode cX12_comesOut 28 = .ok (.iconst 0, 1) := by decide +kernel
theorem dX12_comesOut_29 : decode cX12_comesOut 29 = .ok (.istore 4, 2) := by decide +kernel
theorem dX12_comesOut_31 : decode cX12_comesOut 31 = .ok (.iload_n 3, 1) := by decide +kernel
theorem dX12_comesOut_32 : decode cX12_comesOut 32 = .ok (.lookupswitch 289 #[(33, 226), (61, 77), (62, 68), (63, 111), (64, 209), (98, 264), (115, 243)], 68) := by decide +kernel
theorem dX12_comesOut_100 : decode cX12_comesOut 100 = .ok (.aload_n 0, 1) := by decide +kernel
theorem dX12_comesOut_101 : decode cX12_comesOut 101 = .ok (.iload_n 1, 1) := by decide +kernel
theorem dX12_comesOut_102 : decode cX12_comesOut 102 = .ok (.iconst 2, 1) := by decide +kernel
theorem dX12_comesOut_103 : decode cX12_comesOut 103 = .ok (.iadd, 1) := by decide +kernel
theorem dX12_comesOut_104 : decode cX12_comesOut 104 = .ok (.iload_n 2, 1) := by decide +kernel
theorem dX12_comesOut_105 : decode cX12_comesOut 105 = .ok (.invokevirtual 220, 3) := by decide +kernel
theorem dX12_comesOut_108 : decode cX12_comesOut 108 = .ok (.ireturn, 1) := by decide +kernel
theorem dX12_comesOut_109 : decode cX12_comesOut 109 = .ok (.aload_n 0, 1) := by decide +kernel
theorem dX12_comesOut_110 : decode cX12_comesOut 110 = .ok (.getfield 75, 3) := by decide +kernel
theorem dX12_comesOut_113 : decode cX12_comesOut 113 = .ok (.iconst 3, 1) := by decide +kernel
theorem dX12_comesOut_114 : decode cX12_comesOut 114 = .ok (.iaload, 1) := by decide +kernel
theorem dX12_comesOut_115 : decode cX12_comesOut 115 = .ok (.bipush (-2), 2) := by decide +kernel
theorem dX12_comesOut_117 : decode cX12_comesOut 117 = .ok (.if_icmp .eq 24, 3) := by decide +kernel
theorem dX12_comesOut_120 : decode cX12_comesOut 120 = .ok (.aload_n 0, 1) := by decide +kernel
theorem dX12_comesOut_121 : decode cX12_comesOut 121 = .ok (.iload_n 1, 1) := by decide +kernel
theorem dX12_comesOut_122 : decode cX12_comesOut 122 = .ok (.iconst 2, 1) := by decide +kernel
theorem dX12_comesOut_123 : decode cX12_comesOut 123 = .ok (.iadd, 1) := by decide +kernel
theorem dX12_comesOut_124 : decode cX12_comesOut 124 = .ok (.iload_n 2, 1) := by decide +kernel
theorem dX12_comesOut_125 : decode cX12_comesOut 125 = .ok (.aload_n 0, 1) := by decide +kernel
theorem dX12_comesOut_126 : decode cX12_comesOut 126 = .ok (.getfield 75, 3) := by decide +kernel
theorem dX12_comesOut_129 : decode cX12_comesOut 129 = .ok (.iconst 3, 1) := by decide +kernel
theorem dX12_comesOut_130 : decode cX12_comesOut 130 = .ok (.iaload, 1) := by decide +kernel
theorem dX12_comesOut_131 : decode cX12_comesOut 131 = .ok (.invokevirtual 224, 3) := by decide +kernel
theorem dX12_comesOut_134 : decode cX12_comesOut 134 = .ok (.ifCond .eq 7, 3) := by decide +kernel
theorem dX12_comesOut_137 : decode cX12_comesOut 137 = .ok (.iconst 1, 1) := by decide +kernel
theorem dX12_comesOut_138 : decode cX12_comesOut 138 = .ok (.goto 4, 3) := by decide +kernel
theorem dX12_comesOut_141 : decode cX12_comesOut 141 = .ok (.iconst 0, 1) := by decide +kernel
theorem dX12_comesOut_142 : decode cX12_comesOut 142 = .ok (.ireturn, 1) := by decide +kernel
theorem dX12_comesOut_143 : decode cX12_comesOut 143 = .ok (.aload_n 0, 1) := by decide +kernel
theorem dX12_comesOut_144 : decode cX12_comesOut 144 = .ok (.getfield 82, 3) := by decide +kernel
theorem dX12_comesOut_147 : decode cX12_comesOut 147 = .ok (.iload_n 1, 1) := by decide +kernel
theorem dX12_comesOut_148 : decode cX12_comesOut 148 = .ok (.iconst 4, 1) := by decide +kernel
theorem dX12_comesOut_149 : decode cX12_comesOut 149 = .ok (.iadd, 1) := by decide +kernel
theorem dX12_comesOut_150 : decode cX12_comesOut 150 = .ok (.iaload, 1) := by decide +kernel
theorem dX12_comesOut_151 : decode cX12_comesOut 151 = .ok (.bipush 45, 2) := by decide +kernel
theorem dX12_comesOut_153 : decode cX12_comesOut 153 = .ok (.if_icmp .ne 7, 3) := by decide +kernel
theorem dX12_comesOut_156 : decode cX12_comesOut 156 = .ok (.iconst 1, 1) := by decide +kernel
theorem dX12_comesOut_157 : decode cX12_comesOut 157 = .ok (.goto 4, 3) := by decide +kernel
theorem dX12_comesOut_160 : decode cX12_comesOut 160 = .ok (.iconst 0, 1) := by decide +kernel
theorem dX12_comesOut_161 : decode cX12_comesOut 161 = .ok (.istore 5, 2) := by decide +kernel
theorem dX12_comesOut_163 : decode cX12_comesOut 163 = .ok (.iconst 0, 1) := by decide +kernel
theorem dX12_comesOut_164 : decode cX12_comesOut 164 = .ok (.istore 6, 2) := by decide +kernel
theorem dX12_comesOut_166 : decode cX12_comesOut 166 = .ok (.iload_n 1, 1) := by decide +kernel
theorem dX12_comesOut_167 : decode cX12_comesOut 167 = .ok (.iload 5, 2) := by decide +kernel
theorem dX12_comesOut_169 : decode cX12_comesOut 169 = .ok (.ifCond .eq 7, 3) := by decide +kernel
theorem dX12_comesOut_172 : decode cX12_comesOut 172 = .ok (.iconst 5, 1) := by decide +kernel
theorem dX12_comesOut_173 : decode cX12_comesOut 173 = .ok (.goto 4, 3) := by decide +kernel
theorem dX12_comesOut_176 : decode cX12_comesOut 176 = .ok (.iconst 4, 1) := by decide +kernel
theorem dX12_comesOut_177 : decode cX12_comesOut 177 = .ok (.iadd, 1) := by decide +kernel
theorem dX12_comesOut_178 : decode cX12_comesOut 178 = .ok (.istore 7, 2) := by decide +kernel
theorem dX12_comesOut_180 : decode cX12_comesOut 180 = .ok (.iload 7, 2) := by decide +kernel
theorem dX12_comesOut_182 : decode cX12_comesOut 182 = .ok (.iload_n 2, 1) := by decide +kernel
theorem dX12_comesOut_183 : decode cX12_comesOut 183 = .ok (.if_icmp .ge 27, 3) := by decide +kernel
theorem dX12_comesOut_186 : decode cX12_comesOut 186 = .ok (.bipush 10, 2) := by decide +kernel
theorem dX12_comesOut_188 : decode cX12_comesOut 188 = .ok (.iload 6, 2) := by decide +kernel
theorem dX12_comesOut_190 : decode cX12_comesOut 190 = .ok (.imul, 1) := by decide +kernel
theorem dX12_comesOut_191 : decode cX12_comesOut 191 = .ok (.aload_n 0, 1) := by decide +kernel
theorem dX12_comesOut_192 : decode cX12_comesOut 192 = .ok (.getfield 82, 3) := by decide +kernel
theorem dX12_comesOut_195 : decode cX12_comesOut 195 = .ok (.iload 7, 2) := by decide +kernel
theorem dX12_comesOut_197 : decode cX12_comesOut 197 = .ok (.iaload, 1) := by decide +kernel
theorem dX12_comesOut_198 : decode cX12_comesOut 198 = .ok (.iadd, 1) := by decide +kernel
theorem dX12_comesOut_199 : decode cX12_comesOut 199 = .ok (.bipush 48, 2) := by decide +kernel
theorem dX12_comesOut_201 : decode cX12_comesOut 201 = .ok (.isub, 1) := by decide +kernel
theorem dX12_comesOut_202 : decode cX12_comesOut 202 = .ok (.istore 6, 2) := by decide +kernel
theorem dX12_comesOut_204 : decode cX12_comesOut 204 = .ok (.iinc 7 1, 3) := by decide +kernel
theorem dX12_comesOut_207 : decode cX12_comesOut 207 = .ok (.goto (-27), 3) := by decide +kernel
theorem dX12_comesOut_210 : decode cX12_comesOut 210 = .ok (.aload_n 0, 1) := by decide +kernel
theorem dX12_comesOut_211 : decode cX12_comesOut 211 = .ok (.getfield 75, 3) := by decide +kernel
theorem dX12_comesOut_214 : decode cX12_comesOut 214 = .ok (.iconst 4, 1) := by decide +kernel
theorem dX12_comesOut_215 : decode cX12_comesOut 215 = .ok (.iload 4, 2) := by decide +kernel
theorem dX12_comesOut_217 : decode cX12_comesOut 217 = .ok (.iadd, 1) := by decide +kernel
theorem dX12_comesOut_218 : decode cX12_comesOut 218 = .ok (.iaload, 1) := by decide +kernel
theorem dX12_comesOut_219 : decode cX12_comesOut 219 = .ok (.iload 5, 2) := by decide +kernel
theorem dX12_comesOut_221 : decode cX12_comesOut 221 = .ok (.ifCond .eq 9, 3) := by decide +kernel
theorem dX12_comesOut_224 : decode cX12_comesOut 224 = .ok (.iload 6, 2) := by decide +kernel
theorem dX12_comesOut_226 : decode cX12_comesOut 226 = .ok (.ineg, 1) := by decide +kernel
theorem dX12_comesOut_227 : decode cX12_comesOut 227 = .ok (.goto 5, 3) := by decide +kernel
theorem dX12_comesOut_230 : decode cX12_comesOut 230 = .ok (.iload 6, 2) := by decide +kernel
theorem dX12_comesOut_232 : decode cX12_comesOut 232 = .ok (.if_icmp .ne 7, 3) := by decide +kernel
theorem dX12_comesOut_235 : decode cX12_comesOut 235 = .ok (.iconst 1, 1) := by decide +kernel
theorem dX12_comesOut_236 : decode cX12_comesOut 236 = .ok (.goto 4, 3) := by decide +kernel
theorem dX12_comesOut_239 : decode cX12_comesOut 239 = .ok (.iconst 0, 1) := by decide +kernel
theorem dX12_comesOut_240 : decode cX12_comesOut 240 = .ok (.ireturn, 1) := by decide +kernel
theorem dX12_comesOut_241 : decode cX12_comesOut 241 = .ok (.aload_n 0, 1) := by decide +kernel
theorem dX12_comesOut_242 : decode cX12_comesOut 242 = .ok (.getfield 75, 3) := by decide +kernel
theorem dX12_comesOut_245 : decode cX12_comesOut 245 = .ok (.iconst 0, 1) := by decide +kernel
theorem dX12_comesOut_246 : decode cX12_comesOut 246 = .ok (.iaload, 1) := by decide +kernel
theorem dX12_comesOut_247 : decode cX12_comesOut 247 = .ok (.iload 4, 2) := by decide +kernel
theorem dX12_comesOut_249 : decode cX12_comesOut 249 = .ok (.if_icmp .ne 7, 3) := by decide +kernel
theorem dX12_comesOut_252 : decode cX12_comesOut 252 = .ok (.iconst 1, 1) := by decide +kernel
theorem dX12_comesOut_253 : decode cX12_comesOut 253 = .ok (.goto 4, 3) := by decide +kernel
theorem dX12_comesOut_256 : decode cX12_comesOut 256 = .ok (.iconst 0, 1) := by decide +kernel
theorem dX12_comesOut_257 : decode cX12_comesOut 257 = .ok (.ireturn, 1) := by decide +kernel
theorem dX12_comesOut_258 : decode cX12_comesOut 258 = .ok (.aload_n 0, 1) := by decide +kernel
theorem dX12_comesOut_259 : decode cX12_comesOut 259 = .ok (.getfield 75, 3) := by decide +kernel
theorem dX12_comesOut_262 : decode cX12_comesOut 262 = .ok (.iconst 1, 1) := by decide +kernel
theorem dX12_comesOut_263 : decode cX12_comesOut 263 = .ok (.iaload, 1) := by decide +kernel
theorem dX12_comesOut_264 : decode cX12_comesOut 264 = .ok (.iload 4, 2) := by decide +kernel
theorem dX12_comesOut_266 : decode cX12_comesOut 266 = .ok (.if_icmp .ne 7, 3) := by decide +kernel
theorem dX12_comesOut_269 : decode cX12_comesOut 269 = .ok (.iconst 1, 1) := by decide +kernel
theorem dX12_comesOut_270 : decode cX12_comesOut 270 = .ok (.goto 4, 3) := by decide +kernel
theorem dX12_comesOut_273 : decode cX12_comesOut 273 = .ok (.iconst 0, 1) := by decide +kernel
theorem dX12_comesOut_274 : decode cX12_comesOut 274 = .ok (.ireturn, 1) := by decide +kernel
theorem dX12_comesOut_275 : decode cX12_comesOut 275 = .ok (.aload_n 0, 1) := by decide +kernel
theorem dX12_comesOut_276 : decode cX12_comesOut 276 = .ok (.iconst 0, 1) := by decide +kernel
theorem dX12_comesOut_277 : decode cX12_comesOut 277 = .ok (.iconst 1, 1) := by decide +kernel
theorem dX12_comesOut_278 : decode cX12_comesOut 278 = .ok (.iload 4, 2) := by decide +kernel
theorem dX12_comesOut_280 : decode cX12_comesOut 280 = .ok (.iadd, 1) := by decide +kernel
theorem dX12_comesOut_281 : decode cX12_comesOut 281 = .ok (.invokevirtual 227, 3) := by decide +kernel
