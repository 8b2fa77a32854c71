theorem dX12_comesOut_284 : decode cX12_comesOut 284 = .ok (.aload_n 0, 1) := by decide +kernel
theorem dX12_comesOut_285 : decode cX12_comesOut 285 = .ok (.getfield 78, 3) := by decide +kernel
theorem dX12_comesOut_288 : decode cX12_comesOut 288 = .ok (.iconst 1, 1) := by decide +kernel
theorem dX12_comesOut_289 : decode cX12_comesOut 289 = .ok (.iload 4, 2) := by decide +kernel
theorem dX12_comesOut_291 : decode cX12_comesOut 291 = .ok (.iadd, 1) := by decide +kernel
theorem dX12_comesOut_292 : decode cX12_comesOut 292 = .ok (.iconst 1, 1) := by decide +kernel
theorem dX12_comesOut_293 : decode cX12_comesOut 293 = .ok (.bastore, 1) := by decide +kernel
theorem dX12_comesOut_294 : decode cX12_comesOut 294 = .ok (.iconst 1, 1) := by decide +kernel
theorem dX12_comesOut_295 : decode cX12_comesOut 295 = .ok (.ireturn, 1) := by decide +kernel
theorem dX12_comesOut_296 : decode cX12_comesOut 296 = .ok (.aload_n 0, 1) := by decide +kernel
theorem dX12_comesOut_297 : decode cX12_comesOut 297 = .ok (.getfield 78, 3) := by decide +kernel
theorem dX12_comesOut_300 : decode cX12_comesOut 300 = .ok (.iconst 1, 1) := by decide +kernel
theorem dX12_comesOut_301 : decode cX12_comesOut 301 = .ok (.iload 4, 2) := by decide +kernel
theorem dX12_comesOut_303 : decode cX12_comesOut 303 = .ok (.iadd, 1) := by decide +kernel
theorem dX12_comesOut_304 : decode cX12_comesOut 304 = .ok (.baload, 1) := by decide +kernel
theorem dX12_comesOut_305 : decode cX12_comesOut 305 = .ok (.ifCond .ne 5, 3) := by decide +kernel
theorem dX12_comesOut_308 : decode cX12_comesOut 308 = .ok (.iconst 0, 1) := by decide +kernel
theorem dX12_comesOut_309 : decode cX12_comesOut 309 = .ok (.ireturn, 1) := by decide +kernel
theorem dX12_comesOut_310 : decode cX12_comesOut 310 = .ok (.aload_n 0, 1) := by decide +kernel
theorem dX12_comesOut_311 : decode cX12_comesOut 311 = .ok (.iconst 1, 1) := by decide +kernel
theorem dX12_comesOut_312 : decode cX12_comesOut 312 = .ok (.iload 4, 2) := by decide +kernel
theorem dX12_comesOut_314 : decode cX12_comesOut 314 = .ok (.iadd, 1) := by decide +kernel
theorem dX12_comesOut_315 : decode cX12_comesOut 315 = .ok (.iconst 0, 1) := by decide +kernel
theorem dX12_comesOut_316 : decode cX12_comesOut 316 = .ok (.invokevirtual 227, 3) := by decide +kernel
theorem dX12_comesOut_319 : decode cX12_comesOut 319 = .ok (.iconst 1, 1) := by decide +kernel
theorem dX12_comesOut_320 : decode cX12_comesOut 320 = .ok (.ireturn, 1) := by decide +kernel
theorem dX12_comesOut_321 : decode cX12_comesOut 321 = .ok (.iconst 1, 1) := by decide +kernel
theorem dX12_comesOut_322 : decode cX12_comesOut 322 = .ok (.ireturn, 1) := by decide +kernel
theorem dX12_saysAll_0 : decode cX12_saysAll 0 = .ok (.iload_n 1, 1) := by decide +kernel
theorem dX12_saysAll_1 : decode cX12_saysAll 1 = .ok (.istore_n 3, 1) := by decide +kernel
theorem dX12_saysAll_2 : decode cX12_saysAll 2 = .ok (.iload_n 3, 1) := by decide +kernel
theorem dX12_saysAll_3 : decode cX12_saysAll 3 = .ok (.iload_n 2, 1) := by decide +kernel
theorem dX12_saysAll_4 : decode cX12_saysAll 4 = .ok (.if_icmp .ge 79, 3) := by decide +kernel
theorem dX12_saysAll_7 : decode cX12_saysAll 7 = .ok (.iload_n 3, 1) := by decide +kernel
theorem dX12_saysAll_8 : decode cX12_saysAll 8 = .ok (.istore 4, 2) := by decide +kernel
theorem dX12_saysAll_10 : decode cX12_saysAll 10 = .ok (.iload 4, 2) := by decide +kernel
theorem dX12_saysAll_12 : decode cX12_saysAll 12 = .ok (.iload_n 2, 1) := by decide +kernel
theorem dX12_saysAll_13 : decode cX12_saysAll 13 = .ok (.if_icmp .ge 21, 3) := by decide +kernel
theorem dX12_saysAll_16 : decode cX12_saysAll 16 = .ok (.aload_n 0, 1) := by decide +kernel
theorem dX12_saysAll_17 : decode cX12_saysAll 17 = .ok (.getfield 82, 3) := by decide +kernel
theorem dX12_saysAll_20 : decode cX12_saysAll 20 = .ok (.iload 4, 2) := by decide +kernel
theorem dX12_saysAll_22 : decode cX12_saysAll 22 = .ok (.iaload, 1) := by decide +kernel
theorem dX12_saysAll_23 : decode cX12_saysAll 23 = .ok (.bipush 32, 2) := by decide +kernel
theorem dX12_saysAll_25 : decode cX12_saysAll 25 = .ok (.if_icmp .eq 9, 3) := by decide +kernel
theorem dX12_saysAll_28 : decode cX12_saysAll 28 = .ok (.iinc 4 1, 3) := by decide +kernel
theorem dX12_saysAll_31 : decode cX12_saysAll 31 = .ok (.goto (-21), 3) := by decide +kernel
theorem dX12_saysAll_34 : decode cX12_saysAll 34 = .ok (.aload_n 0, 1) := by decide +kernel
theorem dX12_saysAll_35 : decode cX12_saysAll 35 = .ok (.getfield 75, 3) := by decide +kernel
theorem dX12_saysAll_38 : decode cX12_saysAll 38 = .ok (.iconst 1, 1) := by decide +kernel
theorem dX12_saysAll_39 : decode cX12_saysAll 39 = .ok (.iaload, 1) := by decide +kernel
theorem dX12_saysAll_40 : decode cX12_saysAll 40 = .ok (.ifCond .eq 5, 3) := by decide +kernel
theorem dX12_saysAll_43 : decode cX12_saysAll 43 = .ok (.iconst 0, 1) := by decide +kernel
theorem dX12_saysAll_44 : decode cX12_saysAll 44 = .ok (.ireturn, 1) := by decide +kernel
theorem dX12_saysAll_45 : decode cX12_saysAll 45 = .ok (.aload_n 0, 1) := by decide +kernel
theorem dX12_saysAll_46 : decode cX12_saysAll 46 = .ok (.aload_n 0, 1) := by decide +kernel
theorem dX12_saysAll_47 : decode cX12_saysAll 47 = .ok (.aload_n 0, 1) := by decide +kernel
theorem dX12_saysAll_48 : decode cX12_saysAll 48 = .ok (.aload_n 0, 1) := by decide +kernel
theorem dX12_saysAll_49 : decode cX12_saysAll 49 = .ok (.getfield 82, 3) := by decide +kernel
theorem dX12_saysAll_52 : decode cX12_saysAll 52 = .ok (.iload_n 3, 1) := by decide +kernel
theorem dX12_saysAll_53 : decode cX12_saysAll 53 = .ok (.iload 4, 2) := by decide +kernel
theorem dX12_saysAll_55 : decode cX12_saysAll 55 = .ok (.iload_n 3, 1) := by decide +kernel
theorem dX12_saysAll_56 : decode cX12_saysAll 56 = .ok (.isub, 1) := by decide +kernel
theorem dX12_saysAll_57 : decode cX12_saysAll 57 = .ok (.invokevirtual 131, 3) := by decide +kernel
theorem dX12_saysAll_60 : decode cX12_saysAll 60 = .ok (.invokevirtual 231, 3) := by decide +kernel
theorem dX12_saysAll_63 : decode cX12_saysAll 63 = .ok (.putfield 234, 3) := by decide +kernel
theorem dX12_saysAll_66 : decode cX12_saysAll 66 = .ok (.aload_n 0, 1) := by decide +kernel
theorem dX12_saysAll_67 : decode cX12_saysAll 67 = .ok (.getfield 234, 3) := by decide +kernel
theorem dX12_saysAll_70 : decode cX12_saysAll 70 = .ok (.ifCond .le 5, 3) := by decide +kernel
theorem dX12_saysAll_73 : decode cX12_saysAll 73 = .ok (.iconst 0, 1) := by decide +kernel
theorem dX12_saysAll_74 : decode cX12_saysAll 74 = .ok (.ireturn, 1) := by decide +kernel
theorem dX12_saysAll_75 : decode cX12_saysAll 75 = .ok (.iload 4, 2) := by decide +kernel
theorem dX12_saysAll_77 : decode cX12_saysAll 77 = .ok (.iconst 1, 1) := by decide +kernel
theorem dX12_saysAll_78 : decode cX12_saysAll 78 = .ok (.iadd, 1) := by decide +kernel
theorem dX12_saysAll_79 : decode cX12_saysAll 79 = .ok (.istore_n 3, 1) := by decide +kernel
theorem dX12_saysAll_80 : decode cX12_saysAll 80 = .ok (.goto (-78), 3) := by decide +kernel
theorem dX12_saysAll_83 : decode cX12_saysAll 83 = .ok (.iconst 1, 1) := by decide +kernel
theorem dX12_saysAll_84 : decode cX12_saysAll 84 = .ok (.ireturn, 1) := by decide +kernel
theorem dX12_run_0 : decode cX12_run 0 = .ok (.aload_n 0, 1) := by decide +kernel
theorem dX12_run_1 : decode cX12_run 1 = .ok (.iconst 0, 1) := by decide +kernel
theorem dX12_run_2 : decode cX12_run 2 = .ok (.putfield 1, 3) := by decide +kernel
theorem dX12_run_5 : decode cX12_run 5 = .ok (.iload_n 1, 1) := by decide +kernel
theorem dX12_run_6 : decode cX12_run 6 = .ok (.i2l, 1) := by decide +kernel
theorem dX12_run_7 : decode cX12_run 7 = .ok (.lconst 0, 1) := by decide +kernel
theorem dX12_run_8 : decode cX12_run 8 = .ok (.aload_n 0, 1) := by decide +kernel
theorem dX12_run_9 : decode cX12_run 9 = .ok (.getfield 210, 3) := by decide +kernel
theorem dX12_run_12 : decode cX12_run 12 = .ok (.iconst 1, 1) := by decide +kernel
theorem dX12_run_13 : decode cX12_run 13 = .ok (.isub, 1) := by decide +kernel
theorem dX12_run_14 : decode cX12_run 14 = .ok (.i2l, 1) := by decide +kernel
theorem dX12_run_15 : decode cX12_run 15 = .ok (.invokestatic 105, 3) := by decide +kernel
theorem dX12_run_18 : decode cX12_run 18 = .ok (.ifCond .ne 6, 3) := by decide +kernel
theorem dX12_run_21 : decode cX12_run 21 = .ok (.bipush (-2), 2) := by decide +kernel
theorem dX12_run_23 : decode cX12_run 23 = .ok (.ireturn, 1) := by decide +kernel
theorem dX12_run_24 : decode cX12_run 24 = .ok (.aload_n 0, 1) := by decide +kernel
theorem dX12_run_25 : decode cX12_run 25 = .ok (.invokevirtual 100, 3) := by decide +kernel
theorem dX12_run_28 : decode cX12_run 28 = .ok (.aload_n 0, 1) := by decide +kernel
theorem dX12_run_29 : decode cX12_run 29 = .ok (.iconst 0, 1) := by decide +kernel
theorem dX12_run_30 : decode cX12_run 30 = .ok (.putfield 237, 3) := by decide +kernel
theorem dX12_run_33 : decode cX12_run 33 = .ok (.aload_n 0, 1) := by decide +kernel
theorem dX12_run_34 : decode cX12_run 34 = .ok (.iconst 0, 1) := by decide +kernel
theorem dX12_run_35 : decode cX12_run 35 = .ok (.putfield 234, 3) := by decide +kernel
theorem dX12_run_38 : decode cX12_run 38 = .ok (.sipush 600, 3) := by decide +kernel
theorem dX12_run_41 : decode cX12_run 41 = .ok (.iload_n 1, 1) := by decide +kernel
theorem dX12_run_42 : decode cX12_run 42 = .ok (.imul, 1) := by decide +kernel
theorem dX12_run_43 : decode cX12_run 43 = .ok (.istore_n 2, 1) := by decide +kernel
theorem dX12_run_44 : decode cX12_run 44 = .ok (.iload_n 2, 1) := by decide +kernel
theorem dX12_run_45 : decode cX12_run 45 = .ok (.aload_n 0, 1) := by decide +kernel
theorem dX12_run_46 : decode cX12_run 46 = .ok (.getfield 85, 3) := by decide +kernel
theorem dX12_run_49 : decode cX12_run 49 = .ok (.iload_n 1, 1) := by decide +kernel
theorem dX12_run_50 : decode cX12_run 50 = .ok (.iaload, 1) := by decide +kernel
theorem dX12_run_51 : decode cX12_run 51 = .ok (.iadd, 1) := by decide +kernel
theorem dX12_run_52 : decode cX12_run 52 = .ok (.istore_n 3, 1) := by decide +kernel
theorem dX12_run_53 : decode cX12_run 53 = .ok (.iconst 0, 1) := by decide +kernel
theorem dX12_run_54 : decode cX12_run 54 = .ok (.istore 4, 2) := by decide +kernel
theorem dX12_run_56 : decode cX12_run 56 = .ok (.iload_n 2, 1) := by decide +kernel
theorem dX12_run_57 : decode cX12_run 57 = .ok (.iload_n 3, 1) := by decide +kernel
theorem dX12_run_58 : decode cX12_run 58 = .ok (.if_icmp .ge 98, 3) := by decide +kernel
theorem dX12_run_61 : decode cX12_run 61 = .ok (.aload_n 0, 1) := by decide +kernel
theorem dX12_run_62 : decode cX12_run 62 = .ok (.getfield 234, 3) := by decide +kernel
theorem dX12_run_65 : decode cX12_run 65 = .ok (.ifCond .ne 91, 3) := by decide +kernel
theorem dX12_run_68 : decode cX12_run 68 = .ok (.iload_n 2, 1) := by decide +kernel
theorem dX12_run_69 : decode cX12_run 69 = .ok (.istore 5, 2) := by decide +kernel
theorem dX12_run_71 : decode cX12_run 71 = .ok (.iload 5, 2) := by decide +kernel
theorem dX12_run_73 : decode cX12_run 73 = .ok (.iload_n 3, 1) := by decide +kernel
theorem dX12_run_74 : decode cX12_run 74 = .ok (.if_icmp .ge 21, 3) := by decide +kernel
theorem dX12_run_77 : decode cX12_run 77 = .ok (.aload_n 0, 1) := by decide +kernel
theorem dX12_run_78 : decode cX12_run 78 = .ok (.getfield 82, 3) := by decide +kernel
theorem dX12_run_81 : decode cX12_run 81 = .ok (.iload 5, 2) := by decide +kernel
theorem dX12_run_83 : decode cX12_run 83 = .ok (.iaload, 1) := by decide +kernel
theorem dX12_run_84 : decode cX12_run 84 = .ok (.bipush 10, 2) := by decide +kernel
theorem dX12_run_86 : decode cX12_run 86 = .ok (.if_icmp .eq 9, 3) := by decide +kernel
theorem dX12_run_89 : decode cX12_run 89 = .ok (.iinc 5 1, 3) := by decide +kernel
theorem dX12_run_92 : decode cX12_run 92 = .ok (.goto (-21), 3) := by decide +kernel
theorem dX12_run_95 : decode cX12_run 95 = .ok (.iinc 4 1, 3) := by decide +kernel
theorem dX12_run_98 : decode cX12_run 98 = .ok (.iload 5, 2) := by decide +kernel
theorem dX12_run_100 : decode cX12_run 100 = .ok (.iload_n 2, 1) := by decide +kernel
theorem dX12_run_101 : decode cX12_run 101 = .ok (.if_icmp .le 47, 3) := by decide +kernel
theorem dX12_run_104 : decode cX12_run 104 = .ok (.aload_n 0, 1) := by decide +kernel
theorem dX12_run_105 : decode cX12_run 105 = .ok (.iload_n 2, 1) := by decide +kernel
theorem dX12_run_106 : decode cX12_run 106 = .ok (.iload 5, 2) := by decide +kernel
theorem dX12_run_108 : decode cX12_run 108 = .ok (.invokevirtual 240, 3) := by decide +kernel
theorem dX12_run_111 : decode cX12_run 111 = .ok (.ifCond .ne 37, 3) := by decide +kernel
theorem dX12_run_114 : decode cX12_run 114 = .ok (.aload_n 0, 1) := by decide +kernel
theorem dX12_run_115 : decode cX12_run 115 = .ok (.getfield 88, 3) := by decide +kernel
theorem dX12_run_118 : decode cX12_run 118 = .ok (.aload_n 0, 1) := by decide +kernel
theorem dX12_run_119 : decode cX12_run 119 = .ok (.getfield 237, 3) := by decide +kernel
theorem dX12_run_122 : decode cX12_run 122 = .ok (.iload 4, 2) := by decide +kernel
theorem dX12_run_124 : decode cX12_run 124 = .ok (.iastore, 1) := by decide +kernel
theorem dX12_run_125 : decode cX12_run 125 = .ok (.aload_n 0, 1) := by decide +kernel
theorem dX12_run_126 : decode cX12_run 126 = .ok (.getfield 91, 3) := by decide +kernel
theorem dX12_run_129 : decode cX12_run 129 = .ok (.aload_n 0, 1) := by decide +kernel
theorem dX12_run_130 : decode cX12_run 130 = .ok (.getfield 237, 3) := by decide +kernel
theorem dX12_run_133 : decode cX12_run 133 = .ok (.aload_n 0, 1) := by decide +kernel
theorem dX12_run_134 : decode cX12_run 134 = .ok (.getfield 234, 3) := by decide +kernel
theorem dX12_run_137 : decode cX12_run 137 = .ok (.iastore, 1) := by decide +kernel
theorem dX12_run_138 : decode cX12_run 138 = .ok (.aload_n 0, 1) := by decide +kernel
theorem dX12_run_139 : decode cX12_run 139 = .ok (.dup, 1) := by decide +kernel
theorem dX12_run_140 : decode cX12_run 140 = .ok (.getfield 237, 3) := by decide +kernel
theorem dX12_run_143 : decode cX12_run 143 = .ok (.iconst 1, 1) := by decide +kernel
theorem dX12_run_144 : decode cX12_run 144 = .ok (.iadd, 1) := by decide +kernel
theorem dX12_run_145 : decode cX12_run 145 = .ok (.putfield 237, 3) := by decide +kernel
theorem dX12_run_148 : decode cX12_run 148 = .ok (.iload 5, 2) := by decide +kernel
theorem dX12_run_150 : decode cX12_run 150 = .ok (.iconst 1, 1) := by decide +kernel
theorem dX12_run_151 : decode cX12_run 151 = .ok (.iadd, 1) := by decide +kernel
theorem dX12_run_152 : decode cX12_run 152 = .ok (.istore_n 2, 1) := by decide +kernel
theorem dX12_run_153 : decode cX12_run 153 = .ok (.goto (-97), 3) := by decide +kernel
theorem dX12_run_156 : decode cX12_run 156 = .ok (.aload_n 0, 1) := by decide +kernel
theorem dX12_run_157 : decode cX12_run 157 = .ok (.getfield 237, 3) := by decide +kernel
theorem dX12_run_160 : decode cX12_run 160 = .ok (.ireturn, 1) := by decide +kernel
theorem dX12_failed_0 : decode cX12_failed 0 = .ok (.aload_n 0, 1) := by decide +kernel
theorem dX12_failed_1 : decode cX12_failed 1 = .ok (.iconst 0, 1) := by decide +kernel
theorem dX12_failed_2 : decode cX12_failed 2 = .ok (.putfield 1, 3) := by decide +kernel
theorem dX12_failed_5 : decode cX12_failed 5 = .ok (.iload_n 1, 1) := by decide +kernel
theorem dX12_failed_6 : decode cX12_failed 6 = .ok (.i2l, 1) := by decide +kernel
theorem dX12_failed_7 : decode cX12_failed 7 = .ok (.lconst 0, 1) := by decide +kernel
theorem dX12_failed_8 : decode cX12_failed 8 = .ok (.aload_n 0, 1) := by decide +kernel
theorem dX12_failed_9 : decode cX12_failed 9 = .ok (.getfield 237, 3) := by decide +kernel
theorem dX12_failed_12 : decode cX12_failed 12 = .ok (.iconst 1, 1) := by decide +kernel
theorem dX12_failed_13 : decode cX12_failed 13 = .ok (.isub, 1) := by decide +kernel
theorem dX12_failed_14 : decode cX12_failed 14 = .ok (.i2l, 1) := by decide +kernel
theorem dX12_failed_15 : decode cX12_failed 15 = .ok (.invokestatic 105, 3) := by decide +kernel
theorem dX12_failed_18 : decode cX12_failed 18 = .ok (.ifCond .ne 6, 3) := by decide +kernel
theorem dX12_failed_21 : decode cX12_failed 21 = .ok (.bipush (-2), 2) := by decide +kernel
theorem dX12_failed_23 : decode cX12_failed 23 = .ok (.ireturn, 1) := by decide +kernel
theorem dX12_failed_24 : decode cX12_failed 24 = .ok (.iload_n 2, 1) := by decide +kernel
theorem dX12_failed_25 : decode cX12_failed 25 = .ok (.ifCond .ne 12, 3) := by decide +kernel
theorem dX12_failed_28 : decode cX12_failed 28 = .ok (.aload_n 0, 1) := by decide +kernel
theorem dX12_failed_29 : decode cX12_failed 29 = .ok (.getfield 88, 3) := by decide +kernel
theorem dX12_failed_32 : decode cX12_failed 32 = .ok (.iload_n 1, 1) := by decide +kernel
theorem dX12_failed_33 : decode cX12_failed 33 = .ok (.iaload, 1) := by decide +kernel
theorem dX12_failed_34 : decode cX12_failed 34 = .ok (.goto 19, 3) := by decide +kernel
theorem dX12_failed_37 : decode cX12_failed 37 = .ok (.iload_n 2, 1) := by decide +kernel
theorem dX12_failed_38 : decode cX12_failed 38 = .ok (.iconst 1, 1) := by decide +kernel
theorem dX12_failed_39 : decode cX12_failed 39 = .ok (.if_icmp .ne 12, 3) := by decide +kernel
theorem dX12_failed_42 : decode cX12_failed 42 = .ok (.aload_n 0, 1) := by decide +kernel
theorem dX12_failed_43 : decode cX12_failed 43 = .ok (.getfield 91, 3) := by decide +kernel
theorem dX12_failed_46 : decode cX12_failed 46 = .ok (.iload_n 1, 1) := by decide +kernel
theorem dX12_failed_47 : decode cX12_failed 47 = .ok (.iaload, 1) := by decide +kernel
theorem dX12_failed_48 : decode cX12_failed 48 = .ok (.goto 5, 3) := by decide +kernel
theorem dX12_failed_51 : decode cX12_failed 51 = .ok (.bipush (-3), 2) := by decide +kernel
theorem dX12_failed_53 : decode cX12_failed 53 = .ok (.ireturn, 1) := by decide +kernel
theorem dX12_endOf_0 : decode cX12_endOf 0 = .ok (.iload_n 1, 1) := by decide +kernel
theorem dX12_endOf_1 : decode cX12_endOf 1 = .ok (.istore_n 2, 1) := by decide +kernel
theorem dX12_endOf_2 : decode cX12_endOf 2 = .ok (.iload_n 2, 1) := by decide +kernel
theorem dX12_endOf_3 : decode cX12_endOf 3 = .ok (.aload_n 0, 1) := by decide +kernel
theorem dX12_endOf_4 : decode cX12_endOf 4 = .ok (.getfield 109, 3) := by decide +kernel
theorem dX12_endOf_7 : decode cX12_endOf 7 = .ok (.if_icmp .ge 20, 3) := by decide +kernel
theorem dX12_endOf_10 : decode cX12_endOf 10 = .ok (.aload_n 0, 1) := by decide +kernel
theorem dX12_endOf_11 : decode cX12_endOf 11 = .ok (.getfield 13, 3) := by decide +kernel
theorem dX12_endOf_14 : decode cX12_endOf 14 = .ok (.iload_n 2, 1) := by decide +kernel
theorem dX12_endOf_15 : decode cX12_endOf 15 = .ok (.iaload, 1) := by decide +kernel
theorem dX12_endOf_16 : decode cX12_endOf 16 = .ok (.bipush 10, 2) := by decide +kernel
theorem dX12_endOf_18 : decode cX12_endOf 18 = .ok (.if_icmp .eq 9, 3) := by decide +kernel
theorem dX12_endOf_21 : decode cX12_endOf 21 = .ok (.iinc 2 1, 3) := by decide +kernel
theorem dX12_endOf_24 : decode cX12_endOf 24 = .ok (.goto (-22), 3) := by decide +kernel
theorem dX12_endOf_27 : decode cX12_endOf 27 = .ok (.iload_n 2, 1) := by decide +kernel
theorem dX12_endOf_28 : decode cX12_endOf 28 = .ok (.ireturn, 1) := by decide +kernel
theorem dX12_wrongTranscript_0 : decode cX12_wrongTranscript 0 = .ok (.iconst 0, 1) := by decide +kernel
theorem dX12_wrongTranscript_1 : decode cX12_wrongTranscript 1 = .ok (.istore_n 1, 1) := by decide +kernel
theorem dX12_wrongTranscript_2 : decode cX12_wrongTranscript 2 = .ok (.iconst 0, 1) := by decide +kernel
theorem dX12_wrongTranscript_3 : decode cX12_wrongTranscript 3 = .ok (.istore_n 2, 1) := by decide +kernel
theorem dX12_wrongTranscript_4 : decode cX12_wrongTranscript 4 = .ok (.iload_n 1, 1) := by decide +kernel
theorem dX12_wrongTranscript_5 : decode cX12_wrongTranscript 5 = .ok (.aload_n 0, 1) := by decide +kernel
theorem dX12_wrongTranscript_6 : decode cX12_wrongTranscript 6 = .ok (.getfield 109, 3) := by decide +kernel
theorem dX12_wrongTranscript_9 : decode cX12_wrongTranscript 9 = .ok (.if_icmp .ge 112, 3) := by decide +kernel
theorem dX12_wrongTranscript_12 : decode cX12_wrongTranscript 12 = .ok (.iload_n 2, 1) := by decide +kernel
theorem dX12_wrongTranscript_13 : decode cX12_wrongTranscript 13 = .ok (.bipush 40, 2) := by decide +kernel
theorem dX12_wrongTranscript_15 : decode cX12_wrongTranscript 15 = .ok (.if_icmp .ne 5, 3) := by decide +kernel
theorem dX12_wrongTranscript_18 : decode cX12_wrongTranscript 18 = .ok (.iload_n 1, 1) := by decide +kernel
theorem dX12_wrongTranscript_19 : decode cX12_wrongTranscript 19 = .ok (.ireturn, 1) := by decide +kernel
theorem dX12_wrongTranscript_20 : decode cX12_wrongTranscript 20 = .ok (.iload_n 2, 1) := by decide +kernel
theorem dX12_wrongTranscript_21 : decode cX12_wrongTranscript 21 = .ok (.iconst 2, 1) := by decide +kernel
theorem dX12_wrongTranscript_22 : decode cX12_wrongTranscript 22 = .ok (.irem, 1) := by decide +kernel
theorem dX12_wrongTranscript_23 : decode cX12_wrongTranscript 23 = .ok (.ifCond .ne 51, 3) := by decide +kernel
theorem dX12_wrongTranscript_26 : decode cX12_wrongTranscript 26 = .ok (.aload_n 0, 1) := by decide +kernel
theorem dX12_wrongTranscript_27 : decode cX12_wrongTranscript 27 = .ok (.getfield 13, 3) := by decide +kernel
theorem dX12_wrongTranscript_30 : decode cX12_wrongTranscript 30 = .ok (.iload_n 1, 1) := by decide +kernel
theorem dX12_wrongTranscript_31 : decode cX12_wrongTranscript 31 = .ok (.iaload, 1) := by decide +kernel
theorem dX12_wrongTranscript_32 : decode cX12_wrongTranscript 32 = .ok (.bipush 62, 2) := by decide +kernel
theorem dX12_wrongTranscript_34 : decode cX12_wrongTranscript 34 = .ok (.if_icmp .eq 7, 3) := by decide +kernel
theorem dX12_wrongTranscript_37 : decode cX12_wrongTranscript 37 = .ok (.iload_n 1, 1) := by decide +kernel
theorem dX12_wrongTranscript_38 : decode cX12_wrongTranscript 38 = .ok (.goto 29, 3) := by decide +kernel
theorem dX12_wrongTranscript_41 : decode cX12_wrongTranscript 41 = .ok (.aload_n 0, 1) := by decide +kernel
theorem dX12_wrongTranscript_42 : decode cX12_wrongTranscript 42 = .ok (.iload_n 1, 1) := by decide +kernel
theorem dX12_wrongTranscript_43 : decode cX12_wrongTranscript 43 = .ok (.iconst 1, 1) := by decide +kernel
theorem dX12_wrongTranscript_44 : decode cX12_wrongTranscript 44 = .ok (.iadd, 1) := by decide +kernel
theorem dX12_wrongTranscript_45 : decode cX12_wrongTranscript 45 = .ok (.invokevirtual 184, 3) := by decide +kernel
theorem dX12_wrongTranscript_48 : decode cX12_wrongTranscript 48 = .ok (.bipush 32, 2) := by decide +kernel
theorem dX12_wrongTranscript_50 : decode cX12_wrongTranscript 50 = .ok (.if_icmp .eq 9, 3) := by decide +kernel
theorem dX12_wrongTranscript_53 : decode cX12_wrongTranscript 53 = .ok (.iload_n 1, 1) := by decide +kernel
theorem dX12_wrongTranscript_54 : decode cX12_wrongTranscript 54 = .ok (.iconst 1, 1) := by decide +kernel
theorem dX12_wrongTranscript_55 : decode cX12_wrongTranscript 55 = .ok (.iadd, 1) := by decide +kernel
theorem dX12_wrongTranscript_56 : decode cX12_wrongTranscript 56 = .ok (.goto 11, 3) := by decide +kernel
theorem dX12_wrongTranscript_59 : decode cX12_wrongTranscript 59 = .ok (.aload_n 0, 1) := by decide +kernel
theorem dX12_wrongTranscript_60 : decode cX12_wrongTranscript 60 = .ok (.iload_n 1, 1) := by decide +kernel
theorem dX12_wrongTranscript_61 : decode cX12_wrongTranscript 61 = .ok (.iconst 2, 1) := by decide +kernel
theorem dX12_wrongTranscript_62 : decode cX12_wrongTranscript 62 = .ok (.iadd, 1) := by decide +kernel
theorem dX12_wrongTranscript_63 : decode cX12_wrongTranscript 63 = .ok (.iconst 1, 1) := by decide +kernel
theorem dX12_wrongTranscript_64 : decode cX12_wrongTranscript 64 = .ok (.invokevirtual 193, 3) := by decide +kernel
theorem dX12_wrongTranscript_67 : decode cX12_wrongTranscript 67 = .ok (.istore_n 3, 1) := by decide +kernel
theorem dX12_wrongTranscript_68 : decode cX12_wrongTranscript 68 = .ok (.iload_n 3, 1) := by decide +kernel
theorem dX12_wrongTranscript_69 : decode cX12_wrongTranscript 69 = .ok (.ifCond .lt 5, 3) := by decide +kernel
theorem dX12_wrongTranscript_72 : decode cX12_wrongTranscript 72 = .ok (.iload_n 3, 1) := by decide +kernel
theorem dX12_wrongTranscript_73 : decode cX12_wrongTranscript 73 = .ok (.ireturn, 1) := by decide +kernel
theorem dX12_wrongTranscript_74 : decode cX12_wrongTranscript 74 = .ok (.aload_n 0, 1) := by decide +kernel
theorem dX12_wrongTranscript_75 : decode cX12_wrongTranscript 75 = .ok (.iload_n 1, 1) := by decide +kernel
theorem dX12_wrongTranscript_76 : decode cX12_wrongTranscript 76 = .ok (.invokevirtual 243, 3) := by decide +kernel
theorem dX12_wrongTranscript_79 : decode cX12_wrongTranscript 79 = .ok (.istore_n 3, 1) := by decide +kernel
theorem dX12_wrongTranscript_80 : decode cX12_wrongTranscript 80 = .ok (.iload_n 1, 1) := by decide +kernel
theorem dX12_wrongTranscript_81 : decode cX12_wrongTranscript 81 = .ok (.istore 4, 2) := by decide +kernel
theorem dX12_wrongTranscript_83 : decode cX12_wrongTranscript 83 = .ok (.iload 4, 2) := by decide +kernel
theorem dX12_wrongTranscript_85 : decode cX12_wrongTranscript 85 = .ok (.iload_n 3, 1) := by decide +kernel
theorem dX12_wrongTranscript_86 : decode cX12_wrongTranscript 86 = .ok (.if_icmp .ge 25, 3) := by decide +kernel
theorem dX12_wrongTranscript_89 : decode cX12_wrongTranscript 89 = .ok (.aload_n 0, 1) := by decide +kernel
theorem dX12_wrongTranscript_90 : decode cX12_wrongTranscript 90 = .ok (.getfield 13, 3) := by decide +kernel
theorem dX12_wrongTranscript_93 : decode cX12_wrongTranscript 93 = .ok (.iload 4, 2) := by decide +kernel
theorem dX12_wrongTranscript_95 : decode cX12_wrongTranscript 95 = .ok (.iaload, 1) := by decide +kernel
theorem dX12_wrongTranscript_96 : decode cX12_wrongTranscript 96 = .ok (.invokestatic 135, 3) := by decide +kernel
theorem dX12_wrongTranscript_99 : decode cX12_wrongTranscript 99 = .ok (.ifCond .ne 6, 3) := by decide +kernel
theorem dX12_wrongTranscript_102 : decode cX12_wrongTranscript 102 = .ok (.iload 4, 2) := by decide +kernel
theorem dX12_wrongTranscript_104 : decode cX12_wrongTranscript 104 = .ok (.ireturn, 1) := by decide +kernel
theorem dX12_wrongTranscript_105 : decode cX12_wrongTranscript 105 = .ok (.iinc 4 1, 3) := by decide +kernel
theorem dX12_wrongTranscript_108 : decode cX12_wrongTranscript 108 = .ok (.goto (-25), 3) := by decide +kernel
theorem dX12_wrongTranscript_111 : decode cX12_wrongTranscript 111 = .ok (.iload_n 3, 1) := by decide +kernel
theorem dX12_wrongTranscript_112 : decode cX12_wrongTranscript 112 = .ok (.iconst 1, 1) := by decide +kernel
theorem dX12_wrongTranscript_113 : decode cX12_wrongTranscript 113 = .ok (.iadd, 1) := by decide +kernel
theorem dX12_wrongTranscript_114 : decode cX12_wrongTranscript 114 = .ok (.istore_n 1, 1) := by decide +kernel
theorem dX12_wrongTranscript_115 : decode cX12_wrongTranscript 115 = .ok (.iinc 2 1, 3) := by decide +kernel
theorem dX12_wrongTranscript_118 : decode cX12_wrongTranscript 118 = .ok (.goto (-114), 3) := by decide +kernel
theorem dX12_wrongTranscript_121 : decode cX12_wrongTranscript 121 = .ok (.iload_n 2, 1) := by decide +kernel
theorem dX12_wrongTranscript_122 : decode cX12_wrongTranscript 122 = .ok (.iconst 2, 1) := by decide +kernel
theorem dX12_wrongTranscript_123 : decode cX12_wrongTranscript 123 = .ok (.irem, 1) := by decide +kernel
theorem dX12_wrongTranscript_124 : decode cX12_wrongTranscript 124 = .ok (.iconst 1, 1) := by decide +kernel
theorem dX12_wrongTranscript_125 : decode cX12_wrongTranscript 125 = .ok (.if_icmp .ne 10, 3) := by decide +kernel
theorem dX12_wrongTranscript_128 : decode cX12_wrongTranscript 128 = .ok (.aload_n 0, 1) := by decide +kernel
theorem dX12_wrongTranscript_129 : decode cX12_wrongTranscript 129 = .ok (.getfield 109, 3) := by decide +kernel
theorem dX12_wrongTranscript_132 : decode cX12_wrongTranscript 132 = .ok (.goto 4, 3) := by decide +kernel
theorem dX12_wrongTranscript_135 : decode cX12_wrongTranscript 135 = .ok (.iconst (-1), 1) := by decide +kernel
theorem dX12_wrongTranscript_136 : decode cX12_wrongTranscript 136 = .ok (.ireturn, 1) := by decide +kernel
theorem dX12_isLine_0 : decode cX12_isLine 0 = .ok (.iload_n 2, 1) := by decide +kernel
theorem dX12_isLine_1 : decode cX12_isLine 1 = .ok (.iload_n 1, 1) := by decide +kernel
theorem dX12_isLine_2 : decode cX12_isLine 2 = .ok (.isub, 1) := by decide +kernel
theorem dX12_isLine_3 : decode cX12_isLine 3 = .ok (.istore 5, 2) := by decide +kernel
theorem dX12_isLine_5 : decode cX12_isLine 5 = .ok (.iload 4, 2) := by decide +kernel
theorem dX12_isLine_7 : decode cX12_isLine 7 = .ok (.ifCond .eq 26, 3) := by decide +kernel
theorem dX12_isLine_10 : decode cX12_isLine 10 = .ok (.iload 5, 2) := by decide +kernel
theorem dX12_isLine_12 : decode cX12_isLine 12 = .ok (.iconst 1, 1) := by decide +kernel
theorem dX12_isLine_13 : decode cX12_isLine 13 = .ok (.if_icmp .ne 18, 3) := by decide +kernel
theorem dX12_isLine_16 : decode cX12_isLine 16 = .ok (.aload_n 0, 1) := by decide +kernel
theorem dX12_isLine_17 : decode cX12_isLine 17 = .ok (.getfield 13, 3) := by decide +kernel
theorem dX12_isLine_20 : decode cX12_isLine 20 = .ok (.iload_n 1, 1) := by decide +kernel
theorem dX12_isLine_21 : decode cX12_isLine 21 = .ok (.iaload, 1) := by decide +kernel
theorem dX12_isLine_22 : decode cX12_isLine 22 = .ok (.bipush 46, 2) := by decide +kernel
theorem dX12_isLine_24 : decode cX12_isLine 24 = .ok (.if_icmp .ne 7, 3) := by decide +kernel
theorem dX12_isLine_27 : decode cX12_isLine 27 = .ok (.iconst 1, 1) := by decide +kernel
theorem dX12_isLine_28 : decode cX12_isLine 28 = .ok (.goto 4, 3) := by decide +kernel
theorem dX12_isLine_31 : decode cX12_isLine 31 = .ok (.iconst 0, 1) := by decide +kernel
theorem dX12_isLine_32 : decode cX12_isLine 32 = .ok (.ireturn, 1) := by decide +kernel
theorem dX12_isLine_33 : decode cX12_isLine 33 = .ok (.iload_n 3, 1) := by decide +kernel
theorem dX12_isLine_34 : decode cX12_isLine 34 = .ok (.ifCond .le 41, 3) := by decide +kernel
theorem dX12_isLine_37 : decode cX12_isLine 37 = .ok (.iload 5, 2) := by decide +kernel
theorem dX12_isLine_39 : decode cX12_isLine 39 = .ok (.iconst 2, 1) := by decide +kernel
theorem dX12_isLine_40 : decode cX12_isLine 40 = .ok (.if_icmp .ne 33, 3) := by decide +kernel
theorem dX12_isLine_43 : decode cX12_isLine 43 = .ok (.aload_n 0, 1) := by decide +kernel
theorem dX12_isLine_44 : decode cX12_isLine 44 = .ok (.getfield 13, 3) := by decide +kernel
theorem dX12_isLine_47 : decode cX12_isLine 47 = .ok (.iload_n 1, 1) := by decide +kernel
theorem dX12_isLine_48 : decode cX12_isLine 48 = .ok (.iaload, 1) := by decide +kernel
theorem dX12_isLine_49 : decode cX12_isLine 49 = .ok (.bipush 33, 2) := by decide +kernel
theorem dX12_isLine_51 : decode cX12_isLine 51 = .ok (.if_icmp .ne 22, 3) := by decide +kernel
theorem dX12_isLine_54 : decode cX12_isLine 54 = .ok (.aload_n 0, 1) := by decide +kernel
theorem dX12_isLine_55 : decode cX12_isLine 55 = .ok (.getfield 13, 3) := by decide +kernel
theorem dX12_isLine_58 : decode cX12_isLine 58 = .ok (.iload_n 1, 1) := by decide +kernel
theorem dX12_isLine_59 : decode cX12_isLine 59 = .ok (.iconst 1, 1) := by decide +kernel
theorem dX12_isLine_60 : decode cX12_isLine 60 = .ok (.iadd, 1) := by decide +kernel
theorem dX12_isLine_61 : decode cX12_isLine 61 = .ok (.iaload, 1) := by decide +kernel
theorem dX12_isLine_62 : decode cX12_isLine 62 = .ok (.bipush 48, 2) := by decide +kernel
theorem dX12_isLine_64 : decode cX12_isLine 64 = .ok (.iload_n 3, 1) := by decide +kernel
theorem dX12_isLine_65 : decode cX12_isLine 65 = .ok (.iadd, 1) := by decide +kernel
theorem dX12_isLine_66 : decode cX12_isLine 66 = .ok (.if_icmp .ne 7, 3) := by decide +kernel
theorem dX12_isLine_69 : decode cX12_isLine 69 = .ok (.iconst 1, 1) := by decide +kernel
theorem dX12_isLine_70 : decode cX12_isLine 70 = .ok (.goto 4, 3) := by decide +kernel
theorem dX12_isLine_73 : decode cX12_isLine 73 = .ok (.iconst 0, 1) := by decide +kernel
theorem dX12_isLine_74 : decode cX12_isLine 74 = .ok (.ireturn, 1) := by decide +kernel
theorem dX12_isLine_75 : decode cX12_isLine 75 = .ok (.iload 5, 2) := by decide +kernel
theorem dX12_isLine_77 : decode cX12_isLine 77 = .ok (.aload_n 0, 1) := by decide +kernel
theorem dX12_isLine_78 : decode cX12_isLine 78 = .ok (.aload_n 0, 1) := by decide +kernel
theorem dX12_isLine_79 : decode cX12_isLine 79 = .ok (.getfield 75, 3) := by decide +kernel
theorem dX12_isLine_82 : decode cX12_isLine 82 = .ok (.iconst 3, 1) := by decide +kernel
theorem dX12_isLine_83 : decode cX12_isLine 83 = .ok (.iaload, 1) := by decide +kernel
theorem dX12_isLine_84 : decode cX12_isLine 84 = .ok (.invokevirtual 213, 3) := by decide +kernel
theorem dX12_isLine_87 : decode cX12_isLine 87 = .ok (.if_icmp .ne 7, 3) := by decide +kernel
theorem dX12_isLine_90 : decode cX12_isLine 90 = .ok (.iconst 1, 1) := by decide +kernel
theorem dX12_isLine_91 : decode cX12_isLine 91 = .ok (.goto 4, 3) := by decide +kernel
theorem dX12_isLine_94 : decode cX12_isLine 94 = .ok (.iconst 0, 1) := by decide +kernel
theorem dX12_isLine_95 : decode cX12_isLine 95 = .ok (.istore 6, 2) := by decide +kernel
theorem dX12_isLine_97 : decode cX12_isLine 97 = .ok (.iconst 0, 1) := by decide +kernel
theorem dX12_isLine_98 : decode cX12_isLine 98 = .ok (.istore 7, 2) := by decide +kernel
theorem dX12_isLine_100 : decode cX12_isLine 100 = .ok (.iload 7, 2) := by decide +kernel
theorem dX12_isLine_102 : decode cX12_isLine 102 = .ok (.iload 5, 2) := by decide +kernel
theorem dX12_isLine_104 : decode cX12_isLine 104 = .ok (.if_icmp .ge 45, 3) := by decide +kernel
theorem dX12_isLine_107 : decode cX12_isLine 107 = .ok (.iload 6, 2) := by decide +kernel
theorem dX12_isLine_109 : decode cX12_isLine 109 = .ok (.ifCond .eq 40, 3) := by decide +kernel
theorem dX12_isLine_112 : decode cX12_isLine 112 = .ok (.aload_n 0, 1) := by decide +kernel
theorem dX12_isLine_113 : decode cX12_isLine 113 = .ok (.getfield 13, 3) := by decide +kernel
theorem dX12_isLine_116 : decode cX12_isLine 116 = .ok (.iload_n 1, 1) := by decide +kernel
theorem dX12_isLine_117 : decode cX12_isLine 117 = .ok (.iload 7, 2) := by decide +kernel
theorem dX12_isLine_119 : decode cX12_isLine 119 = .ok (.iadd, 1) := by decide +kernel
theorem dX12_isLine_120 : decode cX12_isLine 120 = .ok (.iaload, 1) := by decide +kernel
theorem dX12_isLine_121 : decode cX12_isLine 121 = .ok (.aload_n 0, 1) := by decide +kernel
theorem dX12_isLine_122 : decode cX12_isLine 122 = .ok (.aload_n 0, 1) := by decide +kernel
theorem dX12_isLine_123 : decode cX12_isLine 123 = .ok (.getfield 75, 3) := by decide +kernel
theorem dX12_isLine_126 : decode cX12_isLine 126 = .ok (.iconst 3, 1) := by decide +kernel
theorem dX12_isLine_127 : decode cX12_isLine 127 = .ok (.iaload, 1) := by decide +kernel
theorem dX12_isLine_128 : decode cX12_isLine 128 = .ok (.iload 7, 2) := by decide +kernel
theorem dX12_isLine_130 : decode cX12_isLine 130 = .ok (.invokevirtual 216, 3) := by decide +kernel
theorem dX12_isLine_133 : decode cX12_isLine 133 = .ok (.if_icmp .ne 7, 3) := by decide +kernel
theorem dX12_isLine_136 : decode cX12_isLine 136 = .ok (.iconst 1, 1) := by decide +kernel
theorem dX12_isLine_137 : decode cX12_isLine 137 = .ok (.goto 4, 3) := by decide +kernel
theorem dX12_isLine_140 : decode cX12_isLine 140 = .ok (.iconst 0, 1) := by decide +kernel
theorem dX12_isLine_141 : decode cX12_isLine 141 = .ok (.istore 6, 2) := by decide +kernel
theorem dX12_isLine_143 : decode cX12_isLine 143 = .ok (.iinc 7 1, 3) := by decide +kernel
theorem dX12_isLine_146 : decode cX12_isLine 146 = .ok (.goto (-46), 3) := by decide +kernel
theorem dX12_isLine_149 : decode cX12_isLine 149 = .ok (.iload 6, 2) := by decide +kernel
theorem dX12_isLine_151 : decode cX12_isLine 151 = .ok (.ireturn, 1) := by decide +kernel
theorem dX12_replay_0 : decode cX12_replay 0 = .ok (.aload_n 0, 1) := by decide +kernel
theorem dX12_replay_1 : decode cX12_replay 1 = .ok (.iconst 0, 1) := by decide +kernel
theorem dX12_replay_2 : decode cX12_replay 2 = .ok (.putfield 1, 3) := by decide +kernel
theorem dX12_replay_5 : decode cX12_replay 5 = .ok (.aload_n 0, 1) := by decide +kernel
theorem dX12_replay_6 : decode cX12_replay 6 = .ok (.invokevirtual 246, 3) := by decide +kernel
theorem dX12_replay_9 : decode cX12_replay 9 = .ok (.istore_n 1, 1) := by decide +kernel
theorem dX12_replay_10 : decode cX12_replay 10 = .ok (.iload_n 1, 1) := by decide +kernel
theorem dX12_replay_11 : decode cX12_replay 11 = .ok (.ifCond .lt 13, 3) := by decide +kernel
theorem dX12_replay_14 : decode cX12_replay 14 = .ok (.aload_n 0, 1) := by decide +kernel
theorem dX12_replay_15 : decode cX12_replay 15 = .ok (.iconst 0, 1) := by decide +kernel
theorem dX12_replay_16 : decode cX12_replay 16 = .ok (.putfield 109, 3) := by decide +kernel
theorem dX12_replay_19 : decode cX12_replay 19 = .ok (.bipush (-10), 2) := by decide +kernel
theorem dX12_replay_21 : decode cX12_replay 21 = .ok (.iload_n 1, 1) := by decide +kernel
theorem dX12_replay_22 : decode cX12_replay 22 = .ok (.isub, 1) := by decide +kernel
theorem dX12_replay_23 : decode cX12_replay 23 = .ok (.ireturn, 1) := by decide +kernel
theorem dX12_replay_24 : decode cX12_replay 24 = .ok (.aload_n 0, 1) := by decide +kernel
theorem dX12_replay_25 : decode cX12_replay 25 = .ok (.invokevirtual 100, 3) := by decide +kernel
theorem dX12_replay_28 : decode cX12_replay 28 = .ok (.iconst 0, 1) := by decide +kernel
theorem dX12_replay_29 : decode cX12_replay 29 = .ok (.istore_n 2, 1) := by decide +kernel
theorem dX12_replay_30 : decode cX12_replay 30 = .ok (.iconst 0, 1) := by decide +kernel
theorem dX12_replay_31 : decode cX12_replay 31 = .ok (.istore_n 3, 1) := by decide +kernel
theorem dX12_replay_32 : decode cX12_replay 32 = .ok (.iconst 0, 1) := by decide +kernel
theorem dX12_replay_33 : decode cX12_replay 33 = .ok (.istore 4, 2) := by decide +kernel
theorem dX12_replay_35 : decode cX12_replay 35 = .ok (.iload_n 2, 1) := by decide +kernel
theorem dX12_replay_36 : decode cX12_replay 36 = .ok (.aload_n 0, 1) := by decide +kernel
theorem dX12_replay_37 : decode cX12_replay 37 = .ok (.getfield 109, 3) := by decide +kernel
theorem dX12_replay_40 : decode cX12_replay 40 = .ok (.if_icmp .ge 108, 3) := by decide +kernel
theorem dX12_replay_43 : decode cX12_replay 43 = .ok (.iload 4, 2) := by decide +kernel
theorem dX12_replay_45 : decode cX12_replay 45 = .ok (.ifCond .ne 103, 3) := by decide +kernel
theorem dX12_replay_48 : decode cX12_replay 48 = .ok (.aload_n 0, 1) := by decide +kernel
theorem dX12_replay_49 : decode cX12_replay 49 = .ok (.iload_n 2, 1) := by decide +kernel
theorem dX12_replay_50 : decode cX12_replay 50 = .ok (.invokevirtual 243, 3) := by decide +kernel
theorem dX12_replay_53 : decode cX12_replay 53 = .ok (.istore 5, 2) := by decide +kernel
theorem dX12_replay_55 : decode cX12_replay 55 = .ok (.aload_n 0, 1) := by decide +kernel
theorem dX12_replay_56 : decode cX12_replay 56 = .ok (.getfield 75, 3) := by decide +kernel
theorem dX12_replay_59 : decode cX12_replay 59 = .ok (.iconst 1, 1) := by decide +kernel
theorem dX12_replay_60 : decode cX12_replay 60 = .ok (.iaload, 1) := by decide +kernel
theorem dX12_replay_61 : decode cX12_replay 61 = .ok (.ifCond .eq 7, 3) := by decide +kernel
theorem dX12_replay_64 : decode cX12_replay 64 = .ok (.iconst 1, 1) := by decide +kernel
theorem dX12_replay_65 : decode cX12_replay 65 = .ok (.goto 4, 3) := by decide +kernel
theorem dX12_replay_68 : decode cX12_replay 68 = .ok (.iconst 0, 1) := by decide +kernel
theorem dX12_replay_69 : decode cX12_replay 69 = .ok (.istore 6, 2) := by decide +kernel
theorem dX12_replay_71 : decode cX12_replay 71 = .ok (.iload 6, 2) := by decide +kernel
theorem dX12_replay_73 : decode cX12_replay 73 = .ok (.ifCond .eq 7, 3) := by decide +kernel
theorem dX12_replay_76 : decode cX12_replay 76 = .ok (.iconst 0, 1) := by decide +kernel
theorem dX12_replay_77 : decode cX12_replay 77 = .ok (.goto 24, 3) := by decide +kernel
theorem dX12_replay_80 : decode cX12_replay 80 = .ok (.aload_n 0, 1) := by decide +kernel
theorem dX12_replay_81 : decode cX12_replay 81 = .ok (.aload_n 0, 1) := by decide +kernel
theorem dX12_replay_82 : decode cX12_replay 82 = .ok (.aload_n 0, 1) := by decide +kernel
theorem dX12_replay_83 : decode cX12_replay 83 = .ok (.getfield 13, 3) := by decide +kernel
theorem dX12_replay_86 : decode cX12_replay 86 = .ok (.iload_n 2, 1) := by decide +kernel
theorem dX12_replay_87 : decode cX12_replay 87 = .ok (.iconst 2, 1) := by decide +kernel
theorem dX12_replay_88 : decode cX12_replay 88 = .ok (.iadd, 1) := by decide +kernel
theorem dX12_replay_89 : decode cX12_replay 89 = .ok (.iload 5, 2) := by decide +kernel
theorem dX12_replay_91 : decode cX12_replay 91 = .ok (.iload_n 2, 1) := by decide +kernel
theorem dX12_replay_92 : decode cX12_replay 92 = .ok (.isub, 1) := by decide +kernel
theorem dX12_replay_93 : decode cX12_replay 93 = .ok (.iconst 2, 1) := by decide +kernel
theorem dX12_replay_94 : decode cX12_replay 94 = .ok (.isub, 1) := by decide +kernel
theorem dX12_replay_95 : decode cX12_replay 95 = .ok (.invokevirtual 131, 3) := by decide +kernel
theorem dX12_replay_98 : decode cX12_replay 98 = .ok (.invokevirtual 231, 3) := by decide +kernel
theorem dX12_replay_101 : decode cX12_replay 101 = .ok (.istore 7, 2) := by decide +kernel
theorem dX12_replay_103 : decode cX12_replay 103 = .ok (.aload_n 0, 1) := by decide +kernel
theorem dX12_replay_104 : decode cX12_replay 104 = .ok (.iload 5, 2) := by decide +kernel
theorem dX12_replay_106 : decode cX12_replay 106 = .ok (.iconst 1, 1) := by decide +kernel
theorem dX12_replay_107 : decode cX12_replay 107 = .ok (.iadd, 1) := by decide +kernel
theorem dX12_replay_108 : decode cX12_replay 108 = .ok (.invokevirtual 243, 3) := by decide +kernel
theorem dX12_replay_111 : decode cX12_replay 111 = .ok (.istore 8, 2) := by decide +kernel
theorem dX12_replay_113 : decode cX12_replay 113 = .ok (.iinc 3 2, 3) := by decide +kernel
theorem dX12_replay_116 : decode cX12_replay 116 = .ok (.aload_n 0, 1) := by decide +kernel
theorem dX12_replay_117 : decode cX12_replay 117 = .ok (.iload 5, 2) := by decide +kernel
theorem dX12_replay_119 : decode cX12_replay 119 = .ok (.iconst 1, 1) := by decide +kernel
theorem dX12_replay_120 : decode cX12_replay 120 = .ok (.iadd, 1) := by decide +kernel
theorem dX12_replay_121 : decode cX12_replay 121 = .ok (.iload 8, 2) := by decide +kernel
theorem dX12_replay_123 : decode cX12_replay 123 = .ok (.iload 7, 2) := by decide +kernel
theorem dX12_replay_125 : decode cX12_replay 125 = .ok (.iload 6, 2) := by decide +kernel
theorem dX12_replay_127 : decode cX12_replay 127 = .ok (.invokevirtual 250, 3) := by decide +kernel
theorem dX12_replay_130 : decode cX12_replay 130 = .ok (.ifCond .eq 7, 3) := by decide +kernel
theorem dX12_replay_133 : decode cX12_replay 133 = .ok (.iconst 0, 1) := by decide +kernel
theorem dX12_replay_134 : decode cX12_replay 134 = .ok (.goto 4, 3) := by decide +kernel
theorem dX12_replay_137 : decode cX12_replay 137 = .ok (.iload_n 3, 1) := by decide +kernel
theorem dX12_replay_138 : decode cX12_replay 138 = .ok (.istore 4, 2) := by decide +kernel
theorem dX12_replay_140 : decode cX12_replay 140 = .ok (.iload 8, 2) := by decide +kernel
theorem dX12_replay_142 : decode cX12_replay 142 = .ok (.iconst 1, 1) := by decide +kernel
theorem dX12_replay_143 : decode cX12_replay 143 = .ok (.iadd, 1) := by decide +kernel
theorem dX12_replay_144 : decode cX12_replay 144 = .ok (.istore_n 2, 1) := by decide +kernel
theorem dX12_replay_145 : decode cX12_replay 145 = .ok (.goto (-110), 3) := by decide +kernel
theorem dX12_replay_148 : decode cX12_replay 148 = .ok (.aload_n 0, 1) := by decide +kernel
theorem dX12_replay_149 : decode cX12_replay 149 = .ok (.iconst 0, 1) := by decide +kernel
theorem dX12_replay_150 : decode cX12_replay 150 = .ok (.putfield 109, 3) := by decide +kernel
theorem dX12_replay_153 : decode cX12_replay 153 = .ok (.iload 4, 2) := by decide +kernel
theorem dX12_replay_155 : decode cX12_replay 155 = .ok (.ireturn, 1) := by decide +kernel
theorem dX12_breaks_0 : decode cX12_breaks 0 = .ok (.aload_n 0, 1) := by decide +kernel
theorem dX12_breaks_1 : decode cX12_breaks 1 = .ok (.iload_n 1, 1) := by decide +kernel
theorem dX12_breaks_2 : decode cX12_breaks 2 = .ok (.invokevirtual 231, 3) := by decide +kernel
theorem dX12_breaks_5 : decode cX12_breaks 5 = .ok (.istore_n 2, 1) := by decide +kernel
theorem dX12_breaks_6 : decode cX12_breaks 6 = .ok (.iload_n 2, 1) := by decide +kernel
theorem dX12_breaks_7 : decode cX12_breaks 7 = .ok (.ifCond .le 5, 3) := by decide +kernel
theorem dX12_breaks_10 : decode cX12_breaks 10 = .ok (.iconst 1, 1) := by decide +kernel
theorem dX12_breaks_11 : decode cX12_breaks 11 = .ok (.ireturn, 1) := by decide +kernel
theorem dX12_breaks_12 : decode cX12_breaks 12 = .ok (.aload_n 0, 1) := by decide +kernel
theorem dX12_breaks_13 : decode cX12_breaks 13 = .ok (.aload_n 0, 1) := by decide +kernel
theorem dX12_breaks_14 : decode cX12_breaks 14 = .ok (.getfield 75, 3) := by decide +kernel
theorem dX12_breaks_17 : decode cX12_breaks 17 = .ok (.iconst 3, 1) := by decide +kernel
theorem dX12_breaks_18 : decode cX12_breaks 18 = .ok (.iaload, 1) := by decide +kernel
theorem dX12_breaks_19 : decode cX12_breaks 19 = .ok (.invokevirtual 213, 3) := by decide +kernel
theorem dX12_breaks_22 : decode cX12_breaks 22 = .ok (.ifCond .ne 5, 3) := by decide +kernel
theorem dX12_breaks_25 : decode cX12_breaks 25 = .ok (.iconst 2, 1) := by decide +kernel
theorem dX12_breaks_26 : decode cX12_breaks 26 = .ok (.ireturn, 1) := by decide +kernel
theorem dX12_breaks_27 : decode cX12_breaks 27 = .ok (.iconst 0, 1) := by decide +kernel
theorem dX12_breaks_28 : decode cX12_breaks 28 = .ok (.istore_n 3, 1) := by decide +kernel
theorem dX12_breaks_29 : decode cX12_breaks 29 = .ok (.iconst 4, 1) := by decide +kernel
theorem dX12_breaks_30 : decode cX12_breaks 30 = .ok (.istore 4, 2) := by decide +kernel
theorem dX12_breaks_32 : decode cX12_breaks 32 = .ok (.iload 4, 2) := by decide +kernel
theorem dX12_breaks_34 : decode cX12_breaks 34 = .ok (.bipush 12, 2) := by decide +kernel
theorem dX12_breaks_36 : decode cX12_breaks 36 = .ok (.if_icmp .ge 29, 3) := by decide +kernel
theorem dX12_breaks_39 : decode cX12_breaks 39 = .ok (.iload_n 3, 1) := by decide +kernel
theorem dX12_breaks_40 : decode cX12_breaks 40 = .ok (.ifCond .ne 13, 3) := by decide +kernel
theorem dX12_breaks_43 : decode cX12_breaks 43 = .ok (.aload_n 0, 1) := by decide +kernel
theorem dX12_breaks_44 : decode cX12_breaks 44 = .ok (.getfield 75, 3) := by decide +kernel
theorem dX12_breaks_47 : decode cX12_breaks 47 = .ok (.iload 4, 2) := by decide +kernel
theorem dX12_breaks_49 : decode cX12_breaks 49 = .ok (.iaload, 1) := by decide +kernel
theorem dX12_breaks_50 : decode cX12_breaks 50 = .ok (.ifCond .ge 7, 3) := by decide +kernel
theorem dX12_breaks_53 : decode cX12_breaks 53 = .ok (.iconst 1, 1) := by decide +kernel
theorem dX12_breaks_54 : decode cX12_breaks 54 = .ok (.goto 4, 3) := by decide +kernel
theorem dX12_breaks_57 : decode cX12_breaks 57 = .ok (.iconst 0, 1) := by decide +kernel
theorem dX12_breaks_58 : decode cX12_breaks 58 = .ok (.istore_n 3, 1) := by decide +kernel
theorem dX12_breaks_59 : decode cX12_breaks 59 = .ok (.iinc 4 1, 3) := by decide +kernel
theorem dX12_breaks_62 : decode cX12_breaks 62 = .ok (.goto (-30), 3) := by decide +kernel
theorem dX12_breaks_65 : decode cX12_breaks 65 = .ok (.iload_n 3, 1) := by decide +kernel
theorem dX12_breaks_66 : decode cX12_breaks 66 = .ok (.ifCond .eq 7, 3) := by decide +kernel
theorem dX12_breaks_69 : decode cX12_breaks 69 = .ok (.iconst 3, 1) := by decide +kernel
theorem dX12_breaks_70 : decode cX12_breaks 70 = .ok (.goto 4, 3) := by decide +kernel
theorem dX12_breaks_73 : decode cX12_breaks 73 = .ok (.iconst 0, 1) := by decide +kernel
theorem dX12_breaks_74 : decode cX12_breaks 74 = .ok (.ireturn, 1) := by decide +kernel
theorem dX12_storm_0 : decode cX12_storm 0 = .ok (.aload_n 0, 1) := by decide +kernel
theorem dX12_storm_1 : decode cX12_storm 1 = .ok (.iconst 0, 1) := by decide +kernel
theorem dX12_storm_2 : decode cX12_storm 2 = .ok (.putfield 1, 3) := by decide +kernel
theorem dX12_storm_5 : decode cX12_storm 5 = .ok (.iload_n 2, 1) := by decide +kernel
theorem dX12_storm_6 : decode cX12_storm 6 = .ok (.i2l, 1) := by decide +kernel
theorem dX12_storm_7 : decode cX12_storm 7 = .ok (.lconst 0, 1) := by decide +kernel
theorem dX12_storm_8 : decode cX12_storm 8 = .ok (.ldc2_w 254, 3) := by decide +kernel
theorem dX12_storm_11 : decode cX12_storm 11 = .ok (.invokestatic 105, 3) := by decide +kernel
theorem dX12_storm_14 : decode cX12_storm 14 = .ok (.ifCond .ne 6, 3) := by decide +kernel
theorem dX12_storm_17 : decode cX12_storm 17 = .ok (.bipush (-3), 2) := by decide +kernel
theorem dX12_storm_19 : decode cX12_storm 19 = .ok (.ireturn, 1) := by decide +kernel
theorem dX12_storm_20 : decode cX12_storm 20 = .ok (.aload_n 0, 1) := by decide +kernel
theorem dX12_storm_21 : decode cX12_storm 21 = .ok (.getfield 122, 3) := by decide +kernel
theorem dX12_storm_24 : decode cX12_storm 24 = .ok (.ifCond .ne 6, 3) := by decide +kernel
theorem dX12_storm_27 : decode cX12_storm 27 = .ok (.bipush (-4), 2) := by decide +kernel
theorem dX12_storm_29 : decode cX12_storm 29 = .ok (.ireturn, 1) := by decide +kernel
theorem dX12_storm_30 : decode cX12_storm 30 = .ok (.aload_n 0, 1) := by decide +kernel
theorem dX12_storm_31 : decode cX12_storm 31 = .ok (.invokevirtual 100, 3) := by decide +kernel
theorem dX12_storm_34 : decode cX12_storm 34 = .ok (.aload_n 0, 1) := by decide +kernel
theorem dX12_storm_35 : decode cX12_storm 35 = .ok (.iconst 0, 1) := by decide +kernel
theorem dX12_storm_36 : decode cX12_storm 36 = .ok (.putfield 256, 3) := by decide +kernel
theorem dX12_storm_39 : decode cX12_storm 39 = .ok (.aload_n 0, 1) := by decide +kernel
theorem dX12_storm_40 : decode cX12_storm 40 = .ok (.iconst 0, 1) := by decide +kernel
theorem dX12_storm_41 : decode cX12_storm 41 = .ok (.putfield 259, 3) := by decide +kernel
theorem dX12_storm_44 : decode cX12_storm 44 = .ok (.iload_n 1, 1) := by decide +kernel
theorem dX12_storm_45 : decode cX12_storm 45 = .ok (.istore_n 3, 1) := by decide +kernel
theorem dX12_storm_46 : decode cX12_storm 46 = .ok (.aload_n 0, 1) := by decide +kernel
theorem dX12_storm_47 : decode cX12_storm 47 = .ok (.getfield 256, 3) := by decide +kernel
theorem dX12_storm_50 : decode cX12_storm 50 = .ok (.iload_n 2, 1) := by decide +kernel
theorem dX12_storm_51 : decode cX12_storm 51 = .ok (.if_icmp .ge 76, 3) := by decide +kernel
theorem dX12_storm_54 : decode cX12_storm 54 = .ok (.aload_n 0, 1) := by decide +kernel
theorem dX12_storm_55 : decode cX12_storm 55 = .ok (.getfield 259, 3) := by decide +kernel
theorem dX12_storm_58 : decode cX12_storm 58 = .ok (.ifCond .ne 69, 3) := by decide +kernel
theorem dX12_storm_61 : decode cX12_storm 61 = .ok (.aload_n 0, 1) := by decide +kernel
theorem dX12_storm_62 : decode cX12_storm 62 = .ok (.getfield 75, 3) := by decide +kernel
theorem dX12_storm_65 : decode cX12_storm 65 = .ok (.iconst 1, 1) := by decide +kernel
theorem dX12_storm_66 : decode cX12_storm 66 = .ok (.iaload, 1) := by decide +kernel
theorem dX12_storm_67 : decode cX12_storm 67 = .ok (.ifCond .ne 60, 3) := by decide +kernel
theorem dX12_storm_70 : decode cX12_storm 70 = .ok (.iload_n 3, 1) := by decide +kernel
theorem dX12_storm_71 : decode cX12_storm 71 = .ok (.invokestatic 167, 3) := by decide +kernel
theorem dX12_storm_74 : decode cX12_storm 74 = .ok (.istore_n 3, 1) := by decide +kernel
theorem dX12_storm_75 : decode cX12_storm 75 = .ok (.aload_n 0, 1) := by decide +kernel
theorem dX12_storm_76 : decode cX12_storm 76 = .ok (.getfield 94, 3) := by decide +kernel
theorem dX12_storm_79 : decode cX12_storm 79 = .ok (.aload_n 0, 1) := by decide +kernel
theorem dX12_storm_80 : decode cX12_storm 80 = .ok (.getfield 256, 3) := by decide +kernel
theorem dX12_storm_83 : decode cX12_storm 83 = .ok (.iload_n 3, 1) := by decide +kernel
theorem dX12_storm_84 : decode cX12_storm 84 = .ok (.bipush 16, 2) := by decide +kernel
theorem dX12_storm_86 : decode cX12_storm 86 = .ok (.iushr, 1) := by decide +kernel
theorem dX12_storm_87 : decode cX12_storm 87 = .ok (.sipush 32767, 3) := by decide +kernel
theorem dX12_storm_90 : decode cX12_storm 90 = .ok (.iand, 1) := by decide +kernel
theorem dX12_storm_91 : decode cX12_storm 91 = .ok (.aload_n 0, 1) := by decide +kernel
theorem dX12_storm_92 : decode cX12_storm 92 = .ok (.getfield 122, 3) := by decide +kernel
theorem dX12_storm_95 : decode cX12_storm 95 = .ok (.irem, 1) := by decide +kernel
theorem dX12_storm_96 : decode cX12_storm 96 = .ok (.iastore, 1) := by decide +kernel
theorem dX12_storm_97 : decode cX12_storm 97 = .ok (.aload_n 0, 1) := by decide +kernel
theorem dX12_storm_98 : decode cX12_storm 98 = .ok (.aload_n 0, 1) := by decide +kernel
theorem dX12_storm_99 : decode cX12_storm 99 = .ok (.aload_n 0, 1) := by decide +kernel
theorem dX12_storm_100 : decode cX12_storm 100 = .ok (.getfield 94, 3) := by decide +kernel
theorem dX12_storm_103 : decode cX12_storm 103 = .ok (.aload_n 0, 1) := by decide +kernel
theorem dX12_storm_104 : decode cX12_storm 104 = .ok (.getfield 256, 3) := by decide +kernel
theorem dX12_storm_107 : decode cX12_storm 107 = .ok (.iaload, 1) := by decide +kernel
theorem dX12_storm_108 : decode cX12_storm 108 = .ok (.invokevirtual 262, 3) := by decide +kernel
theorem dX12_storm_111 : decode cX12_storm 111 = .ok (.putfield 259, 3) := by decide +kernel
theorem dX12_storm_114 : decode cX12_storm 114 = .ok (.aload_n 0, 1) := by decide +kernel
theorem dX12_storm_115 : decode cX12_storm 115 = .ok (.dup, 1) := by decide +kernel
theorem dX12_storm_116 : decode cX12_storm 116 = .ok (.getfield 256, 3) := by decide +kernel
theorem dX12_storm_119 : decode cX12_storm 119 = .ok (.iconst 1, 1) := by decide +kernel
theorem dX12_storm_120 : decode cX12_storm 120 = .ok (.iadd, 1) := by decide +kernel
theorem dX12_storm_121 : decode cX12_storm 121 = .ok (.putfield 256, 3) := by decide +kernel
theorem dX12_storm_124 : decode cX12_storm 124 = .ok (.goto (-78), 3) := by decide +kernel
theorem dX12_storm_127 : decode cX12_storm 127 = .ok (.aload_n 0, 1) := by decide +kernel
theorem dX12_storm_128 : decode cX12_storm 128 = .ok (.getfield 259, 3) := by decide +kernel
theorem dX12_storm_131 : decode cX12_storm 131 = .ok (.ireturn, 1) := by decide +kernel
theorem dX12_play_0 : decode cX12_play 0 = .ok (.aload_n 0, 1) := by decide +kernel
theorem dX12_play_1 : decode cX12_play 1 = .ok (.iconst 0, 1) := by decide +kernel
theorem dX12_play_2 : decode cX12_play 2 = .ok (.putfield 1, 3) := by decide +kernel
theorem dX12_play_5 : decode cX12_play 5 = .ok (.aload_n 0, 1) := by decide +kernel
theorem dX12_play_6 : decode cX12_play 6 = .ok (.getfield 256, 3) := by decide +kernel
theorem dX12_play_9 : decode cX12_play 9 = .ok (.ireturn, 1) := by decide +kernel
theorem dX12_played_0 : decode cX12_played 0 = .ok (.aload_n 0, 1) := by decide +kernel
theorem dX12_played_1 : decode cX12_played 1 = .ok (.iconst 0, 1) := by decide +kernel
theorem dX12_played_2 : decode cX12_played 2 = .ok (.putfield 1, 3) := by decide +kernel
theorem dX12_played_5 : decode cX12_played 5 = .ok (.iload_n 1, 1) := by decide +kernel
theorem dX12_played_6 : decode cX12_played 6 = .ok (.i2l, 1) := by decide +kernel
theorem dX12_played_7 : decode cX12_played 7 = .ok (.lconst 0, 1) := by decide +kernel
theorem dX12_played_8 : decode cX12_played 8 = .ok (.aload_n 0, 1) := by decide +kernel
theorem dX12_played_9 : decode cX12_played 9 = .ok (.getfield 256, 3) := by decide +kernel
theorem dX12_played_12 : decode cX12_played 12 = .ok (.iconst 1, 1) := by decide +kernel
theorem dX12_played_13 : decode cX12_played 13 = .ok (.isub, 1) := by decide +kernel
theorem dX12_played_14 : decode cX12_played 14 = .ok (.i2l, 1) := by decide +kernel
theorem dX12_played_15 : decode cX12_played 15 = .ok (.invokestatic 105, 3) := by decide +kernel
theorem dX12_played_18 : decode cX12_played 18 = .ok (.ifCond .eq 12, 3) := by decide +kernel
theorem dX12_played_21 : decode cX12_played 21 = .ok (.aload_n 0, 1) := by decide +kernel
theorem dX12_played_22 : decode cX12_played 22 = .ok (.getfield 94, 3) := by decide +kernel
theorem dX12_played_25 : decode cX12_played 25 = .ok (.iload_n 1, 1) := by decide +kernel
theorem dX12_played_26 : decode cX12_played 26 = .ok (.iaload, 1) := by decide +kernel
theorem dX12_played_27 : decode cX12_played 27 = .ok (.goto 5, 3) := by decide +kernel
theorem dX12_played_30 : decode cX12_played 30 = .ok (.bipush (-2), 2) := by decide +kernel
theorem dX12_played_32 : decode cX12_played 32 = .ok (.ireturn, 1) := by decide +kernel
theorem dX12_canGo_0 : decode cX12_canGo 0 = .ok (.aload_n 0, 1) := by decide +kernel
theorem dX12_canGo_1 : decode cX12_canGo 1 = .ok (.invokevirtual 100, 3) := by decide +kernel
theorem dX12_canGo_4 : decode cX12_canGo 4 = .ok (.iconst 0, 1) := by decide +kernel
theorem dX12_canGo_5 : decode cX12_canGo 5 = .ok (.istore_n 2, 1) := by decide +kernel
theorem dX12_canGo_6 : decode cX12_canGo 6 = .ok (.iload_n 1, 1) := by decide +kernel
theorem dX12_canGo_7 : decode cX12_canGo 7 = .ok (.aload_n 0, 1) := by decide +kernel
theorem dX12_canGo_8 : decode cX12_canGo 8 = .ok (.getfield 256, 3) := by decide +kernel
theorem dX12_canGo_11 : decode cX12_canGo 11 = .ok (.iconst 1, 1) := by decide +kernel
theorem dX12_canGo_12 : decode cX12_canGo 12 = .ok (.isub, 1) := by decide +kernel
theorem dX12_canGo_13 : decode cX12_canGo 13 = .ok (.if_icmp .ne 12, 3) := by decide +kernel
theorem dX12_canGo_16 : decode cX12_canGo 16 = .ok (.aload_n 0, 1) := by decide +kernel
theorem dX12_canGo_17 : decode cX12_canGo 17 = .ok (.getfield 256, 3) := by decide +kernel
theorem dX12_canGo_20 : decode cX12_canGo 20 = .ok (.iconst 2, 1) := by decide +kernel
theorem dX12_canGo_21 : decode cX12_canGo 21 = .ok (.isub, 1) := by decide +kernel
theorem dX12_canGo_22 : decode cX12_canGo 22 = .ok (.goto 9, 3) := by decide +kernel
theorem dX12_canGo_25 : decode cX12_canGo 25 = .ok (.aload_n 0, 1) := by decide +kernel
theorem dX12_canGo_26 : decode cX12_canGo 26 = .ok (.getfield 256, 3) := by decide +kernel
theorem dX12_canGo_29 : decode cX12_canGo 29 = .ok (.iconst 1, 1) := by decide +kernel
theorem dX12_canGo_30 : decode cX12_canGo 30 = .ok (.isub, 1) := by decide +kernel
theorem dX12_canGo_31 : decode cX12_canGo 31 = .ok (.istore_n 3, 1) := by decide +kernel
theorem dX12_canGo_32 : decode cX12_canGo 32 = .ok (.iconst 0, 1) := by decide +kernel
theorem dX12_canGo_33 : decode cX12_canGo 33 = .ok (.istore 4, 2) := by decide +kernel
theorem dX12_canGo_35 : decode cX12_canGo 35 = .ok (.iload 4, 2) := by decide +kernel
theorem dX12_canGo_37 : decode cX12_canGo 37 = .ok (.iload_n 3, 1) := by decide +kernel
theorem dX12_canGo_38 : decode cX12_canGo 38 = .ok (.if_icmp .gt 42, 3) := by decide +kernel
theorem dX12_canGo_41 : decode cX12_canGo 41 = .ok (.iload 4, 2) := by decide +kernel
theorem dX12_canGo_43 : decode cX12_canGo 43 = .ok (.iload_n 1, 1) := by decide +kernel
theorem dX12_canGo_44 : decode cX12_canGo 44 = .ok (.if_icmp .eq 30, 3) := by decide +kernel
theorem dX12_canGo_47 : decode cX12_canGo 47 = .ok (.aload_n 0, 1) := by decide +kernel
theorem dX12_canGo_48 : decode cX12_canGo 48 = .ok (.getfield 75, 3) := by decide +kernel
theorem dX12_canGo_51 : decode cX12_canGo 51 = .ok (.iconst 1, 1) := by decide +kernel
theorem dX12_canGo_52 : decode cX12_canGo 52 = .ok (.iaload, 1) := by decide +kernel
theorem dX12_canGo_53 : decode cX12_canGo 53 = .ok (.ifCond .ne 7, 3) := by decide +kernel
theorem dX12_canGo_56 : decode cX12_canGo 56 = .ok (.iload_n 2, 1) := by decide +kernel
theorem dX12_canGo_57 : decode cX12_canGo 57 = .ok (.ifCond .eq 5, 3) := by decide +kernel
theorem dX12_canGo_60 : decode cX12_canGo 60 = .ok (.iconst 0, 1) := by decide +kernel
theorem dX12_canGo_61 : decode cX12_canGo 61 = .ok (.ireturn, 1) := by decide +kernel
theorem dX12_canGo_62 : decode cX12_canGo 62 = .ok (.aload_n 0, 1) := by decide +kernel
theorem dX12_canGo_63 : decode cX12_canGo 63 = .ok (.aload_n 0, 1) := by decide +kernel
theorem dX12_canGo_64 : decode cX12_canGo 64 = .ok (.getfield 94, 3) := by decide +kernel
theorem dX12_canGo_67 : decode cX12_canGo 67 = .ok (.iload 4, 2) := by decide +kernel
theorem dX12_canGo_69 : decode cX12_canGo 69 = .ok (.iaload, 1) := by decide +kernel
theorem dX12_canGo_70 : decode cX12_canGo 70 = .ok (.invokevirtual 262, 3) := by decide +kernel
theorem dX12_canGo_73 : decode cX12_canGo 73 = .ok (.istore_n 2, 1) := by decide +kernel
theorem dX12_canGo_74 : decode cX12_canGo 74 = .ok (.iinc 4 1, 3) := by decide +kernel
theorem dX12_canGo_77 : decode cX12_canGo 77 = .ok (.goto (-42), 3) := by decide +kernel
theorem dX12_canGo_80 : decode cX12_canGo 80 = .ok (.iload_n 2, 1) := by decide +kernel
theorem dX12_canGo_81 : decode cX12_canGo 81 = .ok (.aload_n 0, 1) := by decide +kernel
theorem dX12_canGo_82 : decode cX12_canGo 82 = .ok (.getfield 259, 3) := by decide +kernel
theorem dX12_canGo_85 : decode cX12_canGo 85 = .ok (.if_icmp .ne 7, 3) := by decide +kernel
theorem dX12_canGo_88 : decode cX12_canGo 88 = .ok (.iconst 1, 1) := by decide +kernel
theorem dX12_canGo_89 : decode cX12_canGo 89 = .ok (.goto 4, 3) := by decide +kernel
theorem dX12_canGo_92 : decode cX12_canGo 92 = .ok (.iconst 0, 1) := by decide +kernel
theorem dX12_canGo_93 : decode cX12_canGo 93 = .ok (.ireturn, 1) := by decide +kernel
theorem dX12_shrink_0 : decode cX12_shrink 0 = .ok (.aload_n 0, 1) := by decide +kernel
theorem dX12_shrink_1 : decode cX12_shrink 1 = .ok (.iconst 0, 1) := by decide +kernel
theorem dX12_shrink_2 : decode cX12_shrink 2 = .ok (.putfield 1, 3) := by decide +kernel
theorem dX12_shrink_5 : decode cX12_shrink 5 = .ok (.aload_n 0, 1) := by decide +kernel
theorem dX12_shrink_6 : decode cX12_shrink 6 = .ok (.getfield 259, 3) := by decide +kernel
theorem dX12_shrink_9 : decode cX12_shrink 9 = .ok (.ifCond .ne 6, 3) := by decide +kernel
theorem dX12_shrink_12 : decode cX12_shrink 12 = .ok (.bipush (-4), 2) := by decide +kernel
theorem dX12_shrink_14 : decode cX12_shrink 14 = .ok (.ireturn, 1) := by decide +kernel
theorem dX12_shrink_15 : decode cX12_shrink 15 = .ok (.aload_n 0, 1) := by decide +kernel
theorem dX12_shrink_16 : decode cX12_shrink 16 = .ok (.iconst 0, 1) := by decide +kernel
theorem dX12_shrink_17 : decode cX12_shrink 17 = .ok (.iconst 5, 1) := by decide +kernel
theorem dX12_shrink_18 : decode cX12_shrink 18 = .ok (.invokevirtual 227, 3) := by decide +kernel
theorem dX12_shrink_21 : decode cX12_shrink 21 = .ok (.aload_n 0, 1) := by decide +kernel
theorem dX12_shrink_22 : decode cX12_shrink 22 = .ok (.getfield 78, 3) := by decide +kernel
theorem dX12_shrink_25 : decode cX12_shrink 25 = .ok (.iconst 1, 1) := by decide +kernel
theorem dX12_shrink_26 : decode cX12_shrink 26 = .ok (.baload, 1) := by decide +kernel
theorem dX12_shrink_27 : decode cX12_shrink 27 = .ok (.istore_n 1, 1) := by decide +kernel
theorem dX12_shrink_28 : decode cX12_shrink 28 = .ok (.aload_n 0, 1) := by decide +kernel
theorem dX12_shrink_29 : decode cX12_shrink 29 = .ok (.getfield 78, 3) := by decide +kernel
theorem dX12_shrink_32 : decode cX12_shrink 32 = .ok (.iconst 2, 1) := by decide +kernel
theorem dX12_shrink_33 : decode cX12_shrink 33 = .ok (.baload, 1) := by decide +kernel
theorem dX12_shrink_34 : decode cX12_shrink 34 = .ok (.istore_n 2, 1) := by decide +kernel
theorem dX12_shrink_35 : decode cX12_shrink 35 = .ok (.aload_n 0, 1) := by decide +kernel
theorem dX12_shrink_36 : decode cX12_shrink 36 = .ok (.getfield 78, 3) := by decide +kernel
theorem dX12_shrink_39 : decode cX12_shrink 39 = .ok (.iconst 3, 1) := by decide +kernel
theorem dX12_shrink_40 : decode cX12_shrink 40 = .ok (.baload, 1) := by decide +kernel
theorem dX12_shrink_41 : decode cX12_shrink 41 = .ok (.istore_n 3, 1) := by decide +kernel
theorem dX12_shrink_42 : decode cX12_shrink 42 = .ok (.aload_n 0, 1) := by decide +kernel
theorem dX12_shrink_43 : decode cX12_shrink 43 = .ok (.getfield 78, 3) := by decide +kernel
theorem dX12_shrink_46 : decode cX12_shrink 46 = .ok (.iconst 4, 1) := by decide +kernel
theorem dX12_shrink_47 : decode cX12_shrink 47 = .ok (.baload, 1) := by decide +kernel
theorem dX12_shrink_48 : decode cX12_shrink 48 = .ok (.istore 4, 2) := by decide +kernel
theorem dX12_shrink_50 : decode cX12_shrink 50 = .ok (.aload_n 0, 1) := by decide +kernel
theorem dX12_shrink_51 : decode cX12_shrink 51 = .ok (.iconst 0, 1) := by decide +kernel
theorem dX12_shrink_52 : decode cX12_shrink 52 = .ok (.putfield 71, 3) := by decide +kernel
theorem dX12_shrink_55 : decode cX12_shrink 55 = .ok (.iconst 1, 1) := by decide +kernel
theorem dX12_shrink_56 : decode cX12_shrink 56 = .ok (.istore 5, 2) := by decide +kernel
theorem dX12_shrink_58 : decode cX12_shrink 58 = .ok (.iload 5, 2) := by decide +kernel
theorem dX12_shrink_60 : decode cX12_shrink 60 = .ok (.ifCond .eq 117, 3) := by decide +kernel
theorem dX12_shrink_63 : decode cX12_shrink 63 = .ok (.iconst 0, 1) := by decide +kernel
theorem dX12_shrink_64 : decode cX12_shrink 64 = .ok (.istore 5, 2) := by decide +kernel
theorem dX12_shrink_66 : decode cX12_shrink 66 = .ok (.iconst 0, 1) := by decide +kernel
theorem dX12_shrink_67 : decode cX12_shrink 67 = .ok (.istore 6, 2) := by decide +kernel
theorem dX12_shrink_69 : decode cX12_shrink 69 = .ok (.iload 6, 2) := by decide +kernel
theorem dX12_shrink_71 : decode cX12_shrink 71 = .ok (.aload_n 0, 1) := by decide +kernel
theorem dX12_shrink_72 : decode cX12_shrink 72 = .ok (.getfield 256, 3) := by decide +kernel
theorem dX12_shrink_75 : decode cX12_shrink 75 = .ok (.if_icmp .ge 99, 3) := by decide +kernel
theorem dX12_shrink_78 : decode cX12_shrink 78 = .ok (.iload 5, 2) := by decide +kernel
theorem dX12_shrink_80 : decode cX12_shrink 80 = .ok (.ifCond .ne 94, 3) := by decide +kernel
theorem dX12_shrink_83 : decode cX12_shrink 83 = .ok (.aload_n 0, 1) := by decide +kernel
theorem dX12_shrink_84 : decode cX12_shrink 84 = .ok (.getfield 256, 3) := by decide +kernel
theorem dX12_shrink_87 : decode cX12_shrink 87 = .ok (.iconst 1, 1) := by decide +kernel
theorem dX12_shrink_88 : decode cX12_shrink 88 = .ok (.if_icmp .le 16, 3) := by decide +kernel
theorem dX12_shrink_91 : decode cX12_shrink 91 = .ok (.aload_n 0, 1) := by decide +kernel
theorem dX12_shrink_92 : decode cX12_shrink 92 = .ok (.iload 6, 2) := by decide +kernel
theorem dX12_shrink_94 : decode cX12_shrink 94 = .ok (.invokevirtual 265, 3) := by decide +kernel
theorem dX12_shrink_97 : decode cX12_shrink 97 = .ok (.ifCond .eq 7, 3) := by decide +kernel
theorem dX12_shrink_100 : decode cX12_shrink 100 = .ok (.iconst 1, 1) := by decide +kernel
theorem dX12_shrink_101 : decode cX12_shrink 101 = .ok (.goto 4, 3) := by decide +kernel
theorem dX12_shrink_104 : decode cX12_shrink 104 = .ok (.iconst 0, 1) := by decide +kernel
theorem dX12_shrink_105 : decode cX12_shrink 105 = .ok (.istore 5, 2) := by decide +kernel
theorem dX12_shrink_107 : decode cX12_shrink 107 = .ok (.iload 6, 2) := by decide +kernel
theorem dX12_shrink_109 : decode cX12_shrink 109 = .ok (.istore 7, 2) := by decide +kernel
theorem dX12_shrink_111 : decode cX12_shrink 111 = .ok (.iload 5, 2) := by decide +kernel
theorem dX12_shrink_113 : decode cX12_shrink 113 = .ok (.ifCond .eq 36, 3) := by decide +kernel
theorem dX12_shrink_116 : decode cX12_shrink 116 = .ok (.iload 7, 2) := by decide +kernel
theorem dX12_shrink_118 : decode cX12_shrink 118 = .ok (.aload_n 0, 1) := by decide +kernel
theorem dX12_shrink_119 : decode cX12_shrink 119 = .ok (.getfield 256, 3) := by decide +kernel
theorem dX12_shrink_122 : decode cX12_shrink 122 = .ok (.iconst 1, 1) := by decide +kernel
theorem dX12_shrink_123 : decode cX12_shrink 123 = .ok (.isub, 1) := by decide +kernel
theorem dX12_shrink_124 : decode cX12_shrink 124 = .ok (.if_icmp .ge 25, 3) := by decide +kernel
theorem dX12_shrink_127 : decode cX12_shrink 127 = .ok (.aload_n 0, 1) := by decide +kernel
theorem dX12_shrink_128 : decode cX12_shrink 128 = .ok (.getfield 94, 3) := by decide +kernel
theorem dX12_shrink_131 : decode cX12_shrink 131 = .ok (.iload 7, 2) := by decide +kernel
theorem dX12_shrink_133 : decode cX12_shrink 133 = .ok (.aload_n 0, 1) := by decide +kernel
theorem dX12_shrink_134 : decode cX12_shrink 134 = .ok (.getfield 94, 3) := by decide +kernel
theorem dX12_shrink_137 : decode cX12_shrink 137 = .ok (.iload 7, 2) := by decide +kernel
theorem dX12_shrink_139 : decode cX12_shrink 139 = .ok (.iconst 1, 1) := by decide +kernel
theorem dX12_shrink_140 : decode cX12_shrink 140 = .ok (.iadd, 1) := by decide +kernel
theorem dX12_shrink_141 : decode cX12_shrink 141 = .ok (.iaload, 1) := by decide +kernel
theorem dX12_shrink_142 : decode cX12_shrink 142 = .ok (.iastore, 1) := by decide +kernel
theorem dX12_shrink_143 : decode cX12_shrink 143 = .ok (.iinc 7 1, 3) := by decide +kernel
theorem dX12_shrink_146 : decode cX12_shrink 146 = .ok (.goto (-35), 3) := by decide +kernel
theorem dX12_shrink_149 : decode cX12_shrink 149 = .ok (.aload_n 0, 1) := by decide +kernel
theorem dX12_shrink_150 : decode cX12_shrink 150 = .ok (.dup, 1) := by decide +kernel
theorem dX12_shrink_151 : decode cX12_shrink 151 = .ok (.getfield 256, 3) := by decide +kernel
theorem dX12_shrink_154 : decode cX12_shrink 154 = .ok (.iload 5, 2) := by decide +kernel
theorem dX12_shrink_156 : decode cX12_shrink 156 = .ok (.ifCond .eq 7, 3) := by decide +kernel
theorem dX12_shrink_159 : decode cX12_shrink 159 = .ok (.iconst 1, 1) := by decide +kernel
theorem dX12_shrink_160 : decode cX12_shrink 160 = .ok (.goto 4, 3) := by decide +kernel
theorem dX12_shrink_163 : decode cX12_shrink 163 = .ok (.iconst 0, 1) := by decide +kernel
theorem dX12_shrink_164 : decode cX12_shrink 164 = .ok (.isub, 1) := by decide +kernel
theorem dX12_shrink_165 : decode cX12_shrink 165 = .ok (.putfield 256, 3) := by decide +kernel
theorem dX12_shrink_168 : decode cX12_shrink 168 = .ok (.iinc 6 1, 3) := by decide +kernel
theorem dX12_shrink_171 : decode cX12_shrink 171 = .ok (.goto (-102), 3) := by decide +kernel
theorem dX12_shrink_174 : decode cX12_shrink 174 = .ok (.goto (-116), 3) := by decide +kernel
theorem dX12_shrink_177 : decode cX12_shrink 177 = .ok (.aload_n 0, 1) := by decide +kernel
theorem dX12_shrink_178 : decode cX12_shrink 178 = .ok (.iconst 1, 1) := by decide +kernel
theorem dX12_shrink_179 : decode cX12_shrink 179 = .ok (.putfield 71, 3) := by decide +kernel
theorem dX12_shrink_182 : decode cX12_shrink 182 = .ok (.aload_n 0, 1) := by decide +kernel
theorem dX12_shrink_183 : decode cX12_shrink 183 = .ok (.iconst 5, 1) := by decide +kernel
theorem dX12_shrink_184 : decode cX12_shrink 184 = .ok (.iconst 0, 1) := by decide +kernel
theorem dX12_shrink_185 : decode cX12_shrink 185 = .ok (.invokevirtual 227, 3) := by decide +kernel
theorem dX12_shrink_188 : decode cX12_shrink 188 = .ok (.aload_n 0, 1) := by decide +kernel
theorem dX12_shrink_189 : decode cX12_shrink 189 = .ok (.getfield 78, 3) := by decide +kernel
theorem dX12_shrink_192 : decode cX12_shrink 192 = .ok (.iconst 1, 1) := by decide +kernel
theorem dX12_shrink_193 : decode cX12_shrink 193 = .ok (.iload_n 1, 1) := by decide +kernel
theorem dX12_shrink_194 : decode cX12_shrink 194 = .ok (.bastore, 1) := by decide +kernel
theorem dX12_shrink_195 : decode cX12_shrink 195 = .ok (.aload_n 0, 1) := by decide +kernel
theorem dX12_shrink_196 : decode cX12_shrink 196 = .ok (.getfield 78, 3) := by decide +kernel
theorem dX12_shrink_199 : decode cX12_shrink 199 = .ok (.iconst 2, 1) := by decide +kernel
theorem dX12_shrink_200 : decode cX12_shrink 200 = .ok (.iload_n 2, 1) := by decide +kernel
theorem dX12_shrink_201 : decode cX12_shrink 201 = .ok (.bastore, 1) := by decide +kernel
theorem dX12_shrink_202 : decode cX12_shrink 202 = .ok (.aload_n 0, 1) := by decide +kernel
theorem dX12_shrink_203 : decode cX12_shrink 203 = .ok (.getfield 78, 3) := by decide +kernel
theorem dX12_shrink_206 : decode cX12_shrink 206 = .ok (.iconst 3, 1) := by decide +kernel
theorem dX12_shrink_207 : decode cX12_shrink 207 = .ok (.iload_n 3, 1) := by decide +kernel
theorem dX12_shrink_208 : decode cX12_shrink 208 = .ok (.bastore, 1) := by decide +kernel
theorem dX12_shrink_209 : decode cX12_shrink 209 = .ok (.aload_n 0, 1) := by decide +kernel
theorem dX12_shrink_210 : decode cX12_shrink 210 = .ok (.getfield 78, 3) := by decide +kernel
theorem dX12_shrink_213 : decode cX12_shrink 213 = .ok (.iconst 4, 1) := by decide +kernel
theorem dX12_shrink_214 : decode cX12_shrink 214 = .ok (.iload 4, 2) := by decide +kernel
theorem dX12_shrink_216 : decode cX12_shrink 216 = .ok (.bastore, 1) := by decide +kernel
theorem dX12_shrink_217 : decode cX12_shrink 217 = .ok (.aload_n 0, 1) := by decide +kernel
theorem dX12_shrink_218 : decode cX12_shrink 218 = .ok (.getfield 256, 3) := by decide +kernel
theorem dX12_shrink_221 : decode cX12_shrink 221 = .ok (.ireturn, 1) := by decide +kernel
theorem dX12_state_0 : decode cX12_state 0 = .ok (.aload_n 0, 1) := by decide +kernel
theorem dX12_state_1 : decode cX12_state 1 = .ok (.iconst 0, 1) := by decide +kernel
theorem dX12_state_2 : decode cX12_state 2 = .ok (.putfield 1, 3) := by decide +kernel
theorem dX12_state_5 : decode cX12_state 5 = .ok (.iload_n 1, 1) := by decide +kernel
theorem dX12_state_6 : decode cX12_state 6 = .ok (.i2l, 1) := by decide +kernel
theorem dX12_state_7 : decode cX12_state 7 = .ok (.lconst 0, 1) := by decide +kernel
theorem dX12_state_8 : decode cX12_state 8 = .ok (.ldc2_w 268, 3) := by decide +kernel
theorem dX12_state_11 : decode cX12_state 11 = .ok (.invokestatic 105, 3) := by decide +kernel
theorem dX12_state_14 : decode cX12_state 14 = .ok (.ifCond .eq 12, 3) := by decide +kernel
theorem dX12_state_17 : decode cX12_state 17 = .ok (.aload_n 0, 1) := by decide +kernel
theorem dX12_state_18 : decode cX12_state 18 = .ok (.getfield 75, 3) := by decide +kernel
theorem dX12_state_21 : decode cX12_state 21 = .ok (.iload_n 1, 1) := by decide +kernel
theorem dX12_state_22 : decode cX12_state 22 = .ok (.iaload, 1) := by decide +kernel
theorem dX12_state_23 : decode cX12_state 23 = .ok (.goto 5, 3) := by decide +kernel
theorem dX12_state_26 : decode cX12_state 26 = .ok (.bipush (-3), 2) := by decide +kernel
theorem dX12_state_28 : decode cX12_state 28 = .ok (.ireturn, 1) := by decide +kernel
theorem dX12_done_0 : decode cX12_done 0 = .ok (.aload_n 0, 1) := by decide +kernel
theorem dX12_done_1 : decode cX12_done 1 = .ok (.iconst 0, 1) := by decide +kernel
theorem dX12_done_2 : decode cX12_done 2 = .ok (.putfield 1, 3) := by decide +kernel
theorem dX12_done_5 : decode cX12_done 5 = .ok (.iload_n 1, 1) := by decide +kernel
theorem dX12_done_6 : decode cX12_done 6 = .ok (.i2l, 1) := by decide +kernel
theorem dX12_done_7 : decode cX12_done 7 = .ok (.lconst 0, 1) := by decide +kernel
theorem dX12_done_8 : decode cX12_done 8 = .ok (.aload_n 0, 1) := by decide +kernel
theorem dX12_done_9 : decode cX12_done 9 = .ok (.getfield 159, 3) := by decide +kernel
theorem dX12_done_12 : decode cX12_done 12 = .ok (.iconst 1, 1) := by decide +kernel
theorem dX12_done_13 : decode cX12_done 13 = .ok (.isub, 1) := by decide +kernel
theorem dX12_done_14 : decode cX12_done 14 = .ok (.i2l, 1) := by decide +kernel
theorem dX12_done_15 : decode cX12_done 15 = .ok (.invokestatic 105, 3) := by decide +kernel
theorem dX12_done_18 : decode cX12_done 18 = .ok (.ifCond .eq 12, 3) := by decide +kernel
theorem dX12_done_21 : decode cX12_done 21 = .ok (.aload_n 0, 1) := by decide +kernel
theorem dX12_done_22 : decode cX12_done 22 = .ok (.getfield 56, 3) := by decide +kernel
theorem dX12_done_25 : decode cX12_done 25 = .ok (.iload_n 1, 1) := by decide +kernel
theorem dX12_done_26 : decode cX12_done 26 = .ok (.iaload, 1) := by decide +kernel
theorem dX12_done_27 : decode cX12_done 27 = .ok (.goto 5, 3) := by decide +kernel
theorem dX12_done_30 : decode cX12_done 30 = .ok (.bipush (-2), 2) := by decide +kernel
theorem dX12_done_32 : decode cX12_done 32 = .ok (.ireturn, 1) := by decide +kernel
theorem dX12_shown_0 : decode cX12_shown 0 = .ok (.aload_n 0, 1) := by decide +kernel
theorem dX12_shown_1 : decode cX12_shown 1 = .ok (.iconst 0, 1) := by decide +kernel
theorem dX12_shown_2 : decode cX12_shown 2 = .ok (.putfield 1, 3) := by decide +kernel
theorem dX12_shown_5 : decode cX12_shown 5 = .ok (.iload_n 1, 1) := by decide +kernel
theorem dX12_shown_6 : decode cX12_shown 6 = .ok (.i2l, 1) := by decide +kernel
theorem dX12_shown_7 : decode cX12_shown 7 = .ok (.ldc2_w 153, 3) := by decide +kernel
theorem dX12_shown_10 : decode cX12_shown 10 = .ok (.aload_n 0, 1) := by decide +kernel
theorem dX12_shown_11 : decode cX12_shown 11 = .ok (.getfield 138, 3) := by decide +kernel
theorem dX12_shown_14 : decode cX12_shown 14 = .ok (.iconst 1, 1) := by decide +kernel
theorem dX12_shown_15 : decode cX12_shown 15 = .ok (.isub, 1) := by decide +kernel
theorem dX12_shown_16 : decode cX12_shown 16 = .ok (.i2l, 1) := by decide +kernel
theorem dX12_shown_17 : decode cX12_shown 17 = .ok (.invokestatic 105, 3) := by decide +kernel
theorem dX12_shown_20 : decode cX12_shown 20 = .ok (.ifCond .eq 21, 3) := by decide +kernel
theorem dX12_shown_23 : decode cX12_shown 23 = .ok (.aload_n 0, 1) := by decide +kernel
theorem dX12_shown_24 : decode cX12_shown 24 = .ok (.getfield 59, 3) := by decide +kernel
theorem dX12_shown_27 : decode cX12_shown 27 = .ok (.iload_n 1, 1) := by decide +kernel
theorem dX12_shown_28 : decode cX12_shown 28 = .ok (.ifCond .ge 8, 3) := by decide +kernel
theorem dX12_shown_31 : decode cX12_shown 31 = .ok (.bipush 24, 2) := by decide +kernel
theorem dX12_shown_33 : decode cX12_shown 33 = .ok (.goto 4, 3) := by decide +kernel
theorem dX12_shown_36 : decode cX12_shown 36 = .ok (.iload_n 1, 1) := by decide +kernel
theorem dX12_shown_37 : decode cX12_shown 37 = .ok (.iaload, 1) := by decide +kernel
theorem dX12_shown_38 : decode cX12_shown 38 = .ok (.goto 5, 3) := by decide +kernel
theorem dX12_shown_41 : decode cX12_shown 41 = .ok (.bipush (-2), 2) := by decide +kernel
theorem dX12_shown_43 : decode cX12_shown 43 = .ok (.ireturn, 1) := by decide +kernel
theorem dX12_never_0 : decode cX12_never 0 = .ok (.aload_n 0, 1) := by decide +kernel
theorem dX12_never_1 : decode cX12_never 1 = .ok (.iconst 0, 1) := by decide +kernel
theorem dX12_never_2 : decode cX12_never 2 = .ok (.putfield 1, 3) := by decide +kernel
theorem dX12_never_5 : decode cX12_never 5 = .ok (.iconst 0, 1) := by decide +kernel
theorem dX12_never_6 : decode cX12_never 6 = .ok (.istore_n 2, 1) := by decide +kernel
theorem dX12_never_7 : decode cX12_never 7 = .ok (.iconst 0, 1) := by decide +kernel
theorem dX12_never_8 : decode cX12_never 8 = .ok (.istore_n 3, 1) := by decide +kernel
theorem dX12_never_9 : decode cX12_never 9 = .ok (.iload_n 3, 1) := by decide +kernel
theorem dX12_never_10 : decode cX12_never 10 = .ok (.aload_n 0, 1) := by decide +kernel
theorem dX12_never_11 : decode cX12_never 11 = .ok (.getfield 159, 3) := by decide +kernel
theorem dX12_never_14 : decode cX12_never 14 = .ok (.if_icmp .ge 28, 3) := by decide +kernel
theorem dX12_never_17 : decode cX12_never 17 = .ok (.aload_n 0, 1) := by decide +kernel
theorem dX12_never_18 : decode cX12_never 18 = .ok (.getfield 56, 3) := by decide +kernel
theorem dX12_never_21 : decode cX12_never 21 = .ok (.iload_n 3, 1) := by decide +kernel
theorem dX12_never_22 : decode cX12_never 22 = .ok (.iaload, 1) := by decide +kernel
theorem dX12_never_23 : decode cX12_never 23 = .ok (.ifCond .ne 13, 3) := by decide +kernel
theorem dX12_never_26 : decode cX12_never 26 = .ok (.iload_n 2, 1) := by decide +kernel
theorem dX12_never_27 : decode cX12_never 27 = .ok (.iload_n 1, 1) := by decide +kernel
theorem dX12_never_28 : decode cX12_never 28 = .ok (.if_icmp .ne 5, 3) := by decide +kernel
theorem dX12_never_31 : decode cX12_never 31 = .ok (.iload_n 3, 1) := by decide +kernel
theorem dX12_never_32 : decode cX12_never 32 = .ok (.ireturn, 1) := by decide +kernel
theorem dX12_never_33 : decode cX12_never 33 = .ok (.iinc 2 1, 3) := by decide +kernel
theorem dX12_never_36 : decode cX12_never 36 = .ok (.iinc 3 1, 3) := by decide +kernel
theorem dX12_never_39 : decode cX12_never 39 = .ok (.goto (-30), 3) := by decide +kernel
theorem dX12_never_42 : decode cX12_never 42 = .ok (.iconst (-1), 1) := by decide +kernel
theorem dX12_never_43 : decode cX12_never 43 = .ok (.ireturn, 1) := by decide +kernel
theorem dX12_share_0 : decode cX12_share 0 = .ok (.iconst 0, 1) := by decide +kernel
theorem dX12_share_1 : decode cX12_share 1 = .ok (.istore_n 1, 1) := by decide +kernel
theorem dX12_share_2 : decode cX12_share 2 = .ok (.iconst 0, 1) := by decide +kernel
theorem dX12_share_3 : decode cX12_share 3 = .ok (.istore_n 2, 1) := by decide +kernel
theorem dX12_share_4 : decode cX12_share 4 = .ok (.iconst 0, 1) := by decide +kernel
theorem dX12_share_5 : decode cX12_share 5 = .ok (.istore_n 3, 1) := by decide +kernel
theorem dX12_share_6 : decode cX12_share 6 = .ok (.iload_n 3, 1) := by decide +kernel
theorem dX12_share_7 : decode cX12_share 7 = .ok (.aload_n 0, 1) := by decide +kernel
theorem dX12_share_8 : decode cX12_share 8 = .ok (.getfield 159, 3) := by decide +kernel
theorem dX12_share_11 : decode cX12_share 11 = .ok (.if_icmp .ge 35, 3) := by decide +kernel
theorem dX12_share_14 : decode cX12_share 14 = .ok (.iload_n 1, 1) := by decide +kernel
theorem dX12_share_15 : decode cX12_share 15 = .ok (.aload_n 0, 1) := by decide +kernel
theorem dX12_share_16 : decode cX12_share 16 = .ok (.getfield 56, 3) := by decide +kernel
theorem dX12_share_19 : decode cX12_share 19 = .ok (.iload_n 3, 1) := by decide +kernel
theorem dX12_share_20 : decode cX12_share 20 = .ok (.iaload, 1) := by decide +kernel
theorem dX12_share_21 : decode cX12_share 21 = .ok (.iadd, 1) := by decide +kernel
theorem dX12_share_22 : decode cX12_share 22 = .ok (.istore_n 1, 1) := by decide +kernel
theorem dX12_share_23 : decode cX12_share 23 = .ok (.iload_n 2, 1) := by decide +kernel
theorem dX12_share_24 : decode cX12_share 24 = .ok (.aload_n 0, 1) := by decide +kernel
theorem dX12_share_25 : decode cX12_share 25 = .ok (.getfield 56, 3) := by decide +kernel
theorem dX12_share_28 : decode cX12_share 28 = .ok (.iload_n 3, 1) := by decide +kernel
theorem dX12_share_29 : decode cX12_share 29 = .ok (.iaload, 1) := by decide +kernel
theorem dX12_share_30 : decode cX12_share 30 = .ok (.ifCond .le 7, 3) := by decide +kernel
theorem dX12_share_33 : decode cX12_share 33 = .ok (.iconst 1, 1) := by decide +kernel
theorem dX12_share_34 : decode cX12_share 34 = .ok (.goto 4, 3) := by decide +kernel
theorem dX12_share_37 : decode cX12_share 37 = .ok (.iconst 0, 1) := by decide +kernel
theorem dX12_share_38 : decode cX12_share 38 = .ok (.iadd, 1) := by decide +kernel
theorem dX12_share_39 : decode cX12_share 39 = .ok (.istore_n 2, 1) := by decide +kernel
theorem dX12_share_40 : decode cX12_share 40 = .ok (.iinc 3 1, 3) := by decide +kernel
theorem dX12_share_43 : decode cX12_share 43 = .ok (.goto (-37), 3) := by decide +kernel
theorem dX12_share_46 : decode cX12_share 46 = .ok (.aload_n 0, 1) := by decide +kernel
theorem dX12_share_47 : decode cX12_share 47 = .ok (.iload_n 2, 1) := by decide +kernel
theorem dX12_share_48 : decode cX12_share 48 = .ok (.ifCond .ne 7, 3) := by decide +kernel
theorem dX12_share_51 : decode cX12_share 51 = .ok (.iconst 1, 1) := by decide +kernel
theorem dX12_share_52 : decode cX12_share 52 = .ok (.goto 4, 3) := by decide +kernel
theorem dX12_share_55 : decode cX12_share 55 = .ok (.iconst 0, 1) := by decide +kernel
theorem dX12_share_56 : decode cX12_share 56 = .ok (.putfield 1, 3) := by decide +kernel
theorem dX12_share_59 : decode cX12_share 59 = .ok (.iload_n 2, 1) := by decide +kernel
theorem dX12_share_60 : decode cX12_share 60 = .ok (.ifCond .ne 7, 3) := by decide +kernel
theorem dX12_share_63 : decode cX12_share 63 = .ok (.iconst 0, 1) := by decide +kernel
theorem dX12_share_64 : decode cX12_share 64 = .ok (.goto 6, 3) := by decide +kernel
theorem dX12_share_67 : decode cX12_share 67 = .ok (.iload_n 1, 1) := by decide +kernel
theorem dX12_share_68 : decode cX12_share 68 = .ok (.iload_n 2, 1) := by decide +kernel
theorem dX12_share_69 : decode cX12_share 69 = .ok (.idiv, 1) := by decide +kernel
theorem dX12_share_70 : decode cX12_share 70 = .ok (.ireturn, 1) := by decide +kernel
theorem dX12_told_0 : decode cX12_told 0 = .ok (.aload_n 0, 1) := by decide +kernel
theorem dX12_told_1 : decode cX12_told 1 = .ok (.iconst 0, 1) := by decide +kernel
theorem dX12_told_2 : decode cX12_told 2 = .ok (.putfield 1, 3) := by decide +kernel
theorem dX12_told_5 : decode cX12_told 5 = .ok (.iload_n 1, 1) := by decide +kernel
theorem dX12_told_6 : decode cX12_told 6 = .ok (.tableswitch 86 0 7 #[46, 51, 56, 61, 66, 71, 76, 81], 46) := by decide +kernel
theorem dX12_told_52 : decode cX12_told 52 = .ok (.aload_n 0, 1) := by decide +kernel
theorem dX12_told_53 : decode cX12_told 53 = .ok (.getfield 109, 3) := by decide +kernel
theorem dX12_told_56 : decode cX12_told 56 = .ok (.ireturn, 1) := by decide +kernel
theorem dX12_told_57 : decode cX12_told 57 = .ok (.aload_n 0, 1) := by decide +kernel
theorem dX12_told_58 : decode cX12_told 58 = .ok (.getfield 122, 3) := by decide +kernel
theorem dX12_told_61 : decode cX12_told 61 = .ok (.ireturn, 1) := by decide +kernel
theorem dX12_told_62 : decode cX12_told 62 = .ok (.aload_n 0, 1) := by decide +kernel
theorem dX12_told_63 : decode cX12_told 63 = .ok (.getfield 138, 3) := by decide +kernel
theorem dX12_told_66 : decode cX12_told 66 = .ok (.ireturn, 1) := by decide +kernel
theorem dX12_told_67 : decode cX12_told 67 = .ok (.aload_n 0, 1) := by decide +kernel
theorem dX12_told_68 : decode cX12_told 68 = .ok (.getfield 159, 3) := by decide +kernel
theorem dX12_told_71 : decode cX12_told 71 = .ok (.ireturn, 1) := by decide +kernel
theorem dX12_told_72 : decode cX12_told 72 = .ok (.aload_n 0, 1) := by decide +kernel
theorem dX12_told_73 : decode cX12_told 73 = .ok (.getfield 210, 3) := by decide +kernel
theorem dX12_told_76 : decode cX12_told 76 = .ok (.ireturn, 1) := by decide +kernel
theorem dX12_told_77 : decode cX12_told 77 = .ok (.aload_n 0, 1) := by decide +kernel
theorem dX12_told_78 : decode cX12_told 78 = .ok (.getfield 237, 3) := by decide +kernel
theorem dX12_told_81 : decode cX12_told 81 = .ok (.ireturn, 1) := by decide +kernel
theorem dX12_told_82 : decode cX12_told 82 = .ok (.aload_n 0, 1) := by decide +kernel
theorem dX12_told_83 : decode cX12_told 83 = .ok (.getfield 181, 3) := by decide +kernel
theorem dX12_told_86 : decode cX12_told 86 = .ok (.ireturn, 1) := by decide +kernel
theorem dX12_told_87 : decode cX12_told 87 = .ok (.aload_n 0, 1) := by decide +kernel
theorem dX12_told_88 : decode cX12_told 88 = .ok (.getfield 171, 3) := by decide +kernel
theorem dX12_told_91 : decode cX12_told 91 = .ok (.ireturn, 1) := by decide +kernel
theorem dX12_told_92 : decode cX12_told 92 = .ok (.bipush (-3), 2) := by decide +kernel
theorem dX12_told_94 : decode cX12_told 94 = .ok (.ireturn, 1) := by decide +kernel
theorem dJ9_max_7cf53_0 : decode cJ9_max_7cf53 0 = .ok (.iload_n 0, 1) := by decide +kernel
theorem dJ9_max_7cf53_1 : decode cJ9_max_7cf53 1 = .ok (.iload_n 1, 1) := by decide +kernel
theorem dJ9_max_7cf53_2 : decode cJ9_max_7cf53 2 = .ok (.if_icmp .lt 7, 3) := by decide +kernel
theorem dJ9_max_7cf53_5 : decode cJ9_max_7cf53 5 = .ok (.iload_n 0, 1) := by decide +kernel
theorem dJ9_max_7cf53_6 : decode cJ9_max_7cf53 6 = .ok (.goto 4, 3) := by decide +kernel
theorem dJ9_max_7cf53_9 : decode cJ9_max_7cf53 9 = .ok (.iload_n 1, 1) := by decide +kernel
theorem dJ9_max_7cf53_10 : decode cJ9_max_7cf53 10 = .ok (.ireturn, 1) := by decide +kernel
theorem dJ9_min_7cf53_0 : decode cJ9_min_7cf53 0 = .ok (.iload_n 0, 1) := by decide +kernel
theorem dJ9_min_7cf53_1 : decode cJ9_min_7cf53 1 = .ok (.iload_n 1, 1) := by decide +kernel
theorem dJ9_min_7cf53_2 : decode cJ9_min_7cf53 2 = .ok (.if_icmp .gt 7, 3) := by decide +kernel
theorem dJ9_min_7cf53_5 : decode cJ9_min_7cf53 5 = .ok (.iload_n 0, 1) := by decide +kernel
theorem dJ9_min_7cf53_6 : decode cJ9_min_7cf53 6 = .ok (.goto 4, 3) := by decide +kernel
theorem dJ9_min_7cf53_9 : decode cJ9_min_7cf53 9 = .ok (.iload_n 1, 1) := by decide +kernel
theorem dJ9_min_7cf53_10 : decode cJ9_min_7cf53 10 = .ok (.ireturn, 1) := by decide +kernel
theorem dL_cell_0 : decode cL_cell 0 = .ok (.iload_n 1, 1) := by decide +kernel
theorem dL_cell_1 : decode cL_cell 1 = .ok (.aload_n 0, 1) := by decide +kernel
theorem dL_cell_2 : decode cL_cell 2 = .ok (.arraylength, 1) := by decide +kernel
theorem dL_cell_3 : decode cL_cell 3 = .ok (.if_icmp .ge 9, 3) := by decide +kernel
theorem dL_cell_6 : decode cL_cell 6 = .ok (.aload_n 0, 1) := by decide +kernel
theorem dL_cell_7 : decode cL_cell 7 = .ok (.iload_n 1, 1) := by decide +kernel
theorem dL_cell_8 : decode cL_cell 8 = .ok (.iaload, 1) := by decide +kernel
theorem dL_cell_9 : decode cL_cell 9 = .ok (.goto 4, 3) := by decide +kernel
theorem dL_cell_12 : decode cL_cell 12 = .ok (.iconst 0, 1) := by decide +kernel
theorem dL_cell_13 : decode cL_cell 13 = .ok (.ireturn, 1) := by decide +kernel
theorem dL_share_0 : decode cL_share 0 = .ok (.aload_n 1, 1) := by decide +kernel
theorem dL_share_1 : decode cL_share 1 = .ok (.iconst 0, 1) := by decide +kernel
theorem dL_share_2 : decode cL_share 2 = .ok (.aload_n 0, 1) := by decide +kernel
theorem dL_share_3 : decode cL_share 3 = .ok (.invokevirtual 7, 3) := by decide +kernel
theorem dL_share_6 : decode cL_share 6 = .ok (.i2l, 1) := by decide +kernel
theorem dL_share_7 : decode cL_share 7 = .ok (.lastore, 1) := by decide +kernel
theorem dL_share_8 : decode cL_share 8 = .ok (.goto 6, 3) := by decide +kernel
theorem dL_share_11 : decode cL_share 11 = .ok (.astore_n 2, 1) := by decide +kernel
theorem dL_share_12 : decode cL_share 12 = .ok (.iconst 1, 1) := by decide +kernel
theorem dL_share_13 : decode cL_share 13 = .ok (.ireturn, 1) := by decide +kernel
theorem dL_share_14 : decode cL_share 14 = .ok (.iconst 0, 1) := by decide +kernel
theorem dL_share_15 : decode cL_share 15 = .ok (.ireturn, 1) := by decide +kernel
theorem dL_law_0 : decode cL_law 0 = .ok (.new 8, 3) := by decide +kernel
theorem dL_law_3 : decode cL_law 3 = .ok (.dup, 1) := by decide +kernel
theorem dL_law_4 : decode cL_law 4 = .ok (.aload_n 0, 1) := by decide +kernel
theorem dL_law_5 : decode cL_law 5 = .ok (.iconst 0, 1) := by decide +kernel
theorem dL_law_6 : decode cL_law 6 = .ok (.invokestatic 15, 3) := by decide +kernel
theorem dL_law_9 : decode cL_law 9 = .ok (.invokespecial 21, 3) := by decide +kernel
theorem dL_law_12 : decode cL_law 12 = .ok (.astore_n 1, 1) := by decide +kernel
theorem dL_law_13 : decode cL_law 13 = .ok (.new 24, 3) := by decide +kernel
theorem dL_law_16 : decode cL_law 16 = .ok (.dup, 1) := by decide +kernel
theorem dL_law_17 : decode cL_law 17 = .ok (.aload_n 0, 1) := by decide +kernel
theorem dL_law_18 : decode cL_law 18 = .ok (.iconst 0, 1) := by decide +kernel
theorem dL_law_19 : decode cL_law 19 = .ok (.invokestatic 15, 3) := by decide +kernel
theorem dL_law_22 : decode cL_law 22 = .ok (.invokespecial 26, 3) := by decide +kernel
theorem dL_law_25 : decode cL_law 25 = .ok (.astore_n 2, 1) := by decide +kernel
theorem dL_law_26 : decode cL_law 26 = .ok (.iconst 1, 1) := by decide +kernel
theorem dL_law_27 : decode cL_law 27 = .ok (.newarray .long, 2) := by decide +kernel
theorem dL_law_29 : decode cL_law 29 = .ok (.astore_n 3, 1) := by decide +kernel
theorem dL_law_30 : decode cL_law 30 = .ok (.iconst 1, 1) := by decide +kernel
theorem dL_law_31 : decode cL_law 31 = .ok (.istore 4, 2) := by decide +kernel
theorem dL_law_33 : decode cL_law 33 = .ok (.iload 4, 2) := by decide +kernel
theorem dL_law_35 : decode cL_law 35 = .ok (.aload_n 0, 1) := by decide +kernel
theorem dL_law_36 : decode cL_law 36 = .ok (.arraylength, 1) := by decide +kernel
theorem dL_law_37 : decode cL_law 37 = .ok (.bipush 10, 2) := by decide +kernel
theorem dL_law_39 : decode cL_law 39 = .ok (.isub, 1) := by decide +kernel
theorem dL_law_40 : decode cL_law 40 = .ok (.if_icmp .gt 765, 3) := by decide +kernel
theorem dL_law_43 : decode cL_law 43 = .ok (.aload_n 0, 1) := by decide +kernel
theorem dL_law_44 : decode cL_law 44 = .ok (.iload 4, 2) := by decide +kernel
theorem dL_law_46 : decode cL_law 46 = .ok (.iaload, 1) := by decide +kernel
theorem dL_law_47 : decode cL_law 47 = .ok (.bipush 31, 2) := by decide +kernel
theorem dL_law_49 : decode cL_law 49 = .ok (.iand, 1) := by decide +kernel
theorem dL_law_50 : decode cL_law 50 = .ok (.tableswitch 749 0 19 #[94, 163, 176, 189, 318, 379, 404, 417, 442, 479, 492, 529, 542, 567, 580, 605, 630, 655, 680, 724], 94) := by decide +kernel
theorem dL_law_144 : decode cL_law 144 = .ok (.aload_n 1, 1) := by decide +kernel
theorem dL_law_145 : decode cL_law 145 = .ok (.aload_n 0, 1) := by decide +kernel
theorem dL_law_146 : decode cL_law 146 = .ok (.iload 4, 2) := by decide +kernel
theorem dL_law_148 : decode cL_law 148 = .ok (.iconst 1, 1) := by decide +kernel
theorem dL_law_149 : decode cL_law 149 = .ok (.iadd, 1) := by decide +kernel
theorem dL_law_150 : decode cL_law 150 = .ok (.iaload, 1) := by decide +kernel
theorem dL_law_151 : decode cL_law 151 = .ok (.i2l, 1) := by decide +kernel
theorem dL_law_152 : decode cL_law 152 = .ok (.bipush 32, 2) := by decide +kernel
theorem dL_law_154 : decode cL_law 154 = .ok (.lshl, 1) := by decide +kernel
theorem dL_law_155 : decode cL_law 155 = .ok (.aload_n 0, 1) := by decide +kernel
theorem dL_law_156 : decode cL_law 156 = .ok (.iload 4, 2) := by decide +kernel
theorem dL_law_158 : decode cL_law 158 = .ok (.iconst 2, 1) := by decide +kernel
theorem dL_law_159 : decode cL_law 159 = .ok (.iadd, 1) := by decide +kernel
theorem dL_law_160 : decode cL_law 160 = .ok (.iaload, 1) := by decide +kernel
theorem dL_law_161 : decode cL_law 161 = .ok (.i2l, 1) := by decide +kernel
theorem dL_law_162 : decode cL_law 162 = .ok (.ldc2_w 27, 3) := by decide +kernel
theorem dL_law_165 : decode cL_law 165 = .ok (.land, 1) := by decide +kernel
theorem dL_law_166 : decode cL_law 166 = .ok (.lor, 1) := by decide +kernel
theorem dL_law_167 : decode cL_law 167 = .ok (.aload_n 0, 1) := by decide +kernel
theorem dL_law_168 : decode cL_law 168 = .ok (.iload 4, 2) := by decide +kernel
theorem dL_law_170 : decode cL_law 170 = .ok (.iconst 3, 1) := by decide +kernel
theorem dL_law_171 : decode cL_law 171 = .ok (.iadd, 1) := by decide +kernel
theorem dL_law_172 : decode cL_law 172 = .ok (.iaload, 1) := by decide +kernel
theorem dL_law_173 : decode cL_law 173 = .ok (.invokevirtual 29, 3) := by decide +kernel
theorem dL_law_176 : decode cL_law 176 = .ok (.aload_n 2, 1) := by decide +kernel
theorem dL_law_177 : decode cL_law 177 = .ok (.aload_n 0, 1) := by decide +kernel
theorem dL_law_178 : decode cL_law 178 = .ok (.iload 4, 2) := by decide +kernel
theorem dL_law_180 : decode cL_law 180 = .ok (.iconst 1, 1) := by decide +kernel
theorem dL_law_181 : decode cL_law 181 = .ok (.iadd, 1) := by decide +kernel
theorem dL_law_182 : decode cL_law 182 = .ok (.iaload, 1) := by decide +kernel
theorem dL_law_183 : decode cL_law 183 = .ok (.i2l, 1) := by decide +kernel
theorem dL_law_184 : decode cL_law 184 = .ok (.bipush 32, 2) := by decide +kernel
theorem dL_law_186 : decode cL_law 186 = .ok (.lshl, 1) := by decide +kernel
theorem dL_law_187 : decode cL_law 187 = .ok (.aload_n 0, 1) := by decide +kernel
theorem dL_law_188 : decode cL_law 188 = .ok (.iload 4, 2) := by decide +kernel
theorem dL_law_190 : decode cL_law 190 = .ok (.iconst 2, 1) := by decide +kernel
theorem dL_law_191 : decode cL_law 191 = .ok (.iadd, 1) := by decide +kernel
theorem dL_law_192 : decode cL_law 192 = .ok (.iaload, 1) := by decide +kernel
theorem dL_law_193 : decode cL_law 193 = .ok (.i2l, 1) := by decide +kernel
theorem dL_law_194 : decode cL_law 194 = .ok (.ldc2_w 27, 3) := by decide +kernel
theorem dL_law_197 : decode cL_law 197 = .ok (.land, 1) := by decide +kernel
theorem dL_law_198 : decode cL_law 198 = .ok (.lor, 1) := by decide +kernel
theorem dL_law_199 : decode cL_law 199 = .ok (.aload_n 0, 1) := by decide +kernel
theorem dL_law_200 : decode cL_law 200 = .ok (.iload 4, 2) := by decide +kernel
theorem dL_law_202 : decode cL_law 202 = .ok (.iconst 3, 1) := by decide +kernel
theorem dL_law_203 : decode cL_law 203 = .ok (.iadd, 1) := by decide +kernel
theorem dL_law_204 : decode cL_law 204 = .ok (.iaload, 1) := by decide +kernel
theorem dL_law_205 : decode cL_law 205 = .ok (.invokevirtual 33, 3) := by decide +kernel
theorem dL_law_208 : decode cL_law 208 = .ok (.if_icmp .eq 591, 3) := by decide +kernel
theorem dL_law_211 : decode cL_law 211 = .ok (.iconst 0, 1) := by decide +kernel
theorem dL_law_212 : decode cL_law 212 = .ok (.ireturn, 1) := by decide +kernel
theorem dL_law_213 : decode cL_law 213 = .ok (.aload_n 1, 1) := by decide +kernel
theorem dL_law_214 : decode cL_law 214 = .ok (.invokevirtual 34, 3) := by decide +kernel
theorem dL_law_217 : decode cL_law 217 = .ok (.aload_n 2, 1) := by decide +kernel
theorem dL_law_218 : decode cL_law 218 = .ok (.invokevirtual 37, 3) := by decide +kernel
theorem dL_law_221 : decode cL_law 221 = .ok (.if_icmp .eq 578, 3) := by decide +kernel
theorem dL_law_224 : decode cL_law 224 = .ok (.iconst 0, 1) := by decide +kernel
theorem dL_law_225 : decode cL_law 225 = .ok (.ireturn, 1) := by decide +kernel
theorem dL_law_226 : decode cL_law 226 = .ok (.aload_n 1, 1) := by decide +kernel
theorem dL_law_227 : decode cL_law 227 = .ok (.invokevirtual 38, 3) := by decide +kernel
theorem dL_law_230 : decode cL_law 230 = .ok (.aload_n 2, 1) := by decide +kernel
theorem dL_law_231 : decode cL_law 231 = .ok (.invokevirtual 41, 3) := by decide +kernel
theorem dL_law_234 : decode cL_law 234 = .ok (.if_icmp .eq 565, 3) := by decide +kernel
theorem dL_law_237 : decode cL_law 237 = .ok (.iconst 0, 1) := by decide +kernel
theorem dL_law_238 : decode cL_law 238 = .ok (.ireturn, 1) := by decide +kernel
theorem dL_law_239 : decode cL_law 239 = .ok (.aload_n 1, 1) := by decide +kernel
theorem dL_law_240 : decode cL_law 240 = .ok (.aload_n 0, 1) := by decide +kernel
theorem dL_law_241 : decode cL_law 241 = .ok (.iload 4, 2) := by decide +kernel
theorem dL_law_243 : decode cL_law 243 = .ok (.iconst 1, 1) := by decide +kernel
theorem dL_law_244 : decode cL_law 244 = .ok (.iadd, 1) := by decide +kernel
theorem dL_law_245 : decode cL_law 245 = .ok (.iaload, 1) := by decide +kernel
theorem dL_law_246 : decode cL_law 246 = .ok (.aload_n 0, 1) := by decide +kernel
theorem dL_law_247 : decode cL_law 247 = .ok (.iload 4, 2) := by decide +kernel
theorem dL_law_249 : decode cL_law 249 = .ok (.iconst 2, 1) := by decide +kernel
theorem dL_law_250 : decode cL_law 250 = .ok (.iadd, 1) := by decide +kernel
theorem dL_law_251 : decode cL_law 251 = .ok (.iaload, 1) := by decide +kernel
theorem dL_law_252 : decode cL_law 252 = .ok (.aload_n 0, 1) := by decide +kernel
theorem dL_law_253 : decode cL_law 253 = .ok (.iload 4, 2) := by decide +kernel
theorem dL_law_255 : decode cL_law 255 = .ok (.iconst 3, 1) := by decide +kernel
theorem dL_law_256 : decode cL_law 256 = .ok (.iadd, 1) := by decide +kernel
theorem dL_law_257 : decode cL_law 257 = .ok (.iaload, 1) := by decide +kernel
theorem dL_law_258 : decode cL_law 258 = .ok (.aload_n 0, 1) := by decide +kernel
theorem dL_law_259 : decode cL_law 259 = .ok (.iload 4, 2) := by decide +kernel
theorem dL_law_261 : decode cL_law 261 = .ok (.iconst 4, 1) := by decide +kernel
theorem dL_law_262 : decode cL_law 262 = .ok (.iadd, 1) := by decide +kernel
theorem dL_law_263 : decode cL_law 263 = .ok (.iaload, 1) := by decide +kernel
theorem dL_law_264 : decode cL_law 264 = .ok (.aload_n 0, 1) := by decide +kernel
theorem dL_law_265 : decode cL_law 265 = .ok (.iload 4, 2) := by decide +kernel
theorem dL_law_267 : decode cL_law 267 = .ok (.iconst 5, 1) := by decide +kernel
theorem dL_law_268 : decode cL_law 268 = .ok (.iadd, 1) := by decide +kernel
theorem dL_law_269 : decode cL_law 269 = .ok (.iaload, 1) := by decide +kernel
theorem dL_law_270 : decode cL_law 270 = .ok (.aload_n 0, 1) := by decide +kernel
theorem dL_law_271 : decode cL_law 271 = .ok (.iload 4, 2) := by decide +kernel
theorem dL_law_273 : decode cL_law 273 = .ok (.bipush 6, 2) := by decide +kernel
theorem dL_law_275 : decode cL_law 275 = .ok (.iadd, 1) := by decide +kernel
theorem dL_law_276 : decode cL_law 276 = .ok (.iaload, 1) := by decide +kernel
theorem dL_law_277 : decode cL_law 277 = .ok (.aload_n 0, 1) := by decide +kernel
theorem dL_law_278 : decode cL_law 278 = .ok (.iload 4, 2) := by decide +kernel
theorem dL_law_280 : decode cL_law 280 = .ok (.bipush 7, 2) := by decide +kernel
theorem dL_law_282 : decode cL_law 282 = .ok (.iadd, 1) := by decide +kernel
theorem dL_law_283 : decode cL_law 283 = .ok (.iaload, 1) := by decide +kernel
theorem dL_law_284 : decode cL_law 284 = .ok (.aload_n 0, 1) := by decide +kernel
theorem dL_law_285 : decode cL_law 285 = .ok (.iload 4, 2) := by decide +kernel
theorem dL_law_287 : decode cL_law 287 = .ok (.bipush 8, 2) := by decide +kernel
theorem dL_law_289 : decode cL_law 289 = .ok (.iadd, 1) := by decide +kernel
theorem dL_law_290 : decode cL_law 290 = .ok (.iaload, 1) := by decide +kernel
theorem dL_law_291 : decode cL_law 291 = .ok (.aload_n 0, 1) := by decide +kernel
theorem dL_law_292 : decode cL_law 292 = .ok (.iload 4, 2) := by decide +kernel
theorem dL_law_294 : decode cL_law 294 = .ok (.bipush 9, 2) := by decide +kernel
theorem dL_law_296 : decode cL_law 296 = .ok (.iadd, 1) := by decide +kernel
theorem dL_law_297 : decode cL_law 297 = .ok (.iaload, 1) := by decide +kernel
theorem dL_law_298 : decode cL_law 298 = .ok (.invokevirtual 42, 3) := by decide +kernel
theorem dL_law_301 : decode cL_law 301 = .ok (.aload_n 2, 1) := by decide +kernel
theorem dL_law_302 : decode cL_law 302 = .ok (.aload_n 0, 1) := by decide +kernel
theorem dL_law_303 : decode cL_law 303 = .ok (.iload 4, 2) := by decide +kernel
theorem dL_law_305 : decode cL_law 305 = .ok (.iconst 1, 1) := by decide +kernel
theorem dL_law_306 : decode cL_law 306 = .ok (.iadd, 1) := by decide +kernel
theorem dL_law_307 : decode cL_law 307 = .ok (.iaload, 1) := by decide +kernel
theorem dL_law_308 : decode cL_law 308 = .ok (.aload_n 0, 1) := by decide +kernel
theorem dL_law_309 : decode cL_law 309 = .ok (.iload 4, 2) := by decide +kernel
theorem dL_law_311 : decode cL_law 311 = .ok (.iconst 2, 1) := by decide +kernel
theorem dL_law_312 : decode cL_law 312 = .ok (.iadd, 1) := by decide +kernel
theorem dL_law_313 : decode cL_law 313 = .ok (.iaload, 1) := by decide +kernel
theorem dL_law_314 : decode cL_law 314 = .ok (.aload_n 0, 1) := by decide +kernel
theorem dL_law_315 : decode cL_law 315 = .ok (.iload 4, 2) := by decide +kernel
theorem dL_law_317 : decode cL_law 317 = .ok (.iconst 3, 1) := by decide +kernel
theorem dL_law_318 : decode cL_law 318 = .ok (.iadd, 1) := by decide +kernel
theorem dL_law_319 : decode cL_law 319 = .ok (.iaload, 1) := by decide +kernel
theorem dL_law_320 : decode cL_law 320 = .ok (.aload_n 0, 1) := by decide +kernel
theorem dL_law_321 : decode cL_law 321 = .ok (.iload 4, 2) := by decide +kernel
theorem dL_law_323 : decode cL_law 323 = .ok (.iconst 4, 1) := by decide +kernel
theorem dL_law_324 : decode cL_law 324 = .ok (.iadd, 1) := by decide +kernel
theorem dL_law_325 : decode cL_law 325 = .ok (.iaload, 1) := by decide +kernel
theorem dL_law_326 : decode cL_law 326 = .ok (.aload_n 0, 1) := by decide +kernel
theorem dL_law_327 : decode cL_law 327 = .ok (.iload 4, 2) := by decide +kernel
theorem dL_law_329 : decode cL_law 329 = .ok (.iconst 5, 1) := by decide +kernel
theorem dL_law_330 : decode cL_law 330 = .ok (.iadd, 1) := by decide +kernel
theorem dL_law_331 : decode cL_law 331 = .ok (.iaload, 1) := by decide +kernel
theorem dL_law_332 : decode cL_law 332 = .ok (.aload_n 0, 1) := by decide +kernel
theorem dL_law_333 : decode cL_law 333 = .ok (.iload 4, 2) := by decide +kernel
theorem dL_law_335 : decode cL_law 335 = .ok (.bipush 6, 2) := by decide +kernel
theorem dL_law_337 : decode cL_law 337 = .ok (.iadd, 1) := by decide +kernel
theorem dL_law_338 : decode cL_law 338 = .ok (.iaload, 1) := by decide +kernel
theorem dL_law_339 : decode cL_law 339 = .ok (.aload_n 0, 1) := by decide +kernel
theorem dL_law_340 : decode cL_law 340 = .ok (.iload 4, 2) := by decide +kernel
theorem dL_law_342 : decode cL_law 342 = .ok (.bipush 7, 2) := by decide +kernel
theorem dL_law_344 : decode cL_law 344 = .ok (.iadd, 1) := by decide +kernel
theorem dL_law_345 : decode cL_law 345 = .ok (.iaload, 1) := by decide +kernel
theorem dL_law_346 : decode cL_law 346 = .ok (.aload_n 0, 1) := by decide +kernel
theorem dL_law_347 : decode cL_law 347 = .ok (.iload 4, 2) := by decide +kernel
theorem dL_law_349 : decode cL_law 349 = .ok (.bipush 8, 2) := by decide +kernel
theorem dL_law_351 : decode cL_law 351 = .ok (.iadd, 1) := by decide +kernel
theorem dL_law_352 : decode cL_law 352 = .ok (.iaload, 1) := by decide +kernel
theorem dL_law_353 : decode cL_law 353 = .ok (.aload_n 0, 1) := by decide +kernel
theorem dL_law_354 : decode cL_law 354 = .ok (.iload 4, 2) := by decide +kernel
theorem dL_law_356 : decode cL_law 356 = .ok (.bipush 9, 2) := by decide +kernel
theorem dL_law_358 : decode cL_law 358 = .ok (.iadd, 1) := by decide +kernel
theorem dL_law_359 : decode cL_law 359 = .ok (.iaload, 1) := by decide +kernel
theorem dL_law_360 : decode cL_law 360 = .ok (.invokevirtual 46, 3) := by decide +kernel
theorem dL_law_363 : decode cL_law 363 = .ok (.if_icmp .eq 436, 3) := by decide +kernel
theorem dL_law_366 : decode cL_law 366 = .ok (.iconst 0, 1) := by decide +kernel
theorem dL_law_367 : decode cL_law 367 = .ok (.ireturn, 1) := by decide +kernel
theorem dL_law_368 : decode cL_law 368 = .ok (.aload_n 1, 1) := by decide +kernel
theorem dL_law_369 : decode cL_law 369 = .ok (.aload_n 0, 1) := by decide +kernel
theorem dL_law_370 : decode cL_law 370 = .ok (.iload 4, 2) := by decide +kernel
theorem dL_law_372 : decode cL_law 372 = .ok (.iconst 1, 1) := by decide +kernel
theorem dL_law_373 : decode cL_law 373 = .ok (.iadd, 1) := by decide +kernel
theorem dL_law_374 : decode cL_law 374 = .ok (.iaload, 1) := by decide +kernel
theorem dL_law_375 : decode cL_law 375 = .ok (.aload_n 0, 1) := by decide +kernel
theorem dL_law_376 : decode cL_law 376 = .ok (.iload 4, 2) := by decide +kernel
theorem dL_law_378 : decode cL_law 378 = .ok (.iconst 2, 1) := by decide +kernel
theorem dL_law_379 : decode cL_law 379 = .ok (.iadd, 1) := by decide +kernel
theorem dL_law_380 : decode cL_law 380 = .ok (.iaload, 1) := by decide +kernel
theorem dL_law_381 : decode cL_law 381 = .ok (.aload_n 0, 1) := by decide +kernel
theorem dL_law_382 : decode cL_law 382 = .ok (.iload 4, 2) := by decide +kernel
theorem dL_law_384 : decode cL_law 384 = .ok (.iconst 3, 1) := by decide +kernel
theorem dL_law_385 : decode cL_law 385 = .ok (.iadd, 1) := by decide +kernel
theorem dL_law_386 : decode cL_law 386 = .ok (.iaload, 1) := by decide +kernel
theorem dL_law_387 : decode cL_law 387 = .ok (.aload_n 0, 1) := by decide +kernel
theorem dL_law_388 : decode cL_law 388 = .ok (.iload 4, 2) := by decide +kernel
theorem dL_law_390 : decode cL_law 390 = .ok (.iconst 4, 1) := by decide +kernel
theorem dL_law_391 : decode cL_law 391 = .ok (.iadd, 1) := by decide +kernel
theorem dL_law_392 : decode cL_law 392 = .ok (.iaload, 1) := by decide +kernel
theorem dL_law_393 : decode cL_law 393 = .ok (.invokevirtual 47, 3) := by decide +kernel
theorem dL_law_396 : decode cL_law 396 = .ok (.aload_n 2, 1) := by decide +kernel
theorem dL_law_397 : decode cL_law 397 = .ok (.aload_n 0, 1) := by decide +kernel
theorem dL_law_398 : decode cL_law 398 = .ok (.iload 4, 2) := by decide +kernel
theorem dL_law_400 : decode cL_law 400 = .ok (.iconst 1, 1) := by decide +kernel
theorem dL_law_401 : decode cL_law 401 = .ok (.iadd, 1) := by decide +kernel
theorem dL_law_402 : decode cL_law 402 = .ok (.iaload, 1) := by decide +kernel
theorem dL_law_403 : decode cL_law 403 = .ok (.aload_n 0, 1) := by decide +kernel
theorem dL_law_404 : decode cL_law 404 = .ok (.iload 4, 2) := by decide +kernel
theorem dL_law_406 : decode cL_law 406 = .ok (.iconst 2, 1) := by decide +kernel
theorem dL_law_407 : decode cL_law 407 = .ok (.iadd, 1) := by decide +kernel
theorem dL_law_408 : decode cL_law 408 = .ok (.iaload, 1) := by decide +kernel
theorem dL_law_409 : decode cL_law 409 = .ok (.aload_n 0, 1) := by decide +kernel
theorem dL_law_410 : decode cL_law 410 = .ok (.iload 4, 2) := by decide +kernel
theorem dL_law_412 : decode cL_law 412 = .ok (.iconst 3, 1) := by decide +kernel
theorem dL_law_413 : decode cL_law 413 = .ok (.iadd, 1) := by decide +kernel
theorem dL_law_414 : decode cL_law 414 = .ok (.iaload, 1) := by decide +kernel
theorem dL_law_415 : decode cL_law 415 = .ok (.aload_n 0, 1) := by decide +kernel
theorem dL_law_416 : decode cL_law 416 = .ok (.iload 4, 2) := by decide +kernel
theorem dL_law_418 : decode cL_law 418 = .ok (.iconst 4, 1) := by decide +kernel
theorem dL_law_419 : decode cL_law 419 = .ok (.iadd, 1) := by decide +kernel
theorem dL_law_420 : decode cL_law 420 = .ok (.iaload, 1) := by decide +kernel
theorem dL_law_421 : decode cL_law 421 = .ok (.invokevirtual 51, 3) := by decide +kernel
theorem dL_law_424 : decode cL_law 424 = .ok (.if_icmp .eq 375, 3) := by decide +kernel
theorem dL_law_427 : decode cL_law 427 = .ok (.iconst 0, 1) := by decide +kernel
theorem dL_law_428 : decode cL_law 428 = .ok (.ireturn, 1) := by decide +kernel
theorem dL_law_429 : decode cL_law 429 = .ok (.aload_n 1, 1) := by decide +kernel
theorem dL_law_430 : decode cL_law 430 = .ok (.aload_n 0, 1) := by decide +kernel
theorem dL_law_431 : decode cL_law 431 = .ok (.iload 4, 2) := by decide +kernel
theorem dL_law_433 : decode cL_law 433 = .ok (.iconst 1, 1) := by decide +kernel
theorem dL_law_434 : decode cL_law 434 = .ok (.iadd, 1) := by decide +kernel
theorem dL_law_435 : decode cL_law 435 = .ok (.iaload, 1) := by decide +kernel
theorem dL_law_436 : decode cL_law 436 = .ok (.invokevirtual 52, 3) := by decide +kernel
theorem dL_law_439 : decode cL_law 439 = .ok (.aload_n 2, 1) := by decide +kernel
theorem dL_law_440 : decode cL_law 440 = .ok (.aload_n 0, 1) := by decide +kernel
theorem dL_law_441 : decode cL_law 441 = .ok (.iload 4, 2) := by decide +kernel
theorem dL_law_443 : decode cL_law 443 = .ok (.iconst 1, 1) := by decide +kernel
theorem dL_law_444 : decode cL_law 444 = .ok (.iadd, 1) := by decide +kernel
theorem dL_law_445 : decode cL_law 445 = .ok (.iaload, 1) := by decide +kernel
theorem dL_law_446 : decode cL_law 446 = .ok (.invokevirtual 56, 3) := by decide +kernel
theorem dL_law_449 : decode cL_law 449 = .ok (.if_icmp .eq 350, 3) := by decide +kernel
theorem dL_law_452 : decode cL_law 452 = .ok (.iconst 0, 1) := by decide +kernel
theorem dL_law_453 : decode cL_law 453 = .ok (.ireturn, 1) := by decide +kernel
theorem dL_law_454 : decode cL_law 454 = .ok (.aload_n 1, 1) := by decide +kernel
theorem dL_law_455 : decode cL_law 455 = .ok (.invokevirtual 57, 3) := by decide +kernel
theorem dL_law_458 : decode cL_law 458 = .ok (.aload_n 2, 1) := by decide +kernel
theorem dL_law_459 : decode cL_law 459 = .ok (.invokevirtual 60, 3) := by decide +kernel
theorem dL_law_462 : decode cL_law 462 = .ok (.if_icmp .eq 337, 3) := by decide +kernel
theorem dL_law_465 : decode cL_law 465 = .ok (.iconst 0, 1) := by decide +kernel
theorem dL_law_466 : decode cL_law 466 = .ok (.ireturn, 1) := by decide +kernel
theorem dL_law_467 : decode cL_law 467 = .ok (.aload_n 1, 1) := by decide +kernel
theorem dL_law_468 : decode cL_law 468 = .ok (.aload_n 0, 1) := by decide +kernel
theorem dL_law_469 : decode cL_law 469 = .ok (.iload 4, 2) := by decide +kernel
theorem dL_law_471 : decode cL_law 471 = .ok (.iconst 1, 1) := by decide +kernel
theorem dL_law_472 : decode cL_law 472 = .ok (.iadd, 1) := by decide +kernel
theorem dL_law_473 : decode cL_law 473 = .ok (.iaload, 1) := by decide +kernel
theorem dL_law_474 : decode cL_law 474 = .ok (.invokevirtual 61, 3) := by decide +kernel
theorem dL_law_477 : decode cL_law 477 = .ok (.aload_n 2, 1) := by decide +kernel
theorem dL_law_478 : decode cL_law 478 = .ok (.aload_n 0, 1) := by decide +kernel
theorem dL_law_479 : decode cL_law 479 = .ok (.iload 4, 2) := by decide +kernel
theorem dL_law_481 : decode cL_law 481 = .ok (.iconst 1, 1) := by decide +kernel
theorem dL_law_482 : decode cL_law 482 = .ok (.iadd, 1) := by decide +kernel
theorem dL_law_483 : decode cL_law 483 = .ok (.iaload, 1) := by decide +kernel
theorem dL_law_484 : decode cL_law 484 = .ok (.invokevirtual 64, 3) := by decide +kernel
theorem dL_law_487 : decode cL_law 487 = .ok (.if_icmp .eq 312, 3) := by decide +kernel
theorem dL_law_490 : decode cL_law 490 = .ok (.iconst 0, 1) := by decide +kernel
theorem dL_law_491 : decode cL_law 491 = .ok (.ireturn, 1) := by decide +kernel
theorem dL_law_492 : decode cL_law 492 = .ok (.aload_n 1, 1) := by decide +kernel
theorem dL_law_493 : decode cL_law 493 = .ok (.aload_n 0, 1) := by decide +kernel
theorem dL_law_494 : decode cL_law 494 = .ok (.iload 4, 2) := by decide +kernel
theorem dL_law_496 : decode cL_law 496 = .ok (.iconst 1, 1) := by decide +kernel
theorem dL_law_497 : decode cL_law 497 = .ok (.iadd, 1) := by decide +kernel
theorem dL_law_498 : decode cL_law 498 = .ok (.iaload, 1) := by decide +kernel
theorem dL_law_499 : decode cL_law 499 = .ok (.aload_n 0, 1) := by decide +kernel
theorem dL_law_500 : decode cL_law 500 = .ok (.iload 4, 2) := by decide +kernel
theorem dL_law_502 : decode cL_law 502 = .ok (.iconst 2, 1) := by decide +kernel
theorem dL_law_503 : decode cL_law 503 = .ok (.iadd, 1) := by decide +kernel
theorem dL_law_504 : decode cL_law 504 = .ok (.iaload, 1) := by decide +kernel
theorem dL_law_505 : decode cL_law 505 = .ok (.invokevirtual 65, 3) := by decide +kernel
theorem dL_law_508 : decode cL_law 508 = .ok (.aload_n 2, 1) := by decide +kernel
theorem dL_law_509 : decode cL_law 509 = .ok (.aload_n 0, 1) := by decide +kernel
theorem dL_law_510 : decode cL_law 510 = .ok (.iload 4, 2) := by decide +kernel
theorem dL_law_512 : decode cL_law 512 = .ok (.iconst 1, 1) := by decide +kernel
theorem dL_law_513 : decode cL_law 513 = .ok (.iadd, 1) := by decide +kernel
theorem dL_law_514 : decode cL_law 514 = .ok (.iaload, 1) := by decide +kernel
theorem dL_law_515 : decode cL_law 515 = .ok (.aload_n 0, 1) := by decide +kernel
theorem dL_law_516 : decode cL_law 516 = .ok (.iload 4, 2) := by decide +kernel
theorem dL_law_518 : decode cL_law 518 = .ok (.iconst 2, 1) := by decide +kernel
theorem dL_law_519 : decode cL_law 519 = .ok (.iadd, 1) := by decide +kernel
theorem dL_law_520 : decode cL_law 520 = .ok (.iaload, 1) := by decide +kernel
theorem dL_law_521 : decode cL_law 521 = .ok (.invokevirtual 69, 3) := by decide +kernel
theorem dL_law_524 : decode cL_law 524 = .ok (.if_icmp .eq 275, 3) := by decide +kernel
theorem dL_law_527 : decode cL_law 527 = .ok (.iconst 0, 1) := by decide +kernel
theorem dL_law_528 : decode cL_law 528 = .ok (.ireturn, 1) := by decide +kernel
theorem dL_law_529 : decode cL_law 529 = .ok (.aload_n 1, 1) := by decide +kernel
theorem dL_law_530 : decode cL_law 530 = .ok (.invokevirtual 70, 3) := by decide +kernel
theorem dL_law_533 : decode cL_law 533 = .ok (.aload_n 2, 1) := by decide +kernel
theorem dL_law_534 : decode cL_law 534 = .ok (.invokevirtual 73, 3) := by decide +kernel
theorem dL_law_537 : decode cL_law 537 = .ok (.if_icmp .eq 262, 3) := by decide +kernel
theorem dL_law_540 : decode cL_law 540 = .ok (.iconst 0, 1) := by decide +kernel
theorem dL_law_541 : decode cL_law 541 = .ok (.ireturn, 1) := by decide +kernel
theorem dL_law_542 : decode cL_law 542 = .ok (.aload_n 1, 1) := by decide +kernel
theorem dL_law_543 : decode cL_law 543 = .ok (.aload_n 0, 1) := by decide +kernel
theorem dL_law_544 : decode cL_law 544 = .ok (.iload 4, 2) := by decide +kernel
theorem dL_law_546 : decode cL_law 546 = .ok (.iconst 1, 1) := by decide +kernel
theorem dL_law_547 : decode cL_law 547 = .ok (.iadd, 1) := by decide +kernel
theorem dL_law_548 : decode cL_law 548 = .ok (.iaload, 1) := by decide +kernel
theorem dL_law_549 : decode cL_law 549 = .ok (.aload_n 0, 1) := by decide +kernel
theorem dL_law_550 : decode cL_law 550 = .ok (.iload 4, 2) := by decide +kernel
theorem dL_law_552 : decode cL_law 552 = .ok (.iconst 2, 1) := by decide +kernel
theorem dL_law_553 : decode cL_law 553 = .ok (.iadd, 1) := by decide +kernel
theorem dL_law_554 : decode cL_law 554 = .ok (.iaload, 1) := by decide +kernel
theorem dL_law_555 : decode cL_law 555 = .ok (.invokevirtual 74, 3) := by decide +kernel
theorem dL_law_558 : decode cL_law 558 = .ok (.aload_n 2, 1) := by decide +kernel
theorem dL_law_559 : decode cL_law 559 = .ok (.aload_n 0, 1) := by decide +kernel
theorem dL_law_560 : decode cL_law 560 = .ok (.iload 4, 2) := by decide +kernel
theorem dL_law_562 : decode cL_law 562 = .ok (.iconst 1, 1) := by decide +kernel
theorem dL_law_563 : decode cL_law 563 = .ok (.iadd, 1) := by decide +kernel
theorem dL_law_564 : decode cL_law 564 = .ok (.iaload, 1) := by decide +kernel
theorem dL_law_565 : decode cL_law 565 = .ok (.aload_n 0, 1) := by decide +kernel
theorem dL_law_566 : decode cL_law 566 = .ok (.iload 4, 2) := by decide +kernel
theorem dL_law_568 : decode cL_law 568 = .ok (.iconst 2, 1) := by decide +kernel
theorem dL_law_569 : decode cL_law 569 = .ok (.iadd, 1) := by decide +kernel
theorem dL_law_570 : decode cL_law 570 = .ok (.iaload, 1) := by decide +kernel
theorem dL_law_571 : decode cL_law 571 = .ok (.invokevirtual 77, 3) := by decide +kernel
theorem dL_law_574 : decode cL_law 574 = .ok (.if_icmp .eq 225, 3) := by decide +kernel
theorem dL_law_577 : decode cL_law 577 = .ok (.iconst 0, 1) := by decide +kernel
theorem dL_law_578 : decode cL_law 578 = .ok (.ireturn, 1) := by decide +kernel
theorem dL_law_579 : decode cL_law 579 = .ok (.aload_n 1, 1) := by decide +kernel
theorem dL_law_580 : decode cL_law 580 = .ok (.invokevirtual 78, 3) := by decide +kernel
theorem dL_law_583 : decode cL_law 583 = .ok (.aload_n 2, 1) := by decide +kernel
theorem dL_law_584 : decode cL_law 584 = .ok (.invokevirtual 81, 3) := by decide +kernel
theorem dL_law_587 : decode cL_law 587 = .ok (.if_icmp .eq 212, 3) := by decide +kernel
theorem dL_law_590 : decode cL_law 590 = .ok (.iconst 0, 1) := by decide +kernel
theorem dL_law_591 : decode cL_law 591 = .ok (.ireturn, 1) := by decide +kernel
theorem dL_law_592 : decode cL_law 592 = .ok (.aload_n 1, 1) := by decide +kernel
theorem dL_law_593 : decode cL_law 593 = .ok (.aload_n 0, 1) := by decide +kernel
theorem dL_law_594 : decode cL_law 594 = .ok (.iload 4, 2) := by decide +kernel
theorem dL_law_596 : decode cL_law 596 = .ok (.iconst 1, 1) := by decide +kernel
theorem dL_law_597 : decode cL_law 597 = .ok (.iadd, 1) := by decide +kernel
theorem dL_law_598 : decode cL_law 598 = .ok (.iaload, 1) := by decide +kernel
theorem dL_law_599 : decode cL_law 599 = .ok (.invokevirtual 82, 3) := by decide +kernel
theorem dL_law_602 : decode cL_law 602 = .ok (.aload_n 2, 1) := by decide +kernel
theorem dL_law_603 : decode cL_law 603 = .ok (.aload_n 0, 1) := by decide +kernel
theorem dL_law_604 : decode cL_law 604 = .ok (.iload 4, 2) := by decide +kernel
theorem dL_law_606 : decode cL_law 606 = .ok (.iconst 1, 1) := by decide +kernel
theorem dL_law_607 : decode cL_law 607 = .ok (.iadd, 1) := by decide +kernel
theorem dL_law_608 : decode cL_law 608 = .ok (.iaload, 1) := by decide +kernel
theorem dL_law_609 : decode cL_law 609 = .ok (.invokevirtual 85, 3) := by decide +kernel
theorem dL_law_612 : decode cL_law 612 = .ok (.if_icmp .eq 187, 3) := by decide +kernel
theorem dL_law_615 : decode cL_law 615 = .ok (.iconst 0, 1) := by decide +kernel
theorem dL_law_616 : decode cL_law 616 = .ok (.ireturn, 1) := by decide +kernel
theorem dL_law_617 : decode cL_law 617 = .ok (.aload_n 1, 1) := by decide +kernel
theorem dL_law_618 : decode cL_law 618 = .ok (.invokevirtual 86, 3) := by decide +kernel
theorem dL_law_621 : decode cL_law 621 = .ok (.aload_n 2, 1) := by decide +kernel
theorem dL_law_622 : decode cL_law 622 = .ok (.invokevirtual 89, 3) := by decide +kernel
theorem dL_law_625 : decode cL_law 625 = .ok (.if_icmp .eq 174, 3) := by decide +kernel
theorem dL_law_628 : decode cL_law 628 = .ok (.iconst 0, 1) := by decide +kernel
theorem dL_law_629 : decode cL_law 629 = .ok (.ireturn, 1) := by decide +kernel
theorem dL_law_630 : decode cL_law 630 = .ok (.aload_n 1, 1) := by decide +kernel
theorem dL_law_631 : decode cL_law 631 = .ok (.aload_n 0, 1) := by decide +kernel
theorem dL_law_632 : decode cL_law 632 = .ok (.iload 4, 2) := by decide +kernel
theorem dL_law_634 : decode cL_law 634 = .ok (.iconst 1, 1) := by decide +kernel
theorem dL_law_635 : decode cL_law 635 = .ok (.iadd, 1) := by decide +kernel
theorem dL_law_636 : decode cL_law 636 = .ok (.iaload, 1) := by decide +kernel
theorem dL_law_637 : decode cL_law 637 = .ok (.invokevirtual 90, 3) := by decide +kernel
theorem dL_law_640 : decode cL_law 640 = .ok (.aload_n 2, 1) := by decide +kernel
theorem dL_law_641 : decode cL_law 641 = .ok (.aload_n 0, 1) := by decide +kernel
theorem dL_law_642 : decode cL_law 642 = .ok (.iload 4, 2) := by decide +kernel
theorem dL_law_644 : decode cL_law 644 = .ok (.iconst 1, 1) := by decide +kernel
theorem dL_law_645 : decode cL_law 645 = .ok (.iadd, 1) := by decide +kernel
theorem dL_law_646 : decode cL_law 646 = .ok (.iaload, 1) := by decide +kernel
theorem dL_law_647 : decode cL_law 647 = .ok (.invokevirtual 93, 3) := by decide +kernel
theorem dL_law_650 : decode cL_law 650 = .ok (.if_icmp .eq 149, 3) := by decide +kernel
theorem dL_law_653 : decode cL_law 653 = .ok (.iconst 0, 1) := by decide +kernel
theorem dL_law_654 : decode cL_law 654 = .ok (.ireturn, 1) := by decide +kernel
theorem dL_law_655 : decode cL_law 655 = .ok (.aload_n 1, 1) := by decide +kernel
theorem dL_law_656 : decode cL_law 656 = .ok (.aload_n 0, 1) := by decide +kernel
theorem dL_law_657 : decode cL_law 657 = .ok (.iload 4, 2) := by decide +kernel
theorem dL_law_659 : decode cL_law 659 = .ok (.iconst 1, 1) := by decide +kernel
theorem dL_law_660 : decode cL_law 660 = .ok (.iadd, 1) := by decide +kernel
theorem dL_law_661 : decode cL_law 661 = .ok (.iaload, 1) := by decide +kernel
theorem dL_law_662 : decode cL_law 662 = .ok (.invokevirtual 94, 3) := by decide +kernel
theorem dL_law_665 : decode cL_law 665 = .ok (.aload_n 2, 1) := by decide +kernel
theorem dL_law_666 : decode cL_law 666 = .ok (.aload_n 0, 1) := by decide +kernel
theorem dL_law_667 : decode cL_law 667 = .ok (.iload 4, 2) := by decide +kernel
theorem dL_law_669 : decode cL_law 669 = .ok (.iconst 1, 1) := by decide +kernel
theorem dL_law_670 : decode cL_law 670 = .ok (.iadd, 1) := by decide +kernel
theorem dL_law_671 : decode cL_law 671 = .ok (.iaload, 1) := by decide +kernel
theorem dL_law_672 : decode cL_law 672 = .ok (.invokevirtual 97, 3) := by decide +kernel
theorem dL_law_675 : decode cL_law 675 = .ok (.if_icmp .eq 124, 3) := by decide +kernel
theorem dL_law_678 : decode cL_law 678 = .ok (.iconst 0, 1) := by decide +kernel
theorem dL_law_679 : decode cL_law 679 = .ok (.ireturn, 1) := by decide +kernel
theorem dL_law_680 : decode cL_law 680 = .ok (.aload_n 1, 1) := by decide +kernel
theorem dL_law_681 : decode cL_law 681 = .ok (.aload_n 0, 1) := by decide +kernel
theorem dL_law_682 : decode cL_law 682 = .ok (.iload 4, 2) := by decide +kernel
theorem dL_law_684 : decode cL_law 684 = .ok (.iconst 1, 1) := by decide +kernel
theorem dL_law_685 : decode cL_law 685 = .ok (.iadd, 1) := by decide +kernel
theorem dL_law_686 : decode cL_law 686 = .ok (.iaload, 1) := by decide +kernel
theorem dL_law_687 : decode cL_law 687 = .ok (.invokevirtual 98, 3) := by decide +kernel
theorem dL_law_690 : decode cL_law 690 = .ok (.aload_n 2, 1) := by decide +kernel
theorem dL_law_691 : decode cL_law 691 = .ok (.aload_n 0, 1) := by decide +kernel
theorem dL_law_692 : decode cL_law 692 = .ok (.iload 4, 2) := by decide +kernel
theorem dL_law_694 : decode cL_law 694 = .ok (.iconst 1, 1) := by decide +kernel
theorem dL_law_695 : decode cL_law 695 = .ok (.iadd, 1) := by decide +kernel
theorem dL_law_696 : decode cL_law 696 = .ok (.iaload, 1) := by decide +kernel
theorem dL_law_697 : decode cL_law 697 = .ok (.invokevirtual 101, 3) := by decide +kernel
theorem dL_law_700 : decode cL_law 700 = .ok (.if_icmp .eq 99, 3) := by decide +kernel
theorem dL_law_703 : decode cL_law 703 = .ok (.iconst 0, 1) := by decide +kernel
theorem dL_law_704 : decode cL_law 704 = .ok (.ireturn, 1) := by decide +kernel
theorem dL_law_705 : decode cL_law 705 = .ok (.aload_n 1, 1) := by decide +kernel
theorem dL_law_706 : decode cL_law 706 = .ok (.aload_n 0, 1) := by decide +kernel
theorem dL_law_707 : decode cL_law 707 = .ok (.iload 4, 2) := by decide +kernel
theorem dL_law_709 : decode cL_law 709 = .ok (.iconst 1, 1) := by decide +kernel
theorem dL_law_710 : decode cL_law 710 = .ok (.iadd, 1) := by decide +kernel
theorem dL_law_711 : decode cL_law 711 = .ok (.iaload, 1) := by decide +kernel
theorem dL_law_712 : decode cL_law 712 = .ok (.invokevirtual 102, 3) := by decide +kernel
theorem dL_law_715 : decode cL_law 715 = .ok (.aload_n 2, 1) := by decide +kernel
theorem dL_law_716 : decode cL_law 716 = .ok (.aload_n 0, 1) := by decide +kernel
theorem dL_law_717 : decode cL_law 717 = .ok (.iload 4, 2) := by decide +kernel
theorem dL_law_719 : decode cL_law 719 = .ok (.iconst 1, 1) := by decide +kernel
theorem dL_law_720 : decode cL_law 720 = .ok (.iadd, 1) := by decide +kernel
theorem dL_law_721 : decode cL_law 721 = .ok (.iaload, 1) := by decide +kernel
theorem dL_law_722 : decode cL_law 722 = .ok (.invokevirtual 105, 3) := by decide +kernel
theorem dL_law_725 : decode cL_law 725 = .ok (.if_icmp .eq 74, 3) := by decide +kernel
theorem dL_law_728 : decode cL_law 728 = .ok (.iconst 0, 1) := by decide +kernel
theorem dL_law_729 : decode cL_law 729 = .ok (.ireturn, 1) := by decide +kernel
theorem dL_law_730 : decode cL_law 730 = .ok (.aload_n 1, 1) := by decide +kernel
theorem dL_law_731 : decode cL_law 731 = .ok (.aload_n 3, 1) := by decide +kernel
theorem dL_law_732 : decode cL_law 732 = .ok (.invokestatic 106, 3) := by decide +kernel
theorem dL_law_735 : decode cL_law 735 = .ok (.istore 5, 2) := by decide +kernel
theorem dL_law_737 : decode cL_law 737 = .ok (.aload_n 2, 1) := by decide +kernel
theorem dL_law_738 : decode cL_law 738 = .ok (.invokevirtual 109, 3) := by decide +kernel
theorem dL_law_741 : decode cL_law 741 = .ok (.istore 6, 2) := by decide +kernel
theorem dL_law_743 : decode cL_law 743 = .ok (.aload_n 2, 1) := by decide +kernel
theorem dL_law_744 : decode cL_law 744 = .ok (.invokevirtual 110, 3) := by decide +kernel
theorem dL_law_747 : decode cL_law 747 = .ok (.iload 5, 2) := by decide +kernel
theorem dL_law_749 : decode cL_law 749 = .ok (.if_icmp .eq 5, 3) := by decide +kernel
theorem dL_law_752 : decode cL_law 752 = .ok (.iconst 0, 1) := by decide +kernel
theorem dL_law_753 : decode cL_law 753 = .ok (.ireturn, 1) := by decide +kernel
theorem dL_law_754 : decode cL_law 754 = .ok (.iload 5, 2) := by decide +kernel
theorem dL_law_756 : decode cL_law 756 = .ok (.ifCond .ne 15, 3) := by decide +kernel
theorem dL_law_759 : decode cL_law 759 = .ok (.aload_n 3, 1) := by decide +kernel
theorem dL_law_760 : decode cL_law 760 = .ok (.iconst 0, 1) := by decide +kernel
theorem dL_law_761 : decode cL_law 761 = .ok (.laload, 1) := by decide +kernel
theorem dL_law_762 : decode cL_law 762 = .ok (.iload 6, 2) := by decide +kernel
theorem dL_law_764 : decode cL_law 764 = .ok (.i2l, 1) := by decide +kernel
theorem dL_law_765 : decode cL_law 765 = .ok (.lcmp, 1) := by decide +kernel
theorem dL_law_766 : decode cL_law 766 = .ok (.ifCond .eq 5, 3) := by decide +kernel
theorem dL_law_769 : decode cL_law 769 = .ok (.iconst 0, 1) := by decide +kernel
theorem dL_law_770 : decode cL_law 770 = .ok (.ireturn, 1) := by decide +kernel
theorem dL_law_771 : decode cL_law 771 = .ok (.goto 28, 3) := by decide +kernel
theorem dL_law_774 : decode cL_law 774 = .ok (.aload_n 1, 1) := by decide +kernel
theorem dL_law_775 : decode cL_law 775 = .ok (.aload_n 0, 1) := by decide +kernel
theorem dL_law_776 : decode cL_law 776 = .ok (.iload 4, 2) := by decide +kernel
theorem dL_law_778 : decode cL_law 778 = .ok (.iconst 1, 1) := by decide +kernel
theorem dL_law_779 : decode cL_law 779 = .ok (.iadd, 1) := by decide +kernel
theorem dL_law_780 : decode cL_law 780 = .ok (.iaload, 1) := by decide +kernel
theorem dL_law_781 : decode cL_law 781 = .ok (.invokevirtual 113, 3) := by decide +kernel
theorem dL_law_784 : decode cL_law 784 = .ok (.aload_n 2, 1) := by decide +kernel
theorem dL_law_785 : decode cL_law 785 = .ok (.aload_n 0, 1) := by decide +kernel
theorem dL_law_786 : decode cL_law 786 = .ok (.iload 4, 2) := by decide +kernel
theorem dL_law_788 : decode cL_law 788 = .ok (.iconst 1, 1) := by decide +kernel
theorem dL_law_789 : decode cL_law 789 = .ok (.iadd, 1) := by decide +kernel
theorem dL_law_790 : decode cL_law 790 = .ok (.iaload, 1) := by decide +kernel
theorem dL_law_791 : decode cL_law 791 = .ok (.invokevirtual 116, 3) := by decide +kernel
theorem dL_law_794 : decode cL_law 794 = .ok (.if_icmp .eq 5, 3) := by decide +kernel
theorem dL_law_797 : decode cL_law 797 = .ok (.iconst 0, 1) := by decide +kernel
theorem dL_law_798 : decode cL_law 798 = .ok (.ireturn, 1) := by decide +kernel
theorem dL_law_799 : decode cL_law 799 = .ok (.iinc 4 10, 3) := by decide +kernel
theorem dL_law_802 : decode cL_law 802 = .ok (.goto (-769), 3) := by decide +kernel
theorem dL_law_805 : decode cL_law 805 = .ok (.iconst 1, 1) := by decide +kernel
theorem dL_law_806 : decode cL_law 806 = .ok (.ireturn, 1) := by decide +kernel
