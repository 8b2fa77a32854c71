theorem dX0_init_0 : decode cX0_init 0 = .ok (.aload_n 0, 1) := by decide +kernel
theorem dX0_init_1 : decode cX0_init 1 = .ok (.invokespecial 3, 3) := by decide +kernel
theorem dX0_init_4 : decode cX0_init 4 = .ok (.aload_n 0, 1) := by decide +kernel
theorem dX0_init_5 : decode cX0_init 5 = .ok (.iload_n 1, 1) := by decide +kernel
theorem dX0_init_6 : decode cX0_init 6 = .ok (.ifCond .ge 7, 3) := by decide +kernel
theorem dX0_init_9 : decode cX0_init 9 = .ok (.iconst 0, 1) := by decide +kernel
theorem dX0_init_10 : decode cX0_init 10 = .ok (.goto 4, 3) := by decide +kernel
theorem dX0_init_13 : decode cX0_init 13 = .ok (.iload_n 1, 1) := by decide +kernel
theorem dX0_init_14 : decode cX0_init 14 = .ok (.newarray .byte, 2) := by decide +kernel
theorem dX0_init_16 : decode cX0_init 16 = .ok (.putfield 9, 3) := by decide +kernel
theorem dX0_init_19 : decode cX0_init 19 = .ok (.return_, 1) := by decide +kernel
theorem dX0_at_0 : decode cX0_at 0 = .ok (.iload_n 1, 1) := by decide +kernel
theorem dX0_at_1 : decode cX0_at 1 = .ok (.ifCond .lt 20, 3) := by decide +kernel
theorem dX0_at_4 : decode cX0_at 4 = .ok (.iload_n 1, 1) := by decide +kernel
theorem dX0_at_5 : decode cX0_at 5 = .ok (.aload_n 0, 1) := by decide +kernel
theorem dX0_at_6 : decode cX0_at 6 = .ok (.getfield 15, 3) := by decide +kernel
theorem dX0_at_9 : decode cX0_at 9 = .ok (.if_icmp .ge 12, 3) := by decide +kernel
theorem dX0_at_12 : decode cX0_at 12 = .ok (.iload_n 1, 1) := by decide +kernel
theorem dX0_at_13 : decode cX0_at 13 = .ok (.aload_n 0, 1) := by decide +kernel
theorem dX0_at_14 : decode cX0_at 14 = .ok (.getfield 9, 3) := by decide +kernel
theorem dX0_at_17 : decode cX0_at 17 = .ok (.arraylength, 1) := by decide +kernel
theorem dX0_at_18 : decode cX0_at 18 = .ok (.if_icmp .lt 7, 3) := by decide +kernel
theorem dX0_at_21 : decode cX0_at 21 = .ok (.iconst (-1), 1) := by decide +kernel
theorem dX0_at_22 : decode cX0_at 22 = .ok (.goto 13, 3) := by decide +kernel
theorem dX0_at_25 : decode cX0_at 25 = .ok (.aload_n 0, 1) := by decide +kernel
theorem dX0_at_26 : decode cX0_at 26 = .ok (.getfield 9, 3) := by decide +kernel
theorem dX0_at_29 : decode cX0_at 29 = .ok (.iload_n 1, 1) := by decide +kernel
theorem dX0_at_30 : decode cX0_at 30 = .ok (.baload, 1) := by decide +kernel
theorem dX0_at_31 : decode cX0_at 31 = .ok (.sipush 255, 3) := by decide +kernel
theorem dX0_at_34 : decode cX0_at 34 = .ok (.iand, 1) := by decide +kernel
theorem dX0_at_35 : decode cX0_at 35 = .ok (.ireturn, 1) := by decide +kernel
theorem dX0_append_0 : decode cX0_append 0 = .ok (.aload_n 0, 1) := by decide +kernel
theorem dX0_append_1 : decode cX0_append 1 = .ok (.getfield 15, 3) := by decide +kernel
theorem dX0_append_4 : decode cX0_append 4 = .ok (.ifCond .lt 15, 3) := by decide +kernel
theorem dX0_append_7 : decode cX0_append 7 = .ok (.aload_n 0, 1) := by decide +kernel
theorem dX0_append_8 : decode cX0_append 8 = .ok (.getfield 15, 3) := by decide +kernel
theorem dX0_append_11 : decode cX0_append 11 = .ok (.aload_n 0, 1) := by decide +kernel
theorem dX0_append_12 : decode cX0_append 12 = .ok (.getfield 9, 3) := by decide +kernel
theorem dX0_append_15 : decode cX0_append 15 = .ok (.arraylength, 1) := by decide +kernel
theorem dX0_append_16 : decode cX0_append 16 = .ok (.if_icmp .lt 4, 3) := by decide +kernel
theorem dX0_append_19 : decode cX0_append 19 = .ok (.return_, 1) := by decide +kernel
theorem dX0_append_20 : decode cX0_append 20 = .ok (.aload_n 0, 1) := by decide +kernel
theorem dX0_append_21 : decode cX0_append 21 = .ok (.getfield 9, 3) := by decide +kernel
theorem dX0_append_24 : decode cX0_append 24 = .ok (.aload_n 0, 1) := by decide +kernel
theorem dX0_append_25 : decode cX0_append 25 = .ok (.getfield 15, 3) := by decide +kernel
theorem dX0_append_28 : decode cX0_append 28 = .ok (.iload_n 1, 1) := by decide +kernel
theorem dX0_append_29 : decode cX0_append 29 = .ok (.i2b, 1) := by decide +kernel
theorem dX0_append_30 : decode cX0_append 30 = .ok (.bastore, 1) := by decide +kernel
theorem dX0_append_31 : decode cX0_append 31 = .ok (.aload_n 0, 1) := by decide +kernel
theorem dX0_append_32 : decode cX0_append 32 = .ok (.dup, 1) := by decide +kernel
theorem dX0_append_33 : decode cX0_append 33 = .ok (.getfield 15, 3) := by decide +kernel
theorem dX0_append_36 : decode cX0_append 36 = .ok (.iconst 1, 1) := by decide +kernel
theorem dX0_append_37 : decode cX0_append 37 = .ok (.iadd, 1) := by decide +kernel
theorem dX0_append_38 : decode cX0_append 38 = .ok (.putfield 15, 3) := by decide +kernel
theorem dX0_append_41 : decode cX0_append 41 = .ok (.return_, 1) := by decide +kernel
theorem dX0_clear_0 : decode cX0_clear 0 = .ok (.aload_n 0, 1) := by decide +kernel
theorem dX0_clear_1 : decode cX0_clear 1 = .ok (.iconst 0, 1) := by decide +kernel
theorem dX0_clear_2 : decode cX0_clear 2 = .ok (.putfield 15, 3) := by decide +kernel
theorem dX0_clear_5 : decode cX0_clear 5 = .ok (.return_, 1) := by decide +kernel
theorem dX0_copy_0 : decode cX0_copy 0 = .ok (.new 10, 3) := by decide +kernel
theorem dX0_copy_3 : decode cX0_copy 3 = .ok (.dup, 1) := by decide +kernel
theorem dX0_copy_4 : decode cX0_copy 4 = .ok (.aload_n 0, 1) := by decide +kernel
theorem dX0_copy_5 : decode cX0_copy 5 = .ok (.getfield 15, 3) := by decide +kernel
theorem dX0_copy_8 : decode cX0_copy 8 = .ok (.invokespecial 19, 3) := by decide +kernel
theorem dX0_copy_11 : decode cX0_copy 11 = .ok (.astore_n 1, 1) := by decide +kernel
theorem dX0_copy_12 : decode cX0_copy 12 = .ok (.iconst 0, 1) := by decide +kernel
theorem dX0_copy_13 : decode cX0_copy 13 = .ok (.istore_n 2, 1) := by decide +kernel
theorem dX0_copy_14 : decode cX0_copy 14 = .ok (.iload_n 2, 1) := by decide +kernel
theorem dX0_copy_15 : decode cX0_copy 15 = .ok (.aload_n 0, 1) := by decide +kernel
theorem dX0_copy_16 : decode cX0_copy 16 = .ok (.getfield 15, 3) := by decide +kernel
theorem dX0_copy_19 : decode cX0_copy 19 = .ok (.if_icmp .ge 18, 3) := by decide +kernel
theorem dX0_copy_22 : decode cX0_copy 22 = .ok (.aload_n 1, 1) := by decide +kernel
theorem dX0_copy_23 : decode cX0_copy 23 = .ok (.aload_n 0, 1) := by decide +kernel
theorem dX0_copy_24 : decode cX0_copy 24 = .ok (.iload_n 2, 1) := by decide +kernel
theorem dX0_copy_25 : decode cX0_copy 25 = .ok (.invokevirtual 22, 3) := by decide +kernel
theorem dX0_copy_28 : decode cX0_copy 28 = .ok (.invokevirtual 26, 3) := by decide +kernel
theorem dX0_copy_31 : decode cX0_copy 31 = .ok (.iinc 2 1, 3) := by decide +kernel
theorem dX0_copy_34 : decode cX0_copy 34 = .ok (.goto (-20), 3) := by decide +kernel
theorem dX0_copy_37 : decode cX0_copy 37 = .ok (.aload_n 1, 1) := by decide +kernel
theorem dX0_copy_38 : decode cX0_copy 38 = .ok (.areturn, 1) := by decide +kernel
theorem dX1_init_0 : decode cX1_init 0 = .ok (.aload_n 0, 1) := by decide +kernel
theorem dX1_init_1 : decode cX1_init 1 = .ok (.invokespecial 3, 3) := by decide +kernel
theorem dX1_init_4 : decode cX1_init 4 = .ok (.iload_n 1, 1) := by decide +kernel
theorem dX1_init_5 : decode cX1_init 5 = .ok (.ifCond .ge 7, 3) := by decide +kernel
theorem dX1_init_8 : decode cX1_init 8 = .ok (.iconst 0, 1) := by decide +kernel
theorem dX1_init_9 : decode cX1_init 9 = .ok (.goto 4, 3) := by decide +kernel
theorem dX1_init_12 : decode cX1_init 12 = .ok (.iload_n 1, 1) := by decide +kernel
theorem dX1_init_13 : decode cX1_init 13 = .ok (.istore_n 3, 1) := by decide +kernel
theorem dX1_init_14 : decode cX1_init 14 = .ok (.aload_n 0, 1) := by decide +kernel
theorem dX1_init_15 : decode cX1_init 15 = .ok (.iload_n 2, 1) := by decide +kernel
theorem dX1_init_16 : decode cX1_init 16 = .ok (.ifCond .ge 7, 3) := by decide +kernel
theorem dX1_init_19 : decode cX1_init 19 = .ok (.iconst 0, 1) := by decide +kernel
theorem dX1_init_20 : decode cX1_init 20 = .ok (.goto 4, 3) := by decide +kernel
theorem dX1_init_23 : decode cX1_init 23 = .ok (.iload_n 2, 1) := by decide +kernel
theorem dX1_init_24 : decode cX1_init 24 = .ok (.putfield 9, 3) := by decide +kernel
theorem dX1_init_27 : decode cX1_init 27 = .ok (.aload_n 0, 1) := by decide +kernel
theorem dX1_init_28 : decode cX1_init 28 = .ok (.iload_n 3, 1) := by decide +kernel
theorem dX1_init_29 : decode cX1_init 29 = .ok (.aload_n 0, 1) := by decide +kernel
theorem dX1_init_30 : decode cX1_init 30 = .ok (.getfield 9, 3) := by decide +kernel
theorem dX1_init_33 : decode cX1_init 33 = .ok (.imul, 1) := by decide +kernel
theorem dX1_init_34 : decode cX1_init 34 = .ok (.newarray .byte, 2) := by decide +kernel
theorem dX1_init_36 : decode cX1_init 36 = .ok (.putfield 15, 3) := by decide +kernel
theorem dX1_init_39 : decode cX1_init 39 = .ok (.aload_n 0, 1) := by decide +kernel
theorem dX1_init_40 : decode cX1_init 40 = .ok (.iload_n 3, 1) := by decide +kernel
theorem dX1_init_41 : decode cX1_init 41 = .ok (.newarray .int, 2) := by decide +kernel
theorem dX1_init_43 : decode cX1_init 43 = .ok (.putfield 19, 3) := by decide +kernel
theorem dX1_init_46 : decode cX1_init 46 = .ok (.return_, 1) := by decide +kernel
theorem dX1_has_0 : decode cX1_has 0 = .ok (.iload_n 1, 1) := by decide +kernel
theorem dX1_has_1 : decode cX1_has 1 = .ok (.ifCond .lt 24, 3) := by decide +kernel
theorem dX1_has_4 : decode cX1_has 4 = .ok (.iload_n 1, 1) := by decide +kernel
theorem dX1_has_5 : decode cX1_has 5 = .ok (.aload_n 0, 1) := by decide +kernel
theorem dX1_has_6 : decode cX1_has 6 = .ok (.getfield 23, 3) := by decide +kernel
theorem dX1_has_9 : decode cX1_has 9 = .ok (.if_icmp .ge 16, 3) := by decide +kernel
theorem dX1_has_12 : decode cX1_has 12 = .ok (.iload_n 1, 1) := by decide +kernel
theorem dX1_has_13 : decode cX1_has 13 = .ok (.aload_n 0, 1) := by decide +kernel
theorem dX1_has_14 : decode cX1_has 14 = .ok (.getfield 19, 3) := by decide +kernel
theorem dX1_has_17 : decode cX1_has 17 = .ok (.arraylength, 1) := by decide +kernel
theorem dX1_has_18 : decode cX1_has 18 = .ok (.if_icmp .ge 7, 3) := by decide +kernel
theorem dX1_has_21 : decode cX1_has 21 = .ok (.iconst 1, 1) := by decide +kernel
theorem dX1_has_22 : decode cX1_has 22 = .ok (.goto 4, 3) := by decide +kernel
theorem dX1_has_25 : decode cX1_has 25 = .ok (.iconst 0, 1) := by decide +kernel
theorem dX1_has_26 : decode cX1_has 26 = .ok (.ireturn, 1) := by decide +kernel
theorem dX1_lengthOf_0 : decode cX1_lengthOf 0 = .ok (.iload_n 1, 1) := by decide +kernel
theorem dX1_lengthOf_1 : decode cX1_lengthOf 1 = .ok (.ifCond .lt 29, 3) := by decide +kernel
theorem dX1_lengthOf_4 : decode cX1_lengthOf 4 = .ok (.iload_n 1, 1) := by decide +kernel
theorem dX1_lengthOf_5 : decode cX1_lengthOf 5 = .ok (.aload_n 0, 1) := by decide +kernel
theorem dX1_lengthOf_6 : decode cX1_lengthOf 6 = .ok (.getfield 23, 3) := by decide +kernel
theorem dX1_lengthOf_9 : decode cX1_lengthOf 9 = .ok (.if_icmp .ge 21, 3) := by decide +kernel
theorem dX1_lengthOf_12 : decode cX1_lengthOf 12 = .ok (.iload_n 1, 1) := by decide +kernel
theorem dX1_lengthOf_13 : decode cX1_lengthOf 13 = .ok (.aload_n 0, 1) := by decide +kernel
theorem dX1_lengthOf_14 : decode cX1_lengthOf 14 = .ok (.getfield 19, 3) := by decide +kernel
theorem dX1_lengthOf_17 : decode cX1_lengthOf 17 = .ok (.arraylength, 1) := by decide +kernel
theorem dX1_lengthOf_18 : decode cX1_lengthOf 18 = .ok (.if_icmp .ge 12, 3) := by decide +kernel
theorem dX1_lengthOf_21 : decode cX1_lengthOf 21 = .ok (.aload_n 0, 1) := by decide +kernel
theorem dX1_lengthOf_22 : decode cX1_lengthOf 22 = .ok (.getfield 19, 3) := by decide +kernel
theorem dX1_lengthOf_25 : decode cX1_lengthOf 25 = .ok (.iload_n 1, 1) := by decide +kernel
theorem dX1_lengthOf_26 : decode cX1_lengthOf 26 = .ok (.iaload, 1) := by decide +kernel
theorem dX1_lengthOf_27 : decode cX1_lengthOf 27 = .ok (.goto 4, 3) := by decide +kernel
theorem dX1_lengthOf_30 : decode cX1_lengthOf 30 = .ok (.iconst 0, 1) := by decide +kernel
theorem dX1_lengthOf_31 : decode cX1_lengthOf 31 = .ok (.ireturn, 1) := by decide +kernel
theorem dX1_signOf_0 : decode cX1_signOf 0 = .ok (.iload_n 2, 1) := by decide +kernel
theorem dX1_signOf_1 : decode cX1_signOf 1 = .ok (.ifCond .lt 12, 3) := by decide +kernel
theorem dX1_signOf_4 : decode cX1_signOf 4 = .ok (.iload_n 2, 1) := by decide +kernel
theorem dX1_signOf_5 : decode cX1_signOf 5 = .ok (.aload_n 0, 1) := by decide +kernel
theorem dX1_signOf_6 : decode cX1_signOf 6 = .ok (.iload_n 1, 1) := by decide +kernel
theorem dX1_signOf_7 : decode cX1_signOf 7 = .ok (.invokevirtual 26, 3) := by decide +kernel
theorem dX1_signOf_10 : decode cX1_signOf 10 = .ok (.if_icmp .lt 5, 3) := by decide +kernel
theorem dX1_signOf_13 : decode cX1_signOf 13 = .ok (.iconst (-1), 1) := by decide +kernel
theorem dX1_signOf_14 : decode cX1_signOf 14 = .ok (.ireturn, 1) := by decide +kernel
theorem dX1_signOf_15 : decode cX1_signOf 15 = .ok (.iload_n 1, 1) := by decide +kernel
theorem dX1_signOf_16 : decode cX1_signOf 16 = .ok (.aload_n 0, 1) := by decide +kernel
theorem dX1_signOf_17 : decode cX1_signOf 17 = .ok (.getfield 9, 3) := by decide +kernel
theorem dX1_signOf_20 : decode cX1_signOf 20 = .ok (.imul, 1) := by decide +kernel
theorem dX1_signOf_21 : decode cX1_signOf 21 = .ok (.iload_n 2, 1) := by decide +kernel
theorem dX1_signOf_22 : decode cX1_signOf 22 = .ok (.iadd, 1) := by decide +kernel
theorem dX1_signOf_23 : decode cX1_signOf 23 = .ok (.istore_n 3, 1) := by decide +kernel
theorem dX1_signOf_24 : decode cX1_signOf 24 = .ok (.iload_n 3, 1) := by decide +kernel
theorem dX1_signOf_25 : decode cX1_signOf 25 = .ok (.ifCond .lt 12, 3) := by decide +kernel
theorem dX1_signOf_28 : decode cX1_signOf 28 = .ok (.iload_n 3, 1) := by decide +kernel
theorem dX1_signOf_29 : decode cX1_signOf 29 = .ok (.aload_n 0, 1) := by decide +kernel
theorem dX1_signOf_30 : decode cX1_signOf 30 = .ok (.getfield 15, 3) := by decide +kernel
theorem dX1_signOf_33 : decode cX1_signOf 33 = .ok (.arraylength, 1) := by decide +kernel
theorem dX1_signOf_34 : decode cX1_signOf 34 = .ok (.if_icmp .lt 7, 3) := by decide +kernel
theorem dX1_signOf_37 : decode cX1_signOf 37 = .ok (.iconst (-1), 1) := by decide +kernel
theorem dX1_signOf_38 : decode cX1_signOf 38 = .ok (.goto 9, 3) := by decide +kernel
theorem dX1_signOf_41 : decode cX1_signOf 41 = .ok (.aload_n 0, 1) := by decide +kernel
theorem dX1_signOf_42 : decode cX1_signOf 42 = .ok (.getfield 15, 3) := by decide +kernel
theorem dX1_signOf_45 : decode cX1_signOf 45 = .ok (.iload_n 3, 1) := by decide +kernel
theorem dX1_signOf_46 : decode cX1_signOf 46 = .ok (.baload, 1) := by decide +kernel
theorem dX1_signOf_47 : decode cX1_signOf 47 = .ok (.ireturn, 1) := by decide +kernel
theorem dX1_find_0 : decode cX1_find 0 = .ok (.iconst 0, 1) := by decide +kernel
theorem dX1_find_1 : decode cX1_find 1 = .ok (.istore 4, 2) := by decide +kernel
theorem dX1_find_3 : decode cX1_find 3 = .ok (.iload 4, 2) := by decide +kernel
theorem dX1_find_5 : decode cX1_find 5 = .ok (.aload_n 0, 1) := by decide +kernel
theorem dX1_find_6 : decode cX1_find 6 = .ok (.getfield 23, 3) := by decide +kernel
theorem dX1_find_9 : decode cX1_find 9 = .ok (.if_icmp .ge 24, 3) := by decide +kernel
theorem dX1_find_12 : decode cX1_find 12 = .ok (.aload_n 0, 1) := by decide +kernel
theorem dX1_find_13 : decode cX1_find 13 = .ok (.iload 4, 2) := by decide +kernel
theorem dX1_find_15 : decode cX1_find 15 = .ok (.aload_n 1, 1) := by decide +kernel
theorem dX1_find_16 : decode cX1_find 16 = .ok (.iload_n 2, 1) := by decide +kernel
theorem dX1_find_17 : decode cX1_find 17 = .ok (.iload_n 3, 1) := by decide +kernel
theorem dX1_find_18 : decode cX1_find 18 = .ok (.invokevirtual 30, 3) := by decide +kernel
theorem dX1_find_21 : decode cX1_find 21 = .ok (.ifCond .eq 6, 3) := by decide +kernel
theorem dX1_find_24 : decode cX1_find 24 = .ok (.iload 4, 2) := by decide +kernel
theorem dX1_find_26 : decode cX1_find 26 = .ok (.ireturn, 1) := by decide +kernel
theorem dX1_find_27 : decode cX1_find 27 = .ok (.iinc 4 1, 3) := by decide +kernel
theorem dX1_find_30 : decode cX1_find 30 = .ok (.goto (-27), 3) := by decide +kernel
theorem dX1_find_33 : decode cX1_find 33 = .ok (.iconst (-1), 1) := by decide +kernel
theorem dX1_find_34 : decode cX1_find 34 = .ok (.ireturn, 1) := by decide +kernel
theorem dX1_stands_0 : decode cX1_stands 0 = .ok (.aload_n 0, 1) := by decide +kernel
theorem dX1_stands_1 : decode cX1_stands 1 = .ok (.iload_n 1, 1) := by decide +kernel
theorem dX1_stands_2 : decode cX1_stands 2 = .ok (.invokevirtual 26, 3) := by decide +kernel
theorem dX1_stands_5 : decode cX1_stands 5 = .ok (.iload 4, 2) := by decide +kernel
theorem dX1_stands_7 : decode cX1_stands 7 = .ok (.iload_n 3, 1) := by decide +kernel
theorem dX1_stands_8 : decode cX1_stands 8 = .ok (.isub, 1) := by decide +kernel
theorem dX1_stands_9 : decode cX1_stands 9 = .ok (.if_icmp .eq 5, 3) := by decide +kernel
theorem dX1_stands_12 : decode cX1_stands 12 = .ok (.iconst 0, 1) := by decide +kernel
theorem dX1_stands_13 : decode cX1_stands 13 = .ok (.ireturn, 1) := by decide +kernel
theorem dX1_stands_14 : decode cX1_stands 14 = .ok (.iconst 0, 1) := by decide +kernel
theorem dX1_stands_15 : decode cX1_stands 15 = .ok (.istore 5, 2) := by decide +kernel
theorem dX1_stands_17 : decode cX1_stands 17 = .ok (.iload 5, 2) := by decide +kernel
theorem dX1_stands_19 : decode cX1_stands 19 = .ok (.iload 4, 2) := by decide +kernel
theorem dX1_stands_21 : decode cX1_stands 21 = .ok (.iload_n 3, 1) := by decide +kernel
theorem dX1_stands_22 : decode cX1_stands 22 = .ok (.isub, 1) := by decide +kernel
theorem dX1_stands_23 : decode cX1_stands 23 = .ok (.if_icmp .ge 29, 3) := by decide +kernel
theorem dX1_stands_26 : decode cX1_stands 26 = .ok (.aload_n 0, 1) := by decide +kernel
theorem dX1_stands_27 : decode cX1_stands 27 = .ok (.iload_n 1, 1) := by decide +kernel
theorem dX1_stands_28 : decode cX1_stands 28 = .ok (.iload 5, 2) := by decide +kernel
theorem dX1_stands_30 : decode cX1_stands 30 = .ok (.invokevirtual 34, 3) := by decide +kernel
theorem dX1_stands_33 : decode cX1_stands 33 = .ok (.aload_n 2, 1) := by decide +kernel
theorem dX1_stands_34 : decode cX1_stands 34 = .ok (.iload_n 3, 1) := by decide +kernel
theorem dX1_stands_35 : decode cX1_stands 35 = .ok (.iload 5, 2) := by decide +kernel
theorem dX1_stands_37 : decode cX1_stands 37 = .ok (.iadd, 1) := by decide +kernel
theorem dX1_stands_38 : decode cX1_stands 38 = .ok (.invokevirtual 38, 3) := by decide +kernel
theorem dX1_stands_41 : decode cX1_stands 41 = .ok (.if_icmp .eq 5, 3) := by decide +kernel
theorem dX1_stands_44 : decode cX1_stands 44 = .ok (.iconst 0, 1) := by decide +kernel
theorem dX1_stands_45 : decode cX1_stands 45 = .ok (.ireturn, 1) := by decide +kernel
theorem dX1_stands_46 : decode cX1_stands 46 = .ok (.iinc 5 1, 3) := by decide +kernel
theorem dX1_stands_49 : decode cX1_stands 49 = .ok (.goto (-32), 3) := by decide +kernel
theorem dX1_stands_52 : decode cX1_stands 52 = .ok (.iconst 1, 1) := by decide +kernel
theorem dX1_stands_53 : decode cX1_stands 53 = .ok (.ireturn, 1) := by decide +kernel
theorem dX1_append_0 : decode cX1_append 0 = .ok (.aload_n 0, 1) := by decide +kernel
theorem dX1_append_1 : decode cX1_append 1 = .ok (.getfield 23, 3) := by decide +kernel
theorem dX1_append_4 : decode cX1_append 4 = .ok (.ifCond .lt 26, 3) := by decide +kernel
theorem dX1_append_7 : decode cX1_append 7 = .ok (.aload_n 0, 1) := by decide +kernel
theorem dX1_append_8 : decode cX1_append 8 = .ok (.getfield 23, 3) := by decide +kernel
theorem dX1_append_11 : decode cX1_append 11 = .ok (.aload_n 0, 1) := by decide +kernel
theorem dX1_append_12 : decode cX1_append 12 = .ok (.getfield 19, 3) := by decide +kernel
theorem dX1_append_15 : decode cX1_append 15 = .ok (.arraylength, 1) := by decide +kernel
theorem dX1_append_16 : decode cX1_append 16 = .ok (.if_icmp .ge 14, 3) := by decide +kernel
theorem dX1_append_19 : decode cX1_append 19 = .ok (.aload_n 1, 1) := by decide +kernel
theorem dX1_append_20 : decode cX1_append 20 = .ok (.getfield 43, 3) := by decide +kernel
theorem dX1_append_23 : decode cX1_append 23 = .ok (.aload_n 0, 1) := by decide +kernel
theorem dX1_append_24 : decode cX1_append 24 = .ok (.getfield 9, 3) := by decide +kernel
theorem dX1_append_27 : decode cX1_append 27 = .ok (.if_icmp .le 6, 3) := by decide +kernel
theorem dX1_append_30 : decode cX1_append 30 = .ok (.bipush (-5), 2) := by decide +kernel
theorem dX1_append_32 : decode cX1_append 32 = .ok (.ireturn, 1) := by decide +kernel
theorem dX1_append_33 : decode cX1_append 33 = .ok (.aload_n 0, 1) := by decide +kernel
theorem dX1_append_34 : decode cX1_append 34 = .ok (.getfield 23, 3) := by decide +kernel
theorem dX1_append_37 : decode cX1_append 37 = .ok (.aload_n 0, 1) := by decide +kernel
theorem dX1_append_38 : decode cX1_append 38 = .ok (.getfield 9, 3) := by decide +kernel
theorem dX1_append_41 : decode cX1_append 41 = .ok (.imul, 1) := by decide +kernel
theorem dX1_append_42 : decode cX1_append 42 = .ok (.istore_n 2, 1) := by decide +kernel
theorem dX1_append_43 : decode cX1_append 43 = .ok (.iconst 0, 1) := by decide +kernel
theorem dX1_append_44 : decode cX1_append 44 = .ok (.istore_n 3, 1) := by decide +kernel
theorem dX1_append_45 : decode cX1_append 45 = .ok (.iload_n 3, 1) := by decide +kernel
theorem dX1_append_46 : decode cX1_append 46 = .ok (.aload_n 1, 1) := by decide +kernel
theorem dX1_append_47 : decode cX1_append 47 = .ok (.getfield 43, 3) := by decide +kernel
theorem dX1_append_50 : decode cX1_append 50 = .ok (.if_icmp .ge 42, 3) := by decide +kernel
theorem dX1_append_53 : decode cX1_append 53 = .ok (.iload_n 2, 1) := by decide +kernel
theorem dX1_append_54 : decode cX1_append 54 = .ok (.iload_n 3, 1) := by decide +kernel
theorem dX1_append_55 : decode cX1_append 55 = .ok (.iadd, 1) := by decide +kernel
theorem dX1_append_56 : decode cX1_append 56 = .ok (.istore 4, 2) := by decide +kernel
theorem dX1_append_58 : decode cX1_append 58 = .ok (.iload 4, 2) := by decide +kernel
theorem dX1_append_60 : decode cX1_append 60 = .ok (.ifCond .lt 26, 3) := by decide +kernel
theorem dX1_append_63 : decode cX1_append 63 = .ok (.iload 4, 2) := by decide +kernel
theorem dX1_append_65 : decode cX1_append 65 = .ok (.aload_n 0, 1) := by decide +kernel
theorem dX1_append_66 : decode cX1_append 66 = .ok (.getfield 15, 3) := by decide +kernel
theorem dX1_append_69 : decode cX1_append 69 = .ok (.arraylength, 1) := by decide +kernel
theorem dX1_append_70 : decode cX1_append 70 = .ok (.if_icmp .ge 16, 3) := by decide +kernel
theorem dX1_append_73 : decode cX1_append 73 = .ok (.aload_n 0, 1) := by decide +kernel
theorem dX1_append_74 : decode cX1_append 74 = .ok (.getfield 15, 3) := by decide +kernel
theorem dX1_append_77 : decode cX1_append 77 = .ok (.iload 4, 2) := by decide +kernel
theorem dX1_append_79 : decode cX1_append 79 = .ok (.aload_n 1, 1) := by decide +kernel
theorem dX1_append_80 : decode cX1_append 80 = .ok (.iload_n 3, 1) := by decide +kernel
theorem dX1_append_81 : decode cX1_append 81 = .ok (.invokevirtual 38, 3) := by decide +kernel
theorem dX1_append_84 : decode cX1_append 84 = .ok (.i2b, 1) := by decide +kernel
theorem dX1_append_85 : decode cX1_append 85 = .ok (.bastore, 1) := by decide +kernel
theorem dX1_append_86 : decode cX1_append 86 = .ok (.iinc 3 1, 3) := by decide +kernel
theorem dX1_append_89 : decode cX1_append 89 = .ok (.goto (-44), 3) := by decide +kernel
theorem dX1_append_92 : decode cX1_append 92 = .ok (.aload_n 0, 1) := by decide +kernel
theorem dX1_append_93 : decode cX1_append 93 = .ok (.getfield 19, 3) := by decide +kernel
theorem dX1_append_96 : decode cX1_append 96 = .ok (.aload_n 0, 1) := by decide +kernel
theorem dX1_append_97 : decode cX1_append 97 = .ok (.getfield 23, 3) := by decide +kernel
theorem dX1_append_100 : decode cX1_append 100 = .ok (.aload_n 1, 1) := by decide +kernel
theorem dX1_append_101 : decode cX1_append 101 = .ok (.getfield 43, 3) := by decide +kernel
theorem dX1_append_104 : decode cX1_append 104 = .ok (.iastore, 1) := by decide +kernel
theorem dX1_append_105 : decode cX1_append 105 = .ok (.aload_n 0, 1) := by decide +kernel
theorem dX1_append_106 : decode cX1_append 106 = .ok (.dup, 1) := by decide +kernel
theorem dX1_append_107 : decode cX1_append 107 = .ok (.getfield 23, 3) := by decide +kernel
theorem dX1_append_110 : decode cX1_append 110 = .ok (.iconst 1, 1) := by decide +kernel
theorem dX1_append_111 : decode cX1_append 111 = .ok (.iadd, 1) := by decide +kernel
theorem dX1_append_112 : decode cX1_append 112 = .ok (.putfield 23, 3) := by decide +kernel
theorem dX1_append_115 : decode cX1_append 115 = .ok (.aload_n 0, 1) := by decide +kernel
theorem dX1_append_116 : decode cX1_append 116 = .ok (.getfield 23, 3) := by decide +kernel
theorem dX1_append_119 : decode cX1_append 119 = .ok (.iconst 1, 1) := by decide +kernel
theorem dX1_append_120 : decode cX1_append 120 = .ok (.isub, 1) := by decide +kernel
theorem dX1_append_121 : decode cX1_append 121 = .ok (.ireturn, 1) := by decide +kernel
theorem dX2_isSign_0 : decode cX2_isSign 0 = .ok (.iload_n 0, 1) := by decide +kernel
theorem dX2_isSign_1 : decode cX2_isSign 1 = .ok (.bipush 32, 2) := by decide +kernel
theorem dX2_isSign_3 : decode cX2_isSign 3 = .ok (.if_icmp .lt 13, 3) := by decide +kernel
theorem dX2_isSign_6 : decode cX2_isSign 6 = .ok (.iload_n 0, 1) := by decide +kernel
theorem dX2_isSign_7 : decode cX2_isSign 7 = .ok (.bipush 126, 2) := by decide +kernel
theorem dX2_isSign_9 : decode cX2_isSign 9 = .ok (.if_icmp .gt 7, 3) := by decide +kernel
theorem dX2_isSign_12 : decode cX2_isSign 12 = .ok (.iconst 1, 1) := by decide +kernel
theorem dX2_isSign_13 : decode cX2_isSign 13 = .ok (.goto 4, 3) := by decide +kernel
theorem dX2_isSign_16 : decode cX2_isSign 16 = .ok (.iconst 0, 1) := by decide +kernel
theorem dX2_isSign_17 : decode cX2_isSign 17 = .ok (.ireturn, 1) := by decide +kernel
theorem dX2_endsLine_0 : decode cX2_endsLine 0 = .ok (.iload_n 0, 1) := by decide +kernel
theorem dX2_endsLine_1 : decode cX2_endsLine 1 = .ok (.bipush 10, 2) := by decide +kernel
theorem dX2_endsLine_3 : decode cX2_endsLine 3 = .ok (.if_icmp .eq 8, 3) := by decide +kernel
theorem dX2_endsLine_6 : decode cX2_endsLine 6 = .ok (.iload_n 0, 1) := by decide +kernel
theorem dX2_endsLine_7 : decode cX2_endsLine 7 = .ok (.iconst (-1), 1) := by decide +kernel
theorem dX2_endsLine_8 : decode cX2_endsLine 8 = .ok (.if_icmp .ne 7, 3) := by decide +kernel
theorem dX2_endsLine_11 : decode cX2_endsLine 11 = .ok (.iconst 1, 1) := by decide +kernel
theorem dX2_endsLine_12 : decode cX2_endsLine 12 = .ok (.goto 4, 3) := by decide +kernel
theorem dX2_endsLine_15 : decode cX2_endsLine 15 = .ok (.iconst 0, 1) := by decide +kernel
theorem dX2_endsLine_16 : decode cX2_endsLine 16 = .ok (.ireturn, 1) := by decide +kernel
theorem dX2_lineEnd_0 : decode cX2_lineEnd 0 = .ok (.iload_n 1, 1) := by decide +kernel
theorem dX2_lineEnd_1 : decode cX2_lineEnd 1 = .ok (.istore_n 2, 1) := by decide +kernel
theorem dX2_lineEnd_2 : decode cX2_lineEnd 2 = .ok (.iload_n 2, 1) := by decide +kernel
theorem dX2_lineEnd_3 : decode cX2_lineEnd 3 = .ok (.aload_n 0, 1) := by decide +kernel
theorem dX2_lineEnd_4 : decode cX2_lineEnd 4 = .ok (.getfield 9, 3) := by decide +kernel
theorem dX2_lineEnd_7 : decode cX2_lineEnd 7 = .ok (.if_icmp .ge 19, 3) := by decide +kernel
theorem dX2_lineEnd_10 : decode cX2_lineEnd 10 = .ok (.aload_n 0, 1) := by decide +kernel
theorem dX2_lineEnd_11 : decode cX2_lineEnd 11 = .ok (.iload_n 2, 1) := by decide +kernel
theorem dX2_lineEnd_12 : decode cX2_lineEnd 12 = .ok (.invokevirtual 15, 3) := by decide +kernel
theorem dX2_lineEnd_15 : decode cX2_lineEnd 15 = .ok (.bipush 10, 2) := by decide +kernel
theorem dX2_lineEnd_17 : decode cX2_lineEnd 17 = .ok (.if_icmp .eq 9, 3) := by decide +kernel
theorem dX2_lineEnd_20 : decode cX2_lineEnd 20 = .ok (.iinc 2 1, 3) := by decide +kernel
theorem dX2_lineEnd_23 : decode cX2_lineEnd 23 = .ok (.goto (-21), 3) := by decide +kernel
theorem dX2_lineEnd_26 : decode cX2_lineEnd 26 = .ok (.iload_n 2, 1) := by decide +kernel
theorem dX2_lineEnd_27 : decode cX2_lineEnd 27 = .ok (.ireturn, 1) := by decide +kernel
theorem dX2_signsEnd_0 : decode cX2_signsEnd 0 = .ok (.iload_n 1, 1) := by decide +kernel
theorem dX2_signsEnd_1 : decode cX2_signsEnd 1 = .ok (.istore_n 2, 1) := by decide +kernel
theorem dX2_signsEnd_2 : decode cX2_signsEnd 2 = .ok (.iload_n 2, 1) := by decide +kernel
theorem dX2_signsEnd_3 : decode cX2_signsEnd 3 = .ok (.aload_n 0, 1) := by decide +kernel
theorem dX2_signsEnd_4 : decode cX2_signsEnd 4 = .ok (.getfield 9, 3) := by decide +kernel
theorem dX2_signsEnd_7 : decode cX2_signsEnd 7 = .ok (.if_icmp .ge 20, 3) := by decide +kernel
theorem dX2_signsEnd_10 : decode cX2_signsEnd 10 = .ok (.aload_n 0, 1) := by decide +kernel
theorem dX2_signsEnd_11 : decode cX2_signsEnd 11 = .ok (.iload_n 2, 1) := by decide +kernel
theorem dX2_signsEnd_12 : decode cX2_signsEnd 12 = .ok (.invokevirtual 15, 3) := by decide +kernel
theorem dX2_signsEnd_15 : decode cX2_signsEnd 15 = .ok (.invokestatic 19, 3) := by decide +kernel
theorem dX2_signsEnd_18 : decode cX2_signsEnd 18 = .ok (.ifCond .eq 9, 3) := by decide +kernel
theorem dX2_signsEnd_21 : decode cX2_signsEnd 21 = .ok (.iinc 2 1, 3) := by decide +kernel
theorem dX2_signsEnd_24 : decode cX2_signsEnd 24 = .ok (.goto (-22), 3) := by decide +kernel
theorem dX2_signsEnd_27 : decode cX2_signsEnd 27 = .ok (.iload_n 2, 1) := by decide +kernel
theorem dX2_signsEnd_28 : decode cX2_signsEnd 28 = .ok (.ireturn, 1) := by decide +kernel
theorem dX2_lettersEnd_0 : decode cX2_lettersEnd 0 = .ok (.iconst 0, 1) := by decide +kernel
theorem dX2_lettersEnd_1 : decode cX2_lettersEnd 1 = .ok (.istore_n 2, 1) := by decide +kernel
theorem dX2_lettersEnd_2 : decode cX2_lettersEnd 2 = .ok (.iload_n 2, 1) := by decide +kernel
theorem dX2_lettersEnd_3 : decode cX2_lettersEnd 3 = .ok (.bipush 6, 2) := by decide +kernel
theorem dX2_lettersEnd_5 : decode cX2_lettersEnd 5 = .ok (.if_icmp .ge 22, 3) := by decide +kernel
theorem dX2_lettersEnd_8 : decode cX2_lettersEnd 8 = .ok (.aload_n 0, 1) := by decide +kernel
theorem dX2_lettersEnd_9 : decode cX2_lettersEnd 9 = .ok (.iload_n 1, 1) := by decide +kernel
theorem dX2_lettersEnd_10 : decode cX2_lettersEnd 10 = .ok (.iload_n 2, 1) := by decide +kernel
theorem dX2_lettersEnd_11 : decode cX2_lettersEnd 11 = .ok (.iadd, 1) := by decide +kernel
theorem dX2_lettersEnd_12 : decode cX2_lettersEnd 12 = .ok (.invokevirtual 15, 3) := by decide +kernel
theorem dX2_lettersEnd_15 : decode cX2_lettersEnd 15 = .ok (.invokestatic 25, 3) := by decide +kernel
theorem dX2_lettersEnd_18 : decode cX2_lettersEnd 18 = .ok (.ifCond .eq 9, 3) := by decide +kernel
theorem dX2_lettersEnd_21 : decode cX2_lettersEnd 21 = .ok (.iinc 2 1, 3) := by decide +kernel
theorem dX2_lettersEnd_24 : decode cX2_lettersEnd 24 = .ok (.goto (-22), 3) := by decide +kernel
theorem dX2_lettersEnd_27 : decode cX2_lettersEnd 27 = .ok (.iload_n 2, 1) := by decide +kernel
theorem dX2_lettersEnd_28 : decode cX2_lettersEnd 28 = .ok (.ifCond .ne 9, 3) := by decide +kernel
theorem dX2_lettersEnd_31 : decode cX2_lettersEnd 31 = .ok (.iload_n 1, 1) := by decide +kernel
theorem dX2_lettersEnd_32 : decode cX2_lettersEnd 32 = .ok (.iconst (-1), 1) := by decide +kernel
theorem dX2_lettersEnd_33 : decode cX2_lettersEnd 33 = .ok (.ixor, 1) := by decide +kernel
theorem dX2_lettersEnd_34 : decode cX2_lettersEnd 34 = .ok (.goto 6, 3) := by decide +kernel
theorem dX2_lettersEnd_37 : decode cX2_lettersEnd 37 = .ok (.iload_n 1, 1) := by decide +kernel
theorem dX2_lettersEnd_38 : decode cX2_lettersEnd 38 = .ok (.iload_n 2, 1) := by decide +kernel
theorem dX2_lettersEnd_39 : decode cX2_lettersEnd 39 = .ok (.iadd, 1) := by decide +kernel
theorem dX2_lettersEnd_40 : decode cX2_lettersEnd 40 = .ok (.ireturn, 1) := by decide +kernel
theorem dX2_isLetter_0 : decode cX2_isLetter 0 = .ok (.iload_n 0, 1) := by decide +kernel
theorem dX2_isLetter_1 : decode cX2_isLetter 1 = .ok (.bipush 97, 2) := by decide +kernel
theorem dX2_isLetter_3 : decode cX2_isLetter 3 = .ok (.if_icmp .lt 13, 3) := by decide +kernel
theorem dX2_isLetter_6 : decode cX2_isLetter 6 = .ok (.iload_n 0, 1) := by decide +kernel
theorem dX2_isLetter_7 : decode cX2_isLetter 7 = .ok (.bipush 122, 2) := by decide +kernel
theorem dX2_isLetter_9 : decode cX2_isLetter 9 = .ok (.if_icmp .gt 7, 3) := by decide +kernel
theorem dX2_isLetter_12 : decode cX2_isLetter 12 = .ok (.iconst 1, 1) := by decide +kernel
theorem dX2_isLetter_13 : decode cX2_isLetter 13 = .ok (.goto 4, 3) := by decide +kernel
theorem dX2_isLetter_16 : decode cX2_isLetter 16 = .ok (.iconst 0, 1) := by decide +kernel
theorem dX2_isLetter_17 : decode cX2_isLetter 17 = .ok (.ireturn, 1) := by decide +kernel
theorem dX2_wrongInScript_0 : decode cX2_wrongInScript 0 = .ok (.iconst 0, 1) := by decide +kernel
theorem dX2_wrongInScript_1 : decode cX2_wrongInScript 1 = .ok (.istore_n 1, 1) := by decide +kernel
theorem dX2_wrongInScript_2 : decode cX2_wrongInScript 2 = .ok (.iconst 1, 1) := by decide +kernel
theorem dX2_wrongInScript_3 : decode cX2_wrongInScript 3 = .ok (.istore_n 2, 1) := by decide +kernel
theorem dX2_wrongInScript_4 : decode cX2_wrongInScript 4 = .ok (.iload_n 2, 1) := by decide +kernel
theorem dX2_wrongInScript_5 : decode cX2_wrongInScript 5 = .ok (.sipush 600, 3) := by decide +kernel
theorem dX2_wrongInScript_8 : decode cX2_wrongInScript 8 = .ok (.if_icmp .gt 54, 3) := by decide +kernel
theorem dX2_wrongInScript_11 : decode cX2_wrongInScript 11 = .ok (.iload_n 1, 1) := by decide +kernel
theorem dX2_wrongInScript_12 : decode cX2_wrongInScript 12 = .ok (.aload_n 0, 1) := by decide +kernel
theorem dX2_wrongInScript_13 : decode cX2_wrongInScript 13 = .ok (.getfield 9, 3) := by decide +kernel
theorem dX2_wrongInScript_16 : decode cX2_wrongInScript 16 = .ok (.if_icmp .ge 46, 3) := by decide +kernel
theorem dX2_wrongInScript_19 : decode cX2_wrongInScript 19 = .ok (.aload_n 0, 1) := by decide +kernel
theorem dX2_wrongInScript_20 : decode cX2_wrongInScript 20 = .ok (.iload_n 1, 1) := by decide +kernel
theorem dX2_wrongInScript_21 : decode cX2_wrongInScript 21 = .ok (.invokevirtual 15, 3) := by decide +kernel
theorem dX2_wrongInScript_24 : decode cX2_wrongInScript 24 = .ok (.bipush 10, 2) := by decide +kernel
theorem dX2_wrongInScript_26 : decode cX2_wrongInScript 26 = .ok (.if_icmp .eq 27, 3) := by decide +kernel
theorem dX2_wrongInScript_29 : decode cX2_wrongInScript 29 = .ok (.iload_n 2, 1) := by decide +kernel
theorem dX2_wrongInScript_30 : decode cX2_wrongInScript 30 = .ok (.bipush 40, 2) := by decide +kernel
theorem dX2_wrongInScript_32 : decode cX2_wrongInScript 32 = .ok (.if_icmp .le 5, 3) := by decide +kernel
theorem dX2_wrongInScript_35 : decode cX2_wrongInScript 35 = .ok (.iload_n 1, 1) := by decide +kernel
theorem dX2_wrongInScript_36 : decode cX2_wrongInScript 36 = .ok (.ireturn, 1) := by decide +kernel
theorem dX2_wrongInScript_37 : decode cX2_wrongInScript 37 = .ok (.aload_n 0, 1) := by decide +kernel
theorem dX2_wrongInScript_38 : decode cX2_wrongInScript 38 = .ok (.iload_n 1, 1) := by decide +kernel
theorem dX2_wrongInScript_39 : decode cX2_wrongInScript 39 = .ok (.invokestatic 28, 3) := by decide +kernel
theorem dX2_wrongInScript_42 : decode cX2_wrongInScript 42 = .ok (.istore_n 3, 1) := by decide +kernel
theorem dX2_wrongInScript_43 : decode cX2_wrongInScript 43 = .ok (.iload_n 3, 1) := by decide +kernel
theorem dX2_wrongInScript_44 : decode cX2_wrongInScript 44 = .ok (.ifCond .ge 7, 3) := by decide +kernel
theorem dX2_wrongInScript_47 : decode cX2_wrongInScript 47 = .ok (.iload_n 3, 1) := by decide +kernel
theorem dX2_wrongInScript_48 : decode cX2_wrongInScript 48 = .ok (.iconst (-1), 1) := by decide +kernel
theorem dX2_wrongInScript_49 : decode cX2_wrongInScript 49 = .ok (.ixor, 1) := by decide +kernel
theorem dX2_wrongInScript_50 : decode cX2_wrongInScript 50 = .ok (.ireturn, 1) := by decide +kernel
theorem dX2_wrongInScript_51 : decode cX2_wrongInScript 51 = .ok (.iload_n 3, 1) := by decide +kernel
theorem dX2_wrongInScript_52 : decode cX2_wrongInScript 52 = .ok (.istore_n 1, 1) := by decide +kernel
theorem dX2_wrongInScript_53 : decode cX2_wrongInScript 53 = .ok (.iinc 1 1, 3) := by decide +kernel
theorem dX2_wrongInScript_56 : decode cX2_wrongInScript 56 = .ok (.iinc 2 1, 3) := by decide +kernel
theorem dX2_wrongInScript_59 : decode cX2_wrongInScript 59 = .ok (.goto (-55), 3) := by decide +kernel
theorem dX2_wrongInScript_62 : decode cX2_wrongInScript 62 = .ok (.iconst (-1), 1) := by decide +kernel
theorem dX2_wrongInScript_63 : decode cX2_wrongInScript 63 = .ok (.ireturn, 1) := by decide +kernel
theorem dX2_scriptLine_0 : decode cX2_scriptLine 0 = .ok (.aload_n 0, 1) := by decide +kernel
theorem dX2_scriptLine_1 : decode cX2_scriptLine 1 = .ok (.iload_n 1, 1) := by decide +kernel
theorem dX2_scriptLine_2 : decode cX2_scriptLine 2 = .ok (.invokevirtual 15, 3) := by decide +kernel
theorem dX2_scriptLine_5 : decode cX2_scriptLine 5 = .ok (.istore_n 2, 1) := by decide +kernel
theorem dX2_scriptLine_6 : decode cX2_scriptLine 6 = .ok (.iload_n 2, 1) := by decide +kernel
theorem dX2_scriptLine_7 : decode cX2_scriptLine 7 = .ok (.invokestatic 32, 3) := by decide +kernel
theorem dX2_scriptLine_10 : decode cX2_scriptLine 10 = .ok (.ifCond .ne 7, 3) := by decide +kernel
theorem dX2_scriptLine_13 : decode cX2_scriptLine 13 = .ok (.iload_n 1, 1) := by decide +kernel
theorem dX2_scriptLine_14 : decode cX2_scriptLine 14 = .ok (.iconst (-1), 1) := by decide +kernel
theorem dX2_scriptLine_15 : decode cX2_scriptLine 15 = .ok (.ixor, 1) := by decide +kernel
theorem dX2_scriptLine_16 : decode cX2_scriptLine 16 = .ok (.ireturn, 1) := by decide +kernel
theorem dX2_scriptLine_17 : decode cX2_scriptLine 17 = .ok (.aload_n 0, 1) := by decide +kernel
theorem dX2_scriptLine_18 : decode cX2_scriptLine 18 = .ok (.iload_n 1, 1) := by decide +kernel
theorem dX2_scriptLine_19 : decode cX2_scriptLine 19 = .ok (.iconst 1, 1) := by decide +kernel
theorem dX2_scriptLine_20 : decode cX2_scriptLine 20 = .ok (.iadd, 1) := by decide +kernel
theorem dX2_scriptLine_21 : decode cX2_scriptLine 21 = .ok (.invokevirtual 15, 3) := by decide +kernel
theorem dX2_scriptLine_24 : decode cX2_scriptLine 24 = .ok (.bipush 32, 2) := by decide +kernel
theorem dX2_scriptLine_26 : decode cX2_scriptLine 26 = .ok (.if_icmp .eq 9, 3) := by decide +kernel
theorem dX2_scriptLine_29 : decode cX2_scriptLine 29 = .ok (.iload_n 1, 1) := by decide +kernel
theorem dX2_scriptLine_30 : decode cX2_scriptLine 30 = .ok (.iconst 1, 1) := by decide +kernel
theorem dX2_scriptLine_31 : decode cX2_scriptLine 31 = .ok (.iadd, 1) := by decide +kernel
theorem dX2_scriptLine_32 : decode cX2_scriptLine 32 = .ok (.iconst (-1), 1) := by decide +kernel
theorem dX2_scriptLine_33 : decode cX2_scriptLine 33 = .ok (.ixor, 1) := by decide +kernel
theorem dX2_scriptLine_34 : decode cX2_scriptLine 34 = .ok (.ireturn, 1) := by decide +kernel
theorem dX2_scriptLine_35 : decode cX2_scriptLine 35 = .ok (.iload_n 1, 1) := by decide +kernel
theorem dX2_scriptLine_36 : decode cX2_scriptLine 36 = .ok (.iconst 2, 1) := by decide +kernel
theorem dX2_scriptLine_37 : decode cX2_scriptLine 37 = .ok (.iadd, 1) := by decide +kernel
theorem dX2_scriptLine_38 : decode cX2_scriptLine 38 = .ok (.istore_n 3, 1) := by decide +kernel
theorem dX2_scriptLine_39 : decode cX2_scriptLine 39 = .ok (.iload_n 2, 1) := by decide +kernel
theorem dX2_scriptLine_40 : decode cX2_scriptLine 40 = .ok (.lookupswitch 126 #[(33, 96), (61, 74), (62, 68), (63, 80), (64, 86), (98, 116), (115, 106)], 68) := by decide +kernel
theorem dX2_scriptLine_108 : decode cX2_scriptLine 108 = .ok (.aload_n 0, 1) := by decide +kernel
theorem dX2_scriptLine_109 : decode cX2_scriptLine 109 = .ok (.iload_n 3, 1) := by decide +kernel
theorem dX2_scriptLine_110 : decode cX2_scriptLine 110 = .ok (.invokestatic 35, 3) := by decide +kernel
theorem dX2_scriptLine_113 : decode cX2_scriptLine 113 = .ok (.ireturn, 1) := by decide +kernel
theorem dX2_scriptLine_114 : decode cX2_scriptLine 114 = .ok (.aload_n 0, 1) := by decide +kernel
theorem dX2_scriptLine_115 : decode cX2_scriptLine 115 = .ok (.iload_n 3, 1) := by decide +kernel
theorem dX2_scriptLine_116 : decode cX2_scriptLine 116 = .ok (.invokestatic 38, 3) := by decide +kernel
theorem dX2_scriptLine_119 : decode cX2_scriptLine 119 = .ok (.ireturn, 1) := by decide +kernel
theorem dX2_scriptLine_120 : decode cX2_scriptLine 120 = .ok (.aload_n 0, 1) := by decide +kernel
theorem dX2_scriptLine_121 : decode cX2_scriptLine 121 = .ok (.iload_n 3, 1) := by decide +kernel
theorem dX2_scriptLine_122 : decode cX2_scriptLine 122 = .ok (.invokestatic 41, 3) := by decide +kernel
theorem dX2_scriptLine_125 : decode cX2_scriptLine 125 = .ok (.ireturn, 1) := by decide +kernel
theorem dX2_scriptLine_126 : decode cX2_scriptLine 126 = .ok (.aload_n 0, 1) := by decide +kernel
theorem dX2_scriptLine_127 : decode cX2_scriptLine 127 = .ok (.iload_n 3, 1) := by decide +kernel
theorem dX2_scriptLine_128 : decode cX2_scriptLine 128 = .ok (.bipush 48, 2) := by decide +kernel
theorem dX2_scriptLine_130 : decode cX2_scriptLine 130 = .ok (.bipush 55, 2) := by decide +kernel
theorem dX2_scriptLine_132 : decode cX2_scriptLine 132 = .ok (.invokestatic 44, 3) := by decide +kernel
theorem dX2_scriptLine_135 : decode cX2_scriptLine 135 = .ok (.ireturn, 1) := by decide +kernel
theorem dX2_scriptLine_136 : decode cX2_scriptLine 136 = .ok (.aload_n 0, 1) := by decide +kernel
theorem dX2_scriptLine_137 : decode cX2_scriptLine 137 = .ok (.iload_n 3, 1) := by decide +kernel
theorem dX2_scriptLine_138 : decode cX2_scriptLine 138 = .ok (.bipush 49, 2) := by decide +kernel
theorem dX2_scriptLine_140 : decode cX2_scriptLine 140 = .ok (.bipush 57, 2) := by decide +kernel
theorem dX2_scriptLine_142 : decode cX2_scriptLine 142 = .ok (.invokestatic 44, 3) := by decide +kernel
theorem dX2_scriptLine_145 : decode cX2_scriptLine 145 = .ok (.ireturn, 1) := by decide +kernel
theorem dX2_scriptLine_146 : decode cX2_scriptLine 146 = .ok (.aload_n 0, 1) := by decide +kernel
theorem dX2_scriptLine_147 : decode cX2_scriptLine 147 = .ok (.iload_n 3, 1) := by decide +kernel
theorem dX2_scriptLine_148 : decode cX2_scriptLine 148 = .ok (.bipush 48, 2) := by decide +kernel
theorem dX2_scriptLine_150 : decode cX2_scriptLine 150 = .ok (.bipush 51, 2) := by decide +kernel
theorem dX2_scriptLine_152 : decode cX2_scriptLine 152 = .ok (.invokestatic 44, 3) := by decide +kernel
theorem dX2_scriptLine_155 : decode cX2_scriptLine 155 = .ok (.ireturn, 1) := by decide +kernel
theorem dX2_scriptLine_156 : decode cX2_scriptLine 156 = .ok (.aload_n 0, 1) := by decide +kernel
theorem dX2_scriptLine_157 : decode cX2_scriptLine 157 = .ok (.iload_n 3, 1) := by decide +kernel
theorem dX2_scriptLine_158 : decode cX2_scriptLine 158 = .ok (.bipush 48, 2) := by decide +kernel
theorem dX2_scriptLine_160 : decode cX2_scriptLine 160 = .ok (.bipush 51, 2) := by decide +kernel
theorem dX2_scriptLine_162 : decode cX2_scriptLine 162 = .ok (.invokestatic 44, 3) := by decide +kernel
theorem dX2_scriptLine_165 : decode cX2_scriptLine 165 = .ok (.ireturn, 1) := by decide +kernel
theorem dX2_scriptLine_166 : decode cX2_scriptLine 166 = .ok (.aload_n 0, 1) := by decide +kernel
theorem dX2_scriptLine_167 : decode cX2_scriptLine 167 = .ok (.iload_n 3, 1) := by decide +kernel
theorem dX2_scriptLine_168 : decode cX2_scriptLine 168 = .ok (.invokestatic 48, 3) := by decide +kernel
theorem dX2_scriptLine_171 : decode cX2_scriptLine 171 = .ok (.ireturn, 1) := by decide +kernel
theorem dX2_isKind_0 : decode cX2_isKind 0 = .ok (.iload_n 0, 1) := by decide +kernel
theorem dX2_isKind_1 : decode cX2_isKind 1 = .ok (.bipush 62, 2) := by decide +kernel
theorem dX2_isKind_3 : decode cX2_isKind 3 = .ok (.if_icmp .eq 45, 3) := by decide +kernel
theorem dX2_isKind_6 : decode cX2_isKind 6 = .ok (.iload_n 0, 1) := by decide +kernel
theorem dX2_isKind_7 : decode cX2_isKind 7 = .ok (.bipush 61, 2) := by decide +kernel
theorem dX2_isKind_9 : decode cX2_isKind 9 = .ok (.if_icmp .eq 39, 3) := by decide +kernel
theorem dX2_isKind_12 : decode cX2_isKind 12 = .ok (.iload_n 0, 1) := by decide +kernel
theorem dX2_isKind_13 : decode cX2_isKind 13 = .ok (.bipush 63, 2) := by decide +kernel
theorem dX2_isKind_15 : decode cX2_isKind 15 = .ok (.if_icmp .eq 33, 3) := by decide +kernel
theorem dX2_isKind_18 : decode cX2_isKind 18 = .ok (.iload_n 0, 1) := by decide +kernel
theorem dX2_isKind_19 : decode cX2_isKind 19 = .ok (.bipush 64, 2) := by decide +kernel
theorem dX2_isKind_21 : decode cX2_isKind 21 = .ok (.if_icmp .eq 27, 3) := by decide +kernel
theorem dX2_isKind_24 : decode cX2_isKind 24 = .ok (.iload_n 0, 1) := by decide +kernel
theorem dX2_isKind_25 : decode cX2_isKind 25 = .ok (.bipush 33, 2) := by decide +kernel
theorem dX2_isKind_27 : decode cX2_isKind 27 = .ok (.if_icmp .eq 21, 3) := by decide +kernel
theorem dX2_isKind_30 : decode cX2_isKind 30 = .ok (.iload_n 0, 1) := by decide +kernel
theorem dX2_isKind_31 : decode cX2_isKind 31 = .ok (.bipush 115, 2) := by decide +kernel
theorem dX2_isKind_33 : decode cX2_isKind 33 = .ok (.if_icmp .eq 15, 3) := by decide +kernel
theorem dX2_isKind_36 : decode cX2_isKind 36 = .ok (.iload_n 0, 1) := by decide +kernel
theorem dX2_isKind_37 : decode cX2_isKind 37 = .ok (.bipush 98, 2) := by decide +kernel
theorem dX2_isKind_39 : decode cX2_isKind 39 = .ok (.if_icmp .eq 9, 3) := by decide +kernel
theorem dX2_isKind_42 : decode cX2_isKind 42 = .ok (.iload_n 0, 1) := by decide +kernel
theorem dX2_isKind_43 : decode cX2_isKind 43 = .ok (.bipush 35, 2) := by decide +kernel
theorem dX2_isKind_45 : decode cX2_isKind 45 = .ok (.if_icmp .ne 7, 3) := by decide +kernel
theorem dX2_isKind_48 : decode cX2_isKind 48 = .ok (.iconst 1, 1) := by decide +kernel
theorem dX2_isKind_49 : decode cX2_isKind 49 = .ok (.goto 4, 3) := by decide +kernel
theorem dX2_isKind_52 : decode cX2_isKind 52 = .ok (.iconst 0, 1) := by decide +kernel
theorem dX2_isKind_53 : decode cX2_isKind 53 = .ok (.ireturn, 1) := by decide +kernel
theorem dX2_words_0 : decode cX2_words 0 = .ok (.iload_n 1, 1) := by decide +kernel
theorem dX2_words_1 : decode cX2_words 1 = .ok (.istore_n 2, 1) := by decide +kernel
theorem dX2_words_2 : decode cX2_words 2 = .ok (.iconst 0, 1) := by decide +kernel
theorem dX2_words_3 : decode cX2_words 3 = .ok (.istore_n 3, 1) := by decide +kernel
theorem dX2_words_4 : decode cX2_words 4 = .ok (.iload_n 3, 1) := by decide +kernel
theorem dX2_words_5 : decode cX2_words 5 = .ok (.sipush 600, 3) := by decide +kernel
theorem dX2_words_8 : decode cX2_words 8 = .ok (.if_icmp .ge 57, 3) := by decide +kernel
theorem dX2_words_11 : decode cX2_words 11 = .ok (.aload_n 0, 1) := by decide +kernel
theorem dX2_words_12 : decode cX2_words 12 = .ok (.iload_n 2, 1) := by decide +kernel
theorem dX2_words_13 : decode cX2_words 13 = .ok (.invokestatic 51, 3) := by decide +kernel
theorem dX2_words_16 : decode cX2_words 16 = .ok (.istore 4, 2) := by decide +kernel
theorem dX2_words_18 : decode cX2_words 18 = .ok (.iload 4, 2) := by decide +kernel
theorem dX2_words_20 : decode cX2_words 20 = .ok (.ifCond .lt 15, 3) := by decide +kernel
theorem dX2_words_23 : decode cX2_words 23 = .ok (.aload_n 0, 1) := by decide +kernel
theorem dX2_words_24 : decode cX2_words 24 = .ok (.iload 4, 2) := by decide +kernel
theorem dX2_words_26 : decode cX2_words 26 = .ok (.invokevirtual 15, 3) := by decide +kernel
theorem dX2_words_29 : decode cX2_words 29 = .ok (.invokestatic 54, 3) := by decide +kernel
theorem dX2_words_32 : decode cX2_words 32 = .ok (.ifCond .eq 6, 3) := by decide +kernel
theorem dX2_words_35 : decode cX2_words 35 = .ok (.iload 4, 2) := by decide +kernel
theorem dX2_words_37 : decode cX2_words 37 = .ok (.ireturn, 1) := by decide +kernel
theorem dX2_words_38 : decode cX2_words 38 = .ok (.aload_n 0, 1) := by decide +kernel
theorem dX2_words_39 : decode cX2_words 39 = .ok (.iload 4, 2) := by decide +kernel
theorem dX2_words_41 : decode cX2_words 41 = .ok (.invokevirtual 15, 3) := by decide +kernel
theorem dX2_words_44 : decode cX2_words 44 = .ok (.bipush 32, 2) := by decide +kernel
theorem dX2_words_46 : decode cX2_words 46 = .ok (.if_icmp .eq 8, 3) := by decide +kernel
theorem dX2_words_49 : decode cX2_words 49 = .ok (.iload 4, 2) := by decide +kernel
theorem dX2_words_51 : decode cX2_words 51 = .ok (.iconst (-1), 1) := by decide +kernel
theorem dX2_words_52 : decode cX2_words 52 = .ok (.ixor, 1) := by decide +kernel
theorem dX2_words_53 : decode cX2_words 53 = .ok (.ireturn, 1) := by decide +kernel
theorem dX2_words_54 : decode cX2_words 54 = .ok (.iload 4, 2) := by decide +kernel
theorem dX2_words_56 : decode cX2_words 56 = .ok (.iconst 1, 1) := by decide +kernel
theorem dX2_words_57 : decode cX2_words 57 = .ok (.iadd, 1) := by decide +kernel
theorem dX2_words_58 : decode cX2_words 58 = .ok (.istore_n 2, 1) := by decide +kernel
theorem dX2_words_59 : decode cX2_words 59 = .ok (.iinc 3 1, 3) := by decide +kernel
theorem dX2_words_62 : decode cX2_words 62 = .ok (.goto (-58), 3) := by decide +kernel
theorem dX2_words_65 : decode cX2_words 65 = .ok (.iload_n 2, 1) := by decide +kernel
theorem dX2_words_66 : decode cX2_words 66 = .ok (.iconst (-1), 1) := by decide +kernel
theorem dX2_words_67 : decode cX2_words 67 = .ok (.ixor, 1) := by decide +kernel
theorem dX2_words_68 : decode cX2_words 68 = .ok (.ireturn, 1) := by decide +kernel
theorem dX2_pattern_0 : decode cX2_pattern 0 = .ok (.iload_n 1, 1) := by decide +kernel
theorem dX2_pattern_1 : decode cX2_pattern 1 = .ok (.istore_n 2, 1) := by decide +kernel
theorem dX2_pattern_2 : decode cX2_pattern 2 = .ok (.iload_n 2, 1) := by decide +kernel
theorem dX2_pattern_3 : decode cX2_pattern 3 = .ok (.aload_n 0, 1) := by decide +kernel
theorem dX2_pattern_4 : decode cX2_pattern 4 = .ok (.getfield 9, 3) := by decide +kernel
theorem dX2_pattern_7 : decode cX2_pattern 7 = .ok (.if_icmp .gt 52, 3) := by decide +kernel
theorem dX2_pattern_10 : decode cX2_pattern 10 = .ok (.aload_n 0, 1) := by decide +kernel
theorem dX2_pattern_11 : decode cX2_pattern 11 = .ok (.iload_n 2, 1) := by decide +kernel
theorem dX2_pattern_12 : decode cX2_pattern 12 = .ok (.invokevirtual 15, 3) := by decide +kernel
theorem dX2_pattern_15 : decode cX2_pattern 15 = .ok (.istore_n 3, 1) := by decide +kernel
theorem dX2_pattern_16 : decode cX2_pattern 16 = .ok (.iload_n 3, 1) := by decide +kernel
theorem dX2_pattern_17 : decode cX2_pattern 17 = .ok (.invokestatic 54, 3) := by decide +kernel
theorem dX2_pattern_20 : decode cX2_pattern 20 = .ok (.ifCond .eq 5, 3) := by decide +kernel
theorem dX2_pattern_23 : decode cX2_pattern 23 = .ok (.iload_n 2, 1) := by decide +kernel
theorem dX2_pattern_24 : decode cX2_pattern 24 = .ok (.ireturn, 1) := by decide +kernel
theorem dX2_pattern_25 : decode cX2_pattern 25 = .ok (.aload_n 0, 1) := by decide +kernel
theorem dX2_pattern_26 : decode cX2_pattern 26 = .ok (.iload_n 2, 1) := by decide +kernel
theorem dX2_pattern_27 : decode cX2_pattern 27 = .ok (.iload_n 3, 1) := by decide +kernel
theorem dX2_pattern_28 : decode cX2_pattern 28 = .ok (.invokestatic 57, 3) := by decide +kernel
theorem dX2_pattern_31 : decode cX2_pattern 31 = .ok (.istore 4, 2) := by decide +kernel
theorem dX2_pattern_33 : decode cX2_pattern 33 = .ok (.iload 4, 2) := by decide +kernel
theorem dX2_pattern_35 : decode cX2_pattern 35 = .ok (.ifCond .ge 6, 3) := by decide +kernel
theorem dX2_pattern_38 : decode cX2_pattern 38 = .ok (.iload 4, 2) := by decide +kernel
theorem dX2_pattern_40 : decode cX2_pattern 40 = .ok (.ireturn, 1) := by decide +kernel
theorem dX2_pattern_41 : decode cX2_pattern 41 = .ok (.iload 4, 2) := by decide +kernel
theorem dX2_pattern_43 : decode cX2_pattern 43 = .ok (.iload_n 2, 1) := by decide +kernel
theorem dX2_pattern_44 : decode cX2_pattern 44 = .ok (.if_icmp .le 8, 3) := by decide +kernel
theorem dX2_pattern_47 : decode cX2_pattern 47 = .ok (.iload 4, 2) := by decide +kernel
theorem dX2_pattern_49 : decode cX2_pattern 49 = .ok (.goto 6, 3) := by decide +kernel
theorem dX2_pattern_52 : decode cX2_pattern 52 = .ok (.iload_n 2, 1) := by decide +kernel
theorem dX2_pattern_53 : decode cX2_pattern 53 = .ok (.iconst 1, 1) := by decide +kernel
theorem dX2_pattern_54 : decode cX2_pattern 54 = .ok (.iadd, 1) := by decide +kernel
theorem dX2_pattern_55 : decode cX2_pattern 55 = .ok (.istore_n 2, 1) := by decide +kernel
theorem dX2_pattern_56 : decode cX2_pattern 56 = .ok (.goto (-54), 3) := by decide +kernel
theorem dX2_pattern_59 : decode cX2_pattern 59 = .ok (.iload_n 2, 1) := by decide +kernel
theorem dX2_pattern_60 : decode cX2_pattern 60 = .ok (.iconst (-1), 1) := by decide +kernel
theorem dX2_pattern_61 : decode cX2_pattern 61 = .ok (.ixor, 1) := by decide +kernel
theorem dX2_pattern_62 : decode cX2_pattern 62 = .ok (.ireturn, 1) := by decide +kernel
theorem dX2_patternPart_0 : decode cX2_patternPart 0 = .ok (.iload_n 2, 1) := by decide +kernel
theorem dX2_patternPart_1 : decode cX2_patternPart 1 = .ok (.invokestatic 19, 3) := by decide +kernel
theorem dX2_patternPart_4 : decode cX2_patternPart 4 = .ok (.ifCond .ne 7, 3) := by decide +kernel
theorem dX2_patternPart_7 : decode cX2_patternPart 7 = .ok (.iload_n 1, 1) := by decide +kernel
theorem dX2_patternPart_8 : decode cX2_patternPart 8 = .ok (.iconst (-1), 1) := by decide +kernel
theorem dX2_patternPart_9 : decode cX2_patternPart 9 = .ok (.ixor, 1) := by decide +kernel
theorem dX2_patternPart_10 : decode cX2_patternPart 10 = .ok (.ireturn, 1) := by decide +kernel
theorem dX2_patternPart_11 : decode cX2_patternPart 11 = .ok (.iload_n 2, 1) := by decide +kernel
theorem dX2_patternPart_12 : decode cX2_patternPart 12 = .ok (.bipush 92, 2) := by decide +kernel
theorem dX2_patternPart_14 : decode cX2_patternPart 14 = .ok (.if_icmp .ne 28, 3) := by decide +kernel
theorem dX2_patternPart_17 : decode cX2_patternPart 17 = .ok (.aload_n 0, 1) := by decide +kernel
theorem dX2_patternPart_18 : decode cX2_patternPart 18 = .ok (.iload_n 1, 1) := by decide +kernel
theorem dX2_patternPart_19 : decode cX2_patternPart 19 = .ok (.iconst 1, 1) := by decide +kernel
theorem dX2_patternPart_20 : decode cX2_patternPart 20 = .ok (.iadd, 1) := by decide +kernel
theorem dX2_patternPart_21 : decode cX2_patternPart 21 = .ok (.invokevirtual 15, 3) := by decide +kernel
theorem dX2_patternPart_24 : decode cX2_patternPart 24 = .ok (.invokestatic 19, 3) := by decide +kernel
theorem dX2_patternPart_27 : decode cX2_patternPart 27 = .ok (.ifCond .eq 9, 3) := by decide +kernel
theorem dX2_patternPart_30 : decode cX2_patternPart 30 = .ok (.iload_n 1, 1) := by decide +kernel
theorem dX2_patternPart_31 : decode cX2_patternPart 31 = .ok (.iconst 2, 1) := by decide +kernel
theorem dX2_patternPart_32 : decode cX2_patternPart 32 = .ok (.iadd, 1) := by decide +kernel
theorem dX2_patternPart_33 : decode cX2_patternPart 33 = .ok (.goto 8, 3) := by decide +kernel
theorem dX2_patternPart_36 : decode cX2_patternPart 36 = .ok (.iload_n 1, 1) := by decide +kernel
theorem dX2_patternPart_37 : decode cX2_patternPart 37 = .ok (.iconst 1, 1) := by decide +kernel
theorem dX2_patternPart_38 : decode cX2_patternPart 38 = .ok (.iadd, 1) := by decide +kernel
theorem dX2_patternPart_39 : decode cX2_patternPart 39 = .ok (.iconst (-1), 1) := by decide +kernel
theorem dX2_patternPart_40 : decode cX2_patternPart 40 = .ok (.ixor, 1) := by decide +kernel
theorem dX2_patternPart_41 : decode cX2_patternPart 41 = .ok (.ireturn, 1) := by decide +kernel
theorem dX2_patternPart_42 : decode cX2_patternPart 42 = .ok (.iload_n 2, 1) := by decide +kernel
theorem dX2_patternPart_43 : decode cX2_patternPart 43 = .ok (.bipush 91, 2) := by decide +kernel
theorem dX2_patternPart_45 : decode cX2_patternPart 45 = .ok (.if_icmp .ne 13, 3) := by decide +kernel
theorem dX2_patternPart_48 : decode cX2_patternPart 48 = .ok (.aload_n 0, 1) := by decide +kernel
theorem dX2_patternPart_49 : decode cX2_patternPart 49 = .ok (.iload_n 1, 1) := by decide +kernel
theorem dX2_patternPart_50 : decode cX2_patternPart 50 = .ok (.iconst 1, 1) := by decide +kernel
theorem dX2_patternPart_51 : decode cX2_patternPart 51 = .ok (.iadd, 1) := by decide +kernel
theorem dX2_patternPart_52 : decode cX2_patternPart 52 = .ok (.invokestatic 61, 3) := by decide +kernel
theorem dX2_patternPart_55 : decode cX2_patternPart 55 = .ok (.goto 6, 3) := by decide +kernel
theorem dX2_patternPart_58 : decode cX2_patternPart 58 = .ok (.iload_n 1, 1) := by decide +kernel
theorem dX2_patternPart_59 : decode cX2_patternPart 59 = .ok (.iconst 1, 1) := by decide +kernel
theorem dX2_patternPart_60 : decode cX2_patternPart 60 = .ok (.iadd, 1) := by decide +kernel
theorem dX2_patternPart_61 : decode cX2_patternPart 61 = .ok (.ireturn, 1) := by decide +kernel
theorem dX2_choice_0 : decode cX2_choice 0 = .ok (.iload_n 1, 1) := by decide +kernel
theorem dX2_choice_1 : decode cX2_choice 1 = .ok (.istore_n 2, 1) := by decide +kernel
theorem dX2_choice_2 : decode cX2_choice 2 = .ok (.iload_n 2, 1) := by decide +kernel
theorem dX2_choice_3 : decode cX2_choice 3 = .ok (.aload_n 0, 1) := by decide +kernel
theorem dX2_choice_4 : decode cX2_choice 4 = .ok (.getfield 9, 3) := by decide +kernel
theorem dX2_choice_7 : decode cX2_choice 7 = .ok (.if_icmp .ge 30, 3) := by decide +kernel
theorem dX2_choice_10 : decode cX2_choice 10 = .ok (.aload_n 0, 1) := by decide +kernel
theorem dX2_choice_11 : decode cX2_choice 11 = .ok (.iload_n 2, 1) := by decide +kernel
theorem dX2_choice_12 : decode cX2_choice 12 = .ok (.invokevirtual 15, 3) := by decide +kernel
theorem dX2_choice_15 : decode cX2_choice 15 = .ok (.invokestatic 19, 3) := by decide +kernel
theorem dX2_choice_18 : decode cX2_choice 18 = .ok (.ifCond .eq 19, 3) := by decide +kernel
theorem dX2_choice_21 : decode cX2_choice 21 = .ok (.aload_n 0, 1) := by decide +kernel
theorem dX2_choice_22 : decode cX2_choice 22 = .ok (.iload_n 2, 1) := by decide +kernel
theorem dX2_choice_23 : decode cX2_choice 23 = .ok (.invokevirtual 15, 3) := by decide +kernel
theorem dX2_choice_26 : decode cX2_choice 26 = .ok (.bipush 93, 2) := by decide +kernel
theorem dX2_choice_28 : decode cX2_choice 28 = .ok (.if_icmp .eq 9, 3) := by decide +kernel
theorem dX2_choice_31 : decode cX2_choice 31 = .ok (.iinc 2 1, 3) := by decide +kernel
theorem dX2_choice_34 : decode cX2_choice 34 = .ok (.goto (-32), 3) := by decide +kernel
theorem dX2_choice_37 : decode cX2_choice 37 = .ok (.iload_n 2, 1) := by decide +kernel
theorem dX2_choice_38 : decode cX2_choice 38 = .ok (.iload_n 1, 1) := by decide +kernel
theorem dX2_choice_39 : decode cX2_choice 39 = .ok (.if_icmp .eq 13, 3) := by decide +kernel
theorem dX2_choice_42 : decode cX2_choice 42 = .ok (.aload_n 0, 1) := by decide +kernel
theorem dX2_choice_43 : decode cX2_choice 43 = .ok (.iload_n 2, 1) := by decide +kernel
theorem dX2_choice_44 : decode cX2_choice 44 = .ok (.invokevirtual 15, 3) := by decide +kernel
theorem dX2_choice_47 : decode cX2_choice 47 = .ok (.bipush 93, 2) := by decide +kernel
theorem dX2_choice_49 : decode cX2_choice 49 = .ok (.if_icmp .eq 9, 3) := by decide +kernel
theorem dX2_choice_52 : decode cX2_choice 52 = .ok (.iload_n 2, 1) := by decide +kernel
theorem dX2_choice_53 : decode cX2_choice 53 = .ok (.iconst (-1), 1) := by decide +kernel
theorem dX2_choice_54 : decode cX2_choice 54 = .ok (.ixor, 1) := by decide +kernel
theorem dX2_choice_55 : decode cX2_choice 55 = .ok (.goto 6, 3) := by decide +kernel
theorem dX2_choice_58 : decode cX2_choice 58 = .ok (.iload_n 2, 1) := by decide +kernel
theorem dX2_choice_59 : decode cX2_choice 59 = .ok (.iconst 1, 1) := by decide +kernel
theorem dX2_choice_60 : decode cX2_choice 60 = .ok (.iadd, 1) := by decide +kernel
theorem dX2_choice_61 : decode cX2_choice 61 = .ok (.ireturn, 1) := by decide +kernel
theorem dX2_flagAndNumber_0 : decode cX2_flagAndNumber 0 = .ok (.aload_n 0, 1) := by decide +kernel
theorem dX2_flagAndNumber_1 : decode cX2_flagAndNumber 1 = .ok (.iload_n 1, 1) := by decide +kernel
theorem dX2_flagAndNumber_2 : decode cX2_flagAndNumber 2 = .ok (.invokevirtual 15, 3) := by decide +kernel
theorem dX2_flagAndNumber_5 : decode cX2_flagAndNumber 5 = .ok (.bipush 48, 2) := by decide +kernel
theorem dX2_flagAndNumber_7 : decode cX2_flagAndNumber 7 = .ok (.bipush 55, 2) := by decide +kernel
theorem dX2_flagAndNumber_9 : decode cX2_flagAndNumber 9 = .ok (.invokestatic 64, 3) := by decide +kernel
theorem dX2_flagAndNumber_12 : decode cX2_flagAndNumber 12 = .ok (.ifCond .ne 7, 3) := by decide +kernel
theorem dX2_flagAndNumber_15 : decode cX2_flagAndNumber 15 = .ok (.iload_n 1, 1) := by decide +kernel
theorem dX2_flagAndNumber_16 : decode cX2_flagAndNumber 16 = .ok (.iconst (-1), 1) := by decide +kernel
theorem dX2_flagAndNumber_17 : decode cX2_flagAndNumber 17 = .ok (.ixor, 1) := by decide +kernel
theorem dX2_flagAndNumber_18 : decode cX2_flagAndNumber 18 = .ok (.ireturn, 1) := by decide +kernel
theorem dX2_flagAndNumber_19 : decode cX2_flagAndNumber 19 = .ok (.aload_n 0, 1) := by decide +kernel
theorem dX2_flagAndNumber_20 : decode cX2_flagAndNumber 20 = .ok (.iload_n 1, 1) := by decide +kernel
theorem dX2_flagAndNumber_21 : decode cX2_flagAndNumber 21 = .ok (.iconst 1, 1) := by decide +kernel
theorem dX2_flagAndNumber_22 : decode cX2_flagAndNumber 22 = .ok (.iadd, 1) := by decide +kernel
theorem dX2_flagAndNumber_23 : decode cX2_flagAndNumber 23 = .ok (.invokevirtual 15, 3) := by decide +kernel
theorem dX2_flagAndNumber_26 : decode cX2_flagAndNumber 26 = .ok (.bipush 32, 2) := by decide +kernel
theorem dX2_flagAndNumber_28 : decode cX2_flagAndNumber 28 = .ok (.if_icmp .eq 9, 3) := by decide +kernel
theorem dX2_flagAndNumber_31 : decode cX2_flagAndNumber 31 = .ok (.iload_n 1, 1) := by decide +kernel
theorem dX2_flagAndNumber_32 : decode cX2_flagAndNumber 32 = .ok (.iconst 1, 1) := by decide +kernel
theorem dX2_flagAndNumber_33 : decode cX2_flagAndNumber 33 = .ok (.iadd, 1) := by decide +kernel
theorem dX2_flagAndNumber_34 : decode cX2_flagAndNumber 34 = .ok (.iconst (-1), 1) := by decide +kernel
theorem dX2_flagAndNumber_35 : decode cX2_flagAndNumber 35 = .ok (.ixor, 1) := by decide +kernel
theorem dX2_flagAndNumber_36 : decode cX2_flagAndNumber 36 = .ok (.ireturn, 1) := by decide +kernel
theorem dX2_flagAndNumber_37 : decode cX2_flagAndNumber 37 = .ok (.aload_n 0, 1) := by decide +kernel
theorem dX2_flagAndNumber_38 : decode cX2_flagAndNumber 38 = .ok (.iload_n 1, 1) := by decide +kernel
theorem dX2_flagAndNumber_39 : decode cX2_flagAndNumber 39 = .ok (.iconst 2, 1) := by decide +kernel
theorem dX2_flagAndNumber_40 : decode cX2_flagAndNumber 40 = .ok (.iadd, 1) := by decide +kernel
theorem dX2_flagAndNumber_41 : decode cX2_flagAndNumber 41 = .ok (.invokevirtual 15, 3) := by decide +kernel
theorem dX2_flagAndNumber_44 : decode cX2_flagAndNumber 44 = .ok (.bipush 45, 2) := by decide +kernel
theorem dX2_flagAndNumber_46 : decode cX2_flagAndNumber 46 = .ok (.if_icmp .ne 9, 3) := by decide +kernel
theorem dX2_flagAndNumber_49 : decode cX2_flagAndNumber 49 = .ok (.iload_n 1, 1) := by decide +kernel
theorem dX2_flagAndNumber_50 : decode cX2_flagAndNumber 50 = .ok (.iconst 3, 1) := by decide +kernel
theorem dX2_flagAndNumber_51 : decode cX2_flagAndNumber 51 = .ok (.iadd, 1) := by decide +kernel
theorem dX2_flagAndNumber_52 : decode cX2_flagAndNumber 52 = .ok (.goto 6, 3) := by decide +kernel
theorem dX2_flagAndNumber_55 : decode cX2_flagAndNumber 55 = .ok (.iload_n 1, 1) := by decide +kernel
theorem dX2_flagAndNumber_56 : decode cX2_flagAndNumber 56 = .ok (.iconst 2, 1) := by decide +kernel
theorem dX2_flagAndNumber_57 : decode cX2_flagAndNumber 57 = .ok (.iadd, 1) := by decide +kernel
theorem dX2_flagAndNumber_58 : decode cX2_flagAndNumber 58 = .ok (.istore_n 2, 1) := by decide +kernel
theorem dX2_flagAndNumber_59 : decode cX2_flagAndNumber 59 = .ok (.iconst 0, 1) := by decide +kernel
theorem dX2_flagAndNumber_60 : decode cX2_flagAndNumber 60 = .ok (.istore_n 3, 1) := by decide +kernel
theorem dX2_flagAndNumber_61 : decode cX2_flagAndNumber 61 = .ok (.iload_n 3, 1) := by decide +kernel
theorem dX2_flagAndNumber_62 : decode cX2_flagAndNumber 62 = .ok (.bipush 6, 2) := by decide +kernel
theorem dX2_flagAndNumber_64 : decode cX2_flagAndNumber 64 = .ok (.if_icmp .ge 26, 3) := by decide +kernel
theorem dX2_flagAndNumber_67 : decode cX2_flagAndNumber 67 = .ok (.aload_n 0, 1) := by decide +kernel
theorem dX2_flagAndNumber_68 : decode cX2_flagAndNumber 68 = .ok (.iload_n 2, 1) := by decide +kernel
theorem dX2_flagAndNumber_69 : decode cX2_flagAndNumber 69 = .ok (.iload_n 3, 1) := by decide +kernel
theorem dX2_flagAndNumber_70 : decode cX2_flagAndNumber 70 = .ok (.iadd, 1) := by decide +kernel
theorem dX2_flagAndNumber_71 : decode cX2_flagAndNumber 71 = .ok (.invokevirtual 15, 3) := by decide +kernel
theorem dX2_flagAndNumber_74 : decode cX2_flagAndNumber 74 = .ok (.bipush 48, 2) := by decide +kernel
theorem dX2_flagAndNumber_76 : decode cX2_flagAndNumber 76 = .ok (.bipush 57, 2) := by decide +kernel
theorem dX2_flagAndNumber_78 : decode cX2_flagAndNumber 78 = .ok (.invokestatic 64, 3) := by decide +kernel
theorem dX2_flagAndNumber_81 : decode cX2_flagAndNumber 81 = .ok (.ifCond .eq 9, 3) := by decide +kernel
theorem dX2_flagAndNumber_84 : decode cX2_flagAndNumber 84 = .ok (.iinc 3 1, 3) := by decide +kernel
theorem dX2_flagAndNumber_87 : decode cX2_flagAndNumber 87 = .ok (.goto (-26), 3) := by decide +kernel
theorem dX2_flagAndNumber_90 : decode cX2_flagAndNumber 90 = .ok (.iload_n 2, 1) := by decide +kernel
theorem dX2_flagAndNumber_91 : decode cX2_flagAndNumber 91 = .ok (.iload_n 3, 1) := by decide +kernel
theorem dX2_flagAndNumber_92 : decode cX2_flagAndNumber 92 = .ok (.iadd, 1) := by decide +kernel
theorem dX2_flagAndNumber_93 : decode cX2_flagAndNumber 93 = .ok (.istore 4, 2) := by decide +kernel
theorem dX2_flagAndNumber_95 : decode cX2_flagAndNumber 95 = .ok (.iload_n 3, 1) := by decide +kernel
theorem dX2_flagAndNumber_96 : decode cX2_flagAndNumber 96 = .ok (.ifCond .le 20, 3) := by decide +kernel
theorem dX2_flagAndNumber_99 : decode cX2_flagAndNumber 99 = .ok (.aload_n 0, 1) := by decide +kernel
theorem dX2_flagAndNumber_100 : decode cX2_flagAndNumber 100 = .ok (.iload 4, 2) := by decide +kernel
theorem dX2_flagAndNumber_102 : decode cX2_flagAndNumber 102 = .ok (.invokevirtual 15, 3) := by decide +kernel
theorem dX2_flagAndNumber_105 : decode cX2_flagAndNumber 105 = .ok (.invokestatic 54, 3) := by decide +kernel
theorem dX2_flagAndNumber_108 : decode cX2_flagAndNumber 108 = .ok (.ifCond .eq 8, 3) := by decide +kernel
theorem dX2_flagAndNumber_111 : decode cX2_flagAndNumber 111 = .ok (.iload 4, 2) := by decide +kernel
theorem dX2_flagAndNumber_113 : decode cX2_flagAndNumber 113 = .ok (.goto 7, 3) := by decide +kernel
theorem dX2_flagAndNumber_116 : decode cX2_flagAndNumber 116 = .ok (.iload 4, 2) := by decide +kernel
theorem dX2_flagAndNumber_118 : decode cX2_flagAndNumber 118 = .ok (.iconst (-1), 1) := by decide +kernel
theorem dX2_flagAndNumber_119 : decode cX2_flagAndNumber 119 = .ok (.ixor, 1) := by decide +kernel
theorem dX2_flagAndNumber_120 : decode cX2_flagAndNumber 120 = .ok (.ireturn, 1) := by decide +kernel
theorem dX2_onlyDigit_0 : decode cX2_onlyDigit 0 = .ok (.aload_n 0, 1) := by decide +kernel
theorem dX2_onlyDigit_1 : decode cX2_onlyDigit 1 = .ok (.iload_n 1, 1) := by decide +kernel
theorem dX2_onlyDigit_2 : decode cX2_onlyDigit 2 = .ok (.invokevirtual 15, 3) := by decide +kernel
theorem dX2_onlyDigit_5 : decode cX2_onlyDigit 5 = .ok (.iload_n 2, 1) := by decide +kernel
theorem dX2_onlyDigit_6 : decode cX2_onlyDigit 6 = .ok (.iload_n 3, 1) := by decide +kernel
theorem dX2_onlyDigit_7 : decode cX2_onlyDigit 7 = .ok (.invokestatic 64, 3) := by decide +kernel
theorem dX2_onlyDigit_10 : decode cX2_onlyDigit 10 = .ok (.ifCond .ne 7, 3) := by decide +kernel
theorem dX2_onlyDigit_13 : decode cX2_onlyDigit 13 = .ok (.iload_n 1, 1) := by decide +kernel
theorem dX2_onlyDigit_14 : decode cX2_onlyDigit 14 = .ok (.iconst (-1), 1) := by decide +kernel
theorem dX2_onlyDigit_15 : decode cX2_onlyDigit 15 = .ok (.ixor, 1) := by decide +kernel
theorem dX2_onlyDigit_16 : decode cX2_onlyDigit 16 = .ok (.ireturn, 1) := by decide +kernel
theorem dX2_onlyDigit_17 : decode cX2_onlyDigit 17 = .ok (.aload_n 0, 1) := by decide +kernel
theorem dX2_onlyDigit_18 : decode cX2_onlyDigit 18 = .ok (.iload_n 1, 1) := by decide +kernel
theorem dX2_onlyDigit_19 : decode cX2_onlyDigit 19 = .ok (.iconst 1, 1) := by decide +kernel
theorem dX2_onlyDigit_20 : decode cX2_onlyDigit 20 = .ok (.iadd, 1) := by decide +kernel
theorem dX2_onlyDigit_21 : decode cX2_onlyDigit 21 = .ok (.invokevirtual 15, 3) := by decide +kernel
theorem dX2_onlyDigit_24 : decode cX2_onlyDigit 24 = .ok (.invokestatic 54, 3) := by decide +kernel
theorem dX2_onlyDigit_27 : decode cX2_onlyDigit 27 = .ok (.ifCond .eq 9, 3) := by decide +kernel
theorem dX2_onlyDigit_30 : decode cX2_onlyDigit 30 = .ok (.iload_n 1, 1) := by decide +kernel
theorem dX2_onlyDigit_31 : decode cX2_onlyDigit 31 = .ok (.iconst 1, 1) := by decide +kernel
theorem dX2_onlyDigit_32 : decode cX2_onlyDigit 32 = .ok (.iadd, 1) := by decide +kernel
theorem dX2_onlyDigit_33 : decode cX2_onlyDigit 33 = .ok (.goto 8, 3) := by decide +kernel
theorem dX2_onlyDigit_36 : decode cX2_onlyDigit 36 = .ok (.iload_n 1, 1) := by decide +kernel
theorem dX2_onlyDigit_37 : decode cX2_onlyDigit 37 = .ok (.iconst 1, 1) := by decide +kernel
theorem dX2_onlyDigit_38 : decode cX2_onlyDigit 38 = .ok (.iadd, 1) := by decide +kernel
theorem dX2_onlyDigit_39 : decode cX2_onlyDigit 39 = .ok (.iconst (-1), 1) := by decide +kernel
theorem dX2_onlyDigit_40 : decode cX2_onlyDigit 40 = .ok (.ixor, 1) := by decide +kernel
theorem dX2_onlyDigit_41 : decode cX2_onlyDigit 41 = .ok (.ireturn, 1) := by decide +kernel
theorem dX2_isDigit_0 : decode cX2_isDigit 0 = .ok (.iload_n 0, 1) := by decide +kernel
theorem dX2_isDigit_1 : decode cX2_isDigit 1 = .ok (.iload_n 1, 1) := by decide +kernel
theorem dX2_isDigit_2 : decode cX2_isDigit 2 = .ok (.if_icmp .lt 12, 3) := by decide +kernel
theorem dX2_isDigit_5 : decode cX2_isDigit 5 = .ok (.iload_n 0, 1) := by decide +kernel
theorem dX2_isDigit_6 : decode cX2_isDigit 6 = .ok (.iload_n 2, 1) := by decide +kernel
theorem dX2_isDigit_7 : decode cX2_isDigit 7 = .ok (.if_icmp .gt 7, 3) := by decide +kernel
theorem dX2_isDigit_10 : decode cX2_isDigit 10 = .ok (.iconst 1, 1) := by decide +kernel
theorem dX2_isDigit_11 : decode cX2_isDigit 11 = .ok (.goto 4, 3) := by decide +kernel
theorem dX2_isDigit_14 : decode cX2_isDigit 14 = .ok (.iconst 0, 1) := by decide +kernel
theorem dX2_isDigit_15 : decode cX2_isDigit 15 = .ok (.ireturn, 1) := by decide +kernel
theorem dX2_wrongInTranscript_0 : decode cX2_wrongInTranscript 0 = .ok (.iconst 0, 1) := by decide +kernel
theorem dX2_wrongInTranscript_1 : decode cX2_wrongInTranscript 1 = .ok (.istore_n 1, 1) := by decide +kernel
theorem dX2_wrongInTranscript_2 : decode cX2_wrongInTranscript 2 = .ok (.iconst 1, 1) := by decide +kernel
theorem dX2_wrongInTranscript_3 : decode cX2_wrongInTranscript 3 = .ok (.istore_n 2, 1) := by decide +kernel
theorem dX2_wrongInTranscript_4 : decode cX2_wrongInTranscript 4 = .ok (.iload_n 2, 1) := by decide +kernel
theorem dX2_wrongInTranscript_5 : decode cX2_wrongInTranscript 5 = .ok (.bipush 40, 2) := by decide +kernel
theorem dX2_wrongInTranscript_7 : decode cX2_wrongInTranscript 7 = .ok (.if_icmp .gt 75, 3) := by decide +kernel
theorem dX2_wrongInTranscript_10 : decode cX2_wrongInTranscript 10 = .ok (.iload_n 1, 1) := by decide +kernel
theorem dX2_wrongInTranscript_11 : decode cX2_wrongInTranscript 11 = .ok (.aload_n 0, 1) := by decide +kernel
theorem dX2_wrongInTranscript_12 : decode cX2_wrongInTranscript 12 = .ok (.getfield 9, 3) := by decide +kernel
theorem dX2_wrongInTranscript_15 : decode cX2_wrongInTranscript 15 = .ok (.if_icmp .ge 67, 3) := by decide +kernel
theorem dX2_wrongInTranscript_18 : decode cX2_wrongInTranscript 18 = .ok (.aload_n 0, 1) := by decide +kernel
theorem dX2_wrongInTranscript_19 : decode cX2_wrongInTranscript 19 = .ok (.iload_n 1, 1) := by decide +kernel
theorem dX2_wrongInTranscript_20 : decode cX2_wrongInTranscript 20 = .ok (.invokestatic 68, 3) := by decide +kernel
theorem dX2_wrongInTranscript_23 : decode cX2_wrongInTranscript 23 = .ok (.istore_n 3, 1) := by decide +kernel
theorem dX2_wrongInTranscript_24 : decode cX2_wrongInTranscript 24 = .ok (.iload_n 3, 1) := by decide +kernel
theorem dX2_wrongInTranscript_25 : decode cX2_wrongInTranscript 25 = .ok (.ifCond .ge 7, 3) := by decide +kernel
theorem dX2_wrongInTranscript_28 : decode cX2_wrongInTranscript 28 = .ok (.iload_n 3, 1) := by decide +kernel
theorem dX2_wrongInTranscript_29 : decode cX2_wrongInTranscript 29 = .ok (.iconst (-1), 1) := by decide +kernel
theorem dX2_wrongInTranscript_30 : decode cX2_wrongInTranscript 30 = .ok (.ixor, 1) := by decide +kernel
theorem dX2_wrongInTranscript_31 : decode cX2_wrongInTranscript 31 = .ok (.ireturn, 1) := by decide +kernel
theorem dX2_wrongInTranscript_32 : decode cX2_wrongInTranscript 32 = .ok (.iload_n 3, 1) := by decide +kernel
theorem dX2_wrongInTranscript_33 : decode cX2_wrongInTranscript 33 = .ok (.iconst 1, 1) := by decide +kernel
theorem dX2_wrongInTranscript_34 : decode cX2_wrongInTranscript 34 = .ok (.iadd, 1) := by decide +kernel
theorem dX2_wrongInTranscript_35 : decode cX2_wrongInTranscript 35 = .ok (.aload_n 0, 1) := by decide +kernel
theorem dX2_wrongInTranscript_36 : decode cX2_wrongInTranscript 36 = .ok (.getfield 9, 3) := by decide +kernel
theorem dX2_wrongInTranscript_39 : decode cX2_wrongInTranscript 39 = .ok (.if_icmp .lt 8, 3) := by decide +kernel
theorem dX2_wrongInTranscript_42 : decode cX2_wrongInTranscript 42 = .ok (.aload_n 0, 1) := by decide +kernel
theorem dX2_wrongInTranscript_43 : decode cX2_wrongInTranscript 43 = .ok (.getfield 9, 3) := by decide +kernel
theorem dX2_wrongInTranscript_46 : decode cX2_wrongInTranscript 46 = .ok (.ireturn, 1) := by decide +kernel
theorem dX2_wrongInTranscript_47 : decode cX2_wrongInTranscript 47 = .ok (.aload_n 0, 1) := by decide +kernel
theorem dX2_wrongInTranscript_48 : decode cX2_wrongInTranscript 48 = .ok (.iload_n 3, 1) := by decide +kernel
theorem dX2_wrongInTranscript_49 : decode cX2_wrongInTranscript 49 = .ok (.iconst 1, 1) := by decide +kernel
theorem dX2_wrongInTranscript_50 : decode cX2_wrongInTranscript 50 = .ok (.iadd, 1) := by decide +kernel
theorem dX2_wrongInTranscript_51 : decode cX2_wrongInTranscript 51 = .ok (.invokestatic 71, 3) := by decide +kernel
theorem dX2_wrongInTranscript_54 : decode cX2_wrongInTranscript 54 = .ok (.istore 4, 2) := by decide +kernel
theorem dX2_wrongInTranscript_56 : decode cX2_wrongInTranscript 56 = .ok (.aload_n 0, 1) := by decide +kernel
theorem dX2_wrongInTranscript_57 : decode cX2_wrongInTranscript 57 = .ok (.iload 4, 2) := by decide +kernel
theorem dX2_wrongInTranscript_59 : decode cX2_wrongInTranscript 59 = .ok (.invokevirtual 15, 3) := by decide +kernel
theorem dX2_wrongInTranscript_62 : decode cX2_wrongInTranscript 62 = .ok (.invokestatic 54, 3) := by decide +kernel
theorem dX2_wrongInTranscript_65 : decode cX2_wrongInTranscript 65 = .ok (.ifCond .ne 6, 3) := by decide +kernel
theorem dX2_wrongInTranscript_68 : decode cX2_wrongInTranscript 68 = .ok (.iload 4, 2) := by decide +kernel
theorem dX2_wrongInTranscript_70 : decode cX2_wrongInTranscript 70 = .ok (.ireturn, 1) := by decide +kernel
theorem dX2_wrongInTranscript_71 : decode cX2_wrongInTranscript 71 = .ok (.iload 4, 2) := by decide +kernel
theorem dX2_wrongInTranscript_73 : decode cX2_wrongInTranscript 73 = .ok (.iconst 1, 1) := by decide +kernel
theorem dX2_wrongInTranscript_74 : decode cX2_wrongInTranscript 74 = .ok (.iadd, 1) := by decide +kernel
theorem dX2_wrongInTranscript_75 : decode cX2_wrongInTranscript 75 = .ok (.istore_n 1, 1) := by decide +kernel
theorem dX2_wrongInTranscript_76 : decode cX2_wrongInTranscript 76 = .ok (.iinc 2 2, 3) := by decide +kernel
theorem dX2_wrongInTranscript_79 : decode cX2_wrongInTranscript 79 = .ok (.goto (-75), 3) := by decide +kernel
theorem dX2_wrongInTranscript_82 : decode cX2_wrongInTranscript 82 = .ok (.iload_n 1, 1) := by decide +kernel
theorem dX2_wrongInTranscript_83 : decode cX2_wrongInTranscript 83 = .ok (.aload_n 0, 1) := by decide +kernel
theorem dX2_wrongInTranscript_84 : decode cX2_wrongInTranscript 84 = .ok (.getfield 9, 3) := by decide +kernel
theorem dX2_wrongInTranscript_87 : decode cX2_wrongInTranscript 87 = .ok (.if_icmp .ge 7, 3) := by decide +kernel
theorem dX2_wrongInTranscript_90 : decode cX2_wrongInTranscript 90 = .ok (.iload_n 1, 1) := by decide +kernel
theorem dX2_wrongInTranscript_91 : decode cX2_wrongInTranscript 91 = .ok (.goto 4, 3) := by decide +kernel
theorem dX2_wrongInTranscript_94 : decode cX2_wrongInTranscript 94 = .ok (.iconst (-1), 1) := by decide +kernel
theorem dX2_wrongInTranscript_95 : decode cX2_wrongInTranscript 95 = .ok (.ireturn, 1) := by decide +kernel
theorem dX2_transcriptWord_0 : decode cX2_transcriptWord 0 = .ok (.aload_n 0, 1) := by decide +kernel
theorem dX2_transcriptWord_1 : decode cX2_transcriptWord 1 = .ok (.iload_n 1, 1) := by decide +kernel
theorem dX2_transcriptWord_2 : decode cX2_transcriptWord 2 = .ok (.invokevirtual 15, 3) := by decide +kernel
theorem dX2_transcriptWord_5 : decode cX2_transcriptWord 5 = .ok (.bipush 62, 2) := by decide +kernel
theorem dX2_transcriptWord_7 : decode cX2_transcriptWord 7 = .ok (.if_icmp .eq 7, 3) := by decide +kernel
theorem dX2_transcriptWord_10 : decode cX2_transcriptWord 10 = .ok (.iload_n 1, 1) := by decide +kernel
theorem dX2_transcriptWord_11 : decode cX2_transcriptWord 11 = .ok (.iconst (-1), 1) := by decide +kernel
theorem dX2_transcriptWord_12 : decode cX2_transcriptWord 12 = .ok (.ixor, 1) := by decide +kernel
theorem dX2_transcriptWord_13 : decode cX2_transcriptWord 13 = .ok (.ireturn, 1) := by decide +kernel
theorem dX2_transcriptWord_14 : decode cX2_transcriptWord 14 = .ok (.aload_n 0, 1) := by decide +kernel
theorem dX2_transcriptWord_15 : decode cX2_transcriptWord 15 = .ok (.iload_n 1, 1) := by decide +kernel
theorem dX2_transcriptWord_16 : decode cX2_transcriptWord 16 = .ok (.iconst 1, 1) := by decide +kernel
theorem dX2_transcriptWord_17 : decode cX2_transcriptWord 17 = .ok (.iadd, 1) := by decide +kernel
theorem dX2_transcriptWord_18 : decode cX2_transcriptWord 18 = .ok (.invokevirtual 15, 3) := by decide +kernel
theorem dX2_transcriptWord_21 : decode cX2_transcriptWord 21 = .ok (.bipush 32, 2) := by decide +kernel
theorem dX2_transcriptWord_23 : decode cX2_transcriptWord 23 = .ok (.if_icmp .eq 9, 3) := by decide +kernel
theorem dX2_transcriptWord_26 : decode cX2_transcriptWord 26 = .ok (.iload_n 1, 1) := by decide +kernel
theorem dX2_transcriptWord_27 : decode cX2_transcriptWord 27 = .ok (.iconst 1, 1) := by decide +kernel
theorem dX2_transcriptWord_28 : decode cX2_transcriptWord 28 = .ok (.iadd, 1) := by decide +kernel
theorem dX2_transcriptWord_29 : decode cX2_transcriptWord 29 = .ok (.iconst (-1), 1) := by decide +kernel
theorem dX2_transcriptWord_30 : decode cX2_transcriptWord 30 = .ok (.ixor, 1) := by decide +kernel
theorem dX2_transcriptWord_31 : decode cX2_transcriptWord 31 = .ok (.ireturn, 1) := by decide +kernel
theorem dX2_transcriptWord_32 : decode cX2_transcriptWord 32 = .ok (.aload_n 0, 1) := by decide +kernel
theorem dX2_transcriptWord_33 : decode cX2_transcriptWord 33 = .ok (.iload_n 1, 1) := by decide +kernel
theorem dX2_transcriptWord_34 : decode cX2_transcriptWord 34 = .ok (.iconst 2, 1) := by decide +kernel
theorem dX2_transcriptWord_35 : decode cX2_transcriptWord 35 = .ok (.iadd, 1) := by decide +kernel
theorem dX2_transcriptWord_36 : decode cX2_transcriptWord 36 = .ok (.invokestatic 51, 3) := by decide +kernel
theorem dX2_transcriptWord_39 : decode cX2_transcriptWord 39 = .ok (.istore_n 2, 1) := by decide +kernel
theorem dX2_transcriptWord_40 : decode cX2_transcriptWord 40 = .ok (.iload_n 2, 1) := by decide +kernel
theorem dX2_transcriptWord_41 : decode cX2_transcriptWord 41 = .ok (.ifCond .lt 14, 3) := by decide +kernel
theorem dX2_transcriptWord_44 : decode cX2_transcriptWord 44 = .ok (.aload_n 0, 1) := by decide +kernel
theorem dX2_transcriptWord_45 : decode cX2_transcriptWord 45 = .ok (.iload_n 2, 1) := by decide +kernel
theorem dX2_transcriptWord_46 : decode cX2_transcriptWord 46 = .ok (.invokevirtual 15, 3) := by decide +kernel
theorem dX2_transcriptWord_49 : decode cX2_transcriptWord 49 = .ok (.invokestatic 54, 3) := by decide +kernel
theorem dX2_transcriptWord_52 : decode cX2_transcriptWord 52 = .ok (.ifCond .eq 7, 3) := by decide +kernel
theorem dX2_transcriptWord_55 : decode cX2_transcriptWord 55 = .ok (.iload_n 2, 1) := by decide +kernel
theorem dX2_transcriptWord_56 : decode cX2_transcriptWord 56 = .ok (.goto 6, 3) := by decide +kernel
theorem dX2_transcriptWord_59 : decode cX2_transcriptWord 59 = .ok (.iload_n 2, 1) := by decide +kernel
theorem dX2_transcriptWord_60 : decode cX2_transcriptWord 60 = .ok (.iconst (-1), 1) := by decide +kernel
theorem dX2_transcriptWord_61 : decode cX2_transcriptWord 61 = .ok (.ixor, 1) := by decide +kernel
theorem dX2_transcriptWord_62 : decode cX2_transcriptWord 62 = .ok (.ireturn, 1) := by decide +kernel
theorem dX3_init_0 : decode cX3_init 0 = .ok (.aload_n 0, 1) := by decide +kernel
theorem dX3_init_1 : decode cX3_init 1 = .ok (.invokespecial 3, 3) := by decide +kernel
theorem dX3_init_4 : decode cX3_init 4 = .ok (.aload_n 0, 1) := by decide +kernel
theorem dX3_init_5 : decode cX3_init 5 = .ok (.iconst 4, 1) := by decide +kernel
theorem dX3_init_6 : decode cX3_init 6 = .ok (.newarray .int, 2) := by decide +kernel
theorem dX3_init_8 : decode cX3_init 8 = .ok (.putfield 9, 3) := by decide +kernel
theorem dX3_init_11 : decode cX3_init 11 = .ok (.aload_n 0, 1) := by decide +kernel
theorem dX3_init_12 : decode cX3_init 12 = .ok (.iconst 0, 1) := by decide +kernel
theorem dX3_init_13 : decode cX3_init 13 = .ok (.putfield 15, 3) := by decide +kernel
theorem dX3_init_16 : decode cX3_init 16 = .ok (.return_, 1) := by decide +kernel
theorem dX3_take_0 : decode cX3_take 0 = .ok (.aload_n 0, 1) := by decide +kernel
theorem dX3_take_1 : decode cX3_take 1 = .ok (.iload_n 1, 1) := by decide +kernel
theorem dX3_take_2 : decode cX3_take 2 = .ok (.putfield 15, 3) := by decide +kernel
theorem dX3_take_5 : decode cX3_take 5 = .ok (.aload_n 0, 1) := by decide +kernel
theorem dX3_take_6 : decode cX3_take 6 = .ok (.iload_n 2, 1) := by decide +kernel
theorem dX3_take_7 : decode cX3_take 7 = .ok (.ifCond .ge 7, 3) := by decide +kernel
theorem dX3_take_10 : decode cX3_take 10 = .ok (.iconst 0, 1) := by decide +kernel
theorem dX3_take_11 : decode cX3_take 11 = .ok (.goto 21, 3) := by decide +kernel
theorem dX3_take_14 : decode cX3_take 14 = .ok (.iload_n 2, 1) := by decide +kernel
theorem dX3_take_15 : decode cX3_take 15 = .ok (.aload_n 0, 1) := by decide +kernel
theorem dX3_take_16 : decode cX3_take 16 = .ok (.getfield 9, 3) := by decide +kernel
theorem dX3_take_19 : decode cX3_take 19 = .ok (.arraylength, 1) := by decide +kernel
theorem dX3_take_20 : decode cX3_take 20 = .ok (.if_icmp .ge 7, 3) := by decide +kernel
theorem dX3_take_23 : decode cX3_take 23 = .ok (.iload_n 2, 1) := by decide +kernel
theorem dX3_take_24 : decode cX3_take 24 = .ok (.goto 8, 3) := by decide +kernel
theorem dX3_take_27 : decode cX3_take 27 = .ok (.aload_n 0, 1) := by decide +kernel
theorem dX3_take_28 : decode cX3_take 28 = .ok (.getfield 9, 3) := by decide +kernel
theorem dX3_take_31 : decode cX3_take 31 = .ok (.arraylength, 1) := by decide +kernel
theorem dX3_take_32 : decode cX3_take 32 = .ok (.putfield 19, 3) := by decide +kernel
theorem dX3_take_35 : decode cX3_take 35 = .ok (.iconst 0, 1) := by decide +kernel
theorem dX3_take_36 : decode cX3_take 36 = .ok (.istore 4, 2) := by decide +kernel
theorem dX3_take_38 : decode cX3_take 38 = .ok (.iload 4, 2) := by decide +kernel
theorem dX3_take_40 : decode cX3_take 40 = .ok (.aload_n 0, 1) := by decide +kernel
theorem dX3_take_41 : decode cX3_take 41 = .ok (.getfield 19, 3) := by decide +kernel
theorem dX3_take_44 : decode cX3_take 44 = .ok (.if_icmp .ge 30, 3) := by decide +kernel
theorem dX3_take_47 : decode cX3_take 47 = .ok (.iload 4, 2) := by decide +kernel
theorem dX3_take_49 : decode cX3_take 49 = .ok (.aload_n 0, 1) := by decide +kernel
theorem dX3_take_50 : decode cX3_take 50 = .ok (.getfield 9, 3) := by decide +kernel
theorem dX3_take_53 : decode cX3_take 53 = .ok (.arraylength, 1) := by decide +kernel
theorem dX3_take_54 : decode cX3_take 54 = .ok (.if_icmp .ge 20, 3) := by decide +kernel
theorem dX3_take_57 : decode cX3_take 57 = .ok (.aload_n 0, 1) := by decide +kernel
theorem dX3_take_58 : decode cX3_take 58 = .ok (.getfield 9, 3) := by decide +kernel
theorem dX3_take_61 : decode cX3_take 61 = .ok (.iload 4, 2) := by decide +kernel
theorem dX3_take_63 : decode cX3_take 63 = .ok (.iload_n 3, 1) := by decide +kernel
theorem dX3_take_64 : decode cX3_take 64 = .ok (.iload 4, 2) := by decide +kernel
theorem dX3_take_66 : decode cX3_take 66 = .ok (.iadd, 1) := by decide +kernel
theorem dX3_take_67 : decode cX3_take 67 = .ok (.iastore, 1) := by decide +kernel
theorem dX3_take_68 : decode cX3_take 68 = .ok (.iinc 4 1, 3) := by decide +kernel
theorem dX3_take_71 : decode cX3_take 71 = .ok (.goto (-33), 3) := by decide +kernel
theorem dX3_take_74 : decode cX3_take 74 = .ok (.return_, 1) := by decide +kernel
theorem dX3_faultAt_0 : decode cX3_faultAt 0 = .ok (.aload_n 0, 1) := by decide +kernel
theorem dX3_faultAt_1 : decode cX3_faultAt 1 = .ok (.getfield 15, 3) := by decide +kernel
theorem dX3_faultAt_4 : decode cX3_faultAt 4 = .ok (.ifCond .ne 5, 3) := by decide +kernel
theorem dX3_faultAt_7 : decode cX3_faultAt 7 = .ok (.iconst 1, 1) := by decide +kernel
theorem dX3_faultAt_8 : decode cX3_faultAt 8 = .ok (.ireturn, 1) := by decide +kernel
theorem dX3_faultAt_9 : decode cX3_faultAt 9 = .ok (.aload_n 0, 1) := by decide +kernel
theorem dX3_faultAt_10 : decode cX3_faultAt 10 = .ok (.getfield 15, 3) := by decide +kernel
theorem dX3_faultAt_13 : decode cX3_faultAt 13 = .ok (.iload_n 1, 1) := by decide +kernel
theorem dX3_faultAt_14 : decode cX3_faultAt 14 = .ok (.if_icmp .eq 5, 3) := by decide +kernel
theorem dX3_faultAt_17 : decode cX3_faultAt 17 = .ok (.iconst 2, 1) := by decide +kernel
theorem dX3_faultAt_18 : decode cX3_faultAt 18 = .ok (.ireturn, 1) := by decide +kernel
theorem dX3_faultAt_19 : decode cX3_faultAt 19 = .ok (.iload_n 2, 1) := by decide +kernel
theorem dX3_faultAt_20 : decode cX3_faultAt 20 = .ok (.ifCond .lt 11, 3) := by decide +kernel
theorem dX3_faultAt_23 : decode cX3_faultAt 23 = .ok (.iload_n 2, 1) := by decide +kernel
theorem dX3_faultAt_24 : decode cX3_faultAt 24 = .ok (.aload_n 0, 1) := by decide +kernel
theorem dX3_faultAt_25 : decode cX3_faultAt 25 = .ok (.getfield 19, 3) := by decide +kernel
theorem dX3_faultAt_28 : decode cX3_faultAt 28 = .ok (.if_icmp .lt 7, 3) := by decide +kernel
theorem dX3_faultAt_31 : decode cX3_faultAt 31 = .ok (.iconst 3, 1) := by decide +kernel
theorem dX3_faultAt_32 : decode cX3_faultAt 32 = .ok (.goto 4, 3) := by decide +kernel
theorem dX3_faultAt_35 : decode cX3_faultAt 35 = .ok (.iconst 0, 1) := by decide +kernel
theorem dX3_faultAt_36 : decode cX3_faultAt 36 = .ok (.ireturn, 1) := by decide +kernel
theorem dX3_item_0 : decode cX3_item 0 = .ok (.iload_n 1, 1) := by decide +kernel
theorem dX3_item_1 : decode cX3_item 1 = .ok (.ifCond .lt 12, 3) := by decide +kernel
theorem dX3_item_4 : decode cX3_item 4 = .ok (.iload_n 1, 1) := by decide +kernel
theorem dX3_item_5 : decode cX3_item 5 = .ok (.aload_n 0, 1) := by decide +kernel
theorem dX3_item_6 : decode cX3_item 6 = .ok (.getfield 9, 3) := by decide +kernel
theorem dX3_item_9 : decode cX3_item 9 = .ok (.arraylength, 1) := by decide +kernel
theorem dX3_item_10 : decode cX3_item 10 = .ok (.if_icmp .lt 7, 3) := by decide +kernel
theorem dX3_item_13 : decode cX3_item 13 = .ok (.iconst 0, 1) := by decide +kernel
theorem dX3_item_14 : decode cX3_item 14 = .ok (.goto 9, 3) := by decide +kernel
theorem dX3_item_17 : decode cX3_item 17 = .ok (.aload_n 0, 1) := by decide +kernel
theorem dX3_item_18 : decode cX3_item 18 = .ok (.getfield 9, 3) := by decide +kernel
theorem dX3_item_21 : decode cX3_item 21 = .ok (.iload_n 1, 1) := by decide +kernel
theorem dX3_item_22 : decode cX3_item 22 = .ok (.iaload, 1) := by decide +kernel
theorem dX3_item_23 : decode cX3_item 23 = .ok (.ireturn, 1) := by decide +kernel
theorem dX4_init_0 : decode cX4_init 0 = .ok (.aload_n 0, 1) := by decide +kernel
theorem dX4_init_1 : decode cX4_init 1 = .ok (.invokespecial 3, 3) := by decide +kernel
theorem dX4_init_4 : decode cX4_init 4 = .ok (.aload_n 0, 1) := by decide +kernel
theorem dX4_init_5 : decode cX4_init 5 = .ok (.bipush 8, 2) := by decide +kernel
theorem dX4_init_7 : decode cX4_init 7 = .ok (.newarray .int, 2) := by decide +kernel
theorem dX4_init_9 : decode cX4_init 9 = .ok (.putfield 9, 3) := by decide +kernel
theorem dX4_init_12 : decode cX4_init 12 = .ok (.aload_n 0, 1) := by decide +kernel
theorem dX4_init_13 : decode cX4_init 13 = .ok (.bipush (-2), 2) := by decide +kernel
theorem dX4_init_15 : decode cX4_init 15 = .ok (.putfield 15, 3) := by decide +kernel
theorem dX4_init_18 : decode cX4_init 18 = .ok (.return_, 1) := by decide +kernel
theorem dX4_begin_0 : decode cX4_begin 0 = .ok (.iconst 0, 1) := by decide +kernel
theorem dX4_begin_1 : decode cX4_begin 1 = .ok (.istore_n 2, 1) := by decide +kernel
theorem dX4_begin_2 : decode cX4_begin 2 = .ok (.iload_n 2, 1) := by decide +kernel
theorem dX4_begin_3 : decode cX4_begin 3 = .ok (.aload_n 0, 1) := by decide +kernel
theorem dX4_begin_4 : decode cX4_begin 4 = .ok (.getfield 9, 3) := by decide +kernel
theorem dX4_begin_7 : decode cX4_begin 7 = .ok (.arraylength, 1) := by decide +kernel
theorem dX4_begin_8 : decode cX4_begin 8 = .ok (.if_icmp .ge 16, 3) := by decide +kernel
theorem dX4_begin_11 : decode cX4_begin 11 = .ok (.aload_n 0, 1) := by decide +kernel
theorem dX4_begin_12 : decode cX4_begin 12 = .ok (.getfield 9, 3) := by decide +kernel
theorem dX4_begin_15 : decode cX4_begin 15 = .ok (.iload_n 2, 1) := by decide +kernel
theorem dX4_begin_16 : decode cX4_begin 16 = .ok (.iconst 0, 1) := by decide +kernel
theorem dX4_begin_17 : decode cX4_begin 17 = .ok (.iastore, 1) := by decide +kernel
theorem dX4_begin_18 : decode cX4_begin 18 = .ok (.iinc 2 1, 3) := by decide +kernel
theorem dX4_begin_21 : decode cX4_begin 21 = .ok (.goto (-19), 3) := by decide +kernel
theorem dX4_begin_24 : decode cX4_begin 24 = .ok (.aload_n 0, 1) := by decide +kernel
theorem dX4_begin_25 : decode cX4_begin 25 = .ok (.iconst 0, 1) := by decide +kernel
theorem dX4_begin_26 : decode cX4_begin 26 = .ok (.putfield 19, 3) := by decide +kernel
theorem dX4_begin_29 : decode cX4_begin 29 = .ok (.aload_n 0, 1) := by decide +kernel
theorem dX4_begin_30 : decode cX4_begin 30 = .ok (.iload_n 1, 1) := by decide +kernel
theorem dX4_begin_31 : decode cX4_begin 31 = .ok (.putfield 22, 3) := by decide +kernel
theorem dX4_begin_34 : decode cX4_begin 34 = .ok (.aload_n 0, 1) := by decide +kernel
theorem dX4_begin_35 : decode cX4_begin 35 = .ok (.iconst 0, 1) := by decide +kernel
theorem dX4_begin_36 : decode cX4_begin 36 = .ok (.putfield 25, 3) := by decide +kernel
theorem dX4_begin_39 : decode cX4_begin 39 = .ok (.aload_n 0, 1) := by decide +kernel
theorem dX4_begin_40 : decode cX4_begin 40 = .ok (.bipush (-2), 2) := by decide +kernel
theorem dX4_begin_42 : decode cX4_begin 42 = .ok (.putfield 15, 3) := by decide +kernel
theorem dX4_begin_45 : decode cX4_begin 45 = .ok (.return_, 1) := by decide +kernel
theorem dX4_become_0 : decode cX4_become 0 = .ok (.iconst 0, 1) := by decide +kernel
theorem dX4_become_1 : decode cX4_become 1 = .ok (.istore_n 2, 1) := by decide +kernel
theorem dX4_become_2 : decode cX4_become 2 = .ok (.iload_n 2, 1) := by decide +kernel
theorem dX4_become_3 : decode cX4_become 3 = .ok (.aload_n 0, 1) := by decide +kernel
theorem dX4_become_4 : decode cX4_become 4 = .ok (.getfield 9, 3) := by decide +kernel
theorem dX4_become_7 : decode cX4_become 7 = .ok (.arraylength, 1) := by decide +kernel
theorem dX4_become_8 : decode cX4_become 8 = .ok (.if_icmp .ge 20, 3) := by decide +kernel
theorem dX4_become_11 : decode cX4_become 11 = .ok (.aload_n 0, 1) := by decide +kernel
theorem dX4_become_12 : decode cX4_become 12 = .ok (.getfield 9, 3) := by decide +kernel
theorem dX4_become_15 : decode cX4_become 15 = .ok (.iload_n 2, 1) := by decide +kernel
theorem dX4_become_16 : decode cX4_become 16 = .ok (.aload_n 1, 1) := by decide +kernel
theorem dX4_become_17 : decode cX4_become 17 = .ok (.iload_n 2, 1) := by decide +kernel
theorem dX4_become_18 : decode cX4_become 18 = .ok (.invokevirtual 28, 3) := by decide +kernel
theorem dX4_become_21 : decode cX4_become 21 = .ok (.iastore, 1) := by decide +kernel
theorem dX4_become_22 : decode cX4_become 22 = .ok (.iinc 2 1, 3) := by decide +kernel
theorem dX4_become_25 : decode cX4_become 25 = .ok (.goto (-23), 3) := by decide +kernel
theorem dX4_become_28 : decode cX4_become 28 = .ok (.aload_n 0, 1) := by decide +kernel
theorem dX4_become_29 : decode cX4_become 29 = .ok (.aload_n 1, 1) := by decide +kernel
theorem dX4_become_30 : decode cX4_become 30 = .ok (.getfield 19, 3) := by decide +kernel
theorem dX4_become_33 : decode cX4_become 33 = .ok (.putfield 19, 3) := by decide +kernel
theorem dX4_become_36 : decode cX4_become 36 = .ok (.aload_n 0, 1) := by decide +kernel
theorem dX4_become_37 : decode cX4_become 37 = .ok (.aload_n 1, 1) := by decide +kernel
theorem dX4_become_38 : decode cX4_become 38 = .ok (.getfield 22, 3) := by decide +kernel
theorem dX4_become_41 : decode cX4_become 41 = .ok (.putfield 22, 3) := by decide +kernel
theorem dX4_become_44 : decode cX4_become 44 = .ok (.aload_n 0, 1) := by decide +kernel
theorem dX4_become_45 : decode cX4_become 45 = .ok (.aload_n 1, 1) := by decide +kernel
theorem dX4_become_46 : decode cX4_become 46 = .ok (.getfield 25, 3) := by decide +kernel
theorem dX4_become_49 : decode cX4_become 49 = .ok (.putfield 25, 3) := by decide +kernel
theorem dX4_become_52 : decode cX4_become 52 = .ok (.aload_n 0, 1) := by decide +kernel
theorem dX4_become_53 : decode cX4_become 53 = .ok (.aload_n 1, 1) := by decide +kernel
theorem dX4_become_54 : decode cX4_become 54 = .ok (.getfield 15, 3) := by decide +kernel
theorem dX4_become_57 : decode cX4_become 57 = .ok (.putfield 15, 3) := by decide +kernel
theorem dX4_become_60 : decode cX4_become 60 = .ok (.return_, 1) := by decide +kernel
theorem dX4_flag_0 : decode cX4_flag 0 = .ok (.iload_n 1, 1) := by decide +kernel
theorem dX4_flag_1 : decode cX4_flag 1 = .ok (.ifCond .lt 12, 3) := by decide +kernel
theorem dX4_flag_4 : decode cX4_flag 4 = .ok (.iload_n 1, 1) := by decide +kernel
theorem dX4_flag_5 : decode cX4_flag 5 = .ok (.aload_n 0, 1) := by decide +kernel
theorem dX4_flag_6 : decode cX4_flag 6 = .ok (.getfield 9, 3) := by decide +kernel
theorem dX4_flag_9 : decode cX4_flag 9 = .ok (.arraylength, 1) := by decide +kernel
theorem dX4_flag_10 : decode cX4_flag 10 = .ok (.if_icmp .lt 7, 3) := by decide +kernel
theorem dX4_flag_13 : decode cX4_flag 13 = .ok (.iconst 0, 1) := by decide +kernel
theorem dX4_flag_14 : decode cX4_flag 14 = .ok (.goto 9, 3) := by decide +kernel
theorem dX4_flag_17 : decode cX4_flag 17 = .ok (.aload_n 0, 1) := by decide +kernel
theorem dX4_flag_18 : decode cX4_flag 18 = .ok (.getfield 9, 3) := by decide +kernel
theorem dX4_flag_21 : decode cX4_flag 21 = .ok (.iload_n 1, 1) := by decide +kernel
theorem dX4_flag_22 : decode cX4_flag 22 = .ok (.iaload, 1) := by decide +kernel
theorem dX4_flag_23 : decode cX4_flag 23 = .ok (.ireturn, 1) := by decide +kernel
theorem dX4_setFlag_0 : decode cX4_setFlag 0 = .ok (.iload_n 1, 1) := by decide +kernel
theorem dX4_setFlag_1 : decode cX4_setFlag 1 = .ok (.ifCond .lt 19, 3) := by decide +kernel
theorem dX4_setFlag_4 : decode cX4_setFlag 4 = .ok (.iload_n 1, 1) := by decide +kernel
theorem dX4_setFlag_5 : decode cX4_setFlag 5 = .ok (.aload_n 0, 1) := by decide +kernel
theorem dX4_setFlag_6 : decode cX4_setFlag 6 = .ok (.getfield 9, 3) := by decide +kernel
theorem dX4_setFlag_9 : decode cX4_setFlag 9 = .ok (.arraylength, 1) := by decide +kernel
theorem dX4_setFlag_10 : decode cX4_setFlag 10 = .ok (.if_icmp .ge 10, 3) := by decide +kernel
theorem dX4_setFlag_13 : decode cX4_setFlag 13 = .ok (.aload_n 0, 1) := by decide +kernel
theorem dX4_setFlag_14 : decode cX4_setFlag 14 = .ok (.getfield 9, 3) := by decide +kernel
theorem dX4_setFlag_17 : decode cX4_setFlag 17 = .ok (.iload_n 1, 1) := by decide +kernel
theorem dX4_setFlag_18 : decode cX4_setFlag 18 = .ok (.iload_n 2, 1) := by decide +kernel
theorem dX4_setFlag_19 : decode cX4_setFlag 19 = .ok (.iastore, 1) := by decide +kernel
theorem dX4_setFlag_20 : decode cX4_setFlag 20 = .ok (.return_, 1) := by decide +kernel
theorem dX4_hasFlagBelowZero_0 : decode cX4_hasFlagBelowZero 0 = .ok (.iconst 0, 1) := by decide +kernel
theorem dX4_hasFlagBelowZero_1 : decode cX4_hasFlagBelowZero 1 = .ok (.istore_n 1, 1) := by decide +kernel
theorem dX4_hasFlagBelowZero_2 : decode cX4_hasFlagBelowZero 2 = .ok (.iload_n 1, 1) := by decide +kernel
theorem dX4_hasFlagBelowZero_3 : decode cX4_hasFlagBelowZero 3 = .ok (.aload_n 0, 1) := by decide +kernel
theorem dX4_hasFlagBelowZero_4 : decode cX4_hasFlagBelowZero 4 = .ok (.getfield 9, 3) := by decide +kernel
theorem dX4_hasFlagBelowZero_7 : decode cX4_hasFlagBelowZero 7 = .ok (.arraylength, 1) := by decide +kernel
theorem dX4_hasFlagBelowZero_8 : decode cX4_hasFlagBelowZero 8 = .ok (.if_icmp .ge 20, 3) := by decide +kernel
theorem dX4_hasFlagBelowZero_11 : decode cX4_hasFlagBelowZero 11 = .ok (.aload_n 0, 1) := by decide +kernel
theorem dX4_hasFlagBelowZero_12 : decode cX4_hasFlagBelowZero 12 = .ok (.getfield 9, 3) := by decide +kernel
theorem dX4_hasFlagBelowZero_15 : decode cX4_hasFlagBelowZero 15 = .ok (.iload_n 1, 1) := by decide +kernel
theorem dX4_hasFlagBelowZero_16 : decode cX4_hasFlagBelowZero 16 = .ok (.iaload, 1) := by decide +kernel
theorem dX4_hasFlagBelowZero_17 : decode cX4_hasFlagBelowZero 17 = .ok (.ifCond .ge 5, 3) := by decide +kernel
theorem dX4_hasFlagBelowZero_20 : decode cX4_hasFlagBelowZero 20 = .ok (.iconst 1, 1) := by decide +kernel
theorem dX4_hasFlagBelowZero_21 : decode cX4_hasFlagBelowZero 21 = .ok (.ireturn, 1) := by decide +kernel
theorem dX4_hasFlagBelowZero_22 : decode cX4_hasFlagBelowZero 22 = .ok (.iinc 1 1, 3) := by decide +kernel
theorem dX4_hasFlagBelowZero_25 : decode cX4_hasFlagBelowZero 25 = .ok (.goto (-23), 3) := by decide +kernel
theorem dX4_hasFlagBelowZero_28 : decode cX4_hasFlagBelowZero 28 = .ok (.iconst 0, 1) := by decide +kernel
theorem dX4_hasFlagBelowZero_29 : decode cX4_hasFlagBelowZero 29 = .ok (.ireturn, 1) := by decide +kernel
theorem dX5_fits_0 : decode cX5_fits 0 = .ok (.aload_n 3, 1) := by decide +kernel
theorem dX5_fits_1 : decode cX5_fits 1 = .ok (.iload 4, 2) := by decide +kernel
theorem dX5_fits_3 : decode cX5_fits 3 = .ok (.invokevirtual 9, 3) := by decide +kernel
theorem dX5_fits_6 : decode cX5_fits 6 = .ok (.bipush 20, 2) := by decide +kernel
theorem dX5_fits_8 : decode cX5_fits 8 = .ok (.invokestatic 15, 3) := by decide +kernel
theorem dX5_fits_11 : decode cX5_fits 11 = .ok (.istore 5, 2) := by decide +kernel
theorem dX5_fits_13 : decode cX5_fits 13 = .ok (.iconst 1, 1) := by decide +kernel
theorem dX5_fits_14 : decode cX5_fits 14 = .ok (.iload 5, 2) := by decide +kernel
theorem dX5_fits_16 : decode cX5_fits 16 = .ok (.iconst 1, 1) := by decide +kernel
theorem dX5_fits_17 : decode cX5_fits 17 = .ok (.iadd, 1) := by decide +kernel
theorem dX5_fits_18 : decode cX5_fits 18 = .ok (.ishl, 1) := by decide +kernel
theorem dX5_fits_19 : decode cX5_fits 19 = .ok (.iconst 1, 1) := by decide +kernel
theorem dX5_fits_20 : decode cX5_fits 20 = .ok (.isub, 1) := by decide +kernel
theorem dX5_fits_21 : decode cX5_fits 21 = .ok (.istore 6, 2) := by decide +kernel
theorem dX5_fits_23 : decode cX5_fits 23 = .ok (.iconst 1, 1) := by decide +kernel
theorem dX5_fits_24 : decode cX5_fits 24 = .ok (.istore 7, 2) := by decide +kernel
theorem dX5_fits_26 : decode cX5_fits 26 = .ok (.iload_n 1, 1) := by decide +kernel
theorem dX5_fits_27 : decode cX5_fits 27 = .ok (.istore 8, 2) := by decide +kernel
theorem dX5_fits_29 : decode cX5_fits 29 = .ok (.iload 8, 2) := by decide +kernel
theorem dX5_fits_31 : decode cX5_fits 31 = .ok (.iload_n 2, 1) := by decide +kernel
theorem dX5_fits_32 : decode cX5_fits 32 = .ok (.if_icmp .ge 69, 3) := by decide +kernel
theorem dX5_fits_35 : decode cX5_fits 35 = .ok (.aload_n 0, 1) := by decide +kernel
theorem dX5_fits_36 : decode cX5_fits 36 = .ok (.iload 8, 2) := by decide +kernel
theorem dX5_fits_38 : decode cX5_fits 38 = .ok (.iload_n 2, 1) := by decide +kernel
theorem dX5_fits_39 : decode cX5_fits 39 = .ok (.invokestatic 21, 3) := by decide +kernel
theorem dX5_fits_42 : decode cX5_fits 42 = .ok (.iload 8, 2) := by decide +kernel
theorem dX5_fits_44 : decode cX5_fits 44 = .ok (.iconst 1, 1) := by decide +kernel
theorem dX5_fits_45 : decode cX5_fits 45 = .ok (.iadd, 1) := by decide +kernel
theorem dX5_fits_46 : decode cX5_fits 46 = .ok (.invokestatic 27, 3) := by decide +kernel
theorem dX5_fits_49 : decode cX5_fits 49 = .ok (.istore 9, 2) := by decide +kernel
theorem dX5_fits_51 : decode cX5_fits 51 = .ok (.aload_n 0, 1) := by decide +kernel
theorem dX5_fits_52 : decode cX5_fits 52 = .ok (.iload 8, 2) := by decide +kernel
theorem dX5_fits_54 : decode cX5_fits 54 = .ok (.invokevirtual 30, 3) := by decide +kernel
theorem dX5_fits_57 : decode cX5_fits 57 = .ok (.bipush 42, 2) := by decide +kernel
theorem dX5_fits_59 : decode cX5_fits 59 = .ok (.if_icmp .ne 17, 3) := by decide +kernel
theorem dX5_fits_62 : decode cX5_fits 62 = .ok (.iload 7, 2) := by decide +kernel
theorem dX5_fits_64 : decode cX5_fits 64 = .ok (.iload 7, 2) := by decide +kernel
theorem dX5_fits_66 : decode cX5_fits 66 = .ok (.ineg, 1) := by decide +kernel
theorem dX5_fits_67 : decode cX5_fits 67 = .ok (.ior, 1) := by decide +kernel
theorem dX5_fits_68 : decode cX5_fits 68 = .ok (.iload 6, 2) := by decide +kernel
theorem dX5_fits_70 : decode cX5_fits 70 = .ok (.iand, 1) := by decide +kernel
theorem dX5_fits_71 : decode cX5_fits 71 = .ok (.istore 7, 2) := by decide +kernel
theorem dX5_fits_73 : decode cX5_fits 73 = .ok (.goto 21, 3) := by decide +kernel
theorem dX5_fits_76 : decode cX5_fits 76 = .ok (.aload_n 0, 1) := by decide +kernel
theorem dX5_fits_77 : decode cX5_fits 77 = .ok (.iload 8, 2) := by decide +kernel
theorem dX5_fits_79 : decode cX5_fits 79 = .ok (.iload 9, 2) := by decide +kernel
theorem dX5_fits_81 : decode cX5_fits 81 = .ok (.aload_n 3, 1) := by decide +kernel
theorem dX5_fits_82 : decode cX5_fits 82 = .ok (.iload 4, 2) := by decide +kernel
theorem dX5_fits_84 : decode cX5_fits 84 = .ok (.iload 7, 2) := by decide +kernel
theorem dX5_fits_86 : decode cX5_fits 86 = .ok (.invokestatic 35, 3) := by decide +kernel
theorem dX5_fits_89 : decode cX5_fits 89 = .ok (.iload 6, 2) := by decide +kernel
theorem dX5_fits_91 : decode cX5_fits 91 = .ok (.iand, 1) := by decide +kernel
theorem dX5_fits_92 : decode cX5_fits 92 = .ok (.istore 7, 2) := by decide +kernel
theorem dX5_fits_94 : decode cX5_fits 94 = .ok (.iload 9, 2) := by decide +kernel
theorem dX5_fits_96 : decode cX5_fits 96 = .ok (.istore 8, 2) := by decide +kernel
theorem dX5_fits_98 : decode cX5_fits 98 = .ok (.goto (-69), 3) := by decide +kernel
theorem dX5_fits_101 : decode cX5_fits 101 = .ok (.iload 7, 2) := by decide +kernel
theorem dX5_fits_103 : decode cX5_fits 103 = .ok (.iload 5, 2) := by decide +kernel
theorem dX5_fits_105 : decode cX5_fits 105 = .ok (.ishr, 1) := by decide +kernel
theorem dX5_fits_106 : decode cX5_fits 106 = .ok (.iconst 1, 1) := by decide +kernel
theorem dX5_fits_107 : decode cX5_fits 107 = .ok (.iand, 1) := by decide +kernel
theorem dX5_fits_108 : decode cX5_fits 108 = .ok (.ifCond .eq 7, 3) := by decide +kernel
theorem dX5_fits_111 : decode cX5_fits 111 = .ok (.iconst 1, 1) := by decide +kernel
theorem dX5_fits_112 : decode cX5_fits 112 = .ok (.goto 4, 3) := by decide +kernel
theorem dX5_fits_115 : decode cX5_fits 115 = .ok (.iconst 0, 1) := by decide +kernel
theorem dX5_fits_116 : decode cX5_fits 116 = .ok (.ireturn, 1) := by decide +kernel
theorem dX5_partEnd_0 : decode cX5_partEnd 0 = .ok (.aload_n 0, 1) := by decide +kernel
theorem dX5_partEnd_1 : decode cX5_partEnd 1 = .ok (.iload_n 1, 1) := by decide +kernel
theorem dX5_partEnd_2 : decode cX5_partEnd 2 = .ok (.invokevirtual 30, 3) := by decide +kernel
theorem dX5_partEnd_5 : decode cX5_partEnd 5 = .ok (.istore_n 3, 1) := by decide +kernel
theorem dX5_partEnd_6 : decode cX5_partEnd 6 = .ok (.iload_n 3, 1) := by decide +kernel
theorem dX5_partEnd_7 : decode cX5_partEnd 7 = .ok (.bipush 92, 2) := by decide +kernel
theorem dX5_partEnd_9 : decode cX5_partEnd 9 = .ok (.if_icmp .ne 7, 3) := by decide +kernel
theorem dX5_partEnd_12 : decode cX5_partEnd 12 = .ok (.iload_n 1, 1) := by decide +kernel
theorem dX5_partEnd_13 : decode cX5_partEnd 13 = .ok (.iconst 2, 1) := by decide +kernel
theorem dX5_partEnd_14 : decode cX5_partEnd 14 = .ok (.iadd, 1) := by decide +kernel
theorem dX5_partEnd_15 : decode cX5_partEnd 15 = .ok (.ireturn, 1) := by decide +kernel
theorem dX5_partEnd_16 : decode cX5_partEnd 16 = .ok (.iload_n 3, 1) := by decide +kernel
theorem dX5_partEnd_17 : decode cX5_partEnd 17 = .ok (.bipush 91, 2) := by decide +kernel
theorem dX5_partEnd_19 : decode cX5_partEnd 19 = .ok (.if_icmp .eq 7, 3) := by decide +kernel
theorem dX5_partEnd_22 : decode cX5_partEnd 22 = .ok (.iload_n 1, 1) := by decide +kernel
theorem dX5_partEnd_23 : decode cX5_partEnd 23 = .ok (.iconst 1, 1) := by decide +kernel
theorem dX5_partEnd_24 : decode cX5_partEnd 24 = .ok (.iadd, 1) := by decide +kernel
theorem dX5_partEnd_25 : decode cX5_partEnd 25 = .ok (.ireturn, 1) := by decide +kernel
theorem dX5_partEnd_26 : decode cX5_partEnd 26 = .ok (.iload_n 1, 1) := by decide +kernel
theorem dX5_partEnd_27 : decode cX5_partEnd 27 = .ok (.iconst 1, 1) := by decide +kernel
theorem dX5_partEnd_28 : decode cX5_partEnd 28 = .ok (.iadd, 1) := by decide +kernel
theorem dX5_partEnd_29 : decode cX5_partEnd 29 = .ok (.istore 4, 2) := by decide +kernel
theorem dX5_partEnd_31 : decode cX5_partEnd 31 = .ok (.iload 4, 2) := by decide +kernel
theorem dX5_partEnd_33 : decode cX5_partEnd 33 = .ok (.iload_n 2, 1) := by decide +kernel
theorem dX5_partEnd_34 : decode cX5_partEnd 34 = .ok (.if_icmp .ge 20, 3) := by decide +kernel
theorem dX5_partEnd_37 : decode cX5_partEnd 37 = .ok (.aload_n 0, 1) := by decide +kernel
theorem dX5_partEnd_38 : decode cX5_partEnd 38 = .ok (.iload 4, 2) := by decide +kernel
theorem dX5_partEnd_40 : decode cX5_partEnd 40 = .ok (.invokevirtual 30, 3) := by decide +kernel
theorem dX5_partEnd_43 : decode cX5_partEnd 43 = .ok (.bipush 93, 2) := by decide +kernel
theorem dX5_partEnd_45 : decode cX5_partEnd 45 = .ok (.if_icmp .eq 9, 3) := by decide +kernel
theorem dX5_partEnd_48 : decode cX5_partEnd 48 = .ok (.iinc 4 1, 3) := by decide +kernel
theorem dX5_partEnd_51 : decode cX5_partEnd 51 = .ok (.goto (-20), 3) := by decide +kernel
theorem dX5_partEnd_54 : decode cX5_partEnd 54 = .ok (.iload 4, 2) := by decide +kernel
theorem dX5_partEnd_56 : decode cX5_partEnd 56 = .ok (.iconst 1, 1) := by decide +kernel
theorem dX5_partEnd_57 : decode cX5_partEnd 57 = .ok (.iadd, 1) := by decide +kernel
theorem dX5_partEnd_58 : decode cX5_partEnd 58 = .ok (.ireturn, 1) := by decide +kernel
theorem dX5_oneSignFurther_0 : decode cX5_oneSignFurther 0 = .ok (.iconst 0, 1) := by decide +kernel
theorem dX5_oneSignFurther_1 : decode cX5_oneSignFurther 1 = .ok (.istore 6, 2) := by decide +kernel
theorem dX5_oneSignFurther_3 : decode cX5_oneSignFurther 3 = .ok (.iconst 0, 1) := by decide +kernel
theorem dX5_oneSignFurther_4 : decode cX5_oneSignFurther 4 = .ok (.istore 7, 2) := by decide +kernel
theorem dX5_oneSignFurther_6 : decode cX5_oneSignFurther 6 = .ok (.iload 7, 2) := by decide +kernel
theorem dX5_oneSignFurther_8 : decode cX5_oneSignFurther 8 = .ok (.bipush 20, 2) := by decide +kernel
theorem dX5_oneSignFurther_10 : decode cX5_oneSignFurther 10 = .ok (.if_icmp .ge 47, 3) := by decide +kernel
theorem dX5_oneSignFurther_13 : decode cX5_oneSignFurther 13 = .ok (.iload 5, 2) := by decide +kernel
theorem dX5_oneSignFurther_15 : decode cX5_oneSignFurther 15 = .ok (.iload 7, 2) := by decide +kernel
theorem dX5_oneSignFurther_17 : decode cX5_oneSignFurther 17 = .ok (.ishr, 1) := by decide +kernel
theorem dX5_oneSignFurther_18 : decode cX5_oneSignFurther 18 = .ok (.iconst 1, 1) := by decide +kernel
theorem dX5_oneSignFurther_19 : decode cX5_oneSignFurther 19 = .ok (.iand, 1) := by decide +kernel
theorem dX5_oneSignFurther_20 : decode cX5_oneSignFurther 20 = .ok (.ifCond .eq 31, 3) := by decide +kernel
theorem dX5_oneSignFurther_23 : decode cX5_oneSignFurther 23 = .ok (.aload_n 0, 1) := by decide +kernel
theorem dX5_oneSignFurther_24 : decode cX5_oneSignFurther 24 = .ok (.iload_n 1, 1) := by decide +kernel
theorem dX5_oneSignFurther_25 : decode cX5_oneSignFurther 25 = .ok (.iload_n 2, 1) := by decide +kernel
theorem dX5_oneSignFurther_26 : decode cX5_oneSignFurther 26 = .ok (.aload_n 3, 1) := by decide +kernel
theorem dX5_oneSignFurther_27 : decode cX5_oneSignFurther 27 = .ok (.iload 4, 2) := by decide +kernel
theorem dX5_oneSignFurther_29 : decode cX5_oneSignFurther 29 = .ok (.iload 7, 2) := by decide +kernel
theorem dX5_oneSignFurther_31 : decode cX5_oneSignFurther 31 = .ok (.invokevirtual 39, 3) := by decide +kernel
theorem dX5_oneSignFurther_34 : decode cX5_oneSignFurther 34 = .ok (.invokestatic 42, 3) := by decide +kernel
theorem dX5_oneSignFurther_37 : decode cX5_oneSignFurther 37 = .ok (.ifCond .eq 14, 3) := by decide +kernel
theorem dX5_oneSignFurther_40 : decode cX5_oneSignFurther 40 = .ok (.iload 6, 2) := by decide +kernel
theorem dX5_oneSignFurther_42 : decode cX5_oneSignFurther 42 = .ok (.iconst 1, 1) := by decide +kernel
theorem dX5_oneSignFurther_43 : decode cX5_oneSignFurther 43 = .ok (.iload 7, 2) := by decide +kernel
theorem dX5_oneSignFurther_45 : decode cX5_oneSignFurther 45 = .ok (.iconst 1, 1) := by decide +kernel
theorem dX5_oneSignFurther_46 : decode cX5_oneSignFurther 46 = .ok (.iadd, 1) := by decide +kernel
theorem dX5_oneSignFurther_47 : decode cX5_oneSignFurther 47 = .ok (.ishl, 1) := by decide +kernel
theorem dX5_oneSignFurther_48 : decode cX5_oneSignFurther 48 = .ok (.ior, 1) := by decide +kernel
theorem dX5_oneSignFurther_49 : decode cX5_oneSignFurther 49 = .ok (.istore 6, 2) := by decide +kernel
theorem dX5_oneSignFurther_51 : decode cX5_oneSignFurther 51 = .ok (.iinc 7 1, 3) := by decide +kernel
theorem dX5_oneSignFurther_54 : decode cX5_oneSignFurther 54 = .ok (.goto (-48), 3) := by decide +kernel
theorem dX5_oneSignFurther_57 : decode cX5_oneSignFurther 57 = .ok (.iload 6, 2) := by decide +kernel
theorem dX5_oneSignFurther_59 : decode cX5_oneSignFurther 59 = .ok (.ireturn, 1) := by decide +kernel
theorem dX5_takes_0 : decode cX5_takes 0 = .ok (.aload_n 0, 1) := by decide +kernel
theorem dX5_takes_1 : decode cX5_takes 1 = .ok (.iload_n 1, 1) := by decide +kernel
theorem dX5_takes_2 : decode cX5_takes 2 = .ok (.invokevirtual 30, 3) := by decide +kernel
theorem dX5_takes_5 : decode cX5_takes 5 = .ok (.istore 4, 2) := by decide +kernel
theorem dX5_takes_7 : decode cX5_takes 7 = .ok (.iload 4, 2) := by decide +kernel
theorem dX5_takes_9 : decode cX5_takes 9 = .ok (.bipush 46, 2) := by decide +kernel
theorem dX5_takes_11 : decode cX5_takes 11 = .ok (.if_icmp .ne 5, 3) := by decide +kernel
theorem dX5_takes_14 : decode cX5_takes 14 = .ok (.iconst 1, 1) := by decide +kernel
theorem dX5_takes_15 : decode cX5_takes 15 = .ok (.ireturn, 1) := by decide +kernel
theorem dX5_takes_16 : decode cX5_takes 16 = .ok (.iload 4, 2) := by decide +kernel
theorem dX5_takes_18 : decode cX5_takes 18 = .ok (.bipush 92, 2) := by decide +kernel
theorem dX5_takes_20 : decode cX5_takes 20 = .ok (.if_icmp .ne 20, 3) := by decide +kernel
theorem dX5_takes_23 : decode cX5_takes 23 = .ok (.aload_n 0, 1) := by decide +kernel
theorem dX5_takes_24 : decode cX5_takes 24 = .ok (.iload_n 1, 1) := by decide +kernel
theorem dX5_takes_25 : decode cX5_takes 25 = .ok (.iconst 1, 1) := by decide +kernel
theorem dX5_takes_26 : decode cX5_takes 26 = .ok (.iadd, 1) := by decide +kernel
theorem dX5_takes_27 : decode cX5_takes 27 = .ok (.invokevirtual 30, 3) := by decide +kernel
theorem dX5_takes_30 : decode cX5_takes 30 = .ok (.iload_n 3, 1) := by decide +kernel
theorem dX5_takes_31 : decode cX5_takes 31 = .ok (.if_icmp .ne 7, 3) := by decide +kernel
theorem dX5_takes_34 : decode cX5_takes 34 = .ok (.iconst 1, 1) := by decide +kernel
theorem dX5_takes_35 : decode cX5_takes 35 = .ok (.goto 4, 3) := by decide +kernel
theorem dX5_takes_38 : decode cX5_takes 38 = .ok (.iconst 0, 1) := by decide +kernel
theorem dX5_takes_39 : decode cX5_takes 39 = .ok (.ireturn, 1) := by decide +kernel
theorem dX5_takes_40 : decode cX5_takes 40 = .ok (.iload 4, 2) := by decide +kernel
theorem dX5_takes_42 : decode cX5_takes 42 = .ok (.bipush 91, 2) := by decide +kernel
theorem dX5_takes_44 : decode cX5_takes 44 = .ok (.if_icmp .eq 15, 3) := by decide +kernel
theorem dX5_takes_47 : decode cX5_takes 47 = .ok (.iload 4, 2) := by decide +kernel
theorem dX5_takes_49 : decode cX5_takes 49 = .ok (.iload_n 3, 1) := by decide +kernel
theorem dX5_takes_50 : decode cX5_takes 50 = .ok (.if_icmp .ne 7, 3) := by decide +kernel
theorem dX5_takes_53 : decode cX5_takes 53 = .ok (.iconst 1, 1) := by decide +kernel
theorem dX5_takes_54 : decode cX5_takes 54 = .ok (.goto 4, 3) := by decide +kernel
theorem dX5_takes_57 : decode cX5_takes 57 = .ok (.iconst 0, 1) := by decide +kernel
theorem dX5_takes_58 : decode cX5_takes 58 = .ok (.ireturn, 1) := by decide +kernel
theorem dX5_takes_59 : decode cX5_takes 59 = .ok (.iload_n 1, 1) := by decide +kernel
theorem dX5_takes_60 : decode cX5_takes 60 = .ok (.iconst 1, 1) := by decide +kernel
theorem dX5_takes_61 : decode cX5_takes 61 = .ok (.iadd, 1) := by decide +kernel
theorem dX5_takes_62 : decode cX5_takes 62 = .ok (.istore 5, 2) := by decide +kernel
theorem dX5_takes_64 : decode cX5_takes 64 = .ok (.iload 5, 2) := by decide +kernel
theorem dX5_takes_66 : decode cX5_takes 66 = .ok (.iload_n 2, 1) := by decide +kernel
theorem dX5_takes_67 : decode cX5_takes 67 = .ok (.iconst 1, 1) := by decide +kernel
theorem dX5_takes_68 : decode cX5_takes 68 = .ok (.isub, 1) := by decide +kernel
theorem dX5_takes_69 : decode cX5_takes 69 = .ok (.if_icmp .ge 21, 3) := by decide +kernel
theorem dX5_takes_72 : decode cX5_takes 72 = .ok (.aload_n 0, 1) := by decide +kernel
theorem dX5_takes_73 : decode cX5_takes 73 = .ok (.iload 5, 2) := by decide +kernel
theorem dX5_takes_75 : decode cX5_takes 75 = .ok (.invokevirtual 30, 3) := by decide +kernel
theorem dX5_takes_78 : decode cX5_takes 78 = .ok (.iload_n 3, 1) := by decide +kernel
theorem dX5_takes_79 : decode cX5_takes 79 = .ok (.if_icmp .ne 5, 3) := by decide +kernel
theorem dX5_takes_82 : decode cX5_takes 82 = .ok (.iconst 1, 1) := by decide +kernel
theorem dX5_takes_83 : decode cX5_takes 83 = .ok (.ireturn, 1) := by decide +kernel
theorem dX5_takes_84 : decode cX5_takes 84 = .ok (.iinc 5 1, 3) := by decide +kernel
theorem dX5_takes_87 : decode cX5_takes 87 = .ok (.goto (-23), 3) := by decide +kernel
theorem dX5_takes_90 : decode cX5_takes 90 = .ok (.iconst 0, 1) := by decide +kernel
theorem dX5_takes_91 : decode cX5_takes 91 = .ok (.ireturn, 1) := by decide +kernel
theorem dX6_init_0 : decode cX6_init 0 = .ok (.aload_n 0, 1) := by decide +kernel
theorem dX6_init_1 : decode cX6_init 1 = .ok (.invokespecial 1, 3) := by decide +kernel
theorem dX6_init_4 : decode cX6_init 4 = .ok (.return_, 1) := by decide +kernel
theorem dX6_fits_0 : decode cX6_fits 0 = .ok (.aload_n 0, 1) := by decide +kernel
theorem dX6_fits_1 : decode cX6_fits 1 = .ok (.getfield 7, 3) := by decide +kernel
theorem dX6_fits_4 : decode cX6_fits 4 = .ok (.iload_n 2, 1) := by decide +kernel
theorem dX6_fits_5 : decode cX6_fits 5 = .ok (.if_icmp .eq 5, 3) := by decide +kernel
theorem dX6_fits_8 : decode cX6_fits 8 = .ok (.iconst 0, 1) := by decide +kernel
theorem dX6_fits_9 : decode cX6_fits 9 = .ok (.ireturn, 1) := by decide +kernel
theorem dX6_fits_10 : decode cX6_fits 10 = .ok (.aload_n 0, 1) := by decide +kernel
theorem dX6_fits_11 : decode cX6_fits 11 = .ok (.getfield 13, 3) := by decide +kernel
theorem dX6_fits_14 : decode cX6_fits 14 = .ok (.iconst (-1), 1) := by decide +kernel
theorem dX6_fits_15 : decode cX6_fits 15 = .ok (.if_icmp .eq 16, 3) := by decide +kernel
theorem dX6_fits_18 : decode cX6_fits 18 = .ok (.aload_n 0, 1) := by decide +kernel
theorem dX6_fits_19 : decode cX6_fits 19 = .ok (.getfield 13, 3) := by decide +kernel
theorem dX6_fits_22 : decode cX6_fits 22 = .ok (.aload_n 1, 1) := by decide +kernel
theorem dX6_fits_23 : decode cX6_fits 23 = .ok (.getfield 16, 3) := by decide +kernel
theorem dX6_fits_26 : decode cX6_fits 26 = .ok (.if_icmp .eq 5, 3) := by decide +kernel
theorem dX6_fits_29 : decode cX6_fits 29 = .ok (.iconst 0, 1) := by decide +kernel
theorem dX6_fits_30 : decode cX6_fits 30 = .ok (.ireturn, 1) := by decide +kernel
theorem dX6_fits_31 : decode cX6_fits 31 = .ok (.aload_n 0, 1) := by decide +kernel
theorem dX6_fits_32 : decode cX6_fits 32 = .ok (.getfield 19, 3) := by decide +kernel
theorem dX6_fits_35 : decode cX6_fits 35 = .ok (.iconst (-1), 1) := by decide +kernel
theorem dX6_fits_36 : decode cX6_fits 36 = .ok (.if_icmp .eq 18, 3) := by decide +kernel
theorem dX6_fits_39 : decode cX6_fits 39 = .ok (.aload_n 1, 1) := by decide +kernel
theorem dX6_fits_40 : decode cX6_fits 40 = .ok (.aload_n 0, 1) := by decide +kernel
theorem dX6_fits_41 : decode cX6_fits 41 = .ok (.getfield 19, 3) := by decide +kernel
theorem dX6_fits_44 : decode cX6_fits 44 = .ok (.invokevirtual 22, 3) := by decide +kernel
theorem dX6_fits_47 : decode cX6_fits 47 = .ok (.aload_n 0, 1) := by decide +kernel
theorem dX6_fits_48 : decode cX6_fits 48 = .ok (.getfield 25, 3) := by decide +kernel
theorem dX6_fits_51 : decode cX6_fits 51 = .ok (.if_icmp .lt 7, 3) := by decide +kernel
theorem dX6_fits_54 : decode cX6_fits 54 = .ok (.iconst 1, 1) := by decide +kernel
theorem dX6_fits_55 : decode cX6_fits 55 = .ok (.goto 4, 3) := by decide +kernel
theorem dX6_fits_58 : decode cX6_fits 58 = .ok (.iconst 0, 1) := by decide +kernel
theorem dX6_fits_59 : decode cX6_fits 59 = .ok (.ireturn, 1) := by decide +kernel
theorem dX7_init_0 : decode cX7_init 0 = .ok (.aload_n 0, 1) := by decide +kernel
theorem dX7_init_1 : decode cX7_init 1 = .ok (.invokespecial 3, 3) := by decide +kernel
theorem dX7_init_4 : decode cX7_init 4 = .ok (.aload_n 0, 1) := by decide +kernel
theorem dX7_init_5 : decode cX7_init 5 = .ok (.iconst 4, 1) := by decide +kernel
theorem dX7_init_6 : decode cX7_init 6 = .ok (.anewarray 9, 3) := by decide +kernel
theorem dX7_init_9 : decode cX7_init 9 = .ok (.putfield 11, 3) := by decide +kernel
theorem dX7_init_12 : decode cX7_init 12 = .ok (.aload_n 0, 1) := by decide +kernel
theorem dX7_init_13 : decode cX7_init 13 = .ok (.iconst 4, 1) := by decide +kernel
theorem dX7_init_14 : decode cX7_init 14 = .ok (.newarray .boolean, 2) := by decide +kernel
theorem dX7_init_16 : decode cX7_init 16 = .ok (.putfield 17, 3) := by decide +kernel
theorem dX7_init_19 : decode cX7_init 19 = .ok (.aload_n 0, 1) := by decide +kernel
theorem dX7_init_20 : decode cX7_init 20 = .ok (.bipush 40, 2) := by decide +kernel
theorem dX7_init_22 : decode cX7_init 22 = .ok (.newarray .int, 2) := by decide +kernel
theorem dX7_init_24 : decode cX7_init 24 = .ok (.putfield 21, 3) := by decide +kernel
theorem dX7_init_27 : decode cX7_init 27 = .ok (.aload_n 0, 1) := by decide +kernel
theorem dX7_init_28 : decode cX7_init 28 = .ok (.bipush 40, 2) := by decide +kernel
theorem dX7_init_30 : decode cX7_init 30 = .ok (.newarray .int, 2) := by decide +kernel
theorem dX7_init_32 : decode cX7_init 32 = .ok (.putfield 25, 3) := by decide +kernel
theorem dX7_init_35 : decode cX7_init 35 = .ok (.aload_n 0, 1) := by decide +kernel
theorem dX7_init_36 : decode cX7_init 36 = .ok (.aload_n 1, 1) := by decide +kernel
theorem dX7_init_37 : decode cX7_init 37 = .ok (.putfield 28, 3) := by decide +kernel
theorem dX7_init_40 : decode cX7_init 40 = .ok (.aload_n 0, 1) := by decide +kernel
theorem dX7_init_41 : decode cX7_init 41 = .ok (.aload_n 2, 1) := by decide +kernel
theorem dX7_init_42 : decode cX7_init 42 = .ok (.putfield 32, 3) := by decide +kernel
theorem dX7_init_45 : decode cX7_init 45 = .ok (.iconst 0, 1) := by decide +kernel
theorem dX7_init_46 : decode cX7_init 46 = .ok (.istore_n 3, 1) := by decide +kernel
theorem dX7_init_47 : decode cX7_init 47 = .ok (.iload_n 3, 1) := by decide +kernel
theorem dX7_init_48 : decode cX7_init 48 = .ok (.aload_n 0, 1) := by decide +kernel
theorem dX7_init_49 : decode cX7_init 49 = .ok (.getfield 11, 3) := by decide +kernel
theorem dX7_init_52 : decode cX7_init 52 = .ok (.arraylength, 1) := by decide +kernel
theorem dX7_init_53 : decode cX7_init 53 = .ok (.if_icmp .ge 22, 3) := by decide +kernel
theorem dX7_init_56 : decode cX7_init 56 = .ok (.aload_n 0, 1) := by decide +kernel
theorem dX7_init_57 : decode cX7_init 57 = .ok (.getfield 11, 3) := by decide +kernel
theorem dX7_init_60 : decode cX7_init 60 = .ok (.iload_n 3, 1) := by decide +kernel
theorem dX7_init_61 : decode cX7_init 61 = .ok (.new 9, 3) := by decide +kernel
theorem dX7_init_64 : decode cX7_init 64 = .ok (.dup, 1) := by decide +kernel
theorem dX7_init_65 : decode cX7_init 65 = .ok (.invokespecial 36, 3) := by decide +kernel
theorem dX7_init_68 : decode cX7_init 68 = .ok (.aastore, 1) := by decide +kernel
theorem dX7_init_69 : decode cX7_init 69 = .ok (.iinc 3 1, 3) := by decide +kernel
theorem dX7_init_72 : decode cX7_init 72 = .ok (.goto (-25), 3) := by decide +kernel
theorem dX7_init_75 : decode cX7_init 75 = .ok (.return_, 1) := by decide +kernel
theorem dX7_runThrough_0 : decode cX7_runThrough 0 = .ok (.aload_n 0, 1) := by decide +kernel
theorem dX7_runThrough_1 : decode cX7_runThrough 1 = .ok (.getfield 32, 3) := by decide +kernel
theorem dX7_runThrough_4 : decode cX7_runThrough 4 = .ok (.invokevirtual 37, 3) := by decide +kernel
theorem dX7_runThrough_7 : decode cX7_runThrough 7 = .ok (.iconst 0, 1) := by decide +kernel
theorem dX7_runThrough_8 : decode cX7_runThrough 8 = .ok (.istore_n 2, 1) := by decide +kernel
theorem dX7_runThrough_9 : decode cX7_runThrough 9 = .ok (.iload_n 2, 1) := by decide +kernel
theorem dX7_runThrough_10 : decode cX7_runThrough 10 = .ok (.aload_n 0, 1) := by decide +kernel
theorem dX7_runThrough_11 : decode cX7_runThrough 11 = .ok (.getfield 17, 3) := by decide +kernel
theorem dX7_runThrough_14 : decode cX7_runThrough 14 = .ok (.arraylength, 1) := by decide +kernel
theorem dX7_runThrough_15 : decode cX7_runThrough 15 = .ok (.if_icmp .ge 16, 3) := by decide +kernel
theorem dX7_runThrough_18 : decode cX7_runThrough 18 = .ok (.aload_n 0, 1) := by decide +kernel
theorem dX7_runThrough_19 : decode cX7_runThrough 19 = .ok (.getfield 17, 3) := by decide +kernel
theorem dX7_runThrough_22 : decode cX7_runThrough 22 = .ok (.iload_n 2, 1) := by decide +kernel
theorem dX7_runThrough_23 : decode cX7_runThrough 23 = .ok (.iconst 0, 1) := by decide +kernel
theorem dX7_runThrough_24 : decode cX7_runThrough 24 = .ok (.bastore, 1) := by decide +kernel
theorem dX7_runThrough_25 : decode cX7_runThrough 25 = .ok (.iinc 2 1, 3) := by decide +kernel
theorem dX7_runThrough_28 : decode cX7_runThrough 28 = .ok (.goto (-19), 3) := by decide +kernel
theorem dX7_runThrough_31 : decode cX7_runThrough 31 = .ok (.aload_n 0, 1) := by decide +kernel
theorem dX7_runThrough_32 : decode cX7_runThrough 32 = .ok (.iconst 0, 1) := by decide +kernel
theorem dX7_runThrough_33 : decode cX7_runThrough 33 = .ok (.putfield 42, 3) := by decide +kernel
theorem dX7_runThrough_36 : decode cX7_runThrough 36 = .ok (.aload_n 0, 1) := by decide +kernel
theorem dX7_runThrough_37 : decode cX7_runThrough 37 = .ok (.iconst 0, 1) := by decide +kernel
theorem dX7_runThrough_38 : decode cX7_runThrough 38 = .ok (.putfield 46, 3) := by decide +kernel
theorem dX7_runThrough_41 : decode cX7_runThrough 41 = .ok (.iconst 0, 1) := by decide +kernel
theorem dX7_runThrough_42 : decode cX7_runThrough 42 = .ok (.istore_n 2, 1) := by decide +kernel
theorem dX7_runThrough_43 : decode cX7_runThrough 43 = .ok (.iconst 1, 1) := by decide +kernel
theorem dX7_runThrough_44 : decode cX7_runThrough 44 = .ok (.istore_n 3, 1) := by decide +kernel
theorem dX7_runThrough_45 : decode cX7_runThrough 45 = .ok (.iload_n 3, 1) := by decide +kernel
theorem dX7_runThrough_46 : decode cX7_runThrough 46 = .ok (.sipush 600, 3) := by decide +kernel
theorem dX7_runThrough_49 : decode cX7_runThrough 49 = .ok (.if_icmp .gt 79, 3) := by decide +kernel
theorem dX7_runThrough_52 : decode cX7_runThrough 52 = .ok (.iload_n 2, 1) := by decide +kernel
theorem dX7_runThrough_53 : decode cX7_runThrough 53 = .ok (.aload_n 1, 1) := by decide +kernel
theorem dX7_runThrough_54 : decode cX7_runThrough 54 = .ok (.getfield 49, 3) := by decide +kernel
theorem dX7_runThrough_57 : decode cX7_runThrough 57 = .ok (.if_icmp .ge 71, 3) := by decide +kernel
theorem dX7_runThrough_60 : decode cX7_runThrough 60 = .ok (.aload_n 0, 1) := by decide +kernel
theorem dX7_runThrough_61 : decode cX7_runThrough 61 = .ok (.getfield 46, 3) := by decide +kernel
theorem dX7_runThrough_64 : decode cX7_runThrough 64 = .ok (.ifCond .ne 64, 3) := by decide +kernel
theorem dX7_runThrough_67 : decode cX7_runThrough 67 = .ok (.aload_n 1, 1) := by decide +kernel
theorem dX7_runThrough_68 : decode cX7_runThrough 68 = .ok (.iload_n 2, 1) := by decide +kernel
theorem dX7_runThrough_69 : decode cX7_runThrough 69 = .ok (.invokestatic 54, 3) := by decide +kernel
theorem dX7_runThrough_72 : decode cX7_runThrough 72 = .ok (.istore 4, 2) := by decide +kernel
theorem dX7_runThrough_74 : decode cX7_runThrough 74 = .ok (.aload_n 1, 1) := by decide +kernel
theorem dX7_runThrough_75 : decode cX7_runThrough 75 = .ok (.iload_n 2, 1) := by decide +kernel
theorem dX7_runThrough_76 : decode cX7_runThrough 76 = .ok (.invokevirtual 60, 3) := by decide +kernel
theorem dX7_runThrough_79 : decode cX7_runThrough 79 = .ok (.bipush 62, 2) := by decide +kernel
theorem dX7_runThrough_81 : decode cX7_runThrough 81 = .ok (.if_icmp .ne 16, 3) := by decide +kernel
theorem dX7_runThrough_84 : decode cX7_runThrough 84 = .ok (.aload_n 0, 1) := by decide +kernel
theorem dX7_runThrough_85 : decode cX7_runThrough 85 = .ok (.aload_n 1, 1) := by decide +kernel
theorem dX7_runThrough_86 : decode cX7_runThrough 86 = .ok (.iload_n 2, 1) := by decide +kernel
theorem dX7_runThrough_87 : decode cX7_runThrough 87 = .ok (.iconst 2, 1) := by decide +kernel
theorem dX7_runThrough_88 : decode cX7_runThrough 88 = .ok (.iadd, 1) := by decide +kernel
theorem dX7_runThrough_89 : decode cX7_runThrough 89 = .ok (.iload 4, 2) := by decide +kernel
theorem dX7_runThrough_91 : decode cX7_runThrough 91 = .ok (.invokevirtual 64, 3) := by decide +kernel
theorem dX7_runThrough_94 : decode cX7_runThrough 94 = .ok (.goto 11, 3) := by decide +kernel
theorem dX7_runThrough_97 : decode cX7_runThrough 97 = .ok (.aload_n 0, 1) := by decide +kernel
theorem dX7_runThrough_98 : decode cX7_runThrough 98 = .ok (.aload_n 1, 1) := by decide +kernel
theorem dX7_runThrough_99 : decode cX7_runThrough 99 = .ok (.iload_n 2, 1) := by decide +kernel
theorem dX7_runThrough_100 : decode cX7_runThrough 100 = .ok (.iload 4, 2) := by decide +kernel
theorem dX7_runThrough_102 : decode cX7_runThrough 102 = .ok (.invokevirtual 68, 3) := by decide +kernel
theorem dX7_runThrough_105 : decode cX7_runThrough 105 = .ok (.istore 5, 2) := by decide +kernel
theorem dX7_runThrough_107 : decode cX7_runThrough 107 = .ok (.iload 5, 2) := by decide +kernel
theorem dX7_runThrough_109 : decode cX7_runThrough 109 = .ok (.ifCond .ne 8, 3) := by decide +kernel
theorem dX7_runThrough_112 : decode cX7_runThrough 112 = .ok (.aload_n 0, 1) := by decide +kernel
theorem dX7_runThrough_113 : decode cX7_runThrough 113 = .ok (.iload_n 3, 1) := by decide +kernel
theorem dX7_runThrough_114 : decode cX7_runThrough 114 = .ok (.invokevirtual 71, 3) := by decide +kernel
theorem dX7_runThrough_117 : decode cX7_runThrough 117 = .ok (.iload 4, 2) := by decide +kernel
theorem dX7_runThrough_119 : decode cX7_runThrough 119 = .ok (.iconst 1, 1) := by decide +kernel
theorem dX7_runThrough_120 : decode cX7_runThrough 120 = .ok (.iadd, 1) := by decide +kernel
theorem dX7_runThrough_121 : decode cX7_runThrough 121 = .ok (.istore_n 2, 1) := by decide +kernel
theorem dX7_runThrough_122 : decode cX7_runThrough 122 = .ok (.iinc 3 1, 3) := by decide +kernel
theorem dX7_runThrough_125 : decode cX7_runThrough 125 = .ok (.goto (-80), 3) := by decide +kernel
theorem dX7_runThrough_128 : decode cX7_runThrough 128 = .ok (.aload_n 0, 1) := by decide +kernel
theorem dX7_runThrough_129 : decode cX7_runThrough 129 = .ok (.getfield 42, 3) := by decide +kernel
theorem dX7_runThrough_132 : decode cX7_runThrough 132 = .ok (.ireturn, 1) := by decide +kernel
theorem dX7_noteFailed_0 : decode cX7_noteFailed 0 = .ok (.aload_n 0, 1) := by decide +kernel
theorem dX7_noteFailed_1 : decode cX7_noteFailed 1 = .ok (.getfield 42, 3) := by decide +kernel
theorem dX7_noteFailed_4 : decode cX7_noteFailed 4 = .ok (.ifCond .lt 27, 3) := by decide +kernel
theorem dX7_noteFailed_7 : decode cX7_noteFailed 7 = .ok (.aload_n 0, 1) := by decide +kernel
theorem dX7_noteFailed_8 : decode cX7_noteFailed 8 = .ok (.getfield 42, 3) := by decide +kernel
theorem dX7_noteFailed_11 : decode cX7_noteFailed 11 = .ok (.aload_n 0, 1) := by decide +kernel
theorem dX7_noteFailed_12 : decode cX7_noteFailed 12 = .ok (.getfield 21, 3) := by decide +kernel
theorem dX7_noteFailed_15 : decode cX7_noteFailed 15 = .ok (.arraylength, 1) := by decide +kernel
theorem dX7_noteFailed_16 : decode cX7_noteFailed 16 = .ok (.if_icmp .ge 15, 3) := by decide +kernel
theorem dX7_noteFailed_19 : decode cX7_noteFailed 19 = .ok (.aload_n 0, 1) := by decide +kernel
theorem dX7_noteFailed_20 : decode cX7_noteFailed 20 = .ok (.getfield 42, 3) := by decide +kernel
theorem dX7_noteFailed_23 : decode cX7_noteFailed 23 = .ok (.aload_n 0, 1) := by decide +kernel
theorem dX7_noteFailed_24 : decode cX7_noteFailed 24 = .ok (.getfield 25, 3) := by decide +kernel
theorem dX7_noteFailed_27 : decode cX7_noteFailed 27 = .ok (.arraylength, 1) := by decide +kernel
theorem dX7_noteFailed_28 : decode cX7_noteFailed 28 = .ok (.if_icmp .lt 4, 3) := by decide +kernel
theorem dX7_noteFailed_31 : decode cX7_noteFailed 31 = .ok (.return_, 1) := by decide +kernel
theorem dX7_noteFailed_32 : decode cX7_noteFailed 32 = .ok (.aload_n 0, 1) := by decide +kernel
theorem dX7_noteFailed_33 : decode cX7_noteFailed 33 = .ok (.getfield 21, 3) := by decide +kernel
theorem dX7_noteFailed_36 : decode cX7_noteFailed 36 = .ok (.aload_n 0, 1) := by decide +kernel
theorem dX7_noteFailed_37 : decode cX7_noteFailed 37 = .ok (.getfield 42, 3) := by decide +kernel
theorem dX7_noteFailed_40 : decode cX7_noteFailed 40 = .ok (.iload_n 1, 1) := by decide +kernel
theorem dX7_noteFailed_41 : decode cX7_noteFailed 41 = .ok (.iastore, 1) := by decide +kernel
theorem dX7_noteFailed_42 : decode cX7_noteFailed 42 = .ok (.aload_n 0, 1) := by decide +kernel
theorem dX7_noteFailed_43 : decode cX7_noteFailed 43 = .ok (.getfield 25, 3) := by decide +kernel
theorem dX7_noteFailed_46 : decode cX7_noteFailed 46 = .ok (.aload_n 0, 1) := by decide +kernel
theorem dX7_noteFailed_47 : decode cX7_noteFailed 47 = .ok (.getfield 42, 3) := by decide +kernel
theorem dX7_noteFailed_50 : decode cX7_noteFailed 50 = .ok (.aload_n 0, 1) := by decide +kernel
theorem dX7_noteFailed_51 : decode cX7_noteFailed 51 = .ok (.getfield 46, 3) := by decide +kernel
theorem dX7_noteFailed_54 : decode cX7_noteFailed 54 = .ok (.iastore, 1) := by decide +kernel
theorem dX7_noteFailed_55 : decode cX7_noteFailed 55 = .ok (.aload_n 0, 1) := by decide +kernel
theorem dX7_noteFailed_56 : decode cX7_noteFailed 56 = .ok (.dup, 1) := by decide +kernel
theorem dX7_noteFailed_57 : decode cX7_noteFailed 57 = .ok (.getfield 42, 3) := by decide +kernel
theorem dX7_noteFailed_60 : decode cX7_noteFailed 60 = .ok (.iconst 1, 1) := by decide +kernel
theorem dX7_noteFailed_61 : decode cX7_noteFailed 61 = .ok (.iadd, 1) := by decide +kernel
theorem dX7_noteFailed_62 : decode cX7_noteFailed 62 = .ok (.putfield 42, 3) := by decide +kernel
theorem dX7_noteFailed_65 : decode cX7_noteFailed 65 = .ok (.return_, 1) := by decide +kernel
theorem dX7_comesOut_0 : decode cX7_comesOut 0 = .ok (.iload_n 2, 1) := by decide +kernel
theorem dX7_comesOut_1 : decode cX7_comesOut 1 = .ok (.iconst 2, 1) := by decide +kernel
theorem dX7_comesOut_2 : decode cX7_comesOut 2 = .ok (.iadd, 1) := by decide +kernel
theorem dX7_comesOut_3 : decode cX7_comesOut 3 = .ok (.istore 4, 2) := by decide +kernel
theorem dX7_comesOut_5 : decode cX7_comesOut 5 = .ok (.aload_n 1, 1) := by decide +kernel
theorem dX7_comesOut_6 : decode cX7_comesOut 6 = .ok (.iload 4, 2) := by decide +kernel
theorem dX7_comesOut_8 : decode cX7_comesOut 8 = .ok (.invokevirtual 60, 3) := by decide +kernel
theorem dX7_comesOut_11 : decode cX7_comesOut 11 = .ok (.bipush 48, 2) := by decide +kernel
theorem dX7_comesOut_13 : decode cX7_comesOut 13 = .ok (.isub, 1) := by decide +kernel
theorem dX7_comesOut_14 : decode cX7_comesOut 14 = .ok (.istore 5, 2) := by decide +kernel
theorem dX7_comesOut_16 : decode cX7_comesOut 16 = .ok (.aload_n 1, 1) := by decide +kernel
theorem dX7_comesOut_17 : decode cX7_comesOut 17 = .ok (.iload_n 2, 1) := by decide +kernel
theorem dX7_comesOut_18 : decode cX7_comesOut 18 = .ok (.invokevirtual 60, 3) := by decide +kernel
theorem dX7_comesOut_21 : decode cX7_comesOut 21 = .ok (.lookupswitch 190 #[(33, 155), (61, 59), (63, 104), (64, 134), (98, 183), (115, 176)], 59) := by decide +kernel
theorem dX7_comesOut_80 : decode cX7_comesOut 80 = .ok (.aload_n 0, 1) := by decide +kernel
theorem dX7_comesOut_81 : decode cX7_comesOut 81 = .ok (.getfield 32, 3) := by decide +kernel
theorem dX7_comesOut_84 : decode cX7_comesOut 84 = .ok (.getfield 75, 3) := by decide +kernel
theorem dX7_comesOut_87 : decode cX7_comesOut 87 = .ok (.getfield 79, 3) := by decide +kernel
theorem dX7_comesOut_90 : decode cX7_comesOut 90 = .ok (.bipush (-2), 2) := by decide +kernel
theorem dX7_comesOut_92 : decode cX7_comesOut 92 = .ok (.if_icmp .eq 31, 3) := by decide +kernel
theorem dX7_comesOut_95 : decode cX7_comesOut 95 = .ok (.aload_n 1, 1) := by decide +kernel
theorem dX7_comesOut_96 : decode cX7_comesOut 96 = .ok (.iload 4, 2) := by decide +kernel
theorem dX7_comesOut_98 : decode cX7_comesOut 98 = .ok (.iload_n 3, 1) := by decide +kernel
theorem dX7_comesOut_99 : decode cX7_comesOut 99 = .ok (.aload_n 0, 1) := by decide +kernel
theorem dX7_comesOut_100 : decode cX7_comesOut 100 = .ok (.getfield 28, 3) := by decide +kernel
theorem dX7_comesOut_103 : decode cX7_comesOut 103 = .ok (.aload_n 0, 1) := by decide +kernel
theorem dX7_comesOut_104 : decode cX7_comesOut 104 = .ok (.getfield 32, 3) := by decide +kernel
theorem dX7_comesOut_107 : decode cX7_comesOut 107 = .ok (.getfield 75, 3) := by decide +kernel
theorem dX7_comesOut_110 : decode cX7_comesOut 110 = .ok (.getfield 79, 3) := by decide +kernel
theorem dX7_comesOut_113 : decode cX7_comesOut 113 = .ok (.invokestatic 82, 3) := by decide +kernel
theorem dX7_comesOut_116 : decode cX7_comesOut 116 = .ok (.ifCond .eq 7, 3) := by decide +kernel
theorem dX7_comesOut_119 : decode cX7_comesOut 119 = .ok (.iconst 1, 1) := by decide +kernel
theorem dX7_comesOut_120 : decode cX7_comesOut 120 = .ok (.goto 4, 3) := by decide +kernel
theorem dX7_comesOut_123 : decode cX7_comesOut 123 = .ok (.iconst 0, 1) := by decide +kernel
theorem dX7_comesOut_124 : decode cX7_comesOut 124 = .ok (.ireturn, 1) := by decide +kernel
theorem dX7_comesOut_125 : decode cX7_comesOut 125 = .ok (.aload_n 0, 1) := by decide +kernel
theorem dX7_comesOut_126 : decode cX7_comesOut 126 = .ok (.getfield 32, 3) := by decide +kernel
theorem dX7_comesOut_129 : decode cX7_comesOut 129 = .ok (.getfield 75, 3) := by decide +kernel
theorem dX7_comesOut_132 : decode cX7_comesOut 132 = .ok (.iload 5, 2) := by decide +kernel
theorem dX7_comesOut_134 : decode cX7_comesOut 134 = .ok (.invokevirtual 88, 3) := by decide +kernel
theorem dX7_comesOut_137 : decode cX7_comesOut 137 = .ok (.aload_n 1, 1) := by decide +kernel
theorem dX7_comesOut_138 : decode cX7_comesOut 138 = .ok (.iload 4, 2) := by decide +kernel
theorem dX7_comesOut_140 : decode cX7_comesOut 140 = .ok (.iconst 2, 1) := by decide +kernel
theorem dX7_comesOut_141 : decode cX7_comesOut 141 = .ok (.iadd, 1) := by decide +kernel
theorem dX7_comesOut_142 : decode cX7_comesOut 142 = .ok (.iload_n 3, 1) := by decide +kernel
theorem dX7_comesOut_143 : decode cX7_comesOut 143 = .ok (.invokestatic 91, 3) := by decide +kernel
theorem dX7_comesOut_146 : decode cX7_comesOut 146 = .ok (.if_icmp .ne 7, 3) := by decide +kernel
theorem dX7_comesOut_149 : decode cX7_comesOut 149 = .ok (.iconst 1, 1) := by decide +kernel
theorem dX7_comesOut_150 : decode cX7_comesOut 150 = .ok (.goto 4, 3) := by decide +kernel
theorem dX7_comesOut_153 : decode cX7_comesOut 153 = .ok (.iconst 0, 1) := by decide +kernel
theorem dX7_comesOut_154 : decode cX7_comesOut 154 = .ok (.ireturn, 1) := by decide +kernel
theorem dX7_comesOut_155 : decode cX7_comesOut 155 = .ok (.aload_n 0, 1) := by decide +kernel
theorem dX7_comesOut_156 : decode cX7_comesOut 156 = .ok (.getfield 32, 3) := by decide +kernel
theorem dX7_comesOut_159 : decode cX7_comesOut 159 = .ok (.getfield 75, 3) := by decide +kernel
theorem dX7_comesOut_162 : decode cX7_comesOut 162 = .ok (.getfield 95, 3) := by decide +kernel
theorem dX7_comesOut_165 : decode cX7_comesOut 165 = .ok (.iload 5, 2) := by decide +kernel
theorem dX7_comesOut_167 : decode cX7_comesOut 167 = .ok (.if_icmp .ne 7, 3) := by decide +kernel
theorem dX7_comesOut_170 : decode cX7_comesOut 170 = .ok (.iconst 1, 1) := by decide +kernel
theorem dX7_comesOut_171 : decode cX7_comesOut 171 = .ok (.goto 4, 3) := by decide +kernel
theorem dX7_comesOut_174 : decode cX7_comesOut 174 = .ok (.iconst 0, 1) := by decide +kernel
theorem dX7_comesOut_175 : decode cX7_comesOut 175 = .ok (.ireturn, 1) := by decide +kernel
theorem dX7_comesOut_176 : decode cX7_comesOut 176 = .ok (.aload_n 0, 1) := by decide +kernel
theorem dX7_comesOut_177 : decode cX7_comesOut 177 = .ok (.getfield 32, 3) := by decide +kernel
theorem dX7_comesOut_180 : decode cX7_comesOut 180 = .ok (.getfield 75, 3) := by decide +kernel
theorem dX7_comesOut_183 : decode cX7_comesOut 183 = .ok (.getfield 98, 3) := by decide +kernel
theorem dX7_comesOut_186 : decode cX7_comesOut 186 = .ok (.iload 5, 2) := by decide +kernel
theorem dX7_comesOut_188 : decode cX7_comesOut 188 = .ok (.if_icmp .ne 7, 3) := by decide +kernel
theorem dX7_comesOut_191 : decode cX7_comesOut 191 = .ok (.iconst 1, 1) := by decide +kernel
theorem dX7_comesOut_192 : decode cX7_comesOut 192 = .ok (.goto 4, 3) := by decide +kernel
theorem dX7_comesOut_195 : decode cX7_comesOut 195 = .ok (.iconst 0, 1) := by decide +kernel
theorem dX7_comesOut_196 : decode cX7_comesOut 196 = .ok (.ireturn, 1) := by decide +kernel
theorem dX7_comesOut_197 : decode cX7_comesOut 197 = .ok (.aload_n 0, 1) := by decide +kernel
theorem dX7_comesOut_198 : decode cX7_comesOut 198 = .ok (.iload 5, 2) := by decide +kernel
theorem dX7_comesOut_200 : decode cX7_comesOut 200 = .ok (.invokevirtual 101, 3) := by decide +kernel
theorem dX7_comesOut_203 : decode cX7_comesOut 203 = .ok (.ireturn, 1) := by decide +kernel
theorem dX7_comesOut_204 : decode cX7_comesOut 204 = .ok (.aload_n 0, 1) := by decide +kernel
theorem dX7_comesOut_205 : decode cX7_comesOut 205 = .ok (.iload 5, 2) := by decide +kernel
theorem dX7_comesOut_207 : decode cX7_comesOut 207 = .ok (.invokevirtual 105, 3) := by decide +kernel
theorem dX7_comesOut_210 : decode cX7_comesOut 210 = .ok (.ireturn, 1) := by decide +kernel
theorem dX7_comesOut_211 : decode cX7_comesOut 211 = .ok (.iconst 1, 1) := by decide +kernel
theorem dX7_comesOut_212 : decode cX7_comesOut 212 = .ok (.ireturn, 1) := by decide +kernel
theorem dX7_saysAll_0 : decode cX7_saysAll 0 = .ok (.iload_n 2, 1) := by decide +kernel
theorem dX7_saysAll_1 : decode cX7_saysAll 1 = .ok (.istore 4, 2) := by decide +kernel
theorem dX7_saysAll_3 : decode cX7_saysAll 3 = .ok (.iload 4, 2) := by decide +kernel
theorem dX7_saysAll_5 : decode cX7_saysAll 5 = .ok (.iload_n 3, 1) := by decide +kernel
theorem dX7_saysAll_6 : decode cX7_saysAll 6 = .ok (.if_icmp .ge 77, 3) := by decide +kernel
theorem dX7_saysAll_9 : decode cX7_saysAll 9 = .ok (.aload_n 1, 1) := by decide +kernel
theorem dX7_saysAll_10 : decode cX7_saysAll 10 = .ok (.iload 4, 2) := by decide +kernel
theorem dX7_saysAll_12 : decode cX7_saysAll 12 = .ok (.invokestatic 108, 3) := by decide +kernel
theorem dX7_saysAll_15 : decode cX7_saysAll 15 = .ok (.istore 5, 2) := by decide +kernel
theorem dX7_saysAll_17 : decode cX7_saysAll 17 = .ok (.iload 5, 2) := by decide +kernel
theorem dX7_saysAll_19 : decode cX7_saysAll 19 = .ok (.iload 4, 2) := by decide +kernel
theorem dX7_saysAll_21 : decode cX7_saysAll 21 = .ok (.if_icmp .le 16, 3) := by decide +kernel
theorem dX7_saysAll_24 : decode cX7_saysAll 24 = .ok (.aload_n 0, 1) := by decide +kernel
theorem dX7_saysAll_25 : decode cX7_saysAll 25 = .ok (.getfield 32, 3) := by decide +kernel
theorem dX7_saysAll_28 : decode cX7_saysAll 28 = .ok (.getfield 75, 3) := by decide +kernel
theorem dX7_saysAll_31 : decode cX7_saysAll 31 = .ok (.getfield 98, 3) := by decide +kernel
theorem dX7_saysAll_34 : decode cX7_saysAll 34 = .ok (.ifCond .eq 5, 3) := by decide +kernel
theorem dX7_saysAll_37 : decode cX7_saysAll 37 = .ok (.iconst 0, 1) := by decide +kernel
theorem dX7_saysAll_38 : decode cX7_saysAll 38 = .ok (.ireturn, 1) := by decide +kernel
theorem dX7_saysAll_39 : decode cX7_saysAll 39 = .ok (.aload_n 0, 1) := by decide +kernel
theorem dX7_saysAll_40 : decode cX7_saysAll 40 = .ok (.aload_n 0, 1) := by decide +kernel
theorem dX7_saysAll_41 : decode cX7_saysAll 41 = .ok (.getfield 32, 3) := by decide +kernel
theorem dX7_saysAll_44 : decode cX7_saysAll 44 = .ok (.aload_n 0, 1) := by decide +kernel
theorem dX7_saysAll_45 : decode cX7_saysAll 45 = .ok (.getfield 28, 3) := by decide +kernel
theorem dX7_saysAll_48 : decode cX7_saysAll 48 = .ok (.getfield 111, 3) := by decide +kernel
theorem dX7_saysAll_51 : decode cX7_saysAll 51 = .ok (.aload_n 1, 1) := by decide +kernel
theorem dX7_saysAll_52 : decode cX7_saysAll 52 = .ok (.iload 4, 2) := by decide +kernel
theorem dX7_saysAll_54 : decode cX7_saysAll 54 = .ok (.iload 5, 2) := by decide +kernel
theorem dX7_saysAll_56 : decode cX7_saysAll 56 = .ok (.invokevirtual 117, 3) := by decide +kernel
theorem dX7_saysAll_59 : decode cX7_saysAll 59 = .ok (.invokevirtual 122, 3) := by decide +kernel
theorem dX7_saysAll_62 : decode cX7_saysAll 62 = .ok (.putfield 46, 3) := by decide +kernel
theorem dX7_saysAll_65 : decode cX7_saysAll 65 = .ok (.aload_n 0, 1) := by decide +kernel
theorem dX7_saysAll_66 : decode cX7_saysAll 66 = .ok (.getfield 46, 3) := by decide +kernel
theorem dX7_saysAll_69 : decode cX7_saysAll 69 = .ok (.ifCond .eq 5, 3) := by decide +kernel
theorem dX7_saysAll_72 : decode cX7_saysAll 72 = .ok (.iconst 0, 1) := by decide +kernel
theorem dX7_saysAll_73 : decode cX7_saysAll 73 = .ok (.ireturn, 1) := by decide +kernel
theorem dX7_saysAll_74 : decode cX7_saysAll 74 = .ok (.iload 5, 2) := by decide +kernel
theorem dX7_saysAll_76 : decode cX7_saysAll 76 = .ok (.iconst 1, 1) := by decide +kernel
theorem dX7_saysAll_77 : decode cX7_saysAll 77 = .ok (.iadd, 1) := by decide +kernel
theorem dX7_saysAll_78 : decode cX7_saysAll 78 = .ok (.istore 4, 2) := by decide +kernel
theorem dX7_saysAll_80 : decode cX7_saysAll 80 = .ok (.goto (-77), 3) := by decide +kernel
theorem dX7_saysAll_83 : decode cX7_saysAll 83 = .ok (.iconst 1, 1) := by decide +kernel
theorem dX7_saysAll_84 : decode cX7_saysAll 84 = .ok (.ireturn, 1) := by decide +kernel
theorem dX7_numberAt_0 : decode cX7_numberAt 0 = .ok (.aload_n 0, 1) := by decide +kernel
theorem dX7_numberAt_1 : decode cX7_numberAt 1 = .ok (.iload_n 1, 1) := by decide +kernel
theorem dX7_numberAt_2 : decode cX7_numberAt 2 = .ok (.invokevirtual 60, 3) := by decide +kernel
theorem dX7_numberAt_5 : decode cX7_numberAt 5 = .ok (.bipush 45, 2) := by decide +kernel
theorem dX7_numberAt_7 : decode cX7_numberAt 7 = .ok (.if_icmp .ne 7, 3) := by decide +kernel
theorem dX7_numberAt_10 : decode cX7_numberAt 10 = .ok (.iconst 1, 1) := by decide +kernel
theorem dX7_numberAt_11 : decode cX7_numberAt 11 = .ok (.goto 4, 3) := by decide +kernel
theorem dX7_numberAt_14 : decode cX7_numberAt 14 = .ok (.iconst 0, 1) := by decide +kernel
theorem dX7_numberAt_15 : decode cX7_numberAt 15 = .ok (.istore_n 3, 1) := by decide +kernel
theorem dX7_numberAt_16 : decode cX7_numberAt 16 = .ok (.iconst 0, 1) := by decide +kernel
theorem dX7_numberAt_17 : decode cX7_numberAt 17 = .ok (.istore 4, 2) := by decide +kernel
theorem dX7_numberAt_19 : decode cX7_numberAt 19 = .ok (.iload_n 3, 1) := by decide +kernel
theorem dX7_numberAt_20 : decode cX7_numberAt 20 = .ok (.ifCond .eq 9, 3) := by decide +kernel
theorem dX7_numberAt_23 : decode cX7_numberAt 23 = .ok (.iload_n 1, 1) := by decide +kernel
theorem dX7_numberAt_24 : decode cX7_numberAt 24 = .ok (.iconst 1, 1) := by decide +kernel
theorem dX7_numberAt_25 : decode cX7_numberAt 25 = .ok (.iadd, 1) := by decide +kernel
theorem dX7_numberAt_26 : decode cX7_numberAt 26 = .ok (.goto 4, 3) := by decide +kernel
theorem dX7_numberAt_29 : decode cX7_numberAt 29 = .ok (.iload_n 1, 1) := by decide +kernel
theorem dX7_numberAt_30 : decode cX7_numberAt 30 = .ok (.istore 5, 2) := by decide +kernel
theorem dX7_numberAt_32 : decode cX7_numberAt 32 = .ok (.iload 5, 2) := by decide +kernel
theorem dX7_numberAt_34 : decode cX7_numberAt 34 = .ok (.iload_n 2, 1) := by decide +kernel
theorem dX7_numberAt_35 : decode cX7_numberAt 35 = .ok (.if_icmp .ge 26, 3) := by decide +kernel
theorem dX7_numberAt_38 : decode cX7_numberAt 38 = .ok (.iload 4, 2) := by decide +kernel
theorem dX7_numberAt_40 : decode cX7_numberAt 40 = .ok (.bipush 10, 2) := by decide +kernel
theorem dX7_numberAt_42 : decode cX7_numberAt 42 = .ok (.imul, 1) := by decide +kernel
theorem dX7_numberAt_43 : decode cX7_numberAt 43 = .ok (.aload_n 0, 1) := by decide +kernel
theorem dX7_numberAt_44 : decode cX7_numberAt 44 = .ok (.iload 5, 2) := by decide +kernel
theorem dX7_numberAt_46 : decode cX7_numberAt 46 = .ok (.invokevirtual 60, 3) := by decide +kernel
theorem dX7_numberAt_49 : decode cX7_numberAt 49 = .ok (.iadd, 1) := by decide +kernel
theorem dX7_numberAt_50 : decode cX7_numberAt 50 = .ok (.bipush 48, 2) := by decide +kernel
theorem dX7_numberAt_52 : decode cX7_numberAt 52 = .ok (.isub, 1) := by decide +kernel
theorem dX7_numberAt_53 : decode cX7_numberAt 53 = .ok (.istore 4, 2) := by decide +kernel
theorem dX7_numberAt_55 : decode cX7_numberAt 55 = .ok (.iinc 5 1, 3) := by decide +kernel
theorem dX7_numberAt_58 : decode cX7_numberAt 58 = .ok (.goto (-26), 3) := by decide +kernel
theorem dX7_numberAt_61 : decode cX7_numberAt 61 = .ok (.iload_n 3, 1) := by decide +kernel
theorem dX7_numberAt_62 : decode cX7_numberAt 62 = .ok (.ifCond .eq 9, 3) := by decide +kernel
theorem dX7_numberAt_65 : decode cX7_numberAt 65 = .ok (.iload 4, 2) := by decide +kernel
theorem dX7_numberAt_67 : decode cX7_numberAt 67 = .ok (.ineg, 1) := by decide +kernel
theorem dX7_numberAt_68 : decode cX7_numberAt 68 = .ok (.goto 5, 3) := by decide +kernel
theorem dX7_numberAt_71 : decode cX7_numberAt 71 = .ok (.iload 4, 2) := by decide +kernel
theorem dX7_numberAt_73 : decode cX7_numberAt 73 = .ok (.ireturn, 1) := by decide +kernel
theorem dX7_keepPoint_0 : decode cX7_keepPoint 0 = .ok (.iload_n 1, 1) := by decide +kernel
theorem dX7_keepPoint_1 : decode cX7_keepPoint 1 = .ok (.ifCond .lt 21, 3) := by decide +kernel
theorem dX7_keepPoint_4 : decode cX7_keepPoint 4 = .ok (.iload_n 1, 1) := by decide +kernel
theorem dX7_keepPoint_5 : decode cX7_keepPoint 5 = .ok (.aload_n 0, 1) := by decide +kernel
theorem dX7_keepPoint_6 : decode cX7_keepPoint 6 = .ok (.getfield 11, 3) := by decide +kernel
theorem dX7_keepPoint_9 : decode cX7_keepPoint 9 = .ok (.arraylength, 1) := by decide +kernel
theorem dX7_keepPoint_10 : decode cX7_keepPoint 10 = .ok (.if_icmp .ge 12, 3) := by decide +kernel
theorem dX7_keepPoint_13 : decode cX7_keepPoint 13 = .ok (.iload_n 1, 1) := by decide +kernel
theorem dX7_keepPoint_14 : decode cX7_keepPoint 14 = .ok (.aload_n 0, 1) := by decide +kernel
theorem dX7_keepPoint_15 : decode cX7_keepPoint 15 = .ok (.getfield 17, 3) := by decide +kernel
theorem dX7_keepPoint_18 : decode cX7_keepPoint 18 = .ok (.arraylength, 1) := by decide +kernel
theorem dX7_keepPoint_19 : decode cX7_keepPoint 19 = .ok (.if_icmp .lt 5, 3) := by decide +kernel
theorem dX7_keepPoint_22 : decode cX7_keepPoint 22 = .ok (.iconst 0, 1) := by decide +kernel
theorem dX7_keepPoint_23 : decode cX7_keepPoint 23 = .ok (.ireturn, 1) := by decide +kernel
theorem dX7_keepPoint_24 : decode cX7_keepPoint 24 = .ok (.aload_n 0, 1) := by decide +kernel
theorem dX7_keepPoint_25 : decode cX7_keepPoint 25 = .ok (.getfield 11, 3) := by decide +kernel
theorem dX7_keepPoint_28 : decode cX7_keepPoint 28 = .ok (.iload_n 1, 1) := by decide +kernel
theorem dX7_keepPoint_29 : decode cX7_keepPoint 29 = .ok (.aaload, 1) := by decide +kernel
theorem dX7_keepPoint_30 : decode cX7_keepPoint 30 = .ok (.aload_n 0, 1) := by decide +kernel
theorem dX7_keepPoint_31 : decode cX7_keepPoint 31 = .ok (.getfield 32, 3) := by decide +kernel
theorem dX7_keepPoint_34 : decode cX7_keepPoint 34 = .ok (.getfield 75, 3) := by decide +kernel
theorem dX7_keepPoint_37 : decode cX7_keepPoint 37 = .ok (.invokevirtual 125, 3) := by decide +kernel
theorem dX7_keepPoint_40 : decode cX7_keepPoint 40 = .ok (.aload_n 0, 1) := by decide +kernel
theorem dX7_keepPoint_41 : decode cX7_keepPoint 41 = .ok (.getfield 17, 3) := by decide +kernel
theorem dX7_keepPoint_44 : decode cX7_keepPoint 44 = .ok (.iload_n 1, 1) := by decide +kernel
theorem dX7_keepPoint_45 : decode cX7_keepPoint 45 = .ok (.iconst 1, 1) := by decide +kernel
theorem dX7_keepPoint_46 : decode cX7_keepPoint 46 = .ok (.bastore, 1) := by decide +kernel
theorem dX7_keepPoint_47 : decode cX7_keepPoint 47 = .ok (.iconst 1, 1) := by decide +kernel
theorem dX7_keepPoint_48 : decode cX7_keepPoint 48 = .ok (.ireturn, 1) := by decide +kernel
theorem dX7_goBack_0 : decode cX7_goBack 0 = .ok (.iload_n 1, 1) := by decide +kernel
theorem dX7_goBack_1 : decode cX7_goBack 1 = .ok (.ifCond .lt 30, 3) := by decide +kernel
theorem dX7_goBack_4 : decode cX7_goBack 4 = .ok (.iload_n 1, 1) := by decide +kernel
theorem dX7_goBack_5 : decode cX7_goBack 5 = .ok (.aload_n 0, 1) := by decide +kernel
theorem dX7_goBack_6 : decode cX7_goBack 6 = .ok (.getfield 11, 3) := by decide +kernel
theorem dX7_goBack_9 : decode cX7_goBack 9 = .ok (.arraylength, 1) := by decide +kernel
theorem dX7_goBack_10 : decode cX7_goBack 10 = .ok (.if_icmp .ge 21, 3) := by decide +kernel
theorem dX7_goBack_13 : decode cX7_goBack 13 = .ok (.iload_n 1, 1) := by decide +kernel
theorem dX7_goBack_14 : decode cX7_goBack 14 = .ok (.aload_n 0, 1) := by decide +kernel
theorem dX7_goBack_15 : decode cX7_goBack 15 = .ok (.getfield 17, 3) := by decide +kernel
theorem dX7_goBack_18 : decode cX7_goBack 18 = .ok (.arraylength, 1) := by decide +kernel
theorem dX7_goBack_19 : decode cX7_goBack 19 = .ok (.if_icmp .ge 12, 3) := by decide +kernel
theorem dX7_goBack_22 : decode cX7_goBack 22 = .ok (.aload_n 0, 1) := by decide +kernel
theorem dX7_goBack_23 : decode cX7_goBack 23 = .ok (.getfield 17, 3) := by decide +kernel
