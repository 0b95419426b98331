theorem dJ6_compare_7cf53_0 : decode cJ6_compare_7cf53 0 = .ok (.iload_n 0, 1) := by decide +kernel
theorem dJ6_compare_7cf53_1 : decode cJ6_compare_7cf53 1 = .ok (.iload_n 1, 1) := by decide +kernel
theorem dJ6_compare_7cf53_2 : decode cJ6_compare_7cf53 2 = .ok (.if_icmp .ge 7, 3) := by decide +kernel
theorem dJ6_compare_7cf53_5 : decode cJ6_compare_7cf53 5 = .ok (.iconst (-1), 1) := by decide +kernel
theorem dJ6_compare_7cf53_6 : decode cJ6_compare_7cf53 6 = .ok (.goto 13, 3) := by decide +kernel
theorem dJ6_compare_7cf53_9 : decode cJ6_compare_7cf53 9 = .ok (.iload_n 0, 1) := by decide +kernel
theorem dJ6_compare_7cf53_10 : decode cJ6_compare_7cf53 10 = .ok (.iload_n 1, 1) := by decide +kernel
theorem dJ6_compare_7cf53_11 : decode cJ6_compare_7cf53 11 = .ok (.if_icmp .ne 7, 3) := by decide +kernel
theorem dJ6_compare_7cf53_14 : decode cJ6_compare_7cf53 14 = .ok (.iconst 0, 1) := by decide +kernel
theorem dJ6_compare_7cf53_15 : decode cJ6_compare_7cf53 15 = .ok (.goto 4, 3) := by decide +kernel
theorem dJ6_compare_7cf53_18 : decode cJ6_compare_7cf53 18 = .ok (.iconst 1, 1) := by decide +kernel
theorem dJ6_compare_7cf53_19 : decode cJ6_compare_7cf53 19 = .ok (.ireturn, 1) := by decide +kernel
theorem dJ9_floorMod_7cf53_0 : decode cJ9_floorMod_7cf53 0 = .ok (.iload_n 0, 1) := by decide +kernel
theorem dJ9_floorMod_7cf53_1 : decode cJ9_floorMod_7cf53 1 = .ok (.iload_n 1, 1) := by decide +kernel
theorem dJ9_floorMod_7cf53_2 : decode cJ9_floorMod_7cf53 2 = .ok (.irem, 1) := by decide +kernel
theorem dJ9_floorMod_7cf53_3 : decode cJ9_floorMod_7cf53 3 = .ok (.istore_n 2, 1) := by decide +kernel
theorem dJ9_floorMod_7cf53_4 : decode cJ9_floorMod_7cf53 4 = .ok (.iload_n 0, 1) := by decide +kernel
theorem dJ9_floorMod_7cf53_5 : decode cJ9_floorMod_7cf53 5 = .ok (.iload_n 1, 1) := by decide +kernel
theorem dJ9_floorMod_7cf53_6 : decode cJ9_floorMod_7cf53 6 = .ok (.ixor, 1) := by decide +kernel
theorem dJ9_floorMod_7cf53_7 : decode cJ9_floorMod_7cf53 7 = .ok (.ifCond .ge 11, 3) := by decide +kernel
theorem dJ9_floorMod_7cf53_10 : decode cJ9_floorMod_7cf53 10 = .ok (.iload_n 2, 1) := by decide +kernel
theorem dJ9_floorMod_7cf53_11 : decode cJ9_floorMod_7cf53 11 = .ok (.ifCond .eq 7, 3) := by decide +kernel
theorem dJ9_floorMod_7cf53_14 : decode cJ9_floorMod_7cf53 14 = .ok (.iload_n 2, 1) := by decide +kernel
theorem dJ9_floorMod_7cf53_15 : decode cJ9_floorMod_7cf53 15 = .ok (.iload_n 1, 1) := by decide +kernel
theorem dJ9_floorMod_7cf53_16 : decode cJ9_floorMod_7cf53 16 = .ok (.iadd, 1) := by decide +kernel
theorem dJ9_floorMod_7cf53_17 : decode cJ9_floorMod_7cf53 17 = .ok (.ireturn, 1) := by decide +kernel
theorem dJ9_floorMod_7cf53_18 : decode cJ9_floorMod_7cf53 18 = .ok (.iload_n 2, 1) := by decide +kernel
theorem dJ9_floorMod_7cf53_19 : decode cJ9_floorMod_7cf53 19 = .ok (.ireturn, 1) := by decide +kernel
theorem dJ9_max_7cf53_0 : decode cJ9_max_7cf53 0 = .ok (.iload_n 0, 1) := by decide +kernel
theorem dJ9_max_7cf53_1 : decode cJ9_max_7cf53 1 = .ok (.iload_n 1, 1) := by decide +kernel
theorem dJ9_max_7cf53_2 : decode cJ9_max_7cf53 2 = .ok (.if_icmp .lt 7, 3) := by decide +kernel
theorem dJ9_max_7cf53_5 : decode cJ9_max_7cf53 5 = .ok (.iload_n 0, 1) := by decide +kernel
theorem dJ9_max_7cf53_6 : decode cJ9_max_7cf53 6 = .ok (.goto 4, 3) := by decide +kernel
theorem dJ9_max_7cf53_9 : decode cJ9_max_7cf53 9 = .ok (.iload_n 1, 1) := by decide +kernel
theorem dJ9_max_7cf53_10 : decode cJ9_max_7cf53 10 = .ok (.ireturn, 1) := by decide +kernel
theorem dJ9_min_7cf53_0 : decode cJ9_min_7cf53 0 = .ok (.iload_n 0, 1) := by decide +kernel
theorem dJ9_min_7cf53_1 : decode cJ9_min_7cf53 1 = .ok (.iload_n 1, 1) := by decide +kernel
theorem dJ9_min_7cf53_2 : decode cJ9_min_7cf53 2 = .ok (.if_icmp .gt 7, 3) := by decide +kernel
theorem dJ9_min_7cf53_5 : decode cJ9_min_7cf53 5 = .ok (.iload_n 0, 1) := by decide +kernel
theorem dJ9_min_7cf53_6 : decode cJ9_min_7cf53 6 = .ok (.goto 4, 3) := by decide +kernel
theorem dJ9_min_7cf53_9 : decode cJ9_min_7cf53 9 = .ok (.iload_n 1, 1) := by decide +kernel
theorem dJ9_min_7cf53_10 : decode cJ9_min_7cf53 10 = .ok (.ireturn, 1) := by decide +kernel
theorem dJ7_fill_53178_0 : decode cJ7_fill_53178 0 = .ok (.iconst 0, 1) := by decide +kernel
theorem dJ7_fill_53178_1 : decode cJ7_fill_53178 1 = .ok (.istore_n 2, 1) := by decide +kernel
theorem dJ7_fill_53178_2 : decode cJ7_fill_53178 2 = .ok (.aload_n 0, 1) := by decide +kernel
theorem dJ7_fill_53178_3 : decode cJ7_fill_53178 3 = .ok (.arraylength, 1) := by decide +kernel
theorem dJ7_fill_53178_4 : decode cJ7_fill_53178 4 = .ok (.istore_n 3, 1) := by decide +kernel
theorem dJ7_fill_53178_5 : decode cJ7_fill_53178 5 = .ok (.iload_n 2, 1) := by decide +kernel
theorem dJ7_fill_53178_6 : decode cJ7_fill_53178 6 = .ok (.iload_n 3, 1) := by decide +kernel
theorem dJ7_fill_53178_7 : decode cJ7_fill_53178 7 = .ok (.if_icmp .ge 13, 3) := by decide +kernel
theorem dJ7_fill_53178_10 : decode cJ7_fill_53178 10 = .ok (.aload_n 0, 1) := by decide +kernel
theorem dJ7_fill_53178_11 : decode cJ7_fill_53178 11 = .ok (.iload_n 2, 1) := by decide +kernel
theorem dJ7_fill_53178_12 : decode cJ7_fill_53178 12 = .ok (.iload_n 1, 1) := by decide +kernel
theorem dJ7_fill_53178_13 : decode cJ7_fill_53178 13 = .ok (.iastore, 1) := by decide +kernel
theorem dJ7_fill_53178_14 : decode cJ7_fill_53178 14 = .ok (.iinc 2 1, 3) := by decide +kernel
theorem dJ7_fill_53178_17 : decode cJ7_fill_53178 17 = .ok (.goto (-12), 3) := by decide +kernel
theorem dJ7_fill_53178_20 : decode cJ7_fill_53178 20 = .ok (.return_, 1) := by decide +kernel
theorem dX1_of_0 : decode cX1_of 0 = .ok (.iload_n 0, 1) := by decide +kernel
theorem dX1_of_1 : decode cX1_of 1 = .ok (.iload_n 1, 1) := by decide +kernel
theorem dX1_of_2 : decode cX1_of 2 = .ok (.bipush 8, 2) := by decide +kernel
theorem dX1_of_4 : decode cX1_of 4 = .ok (.ishl, 1) := by decide +kernel
theorem dX1_of_5 : decode cX1_of 5 = .ok (.ior, 1) := by decide +kernel
theorem dX1_of_6 : decode cX1_of 6 = .ok (.iload_n 2, 1) := by decide +kernel
theorem dX1_of_7 : decode cX1_of 7 = .ok (.bipush 16, 2) := by decide +kernel
theorem dX1_of_9 : decode cX1_of 9 = .ok (.ishl, 1) := by decide +kernel
theorem dX1_of_10 : decode cX1_of 10 = .ok (.ior, 1) := by decide +kernel
theorem dX1_of_11 : decode cX1_of 11 = .ok (.iload_n 3, 1) := by decide +kernel
theorem dX1_of_12 : decode cX1_of 12 = .ok (.bipush 24, 2) := by decide +kernel
theorem dX1_of_14 : decode cX1_of 14 = .ok (.ishl, 1) := by decide +kernel
theorem dX1_of_15 : decode cX1_of 15 = .ok (.ior, 1) := by decide +kernel
theorem dX1_of_16 : decode cX1_of 16 = .ok (.ireturn, 1) := by decide +kernel
theorem dX1_variable_0 : decode cX1_variable 0 = .ok (.iconst 1, 1) := by decide +kernel
theorem dX1_variable_1 : decode cX1_variable 1 = .ok (.bipush 8, 2) := by decide +kernel
theorem dX1_variable_3 : decode cX1_variable 3 = .ok (.iload_n 0, 1) := by decide +kernel
theorem dX1_variable_4 : decode cX1_variable 4 = .ok (.imul, 1) := by decide +kernel
theorem dX1_variable_5 : decode cX1_variable 5 = .ok (.ishl, 1) := by decide +kernel
theorem dX1_variable_6 : decode cX1_variable 6 = .ok (.ireturn, 1) := by decide +kernel
theorem dX1_exponentOf_0 : decode cX1_exponentOf 0 = .ok (.iload_n 0, 1) := by decide +kernel
theorem dX1_exponentOf_1 : decode cX1_exponentOf 1 = .ok (.bipush 8, 2) := by decide +kernel
theorem dX1_exponentOf_3 : decode cX1_exponentOf 3 = .ok (.iload_n 1, 1) := by decide +kernel
theorem dX1_exponentOf_4 : decode cX1_exponentOf 4 = .ok (.imul, 1) := by decide +kernel
theorem dX1_exponentOf_5 : decode cX1_exponentOf 5 = .ok (.iushr, 1) := by decide +kernel
theorem dX1_exponentOf_6 : decode cX1_exponentOf 6 = .ok (.sipush 255, 3) := by decide +kernel
theorem dX1_exponentOf_9 : decode cX1_exponentOf 9 = .ok (.iand, 1) := by decide +kernel
theorem dX1_exponentOf_10 : decode cX1_exponentOf 10 = .ok (.ireturn, 1) := by decide +kernel
theorem dX1_isGreat_0 : decode cX1_isGreat 0 = .ok (.iload_n 0, 1) := by decide +kernel
theorem dX1_isGreat_1 : decode cX1_isGreat 1 = .ok (.ldc 11, 2) := by decide +kernel
theorem dX1_isGreat_3 : decode cX1_isGreat 3 = .ok (.iadd, 1) := by decide +kernel
theorem dX1_isGreat_4 : decode cX1_isGreat 4 = .ok (.ldc 12, 2) := by decide +kernel
theorem dX1_isGreat_6 : decode cX1_isGreat 6 = .ok (.iand, 1) := by decide +kernel
theorem dX1_isGreat_7 : decode cX1_isGreat 7 = .ok (.ifCond .eq 7, 3) := by decide +kernel
theorem dX1_isGreat_10 : decode cX1_isGreat 10 = .ok (.iconst 1, 1) := by decide +kernel
theorem dX1_isGreat_11 : decode cX1_isGreat 11 = .ok (.goto 4, 3) := by decide +kernel
theorem dX1_isGreat_14 : decode cX1_isGreat 14 = .ok (.iconst 0, 1) := by decide +kernel
theorem dX1_isGreat_15 : decode cX1_isGreat 15 = .ok (.ireturn, 1) := by decide +kernel
theorem dX1_divides_0 : decode cX1_divides 0 = .ok (.iload_n 1, 1) := by decide +kernel
theorem dX1_divides_1 : decode cX1_divides 1 = .ok (.ldc 12, 2) := by decide +kernel
theorem dX1_divides_3 : decode cX1_divides 3 = .ok (.ior, 1) := by decide +kernel
theorem dX1_divides_4 : decode cX1_divides 4 = .ok (.iload_n 0, 1) := by decide +kernel
theorem dX1_divides_5 : decode cX1_divides 5 = .ok (.isub, 1) := by decide +kernel
theorem dX1_divides_6 : decode cX1_divides 6 = .ok (.ldc 12, 2) := by decide +kernel
theorem dX1_divides_8 : decode cX1_divides 8 = .ok (.iand, 1) := by decide +kernel
theorem dX1_divides_9 : decode cX1_divides 9 = .ok (.ldc 12, 2) := by decide +kernel
theorem dX1_divides_11 : decode cX1_divides 11 = .ok (.if_icmp .ne 7, 3) := by decide +kernel
theorem dX1_divides_14 : decode cX1_divides 14 = .ok (.iconst 1, 1) := by decide +kernel
theorem dX1_divides_15 : decode cX1_divides 15 = .ok (.goto 4, 3) := by decide +kernel
theorem dX1_divides_18 : decode cX1_divides 18 = .ok (.iconst 0, 1) := by decide +kernel
theorem dX1_divides_19 : decode cX1_divides 19 = .ok (.ireturn, 1) := by decide +kernel
theorem dX1_leastMultiple_0 : decode cX1_leastMultiple 0 = .ok (.iconst 0, 1) := by decide +kernel
theorem dX1_leastMultiple_1 : decode cX1_leastMultiple 1 = .ok (.istore_n 2, 1) := by decide +kernel
theorem dX1_leastMultiple_2 : decode cX1_leastMultiple 2 = .ok (.iconst 0, 1) := by decide +kernel
theorem dX1_leastMultiple_3 : decode cX1_leastMultiple 3 = .ok (.istore_n 3, 1) := by decide +kernel
theorem dX1_leastMultiple_4 : decode cX1_leastMultiple 4 = .ok (.iload_n 3, 1) := by decide +kernel
theorem dX1_leastMultiple_5 : decode cX1_leastMultiple 5 = .ok (.iconst 4, 1) := by decide +kernel
theorem dX1_leastMultiple_6 : decode cX1_leastMultiple 6 = .ok (.if_icmp .ge 30, 3) := by decide +kernel
theorem dX1_leastMultiple_9 : decode cX1_leastMultiple 9 = .ok (.iload_n 2, 1) := by decide +kernel
theorem dX1_leastMultiple_10 : decode cX1_leastMultiple 10 = .ok (.iload_n 0, 1) := by decide +kernel
theorem dX1_leastMultiple_11 : decode cX1_leastMultiple 11 = .ok (.iload_n 3, 1) := by decide +kernel
theorem dX1_leastMultiple_12 : decode cX1_leastMultiple 12 = .ok (.invokestatic 13, 3) := by decide +kernel
theorem dX1_leastMultiple_15 : decode cX1_leastMultiple 15 = .ok (.iload_n 1, 1) := by decide +kernel
theorem dX1_leastMultiple_16 : decode cX1_leastMultiple 16 = .ok (.iload_n 3, 1) := by decide +kernel
theorem dX1_leastMultiple_17 : decode cX1_leastMultiple 17 = .ok (.invokestatic 13, 3) := by decide +kernel
theorem dX1_leastMultiple_20 : decode cX1_leastMultiple 20 = .ok (.invokestatic 17, 3) := by decide +kernel
theorem dX1_leastMultiple_23 : decode cX1_leastMultiple 23 = .ok (.iload_n 3, 1) := by decide +kernel
theorem dX1_leastMultiple_24 : decode cX1_leastMultiple 24 = .ok (.invokestatic 22, 3) := by decide +kernel
theorem dX1_leastMultiple_27 : decode cX1_leastMultiple 27 = .ok (.imul, 1) := by decide +kernel
theorem dX1_leastMultiple_28 : decode cX1_leastMultiple 28 = .ok (.iadd, 1) := by decide +kernel
theorem dX1_leastMultiple_29 : decode cX1_leastMultiple 29 = .ok (.istore_n 2, 1) := by decide +kernel
theorem dX1_leastMultiple_30 : decode cX1_leastMultiple 30 = .ok (.iinc 3 1, 3) := by decide +kernel
theorem dX1_leastMultiple_33 : decode cX1_leastMultiple 33 = .ok (.goto (-29), 3) := by decide +kernel
theorem dX1_leastMultiple_36 : decode cX1_leastMultiple 36 = .ok (.iload_n 2, 1) := by decide +kernel
theorem dX1_leastMultiple_37 : decode cX1_leastMultiple 37 = .ok (.ireturn, 1) := by decide +kernel
theorem dX3_init_0 : decode cX3_init 0 = .ok (.aload_n 0, 1) := by decide +kernel
theorem dX3_init_1 : decode cX3_init 1 = .ok (.invokespecial 3, 3) := by decide +kernel
theorem dX3_init_4 : decode cX3_init 4 = .ok (.aload_n 0, 1) := by decide +kernel
theorem dX3_init_5 : decode cX3_init 5 = .ok (.bipush 40, 2) := by decide +kernel
theorem dX3_init_7 : decode cX3_init 7 = .ok (.newarray .int, 2) := by decide +kernel
theorem dX3_init_9 : decode cX3_init 9 = .ok (.putfield 9, 3) := by decide +kernel
theorem dX3_init_12 : decode cX3_init 12 = .ok (.aload_n 0, 1) := by decide +kernel
theorem dX3_init_13 : decode cX3_init 13 = .ok (.bipush 40, 2) := by decide +kernel
theorem dX3_init_15 : decode cX3_init 15 = .ok (.newarray .int, 2) := by decide +kernel
theorem dX3_init_17 : decode cX3_init 17 = .ok (.putfield 15, 3) := by decide +kernel
theorem dX3_init_20 : decode cX3_init 20 = .ok (.return_, 1) := by decide +kernel
theorem dX3_push_0 : decode cX3_push 0 = .ok (.aload_n 0, 1) := by decide +kernel
theorem dX3_push_1 : decode cX3_push 1 = .ok (.getfield 18, 3) := by decide +kernel
theorem dX3_push_4 : decode cX3_push 4 = .ok (.bipush 40, 2) := by decide +kernel
theorem dX3_push_6 : decode cX3_push 6 = .ok (.if_icmp .lt 5, 3) := by decide +kernel
theorem dX3_push_9 : decode cX3_push 9 = .ok (.iconst 0, 1) := by decide +kernel
theorem dX3_push_10 : decode cX3_push 10 = .ok (.ireturn, 1) := by decide +kernel
theorem dX3_push_11 : decode cX3_push 11 = .ok (.aload_n 0, 1) := by decide +kernel
theorem dX3_push_12 : decode cX3_push 12 = .ok (.getfield 9, 3) := by decide +kernel
theorem dX3_push_15 : decode cX3_push 15 = .ok (.aload_n 0, 1) := by decide +kernel
theorem dX3_push_16 : decode cX3_push 16 = .ok (.getfield 18, 3) := by decide +kernel
theorem dX3_push_19 : decode cX3_push 19 = .ok (.iload_n 1, 1) := by decide +kernel
theorem dX3_push_20 : decode cX3_push 20 = .ok (.iastore, 1) := by decide +kernel
theorem dX3_push_21 : decode cX3_push 21 = .ok (.aload_n 0, 1) := by decide +kernel
theorem dX3_push_22 : decode cX3_push 22 = .ok (.getfield 15, 3) := by decide +kernel
theorem dX3_push_25 : decode cX3_push 25 = .ok (.aload_n 0, 1) := by decide +kernel
theorem dX3_push_26 : decode cX3_push 26 = .ok (.getfield 18, 3) := by decide +kernel
theorem dX3_push_29 : decode cX3_push 29 = .ok (.iload_n 2, 1) := by decide +kernel
theorem dX3_push_30 : decode cX3_push 30 = .ok (.iastore, 1) := by decide +kernel
theorem dX3_push_31 : decode cX3_push 31 = .ok (.aload_n 0, 1) := by decide +kernel
theorem dX3_push_32 : decode cX3_push 32 = .ok (.dup, 1) := by decide +kernel
theorem dX3_push_33 : decode cX3_push 33 = .ok (.getfield 18, 3) := by decide +kernel
theorem dX3_push_36 : decode cX3_push 36 = .ok (.iconst 1, 1) := by decide +kernel
theorem dX3_push_37 : decode cX3_push 37 = .ok (.iadd, 1) := by decide +kernel
theorem dX3_push_38 : decode cX3_push 38 = .ok (.putfield 18, 3) := by decide +kernel
theorem dX3_push_41 : decode cX3_push 41 = .ok (.iconst 1, 1) := by decide +kernel
theorem dX3_push_42 : decode cX3_push 42 = .ok (.ireturn, 1) := by decide +kernel
theorem dX3_copyOf_0 : decode cX3_copyOf 0 = .ok (.aload_n 0, 1) := by decide +kernel
theorem dX3_copyOf_1 : decode cX3_copyOf 1 = .ok (.aload_n 1, 1) := by decide +kernel
theorem dX3_copyOf_2 : decode cX3_copyOf 2 = .ok (.iconst 0, 1) := by decide +kernel
theorem dX3_copyOf_3 : decode cX3_copyOf 3 = .ok (.invokevirtual 22, 3) := by decide +kernel
theorem dX3_copyOf_6 : decode cX3_copyOf 6 = .ok (.return_, 1) := by decide +kernel
theorem dX3_copyFrom_0 : decode cX3_copyFrom 0 = .ok (.aload_n 1, 1) := by decide +kernel
theorem dX3_copyFrom_1 : decode cX3_copyFrom 1 = .ok (.getfield 18, 3) := by decide +kernel
theorem dX3_copyFrom_4 : decode cX3_copyFrom 4 = .ok (.istore_n 3, 1) := by decide +kernel
theorem dX3_copyFrom_5 : decode cX3_copyFrom 5 = .ok (.aload_n 0, 1) := by decide +kernel
theorem dX3_copyFrom_6 : decode cX3_copyFrom 6 = .ok (.iconst 0, 1) := by decide +kernel
theorem dX3_copyFrom_7 : decode cX3_copyFrom 7 = .ok (.putfield 18, 3) := by decide +kernel
theorem dX3_copyFrom_10 : decode cX3_copyFrom 10 = .ok (.iload_n 2, 1) := by decide +kernel
theorem dX3_copyFrom_11 : decode cX3_copyFrom 11 = .ok (.istore 4, 2) := by decide +kernel
theorem dX3_copyFrom_13 : decode cX3_copyFrom 13 = .ok (.iload 4, 2) := by decide +kernel
theorem dX3_copyFrom_15 : decode cX3_copyFrom 15 = .ok (.iload_n 3, 1) := by decide +kernel
theorem dX3_copyFrom_16 : decode cX3_copyFrom 16 = .ok (.if_icmp .ge 28, 3) := by decide +kernel
theorem dX3_copyFrom_19 : decode cX3_copyFrom 19 = .ok (.aload_n 0, 1) := by decide +kernel
theorem dX3_copyFrom_20 : decode cX3_copyFrom 20 = .ok (.aload_n 1, 1) := by decide +kernel
theorem dX3_copyFrom_21 : decode cX3_copyFrom 21 = .ok (.getfield 9, 3) := by decide +kernel
theorem dX3_copyFrom_24 : decode cX3_copyFrom 24 = .ok (.iload 4, 2) := by decide +kernel
theorem dX3_copyFrom_26 : decode cX3_copyFrom 26 = .ok (.iaload, 1) := by decide +kernel
theorem dX3_copyFrom_27 : decode cX3_copyFrom 27 = .ok (.aload_n 1, 1) := by decide +kernel
theorem dX3_copyFrom_28 : decode cX3_copyFrom 28 = .ok (.getfield 15, 3) := by decide +kernel
theorem dX3_copyFrom_31 : decode cX3_copyFrom 31 = .ok (.iload 4, 2) := by decide +kernel
theorem dX3_copyFrom_33 : decode cX3_copyFrom 33 = .ok (.iaload, 1) := by decide +kernel
theorem dX3_copyFrom_34 : decode cX3_copyFrom 34 = .ok (.invokevirtual 26, 3) := by decide +kernel
theorem dX3_copyFrom_37 : decode cX3_copyFrom 37 = .ok (.pop, 1) := by decide +kernel
theorem dX3_copyFrom_38 : decode cX3_copyFrom 38 = .ok (.iinc 4 1, 3) := by decide +kernel
theorem dX3_copyFrom_41 : decode cX3_copyFrom 41 = .ok (.goto (-28), 3) := by decide +kernel
theorem dX3_copyFrom_44 : decode cX3_copyFrom 44 = .ok (.return_, 1) := by decide +kernel
theorem dX3_dropHead_0 : decode cX3_dropHead 0 = .ok (.aload_n 0, 1) := by decide +kernel
theorem dX3_dropHead_1 : decode cX3_dropHead 1 = .ok (.aload_n 0, 1) := by decide +kernel
theorem dX3_dropHead_2 : decode cX3_dropHead 2 = .ok (.iconst 1, 1) := by decide +kernel
theorem dX3_dropHead_3 : decode cX3_dropHead 3 = .ok (.invokevirtual 22, 3) := by decide +kernel
theorem dX3_dropHead_6 : decode cX3_dropHead 6 = .ok (.return_, 1) := by decide +kernel
theorem dX3_head_0 : decode cX3_head 0 = .ok (.aload_n 0, 1) := by decide +kernel
theorem dX3_head_1 : decode cX3_head 1 = .ok (.getfield 18, 3) := by decide +kernel
theorem dX3_head_4 : decode cX3_head 4 = .ok (.ifCond .le 12, 3) := by decide +kernel
theorem dX3_head_7 : decode cX3_head 7 = .ok (.aload_n 0, 1) := by decide +kernel
theorem dX3_head_8 : decode cX3_head 8 = .ok (.getfield 15, 3) := by decide +kernel
theorem dX3_head_11 : decode cX3_head 11 = .ok (.iconst 0, 1) := by decide +kernel
theorem dX3_head_12 : decode cX3_head 12 = .ok (.iaload, 1) := by decide +kernel
theorem dX3_head_13 : decode cX3_head 13 = .ok (.goto 4, 3) := by decide +kernel
theorem dX3_head_16 : decode cX3_head 16 = .ok (.iconst 0, 1) := by decide +kernel
theorem dX3_head_17 : decode cX3_head 17 = .ok (.ireturn, 1) := by decide +kernel
theorem dX2_init_0 : decode cX2_init 0 = .ok (.aload_n 0, 1) := by decide +kernel
theorem dX2_init_1 : decode cX2_init 1 = .ok (.invokespecial 3, 3) := by decide +kernel
theorem dX2_init_4 : decode cX2_init 4 = .ok (.aload_n 0, 1) := by decide +kernel
theorem dX2_init_5 : decode cX2_init 5 = .ok (.sipush 153, 3) := by decide +kernel
theorem dX2_init_8 : decode cX2_init 8 = .ok (.newarray .int, 2) := by decide +kernel
theorem dX2_init_10 : decode cX2_init 10 = .ok (.putfield 9, 3) := by decide +kernel
theorem dX2_init_13 : decode cX2_init 13 = .ok (.aload_n 0, 1) := by decide +kernel
theorem dX2_init_14 : decode cX2_init 14 = .ok (.sipush 153, 3) := by decide +kernel
theorem dX2_init_17 : decode cX2_init 17 = .ok (.newarray .int, 2) := by decide +kernel
theorem dX2_init_19 : decode cX2_init 19 = .ok (.putfield 15, 3) := by decide +kernel
theorem dX2_init_22 : decode cX2_init 22 = .ok (.return_, 1) := by decide +kernel
theorem dX2_comeWith_0 : decode cX2_comeWith 0 = .ok (.iconst 0, 1) := by decide +kernel
theorem dX2_comeWith_1 : decode cX2_comeWith 1 = .ok (.istore_n 2, 1) := by decide +kernel
theorem dX2_comeWith_2 : decode cX2_comeWith 2 = .ok (.iload_n 2, 1) := by decide +kernel
theorem dX2_comeWith_3 : decode cX2_comeWith 3 = .ok (.iload_n 1, 1) := by decide +kernel
theorem dX2_comeWith_4 : decode cX2_comeWith 4 = .ok (.if_icmp .ge 49, 3) := by decide +kernel
theorem dX2_comeWith_7 : decode cX2_comeWith 7 = .ok (.aload_n 0, 1) := by decide +kernel
theorem dX2_comeWith_8 : decode cX2_comeWith 8 = .ok (.getfield 18, 3) := by decide +kernel
theorem dX2_comeWith_11 : decode cX2_comeWith 11 = .ok (.sipush 153, 3) := by decide +kernel
theorem dX2_comeWith_14 : decode cX2_comeWith 14 = .ok (.if_icmp .ge 39, 3) := by decide +kernel
theorem dX2_comeWith_17 : decode cX2_comeWith 17 = .ok (.aload_n 0, 1) := by decide +kernel
theorem dX2_comeWith_18 : decode cX2_comeWith 18 = .ok (.getfield 9, 3) := by decide +kernel
theorem dX2_comeWith_21 : decode cX2_comeWith 21 = .ok (.aload_n 0, 1) := by decide +kernel
theorem dX2_comeWith_22 : decode cX2_comeWith 22 = .ok (.getfield 18, 3) := by decide +kernel
theorem dX2_comeWith_25 : decode cX2_comeWith 25 = .ok (.iload_n 2, 1) := by decide +kernel
theorem dX2_comeWith_26 : decode cX2_comeWith 26 = .ok (.iastore, 1) := by decide +kernel
theorem dX2_comeWith_27 : decode cX2_comeWith 27 = .ok (.aload_n 0, 1) := by decide +kernel
theorem dX2_comeWith_28 : decode cX2_comeWith 28 = .ok (.getfield 15, 3) := by decide +kernel
theorem dX2_comeWith_31 : decode cX2_comeWith 31 = .ok (.aload_n 0, 1) := by decide +kernel
theorem dX2_comeWith_32 : decode cX2_comeWith 32 = .ok (.getfield 18, 3) := by decide +kernel
theorem dX2_comeWith_35 : decode cX2_comeWith 35 = .ok (.iload_n 1, 1) := by decide +kernel
theorem dX2_comeWith_36 : decode cX2_comeWith 36 = .ok (.iastore, 1) := by decide +kernel
theorem dX2_comeWith_37 : decode cX2_comeWith 37 = .ok (.aload_n 0, 1) := by decide +kernel
theorem dX2_comeWith_38 : decode cX2_comeWith 38 = .ok (.dup, 1) := by decide +kernel
theorem dX2_comeWith_39 : decode cX2_comeWith 39 = .ok (.getfield 18, 3) := by decide +kernel
theorem dX2_comeWith_42 : decode cX2_comeWith 42 = .ok (.iconst 1, 1) := by decide +kernel
theorem dX2_comeWith_43 : decode cX2_comeWith 43 = .ok (.iadd, 1) := by decide +kernel
theorem dX2_comeWith_44 : decode cX2_comeWith 44 = .ok (.putfield 18, 3) := by decide +kernel
theorem dX2_comeWith_47 : decode cX2_comeWith 47 = .ok (.iinc 2 1, 3) := by decide +kernel
theorem dX2_comeWith_50 : decode cX2_comeWith 50 = .ok (.goto (-48), 3) := by decide +kernel
theorem dX2_comeWith_53 : decode cX2_comeWith 53 = .ok (.return_, 1) := by decide +kernel
theorem dX2_remove_0 : decode cX2_remove 0 = .ok (.iload_n 1, 1) := by decide +kernel
theorem dX2_remove_1 : decode cX2_remove 1 = .ok (.istore_n 2, 1) := by decide +kernel
theorem dX2_remove_2 : decode cX2_remove 2 = .ok (.iload_n 2, 1) := by decide +kernel
theorem dX2_remove_3 : decode cX2_remove 3 = .ok (.aload_n 0, 1) := by decide +kernel
theorem dX2_remove_4 : decode cX2_remove 4 = .ok (.getfield 18, 3) := by decide +kernel
theorem dX2_remove_7 : decode cX2_remove 7 = .ok (.iconst 1, 1) := by decide +kernel
theorem dX2_remove_8 : decode cX2_remove 8 = .ok (.isub, 1) := by decide +kernel
theorem dX2_remove_9 : decode cX2_remove 9 = .ok (.if_icmp .ge 37, 3) := by decide +kernel
theorem dX2_remove_12 : decode cX2_remove 12 = .ok (.aload_n 0, 1) := by decide +kernel
theorem dX2_remove_13 : decode cX2_remove 13 = .ok (.getfield 9, 3) := by decide +kernel
theorem dX2_remove_16 : decode cX2_remove 16 = .ok (.iload_n 2, 1) := by decide +kernel
theorem dX2_remove_17 : decode cX2_remove 17 = .ok (.aload_n 0, 1) := by decide +kernel
theorem dX2_remove_18 : decode cX2_remove 18 = .ok (.getfield 9, 3) := by decide +kernel
theorem dX2_remove_21 : decode cX2_remove 21 = .ok (.iload_n 2, 1) := by decide +kernel
theorem dX2_remove_22 : decode cX2_remove 22 = .ok (.iconst 1, 1) := by decide +kernel
theorem dX2_remove_23 : decode cX2_remove 23 = .ok (.iadd, 1) := by decide +kernel
theorem dX2_remove_24 : decode cX2_remove 24 = .ok (.iaload, 1) := by decide +kernel
theorem dX2_remove_25 : decode cX2_remove 25 = .ok (.iastore, 1) := by decide +kernel
theorem dX2_remove_26 : decode cX2_remove 26 = .ok (.aload_n 0, 1) := by decide +kernel
theorem dX2_remove_27 : decode cX2_remove 27 = .ok (.getfield 15, 3) := by decide +kernel
theorem dX2_remove_30 : decode cX2_remove 30 = .ok (.iload_n 2, 1) := by decide +kernel
theorem dX2_remove_31 : decode cX2_remove 31 = .ok (.aload_n 0, 1) := by decide +kernel
theorem dX2_remove_32 : decode cX2_remove 32 = .ok (.getfield 15, 3) := by decide +kernel
theorem dX2_remove_35 : decode cX2_remove 35 = .ok (.iload_n 2, 1) := by decide +kernel
theorem dX2_remove_36 : decode cX2_remove 36 = .ok (.iconst 1, 1) := by decide +kernel
theorem dX2_remove_37 : decode cX2_remove 37 = .ok (.iadd, 1) := by decide +kernel
theorem dX2_remove_38 : decode cX2_remove 38 = .ok (.iaload, 1) := by decide +kernel
theorem dX2_remove_39 : decode cX2_remove 39 = .ok (.iastore, 1) := by decide +kernel
theorem dX2_remove_40 : decode cX2_remove 40 = .ok (.iinc 2 1, 3) := by decide +kernel
theorem dX2_remove_43 : decode cX2_remove 43 = .ok (.goto (-41), 3) := by decide +kernel
theorem dX2_remove_46 : decode cX2_remove 46 = .ok (.aload_n 0, 1) := by decide +kernel
theorem dX2_remove_47 : decode cX2_remove 47 = .ok (.dup, 1) := by decide +kernel
theorem dX2_remove_48 : decode cX2_remove 48 = .ok (.getfield 18, 3) := by decide +kernel
theorem dX2_remove_51 : decode cX2_remove 51 = .ok (.iconst 1, 1) := by decide +kernel
theorem dX2_remove_52 : decode cX2_remove 52 = .ok (.isub, 1) := by decide +kernel
theorem dX2_remove_53 : decode cX2_remove 53 = .ok (.putfield 18, 3) := by decide +kernel
theorem dX2_remove_56 : decode cX2_remove 56 = .ok (.return_, 1) := by decide +kernel
theorem dX2_waits_0 : decode cX2_waits 0 = .ok (.iload_n 1, 1) := by decide +kernel
theorem dX2_waits_1 : decode cX2_waits 1 = .ok (.iload_n 2, 1) := by decide +kernel
theorem dX2_waits_2 : decode cX2_waits 2 = .ok (.invokestatic 22, 3) := by decide +kernel
theorem dX2_waits_5 : decode cX2_waits 5 = .ok (.istore_n 3, 1) := by decide +kernel
theorem dX2_waits_6 : decode cX2_waits 6 = .ok (.iload_n 1, 1) := by decide +kernel
theorem dX2_waits_7 : decode cX2_waits 7 = .ok (.iload_n 2, 1) := by decide +kernel
theorem dX2_waits_8 : decode cX2_waits 8 = .ok (.invokestatic 28, 3) := by decide +kernel
theorem dX2_waits_11 : decode cX2_waits 11 = .ok (.istore 4, 2) := by decide +kernel
theorem dX2_waits_13 : decode cX2_waits 13 = .ok (.iconst 0, 1) := by decide +kernel
theorem dX2_waits_14 : decode cX2_waits 14 = .ok (.istore 5, 2) := by decide +kernel
theorem dX2_waits_16 : decode cX2_waits 16 = .ok (.iload 5, 2) := by decide +kernel
theorem dX2_waits_18 : decode cX2_waits 18 = .ok (.aload_n 0, 1) := by decide +kernel
theorem dX2_waits_19 : decode cX2_waits 19 = .ok (.getfield 18, 3) := by decide +kernel
theorem dX2_waits_22 : decode cX2_waits 22 = .ok (.if_icmp .ge 34, 3) := by decide +kernel
theorem dX2_waits_25 : decode cX2_waits 25 = .ok (.aload_n 0, 1) := by decide +kernel
theorem dX2_waits_26 : decode cX2_waits 26 = .ok (.getfield 9, 3) := by decide +kernel
theorem dX2_waits_29 : decode cX2_waits 29 = .ok (.iload 5, 2) := by decide +kernel
theorem dX2_waits_31 : decode cX2_waits 31 = .ok (.iaload, 1) := by decide +kernel
theorem dX2_waits_32 : decode cX2_waits 32 = .ok (.iload_n 3, 1) := by decide +kernel
theorem dX2_waits_33 : decode cX2_waits 33 = .ok (.if_icmp .ne 17, 3) := by decide +kernel
theorem dX2_waits_36 : decode cX2_waits 36 = .ok (.aload_n 0, 1) := by decide +kernel
theorem dX2_waits_37 : decode cX2_waits 37 = .ok (.getfield 15, 3) := by decide +kernel
theorem dX2_waits_40 : decode cX2_waits 40 = .ok (.iload 5, 2) := by decide +kernel
theorem dX2_waits_42 : decode cX2_waits 42 = .ok (.iaload, 1) := by decide +kernel
theorem dX2_waits_43 : decode cX2_waits 43 = .ok (.iload 4, 2) := by decide +kernel
theorem dX2_waits_45 : decode cX2_waits 45 = .ok (.if_icmp .ne 5, 3) := by decide +kernel
theorem dX2_waits_48 : decode cX2_waits 48 = .ok (.iconst 1, 1) := by decide +kernel
theorem dX2_waits_49 : decode cX2_waits 49 = .ok (.ireturn, 1) := by decide +kernel
theorem dX2_waits_50 : decode cX2_waits 50 = .ok (.iinc 5 1, 3) := by decide +kernel
theorem dX2_waits_53 : decode cX2_waits 53 = .ok (.goto (-37), 3) := by decide +kernel
theorem dX2_waits_56 : decode cX2_waits 56 = .ok (.iconst 0, 1) := by decide +kernel
theorem dX2_waits_57 : decode cX2_waits 57 = .ok (.ireturn, 1) := by decide +kernel
theorem dX5_init_0 : decode cX5_init 0 = .ok (.aload_n 0, 1) := by decide +kernel
theorem dX5_init_1 : decode cX5_init 1 = .ok (.invokespecial 3, 3) := by decide +kernel
theorem dX5_init_4 : decode cX5_init 4 = .ok (.aload_n 0, 1) := by decide +kernel
theorem dX5_init_5 : decode cX5_init 5 = .ok (.iconst 2, 1) := by decide +kernel
theorem dX5_init_6 : decode cX5_init 6 = .ok (.putfield 9, 3) := by decide +kernel
theorem dX5_init_9 : decode cX5_init 9 = .ok (.aload_n 0, 1) := by decide +kernel
theorem dX5_init_10 : decode cX5_init 10 = .ok (.iconst 4, 1) := by decide +kernel
theorem dX5_init_11 : decode cX5_init 11 = .ok (.newarray .int, 2) := by decide +kernel
theorem dX5_init_13 : decode cX5_init 13 = .ok (.putfield 15, 3) := by decide +kernel
theorem dX5_init_16 : decode cX5_init 16 = .ok (.aload_n 0, 1) := by decide +kernel
theorem dX5_init_17 : decode cX5_init 17 = .ok (.bipush 40, 2) := by decide +kernel
theorem dX5_init_19 : decode cX5_init 19 = .ok (.newarray .int, 2) := by decide +kernel
theorem dX5_init_21 : decode cX5_init 21 = .ok (.putfield 19, 3) := by decide +kernel
theorem dX5_init_24 : decode cX5_init 24 = .ok (.aload_n 0, 1) := by decide +kernel
theorem dX5_init_25 : decode cX5_init 25 = .ok (.new 22, 3) := by decide +kernel
theorem dX5_init_28 : decode cX5_init 28 = .ok (.dup, 1) := by decide +kernel
theorem dX5_init_29 : decode cX5_init 29 = .ok (.invokespecial 24, 3) := by decide +kernel
theorem dX5_init_32 : decode cX5_init 32 = .ok (.putfield 25, 3) := by decide +kernel
theorem dX5_init_35 : decode cX5_init 35 = .ok (.aload_n 0, 1) := by decide +kernel
theorem dX5_init_36 : decode cX5_init 36 = .ok (.new 22, 3) := by decide +kernel
theorem dX5_init_39 : decode cX5_init 39 = .ok (.dup, 1) := by decide +kernel
theorem dX5_init_40 : decode cX5_init 40 = .ok (.invokespecial 24, 3) := by decide +kernel
theorem dX5_init_43 : decode cX5_init 43 = .ok (.putfield 29, 3) := by decide +kernel
theorem dX5_init_46 : decode cX5_init 46 = .ok (.aload_n 0, 1) := by decide +kernel
theorem dX5_init_47 : decode cX5_init 47 = .ok (.iload_n 1, 1) := by decide +kernel
theorem dX5_init_48 : decode cX5_init 48 = .ok (.putfield 32, 3) := by decide +kernel
theorem dX5_init_51 : decode cX5_init 51 = .ok (.aload_n 0, 1) := by decide +kernel
theorem dX5_init_52 : decode cX5_init 52 = .ok (.iload_n 2, 1) := by decide +kernel
theorem dX5_init_53 : decode cX5_init 53 = .ok (.putfield 35, 3) := by decide +kernel
theorem dX5_init_56 : decode cX5_init 56 = .ok (.return_, 1) := by decide +kernel
theorem dX5_hasVariable_0 : decode cX5_hasVariable 0 = .ok (.iload_n 1, 1) := by decide +kernel
theorem dX5_hasVariable_1 : decode cX5_hasVariable 1 = .ok (.ifCond .lt 15, 3) := by decide +kernel
theorem dX5_hasVariable_4 : decode cX5_hasVariable 4 = .ok (.iload_n 1, 1) := by decide +kernel
theorem dX5_hasVariable_5 : decode cX5_hasVariable 5 = .ok (.aload_n 0, 1) := by decide +kernel
theorem dX5_hasVariable_6 : decode cX5_hasVariable 6 = .ok (.getfield 35, 3) := by decide +kernel
theorem dX5_hasVariable_9 : decode cX5_hasVariable 9 = .ok (.if_icmp .ge 7, 3) := by decide +kernel
theorem dX5_hasVariable_12 : decode cX5_hasVariable 12 = .ok (.iconst 1, 1) := by decide +kernel
theorem dX5_hasVariable_13 : decode cX5_hasVariable 13 = .ok (.goto 4, 3) := by decide +kernel
theorem dX5_hasVariable_16 : decode cX5_hasVariable 16 = .ok (.iconst 0, 1) := by decide +kernel
theorem dX5_hasVariable_17 : decode cX5_hasVariable 17 = .ok (.ireturn, 1) := by decide +kernel
theorem dX5_mayBeExponent_0 : decode cX5_mayBeExponent 0 = .ok (.iload_n 1, 1) := by decide +kernel
theorem dX5_mayBeExponent_1 : decode cX5_mayBeExponent 1 = .ok (.ifCond .lt 25, 3) := by decide +kernel
theorem dX5_mayBeExponent_4 : decode cX5_mayBeExponent 4 = .ok (.iload_n 1, 1) := by decide +kernel
theorem dX5_mayBeExponent_5 : decode cX5_mayBeExponent 5 = .ok (.aload_n 0, 1) := by decide +kernel
theorem dX5_mayBeExponent_6 : decode cX5_mayBeExponent 6 = .ok (.iload_n 2, 1) := by decide +kernel
theorem dX5_mayBeExponent_7 : decode cX5_mayBeExponent 7 = .ok (.invokevirtual 38, 3) := by decide +kernel
theorem dX5_mayBeExponent_10 : decode cX5_mayBeExponent 10 = .ok (.ifCond .eq 8, 3) := by decide +kernel
theorem dX5_mayBeExponent_13 : decode cX5_mayBeExponent 13 = .ok (.bipush 30, 2) := by decide +kernel
theorem dX5_mayBeExponent_15 : decode cX5_mayBeExponent 15 = .ok (.goto 4, 3) := by decide +kernel
theorem dX5_mayBeExponent_18 : decode cX5_mayBeExponent 18 = .ok (.iconst 0, 1) := by decide +kernel
theorem dX5_mayBeExponent_19 : decode cX5_mayBeExponent 19 = .ok (.if_icmp .gt 7, 3) := by decide +kernel
theorem dX5_mayBeExponent_22 : decode cX5_mayBeExponent 22 = .ok (.iconst 1, 1) := by decide +kernel
theorem dX5_mayBeExponent_23 : decode cX5_mayBeExponent 23 = .ok (.goto 4, 3) := by decide +kernel
theorem dX5_mayBeExponent_26 : decode cX5_mayBeExponent 26 = .ok (.iconst 0, 1) := by decide +kernel
theorem dX5_mayBeExponent_27 : decode cX5_mayBeExponent 27 = .ok (.ireturn, 1) := by decide +kernel
theorem dX5_restOf_0 : decode cX5_restOf 0 = .ok (.iload_n 1, 1) := by decide +kernel
theorem dX5_restOf_1 : decode cX5_restOf 1 = .ok (.aload_n 0, 1) := by decide +kernel
theorem dX5_restOf_2 : decode cX5_restOf 2 = .ok (.getfield 32, 3) := by decide +kernel
theorem dX5_restOf_5 : decode cX5_restOf 5 = .ok (.invokestatic 42, 3) := by decide +kernel
theorem dX5_restOf_8 : decode cX5_restOf 8 = .ok (.ireturn, 1) := by decide +kernel
theorem dX5_power_0 : decode cX5_power 0 = .ok (.iconst 1, 1) := by decide +kernel
theorem dX5_power_1 : decode cX5_power 1 = .ok (.istore_n 3, 1) := by decide +kernel
theorem dX5_power_2 : decode cX5_power 2 = .ok (.iload_n 1, 1) := by decide +kernel
theorem dX5_power_3 : decode cX5_power 3 = .ok (.istore 4, 2) := by decide +kernel
theorem dX5_power_5 : decode cX5_power 5 = .ok (.iload_n 2, 1) := by decide +kernel
theorem dX5_power_6 : decode cX5_power 6 = .ok (.istore 5, 2) := by decide +kernel
theorem dX5_power_8 : decode cX5_power 8 = .ok (.iload 5, 2) := by decide +kernel
theorem dX5_power_10 : decode cX5_power 10 = .ok (.ifCond .le 42, 3) := by decide +kernel
theorem dX5_power_13 : decode cX5_power 13 = .ok (.iload 5, 2) := by decide +kernel
theorem dX5_power_15 : decode cX5_power 15 = .ok (.iconst 1, 1) := by decide +kernel
theorem dX5_power_16 : decode cX5_power 16 = .ok (.iand, 1) := by decide +kernel
theorem dX5_power_17 : decode cX5_power 17 = .ok (.iconst 1, 1) := by decide +kernel
theorem dX5_power_18 : decode cX5_power 18 = .ok (.if_icmp .ne 13, 3) := by decide +kernel
theorem dX5_power_21 : decode cX5_power 21 = .ok (.iload_n 3, 1) := by decide +kernel
theorem dX5_power_22 : decode cX5_power 22 = .ok (.iload 4, 2) := by decide +kernel
theorem dX5_power_24 : decode cX5_power 24 = .ok (.imul, 1) := by decide +kernel
theorem dX5_power_25 : decode cX5_power 25 = .ok (.aload_n 0, 1) := by decide +kernel
theorem dX5_power_26 : decode cX5_power 26 = .ok (.getfield 32, 3) := by decide +kernel
theorem dX5_power_29 : decode cX5_power 29 = .ok (.irem, 1) := by decide +kernel
theorem dX5_power_30 : decode cX5_power 30 = .ok (.istore_n 3, 1) := by decide +kernel
theorem dX5_power_31 : decode cX5_power 31 = .ok (.iload 4, 2) := by decide +kernel
theorem dX5_power_33 : decode cX5_power 33 = .ok (.iload 4, 2) := by decide +kernel
theorem dX5_power_35 : decode cX5_power 35 = .ok (.imul, 1) := by decide +kernel
theorem dX5_power_36 : decode cX5_power 36 = .ok (.aload_n 0, 1) := by decide +kernel
theorem dX5_power_37 : decode cX5_power 37 = .ok (.getfield 32, 3) := by decide +kernel
theorem dX5_power_40 : decode cX5_power 40 = .ok (.irem, 1) := by decide +kernel
theorem dX5_power_41 : decode cX5_power 41 = .ok (.istore 4, 2) := by decide +kernel
theorem dX5_power_43 : decode cX5_power 43 = .ok (.iload 5, 2) := by decide +kernel
theorem dX5_power_45 : decode cX5_power 45 = .ok (.iconst 1, 1) := by decide +kernel
theorem dX5_power_46 : decode cX5_power 46 = .ok (.ishr, 1) := by decide +kernel
theorem dX5_power_47 : decode cX5_power 47 = .ok (.istore 5, 2) := by decide +kernel
theorem dX5_power_49 : decode cX5_power 49 = .ok (.goto (-41), 3) := by decide +kernel
theorem dX5_power_52 : decode cX5_power 52 = .ok (.iload_n 3, 1) := by decide +kernel
theorem dX5_power_53 : decode cX5_power 53 = .ok (.ireturn, 1) := by decide +kernel
theorem dX5_inverse_0 : decode cX5_inverse 0 = .ok (.aload_n 0, 1) := by decide +kernel
theorem dX5_inverse_1 : decode cX5_inverse 1 = .ok (.iload_n 1, 1) := by decide +kernel
theorem dX5_inverse_2 : decode cX5_inverse 2 = .ok (.aload_n 0, 1) := by decide +kernel
theorem dX5_inverse_3 : decode cX5_inverse 3 = .ok (.getfield 32, 3) := by decide +kernel
theorem dX5_inverse_6 : decode cX5_inverse 6 = .ok (.iconst 2, 1) := by decide +kernel
theorem dX5_inverse_7 : decode cX5_inverse 7 = .ok (.isub, 1) := by decide +kernel
theorem dX5_inverse_8 : decode cX5_inverse 8 = .ok (.invokevirtual 48, 3) := by decide +kernel
theorem dX5_inverse_11 : decode cX5_inverse 11 = .ok (.ireturn, 1) := by decide +kernel
theorem dX5_rank_0 : decode cX5_rank 0 = .ok (.iload_n 1, 1) := by decide +kernel
theorem dX5_rank_1 : decode cX5_rank 1 = .ok (.sipush 255, 3) := by decide +kernel
theorem dX5_rank_4 : decode cX5_rank 4 = .ok (.iand, 1) := by decide +kernel
theorem dX5_rank_5 : decode cX5_rank 5 = .ok (.istore_n 2, 1) := by decide +kernel
theorem dX5_rank_6 : decode cX5_rank 6 = .ok (.iload_n 1, 1) := by decide +kernel
theorem dX5_rank_7 : decode cX5_rank 7 = .ok (.bipush 8, 2) := by decide +kernel
theorem dX5_rank_9 : decode cX5_rank 9 = .ok (.iushr, 1) := by decide +kernel
theorem dX5_rank_10 : decode cX5_rank 10 = .ok (.sipush 255, 3) := by decide +kernel
theorem dX5_rank_13 : decode cX5_rank 13 = .ok (.iand, 1) := by decide +kernel
theorem dX5_rank_14 : decode cX5_rank 14 = .ok (.istore_n 3, 1) := by decide +kernel
theorem dX5_rank_15 : decode cX5_rank 15 = .ok (.iload_n 1, 1) := by decide +kernel
theorem dX5_rank_16 : decode cX5_rank 16 = .ok (.bipush 16, 2) := by decide +kernel
theorem dX5_rank_18 : decode cX5_rank 18 = .ok (.iushr, 1) := by decide +kernel
theorem dX5_rank_19 : decode cX5_rank 19 = .ok (.sipush 255, 3) := by decide +kernel
theorem dX5_rank_22 : decode cX5_rank 22 = .ok (.iand, 1) := by decide +kernel
theorem dX5_rank_23 : decode cX5_rank 23 = .ok (.istore 4, 2) := by decide +kernel
theorem dX5_rank_25 : decode cX5_rank 25 = .ok (.iload_n 1, 1) := by decide +kernel
theorem dX5_rank_26 : decode cX5_rank 26 = .ok (.bipush 24, 2) := by decide +kernel
theorem dX5_rank_28 : decode cX5_rank 28 = .ok (.iushr, 1) := by decide +kernel
theorem dX5_rank_29 : decode cX5_rank 29 = .ok (.istore 5, 2) := by decide +kernel
theorem dX5_rank_31 : decode cX5_rank 31 = .ok (.iload_n 2, 1) := by decide +kernel
theorem dX5_rank_32 : decode cX5_rank 32 = .ok (.iload_n 3, 1) := by decide +kernel
theorem dX5_rank_33 : decode cX5_rank 33 = .ok (.iadd, 1) := by decide +kernel
theorem dX5_rank_34 : decode cX5_rank 34 = .ok (.iload 4, 2) := by decide +kernel
theorem dX5_rank_36 : decode cX5_rank 36 = .ok (.iadd, 1) := by decide +kernel
theorem dX5_rank_37 : decode cX5_rank 37 = .ok (.iload 5, 2) := by decide +kernel
theorem dX5_rank_39 : decode cX5_rank 39 = .ok (.iadd, 1) := by decide +kernel
theorem dX5_rank_40 : decode cX5_rank 40 = .ok (.bipush 20, 2) := by decide +kernel
theorem dX5_rank_42 : decode cX5_rank 42 = .ok (.ishl, 1) := by decide +kernel
theorem dX5_rank_43 : decode cX5_rank 43 = .ok (.istore 6, 2) := by decide +kernel
theorem dX5_rank_45 : decode cX5_rank 45 = .ok (.iload_n 2, 1) := by decide +kernel
theorem dX5_rank_46 : decode cX5_rank 46 = .ok (.bipush 15, 2) := by decide +kernel
theorem dX5_rank_48 : decode cX5_rank 48 = .ok (.ishl, 1) := by decide +kernel
theorem dX5_rank_49 : decode cX5_rank 49 = .ok (.iload_n 3, 1) := by decide +kernel
theorem dX5_rank_50 : decode cX5_rank 50 = .ok (.bipush 10, 2) := by decide +kernel
theorem dX5_rank_52 : decode cX5_rank 52 = .ok (.ishl, 1) := by decide +kernel
theorem dX5_rank_53 : decode cX5_rank 53 = .ok (.ior, 1) := by decide +kernel
theorem dX5_rank_54 : decode cX5_rank 54 = .ok (.iload 4, 2) := by decide +kernel
theorem dX5_rank_56 : decode cX5_rank 56 = .ok (.iconst 5, 1) := by decide +kernel
theorem dX5_rank_57 : decode cX5_rank 57 = .ok (.ishl, 1) := by decide +kernel
theorem dX5_rank_58 : decode cX5_rank 58 = .ok (.ior, 1) := by decide +kernel
theorem dX5_rank_59 : decode cX5_rank 59 = .ok (.iload 5, 2) := by decide +kernel
theorem dX5_rank_61 : decode cX5_rank 61 = .ok (.ior, 1) := by decide +kernel
theorem dX5_rank_62 : decode cX5_rank 62 = .ok (.istore 7, 2) := by decide +kernel
theorem dX5_rank_64 : decode cX5_rank 64 = .ok (.aload_n 0, 1) := by decide +kernel
theorem dX5_rank_65 : decode cX5_rank 65 = .ok (.getfield 9, 3) := by decide +kernel
theorem dX5_rank_68 : decode cX5_rank 68 = .ok (.tableswitch 70 0 2 #[28, 31, 37], 28) := by decide +kernel
theorem dX5_rank_96 : decode cX5_rank 96 = .ok (.iload 7, 2) := by decide +kernel
theorem dX5_rank_98 : decode cX5_rank 98 = .ok (.ireturn, 1) := by decide +kernel
theorem dX5_rank_99 : decode cX5_rank 99 = .ok (.iload 6, 2) := by decide +kernel
theorem dX5_rank_101 : decode cX5_rank 101 = .ok (.iload 7, 2) := by decide +kernel
theorem dX5_rank_103 : decode cX5_rank 103 = .ok (.ior, 1) := by decide +kernel
theorem dX5_rank_104 : decode cX5_rank 104 = .ok (.ireturn, 1) := by decide +kernel
theorem dX5_rank_105 : decode cX5_rank 105 = .ok (.iload 6, 2) := by decide +kernel
theorem dX5_rank_107 : decode cX5_rank 107 = .ok (.bipush 31, 2) := by decide +kernel
theorem dX5_rank_109 : decode cX5_rank 109 = .ok (.iload 5, 2) := by decide +kernel
theorem dX5_rank_111 : decode cX5_rank 111 = .ok (.isub, 1) := by decide +kernel
theorem dX5_rank_112 : decode cX5_rank 112 = .ok (.bipush 15, 2) := by decide +kernel
theorem dX5_rank_114 : decode cX5_rank 114 = .ok (.ishl, 1) := by decide +kernel
theorem dX5_rank_115 : decode cX5_rank 115 = .ok (.ior, 1) := by decide +kernel
theorem dX5_rank_116 : decode cX5_rank 116 = .ok (.bipush 31, 2) := by decide +kernel
theorem dX5_rank_118 : decode cX5_rank 118 = .ok (.iload 4, 2) := by decide +kernel
theorem dX5_rank_120 : decode cX5_rank 120 = .ok (.isub, 1) := by decide +kernel
theorem dX5_rank_121 : decode cX5_rank 121 = .ok (.bipush 10, 2) := by decide +kernel
theorem dX5_rank_123 : decode cX5_rank 123 = .ok (.ishl, 1) := by decide +kernel
theorem dX5_rank_124 : decode cX5_rank 124 = .ok (.ior, 1) := by decide +kernel
theorem dX5_rank_125 : decode cX5_rank 125 = .ok (.bipush 31, 2) := by decide +kernel
theorem dX5_rank_127 : decode cX5_rank 127 = .ok (.iload_n 3, 1) := by decide +kernel
theorem dX5_rank_128 : decode cX5_rank 128 = .ok (.isub, 1) := by decide +kernel
theorem dX5_rank_129 : decode cX5_rank 129 = .ok (.iconst 5, 1) := by decide +kernel
theorem dX5_rank_130 : decode cX5_rank 130 = .ok (.ishl, 1) := by decide +kernel
theorem dX5_rank_131 : decode cX5_rank 131 = .ok (.ior, 1) := by decide +kernel
theorem dX5_rank_132 : decode cX5_rank 132 = .ok (.bipush 31, 2) := by decide +kernel
theorem dX5_rank_134 : decode cX5_rank 134 = .ok (.iload_n 2, 1) := by decide +kernel
theorem dX5_rank_135 : decode cX5_rank 135 = .ok (.isub, 1) := by decide +kernel
theorem dX5_rank_136 : decode cX5_rank 136 = .ok (.ior, 1) := by decide +kernel
theorem dX5_rank_137 : decode cX5_rank 137 = .ok (.ireturn, 1) := by decide +kernel
theorem dX5_rank_138 : decode cX5_rank 138 = .ok (.iload_n 2, 1) := by decide +kernel
theorem dX5_rank_139 : decode cX5_rank 139 = .ok (.iload_n 3, 1) := by decide +kernel
theorem dX5_rank_140 : decode cX5_rank 140 = .ok (.iadd, 1) := by decide +kernel
theorem dX5_rank_141 : decode cX5_rank 141 = .ok (.bipush 16, 2) := by decide +kernel
theorem dX5_rank_143 : decode cX5_rank 143 = .ok (.ishl, 1) := by decide +kernel
theorem dX5_rank_144 : decode cX5_rank 144 = .ok (.bipush 31, 2) := by decide +kernel
theorem dX5_rank_146 : decode cX5_rank 146 = .ok (.iload_n 3, 1) := by decide +kernel
theorem dX5_rank_147 : decode cX5_rank 147 = .ok (.isub, 1) := by decide +kernel
theorem dX5_rank_148 : decode cX5_rank 148 = .ok (.bipush 11, 2) := by decide +kernel
theorem dX5_rank_150 : decode cX5_rank 150 = .ok (.ishl, 1) := by decide +kernel
theorem dX5_rank_151 : decode cX5_rank 151 = .ok (.ior, 1) := by decide +kernel
theorem dX5_rank_152 : decode cX5_rank 152 = .ok (.iload 4, 2) := by decide +kernel
theorem dX5_rank_154 : decode cX5_rank 154 = .ok (.iload 5, 2) := by decide +kernel
theorem dX5_rank_156 : decode cX5_rank 156 = .ok (.iadd, 1) := by decide +kernel
theorem dX5_rank_157 : decode cX5_rank 157 = .ok (.iconst 5, 1) := by decide +kernel
theorem dX5_rank_158 : decode cX5_rank 158 = .ok (.ishl, 1) := by decide +kernel
theorem dX5_rank_159 : decode cX5_rank 159 = .ok (.ior, 1) := by decide +kernel
theorem dX5_rank_160 : decode cX5_rank 160 = .ok (.bipush 31, 2) := by decide +kernel
theorem dX5_rank_162 : decode cX5_rank 162 = .ok (.iload 5, 2) := by decide +kernel
theorem dX5_rank_164 : decode cX5_rank 164 = .ok (.isub, 1) := by decide +kernel
theorem dX5_rank_165 : decode cX5_rank 165 = .ok (.ior, 1) := by decide +kernel
theorem dX5_rank_166 : decode cX5_rank 166 = .ok (.ireturn, 1) := by decide +kernel
theorem dX5_sortTerms_0 : decode cX5_sortTerms 0 = .ok (.iconst 1, 1) := by decide +kernel
theorem dX5_sortTerms_1 : decode cX5_sortTerms 1 = .ok (.istore_n 2, 1) := by decide +kernel
theorem dX5_sortTerms_2 : decode cX5_sortTerms 2 = .ok (.iload_n 2, 1) := by decide +kernel
theorem dX5_sortTerms_3 : decode cX5_sortTerms 3 = .ok (.aload_n 1, 1) := by decide +kernel
theorem dX5_sortTerms_4 : decode cX5_sortTerms 4 = .ok (.getfield 51, 3) := by decide +kernel
theorem dX5_sortTerms_7 : decode cX5_sortTerms 7 = .ok (.if_icmp .ge 109, 3) := by decide +kernel
theorem dX5_sortTerms_10 : decode cX5_sortTerms 10 = .ok (.aload_n 1, 1) := by decide +kernel
theorem dX5_sortTerms_11 : decode cX5_sortTerms 11 = .ok (.getfield 54, 3) := by decide +kernel
theorem dX5_sortTerms_14 : decode cX5_sortTerms 14 = .ok (.iload_n 2, 1) := by decide +kernel
theorem dX5_sortTerms_15 : decode cX5_sortTerms 15 = .ok (.iaload, 1) := by decide +kernel
theorem dX5_sortTerms_16 : decode cX5_sortTerms 16 = .ok (.istore_n 3, 1) := by decide +kernel
theorem dX5_sortTerms_17 : decode cX5_sortTerms 17 = .ok (.aload_n 1, 1) := by decide +kernel
theorem dX5_sortTerms_18 : decode cX5_sortTerms 18 = .ok (.getfield 57, 3) := by decide +kernel
theorem dX5_sortTerms_21 : decode cX5_sortTerms 21 = .ok (.iload_n 2, 1) := by decide +kernel
theorem dX5_sortTerms_22 : decode cX5_sortTerms 22 = .ok (.iaload, 1) := by decide +kernel
theorem dX5_sortTerms_23 : decode cX5_sortTerms 23 = .ok (.istore 4, 2) := by decide +kernel
theorem dX5_sortTerms_25 : decode cX5_sortTerms 25 = .ok (.iload_n 2, 1) := by decide +kernel
theorem dX5_sortTerms_26 : decode cX5_sortTerms 26 = .ok (.istore 5, 2) := by decide +kernel
theorem dX5_sortTerms_28 : decode cX5_sortTerms 28 = .ok (.iload 5, 2) := by decide +kernel
theorem dX5_sortTerms_30 : decode cX5_sortTerms 30 = .ok (.ifCond .le 63, 3) := by decide +kernel
theorem dX5_sortTerms_33 : decode cX5_sortTerms 33 = .ok (.aload_n 0, 1) := by decide +kernel
theorem dX5_sortTerms_34 : decode cX5_sortTerms 34 = .ok (.aload_n 1, 1) := by decide +kernel
theorem dX5_sortTerms_35 : decode cX5_sortTerms 35 = .ok (.getfield 57, 3) := by decide +kernel
theorem dX5_sortTerms_38 : decode cX5_sortTerms 38 = .ok (.iload 5, 2) := by decide +kernel
theorem dX5_sortTerms_40 : decode cX5_sortTerms 40 = .ok (.iconst 1, 1) := by decide +kernel
theorem dX5_sortTerms_41 : decode cX5_sortTerms 41 = .ok (.isub, 1) := by decide +kernel
theorem dX5_sortTerms_42 : decode cX5_sortTerms 42 = .ok (.iaload, 1) := by decide +kernel
theorem dX5_sortTerms_43 : decode cX5_sortTerms 43 = .ok (.invokevirtual 60, 3) := by decide +kernel
theorem dX5_sortTerms_46 : decode cX5_sortTerms 46 = .ok (.aload_n 0, 1) := by decide +kernel
theorem dX5_sortTerms_47 : decode cX5_sortTerms 47 = .ok (.iload 4, 2) := by decide +kernel
theorem dX5_sortTerms_49 : decode cX5_sortTerms 49 = .ok (.invokevirtual 60, 3) := by decide +kernel
theorem dX5_sortTerms_52 : decode cX5_sortTerms 52 = .ok (.if_icmp .ge 41, 3) := by decide +kernel
theorem dX5_sortTerms_55 : decode cX5_sortTerms 55 = .ok (.aload_n 1, 1) := by decide +kernel
theorem dX5_sortTerms_56 : decode cX5_sortTerms 56 = .ok (.getfield 54, 3) := by decide +kernel
theorem dX5_sortTerms_59 : decode cX5_sortTerms 59 = .ok (.iload 5, 2) := by decide +kernel
theorem dX5_sortTerms_61 : decode cX5_sortTerms 61 = .ok (.aload_n 1, 1) := by decide +kernel
theorem dX5_sortTerms_62 : decode cX5_sortTerms 62 = .ok (.getfield 54, 3) := by decide +kernel
theorem dX5_sortTerms_65 : decode cX5_sortTerms 65 = .ok (.iload 5, 2) := by decide +kernel
theorem dX5_sortTerms_67 : decode cX5_sortTerms 67 = .ok (.iconst 1, 1) := by decide +kernel
theorem dX5_sortTerms_68 : decode cX5_sortTerms 68 = .ok (.isub, 1) := by decide +kernel
theorem dX5_sortTerms_69 : decode cX5_sortTerms 69 = .ok (.iaload, 1) := by decide +kernel
theorem dX5_sortTerms_70 : decode cX5_sortTerms 70 = .ok (.iastore, 1) := by decide +kernel
theorem dX5_sortTerms_71 : decode cX5_sortTerms 71 = .ok (.aload_n 1, 1) := by decide +kernel
theorem dX5_sortTerms_72 : decode cX5_sortTerms 72 = .ok (.getfield 57, 3) := by decide +kernel
theorem dX5_sortTerms_75 : decode cX5_sortTerms 75 = .ok (.iload 5, 2) := by decide +kernel
theorem dX5_sortTerms_77 : decode cX5_sortTerms 77 = .ok (.aload_n 1, 1) := by decide +kernel
theorem dX5_sortTerms_78 : decode cX5_sortTerms 78 = .ok (.getfield 57, 3) := by decide +kernel
theorem dX5_sortTerms_81 : decode cX5_sortTerms 81 = .ok (.iload 5, 2) := by decide +kernel
theorem dX5_sortTerms_83 : decode cX5_sortTerms 83 = .ok (.iconst 1, 1) := by decide +kernel
theorem dX5_sortTerms_84 : decode cX5_sortTerms 84 = .ok (.isub, 1) := by decide +kernel
theorem dX5_sortTerms_85 : decode cX5_sortTerms 85 = .ok (.iaload, 1) := by decide +kernel
theorem dX5_sortTerms_86 : decode cX5_sortTerms 86 = .ok (.iastore, 1) := by decide +kernel
theorem dX5_sortTerms_87 : decode cX5_sortTerms 87 = .ok (.iinc 5 (-1), 3) := by decide +kernel
theorem dX5_sortTerms_90 : decode cX5_sortTerms 90 = .ok (.goto (-62), 3) := by decide +kernel
theorem dX5_sortTerms_93 : decode cX5_sortTerms 93 = .ok (.aload_n 1, 1) := by decide +kernel
theorem dX5_sortTerms_94 : decode cX5_sortTerms 94 = .ok (.getfield 54, 3) := by decide +kernel
theorem dX5_sortTerms_97 : decode cX5_sortTerms 97 = .ok (.iload 5, 2) := by decide +kernel
theorem dX5_sortTerms_99 : decode cX5_sortTerms 99 = .ok (.iload_n 3, 1) := by decide +kernel
theorem dX5_sortTerms_100 : decode cX5_sortTerms 100 = .ok (.iastore, 1) := by decide +kernel
theorem dX5_sortTerms_101 : decode cX5_sortTerms 101 = .ok (.aload_n 1, 1) := by decide +kernel
theorem dX5_sortTerms_102 : decode cX5_sortTerms 102 = .ok (.getfield 57, 3) := by decide +kernel
theorem dX5_sortTerms_105 : decode cX5_sortTerms 105 = .ok (.iload 5, 2) := by decide +kernel
theorem dX5_sortTerms_107 : decode cX5_sortTerms 107 = .ok (.iload 4, 2) := by decide +kernel
theorem dX5_sortTerms_109 : decode cX5_sortTerms 109 = .ok (.iastore, 1) := by decide +kernel
theorem dX5_sortTerms_110 : decode cX5_sortTerms 110 = .ok (.iinc 2 1, 3) := by decide +kernel
theorem dX5_sortTerms_113 : decode cX5_sortTerms 113 = .ok (.goto (-111), 3) := by decide +kernel
theorem dX5_sortTerms_116 : decode cX5_sortTerms 116 = .ok (.return_, 1) := by decide +kernel
theorem dX5_comparePolys_0 : decode cX5_comparePolys 0 = .ok (.aload_n 1, 1) := by decide +kernel
theorem dX5_comparePolys_1 : decode cX5_comparePolys 1 = .ok (.getfield 51, 3) := by decide +kernel
theorem dX5_comparePolys_4 : decode cX5_comparePolys 4 = .ok (.aload_n 2, 1) := by decide +kernel
theorem dX5_comparePolys_5 : decode cX5_comparePolys 5 = .ok (.getfield 51, 3) := by decide +kernel
theorem dX5_comparePolys_8 : decode cX5_comparePolys 8 = .ok (.invokestatic 64, 3) := by decide +kernel
theorem dX5_comparePolys_11 : decode cX5_comparePolys 11 = .ok (.istore_n 3, 1) := by decide +kernel
theorem dX5_comparePolys_12 : decode cX5_comparePolys 12 = .ok (.iconst 0, 1) := by decide +kernel
theorem dX5_comparePolys_13 : decode cX5_comparePolys 13 = .ok (.istore 4, 2) := by decide +kernel
theorem dX5_comparePolys_15 : decode cX5_comparePolys 15 = .ok (.iload 4, 2) := by decide +kernel
theorem dX5_comparePolys_17 : decode cX5_comparePolys 17 = .ok (.iload_n 3, 1) := by decide +kernel
theorem dX5_comparePolys_18 : decode cX5_comparePolys 18 = .ok (.if_icmp .ge 87, 3) := by decide +kernel
theorem dX5_comparePolys_21 : decode cX5_comparePolys 21 = .ok (.aload_n 1, 1) := by decide +kernel
theorem dX5_comparePolys_22 : decode cX5_comparePolys 22 = .ok (.getfield 57, 3) := by decide +kernel
theorem dX5_comparePolys_25 : decode cX5_comparePolys 25 = .ok (.iload 4, 2) := by decide +kernel
theorem dX5_comparePolys_27 : decode cX5_comparePolys 27 = .ok (.iaload, 1) := by decide +kernel
theorem dX5_comparePolys_28 : decode cX5_comparePolys 28 = .ok (.aload_n 2, 1) := by decide +kernel
theorem dX5_comparePolys_29 : decode cX5_comparePolys 29 = .ok (.getfield 57, 3) := by decide +kernel
theorem dX5_comparePolys_32 : decode cX5_comparePolys 32 = .ok (.iload 4, 2) := by decide +kernel
theorem dX5_comparePolys_34 : decode cX5_comparePolys 34 = .ok (.iaload, 1) := by decide +kernel
theorem dX5_comparePolys_35 : decode cX5_comparePolys 35 = .ok (.if_icmp .eq 29, 3) := by decide +kernel
theorem dX5_comparePolys_38 : decode cX5_comparePolys 38 = .ok (.aload_n 0, 1) := by decide +kernel
theorem dX5_comparePolys_39 : decode cX5_comparePolys 39 = .ok (.aload_n 1, 1) := by decide +kernel
theorem dX5_comparePolys_40 : decode cX5_comparePolys 40 = .ok (.getfield 57, 3) := by decide +kernel
theorem dX5_comparePolys_43 : decode cX5_comparePolys 43 = .ok (.iload 4, 2) := by decide +kernel
theorem dX5_comparePolys_45 : decode cX5_comparePolys 45 = .ok (.iaload, 1) := by decide +kernel
theorem dX5_comparePolys_46 : decode cX5_comparePolys 46 = .ok (.invokevirtual 60, 3) := by decide +kernel
theorem dX5_comparePolys_49 : decode cX5_comparePolys 49 = .ok (.aload_n 0, 1) := by decide +kernel
theorem dX5_comparePolys_50 : decode cX5_comparePolys 50 = .ok (.aload_n 2, 1) := by decide +kernel
theorem dX5_comparePolys_51 : decode cX5_comparePolys 51 = .ok (.getfield 57, 3) := by decide +kernel
theorem dX5_comparePolys_54 : decode cX5_comparePolys 54 = .ok (.iload 4, 2) := by decide +kernel
theorem dX5_comparePolys_56 : decode cX5_comparePolys 56 = .ok (.iaload, 1) := by decide +kernel
theorem dX5_comparePolys_57 : decode cX5_comparePolys 57 = .ok (.invokevirtual 60, 3) := by decide +kernel
theorem dX5_comparePolys_60 : decode cX5_comparePolys 60 = .ok (.invokestatic 67, 3) := by decide +kernel
theorem dX5_comparePolys_63 : decode cX5_comparePolys 63 = .ok (.ireturn, 1) := by decide +kernel
theorem dX5_comparePolys_64 : decode cX5_comparePolys 64 = .ok (.aload_n 1, 1) := by decide +kernel
theorem dX5_comparePolys_65 : decode cX5_comparePolys 65 = .ok (.getfield 54, 3) := by decide +kernel
theorem dX5_comparePolys_68 : decode cX5_comparePolys 68 = .ok (.iload 4, 2) := by decide +kernel
theorem dX5_comparePolys_70 : decode cX5_comparePolys 70 = .ok (.iaload, 1) := by decide +kernel
theorem dX5_comparePolys_71 : decode cX5_comparePolys 71 = .ok (.aload_n 2, 1) := by decide +kernel
theorem dX5_comparePolys_72 : decode cX5_comparePolys 72 = .ok (.getfield 54, 3) := by decide +kernel
theorem dX5_comparePolys_75 : decode cX5_comparePolys 75 = .ok (.iload 4, 2) := by decide +kernel
theorem dX5_comparePolys_77 : decode cX5_comparePolys 77 = .ok (.iaload, 1) := by decide +kernel
theorem dX5_comparePolys_78 : decode cX5_comparePolys 78 = .ok (.if_icmp .eq 21, 3) := by decide +kernel
theorem dX5_comparePolys_81 : decode cX5_comparePolys 81 = .ok (.aload_n 1, 1) := by decide +kernel
theorem dX5_comparePolys_82 : decode cX5_comparePolys 82 = .ok (.getfield 54, 3) := by decide +kernel
theorem dX5_comparePolys_85 : decode cX5_comparePolys 85 = .ok (.iload 4, 2) := by decide +kernel
theorem dX5_comparePolys_87 : decode cX5_comparePolys 87 = .ok (.iaload, 1) := by decide +kernel
theorem dX5_comparePolys_88 : decode cX5_comparePolys 88 = .ok (.aload_n 2, 1) := by decide +kernel
theorem dX5_comparePolys_89 : decode cX5_comparePolys 89 = .ok (.getfield 54, 3) := by decide +kernel
theorem dX5_comparePolys_92 : decode cX5_comparePolys 92 = .ok (.iload 4, 2) := by decide +kernel
theorem dX5_comparePolys_94 : decode cX5_comparePolys 94 = .ok (.iaload, 1) := by decide +kernel
theorem dX5_comparePolys_95 : decode cX5_comparePolys 95 = .ok (.invokestatic 67, 3) := by decide +kernel
theorem dX5_comparePolys_98 : decode cX5_comparePolys 98 = .ok (.ireturn, 1) := by decide +kernel
theorem dX5_comparePolys_99 : decode cX5_comparePolys 99 = .ok (.iinc 4 1, 3) := by decide +kernel
theorem dX5_comparePolys_102 : decode cX5_comparePolys 102 = .ok (.goto (-87), 3) := by decide +kernel
theorem dX5_comparePolys_105 : decode cX5_comparePolys 105 = .ok (.aload_n 1, 1) := by decide +kernel
theorem dX5_comparePolys_106 : decode cX5_comparePolys 106 = .ok (.getfield 51, 3) := by decide +kernel
theorem dX5_comparePolys_109 : decode cX5_comparePolys 109 = .ok (.aload_n 2, 1) := by decide +kernel
theorem dX5_comparePolys_110 : decode cX5_comparePolys 110 = .ok (.getfield 51, 3) := by decide +kernel
theorem dX5_comparePolys_113 : decode cX5_comparePolys 113 = .ok (.invokestatic 67, 3) := by decide +kernel
theorem dX5_comparePolys_116 : decode cX5_comparePolys 116 = .ok (.ireturn, 1) := by decide +kernel
theorem dX5_addMultiple_0 : decode cX5_addMultiple 0 = .ok (.aload_n 3, 1) := by decide +kernel
theorem dX5_addMultiple_1 : decode cX5_addMultiple 1 = .ok (.iload 5, 2) := by decide +kernel
theorem dX5_addMultiple_3 : decode cX5_addMultiple 3 = .ok (.invokestatic 72, 3) := by decide +kernel
theorem dX5_addMultiple_6 : decode cX5_addMultiple 6 = .ok (.ifCond .eq 6, 3) := by decide +kernel
theorem dX5_addMultiple_9 : decode cX5_addMultiple 9 = .ok (.bipush (-5), 2) := by decide +kernel
theorem dX5_addMultiple_11 : decode cX5_addMultiple 11 = .ok (.ireturn, 1) := by decide +kernel
theorem dX5_addMultiple_12 : decode cX5_addMultiple 12 = .ok (.aload_n 1, 1) := by decide +kernel
theorem dX5_addMultiple_13 : decode cX5_addMultiple 13 = .ok (.iconst 0, 1) := by decide +kernel
theorem dX5_addMultiple_14 : decode cX5_addMultiple 14 = .ok (.putfield 51, 3) := by decide +kernel
theorem dX5_addMultiple_17 : decode cX5_addMultiple 17 = .ok (.iconst 0, 1) := by decide +kernel
theorem dX5_addMultiple_18 : decode cX5_addMultiple 18 = .ok (.istore 6, 2) := by decide +kernel
theorem dX5_addMultiple_20 : decode cX5_addMultiple 20 = .ok (.iconst 0, 1) := by decide +kernel
theorem dX5_addMultiple_21 : decode cX5_addMultiple 21 = .ok (.istore 7, 2) := by decide +kernel
theorem dX5_addMultiple_23 : decode cX5_addMultiple 23 = .ok (.aload_n 2, 1) := by decide +kernel
theorem dX5_addMultiple_24 : decode cX5_addMultiple 24 = .ok (.getfield 51, 3) := by decide +kernel
theorem dX5_addMultiple_27 : decode cX5_addMultiple 27 = .ok (.aload_n 3, 1) := by decide +kernel
theorem dX5_addMultiple_28 : decode cX5_addMultiple 28 = .ok (.getfield 51, 3) := by decide +kernel
theorem dX5_addMultiple_31 : decode cX5_addMultiple 31 = .ok (.iadd, 1) := by decide +kernel
theorem dX5_addMultiple_32 : decode cX5_addMultiple 32 = .ok (.istore 8, 2) := by decide +kernel
theorem dX5_addMultiple_34 : decode cX5_addMultiple 34 = .ok (.iload 8, 2) := by decide +kernel
theorem dX5_addMultiple_36 : decode cX5_addMultiple 36 = .ok (.ifCond .le 176, 3) := by decide +kernel
theorem dX5_addMultiple_39 : decode cX5_addMultiple 39 = .ok (.iload 6, 2) := by decide +kernel
theorem dX5_addMultiple_41 : decode cX5_addMultiple 41 = .ok (.aload_n 2, 1) := by decide +kernel
theorem dX5_addMultiple_42 : decode cX5_addMultiple 42 = .ok (.getfield 51, 3) := by decide +kernel
theorem dX5_addMultiple_45 : decode cX5_addMultiple 45 = .ok (.if_icmp .ge 17, 3) := by decide +kernel
theorem dX5_addMultiple_48 : decode cX5_addMultiple 48 = .ok (.aload_n 0, 1) := by decide +kernel
theorem dX5_addMultiple_49 : decode cX5_addMultiple 49 = .ok (.aload_n 2, 1) := by decide +kernel
theorem dX5_addMultiple_50 : decode cX5_addMultiple 50 = .ok (.getfield 57, 3) := by decide +kernel
theorem dX5_addMultiple_53 : decode cX5_addMultiple 53 = .ok (.iload 6, 2) := by decide +kernel
theorem dX5_addMultiple_55 : decode cX5_addMultiple 55 = .ok (.iaload, 1) := by decide +kernel
theorem dX5_addMultiple_56 : decode cX5_addMultiple 56 = .ok (.invokevirtual 60, 3) := by decide +kernel
theorem dX5_addMultiple_59 : decode cX5_addMultiple 59 = .ok (.goto 4, 3) := by decide +kernel
theorem dX5_addMultiple_62 : decode cX5_addMultiple 62 = .ok (.iconst (-1), 1) := by decide +kernel
theorem dX5_addMultiple_63 : decode cX5_addMultiple 63 = .ok (.istore 9, 2) := by decide +kernel
theorem dX5_addMultiple_65 : decode cX5_addMultiple 65 = .ok (.iload 7, 2) := by decide +kernel
theorem dX5_addMultiple_67 : decode cX5_addMultiple 67 = .ok (.aload_n 3, 1) := by decide +kernel
theorem dX5_addMultiple_68 : decode cX5_addMultiple 68 = .ok (.getfield 51, 3) := by decide +kernel
theorem dX5_addMultiple_71 : decode cX5_addMultiple 71 = .ok (.if_icmp .ge 20, 3) := by decide +kernel
theorem dX5_addMultiple_74 : decode cX5_addMultiple 74 = .ok (.aload_n 0, 1) := by decide +kernel
theorem dX5_addMultiple_75 : decode cX5_addMultiple 75 = .ok (.aload_n 3, 1) := by decide +kernel
theorem dX5_addMultiple_76 : decode cX5_addMultiple 76 = .ok (.getfield 57, 3) := by decide +kernel
theorem dX5_addMultiple_79 : decode cX5_addMultiple 79 = .ok (.iload 7, 2) := by decide +kernel
theorem dX5_addMultiple_81 : decode cX5_addMultiple 81 = .ok (.iaload, 1) := by decide +kernel
theorem dX5_addMultiple_82 : decode cX5_addMultiple 82 = .ok (.iload 5, 2) := by decide +kernel
theorem dX5_addMultiple_84 : decode cX5_addMultiple 84 = .ok (.iadd, 1) := by decide +kernel
theorem dX5_addMultiple_85 : decode cX5_addMultiple 85 = .ok (.invokevirtual 60, 3) := by decide +kernel
theorem dX5_addMultiple_88 : decode cX5_addMultiple 88 = .ok (.goto 4, 3) := by decide +kernel
theorem dX5_addMultiple_91 : decode cX5_addMultiple 91 = .ok (.iconst (-1), 1) := by decide +kernel
theorem dX5_addMultiple_92 : decode cX5_addMultiple 92 = .ok (.istore 10, 2) := by decide +kernel
theorem dX5_addMultiple_94 : decode cX5_addMultiple 94 = .ok (.iconst 0, 1) := by decide +kernel
theorem dX5_addMultiple_95 : decode cX5_addMultiple 95 = .ok (.istore 11, 2) := by decide +kernel
theorem dX5_addMultiple_97 : decode cX5_addMultiple 97 = .ok (.iconst 0, 1) := by decide +kernel
theorem dX5_addMultiple_98 : decode cX5_addMultiple 98 = .ok (.istore 12, 2) := by decide +kernel
theorem dX5_addMultiple_100 : decode cX5_addMultiple 100 = .ok (.iload 6, 2) := by decide +kernel
theorem dX5_addMultiple_102 : decode cX5_addMultiple 102 = .ok (.aload_n 2, 1) := by decide +kernel
theorem dX5_addMultiple_103 : decode cX5_addMultiple 103 = .ok (.getfield 51, 3) := by decide +kernel
theorem dX5_addMultiple_106 : decode cX5_addMultiple 106 = .ok (.if_icmp .ge 31, 3) := by decide +kernel
theorem dX5_addMultiple_109 : decode cX5_addMultiple 109 = .ok (.iload 9, 2) := by decide +kernel
theorem dX5_addMultiple_111 : decode cX5_addMultiple 111 = .ok (.iload 10, 2) := by decide +kernel
theorem dX5_addMultiple_113 : decode cX5_addMultiple 113 = .ok (.if_icmp .lt 24, 3) := by decide +kernel
theorem dX5_addMultiple_116 : decode cX5_addMultiple 116 = .ok (.aload_n 2, 1) := by decide +kernel
theorem dX5_addMultiple_117 : decode cX5_addMultiple 117 = .ok (.getfield 57, 3) := by decide +kernel
theorem dX5_addMultiple_120 : decode cX5_addMultiple 120 = .ok (.iload 6, 2) := by decide +kernel
theorem dX5_addMultiple_122 : decode cX5_addMultiple 122 = .ok (.iaload, 1) := by decide +kernel
theorem dX5_addMultiple_123 : decode cX5_addMultiple 123 = .ok (.istore 12, 2) := by decide +kernel
theorem dX5_addMultiple_125 : decode cX5_addMultiple 125 = .ok (.aload_n 2, 1) := by decide +kernel
theorem dX5_addMultiple_126 : decode cX5_addMultiple 126 = .ok (.getfield 54, 3) := by decide +kernel
theorem dX5_addMultiple_129 : decode cX5_addMultiple 129 = .ok (.iload 6, 2) := by decide +kernel
theorem dX5_addMultiple_131 : decode cX5_addMultiple 131 = .ok (.iaload, 1) := by decide +kernel
theorem dX5_addMultiple_132 : decode cX5_addMultiple 132 = .ok (.istore 11, 2) := by decide +kernel
theorem dX5_addMultiple_134 : decode cX5_addMultiple 134 = .ok (.iinc 6 1, 3) := by decide +kernel
theorem dX5_addMultiple_137 : decode cX5_addMultiple 137 = .ok (.iload 7, 2) := by decide +kernel
theorem dX5_addMultiple_139 : decode cX5_addMultiple 139 = .ok (.aload_n 3, 1) := by decide +kernel
theorem dX5_addMultiple_140 : decode cX5_addMultiple 140 = .ok (.getfield 51, 3) := by decide +kernel
theorem dX5_addMultiple_143 : decode cX5_addMultiple 143 = .ok (.if_icmp .ge 44, 3) := by decide +kernel
theorem dX5_addMultiple_146 : decode cX5_addMultiple 146 = .ok (.iload 10, 2) := by decide +kernel
theorem dX5_addMultiple_148 : decode cX5_addMultiple 148 = .ok (.iload 9, 2) := by decide +kernel
theorem dX5_addMultiple_150 : decode cX5_addMultiple 150 = .ok (.if_icmp .lt 37, 3) := by decide +kernel
theorem dX5_addMultiple_153 : decode cX5_addMultiple 153 = .ok (.aload_n 3, 1) := by decide +kernel
theorem dX5_addMultiple_154 : decode cX5_addMultiple 154 = .ok (.getfield 57, 3) := by decide +kernel
theorem dX5_addMultiple_157 : decode cX5_addMultiple 157 = .ok (.iload 7, 2) := by decide +kernel
theorem dX5_addMultiple_159 : decode cX5_addMultiple 159 = .ok (.iaload, 1) := by decide +kernel
theorem dX5_addMultiple_160 : decode cX5_addMultiple 160 = .ok (.iload 5, 2) := by decide +kernel
theorem dX5_addMultiple_162 : decode cX5_addMultiple 162 = .ok (.iadd, 1) := by decide +kernel
theorem dX5_addMultiple_163 : decode cX5_addMultiple 163 = .ok (.istore 12, 2) := by decide +kernel
theorem dX5_addMultiple_165 : decode cX5_addMultiple 165 = .ok (.aload_n 0, 1) := by decide +kernel
theorem dX5_addMultiple_166 : decode cX5_addMultiple 166 = .ok (.iload 11, 2) := by decide +kernel
theorem dX5_addMultiple_168 : decode cX5_addMultiple 168 = .ok (.iload 4, 2) := by decide +kernel
theorem dX5_addMultiple_170 : decode cX5_addMultiple 170 = .ok (.aload_n 3, 1) := by decide +kernel
theorem dX5_addMultiple_171 : decode cX5_addMultiple 171 = .ok (.getfield 54, 3) := by decide +kernel
theorem dX5_addMultiple_174 : decode cX5_addMultiple 174 = .ok (.iload 7, 2) := by decide +kernel
theorem dX5_addMultiple_176 : decode cX5_addMultiple 176 = .ok (.iaload, 1) := by decide +kernel
theorem dX5_addMultiple_177 : decode cX5_addMultiple 177 = .ok (.imul, 1) := by decide +kernel
theorem dX5_addMultiple_178 : decode cX5_addMultiple 178 = .ok (.iadd, 1) := by decide +kernel
theorem dX5_addMultiple_179 : decode cX5_addMultiple 179 = .ok (.invokevirtual 76, 3) := by decide +kernel
theorem dX5_addMultiple_182 : decode cX5_addMultiple 182 = .ok (.istore 11, 2) := by decide +kernel
theorem dX5_addMultiple_184 : decode cX5_addMultiple 184 = .ok (.iinc 7 1, 3) := by decide +kernel
theorem dX5_addMultiple_187 : decode cX5_addMultiple 187 = .ok (.iload 11, 2) := by decide +kernel
theorem dX5_addMultiple_189 : decode cX5_addMultiple 189 = .ok (.ifCond .eq 17, 3) := by decide +kernel
theorem dX5_addMultiple_192 : decode cX5_addMultiple 192 = .ok (.aload_n 1, 1) := by decide +kernel
theorem dX5_addMultiple_193 : decode cX5_addMultiple 193 = .ok (.iload 11, 2) := by decide +kernel
theorem dX5_addMultiple_195 : decode cX5_addMultiple 195 = .ok (.iload 12, 2) := by decide +kernel
theorem dX5_addMultiple_197 : decode cX5_addMultiple 197 = .ok (.invokevirtual 79, 3) := by decide +kernel
theorem dX5_addMultiple_200 : decode cX5_addMultiple 200 = .ok (.ifCond .ne 6, 3) := by decide +kernel
theorem dX5_addMultiple_203 : decode cX5_addMultiple 203 = .ok (.bipush (-6), 2) := by decide +kernel
theorem dX5_addMultiple_205 : decode cX5_addMultiple 205 = .ok (.ireturn, 1) := by decide +kernel
theorem dX5_addMultiple_206 : decode cX5_addMultiple 206 = .ok (.iinc 8 (-1), 3) := by decide +kernel
theorem dX5_addMultiple_209 : decode cX5_addMultiple 209 = .ok (.goto (-175), 3) := by decide +kernel
theorem dX5_addMultiple_212 : decode cX5_addMultiple 212 = .ok (.iconst 0, 1) := by decide +kernel
theorem dX5_addMultiple_213 : decode cX5_addMultiple 213 = .ok (.ireturn, 1) := by decide +kernel
theorem dX5_isMultipleGreat_0 : decode cX5_isMultipleGreat 0 = .ok (.iconst 0, 1) := by decide +kernel
theorem dX5_isMultipleGreat_1 : decode cX5_isMultipleGreat 1 = .ok (.istore_n 2, 1) := by decide +kernel
theorem dX5_isMultipleGreat_2 : decode cX5_isMultipleGreat 2 = .ok (.iload_n 2, 1) := by decide +kernel
theorem dX5_isMultipleGreat_3 : decode cX5_isMultipleGreat 3 = .ok (.aload_n 0, 1) := by decide +kernel
theorem dX5_isMultipleGreat_4 : decode cX5_isMultipleGreat 4 = .ok (.getfield 51, 3) := by decide +kernel
theorem dX5_isMultipleGreat_7 : decode cX5_isMultipleGreat 7 = .ok (.if_icmp .ge 25, 3) := by decide +kernel
theorem dX5_isMultipleGreat_10 : decode cX5_isMultipleGreat 10 = .ok (.aload_n 0, 1) := by decide +kernel
theorem dX5_isMultipleGreat_11 : decode cX5_isMultipleGreat 11 = .ok (.getfield 57, 3) := by decide +kernel
theorem dX5_isMultipleGreat_14 : decode cX5_isMultipleGreat 14 = .ok (.iload_n 2, 1) := by decide +kernel
theorem dX5_isMultipleGreat_15 : decode cX5_isMultipleGreat 15 = .ok (.iaload, 1) := by decide +kernel
theorem dX5_isMultipleGreat_16 : decode cX5_isMultipleGreat 16 = .ok (.iload_n 1, 1) := by decide +kernel
theorem dX5_isMultipleGreat_17 : decode cX5_isMultipleGreat 17 = .ok (.iadd, 1) := by decide +kernel
theorem dX5_isMultipleGreat_18 : decode cX5_isMultipleGreat 18 = .ok (.invokestatic 83, 3) := by decide +kernel
theorem dX5_isMultipleGreat_21 : decode cX5_isMultipleGreat 21 = .ok (.ifCond .eq 5, 3) := by decide +kernel
theorem dX5_isMultipleGreat_24 : decode cX5_isMultipleGreat 24 = .ok (.iconst 1, 1) := by decide +kernel
theorem dX5_isMultipleGreat_25 : decode cX5_isMultipleGreat 25 = .ok (.ireturn, 1) := by decide +kernel
theorem dX5_isMultipleGreat_26 : decode cX5_isMultipleGreat 26 = .ok (.iinc 2 1, 3) := by decide +kernel
theorem dX5_isMultipleGreat_29 : decode cX5_isMultipleGreat 29 = .ok (.goto (-27), 3) := by decide +kernel
theorem dX5_isMultipleGreat_32 : decode cX5_isMultipleGreat 32 = .ok (.iconst 0, 1) := by decide +kernel
theorem dX5_isMultipleGreat_33 : decode cX5_isMultipleGreat 33 = .ok (.ireturn, 1) := by decide +kernel
theorem dX5_multiply_0 : decode cX5_multiply 0 = .ok (.iconst 0, 1) := by decide +kernel
theorem dX5_multiply_1 : decode cX5_multiply 1 = .ok (.istore 4, 2) := by decide +kernel
theorem dX5_multiply_3 : decode cX5_multiply 3 = .ok (.iload 4, 2) := by decide +kernel
theorem dX5_multiply_5 : decode cX5_multiply 5 = .ok (.aload_n 2, 1) := by decide +kernel
theorem dX5_multiply_6 : decode cX5_multiply 6 = .ok (.getfield 51, 3) := by decide +kernel
theorem dX5_multiply_9 : decode cX5_multiply 9 = .ok (.if_icmp .ge 26, 3) := by decide +kernel
theorem dX5_multiply_12 : decode cX5_multiply 12 = .ok (.aload_n 3, 1) := by decide +kernel
theorem dX5_multiply_13 : decode cX5_multiply 13 = .ok (.aload_n 2, 1) := by decide +kernel
theorem dX5_multiply_14 : decode cX5_multiply 14 = .ok (.getfield 57, 3) := by decide +kernel
theorem dX5_multiply_17 : decode cX5_multiply 17 = .ok (.iload 4, 2) := by decide +kernel
theorem dX5_multiply_19 : decode cX5_multiply 19 = .ok (.iaload, 1) := by decide +kernel
theorem dX5_multiply_20 : decode cX5_multiply 20 = .ok (.invokestatic 72, 3) := by decide +kernel
theorem dX5_multiply_23 : decode cX5_multiply 23 = .ok (.ifCond .eq 6, 3) := by decide +kernel
theorem dX5_multiply_26 : decode cX5_multiply 26 = .ok (.bipush (-5), 2) := by decide +kernel
theorem dX5_multiply_28 : decode cX5_multiply 28 = .ok (.ireturn, 1) := by decide +kernel
theorem dX5_multiply_29 : decode cX5_multiply 29 = .ok (.iinc 4 1, 3) := by decide +kernel
theorem dX5_multiply_32 : decode cX5_multiply 32 = .ok (.goto (-29), 3) := by decide +kernel
theorem dX5_multiply_35 : decode cX5_multiply 35 = .ok (.aload_n 1, 1) := by decide +kernel
theorem dX5_multiply_36 : decode cX5_multiply 36 = .ok (.iconst 0, 1) := by decide +kernel
theorem dX5_multiply_37 : decode cX5_multiply 37 = .ok (.putfield 51, 3) := by decide +kernel
theorem dX5_multiply_40 : decode cX5_multiply 40 = .ok (.aload_n 0, 1) := by decide +kernel
theorem dX5_multiply_41 : decode cX5_multiply 41 = .ok (.getfield 19, 3) := by decide +kernel
theorem dX5_multiply_44 : decode cX5_multiply 44 = .ok (.iconst 0, 1) := by decide +kernel
theorem dX5_multiply_45 : decode cX5_multiply 45 = .ok (.invokestatic 88, 3) := by decide +kernel
theorem dX5_multiply_48 : decode cX5_multiply 48 = .ok (.aload_n 2, 1) := by decide +kernel
theorem dX5_multiply_49 : decode cX5_multiply 49 = .ok (.getfield 51, 3) := by decide +kernel
theorem dX5_multiply_52 : decode cX5_multiply 52 = .ok (.aload_n 3, 1) := by decide +kernel
theorem dX5_multiply_53 : decode cX5_multiply 53 = .ok (.getfield 51, 3) := by decide +kernel
theorem dX5_multiply_56 : decode cX5_multiply 56 = .ok (.imul, 1) := by decide +kernel
theorem dX5_multiply_57 : decode cX5_multiply 57 = .ok (.istore 4, 2) := by decide +kernel
theorem dX5_multiply_59 : decode cX5_multiply 59 = .ok (.iload 4, 2) := by decide +kernel
theorem dX5_multiply_61 : decode cX5_multiply 61 = .ok (.ifCond .le 53, 3) := by decide +kernel
theorem dX5_multiply_64 : decode cX5_multiply 64 = .ok (.aload_n 0, 1) := by decide +kernel
theorem dX5_multiply_65 : decode cX5_multiply 65 = .ok (.aload_n 2, 1) := by decide +kernel
theorem dX5_multiply_66 : decode cX5_multiply 66 = .ok (.aload_n 3, 1) := by decide +kernel
theorem dX5_multiply_67 : decode cX5_multiply 67 = .ok (.invokevirtual 94, 3) := by decide +kernel
theorem dX5_multiply_70 : decode cX5_multiply 70 = .ok (.istore 5, 2) := by decide +kernel
theorem dX5_multiply_72 : decode cX5_multiply 72 = .ok (.iload 5, 2) := by decide +kernel
theorem dX5_multiply_74 : decode cX5_multiply 74 = .ok (.ifCond .ge 5, 3) := by decide +kernel
theorem dX5_multiply_77 : decode cX5_multiply 77 = .ok (.iconst 0, 1) := by decide +kernel
theorem dX5_multiply_78 : decode cX5_multiply 78 = .ok (.ireturn, 1) := by decide +kernel
theorem dX5_multiply_79 : decode cX5_multiply 79 = .ok (.aload_n 0, 1) := by decide +kernel
theorem dX5_multiply_80 : decode cX5_multiply 80 = .ok (.aload_n 2, 1) := by decide +kernel
theorem dX5_multiply_81 : decode cX5_multiply 81 = .ok (.aload_n 3, 1) := by decide +kernel
theorem dX5_multiply_82 : decode cX5_multiply 82 = .ok (.iload 5, 2) := by decide +kernel
theorem dX5_multiply_84 : decode cX5_multiply 84 = .ok (.invokevirtual 98, 3) := by decide +kernel
theorem dX5_multiply_87 : decode cX5_multiply 87 = .ok (.istore 6, 2) := by decide +kernel
theorem dX5_multiply_89 : decode cX5_multiply 89 = .ok (.iload 6, 2) := by decide +kernel
theorem dX5_multiply_91 : decode cX5_multiply 91 = .ok (.ifCond .eq 17, 3) := by decide +kernel
theorem dX5_multiply_94 : decode cX5_multiply 94 = .ok (.aload_n 1, 1) := by decide +kernel
theorem dX5_multiply_95 : decode cX5_multiply 95 = .ok (.iload 6, 2) := by decide +kernel
theorem dX5_multiply_97 : decode cX5_multiply 97 = .ok (.iload 5, 2) := by decide +kernel
theorem dX5_multiply_99 : decode cX5_multiply 99 = .ok (.invokevirtual 79, 3) := by decide +kernel
theorem dX5_multiply_102 : decode cX5_multiply 102 = .ok (.ifCond .ne 6, 3) := by decide +kernel
theorem dX5_multiply_105 : decode cX5_multiply 105 = .ok (.bipush (-6), 2) := by decide +kernel
theorem dX5_multiply_107 : decode cX5_multiply 107 = .ok (.ireturn, 1) := by decide +kernel
theorem dX5_multiply_108 : decode cX5_multiply 108 = .ok (.iinc 4 (-1), 3) := by decide +kernel
theorem dX5_multiply_111 : decode cX5_multiply 111 = .ok (.goto (-52), 3) := by decide +kernel
theorem dX5_multiply_114 : decode cX5_multiply 114 = .ok (.iconst 0, 1) := by decide +kernel
theorem dX5_multiply_115 : decode cX5_multiply 115 = .ok (.ireturn, 1) := by decide +kernel
theorem dX5_greatestToMeet_0 : decode cX5_greatestToMeet 0 = .ok (.iconst (-1), 1) := by decide +kernel
theorem dX5_greatestToMeet_1 : decode cX5_greatestToMeet 1 = .ok (.istore_n 3, 1) := by decide +kernel
theorem dX5_greatestToMeet_2 : decode cX5_greatestToMeet 2 = .ok (.iconst 0, 1) := by decide +kernel
theorem dX5_greatestToMeet_3 : decode cX5_greatestToMeet 3 = .ok (.istore 4, 2) := by decide +kernel
theorem dX5_greatestToMeet_5 : decode cX5_greatestToMeet 5 = .ok (.iload 4, 2) := by decide +kernel
theorem dX5_greatestToMeet_7 : decode cX5_greatestToMeet 7 = .ok (.aload_n 1, 1) := by decide +kernel
theorem dX5_greatestToMeet_8 : decode cX5_greatestToMeet 8 = .ok (.getfield 51, 3) := by decide +kernel
theorem dX5_greatestToMeet_11 : decode cX5_greatestToMeet 11 = .ok (.if_icmp .ge 66, 3) := by decide +kernel
theorem dX5_greatestToMeet_14 : decode cX5_greatestToMeet 14 = .ok (.aload_n 0, 1) := by decide +kernel
theorem dX5_greatestToMeet_15 : decode cX5_greatestToMeet 15 = .ok (.getfield 19, 3) := by decide +kernel
theorem dX5_greatestToMeet_18 : decode cX5_greatestToMeet 18 = .ok (.iload 4, 2) := by decide +kernel
theorem dX5_greatestToMeet_20 : decode cX5_greatestToMeet 20 = .ok (.iaload, 1) := by decide +kernel
theorem dX5_greatestToMeet_21 : decode cX5_greatestToMeet 21 = .ok (.aload_n 2, 1) := by decide +kernel
theorem dX5_greatestToMeet_22 : decode cX5_greatestToMeet 22 = .ok (.getfield 51, 3) := by decide +kernel
theorem dX5_greatestToMeet_25 : decode cX5_greatestToMeet 25 = .ok (.if_icmp .ge 46, 3) := by decide +kernel
theorem dX5_greatestToMeet_28 : decode cX5_greatestToMeet 28 = .ok (.aload_n 1, 1) := by decide +kernel
theorem dX5_greatestToMeet_29 : decode cX5_greatestToMeet 29 = .ok (.getfield 57, 3) := by decide +kernel
theorem dX5_greatestToMeet_32 : decode cX5_greatestToMeet 32 = .ok (.iload 4, 2) := by decide +kernel
theorem dX5_greatestToMeet_34 : decode cX5_greatestToMeet 34 = .ok (.iaload, 1) := by decide +kernel
theorem dX5_greatestToMeet_35 : decode cX5_greatestToMeet 35 = .ok (.aload_n 2, 1) := by decide +kernel
theorem dX5_greatestToMeet_36 : decode cX5_greatestToMeet 36 = .ok (.getfield 57, 3) := by decide +kernel
theorem dX5_greatestToMeet_39 : decode cX5_greatestToMeet 39 = .ok (.aload_n 0, 1) := by decide +kernel
theorem dX5_greatestToMeet_40 : decode cX5_greatestToMeet 40 = .ok (.getfield 19, 3) := by decide +kernel
theorem dX5_greatestToMeet_43 : decode cX5_greatestToMeet 43 = .ok (.iload 4, 2) := by decide +kernel
theorem dX5_greatestToMeet_45 : decode cX5_greatestToMeet 45 = .ok (.iaload, 1) := by decide +kernel
theorem dX5_greatestToMeet_46 : decode cX5_greatestToMeet 46 = .ok (.iaload, 1) := by decide +kernel
theorem dX5_greatestToMeet_47 : decode cX5_greatestToMeet 47 = .ok (.iadd, 1) := by decide +kernel
theorem dX5_greatestToMeet_48 : decode cX5_greatestToMeet 48 = .ok (.istore 5, 2) := by decide +kernel
theorem dX5_greatestToMeet_50 : decode cX5_greatestToMeet 50 = .ok (.iload_n 3, 1) := by decide +kernel
theorem dX5_greatestToMeet_51 : decode cX5_greatestToMeet 51 = .ok (.ifCond .lt 17, 3) := by decide +kernel
theorem dX5_greatestToMeet_54 : decode cX5_greatestToMeet 54 = .ok (.aload_n 0, 1) := by decide +kernel
theorem dX5_greatestToMeet_55 : decode cX5_greatestToMeet 55 = .ok (.iload 5, 2) := by decide +kernel
theorem dX5_greatestToMeet_57 : decode cX5_greatestToMeet 57 = .ok (.invokevirtual 60, 3) := by decide +kernel
theorem dX5_greatestToMeet_60 : decode cX5_greatestToMeet 60 = .ok (.aload_n 0, 1) := by decide +kernel
theorem dX5_greatestToMeet_61 : decode cX5_greatestToMeet 61 = .ok (.iload_n 3, 1) := by decide +kernel
theorem dX5_greatestToMeet_62 : decode cX5_greatestToMeet 62 = .ok (.invokevirtual 60, 3) := by decide +kernel
theorem dX5_greatestToMeet_65 : decode cX5_greatestToMeet 65 = .ok (.if_icmp .le 6, 3) := by decide +kernel
theorem dX5_greatestToMeet_68 : decode cX5_greatestToMeet 68 = .ok (.iload 5, 2) := by decide +kernel
theorem dX5_greatestToMeet_70 : decode cX5_greatestToMeet 70 = .ok (.istore_n 3, 1) := by decide +kernel
theorem dX5_greatestToMeet_71 : decode cX5_greatestToMeet 71 = .ok (.iinc 4 1, 3) := by decide +kernel
theorem dX5_greatestToMeet_74 : decode cX5_greatestToMeet 74 = .ok (.goto (-69), 3) := by decide +kernel
theorem dX5_greatestToMeet_77 : decode cX5_greatestToMeet 77 = .ok (.iload_n 3, 1) := by decide +kernel
theorem dX5_greatestToMeet_78 : decode cX5_greatestToMeet 78 = .ok (.ireturn, 1) := by decide +kernel
theorem dX5_takeProducts_0 : decode cX5_takeProducts 0 = .ok (.iconst 0, 1) := by decide +kernel
theorem dX5_takeProducts_1 : decode cX5_takeProducts 1 = .ok (.istore 4, 2) := by decide +kernel
theorem dX5_takeProducts_3 : decode cX5_takeProducts 3 = .ok (.iconst 0, 1) := by decide +kernel
theorem dX5_takeProducts_4 : decode cX5_takeProducts 4 = .ok (.istore 5, 2) := by decide +kernel
theorem dX5_takeProducts_6 : decode cX5_takeProducts 6 = .ok (.iload 5, 2) := by decide +kernel
theorem dX5_takeProducts_8 : decode cX5_takeProducts 8 = .ok (.aload_n 1, 1) := by decide +kernel
theorem dX5_takeProducts_9 : decode cX5_takeProducts 9 = .ok (.getfield 51, 3) := by decide +kernel
theorem dX5_takeProducts_12 : decode cX5_takeProducts 12 = .ok (.if_icmp .ge 81, 3) := by decide +kernel
theorem dX5_takeProducts_15 : decode cX5_takeProducts 15 = .ok (.aload_n 0, 1) := by decide +kernel
theorem dX5_takeProducts_16 : decode cX5_takeProducts 16 = .ok (.getfield 19, 3) := by decide +kernel
theorem dX5_takeProducts_19 : decode cX5_takeProducts 19 = .ok (.iload 5, 2) := by decide +kernel
theorem dX5_takeProducts_21 : decode cX5_takeProducts 21 = .ok (.iaload, 1) := by decide +kernel
theorem dX5_takeProducts_22 : decode cX5_takeProducts 22 = .ok (.istore 6, 2) := by decide +kernel
theorem dX5_takeProducts_24 : decode cX5_takeProducts 24 = .ok (.iload 6, 2) := by decide +kernel
theorem dX5_takeProducts_26 : decode cX5_takeProducts 26 = .ok (.aload_n 2, 1) := by decide +kernel
theorem dX5_takeProducts_27 : decode cX5_takeProducts 27 = .ok (.getfield 51, 3) := by decide +kernel
theorem dX5_takeProducts_30 : decode cX5_takeProducts 30 = .ok (.if_icmp .ge 57, 3) := by decide +kernel
theorem dX5_takeProducts_33 : decode cX5_takeProducts 33 = .ok (.aload_n 1, 1) := by decide +kernel
theorem dX5_takeProducts_34 : decode cX5_takeProducts 34 = .ok (.getfield 57, 3) := by decide +kernel
theorem dX5_takeProducts_37 : decode cX5_takeProducts 37 = .ok (.iload 5, 2) := by decide +kernel
theorem dX5_takeProducts_39 : decode cX5_takeProducts 39 = .ok (.iaload, 1) := by decide +kernel
theorem dX5_takeProducts_40 : decode cX5_takeProducts 40 = .ok (.aload_n 2, 1) := by decide +kernel
theorem dX5_takeProducts_41 : decode cX5_takeProducts 41 = .ok (.getfield 57, 3) := by decide +kernel
theorem dX5_takeProducts_44 : decode cX5_takeProducts 44 = .ok (.iload 6, 2) := by decide +kernel
theorem dX5_takeProducts_46 : decode cX5_takeProducts 46 = .ok (.iaload, 1) := by decide +kernel
theorem dX5_takeProducts_47 : decode cX5_takeProducts 47 = .ok (.iadd, 1) := by decide +kernel
theorem dX5_takeProducts_48 : decode cX5_takeProducts 48 = .ok (.iload_n 3, 1) := by decide +kernel
theorem dX5_takeProducts_49 : decode cX5_takeProducts 49 = .ok (.if_icmp .ne 38, 3) := by decide +kernel
theorem dX5_takeProducts_52 : decode cX5_takeProducts 52 = .ok (.aload_n 0, 1) := by decide +kernel
theorem dX5_takeProducts_53 : decode cX5_takeProducts 53 = .ok (.iload 4, 2) := by decide +kernel
theorem dX5_takeProducts_55 : decode cX5_takeProducts 55 = .ok (.aload_n 1, 1) := by decide +kernel
theorem dX5_takeProducts_56 : decode cX5_takeProducts 56 = .ok (.getfield 54, 3) := by decide +kernel
theorem dX5_takeProducts_59 : decode cX5_takeProducts 59 = .ok (.iload 5, 2) := by decide +kernel
theorem dX5_takeProducts_61 : decode cX5_takeProducts 61 = .ok (.iaload, 1) := by decide +kernel
theorem dX5_takeProducts_62 : decode cX5_takeProducts 62 = .ok (.aload_n 2, 1) := by decide +kernel
theorem dX5_takeProducts_63 : decode cX5_takeProducts 63 = .ok (.getfield 54, 3) := by decide +kernel
theorem dX5_takeProducts_66 : decode cX5_takeProducts 66 = .ok (.iload 6, 2) := by decide +kernel
theorem dX5_takeProducts_68 : decode cX5_takeProducts 68 = .ok (.iaload, 1) := by decide +kernel
theorem dX5_takeProducts_69 : decode cX5_takeProducts 69 = .ok (.imul, 1) := by decide +kernel
theorem dX5_takeProducts_70 : decode cX5_takeProducts 70 = .ok (.iadd, 1) := by decide +kernel
theorem dX5_takeProducts_71 : decode cX5_takeProducts 71 = .ok (.invokevirtual 76, 3) := by decide +kernel
theorem dX5_takeProducts_74 : decode cX5_takeProducts 74 = .ok (.istore 4, 2) := by decide +kernel
theorem dX5_takeProducts_76 : decode cX5_takeProducts 76 = .ok (.aload_n 0, 1) := by decide +kernel
theorem dX5_takeProducts_77 : decode cX5_takeProducts 77 = .ok (.getfield 19, 3) := by decide +kernel
theorem dX5_takeProducts_80 : decode cX5_takeProducts 80 = .ok (.iload 5, 2) := by decide +kernel
theorem dX5_takeProducts_82 : decode cX5_takeProducts 82 = .ok (.dup2, 1) := by decide +kernel
theorem dX5_takeProducts_83 : decode cX5_takeProducts 83 = .ok (.iaload, 1) := by decide +kernel
theorem dX5_takeProducts_84 : decode cX5_takeProducts 84 = .ok (.iconst 1, 1) := by decide +kernel
theorem dX5_takeProducts_85 : decode cX5_takeProducts 85 = .ok (.iadd, 1) := by decide +kernel
theorem dX5_takeProducts_86 : decode cX5_takeProducts 86 = .ok (.iastore, 1) := by decide +kernel
theorem dX5_takeProducts_87 : decode cX5_takeProducts 87 = .ok (.iinc 5 1, 3) := by decide +kernel
theorem dX5_takeProducts_90 : decode cX5_takeProducts 90 = .ok (.goto (-84), 3) := by decide +kernel
theorem dX5_takeProducts_93 : decode cX5_takeProducts 93 = .ok (.iload 4, 2) := by decide +kernel
theorem dX5_takeProducts_95 : decode cX5_takeProducts 95 = .ok (.ireturn, 1) := by decide +kernel
theorem dX5_derive_0 : decode cX5_derive 0 = .ok (.aload_n 1, 1) := by decide +kernel
theorem dX5_derive_1 : decode cX5_derive 1 = .ok (.iconst 0, 1) := by decide +kernel
theorem dX5_derive_2 : decode cX5_derive 2 = .ok (.putfield 51, 3) := by decide +kernel
theorem dX5_derive_5 : decode cX5_derive 5 = .ok (.iconst 0, 1) := by decide +kernel
theorem dX5_derive_6 : decode cX5_derive 6 = .ok (.istore 4, 2) := by decide +kernel
theorem dX5_derive_8 : decode cX5_derive 8 = .ok (.iload 4, 2) := by decide +kernel
theorem dX5_derive_10 : decode cX5_derive 10 = .ok (.aload_n 2, 1) := by decide +kernel
theorem dX5_derive_11 : decode cX5_derive 11 = .ok (.getfield 51, 3) := by decide +kernel
theorem dX5_derive_14 : decode cX5_derive 14 = .ok (.if_icmp .ge 62, 3) := by decide +kernel
theorem dX5_derive_17 : decode cX5_derive 17 = .ok (.aload_n 2, 1) := by decide +kernel
theorem dX5_derive_18 : decode cX5_derive 18 = .ok (.getfield 57, 3) := by decide +kernel
theorem dX5_derive_21 : decode cX5_derive 21 = .ok (.iload 4, 2) := by decide +kernel
theorem dX5_derive_23 : decode cX5_derive 23 = .ok (.iaload, 1) := by decide +kernel
theorem dX5_derive_24 : decode cX5_derive 24 = .ok (.iload_n 3, 1) := by decide +kernel
theorem dX5_derive_25 : decode cX5_derive 25 = .ok (.invokestatic 102, 3) := by decide +kernel
theorem dX5_derive_28 : decode cX5_derive 28 = .ok (.istore 5, 2) := by decide +kernel
theorem dX5_derive_30 : decode cX5_derive 30 = .ok (.aload_n 0, 1) := by decide +kernel
theorem dX5_derive_31 : decode cX5_derive 31 = .ok (.aload_n 2, 1) := by decide +kernel
theorem dX5_derive_32 : decode cX5_derive 32 = .ok (.getfield 54, 3) := by decide +kernel
theorem dX5_derive_35 : decode cX5_derive 35 = .ok (.iload 4, 2) := by decide +kernel
theorem dX5_derive_37 : decode cX5_derive 37 = .ok (.iaload, 1) := by decide +kernel
theorem dX5_derive_38 : decode cX5_derive 38 = .ok (.iload 5, 2) := by decide +kernel
theorem dX5_derive_40 : decode cX5_derive 40 = .ok (.imul, 1) := by decide +kernel
theorem dX5_derive_41 : decode cX5_derive 41 = .ok (.invokevirtual 76, 3) := by decide +kernel
theorem dX5_derive_44 : decode cX5_derive 44 = .ok (.istore 6, 2) := by decide +kernel
theorem dX5_derive_46 : decode cX5_derive 46 = .ok (.iload 6, 2) := by decide +kernel
theorem dX5_derive_48 : decode cX5_derive 48 = .ok (.ifCond .eq 22, 3) := by decide +kernel
theorem dX5_derive_51 : decode cX5_derive 51 = .ok (.aload_n 1, 1) := by decide +kernel
theorem dX5_derive_52 : decode cX5_derive 52 = .ok (.iload 6, 2) := by decide +kernel
theorem dX5_derive_54 : decode cX5_derive 54 = .ok (.aload_n 2, 1) := by decide +kernel
theorem dX5_derive_55 : decode cX5_derive 55 = .ok (.getfield 57, 3) := by decide +kernel
theorem dX5_derive_58 : decode cX5_derive 58 = .ok (.iload 4, 2) := by decide +kernel
theorem dX5_derive_60 : decode cX5_derive 60 = .ok (.iaload, 1) := by decide +kernel
theorem dX5_derive_61 : decode cX5_derive 61 = .ok (.iload_n 3, 1) := by decide +kernel
theorem dX5_derive_62 : decode cX5_derive 62 = .ok (.invokestatic 105, 3) := by decide +kernel
theorem dX5_derive_65 : decode cX5_derive 65 = .ok (.isub, 1) := by decide +kernel
theorem dX5_derive_66 : decode cX5_derive 66 = .ok (.invokevirtual 79, 3) := by decide +kernel
theorem dX5_derive_69 : decode cX5_derive 69 = .ok (.pop, 1) := by decide +kernel
theorem dX5_derive_70 : decode cX5_derive 70 = .ok (.iinc 4 1, 3) := by decide +kernel
theorem dX5_derive_73 : decode cX5_derive 73 = .ok (.goto (-65), 3) := by decide +kernel
theorem dX5_derive_76 : decode cX5_derive 76 = .ok (.iconst 0, 1) := by decide +kernel
theorem dX5_derive_77 : decode cX5_derive 77 = .ok (.ireturn, 1) := by decide +kernel
theorem dX5_makeS_0 : decode cX5_makeS 0 = .ok (.aload_n 2, 1) := by decide +kernel
theorem dX5_makeS_1 : decode cX5_makeS 1 = .ok (.invokevirtual 108, 3) := by decide +kernel
theorem dX5_makeS_4 : decode cX5_makeS 4 = .ok (.aload_n 3, 1) := by decide +kernel
theorem dX5_makeS_5 : decode cX5_makeS 5 = .ok (.invokevirtual 108, 3) := by decide +kernel
theorem dX5_makeS_8 : decode cX5_makeS 8 = .ok (.invokestatic 112, 3) := by decide +kernel
theorem dX5_makeS_11 : decode cX5_makeS 11 = .ok (.istore 4, 2) := by decide +kernel
theorem dX5_makeS_13 : decode cX5_makeS 13 = .ok (.aload_n 0, 1) := by decide +kernel
theorem dX5_makeS_14 : decode cX5_makeS 14 = .ok (.aload_n 0, 1) := by decide +kernel
theorem dX5_makeS_15 : decode cX5_makeS 15 = .ok (.getfield 29, 3) := by decide +kernel
theorem dX5_makeS_18 : decode cX5_makeS 18 = .ok (.aload_n 0, 1) := by decide +kernel
theorem dX5_makeS_19 : decode cX5_makeS 19 = .ok (.getfield 25, 3) := by decide +kernel
theorem dX5_makeS_22 : decode cX5_makeS 22 = .ok (.aload_n 2, 1) := by decide +kernel
theorem dX5_makeS_23 : decode cX5_makeS 23 = .ok (.aload_n 0, 1) := by decide +kernel
theorem dX5_makeS_24 : decode cX5_makeS 24 = .ok (.aload_n 2, 1) := by decide +kernel
theorem dX5_makeS_25 : decode cX5_makeS 25 = .ok (.getfield 54, 3) := by decide +kernel
theorem dX5_makeS_28 : decode cX5_makeS 28 = .ok (.iconst 0, 1) := by decide +kernel
theorem dX5_makeS_29 : decode cX5_makeS 29 = .ok (.iaload, 1) := by decide +kernel
theorem dX5_makeS_30 : decode cX5_makeS 30 = .ok (.invokevirtual 115, 3) := by decide +kernel
theorem dX5_makeS_33 : decode cX5_makeS 33 = .ok (.iload 4, 2) := by decide +kernel
theorem dX5_makeS_35 : decode cX5_makeS 35 = .ok (.aload_n 2, 1) := by decide +kernel
theorem dX5_makeS_36 : decode cX5_makeS 36 = .ok (.invokevirtual 108, 3) := by decide +kernel
theorem dX5_makeS_39 : decode cX5_makeS 39 = .ok (.isub, 1) := by decide +kernel
theorem dX5_makeS_40 : decode cX5_makeS 40 = .ok (.invokevirtual 118, 3) := by decide +kernel
theorem dX5_makeS_43 : decode cX5_makeS 43 = .ok (.istore 5, 2) := by decide +kernel
theorem dX5_makeS_45 : decode cX5_makeS 45 = .ok (.iload 5, 2) := by decide +kernel
theorem dX5_makeS_47 : decode cX5_makeS 47 = .ok (.ifCond .eq 6, 3) := by decide +kernel
theorem dX5_makeS_50 : decode cX5_makeS 50 = .ok (.iload 5, 2) := by decide +kernel
theorem dX5_makeS_52 : decode cX5_makeS 52 = .ok (.ireturn, 1) := by decide +kernel
theorem dX5_makeS_53 : decode cX5_makeS 53 = .ok (.aload_n 0, 1) := by decide +kernel
theorem dX5_makeS_54 : decode cX5_makeS 54 = .ok (.aload_n 1, 1) := by decide +kernel
theorem dX5_makeS_55 : decode cX5_makeS 55 = .ok (.aload_n 0, 1) := by decide +kernel
theorem dX5_makeS_56 : decode cX5_makeS 56 = .ok (.getfield 29, 3) := by decide +kernel
theorem dX5_makeS_59 : decode cX5_makeS 59 = .ok (.aload_n 3, 1) := by decide +kernel
theorem dX5_makeS_60 : decode cX5_makeS 60 = .ok (.aload_n 0, 1) := by decide +kernel
theorem dX5_makeS_61 : decode cX5_makeS 61 = .ok (.getfield 32, 3) := by decide +kernel
theorem dX5_makeS_64 : decode cX5_makeS 64 = .ok (.aload_n 0, 1) := by decide +kernel
theorem dX5_makeS_65 : decode cX5_makeS 65 = .ok (.aload_n 3, 1) := by decide +kernel
theorem dX5_makeS_66 : decode cX5_makeS 66 = .ok (.getfield 54, 3) := by decide +kernel
theorem dX5_makeS_69 : decode cX5_makeS 69 = .ok (.iconst 0, 1) := by decide +kernel
theorem dX5_makeS_70 : decode cX5_makeS 70 = .ok (.iaload, 1) := by decide +kernel
theorem dX5_makeS_71 : decode cX5_makeS 71 = .ok (.invokevirtual 115, 3) := by decide +kernel
theorem dX5_makeS_74 : decode cX5_makeS 74 = .ok (.isub, 1) := by decide +kernel
theorem dX5_makeS_75 : decode cX5_makeS 75 = .ok (.iload 4, 2) := by decide +kernel
theorem dX5_makeS_77 : decode cX5_makeS 77 = .ok (.aload_n 3, 1) := by decide +kernel
theorem dX5_makeS_78 : decode cX5_makeS 78 = .ok (.invokevirtual 108, 3) := by decide +kernel
theorem dX5_makeS_81 : decode cX5_makeS 81 = .ok (.isub, 1) := by decide +kernel
theorem dX5_makeS_82 : decode cX5_makeS 82 = .ok (.invokevirtual 118, 3) := by decide +kernel
theorem dX5_makeS_85 : decode cX5_makeS 85 = .ok (.ireturn, 1) := by decide +kernel
theorem dX5_makeMonic_0 : decode cX5_makeMonic 0 = .ok (.aload_n 1, 1) := by decide +kernel
theorem dX5_makeMonic_1 : decode cX5_makeMonic 1 = .ok (.getfield 51, 3) := by decide +kernel
theorem dX5_makeMonic_4 : decode cX5_makeMonic 4 = .ok (.ifCond .eq 13, 3) := by decide +kernel
theorem dX5_makeMonic_7 : decode cX5_makeMonic 7 = .ok (.aload_n 1, 1) := by decide +kernel
theorem dX5_makeMonic_8 : decode cX5_makeMonic 8 = .ok (.getfield 54, 3) := by decide +kernel
theorem dX5_makeMonic_11 : decode cX5_makeMonic 11 = .ok (.iconst 0, 1) := by decide +kernel
theorem dX5_makeMonic_12 : decode cX5_makeMonic 12 = .ok (.iaload, 1) := by decide +kernel
theorem dX5_makeMonic_13 : decode cX5_makeMonic 13 = .ok (.iconst 1, 1) := by decide +kernel
theorem dX5_makeMonic_14 : decode cX5_makeMonic 14 = .ok (.if_icmp .ne 4, 3) := by decide +kernel
theorem dX5_makeMonic_17 : decode cX5_makeMonic 17 = .ok (.return_, 1) := by decide +kernel
theorem dX5_makeMonic_18 : decode cX5_makeMonic 18 = .ok (.aload_n 0, 1) := by decide +kernel
theorem dX5_makeMonic_19 : decode cX5_makeMonic 19 = .ok (.aload_n 1, 1) := by decide +kernel
theorem dX5_makeMonic_20 : decode cX5_makeMonic 20 = .ok (.getfield 54, 3) := by decide +kernel
theorem dX5_makeMonic_23 : decode cX5_makeMonic 23 = .ok (.iconst 0, 1) := by decide +kernel
theorem dX5_makeMonic_24 : decode cX5_makeMonic 24 = .ok (.iaload, 1) := by decide +kernel
theorem dX5_makeMonic_25 : decode cX5_makeMonic 25 = .ok (.invokevirtual 115, 3) := by decide +kernel
theorem dX5_makeMonic_28 : decode cX5_makeMonic 28 = .ok (.istore_n 2, 1) := by decide +kernel
theorem dX5_makeMonic_29 : decode cX5_makeMonic 29 = .ok (.iconst 0, 1) := by decide +kernel
theorem dX5_makeMonic_30 : decode cX5_makeMonic 30 = .ok (.istore_n 3, 1) := by decide +kernel
theorem dX5_makeMonic_31 : decode cX5_makeMonic 31 = .ok (.iload_n 3, 1) := by decide +kernel
theorem dX5_makeMonic_32 : decode cX5_makeMonic 32 = .ok (.aload_n 1, 1) := by decide +kernel
theorem dX5_makeMonic_33 : decode cX5_makeMonic 33 = .ok (.getfield 51, 3) := by decide +kernel
theorem dX5_makeMonic_36 : decode cX5_makeMonic 36 = .ok (.if_icmp .ge 27, 3) := by decide +kernel
theorem dX5_makeMonic_39 : decode cX5_makeMonic 39 = .ok (.aload_n 1, 1) := by decide +kernel
theorem dX5_makeMonic_40 : decode cX5_makeMonic 40 = .ok (.getfield 54, 3) := by decide +kernel
theorem dX5_makeMonic_43 : decode cX5_makeMonic 43 = .ok (.iload_n 3, 1) := by decide +kernel
theorem dX5_makeMonic_44 : decode cX5_makeMonic 44 = .ok (.aload_n 0, 1) := by decide +kernel
theorem dX5_makeMonic_45 : decode cX5_makeMonic 45 = .ok (.aload_n 1, 1) := by decide +kernel
theorem dX5_makeMonic_46 : decode cX5_makeMonic 46 = .ok (.getfield 54, 3) := by decide +kernel
theorem dX5_makeMonic_49 : decode cX5_makeMonic 49 = .ok (.iload_n 3, 1) := by decide +kernel
theorem dX5_makeMonic_50 : decode cX5_makeMonic 50 = .ok (.iaload, 1) := by decide +kernel
theorem dX5_makeMonic_51 : decode cX5_makeMonic 51 = .ok (.iload_n 2, 1) := by decide +kernel
theorem dX5_makeMonic_52 : decode cX5_makeMonic 52 = .ok (.imul, 1) := by decide +kernel
theorem dX5_makeMonic_53 : decode cX5_makeMonic 53 = .ok (.invokevirtual 76, 3) := by decide +kernel
theorem dX5_makeMonic_56 : decode cX5_makeMonic 56 = .ok (.iastore, 1) := by decide +kernel
theorem dX5_makeMonic_57 : decode cX5_makeMonic 57 = .ok (.iinc 3 1, 3) := by decide +kernel
theorem dX5_makeMonic_60 : decode cX5_makeMonic 60 = .ok (.goto (-29), 3) := by decide +kernel
theorem dX5_makeMonic_63 : decode cX5_makeMonic 63 = .ok (.return_, 1) := by decide +kernel
theorem dX5_setPoint_0 : decode cX5_setPoint 0 = .ok (.aload_n 0, 1) := by decide +kernel
theorem dX5_setPoint_1 : decode cX5_setPoint 1 = .ok (.getfield 15, 3) := by decide +kernel
theorem dX5_setPoint_4 : decode cX5_setPoint 4 = .ok (.iload_n 1, 1) := by decide +kernel
theorem dX5_setPoint_5 : decode cX5_setPoint 5 = .ok (.aload_n 0, 1) := by decide +kernel
theorem dX5_setPoint_6 : decode cX5_setPoint 6 = .ok (.iload_n 2, 1) := by decide +kernel
theorem dX5_setPoint_7 : decode cX5_setPoint 7 = .ok (.invokevirtual 76, 3) := by decide +kernel
theorem dX5_setPoint_10 : decode cX5_setPoint 10 = .ok (.iastore, 1) := by decide +kernel
theorem dX5_setPoint_11 : decode cX5_setPoint 11 = .ok (.return_, 1) := by decide +kernel
theorem dX5_setPointNumber_0 : decode cX5_setPointNumber 0 = .ok (.iload_n 1, 1) := by decide +kernel
theorem dX5_setPointNumber_1 : decode cX5_setPointNumber 1 = .ok (.istore_n 2, 1) := by decide +kernel
theorem dX5_setPointNumber_2 : decode cX5_setPointNumber 2 = .ok (.iconst 0, 1) := by decide +kernel
theorem dX5_setPointNumber_3 : decode cX5_setPointNumber 3 = .ok (.istore_n 3, 1) := by decide +kernel
theorem dX5_setPointNumber_4 : decode cX5_setPointNumber 4 = .ok (.iload_n 3, 1) := by decide +kernel
theorem dX5_setPointNumber_5 : decode cX5_setPointNumber 5 = .ok (.aload_n 0, 1) := by decide +kernel
theorem dX5_setPointNumber_6 : decode cX5_setPointNumber 6 = .ok (.getfield 35, 3) := by decide +kernel
theorem dX5_setPointNumber_9 : decode cX5_setPointNumber 9 = .ok (.if_icmp .ge 27, 3) := by decide +kernel
theorem dX5_setPointNumber_12 : decode cX5_setPointNumber 12 = .ok (.aload_n 0, 1) := by decide +kernel
theorem dX5_setPointNumber_13 : decode cX5_setPointNumber 13 = .ok (.iload_n 3, 1) := by decide +kernel
theorem dX5_setPointNumber_14 : decode cX5_setPointNumber 14 = .ok (.iload_n 2, 1) := by decide +kernel
theorem dX5_setPointNumber_15 : decode cX5_setPointNumber 15 = .ok (.aload_n 0, 1) := by decide +kernel
theorem dX5_setPointNumber_16 : decode cX5_setPointNumber 16 = .ok (.getfield 32, 3) := by decide +kernel
theorem dX5_setPointNumber_19 : decode cX5_setPointNumber 19 = .ok (.irem, 1) := by decide +kernel
theorem dX5_setPointNumber_20 : decode cX5_setPointNumber 20 = .ok (.invokevirtual 122, 3) := by decide +kernel
theorem dX5_setPointNumber_23 : decode cX5_setPointNumber 23 = .ok (.iload_n 2, 1) := by decide +kernel
theorem dX5_setPointNumber_24 : decode cX5_setPointNumber 24 = .ok (.aload_n 0, 1) := by decide +kernel
theorem dX5_setPointNumber_25 : decode cX5_setPointNumber 25 = .ok (.getfield 32, 3) := by decide +kernel
theorem dX5_setPointNumber_28 : decode cX5_setPointNumber 28 = .ok (.idiv, 1) := by decide +kernel
theorem dX5_setPointNumber_29 : decode cX5_setPointNumber 29 = .ok (.istore_n 2, 1) := by decide +kernel
theorem dX5_setPointNumber_30 : decode cX5_setPointNumber 30 = .ok (.iinc 3 1, 3) := by decide +kernel
theorem dX5_setPointNumber_33 : decode cX5_setPointNumber 33 = .ok (.goto (-29), 3) := by decide +kernel
theorem dX5_setPointNumber_36 : decode cX5_setPointNumber 36 = .ok (.return_, 1) := by decide +kernel
theorem dX5_pointsUpTo_0 : decode cX5_pointsUpTo 0 = .ok (.iconst 1, 1) := by decide +kernel
theorem dX5_pointsUpTo_1 : decode cX5_pointsUpTo 1 = .ok (.istore_n 2, 1) := by decide +kernel
theorem dX5_pointsUpTo_2 : decode cX5_pointsUpTo 2 = .ok (.iconst 0, 1) := by decide +kernel
theorem dX5_pointsUpTo_3 : decode cX5_pointsUpTo 3 = .ok (.istore_n 3, 1) := by decide +kernel
theorem dX5_pointsUpTo_4 : decode cX5_pointsUpTo 4 = .ok (.iload_n 3, 1) := by decide +kernel
theorem dX5_pointsUpTo_5 : decode cX5_pointsUpTo 5 = .ok (.aload_n 0, 1) := by decide +kernel
theorem dX5_pointsUpTo_6 : decode cX5_pointsUpTo 6 = .ok (.getfield 35, 3) := by decide +kernel
theorem dX5_pointsUpTo_9 : decode cX5_pointsUpTo 9 = .ok (.if_icmp .ge 21, 3) := by decide +kernel
theorem dX5_pointsUpTo_12 : decode cX5_pointsUpTo 12 = .ok (.iload_n 2, 1) := by decide +kernel
theorem dX5_pointsUpTo_13 : decode cX5_pointsUpTo 13 = .ok (.iload_n 1, 1) := by decide +kernel
theorem dX5_pointsUpTo_14 : decode cX5_pointsUpTo 14 = .ok (.if_icmp .gt 16, 3) := by decide +kernel
theorem dX5_pointsUpTo_17 : decode cX5_pointsUpTo 17 = .ok (.iload_n 2, 1) := by decide +kernel
theorem dX5_pointsUpTo_18 : decode cX5_pointsUpTo 18 = .ok (.aload_n 0, 1) := by decide +kernel
theorem dX5_pointsUpTo_19 : decode cX5_pointsUpTo 19 = .ok (.getfield 32, 3) := by decide +kernel
theorem dX5_pointsUpTo_22 : decode cX5_pointsUpTo 22 = .ok (.imul, 1) := by decide +kernel
theorem dX5_pointsUpTo_23 : decode cX5_pointsUpTo 23 = .ok (.istore_n 2, 1) := by decide +kernel
theorem dX5_pointsUpTo_24 : decode cX5_pointsUpTo 24 = .ok (.iinc 3 1, 3) := by decide +kernel
theorem dX5_pointsUpTo_27 : decode cX5_pointsUpTo 27 = .ok (.goto (-23), 3) := by decide +kernel
theorem dX5_pointsUpTo_30 : decode cX5_pointsUpTo 30 = .ok (.iload_n 2, 1) := by decide +kernel
theorem dX5_pointsUpTo_31 : decode cX5_pointsUpTo 31 = .ok (.ireturn, 1) := by decide +kernel
theorem dX5_valueAtPoint_0 : decode cX5_valueAtPoint 0 = .ok (.iconst 0, 1) := by decide +kernel
theorem dX5_valueAtPoint_1 : decode cX5_valueAtPoint 1 = .ok (.istore_n 2, 1) := by decide +kernel
theorem dX5_valueAtPoint_2 : decode cX5_valueAtPoint 2 = .ok (.iconst 0, 1) := by decide +kernel
theorem dX5_valueAtPoint_3 : decode cX5_valueAtPoint 3 = .ok (.istore_n 3, 1) := by decide +kernel
theorem dX5_valueAtPoint_4 : decode cX5_valueAtPoint 4 = .ok (.iload_n 3, 1) := by decide +kernel
theorem dX5_valueAtPoint_5 : decode cX5_valueAtPoint 5 = .ok (.aload_n 1, 1) := by decide +kernel
theorem dX5_valueAtPoint_6 : decode cX5_valueAtPoint 6 = .ok (.getfield 51, 3) := by decide +kernel
theorem dX5_valueAtPoint_9 : decode cX5_valueAtPoint 9 = .ok (.if_icmp .ge 75, 3) := by decide +kernel
theorem dX5_valueAtPoint_12 : decode cX5_valueAtPoint 12 = .ok (.aload_n 1, 1) := by decide +kernel
theorem dX5_valueAtPoint_13 : decode cX5_valueAtPoint 13 = .ok (.getfield 54, 3) := by decide +kernel
theorem dX5_valueAtPoint_16 : decode cX5_valueAtPoint 16 = .ok (.iload_n 3, 1) := by decide +kernel
theorem dX5_valueAtPoint_17 : decode cX5_valueAtPoint 17 = .ok (.iaload, 1) := by decide +kernel
theorem dX5_valueAtPoint_18 : decode cX5_valueAtPoint 18 = .ok (.istore 4, 2) := by decide +kernel
theorem dX5_valueAtPoint_20 : decode cX5_valueAtPoint 20 = .ok (.iconst 0, 1) := by decide +kernel
theorem dX5_valueAtPoint_21 : decode cX5_valueAtPoint 21 = .ok (.istore 5, 2) := by decide +kernel
theorem dX5_valueAtPoint_23 : decode cX5_valueAtPoint 23 = .ok (.iload 5, 2) := by decide +kernel
theorem dX5_valueAtPoint_25 : decode cX5_valueAtPoint 25 = .ok (.aload_n 0, 1) := by decide +kernel
theorem dX5_valueAtPoint_26 : decode cX5_valueAtPoint 26 = .ok (.getfield 35, 3) := by decide +kernel
theorem dX5_valueAtPoint_29 : decode cX5_valueAtPoint 29 = .ok (.if_icmp .ge 40, 3) := by decide +kernel
theorem dX5_valueAtPoint_32 : decode cX5_valueAtPoint 32 = .ok (.aload_n 0, 1) := by decide +kernel
theorem dX5_valueAtPoint_33 : decode cX5_valueAtPoint 33 = .ok (.iload 4, 2) := by decide +kernel
theorem dX5_valueAtPoint_35 : decode cX5_valueAtPoint 35 = .ok (.aload_n 0, 1) := by decide +kernel
theorem dX5_valueAtPoint_36 : decode cX5_valueAtPoint 36 = .ok (.aload_n 0, 1) := by decide +kernel
theorem dX5_valueAtPoint_37 : decode cX5_valueAtPoint 37 = .ok (.getfield 15, 3) := by decide +kernel
theorem dX5_valueAtPoint_40 : decode cX5_valueAtPoint 40 = .ok (.iload 5, 2) := by decide +kernel
theorem dX5_valueAtPoint_42 : decode cX5_valueAtPoint 42 = .ok (.iaload, 1) := by decide +kernel
theorem dX5_valueAtPoint_43 : decode cX5_valueAtPoint 43 = .ok (.aload_n 1, 1) := by decide +kernel
theorem dX5_valueAtPoint_44 : decode cX5_valueAtPoint 44 = .ok (.getfield 57, 3) := by decide +kernel
theorem dX5_valueAtPoint_47 : decode cX5_valueAtPoint 47 = .ok (.iload_n 3, 1) := by decide +kernel
theorem dX5_valueAtPoint_48 : decode cX5_valueAtPoint 48 = .ok (.iaload, 1) := by decide +kernel
theorem dX5_valueAtPoint_49 : decode cX5_valueAtPoint 49 = .ok (.iload 5, 2) := by decide +kernel
theorem dX5_valueAtPoint_51 : decode cX5_valueAtPoint 51 = .ok (.invokestatic 102, 3) := by decide +kernel
theorem dX5_valueAtPoint_54 : decode cX5_valueAtPoint 54 = .ok (.invokevirtual 48, 3) := by decide +kernel
theorem dX5_valueAtPoint_57 : decode cX5_valueAtPoint 57 = .ok (.imul, 1) := by decide +kernel
theorem dX5_valueAtPoint_58 : decode cX5_valueAtPoint 58 = .ok (.invokevirtual 76, 3) := by decide +kernel
theorem dX5_valueAtPoint_61 : decode cX5_valueAtPoint 61 = .ok (.istore 4, 2) := by decide +kernel
theorem dX5_valueAtPoint_63 : decode cX5_valueAtPoint 63 = .ok (.iinc 5 1, 3) := by decide +kernel
theorem dX5_valueAtPoint_66 : decode cX5_valueAtPoint 66 = .ok (.goto (-43), 3) := by decide +kernel
theorem dX5_valueAtPoint_69 : decode cX5_valueAtPoint 69 = .ok (.aload_n 0, 1) := by decide +kernel
theorem dX5_valueAtPoint_70 : decode cX5_valueAtPoint 70 = .ok (.iload_n 2, 1) := by decide +kernel
theorem dX5_valueAtPoint_71 : decode cX5_valueAtPoint 71 = .ok (.iload 4, 2) := by decide +kernel
theorem dX5_valueAtPoint_73 : decode cX5_valueAtPoint 73 = .ok (.iadd, 1) := by decide +kernel
theorem dX5_valueAtPoint_74 : decode cX5_valueAtPoint 74 = .ok (.invokevirtual 76, 3) := by decide +kernel
theorem dX5_valueAtPoint_77 : decode cX5_valueAtPoint 77 = .ok (.istore_n 2, 1) := by decide +kernel
theorem dX5_valueAtPoint_78 : decode cX5_valueAtPoint 78 = .ok (.iinc 3 1, 3) := by decide +kernel
theorem dX5_valueAtPoint_81 : decode cX5_valueAtPoint 81 = .ok (.goto (-77), 3) := by decide +kernel
theorem dX5_valueAtPoint_84 : decode cX5_valueAtPoint 84 = .ok (.iload_n 2, 1) := by decide +kernel
theorem dX5_valueAtPoint_85 : decode cX5_valueAtPoint 85 = .ok (.ireturn, 1) := by decide +kernel
theorem dX6_init_0 : decode cX6_init 0 = .ok (.aload_n 0, 1) := by decide +kernel
theorem dX6_init_1 : decode cX6_init 1 = .ok (.invokespecial 3, 3) := by decide +kernel
theorem dX6_init_4 : decode cX6_init 4 = .ok (.aload_n 0, 1) := by decide +kernel
theorem dX6_init_5 : decode cX6_init 5 = .ok (.bipush 24, 2) := by decide +kernel
theorem dX6_init_7 : decode cX6_init 7 = .ok (.anewarray 9, 3) := by decide +kernel
theorem dX6_init_10 : decode cX6_init 10 = .ok (.putfield 11, 3) := by decide +kernel
theorem dX6_init_13 : decode cX6_init 13 = .ok (.aload_n 0, 1) := by decide +kernel
theorem dX6_init_14 : decode cX6_init 14 = .ok (.bipush 24, 2) := by decide +kernel
theorem dX6_init_16 : decode cX6_init 16 = .ok (.newarray .boolean, 2) := by decide +kernel
theorem dX6_init_18 : decode cX6_init 18 = .ok (.putfield 17, 3) := by decide +kernel
theorem dX6_init_21 : decode cX6_init 21 = .ok (.iconst 0, 1) := by decide +kernel
theorem dX6_init_22 : decode cX6_init 22 = .ok (.istore_n 1, 1) := by decide +kernel
theorem dX6_init_23 : decode cX6_init 23 = .ok (.iload_n 1, 1) := by decide +kernel
theorem dX6_init_24 : decode cX6_init 24 = .ok (.bipush 24, 2) := by decide +kernel
theorem dX6_init_26 : decode cX6_init 26 = .ok (.if_icmp .ge 22, 3) := by decide +kernel
theorem dX6_init_29 : decode cX6_init 29 = .ok (.aload_n 0, 1) := by decide +kernel
theorem dX6_init_30 : decode cX6_init 30 = .ok (.getfield 11, 3) := by decide +kernel
theorem dX6_init_33 : decode cX6_init 33 = .ok (.iload_n 1, 1) := by decide +kernel
theorem dX6_init_34 : decode cX6_init 34 = .ok (.new 9, 3) := by decide +kernel
theorem dX6_init_37 : decode cX6_init 37 = .ok (.dup, 1) := by decide +kernel
theorem dX6_init_38 : decode cX6_init 38 = .ok (.invokespecial 21, 3) := by decide +kernel
theorem dX6_init_41 : decode cX6_init 41 = .ok (.aastore, 1) := by decide +kernel
theorem dX6_init_42 : decode cX6_init 42 = .ok (.iinc 1 1, 3) := by decide +kernel
theorem dX6_init_45 : decode cX6_init 45 = .ok (.goto (-22), 3) := by decide +kernel
theorem dX6_init_48 : decode cX6_init 48 = .ok (.return_, 1) := by decide +kernel
theorem dX6_at_0 : decode cX6_at 0 = .ok (.iload_n 1, 1) := by decide +kernel
theorem dX6_at_1 : decode cX6_at 1 = .ok (.ifCond .lt 27, 3) := by decide +kernel
theorem dX6_at_4 : decode cX6_at 4 = .ok (.iload_n 1, 1) := by decide +kernel
theorem dX6_at_5 : decode cX6_at 5 = .ok (.bipush 24, 2) := by decide +kernel
theorem dX6_at_7 : decode cX6_at 7 = .ok (.if_icmp .ge 21, 3) := by decide +kernel
theorem dX6_at_10 : decode cX6_at 10 = .ok (.aload_n 0, 1) := by decide +kernel
theorem dX6_at_11 : decode cX6_at 11 = .ok (.getfield 17, 3) := by decide +kernel
theorem dX6_at_14 : decode cX6_at 14 = .ok (.iload_n 1, 1) := by decide +kernel
theorem dX6_at_15 : decode cX6_at 15 = .ok (.baload, 1) := by decide +kernel
theorem dX6_at_16 : decode cX6_at 16 = .ok (.ifCond .eq 12, 3) := by decide +kernel
theorem dX6_at_19 : decode cX6_at 19 = .ok (.aload_n 0, 1) := by decide +kernel
theorem dX6_at_20 : decode cX6_at 20 = .ok (.getfield 11, 3) := by decide +kernel
theorem dX6_at_23 : decode cX6_at 23 = .ok (.iload_n 1, 1) := by decide +kernel
theorem dX6_at_24 : decode cX6_at 24 = .ok (.aaload, 1) := by decide +kernel
theorem dX6_at_25 : decode cX6_at 25 = .ok (.goto 4, 3) := by decide +kernel
theorem dX6_at_28 : decode cX6_at 28 = .ok (.aconst_null, 1) := by decide +kernel
theorem dX6_at_29 : decode cX6_at 29 = .ok (.areturn, 1) := by decide +kernel
theorem dX6_isFull_0 : decode cX6_isFull 0 = .ok (.aload_n 0, 1) := by decide +kernel
theorem dX6_isFull_1 : decode cX6_isFull 1 = .ok (.getfield 22, 3) := by decide +kernel
theorem dX6_isFull_4 : decode cX6_isFull 4 = .ok (.bipush 24, 2) := by decide +kernel
theorem dX6_isFull_6 : decode cX6_isFull 6 = .ok (.if_icmp .ne 7, 3) := by decide +kernel
theorem dX6_isFull_9 : decode cX6_isFull 9 = .ok (.iconst 1, 1) := by decide +kernel
theorem dX6_isFull_10 : decode cX6_isFull 10 = .ok (.goto 4, 3) := by decide +kernel
theorem dX6_isFull_13 : decode cX6_isFull 13 = .ok (.iconst 0, 1) := by decide +kernel
theorem dX6_isFull_14 : decode cX6_isFull 14 = .ok (.ireturn, 1) := by decide +kernel
theorem dX6_put_0 : decode cX6_put 0 = .ok (.iconst 0, 1) := by decide +kernel
theorem dX6_put_1 : decode cX6_put 1 = .ok (.istore_n 2, 1) := by decide +kernel
theorem dX6_put_2 : decode cX6_put 2 = .ok (.iload_n 2, 1) := by decide +kernel
theorem dX6_put_3 : decode cX6_put 3 = .ok (.bipush 24, 2) := by decide +kernel
theorem dX6_put_5 : decode cX6_put 5 = .ok (.if_icmp .ge 47, 3) := by decide +kernel
theorem dX6_put_8 : decode cX6_put 8 = .ok (.aload_n 0, 1) := by decide +kernel
theorem dX6_put_9 : decode cX6_put 9 = .ok (.getfield 17, 3) := by decide +kernel
theorem dX6_put_12 : decode cX6_put 12 = .ok (.iload_n 2, 1) := by decide +kernel
theorem dX6_put_13 : decode cX6_put 13 = .ok (.baload, 1) := by decide +kernel
theorem dX6_put_14 : decode cX6_put 14 = .ok (.ifCond .ne 32, 3) := by decide +kernel
theorem dX6_put_17 : decode cX6_put 17 = .ok (.aload_n 0, 1) := by decide +kernel
theorem dX6_put_18 : decode cX6_put 18 = .ok (.getfield 11, 3) := by decide +kernel
theorem dX6_put_21 : decode cX6_put 21 = .ok (.iload_n 2, 1) := by decide +kernel
theorem dX6_put_22 : decode cX6_put 22 = .ok (.aaload, 1) := by decide +kernel
theorem dX6_put_23 : decode cX6_put 23 = .ok (.aload_n 1, 1) := by decide +kernel
theorem dX6_put_24 : decode cX6_put 24 = .ok (.invokevirtual 26, 3) := by decide +kernel
theorem dX6_put_27 : decode cX6_put 27 = .ok (.aload_n 0, 1) := by decide +kernel
theorem dX6_put_28 : decode cX6_put 28 = .ok (.getfield 17, 3) := by decide +kernel
theorem dX6_put_31 : decode cX6_put 31 = .ok (.iload_n 2, 1) := by decide +kernel
theorem dX6_put_32 : decode cX6_put 32 = .ok (.iconst 1, 1) := by decide +kernel
theorem dX6_put_33 : decode cX6_put 33 = .ok (.bastore, 1) := by decide +kernel
theorem dX6_put_34 : decode cX6_put 34 = .ok (.aload_n 0, 1) := by decide +kernel
theorem dX6_put_35 : decode cX6_put 35 = .ok (.dup, 1) := by decide +kernel
theorem dX6_put_36 : decode cX6_put 36 = .ok (.getfield 22, 3) := by decide +kernel
theorem dX6_put_39 : decode cX6_put 39 = .ok (.iconst 1, 1) := by decide +kernel
theorem dX6_put_40 : decode cX6_put 40 = .ok (.iadd, 1) := by decide +kernel
theorem dX6_put_41 : decode cX6_put 41 = .ok (.putfield 22, 3) := by decide +kernel
theorem dX6_put_44 : decode cX6_put 44 = .ok (.iload_n 2, 1) := by decide +kernel
theorem dX6_put_45 : decode cX6_put 45 = .ok (.ireturn, 1) := by decide +kernel
theorem dX6_put_46 : decode cX6_put 46 = .ok (.iinc 2 1, 3) := by decide +kernel
theorem dX6_put_49 : decode cX6_put 49 = .ok (.goto (-47), 3) := by decide +kernel
theorem dX6_put_52 : decode cX6_put 52 = .ok (.bipush (-4), 2) := by decide +kernel
theorem dX6_put_54 : decode cX6_put 54 = .ok (.ireturn, 1) := by decide +kernel
theorem dX6_free_0 : decode cX6_free 0 = .ok (.aload_n 0, 1) := by decide +kernel
theorem dX6_free_1 : decode cX6_free 1 = .ok (.iload_n 1, 1) := by decide +kernel
theorem dX6_free_2 : decode cX6_free 2 = .ok (.invokevirtual 30, 3) := by decide +kernel
theorem dX6_free_5 : decode cX6_free 5 = .ok (.ifnull 20, 3) := by decide +kernel
theorem dX6_free_8 : decode cX6_free 8 = .ok (.aload_n 0, 1) := by decide +kernel
theorem dX6_free_9 : decode cX6_free 9 = .ok (.getfield 17, 3) := by decide +kernel
theorem dX6_free_12 : decode cX6_free 12 = .ok (.iload_n 1, 1) := by decide +kernel
theorem dX6_free_13 : decode cX6_free 13 = .ok (.iconst 0, 1) := by decide +kernel
theorem dX6_free_14 : decode cX6_free 14 = .ok (.bastore, 1) := by decide +kernel
theorem dX6_free_15 : decode cX6_free 15 = .ok (.aload_n 0, 1) := by decide +kernel
theorem dX6_free_16 : decode cX6_free 16 = .ok (.dup, 1) := by decide +kernel
theorem dX6_free_17 : decode cX6_free 17 = .ok (.getfield 22, 3) := by decide +kernel
theorem dX6_free_20 : decode cX6_free 20 = .ok (.iconst 1, 1) := by decide +kernel
theorem dX6_free_21 : decode cX6_free 21 = .ok (.isub, 1) := by decide +kernel
theorem dX6_free_22 : decode cX6_free 22 = .ok (.putfield 22, 3) := by decide +kernel
theorem dX6_free_25 : decode cX6_free 25 = .ok (.return_, 1) := by decide +kernel
theorem dX4_init_0 : decode cX4_init 0 = .ok (.aload_n 0, 1) := by decide +kernel
theorem dX4_init_1 : decode cX4_init 1 = .ok (.invokespecial 3, 3) := by decide +kernel
theorem dX4_init_4 : decode cX4_init 4 = .ok (.aload_n 0, 1) := by decide +kernel
theorem dX4_init_5 : decode cX4_init 5 = .ok (.new 9, 3) := by decide +kernel
theorem dX4_init_8 : decode cX4_init 8 = .ok (.dup, 1) := by decide +kernel
theorem dX4_init_9 : decode cX4_init 9 = .ok (.invokespecial 11, 3) := by decide +kernel
theorem dX4_init_12 : decode cX4_init 12 = .ok (.putfield 12, 3) := by decide +kernel
theorem dX4_init_15 : decode cX4_init 15 = .ok (.aload_n 0, 1) := by decide +kernel
theorem dX4_init_16 : decode cX4_init 16 = .ok (.new 9, 3) := by decide +kernel
theorem dX4_init_19 : decode cX4_init 19 = .ok (.dup, 1) := by decide +kernel
theorem dX4_init_20 : decode cX4_init 20 = .ok (.invokespecial 11, 3) := by decide +kernel
theorem dX4_init_23 : decode cX4_init 23 = .ok (.putfield 18, 3) := by decide +kernel
theorem dX4_init_26 : decode cX4_init 26 = .ok (.aload_n 0, 1) := by decide +kernel
theorem dX4_init_27 : decode cX4_init 27 = .ok (.new 9, 3) := by decide +kernel
theorem dX4_init_30 : decode cX4_init 30 = .ok (.dup, 1) := by decide +kernel
theorem dX4_init_31 : decode cX4_init 31 = .ok (.invokespecial 11, 3) := by decide +kernel
theorem dX4_init_34 : decode cX4_init 34 = .ok (.putfield 21, 3) := by decide +kernel
theorem dX4_init_37 : decode cX4_init 37 = .ok (.aload_n 0, 1) := by decide +kernel
theorem dX4_init_38 : decode cX4_init 38 = .ok (.sipush 500, 3) := by decide +kernel
theorem dX4_init_41 : decode cX4_init 41 = .ok (.putfield 24, 3) := by decide +kernel
theorem dX4_init_44 : decode cX4_init 44 = .ok (.aload_n 0, 1) := by decide +kernel
theorem dX4_init_45 : decode cX4_init 45 = .ok (.aload_n 1, 1) := by decide +kernel
theorem dX4_init_46 : decode cX4_init 46 = .ok (.putfield 28, 3) := by decide +kernel
theorem dX4_init_49 : decode cX4_init 49 = .ok (.return_, 1) := by decide +kernel
theorem dX4_begin_0 : decode cX4_begin 0 = .ok (.aload_n 0, 1) := by decide +kernel
theorem dX4_begin_1 : decode cX4_begin 1 = .ok (.iconst 0, 1) := by decide +kernel
theorem dX4_begin_2 : decode cX4_begin 2 = .ok (.putfield 32, 3) := by decide +kernel
theorem dX4_begin_5 : decode cX4_begin 5 = .ok (.return_, 1) := by decide +kernel
theorem dX4_leave_0 : decode cX4_leave 0 = .ok (.aload_n 0, 1) := by decide +kernel
theorem dX4_leave_1 : decode cX4_leave 1 = .ok (.getfield 12, 3) := by decide +kernel
theorem dX4_leave_4 : decode cX4_leave 4 = .ok (.aload_n 1, 1) := by decide +kernel
theorem dX4_leave_5 : decode cX4_leave 5 = .ok (.invokevirtual 35, 3) := by decide +kernel
theorem dX4_leave_8 : decode cX4_leave 8 = .ok (.aload_n 0, 1) := by decide +kernel
theorem dX4_leave_9 : decode cX4_leave 9 = .ok (.getfield 21, 3) := by decide +kernel
theorem dX4_leave_12 : decode cX4_leave 12 = .ok (.iconst 0, 1) := by decide +kernel
theorem dX4_leave_13 : decode cX4_leave 13 = .ok (.putfield 39, 3) := by decide +kernel
theorem dX4_leave_16 : decode cX4_leave 16 = .ok (.iconst 0, 1) := by decide +kernel
theorem dX4_leave_17 : decode cX4_leave 17 = .ok (.istore 5, 2) := by decide +kernel
theorem dX4_leave_19 : decode cX4_leave 19 = .ok (.iload 5, 2) := by decide +kernel
theorem dX4_leave_21 : decode cX4_leave 21 = .ok (.sipush 2041, 3) := by decide +kernel
theorem dX4_leave_24 : decode cX4_leave 24 = .ok (.if_icmp .ge 60, 3) := by decide +kernel
theorem dX4_leave_27 : decode cX4_leave 27 = .ok (.aload_n 0, 1) := by decide +kernel
theorem dX4_leave_28 : decode cX4_leave 28 = .ok (.getfield 12, 3) := by decide +kernel
theorem dX4_leave_31 : decode cX4_leave 31 = .ok (.getfield 39, 3) := by decide +kernel
theorem dX4_leave_34 : decode cX4_leave 34 = .ok (.ifCond .le 50, 3) := by decide +kernel
theorem dX4_leave_37 : decode cX4_leave 37 = .ok (.aload_n 0, 1) := by decide +kernel
theorem dX4_leave_38 : decode cX4_leave 38 = .ok (.aload_n 2, 1) := by decide +kernel
theorem dX4_leave_39 : decode cX4_leave 39 = .ok (.iload_n 3, 1) := by decide +kernel
theorem dX4_leave_40 : decode cX4_leave 40 = .ok (.iload 4, 2) := by decide +kernel
theorem dX4_leave_42 : decode cX4_leave 42 = .ok (.invokevirtual 42, 3) := by decide +kernel
theorem dX4_leave_45 : decode cX4_leave 45 = .ok (.istore 6, 2) := by decide +kernel
theorem dX4_leave_47 : decode cX4_leave 47 = .ok (.iload 6, 2) := by decide +kernel
theorem dX4_leave_49 : decode cX4_leave 49 = .ok (.iconst (-1), 1) := by decide +kernel
theorem dX4_leave_50 : decode cX4_leave 50 = .ok (.if_icmp .ne 10, 3) := by decide +kernel
theorem dX4_leave_53 : decode cX4_leave 53 = .ok (.aload_n 0, 1) := by decide +kernel
theorem dX4_leave_54 : decode cX4_leave 54 = .ok (.invokevirtual 46, 3) := by decide +kernel
theorem dX4_leave_57 : decode cX4_leave 57 = .ok (.goto 11, 3) := by decide +kernel
theorem dX4_leave_60 : decode cX4_leave 60 = .ok (.aload_n 0, 1) := by decide +kernel
theorem dX4_leave_61 : decode cX4_leave 61 = .ok (.aload_n 2, 1) := by decide +kernel
theorem dX4_leave_62 : decode cX4_leave 62 = .ok (.iload 6, 2) := by decide +kernel
theorem dX4_leave_64 : decode cX4_leave 64 = .ok (.aaload, 1) := by decide +kernel
theorem dX4_leave_65 : decode cX4_leave 65 = .ok (.invokevirtual 50, 3) := by decide +kernel
theorem dX4_leave_68 : decode cX4_leave 68 = .ok (.istore 7, 2) := by decide +kernel
theorem dX4_leave_70 : decode cX4_leave 70 = .ok (.iload 7, 2) := by decide +kernel
theorem dX4_leave_72 : decode cX4_leave 72 = .ok (.ifCond .eq 6, 3) := by decide +kernel
theorem dX4_leave_75 : decode cX4_leave 75 = .ok (.iload 7, 2) := by decide +kernel
theorem dX4_leave_77 : decode cX4_leave 77 = .ok (.ireturn, 1) := by decide +kernel
theorem dX4_leave_78 : decode cX4_leave 78 = .ok (.iinc 5 1, 3) := by decide +kernel
theorem dX4_leave_81 : decode cX4_leave 81 = .ok (.goto (-62), 3) := by decide +kernel
theorem dX4_leave_84 : decode cX4_leave 84 = .ok (.iconst 0, 1) := by decide +kernel
theorem dX4_leave_85 : decode cX4_leave 85 = .ok (.ireturn, 1) := by decide +kernel
theorem dX4_firstDividing_0 : decode cX4_firstDividing 0 = .ok (.iconst 0, 1) := by decide +kernel
theorem dX4_firstDividing_1 : decode cX4_firstDividing 1 = .ok (.istore 4, 2) := by decide +kernel
theorem dX4_firstDividing_3 : decode cX4_firstDividing 3 = .ok (.iload 4, 2) := by decide +kernel
theorem dX4_firstDividing_5 : decode cX4_firstDividing 5 = .ok (.iload_n 2, 1) := by decide +kernel
theorem dX4_firstDividing_6 : decode cX4_firstDividing 6 = .ok (.if_icmp .ge 38, 3) := by decide +kernel
theorem dX4_firstDividing_9 : decode cX4_firstDividing 9 = .ok (.iload 4, 2) := by decide +kernel
theorem dX4_firstDividing_11 : decode cX4_firstDividing 11 = .ok (.iload_n 3, 1) := by decide +kernel
theorem dX4_firstDividing_12 : decode cX4_firstDividing 12 = .ok (.if_icmp .eq 26, 3) := by decide +kernel
theorem dX4_firstDividing_15 : decode cX4_firstDividing 15 = .ok (.aload_n 1, 1) := by decide +kernel
theorem dX4_firstDividing_16 : decode cX4_firstDividing 16 = .ok (.iload 4, 2) := by decide +kernel
theorem dX4_firstDividing_18 : decode cX4_firstDividing 18 = .ok (.aaload, 1) := by decide +kernel
theorem dX4_firstDividing_19 : decode cX4_firstDividing 19 = .ok (.invokevirtual 54, 3) := by decide +kernel
theorem dX4_firstDividing_22 : decode cX4_firstDividing 22 = .ok (.aload_n 0, 1) := by decide +kernel
theorem dX4_firstDividing_23 : decode cX4_firstDividing 23 = .ok (.getfield 12, 3) := by decide +kernel
theorem dX4_firstDividing_26 : decode cX4_firstDividing 26 = .ok (.invokevirtual 54, 3) := by decide +kernel
theorem dX4_firstDividing_29 : decode cX4_firstDividing 29 = .ok (.invokestatic 57, 3) := by decide +kernel
theorem dX4_firstDividing_32 : decode cX4_firstDividing 32 = .ok (.ifCond .eq 6, 3) := by decide +kernel
theorem dX4_firstDividing_35 : decode cX4_firstDividing 35 = .ok (.iload 4, 2) := by decide +kernel
theorem dX4_firstDividing_37 : decode cX4_firstDividing 37 = .ok (.ireturn, 1) := by decide +kernel
theorem dX4_firstDividing_38 : decode cX4_firstDividing 38 = .ok (.iinc 4 1, 3) := by decide +kernel
theorem dX4_firstDividing_41 : decode cX4_firstDividing 41 = .ok (.goto (-38), 3) := by decide +kernel
theorem dX4_firstDividing_44 : decode cX4_firstDividing 44 = .ok (.iconst (-1), 1) := by decide +kernel
theorem dX4_firstDividing_45 : decode cX4_firstDividing 45 = .ok (.ireturn, 1) := by decide +kernel
theorem dX4_moveHead_0 : decode cX4_moveHead 0 = .ok (.aload_n 0, 1) := by decide +kernel
theorem dX4_moveHead_1 : decode cX4_moveHead 1 = .ok (.getfield 21, 3) := by decide +kernel
theorem dX4_moveHead_4 : decode cX4_moveHead 4 = .ok (.aload_n 0, 1) := by decide +kernel
theorem dX4_moveHead_5 : decode cX4_moveHead 5 = .ok (.getfield 12, 3) := by decide +kernel
theorem dX4_moveHead_8 : decode cX4_moveHead 8 = .ok (.getfield 63, 3) := by decide +kernel
theorem dX4_moveHead_11 : decode cX4_moveHead 11 = .ok (.iconst 0, 1) := by decide +kernel
theorem dX4_moveHead_12 : decode cX4_moveHead 12 = .ok (.iaload, 1) := by decide +kernel
theorem dX4_moveHead_13 : decode cX4_moveHead 13 = .ok (.aload_n 0, 1) := by decide +kernel
theorem dX4_moveHead_14 : decode cX4_moveHead 14 = .ok (.getfield 12, 3) := by decide +kernel
theorem dX4_moveHead_17 : decode cX4_moveHead 17 = .ok (.getfield 67, 3) := by decide +kernel
theorem dX4_moveHead_20 : decode cX4_moveHead 20 = .ok (.iconst 0, 1) := by decide +kernel
theorem dX4_moveHead_21 : decode cX4_moveHead 21 = .ok (.iaload, 1) := by decide +kernel
theorem dX4_moveHead_22 : decode cX4_moveHead 22 = .ok (.invokevirtual 70, 3) := by decide +kernel
theorem dX4_moveHead_25 : decode cX4_moveHead 25 = .ok (.ifCond .ne 6, 3) := by decide +kernel
theorem dX4_moveHead_28 : decode cX4_moveHead 28 = .ok (.bipush (-6), 2) := by decide +kernel
theorem dX4_moveHead_30 : decode cX4_moveHead 30 = .ok (.ireturn, 1) := by decide +kernel
theorem dX4_moveHead_31 : decode cX4_moveHead 31 = .ok (.aload_n 0, 1) := by decide +kernel
theorem dX4_moveHead_32 : decode cX4_moveHead 32 = .ok (.getfield 12, 3) := by decide +kernel
theorem dX4_moveHead_35 : decode cX4_moveHead 35 = .ok (.invokevirtual 73, 3) := by decide +kernel
theorem dX4_moveHead_38 : decode cX4_moveHead 38 = .ok (.iconst 0, 1) := by decide +kernel
theorem dX4_moveHead_39 : decode cX4_moveHead 39 = .ok (.ireturn, 1) := by decide +kernel
theorem dX4_lessenBy_0 : decode cX4_lessenBy 0 = .ok (.aload_n 0, 1) := by decide +kernel
theorem dX4_lessenBy_1 : decode cX4_lessenBy 1 = .ok (.getfield 32, 3) := by decide +kernel
theorem dX4_lessenBy_4 : decode cX4_lessenBy 4 = .ok (.aload_n 0, 1) := by decide +kernel
theorem dX4_lessenBy_5 : decode cX4_lessenBy 5 = .ok (.getfield 24, 3) := by decide +kernel
theorem dX4_lessenBy_8 : decode cX4_lessenBy 8 = .ok (.if_icmp .lt 6, 3) := by decide +kernel
theorem dX4_lessenBy_11 : decode cX4_lessenBy 11 = .ok (.bipush (-7), 2) := by decide +kernel
theorem dX4_lessenBy_13 : decode cX4_lessenBy 13 = .ok (.ireturn, 1) := by decide +kernel
theorem dX4_lessenBy_14 : decode cX4_lessenBy 14 = .ok (.aload_n 0, 1) := by decide +kernel
theorem dX4_lessenBy_15 : decode cX4_lessenBy 15 = .ok (.dup, 1) := by decide +kernel
theorem dX4_lessenBy_16 : decode cX4_lessenBy 16 = .ok (.getfield 32, 3) := by decide +kernel
theorem dX4_lessenBy_19 : decode cX4_lessenBy 19 = .ok (.iconst 1, 1) := by decide +kernel
theorem dX4_lessenBy_20 : decode cX4_lessenBy 20 = .ok (.iadd, 1) := by decide +kernel
theorem dX4_lessenBy_21 : decode cX4_lessenBy 21 = .ok (.putfield 32, 3) := by decide +kernel
theorem dX4_lessenBy_24 : decode cX4_lessenBy 24 = .ok (.aload_n 0, 1) := by decide +kernel
theorem dX4_lessenBy_25 : decode cX4_lessenBy 25 = .ok (.dup, 1) := by decide +kernel
theorem dX4_lessenBy_26 : decode cX4_lessenBy 26 = .ok (.getfield 76, 3) := by decide +kernel
theorem dX4_lessenBy_29 : decode cX4_lessenBy 29 = .ok (.iconst 1, 1) := by decide +kernel
theorem dX4_lessenBy_30 : decode cX4_lessenBy 30 = .ok (.iadd, 1) := by decide +kernel
theorem dX4_lessenBy_31 : decode cX4_lessenBy 31 = .ok (.putfield 76, 3) := by decide +kernel
theorem dX4_lessenBy_34 : decode cX4_lessenBy 34 = .ok (.aload_n 0, 1) := by decide +kernel
theorem dX4_lessenBy_35 : decode cX4_lessenBy 35 = .ok (.getfield 28, 3) := by decide +kernel
theorem dX4_lessenBy_38 : decode cX4_lessenBy 38 = .ok (.aload_n 0, 1) := by decide +kernel
theorem dX4_lessenBy_39 : decode cX4_lessenBy 39 = .ok (.getfield 18, 3) := by decide +kernel
theorem dX4_lessenBy_42 : decode cX4_lessenBy 42 = .ok (.aload_n 0, 1) := by decide +kernel
theorem dX4_lessenBy_43 : decode cX4_lessenBy 43 = .ok (.getfield 12, 3) := by decide +kernel
theorem dX4_lessenBy_46 : decode cX4_lessenBy 46 = .ok (.aload_n 1, 1) := by decide +kernel
theorem dX4_lessenBy_47 : decode cX4_lessenBy 47 = .ok (.aload_n 0, 1) := by decide +kernel
theorem dX4_lessenBy_48 : decode cX4_lessenBy 48 = .ok (.getfield 28, 3) := by decide +kernel
theorem dX4_lessenBy_51 : decode cX4_lessenBy 51 = .ok (.getfield 79, 3) := by decide +kernel
theorem dX4_lessenBy_54 : decode cX4_lessenBy 54 = .ok (.aload_n 0, 1) := by decide +kernel
theorem dX4_lessenBy_55 : decode cX4_lessenBy 55 = .ok (.getfield 12, 3) := by decide +kernel
theorem dX4_lessenBy_58 : decode cX4_lessenBy 58 = .ok (.getfield 63, 3) := by decide +kernel
theorem dX4_lessenBy_61 : decode cX4_lessenBy 61 = .ok (.iconst 0, 1) := by decide +kernel
theorem dX4_lessenBy_62 : decode cX4_lessenBy 62 = .ok (.iaload, 1) := by decide +kernel
theorem dX4_lessenBy_63 : decode cX4_lessenBy 63 = .ok (.isub, 1) := by decide +kernel
theorem dX4_lessenBy_64 : decode cX4_lessenBy 64 = .ok (.aload_n 0, 1) := by decide +kernel
theorem dX4_lessenBy_65 : decode cX4_lessenBy 65 = .ok (.getfield 12, 3) := by decide +kernel
theorem dX4_lessenBy_68 : decode cX4_lessenBy 68 = .ok (.invokevirtual 54, 3) := by decide +kernel
theorem dX4_lessenBy_71 : decode cX4_lessenBy 71 = .ok (.aload_n 1, 1) := by decide +kernel
theorem dX4_lessenBy_72 : decode cX4_lessenBy 72 = .ok (.invokevirtual 54, 3) := by decide +kernel
theorem dX4_lessenBy_75 : decode cX4_lessenBy 75 = .ok (.isub, 1) := by decide +kernel
theorem dX4_lessenBy_76 : decode cX4_lessenBy 76 = .ok (.invokevirtual 84, 3) := by decide +kernel
theorem dX4_lessenBy_79 : decode cX4_lessenBy 79 = .ok (.istore_n 2, 1) := by decide +kernel
theorem dX4_lessenBy_80 : decode cX4_lessenBy 80 = .ok (.iload_n 2, 1) := by decide +kernel
theorem dX4_lessenBy_81 : decode cX4_lessenBy 81 = .ok (.ifCond .eq 5, 3) := by decide +kernel
theorem dX4_lessenBy_84 : decode cX4_lessenBy 84 = .ok (.iload_n 2, 1) := by decide +kernel
theorem dX4_lessenBy_85 : decode cX4_lessenBy 85 = .ok (.ireturn, 1) := by decide +kernel
theorem dX4_lessenBy_86 : decode cX4_lessenBy 86 = .ok (.aload_n 0, 1) := by decide +kernel
theorem dX4_lessenBy_87 : decode cX4_lessenBy 87 = .ok (.getfield 12, 3) := by decide +kernel
theorem dX4_lessenBy_90 : decode cX4_lessenBy 90 = .ok (.astore_n 3, 1) := by decide +kernel
theorem dX4_lessenBy_91 : decode cX4_lessenBy 91 = .ok (.aload_n 0, 1) := by decide +kernel
theorem dX4_lessenBy_92 : decode cX4_lessenBy 92 = .ok (.aload_n 0, 1) := by decide +kernel
theorem dX4_lessenBy_93 : decode cX4_lessenBy 93 = .ok (.getfield 18, 3) := by decide +kernel
theorem dX4_lessenBy_96 : decode cX4_lessenBy 96 = .ok (.putfield 12, 3) := by decide +kernel
theorem dX4_lessenBy_99 : decode cX4_lessenBy 99 = .ok (.aload_n 0, 1) := by decide +kernel
theorem dX4_lessenBy_100 : decode cX4_lessenBy 100 = .ok (.aload_n 3, 1) := by decide +kernel
theorem dX4_lessenBy_101 : decode cX4_lessenBy 101 = .ok (.putfield 18, 3) := by decide +kernel
theorem dX4_lessenBy_104 : decode cX4_lessenBy 104 = .ok (.iconst 0, 1) := by decide +kernel
theorem dX4_lessenBy_105 : decode cX4_lessenBy 105 = .ok (.ireturn, 1) := by decide +kernel
theorem dX0_init_0 : decode cX0_init 0 = .ok (.aload_n 0, 1) := by decide +kernel
theorem dX0_init_1 : decode cX0_init 1 = .ok (.invokespecial 3, 3) := by decide +kernel
theorem dX0_init_4 : decode cX0_init 4 = .ok (.aload_n 0, 1) := by decide +kernel
theorem dX0_init_5 : decode cX0_init 5 = .ok (.new 9, 3) := by decide +kernel
theorem dX0_init_8 : decode cX0_init 8 = .ok (.dup, 1) := by decide +kernel
theorem dX0_init_9 : decode cX0_init 9 = .ok (.invokespecial 11, 3) := by decide +kernel
theorem dX0_init_12 : decode cX0_init 12 = .ok (.putfield 12, 3) := by decide +kernel
theorem dX0_init_15 : decode cX0_init 15 = .ok (.aload_n 0, 1) := by decide +kernel
theorem dX0_init_16 : decode cX0_init 16 = .ok (.bipush 18, 2) := by decide +kernel
theorem dX0_init_18 : decode cX0_init 18 = .ok (.anewarray 18, 3) := by decide +kernel
theorem dX0_init_21 : decode cX0_init 21 = .ok (.putfield 20, 3) := by decide +kernel
theorem dX0_init_24 : decode cX0_init 24 = .ok (.aload_n 0, 1) := by decide +kernel
theorem dX0_init_25 : decode cX0_init 25 = .ok (.bipush 18, 2) := by decide +kernel
theorem dX0_init_27 : decode cX0_init 27 = .ok (.anewarray 18, 3) := by decide +kernel
theorem dX0_init_30 : decode cX0_init 30 = .ok (.putfield 24, 3) := by decide +kernel
theorem dX0_init_33 : decode cX0_init 33 = .ok (.aload_n 0, 1) := by decide +kernel
theorem dX0_init_34 : decode cX0_init 34 = .ok (.bipush 18, 2) := by decide +kernel
theorem dX0_init_36 : decode cX0_init 36 = .ok (.newarray .int, 2) := by decide +kernel
theorem dX0_init_38 : decode cX0_init 38 = .ok (.putfield 27, 3) := by decide +kernel
theorem dX0_init_41 : decode cX0_init 41 = .ok (.aload_n 0, 1) := by decide +kernel
theorem dX0_init_42 : decode cX0_init 42 = .ok (.new 18, 3) := by decide +kernel
theorem dX0_init_45 : decode cX0_init 45 = .ok (.dup, 1) := by decide +kernel
theorem dX0_init_46 : decode cX0_init 46 = .ok (.invokespecial 31, 3) := by decide +kernel
theorem dX0_init_49 : decode cX0_init 49 = .ok (.putfield 32, 3) := by decide +kernel
theorem dX0_init_52 : decode cX0_init 52 = .ok (.aload_n 0, 1) := by decide +kernel
theorem dX0_init_53 : decode cX0_init 53 = .ok (.aload_n 1, 1) := by decide +kernel
theorem dX0_init_54 : decode cX0_init 54 = .ok (.putfield 36, 3) := by decide +kernel
theorem dX0_init_57 : decode cX0_init 57 = .ok (.aload_n 0, 1) := by decide +kernel
theorem dX0_init_58 : decode cX0_init 58 = .ok (.aload_n 2, 1) := by decide +kernel
theorem dX0_init_59 : decode cX0_init 59 = .ok (.putfield 40, 3) := by decide +kernel
theorem dX0_init_62 : decode cX0_init 62 = .ok (.iconst 0, 1) := by decide +kernel
theorem dX0_init_63 : decode cX0_init 63 = .ok (.istore_n 3, 1) := by decide +kernel
theorem dX0_init_64 : decode cX0_init 64 = .ok (.iload_n 3, 1) := by decide +kernel
theorem dX0_init_65 : decode cX0_init 65 = .ok (.bipush 18, 2) := by decide +kernel
theorem dX0_init_67 : decode cX0_init 67 = .ok (.if_icmp .ge 35, 3) := by decide +kernel
theorem dX0_init_70 : decode cX0_init 70 = .ok (.aload_n 0, 1) := by decide +kernel
theorem dX0_init_71 : decode cX0_init 71 = .ok (.getfield 20, 3) := by decide +kernel
theorem dX0_init_74 : decode cX0_init 74 = .ok (.iload_n 3, 1) := by decide +kernel
theorem dX0_init_75 : decode cX0_init 75 = .ok (.new 18, 3) := by decide +kernel
theorem dX0_init_78 : decode cX0_init 78 = .ok (.dup, 1) := by decide +kernel
theorem dX0_init_79 : decode cX0_init 79 = .ok (.invokespecial 31, 3) := by decide +kernel
theorem dX0_init_82 : decode cX0_init 82 = .ok (.aastore, 1) := by decide +kernel
theorem dX0_init_83 : decode cX0_init 83 = .ok (.aload_n 0, 1) := by decide +kernel
theorem dX0_init_84 : decode cX0_init 84 = .ok (.getfield 24, 3) := by decide +kernel
theorem dX0_init_87 : decode cX0_init 87 = .ok (.iload_n 3, 1) := by decide +kernel
theorem dX0_init_88 : decode cX0_init 88 = .ok (.new 18, 3) := by decide +kernel
theorem dX0_init_91 : decode cX0_init 91 = .ok (.dup, 1) := by decide +kernel
theorem dX0_init_92 : decode cX0_init 92 = .ok (.invokespecial 31, 3) := by decide +kernel
theorem dX0_init_95 : decode cX0_init 95 = .ok (.aastore, 1) := by decide +kernel
theorem dX0_init_96 : decode cX0_init 96 = .ok (.iinc 3 1, 3) := by decide +kernel
theorem dX0_init_99 : decode cX0_init 99 = .ok (.goto (-35), 3) := by decide +kernel
theorem dX0_init_102 : decode cX0_init 102 = .ok (.return_, 1) := by decide +kernel
theorem dX0_at_0 : decode cX0_at 0 = .ok (.iload_n 1, 1) := by decide +kernel
theorem dX0_at_1 : decode cX0_at 1 = .ok (.ifCond .lt 20, 3) := by decide +kernel
theorem dX0_at_4 : decode cX0_at 4 = .ok (.iload_n 1, 1) := by decide +kernel
theorem dX0_at_5 : decode cX0_at 5 = .ok (.aload_n 0, 1) := by decide +kernel
theorem dX0_at_6 : decode cX0_at 6 = .ok (.getfield 44, 3) := by decide +kernel
theorem dX0_at_9 : decode cX0_at 9 = .ok (.if_icmp .ge 12, 3) := by decide +kernel
theorem dX0_at_12 : decode cX0_at 12 = .ok (.aload_n 0, 1) := by decide +kernel
theorem dX0_at_13 : decode cX0_at 13 = .ok (.getfield 20, 3) := by decide +kernel
theorem dX0_at_16 : decode cX0_at 16 = .ok (.iload_n 1, 1) := by decide +kernel
theorem dX0_at_17 : decode cX0_at 17 = .ok (.aaload, 1) := by decide +kernel
theorem dX0_at_18 : decode cX0_at 18 = .ok (.goto 4, 3) := by decide +kernel
theorem dX0_at_21 : decode cX0_at 21 = .ok (.aconst_null, 1) := by decide +kernel
theorem dX0_at_22 : decode cX0_at 22 = .ok (.areturn, 1) := by decide +kernel
theorem dX0_isFull_0 : decode cX0_isFull 0 = .ok (.aload_n 0, 1) := by decide +kernel
theorem dX0_isFull_1 : decode cX0_isFull 1 = .ok (.getfield 44, 3) := by decide +kernel
theorem dX0_isFull_4 : decode cX0_isFull 4 = .ok (.bipush 18, 2) := by decide +kernel
theorem dX0_isFull_6 : decode cX0_isFull 6 = .ok (.if_icmp .lt 7, 3) := by decide +kernel
theorem dX0_isFull_9 : decode cX0_isFull 9 = .ok (.iconst 1, 1) := by decide +kernel
theorem dX0_isFull_10 : decode cX0_isFull 10 = .ok (.goto 4, 3) := by decide +kernel
theorem dX0_isFull_13 : decode cX0_isFull 13 = .ok (.iconst 0, 1) := by decide +kernel
theorem dX0_isFull_14 : decode cX0_isFull 14 = .ok (.ireturn, 1) := by decide +kernel
theorem dX0_empty_0 : decode cX0_empty 0 = .ok (.aload_n 0, 1) := by decide +kernel
theorem dX0_empty_1 : decode cX0_empty 1 = .ok (.getfield 44, 3) := by decide +kernel
theorem dX0_empty_4 : decode cX0_empty 4 = .ok (.istore_n 1, 1) := by decide +kernel
theorem dX0_empty_5 : decode cX0_empty 5 = .ok (.aload_n 0, 1) := by decide +kernel
theorem dX0_empty_6 : decode cX0_empty 6 = .ok (.iconst 0, 1) := by decide +kernel
theorem dX0_empty_7 : decode cX0_empty 7 = .ok (.putfield 44, 3) := by decide +kernel
theorem dX0_empty_10 : decode cX0_empty 10 = .ok (.aload_n 0, 1) := by decide +kernel
theorem dX0_empty_11 : decode cX0_empty 11 = .ok (.getfield 12, 3) := by decide +kernel
theorem dX0_empty_14 : decode cX0_empty 14 = .ok (.iconst 0, 1) := by decide +kernel
theorem dX0_empty_15 : decode cX0_empty 15 = .ok (.putfield 48, 3) := by decide +kernel
theorem dX0_empty_18 : decode cX0_empty 18 = .ok (.aload_n 0, 1) := by decide +kernel
theorem dX0_empty_19 : decode cX0_empty 19 = .ok (.iconst 0, 1) := by decide +kernel
theorem dX0_empty_20 : decode cX0_empty 20 = .ok (.putfield 49, 3) := by decide +kernel
theorem dX0_empty_23 : decode cX0_empty 23 = .ok (.iload_n 1, 1) := by decide +kernel
theorem dX0_empty_24 : decode cX0_empty 24 = .ok (.ireturn, 1) := by decide +kernel
theorem dX0_take_0 : decode cX0_take 0 = .ok (.aload_n 0, 1) := by decide +kernel
theorem dX0_take_1 : decode cX0_take 1 = .ok (.invokevirtual 53, 3) := by decide +kernel
theorem dX0_take_4 : decode cX0_take 4 = .ok (.ifCond .eq 6, 3) := by decide +kernel
theorem dX0_take_7 : decode cX0_take 7 = .ok (.bipush (-4), 2) := by decide +kernel
theorem dX0_take_9 : decode cX0_take 9 = .ok (.ireturn, 1) := by decide +kernel
theorem dX0_take_10 : decode cX0_take 10 = .ok (.aload_n 0, 1) := by decide +kernel
theorem dX0_take_11 : decode cX0_take 11 = .ok (.getfield 44, 3) := by decide +kernel
theorem dX0_take_14 : decode cX0_take 14 = .ok (.istore_n 2, 1) := by decide +kernel
theorem dX0_take_15 : decode cX0_take 15 = .ok (.aload_n 0, 1) := by decide +kernel
theorem dX0_take_16 : decode cX0_take 16 = .ok (.getfield 20, 3) := by decide +kernel
theorem dX0_take_19 : decode cX0_take 19 = .ok (.iload_n 2, 1) := by decide +kernel
theorem dX0_take_20 : decode cX0_take 20 = .ok (.aaload, 1) := by decide +kernel
theorem dX0_take_21 : decode cX0_take 21 = .ok (.aload_n 1, 1) := by decide +kernel
theorem dX0_take_22 : decode cX0_take 22 = .ok (.invokevirtual 57, 3) := by decide +kernel
theorem dX0_take_25 : decode cX0_take 25 = .ok (.aload_n 0, 1) := by decide +kernel
theorem dX0_take_26 : decode cX0_take 26 = .ok (.getfield 36, 3) := by decide +kernel
theorem dX0_take_29 : decode cX0_take 29 = .ok (.aload_n 0, 1) := by decide +kernel
theorem dX0_take_30 : decode cX0_take 30 = .ok (.getfield 20, 3) := by decide +kernel
theorem dX0_take_33 : decode cX0_take 33 = .ok (.iload_n 2, 1) := by decide +kernel
theorem dX0_take_34 : decode cX0_take 34 = .ok (.aaload, 1) := by decide +kernel
theorem dX0_take_35 : decode cX0_take 35 = .ok (.invokevirtual 61, 3) := by decide +kernel
theorem dX0_take_38 : decode cX0_take 38 = .ok (.aload_n 0, 1) := by decide +kernel
theorem dX0_take_39 : decode cX0_take 39 = .ok (.dup, 1) := by decide +kernel
theorem dX0_take_40 : decode cX0_take 40 = .ok (.getfield 44, 3) := by decide +kernel
theorem dX0_take_43 : decode cX0_take 43 = .ok (.iconst 1, 1) := by decide +kernel
theorem dX0_take_44 : decode cX0_take 44 = .ok (.iadd, 1) := by decide +kernel
theorem dX0_take_45 : decode cX0_take 45 = .ok (.putfield 44, 3) := by decide +kernel
theorem dX0_take_48 : decode cX0_take 48 = .ok (.aload_n 0, 1) := by decide +kernel
theorem dX0_take_49 : decode cX0_take 49 = .ok (.getfield 12, 3) := by decide +kernel
theorem dX0_take_52 : decode cX0_take 52 = .ok (.iload_n 2, 1) := by decide +kernel
theorem dX0_take_53 : decode cX0_take 53 = .ok (.invokevirtual 66, 3) := by decide +kernel
theorem dX0_take_56 : decode cX0_take 56 = .ok (.iload_n 2, 1) := by decide +kernel
theorem dX0_take_57 : decode cX0_take 57 = .ok (.ireturn, 1) := by decide +kernel
theorem dX0_workNext_0 : decode cX0_workNext 0 = .ok (.aload_n 0, 1) := by decide +kernel
theorem dX0_workNext_1 : decode cX0_workNext 1 = .ok (.getfield 40, 3) := by decide +kernel
theorem dX0_workNext_4 : decode cX0_workNext 4 = .ok (.invokevirtual 70, 3) := by decide +kernel
theorem dX0_workNext_7 : decode cX0_workNext 7 = .ok (.aload_n 0, 1) := by decide +kernel
theorem dX0_workNext_8 : decode cX0_workNext 8 = .ok (.invokevirtual 75, 3) := by decide +kernel
theorem dX0_workNext_11 : decode cX0_workNext 11 = .ok (.istore_n 1, 1) := by decide +kernel
theorem dX0_workNext_12 : decode cX0_workNext 12 = .ok (.aload_n 0, 1) := by decide +kernel
theorem dX0_workNext_13 : decode cX0_workNext 13 = .ok (.getfield 79, 3) := by decide +kernel
theorem dX0_workNext_16 : decode cX0_workNext 16 = .ok (.iconst 1, 1) := by decide +kernel
theorem dX0_workNext_17 : decode cX0_workNext 17 = .ok (.iand, 1) := by decide +kernel
theorem dX0_workNext_18 : decode cX0_workNext 18 = .ok (.ifCond .eq 24, 3) := by decide +kernel
theorem dX0_workNext_21 : decode cX0_workNext 21 = .ok (.aload_n 0, 1) := by decide +kernel
theorem dX0_workNext_22 : decode cX0_workNext 22 = .ok (.iload_n 1, 1) := by decide +kernel
theorem dX0_workNext_23 : decode cX0_workNext 23 = .ok (.invokevirtual 82, 3) := by decide +kernel
theorem dX0_workNext_26 : decode cX0_workNext 26 = .ok (.ifCond .eq 16, 3) := by decide +kernel
theorem dX0_workNext_29 : decode cX0_workNext 29 = .ok (.aload_n 0, 1) := by decide +kernel
theorem dX0_workNext_30 : decode cX0_workNext 30 = .ok (.dup, 1) := by decide +kernel
theorem dX0_workNext_31 : decode cX0_workNext 31 = .ok (.getfield 86, 3) := by decide +kernel
theorem dX0_workNext_34 : decode cX0_workNext 34 = .ok (.iconst 1, 1) := by decide +kernel
theorem dX0_workNext_35 : decode cX0_workNext 35 = .ok (.iadd, 1) := by decide +kernel
theorem dX0_workNext_36 : decode cX0_workNext 36 = .ok (.putfield 86, 3) := by decide +kernel
theorem dX0_workNext_39 : decode cX0_workNext 39 = .ok (.goto 45, 3) := by decide +kernel
theorem dX0_workNext_42 : decode cX0_workNext 42 = .ok (.aload_n 0, 1) := by decide +kernel
theorem dX0_workNext_43 : decode cX0_workNext 43 = .ok (.getfield 79, 3) := by decide +kernel
theorem dX0_workNext_46 : decode cX0_workNext 46 = .ok (.iconst 2, 1) := by decide +kernel
theorem dX0_workNext_47 : decode cX0_workNext 47 = .ok (.iand, 1) := by decide +kernel
theorem dX0_workNext_48 : decode cX0_workNext 48 = .ok (.ifCond .eq 24, 3) := by decide +kernel
theorem dX0_workNext_51 : decode cX0_workNext 51 = .ok (.aload_n 0, 1) := by decide +kernel
theorem dX0_workNext_52 : decode cX0_workNext 52 = .ok (.iload_n 1, 1) := by decide +kernel
theorem dX0_workNext_53 : decode cX0_workNext 53 = .ok (.invokevirtual 89, 3) := by decide +kernel
theorem dX0_workNext_56 : decode cX0_workNext 56 = .ok (.ifCond .eq 16, 3) := by decide +kernel
theorem dX0_workNext_59 : decode cX0_workNext 59 = .ok (.aload_n 0, 1) := by decide +kernel
theorem dX0_workNext_60 : decode cX0_workNext 60 = .ok (.dup, 1) := by decide +kernel
theorem dX0_workNext_61 : decode cX0_workNext 61 = .ok (.getfield 92, 3) := by decide +kernel
theorem dX0_workNext_64 : decode cX0_workNext 64 = .ok (.iconst 1, 1) := by decide +kernel
theorem dX0_workNext_65 : decode cX0_workNext 65 = .ok (.iadd, 1) := by decide +kernel
theorem dX0_workNext_66 : decode cX0_workNext 66 = .ok (.putfield 92, 3) := by decide +kernel
theorem dX0_workNext_69 : decode cX0_workNext 69 = .ok (.goto 15, 3) := by decide +kernel
theorem dX0_workNext_72 : decode cX0_workNext 72 = .ok (.aload_n 0, 1) := by decide +kernel
theorem dX0_workNext_73 : decode cX0_workNext 73 = .ok (.iload_n 1, 1) := by decide +kernel
theorem dX0_workNext_74 : decode cX0_workNext 74 = .ok (.invokevirtual 95, 3) := by decide +kernel
theorem dX0_workNext_77 : decode cX0_workNext 77 = .ok (.istore_n 2, 1) := by decide +kernel
theorem dX0_workNext_78 : decode cX0_workNext 78 = .ok (.iload_n 2, 1) := by decide +kernel
theorem dX0_workNext_79 : decode cX0_workNext 79 = .ok (.ifCond .eq 5, 3) := by decide +kernel
theorem dX0_workNext_82 : decode cX0_workNext 82 = .ok (.iload_n 2, 1) := by decide +kernel
theorem dX0_workNext_83 : decode cX0_workNext 83 = .ok (.ireturn, 1) := by decide +kernel
theorem dX0_workNext_84 : decode cX0_workNext 84 = .ok (.aload_n 0, 1) := by decide +kernel
theorem dX0_workNext_85 : decode cX0_workNext 85 = .ok (.getfield 12, 3) := by decide +kernel
theorem dX0_workNext_88 : decode cX0_workNext 88 = .ok (.iload_n 1, 1) := by decide +kernel
theorem dX0_workNext_89 : decode cX0_workNext 89 = .ok (.invokevirtual 99, 3) := by decide +kernel
theorem dX0_workNext_92 : decode cX0_workNext 92 = .ok (.iconst 0, 1) := by decide +kernel
theorem dX0_workNext_93 : decode cX0_workNext 93 = .ok (.ireturn, 1) := by decide +kernel
theorem dX0_nextPair_0 : decode cX0_nextPair 0 = .ok (.iconst 0, 1) := by decide +kernel
theorem dX0_nextPair_1 : decode cX0_nextPair 1 = .ok (.istore_n 1, 1) := by decide +kernel
theorem dX0_nextPair_2 : decode cX0_nextPair 2 = .ok (.aload_n 0, 1) := by decide +kernel
theorem dX0_nextPair_3 : decode cX0_nextPair 3 = .ok (.getfield 102, 3) := by decide +kernel
theorem dX0_nextPair_6 : decode cX0_nextPair 6 = .ok (.iconst 1, 1) := by decide +kernel
theorem dX0_nextPair_7 : decode cX0_nextPair 7 = .ok (.if_icmp .ne 51, 3) := by decide +kernel
theorem dX0_nextPair_10 : decode cX0_nextPair 10 = .ok (.iconst 1, 1) := by decide +kernel
theorem dX0_nextPair_11 : decode cX0_nextPair 11 = .ok (.istore_n 2, 1) := by decide +kernel
theorem dX0_nextPair_12 : decode cX0_nextPair 12 = .ok (.iload_n 2, 1) := by decide +kernel
theorem dX0_nextPair_13 : decode cX0_nextPair 13 = .ok (.aload_n 0, 1) := by decide +kernel
theorem dX0_nextPair_14 : decode cX0_nextPair 14 = .ok (.getfield 12, 3) := by decide +kernel
theorem dX0_nextPair_17 : decode cX0_nextPair 17 = .ok (.getfield 48, 3) := by decide +kernel
theorem dX0_nextPair_20 : decode cX0_nextPair 20 = .ok (.if_icmp .ge 38, 3) := by decide +kernel
theorem dX0_nextPair_23 : decode cX0_nextPair 23 = .ok (.aload_n 0, 1) := by decide +kernel
theorem dX0_nextPair_24 : decode cX0_nextPair 24 = .ok (.getfield 36, 3) := by decide +kernel
theorem dX0_nextPair_27 : decode cX0_nextPair 27 = .ok (.aload_n 0, 1) := by decide +kernel
theorem dX0_nextPair_28 : decode cX0_nextPair 28 = .ok (.iload_n 2, 1) := by decide +kernel
theorem dX0_nextPair_29 : decode cX0_nextPair 29 = .ok (.invokevirtual 105, 3) := by decide +kernel
theorem dX0_nextPair_32 : decode cX0_nextPair 32 = .ok (.invokevirtual 108, 3) := by decide +kernel
theorem dX0_nextPair_35 : decode cX0_nextPair 35 = .ok (.aload_n 0, 1) := by decide +kernel
theorem dX0_nextPair_36 : decode cX0_nextPair 36 = .ok (.getfield 36, 3) := by decide +kernel
theorem dX0_nextPair_39 : decode cX0_nextPair 39 = .ok (.aload_n 0, 1) := by decide +kernel
theorem dX0_nextPair_40 : decode cX0_nextPair 40 = .ok (.iload_n 1, 1) := by decide +kernel
theorem dX0_nextPair_41 : decode cX0_nextPair 41 = .ok (.invokevirtual 105, 3) := by decide +kernel
theorem dX0_nextPair_44 : decode cX0_nextPair 44 = .ok (.invokevirtual 108, 3) := by decide +kernel
theorem dX0_nextPair_47 : decode cX0_nextPair 47 = .ok (.if_icmp .ge 5, 3) := by decide +kernel
theorem dX0_nextPair_50 : decode cX0_nextPair 50 = .ok (.iload_n 2, 1) := by decide +kernel
theorem dX0_nextPair_51 : decode cX0_nextPair 51 = .ok (.istore_n 1, 1) := by decide +kernel
theorem dX0_nextPair_52 : decode cX0_nextPair 52 = .ok (.iinc 2 1, 3) := by decide +kernel
theorem dX0_nextPair_55 : decode cX0_nextPair 55 = .ok (.goto (-43), 3) := by decide +kernel
theorem dX0_nextPair_58 : decode cX0_nextPair 58 = .ok (.iload_n 1, 1) := by decide +kernel
theorem dX0_nextPair_59 : decode cX0_nextPair 59 = .ok (.ireturn, 1) := by decide +kernel
theorem dX0_multipleOf_0 : decode cX0_multipleOf 0 = .ok (.aload_n 0, 1) := by decide +kernel
theorem dX0_multipleOf_1 : decode cX0_multipleOf 1 = .ok (.getfield 20, 3) := by decide +kernel
theorem dX0_multipleOf_4 : decode cX0_multipleOf 4 = .ok (.aload_n 0, 1) := by decide +kernel
theorem dX0_multipleOf_5 : decode cX0_multipleOf 5 = .ok (.getfield 12, 3) := by decide +kernel
theorem dX0_multipleOf_8 : decode cX0_multipleOf 8 = .ok (.getfield 111, 3) := by decide +kernel
theorem dX0_multipleOf_11 : decode cX0_multipleOf 11 = .ok (.iload_n 1, 1) := by decide +kernel
theorem dX0_multipleOf_12 : decode cX0_multipleOf 12 = .ok (.iaload, 1) := by decide +kernel
theorem dX0_multipleOf_13 : decode cX0_multipleOf 13 = .ok (.aaload, 1) := by decide +kernel
theorem dX0_multipleOf_14 : decode cX0_multipleOf 14 = .ok (.invokevirtual 114, 3) := by decide +kernel
theorem dX0_multipleOf_17 : decode cX0_multipleOf 17 = .ok (.aload_n 0, 1) := by decide +kernel
theorem dX0_multipleOf_18 : decode cX0_multipleOf 18 = .ok (.getfield 20, 3) := by decide +kernel
theorem dX0_multipleOf_21 : decode cX0_multipleOf 21 = .ok (.aload_n 0, 1) := by decide +kernel
theorem dX0_multipleOf_22 : decode cX0_multipleOf 22 = .ok (.getfield 12, 3) := by decide +kernel
theorem dX0_multipleOf_25 : decode cX0_multipleOf 25 = .ok (.getfield 117, 3) := by decide +kernel
theorem dX0_multipleOf_28 : decode cX0_multipleOf 28 = .ok (.iload_n 1, 1) := by decide +kernel
theorem dX0_multipleOf_29 : decode cX0_multipleOf 29 = .ok (.iaload, 1) := by decide +kernel
theorem dX0_multipleOf_30 : decode cX0_multipleOf 30 = .ok (.aaload, 1) := by decide +kernel
theorem dX0_multipleOf_31 : decode cX0_multipleOf 31 = .ok (.invokevirtual 114, 3) := by decide +kernel
theorem dX0_multipleOf_34 : decode cX0_multipleOf 34 = .ok (.invokestatic 120, 3) := by decide +kernel
theorem dX0_multipleOf_37 : decode cX0_multipleOf 37 = .ok (.ireturn, 1) := by decide +kernel
theorem dX0_isCoprime_0 : decode cX0_isCoprime 0 = .ok (.aload_n 0, 1) := by decide +kernel
theorem dX0_isCoprime_1 : decode cX0_isCoprime 1 = .ok (.iload_n 1, 1) := by decide +kernel
theorem dX0_isCoprime_2 : decode cX0_isCoprime 2 = .ok (.invokevirtual 105, 3) := by decide +kernel
theorem dX0_isCoprime_5 : decode cX0_isCoprime 5 = .ok (.aload_n 0, 1) := by decide +kernel
theorem dX0_isCoprime_6 : decode cX0_isCoprime 6 = .ok (.getfield 20, 3) := by decide +kernel
theorem dX0_isCoprime_9 : decode cX0_isCoprime 9 = .ok (.aload_n 0, 1) := by decide +kernel
theorem dX0_isCoprime_10 : decode cX0_isCoprime 10 = .ok (.getfield 12, 3) := by decide +kernel
theorem dX0_isCoprime_13 : decode cX0_isCoprime 13 = .ok (.getfield 111, 3) := by decide +kernel
theorem dX0_isCoprime_16 : decode cX0_isCoprime 16 = .ok (.iload_n 1, 1) := by decide +kernel
theorem dX0_isCoprime_17 : decode cX0_isCoprime 17 = .ok (.iaload, 1) := by decide +kernel
theorem dX0_isCoprime_18 : decode cX0_isCoprime 18 = .ok (.aaload, 1) := by decide +kernel
theorem dX0_isCoprime_19 : decode cX0_isCoprime 19 = .ok (.invokevirtual 114, 3) := by decide +kernel
theorem dX0_isCoprime_22 : decode cX0_isCoprime 22 = .ok (.aload_n 0, 1) := by decide +kernel
theorem dX0_isCoprime_23 : decode cX0_isCoprime 23 = .ok (.getfield 20, 3) := by decide +kernel
theorem dX0_isCoprime_26 : decode cX0_isCoprime 26 = .ok (.aload_n 0, 1) := by decide +kernel
theorem dX0_isCoprime_27 : decode cX0_isCoprime 27 = .ok (.getfield 12, 3) := by decide +kernel
theorem dX0_isCoprime_30 : decode cX0_isCoprime 30 = .ok (.getfield 117, 3) := by decide +kernel
theorem dX0_isCoprime_33 : decode cX0_isCoprime 33 = .ok (.iload_n 1, 1) := by decide +kernel
theorem dX0_isCoprime_34 : decode cX0_isCoprime 34 = .ok (.iaload, 1) := by decide +kernel
theorem dX0_isCoprime_35 : decode cX0_isCoprime 35 = .ok (.aaload, 1) := by decide +kernel
theorem dX0_isCoprime_36 : decode cX0_isCoprime 36 = .ok (.invokevirtual 114, 3) := by decide +kernel
theorem dX0_isCoprime_39 : decode cX0_isCoprime 39 = .ok (.iadd, 1) := by decide +kernel
theorem dX0_isCoprime_40 : decode cX0_isCoprime 40 = .ok (.if_icmp .ne 7, 3) := by decide +kernel
theorem dX0_isCoprime_43 : decode cX0_isCoprime 43 = .ok (.iconst 1, 1) := by decide +kernel
theorem dX0_isCoprime_44 : decode cX0_isCoprime 44 = .ok (.goto 4, 3) := by decide +kernel
theorem dX0_isCoprime_47 : decode cX0_isCoprime 47 = .ok (.iconst 0, 1) := by decide +kernel
theorem dX0_isCoprime_48 : decode cX0_isCoprime 48 = .ok (.ireturn, 1) := by decide +kernel
theorem dX0_isChained_0 : decode cX0_isChained 0 = .ok (.aload_n 0, 1) := by decide +kernel
theorem dX0_isChained_1 : decode cX0_isChained 1 = .ok (.getfield 12, 3) := by decide +kernel
theorem dX0_isChained_4 : decode cX0_isChained 4 = .ok (.getfield 111, 3) := by decide +kernel
theorem dX0_isChained_7 : decode cX0_isChained 7 = .ok (.iload_n 1, 1) := by decide +kernel
theorem dX0_isChained_8 : decode cX0_isChained 8 = .ok (.iaload, 1) := by decide +kernel
theorem dX0_isChained_9 : decode cX0_isChained 9 = .ok (.istore_n 2, 1) := by decide +kernel
theorem dX0_isChained_10 : decode cX0_isChained 10 = .ok (.aload_n 0, 1) := by decide +kernel
theorem dX0_isChained_11 : decode cX0_isChained 11 = .ok (.getfield 12, 3) := by decide +kernel
theorem dX0_isChained_14 : decode cX0_isChained 14 = .ok (.getfield 117, 3) := by decide +kernel
theorem dX0_isChained_17 : decode cX0_isChained 17 = .ok (.iload_n 1, 1) := by decide +kernel
theorem dX0_isChained_18 : decode cX0_isChained 18 = .ok (.iaload, 1) := by decide +kernel
theorem dX0_isChained_19 : decode cX0_isChained 19 = .ok (.istore_n 3, 1) := by decide +kernel
theorem dX0_isChained_20 : decode cX0_isChained 20 = .ok (.aload_n 0, 1) := by decide +kernel
theorem dX0_isChained_21 : decode cX0_isChained 21 = .ok (.iload_n 1, 1) := by decide +kernel
theorem dX0_isChained_22 : decode cX0_isChained 22 = .ok (.invokevirtual 105, 3) := by decide +kernel
theorem dX0_isChained_25 : decode cX0_isChained 25 = .ok (.istore 4, 2) := by decide +kernel
theorem dX0_isChained_27 : decode cX0_isChained 27 = .ok (.iconst 0, 1) := by decide +kernel
theorem dX0_isChained_28 : decode cX0_isChained 28 = .ok (.istore 5, 2) := by decide +kernel
theorem dX0_isChained_30 : decode cX0_isChained 30 = .ok (.iload 5, 2) := by decide +kernel
theorem dX0_isChained_32 : decode cX0_isChained 32 = .ok (.aload_n 0, 1) := by decide +kernel
theorem dX0_isChained_33 : decode cX0_isChained 33 = .ok (.getfield 44, 3) := by decide +kernel
theorem dX0_isChained_36 : decode cX0_isChained 36 = .ok (.if_icmp .ge 67, 3) := by decide +kernel
theorem dX0_isChained_39 : decode cX0_isChained 39 = .ok (.iload 5, 2) := by decide +kernel
theorem dX0_isChained_41 : decode cX0_isChained 41 = .ok (.iload_n 2, 1) := by decide +kernel
theorem dX0_isChained_42 : decode cX0_isChained 42 = .ok (.if_icmp .eq 55, 3) := by decide +kernel
theorem dX0_isChained_45 : decode cX0_isChained 45 = .ok (.iload 5, 2) := by decide +kernel
theorem dX0_isChained_47 : decode cX0_isChained 47 = .ok (.iload_n 3, 1) := by decide +kernel
theorem dX0_isChained_48 : decode cX0_isChained 48 = .ok (.if_icmp .eq 49, 3) := by decide +kernel
theorem dX0_isChained_51 : decode cX0_isChained 51 = .ok (.aload_n 0, 1) := by decide +kernel
theorem dX0_isChained_52 : decode cX0_isChained 52 = .ok (.getfield 20, 3) := by decide +kernel
theorem dX0_isChained_55 : decode cX0_isChained 55 = .ok (.iload 5, 2) := by decide +kernel
theorem dX0_isChained_57 : decode cX0_isChained 57 = .ok (.aaload, 1) := by decide +kernel
theorem dX0_isChained_58 : decode cX0_isChained 58 = .ok (.invokevirtual 114, 3) := by decide +kernel
theorem dX0_isChained_61 : decode cX0_isChained 61 = .ok (.iload 4, 2) := by decide +kernel
theorem dX0_isChained_63 : decode cX0_isChained 63 = .ok (.invokestatic 126, 3) := by decide +kernel
theorem dX0_isChained_66 : decode cX0_isChained 66 = .ok (.ifCond .eq 31, 3) := by decide +kernel
theorem dX0_isChained_69 : decode cX0_isChained 69 = .ok (.aload_n 0, 1) := by decide +kernel
theorem dX0_isChained_70 : decode cX0_isChained 70 = .ok (.getfield 12, 3) := by decide +kernel
theorem dX0_isChained_73 : decode cX0_isChained 73 = .ok (.iload_n 2, 1) := by decide +kernel
theorem dX0_isChained_74 : decode cX0_isChained 74 = .ok (.iload 5, 2) := by decide +kernel
theorem dX0_isChained_76 : decode cX0_isChained 76 = .ok (.invokevirtual 130, 3) := by decide +kernel
theorem dX0_isChained_79 : decode cX0_isChained 79 = .ok (.ifCond .ne 18, 3) := by decide +kernel
theorem dX0_isChained_82 : decode cX0_isChained 82 = .ok (.aload_n 0, 1) := by decide +kernel
theorem dX0_isChained_83 : decode cX0_isChained 83 = .ok (.getfield 12, 3) := by decide +kernel
theorem dX0_isChained_86 : decode cX0_isChained 86 = .ok (.iload_n 3, 1) := by decide +kernel
theorem dX0_isChained_87 : decode cX0_isChained 87 = .ok (.iload 5, 2) := by decide +kernel
theorem dX0_isChained_89 : decode cX0_isChained 89 = .ok (.invokevirtual 130, 3) := by decide +kernel
theorem dX0_isChained_92 : decode cX0_isChained 92 = .ok (.ifCond .ne 5, 3) := by decide +kernel
theorem dX0_isChained_95 : decode cX0_isChained 95 = .ok (.iconst 1, 1) := by decide +kernel
theorem dX0_isChained_96 : decode cX0_isChained 96 = .ok (.ireturn, 1) := by decide +kernel
theorem dX0_isChained_97 : decode cX0_isChained 97 = .ok (.iinc 5 1, 3) := by decide +kernel
theorem dX0_isChained_100 : decode cX0_isChained 100 = .ok (.goto (-70), 3) := by decide +kernel
theorem dX0_isChained_103 : decode cX0_isChained 103 = .ok (.iconst 0, 1) := by decide +kernel
theorem dX0_isChained_104 : decode cX0_isChained 104 = .ok (.ireturn, 1) := by decide +kernel
theorem dX0_reduceS_0 : decode cX0_reduceS 0 = .ok (.aload_n 0, 1) := by decide +kernel
theorem dX0_reduceS_1 : decode cX0_reduceS 1 = .ok (.getfield 36, 3) := by decide +kernel
theorem dX0_reduceS_4 : decode cX0_reduceS 4 = .ok (.aload_n 0, 1) := by decide +kernel
theorem dX0_reduceS_5 : decode cX0_reduceS 5 = .ok (.getfield 32, 3) := by decide +kernel
theorem dX0_reduceS_8 : decode cX0_reduceS 8 = .ok (.aload_n 0, 1) := by decide +kernel
theorem dX0_reduceS_9 : decode cX0_reduceS 9 = .ok (.getfield 20, 3) := by decide +kernel
theorem dX0_reduceS_12 : decode cX0_reduceS 12 = .ok (.aload_n 0, 1) := by decide +kernel
theorem dX0_reduceS_13 : decode cX0_reduceS 13 = .ok (.getfield 12, 3) := by decide +kernel
theorem dX0_reduceS_16 : decode cX0_reduceS 16 = .ok (.getfield 111, 3) := by decide +kernel
theorem dX0_reduceS_19 : decode cX0_reduceS 19 = .ok (.iload_n 1, 1) := by decide +kernel
theorem dX0_reduceS_20 : decode cX0_reduceS 20 = .ok (.iaload, 1) := by decide +kernel
theorem dX0_reduceS_21 : decode cX0_reduceS 21 = .ok (.aaload, 1) := by decide +kernel
theorem dX0_reduceS_22 : decode cX0_reduceS 22 = .ok (.aload_n 0, 1) := by decide +kernel
theorem dX0_reduceS_23 : decode cX0_reduceS 23 = .ok (.getfield 20, 3) := by decide +kernel
theorem dX0_reduceS_26 : decode cX0_reduceS 26 = .ok (.aload_n 0, 1) := by decide +kernel
theorem dX0_reduceS_27 : decode cX0_reduceS 27 = .ok (.getfield 12, 3) := by decide +kernel
theorem dX0_reduceS_30 : decode cX0_reduceS 30 = .ok (.getfield 117, 3) := by decide +kernel
theorem dX0_reduceS_33 : decode cX0_reduceS 33 = .ok (.iload_n 1, 1) := by decide +kernel
theorem dX0_reduceS_34 : decode cX0_reduceS 34 = .ok (.iaload, 1) := by decide +kernel
theorem dX0_reduceS_35 : decode cX0_reduceS 35 = .ok (.aaload, 1) := by decide +kernel
theorem dX0_reduceS_36 : decode cX0_reduceS 36 = .ok (.invokevirtual 133, 3) := by decide +kernel
theorem dX0_reduceS_39 : decode cX0_reduceS 39 = .ok (.istore_n 2, 1) := by decide +kernel
theorem dX0_reduceS_40 : decode cX0_reduceS 40 = .ok (.iload_n 2, 1) := by decide +kernel
theorem dX0_reduceS_41 : decode cX0_reduceS 41 = .ok (.ifCond .ne 24, 3) := by decide +kernel
theorem dX0_reduceS_44 : decode cX0_reduceS 44 = .ok (.aload_n 0, 1) := by decide +kernel
theorem dX0_reduceS_45 : decode cX0_reduceS 45 = .ok (.getfield 40, 3) := by decide +kernel
theorem dX0_reduceS_48 : decode cX0_reduceS 48 = .ok (.aload_n 0, 1) := by decide +kernel
theorem dX0_reduceS_49 : decode cX0_reduceS 49 = .ok (.getfield 32, 3) := by decide +kernel
theorem dX0_reduceS_52 : decode cX0_reduceS 52 = .ok (.aload_n 0, 1) := by decide +kernel
theorem dX0_reduceS_53 : decode cX0_reduceS 53 = .ok (.getfield 20, 3) := by decide +kernel
theorem dX0_reduceS_56 : decode cX0_reduceS 56 = .ok (.aload_n 0, 1) := by decide +kernel
theorem dX0_reduceS_57 : decode cX0_reduceS 57 = .ok (.getfield 44, 3) := by decide +kernel
theorem dX0_reduceS_60 : decode cX0_reduceS 60 = .ok (.iconst (-1), 1) := by decide +kernel
theorem dX0_reduceS_61 : decode cX0_reduceS 61 = .ok (.invokevirtual 137, 3) := by decide +kernel
theorem dX0_reduceS_64 : decode cX0_reduceS 64 = .ok (.istore_n 2, 1) := by decide +kernel
theorem dX0_reduceS_65 : decode cX0_reduceS 65 = .ok (.iload_n 2, 1) := by decide +kernel
theorem dX0_reduceS_66 : decode cX0_reduceS 66 = .ok (.ifCond .eq 5, 3) := by decide +kernel
theorem dX0_reduceS_69 : decode cX0_reduceS 69 = .ok (.iload_n 2, 1) := by decide +kernel
theorem dX0_reduceS_70 : decode cX0_reduceS 70 = .ok (.ireturn, 1) := by decide +kernel
theorem dX0_reduceS_71 : decode cX0_reduceS 71 = .ok (.aload_n 0, 1) := by decide +kernel
theorem dX0_reduceS_72 : decode cX0_reduceS 72 = .ok (.getfield 40, 3) := by decide +kernel
theorem dX0_reduceS_75 : decode cX0_reduceS 75 = .ok (.getfield 141, 3) := by decide +kernel
theorem dX0_reduceS_78 : decode cX0_reduceS 78 = .ok (.getfield 144, 3) := by decide +kernel
theorem dX0_reduceS_81 : decode cX0_reduceS 81 = .ok (.ifCond .ne 15, 3) := by decide +kernel
theorem dX0_reduceS_84 : decode cX0_reduceS 84 = .ok (.aload_n 0, 1) := by decide +kernel
theorem dX0_reduceS_85 : decode cX0_reduceS 85 = .ok (.dup, 1) := by decide +kernel
theorem dX0_reduceS_86 : decode cX0_reduceS 86 = .ok (.getfield 145, 3) := by decide +kernel
theorem dX0_reduceS_89 : decode cX0_reduceS 89 = .ok (.iconst 1, 1) := by decide +kernel
theorem dX0_reduceS_90 : decode cX0_reduceS 90 = .ok (.iadd, 1) := by decide +kernel
theorem dX0_reduceS_91 : decode cX0_reduceS 91 = .ok (.putfield 145, 3) := by decide +kernel
theorem dX0_reduceS_94 : decode cX0_reduceS 94 = .ok (.iconst 0, 1) := by decide +kernel
theorem dX0_reduceS_95 : decode cX0_reduceS 95 = .ok (.ireturn, 1) := by decide +kernel
theorem dX0_reduceS_96 : decode cX0_reduceS 96 = .ok (.aload_n 0, 1) := by decide +kernel
theorem dX0_reduceS_97 : decode cX0_reduceS 97 = .ok (.aload_n 0, 1) := by decide +kernel
theorem dX0_reduceS_98 : decode cX0_reduceS 98 = .ok (.getfield 40, 3) := by decide +kernel
theorem dX0_reduceS_101 : decode cX0_reduceS 101 = .ok (.getfield 141, 3) := by decide +kernel
theorem dX0_reduceS_104 : decode cX0_reduceS 104 = .ok (.invokevirtual 148, 3) := by decide +kernel
theorem dX0_reduceS_107 : decode cX0_reduceS 107 = .ok (.bipush (-4), 2) := by decide +kernel
theorem dX0_reduceS_109 : decode cX0_reduceS 109 = .ok (.if_icmp .ne 6, 3) := by decide +kernel
theorem dX0_reduceS_112 : decode cX0_reduceS 112 = .ok (.bipush (-4), 2) := by decide +kernel
theorem dX0_reduceS_114 : decode cX0_reduceS 114 = .ok (.ireturn, 1) := by decide +kernel
theorem dX0_reduceS_115 : decode cX0_reduceS 115 = .ok (.aload_n 0, 1) := by decide +kernel
theorem dX0_reduceS_116 : decode cX0_reduceS 116 = .ok (.dup, 1) := by decide +kernel
theorem dX0_reduceS_117 : decode cX0_reduceS 117 = .ok (.getfield 152, 3) := by decide +kernel
theorem dX0_reduceS_120 : decode cX0_reduceS 120 = .ok (.iconst 1, 1) := by decide +kernel
theorem dX0_reduceS_121 : decode cX0_reduceS 121 = .ok (.iadd, 1) := by decide +kernel
theorem dX0_reduceS_122 : decode cX0_reduceS 122 = .ok (.putfield 152, 3) := by decide +kernel
theorem dX0_reduceS_125 : decode cX0_reduceS 125 = .ok (.iconst 0, 1) := by decide +kernel
theorem dX0_reduceS_126 : decode cX0_reduceS 126 = .ok (.ireturn, 1) := by decide +kernel
theorem dX0_makeTidy_0 : decode cX0_makeTidy 0 = .ok (.aload_n 0, 1) := by decide +kernel
theorem dX0_makeTidy_1 : decode cX0_makeTidy 1 = .ok (.getfield 40, 3) := by decide +kernel
theorem dX0_makeTidy_4 : decode cX0_makeTidy 4 = .ok (.invokevirtual 70, 3) := by decide +kernel
theorem dX0_makeTidy_7 : decode cX0_makeTidy 7 = .ok (.aload_n 0, 1) := by decide +kernel
theorem dX0_makeTidy_8 : decode cX0_makeTidy 8 = .ok (.invokevirtual 155, 3) := by decide +kernel
theorem dX0_makeTidy_11 : decode cX0_makeTidy 11 = .ok (.istore_n 1, 1) := by decide +kernel
theorem dX0_makeTidy_12 : decode cX0_makeTidy 12 = .ok (.iconst 0, 1) := by decide +kernel
theorem dX0_makeTidy_13 : decode cX0_makeTidy 13 = .ok (.istore_n 2, 1) := by decide +kernel
theorem dX0_makeTidy_14 : decode cX0_makeTidy 14 = .ok (.iload_n 2, 1) := by decide +kernel
theorem dX0_makeTidy_15 : decode cX0_makeTidy 15 = .ok (.iload_n 1, 1) := by decide +kernel
theorem dX0_makeTidy_16 : decode cX0_makeTidy 16 = .ok (.if_icmp .ge 29, 3) := by decide +kernel
theorem dX0_makeTidy_19 : decode cX0_makeTidy 19 = .ok (.aload_n 0, 1) := by decide +kernel
theorem dX0_makeTidy_20 : decode cX0_makeTidy 20 = .ok (.getfield 24, 3) := by decide +kernel
theorem dX0_makeTidy_23 : decode cX0_makeTidy 23 = .ok (.iload_n 2, 1) := by decide +kernel
theorem dX0_makeTidy_24 : decode cX0_makeTidy 24 = .ok (.aaload, 1) := by decide +kernel
theorem dX0_makeTidy_25 : decode cX0_makeTidy 25 = .ok (.aload_n 0, 1) := by decide +kernel
theorem dX0_makeTidy_26 : decode cX0_makeTidy 26 = .ok (.getfield 20, 3) := by decide +kernel
theorem dX0_makeTidy_29 : decode cX0_makeTidy 29 = .ok (.aload_n 0, 1) := by decide +kernel
theorem dX0_makeTidy_30 : decode cX0_makeTidy 30 = .ok (.getfield 27, 3) := by decide +kernel
theorem dX0_makeTidy_33 : decode cX0_makeTidy 33 = .ok (.iload_n 2, 1) := by decide +kernel
theorem dX0_makeTidy_34 : decode cX0_makeTidy 34 = .ok (.iaload, 1) := by decide +kernel
theorem dX0_makeTidy_35 : decode cX0_makeTidy 35 = .ok (.aaload, 1) := by decide +kernel
theorem dX0_makeTidy_36 : decode cX0_makeTidy 36 = .ok (.invokevirtual 57, 3) := by decide +kernel
theorem dX0_makeTidy_39 : decode cX0_makeTidy 39 = .ok (.iinc 2 1, 3) := by decide +kernel
theorem dX0_makeTidy_42 : decode cX0_makeTidy 42 = .ok (.goto (-28), 3) := by decide +kernel
theorem dX0_makeTidy_45 : decode cX0_makeTidy 45 = .ok (.iconst 0, 1) := by decide +kernel
theorem dX0_makeTidy_46 : decode cX0_makeTidy 46 = .ok (.istore_n 2, 1) := by decide +kernel
theorem dX0_makeTidy_47 : decode cX0_makeTidy 47 = .ok (.iload_n 2, 1) := by decide +kernel
theorem dX0_makeTidy_48 : decode cX0_makeTidy 48 = .ok (.iload_n 1, 1) := by decide +kernel
theorem dX0_makeTidy_49 : decode cX0_makeTidy 49 = .ok (.if_icmp .ge 22, 3) := by decide +kernel
theorem dX0_makeTidy_52 : decode cX0_makeTidy 52 = .ok (.aload_n 0, 1) := by decide +kernel
theorem dX0_makeTidy_53 : decode cX0_makeTidy 53 = .ok (.iload_n 2, 1) := by decide +kernel
theorem dX0_makeTidy_54 : decode cX0_makeTidy 54 = .ok (.iload_n 1, 1) := by decide +kernel
theorem dX0_makeTidy_55 : decode cX0_makeTidy 55 = .ok (.invokevirtual 158, 3) := by decide +kernel
theorem dX0_makeTidy_58 : decode cX0_makeTidy 58 = .ok (.istore_n 3, 1) := by decide +kernel
theorem dX0_makeTidy_59 : decode cX0_makeTidy 59 = .ok (.iload_n 3, 1) := by decide +kernel
theorem dX0_makeTidy_60 : decode cX0_makeTidy 60 = .ok (.ifCond .eq 5, 3) := by decide +kernel
theorem dX0_makeTidy_63 : decode cX0_makeTidy 63 = .ok (.iload_n 3, 1) := by decide +kernel
theorem dX0_makeTidy_64 : decode cX0_makeTidy 64 = .ok (.ireturn, 1) := by decide +kernel
theorem dX0_makeTidy_65 : decode cX0_makeTidy 65 = .ok (.iinc 2 1, 3) := by decide +kernel
theorem dX0_makeTidy_68 : decode cX0_makeTidy 68 = .ok (.goto (-21), 3) := by decide +kernel
theorem dX0_makeTidy_71 : decode cX0_makeTidy 71 = .ok (.aload_n 0, 1) := by decide +kernel
theorem dX0_makeTidy_72 : decode cX0_makeTidy 72 = .ok (.getfield 20, 3) := by decide +kernel
theorem dX0_makeTidy_75 : decode cX0_makeTidy 75 = .ok (.astore_n 2, 1) := by decide +kernel
theorem dX0_makeTidy_76 : decode cX0_makeTidy 76 = .ok (.aload_n 0, 1) := by decide +kernel
theorem dX0_makeTidy_77 : decode cX0_makeTidy 77 = .ok (.aload_n 0, 1) := by decide +kernel
theorem dX0_makeTidy_78 : decode cX0_makeTidy 78 = .ok (.getfield 24, 3) := by decide +kernel
theorem dX0_makeTidy_81 : decode cX0_makeTidy 81 = .ok (.putfield 20, 3) := by decide +kernel
theorem dX0_makeTidy_84 : decode cX0_makeTidy 84 = .ok (.aload_n 0, 1) := by decide +kernel
theorem dX0_makeTidy_85 : decode cX0_makeTidy 85 = .ok (.aload_n 2, 1) := by decide +kernel
theorem dX0_makeTidy_86 : decode cX0_makeTidy 86 = .ok (.putfield 24, 3) := by decide +kernel
theorem dX0_makeTidy_89 : decode cX0_makeTidy 89 = .ok (.aload_n 0, 1) := by decide +kernel
theorem dX0_makeTidy_90 : decode cX0_makeTidy 90 = .ok (.iload_n 1, 1) := by decide +kernel
theorem dX0_makeTidy_91 : decode cX0_makeTidy 91 = .ok (.putfield 44, 3) := by decide +kernel
theorem dX0_makeTidy_94 : decode cX0_makeTidy 94 = .ok (.aload_n 0, 1) := by decide +kernel
theorem dX0_makeTidy_95 : decode cX0_makeTidy 95 = .ok (.iconst 1, 1) := by decide +kernel
theorem dX0_makeTidy_96 : decode cX0_makeTidy 96 = .ok (.putfield 49, 3) := by decide +kernel
theorem dX0_makeTidy_99 : decode cX0_makeTidy 99 = .ok (.iload_n 1, 1) := by decide +kernel
theorem dX0_makeTidy_100 : decode cX0_makeTidy 100 = .ok (.ireturn, 1) := by decide +kernel
theorem dX0_sortThoseThatStay_0 : decode cX0_sortThoseThatStay 0 = .ok (.iconst 0, 1) := by decide +kernel
theorem dX0_sortThoseThatStay_1 : decode cX0_sortThoseThatStay 1 = .ok (.istore_n 1, 1) := by decide +kernel
theorem dX0_sortThoseThatStay_2 : decode cX0_sortThoseThatStay 2 = .ok (.iconst 0, 1) := by decide +kernel
theorem dX0_sortThoseThatStay_3 : decode cX0_sortThoseThatStay 3 = .ok (.istore_n 2, 1) := by decide +kernel
theorem dX0_sortThoseThatStay_4 : decode cX0_sortThoseThatStay 4 = .ok (.iload_n 2, 1) := by decide +kernel
theorem dX0_sortThoseThatStay_5 : decode cX0_sortThoseThatStay 5 = .ok (.aload_n 0, 1) := by decide +kernel
theorem dX0_sortThoseThatStay_6 : decode cX0_sortThoseThatStay 6 = .ok (.getfield 44, 3) := by decide +kernel
theorem dX0_sortThoseThatStay_9 : decode cX0_sortThoseThatStay 9 = .ok (.if_icmp .ge 95, 3) := by decide +kernel
theorem dX0_sortThoseThatStay_12 : decode cX0_sortThoseThatStay 12 = .ok (.aload_n 0, 1) := by decide +kernel
theorem dX0_sortThoseThatStay_13 : decode cX0_sortThoseThatStay 13 = .ok (.iload_n 2, 1) := by decide +kernel
theorem dX0_sortThoseThatStay_14 : decode cX0_sortThoseThatStay 14 = .ok (.invokevirtual 161, 3) := by decide +kernel
theorem dX0_sortThoseThatStay_17 : decode cX0_sortThoseThatStay 17 = .ok (.ifCond .ne 81, 3) := by decide +kernel
theorem dX0_sortThoseThatStay_20 : decode cX0_sortThoseThatStay 20 = .ok (.iload_n 1, 1) := by decide +kernel
theorem dX0_sortThoseThatStay_21 : decode cX0_sortThoseThatStay 21 = .ok (.istore_n 3, 1) := by decide +kernel
theorem dX0_sortThoseThatStay_22 : decode cX0_sortThoseThatStay 22 = .ok (.iload_n 3, 1) := by decide +kernel
