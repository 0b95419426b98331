theorem dX0_sortThoseThatStay_23 : decode cX0_sortThoseThatStay 23 = .ok (.ifCond .le 65, 3) := by decide +kernel
theorem dX0_sortThoseThatStay_26 : decode cX0_sortThoseThatStay 26 = .ok (.aload_n 0, 1) := by decide +kernel
theorem dX0_sortThoseThatStay_27 : decode cX0_sortThoseThatStay 27 = .ok (.getfield 36, 3) := by decide +kernel
theorem dX0_sortThoseThatStay_30 : decode cX0_sortThoseThatStay 30 = .ok (.aload_n 0, 1) := by decide +kernel
theorem dX0_sortThoseThatStay_31 : decode cX0_sortThoseThatStay 31 = .ok (.getfield 20, 3) := by decide +kernel
theorem dX0_sortThoseThatStay_34 : decode cX0_sortThoseThatStay 34 = .ok (.aload_n 0, 1) := by decide +kernel
theorem dX0_sortThoseThatStay_35 : decode cX0_sortThoseThatStay 35 = .ok (.getfield 27, 3) := by decide +kernel
theorem dX0_sortThoseThatStay_38 : decode cX0_sortThoseThatStay 38 = .ok (.iload_n 3, 1) := by decide +kernel
theorem dX0_sortThoseThatStay_39 : decode cX0_sortThoseThatStay 39 = .ok (.iconst 1, 1) := by decide +kernel
theorem dX0_sortThoseThatStay_40 : decode cX0_sortThoseThatStay 40 = .ok (.isub, 1) := by decide +kernel
theorem dX0_sortThoseThatStay_41 : decode cX0_sortThoseThatStay 41 = .ok (.iaload, 1) := by decide +kernel
theorem dX0_sortThoseThatStay_42 : decode cX0_sortThoseThatStay 42 = .ok (.aaload, 1) := by decide +kernel
theorem dX0_sortThoseThatStay_43 : decode cX0_sortThoseThatStay 43 = .ok (.invokevirtual 114, 3) := by decide +kernel
theorem dX0_sortThoseThatStay_46 : decode cX0_sortThoseThatStay 46 = .ok (.invokevirtual 108, 3) := by decide +kernel
theorem dX0_sortThoseThatStay_49 : decode cX0_sortThoseThatStay 49 = .ok (.aload_n 0, 1) := by decide +kernel
theorem dX0_sortThoseThatStay_50 : decode cX0_sortThoseThatStay 50 = .ok (.getfield 36, 3) := by decide +kernel
theorem dX0_sortThoseThatStay_53 : decode cX0_sortThoseThatStay 53 = .ok (.aload_n 0, 1) := by decide +kernel
theorem dX0_sortThoseThatStay_54 : decode cX0_sortThoseThatStay 54 = .ok (.getfield 20, 3) := by decide +kernel
theorem dX0_sortThoseThatStay_57 : decode cX0_sortThoseThatStay 57 = .ok (.iload_n 2, 1) := by decide +kernel
theorem dX0_sortThoseThatStay_58 : decode cX0_sortThoseThatStay 58 = .ok (.aaload, 1) := by decide +kernel
theorem dX0_sortThoseThatStay_59 : decode cX0_sortThoseThatStay 59 = .ok (.invokevirtual 114, 3) := by decide +kernel
theorem dX0_sortThoseThatStay_62 : decode cX0_sortThoseThatStay 62 = .ok (.invokevirtual 108, 3) := by decide +kernel
theorem dX0_sortThoseThatStay_65 : decode cX0_sortThoseThatStay 65 = .ok (.if_icmp .le 23, 3) := by decide +kernel
theorem dX0_sortThoseThatStay_68 : decode cX0_sortThoseThatStay 68 = .ok (.aload_n 0, 1) := by decide +kernel
theorem dX0_sortThoseThatStay_69 : decode cX0_sortThoseThatStay 69 = .ok (.getfield 27, 3) := by decide +kernel
theorem dX0_sortThoseThatStay_72 : decode cX0_sortThoseThatStay 72 = .ok (.iload_n 3, 1) := by decide +kernel
theorem dX0_sortThoseThatStay_73 : decode cX0_sortThoseThatStay 73 = .ok (.aload_n 0, 1) := by decide +kernel
theorem dX0_sortThoseThatStay_74 : decode cX0_sortThoseThatStay 74 = .ok (.getfield 27, 3) := by decide +kernel
theorem dX0_sortThoseThatStay_77 : decode cX0_sortThoseThatStay 77 = .ok (.iload_n 3, 1) := by decide +kernel
theorem dX0_sortThoseThatStay_78 : decode cX0_sortThoseThatStay 78 = .ok (.iconst 1, 1) := by decide +kernel
theorem dX0_sortThoseThatStay_79 : decode cX0_sortThoseThatStay 79 = .ok (.isub, 1) := by decide +kernel
theorem dX0_sortThoseThatStay_80 : decode cX0_sortThoseThatStay 80 = .ok (.iaload, 1) := by decide +kernel
theorem dX0_sortThoseThatStay_81 : decode cX0_sortThoseThatStay 81 = .ok (.iastore, 1) := by decide +kernel
theorem dX0_sortThoseThatStay_82 : decode cX0_sortThoseThatStay 82 = .ok (.iinc 3 (-1), 3) := by decide +kernel
theorem dX0_sortThoseThatStay_85 : decode cX0_sortThoseThatStay 85 = .ok (.goto (-63), 3) := by decide +kernel
theorem dX0_sortThoseThatStay_88 : decode cX0_sortThoseThatStay 88 = .ok (.aload_n 0, 1) := by decide +kernel
theorem dX0_sortThoseThatStay_89 : decode cX0_sortThoseThatStay 89 = .ok (.getfield 27, 3) := by decide +kernel
theorem dX0_sortThoseThatStay_92 : decode cX0_sortThoseThatStay 92 = .ok (.iload_n 3, 1) := by decide +kernel
theorem dX0_sortThoseThatStay_93 : decode cX0_sortThoseThatStay 93 = .ok (.iload_n 2, 1) := by decide +kernel
theorem dX0_sortThoseThatStay_94 : decode cX0_sortThoseThatStay 94 = .ok (.iastore, 1) := by decide +kernel
theorem dX0_sortThoseThatStay_95 : decode cX0_sortThoseThatStay 95 = .ok (.iinc 1 1, 3) := by decide +kernel
theorem dX0_sortThoseThatStay_98 : decode cX0_sortThoseThatStay 98 = .ok (.iinc 2 1, 3) := by decide +kernel
theorem dX0_sortThoseThatStay_101 : decode cX0_sortThoseThatStay 101 = .ok (.goto (-97), 3) := by decide +kernel
theorem dX0_sortThoseThatStay_104 : decode cX0_sortThoseThatStay 104 = .ok (.iload_n 1, 1) := by decide +kernel
theorem dX0_sortThoseThatStay_105 : decode cX0_sortThoseThatStay 105 = .ok (.ireturn, 1) := by decide +kernel
theorem dX0_isNeedless_0 : decode cX0_isNeedless 0 = .ok (.aload_n 0, 1) := by decide +kernel
theorem dX0_isNeedless_1 : decode cX0_isNeedless 1 = .ok (.getfield 20, 3) := by decide +kernel
theorem dX0_isNeedless_4 : decode cX0_isNeedless 4 = .ok (.iload_n 1, 1) := by decide +kernel
theorem dX0_isNeedless_5 : decode cX0_isNeedless 5 = .ok (.aaload, 1) := by decide +kernel
theorem dX0_isNeedless_6 : decode cX0_isNeedless 6 = .ok (.invokevirtual 114, 3) := by decide +kernel
theorem dX0_isNeedless_9 : decode cX0_isNeedless 9 = .ok (.istore_n 2, 1) := by decide +kernel
theorem dX0_isNeedless_10 : decode cX0_isNeedless 10 = .ok (.iconst 0, 1) := by decide +kernel
theorem dX0_isNeedless_11 : decode cX0_isNeedless 11 = .ok (.istore_n 3, 1) := by decide +kernel
theorem dX0_isNeedless_12 : decode cX0_isNeedless 12 = .ok (.iload_n 3, 1) := by decide +kernel
theorem dX0_isNeedless_13 : decode cX0_isNeedless 13 = .ok (.aload_n 0, 1) := by decide +kernel
theorem dX0_isNeedless_14 : decode cX0_isNeedless 14 = .ok (.getfield 44, 3) := by decide +kernel
theorem dX0_isNeedless_17 : decode cX0_isNeedless 17 = .ok (.if_icmp .ge 47, 3) := by decide +kernel
theorem dX0_isNeedless_20 : decode cX0_isNeedless 20 = .ok (.aload_n 0, 1) := by decide +kernel
theorem dX0_isNeedless_21 : decode cX0_isNeedless 21 = .ok (.getfield 20, 3) := by decide +kernel
theorem dX0_isNeedless_24 : decode cX0_isNeedless 24 = .ok (.iload_n 3, 1) := by decide +kernel
theorem dX0_isNeedless_25 : decode cX0_isNeedless 25 = .ok (.aaload, 1) := by decide +kernel
theorem dX0_isNeedless_26 : decode cX0_isNeedless 26 = .ok (.invokevirtual 114, 3) := by decide +kernel
theorem dX0_isNeedless_29 : decode cX0_isNeedless 29 = .ok (.istore 4, 2) := by decide +kernel
theorem dX0_isNeedless_31 : decode cX0_isNeedless 31 = .ok (.iload_n 3, 1) := by decide +kernel
theorem dX0_isNeedless_32 : decode cX0_isNeedless 32 = .ok (.iload_n 1, 1) := by decide +kernel
theorem dX0_isNeedless_33 : decode cX0_isNeedless 33 = .ok (.if_icmp .eq 25, 3) := by decide +kernel
theorem dX0_isNeedless_36 : decode cX0_isNeedless 36 = .ok (.iload 4, 2) := by decide +kernel
theorem dX0_isNeedless_38 : decode cX0_isNeedless 38 = .ok (.iload_n 2, 1) := by decide +kernel
theorem dX0_isNeedless_39 : decode cX0_isNeedless 39 = .ok (.invokestatic 126, 3) := by decide +kernel
theorem dX0_isNeedless_42 : decode cX0_isNeedless 42 = .ok (.ifCond .eq 16, 3) := by decide +kernel
theorem dX0_isNeedless_45 : decode cX0_isNeedless 45 = .ok (.iload 4, 2) := by decide +kernel
theorem dX0_isNeedless_47 : decode cX0_isNeedless 47 = .ok (.iload_n 2, 1) := by decide +kernel
theorem dX0_isNeedless_48 : decode cX0_isNeedless 48 = .ok (.if_icmp .ne 8, 3) := by decide +kernel
theorem dX0_isNeedless_51 : decode cX0_isNeedless 51 = .ok (.iload_n 3, 1) := by decide +kernel
theorem dX0_isNeedless_52 : decode cX0_isNeedless 52 = .ok (.iload_n 1, 1) := by decide +kernel
theorem dX0_isNeedless_53 : decode cX0_isNeedless 53 = .ok (.if_icmp .ge 5, 3) := by decide +kernel
theorem dX0_isNeedless_56 : decode cX0_isNeedless 56 = .ok (.iconst 1, 1) := by decide +kernel
theorem dX0_isNeedless_57 : decode cX0_isNeedless 57 = .ok (.ireturn, 1) := by decide +kernel
theorem dX0_isNeedless_58 : decode cX0_isNeedless 58 = .ok (.iinc 3 1, 3) := by decide +kernel
theorem dX0_isNeedless_61 : decode cX0_isNeedless 61 = .ok (.goto (-49), 3) := by decide +kernel
theorem dX0_isNeedless_64 : decode cX0_isNeedless 64 = .ok (.iconst 0, 1) := by decide +kernel
theorem dX0_isNeedless_65 : decode cX0_isNeedless 65 = .ok (.ireturn, 1) := by decide +kernel
theorem dX0_reduceTail_0 : decode cX0_reduceTail 0 = .ok (.aload_n 0, 1) := by decide +kernel
theorem dX0_reduceTail_1 : decode cX0_reduceTail 1 = .ok (.getfield 24, 3) := by decide +kernel
theorem dX0_reduceTail_4 : decode cX0_reduceTail 4 = .ok (.iload_n 1, 1) := by decide +kernel
theorem dX0_reduceTail_5 : decode cX0_reduceTail 5 = .ok (.aaload, 1) := by decide +kernel
theorem dX0_reduceTail_6 : decode cX0_reduceTail 6 = .ok (.astore_n 3, 1) := by decide +kernel
theorem dX0_reduceTail_7 : decode cX0_reduceTail 7 = .ok (.aload_n 0, 1) := by decide +kernel
theorem dX0_reduceTail_8 : decode cX0_reduceTail 8 = .ok (.getfield 32, 3) := by decide +kernel
theorem dX0_reduceTail_11 : decode cX0_reduceTail 11 = .ok (.aload_n 3, 1) := by decide +kernel
theorem dX0_reduceTail_12 : decode cX0_reduceTail 12 = .ok (.iconst 1, 1) := by decide +kernel
theorem dX0_reduceTail_13 : decode cX0_reduceTail 13 = .ok (.invokevirtual 164, 3) := by decide +kernel
theorem dX0_reduceTail_16 : decode cX0_reduceTail 16 = .ok (.aload_n 0, 1) := by decide +kernel
theorem dX0_reduceTail_17 : decode cX0_reduceTail 17 = .ok (.getfield 40, 3) := by decide +kernel
theorem dX0_reduceTail_20 : decode cX0_reduceTail 20 = .ok (.aload_n 0, 1) := by decide +kernel
theorem dX0_reduceTail_21 : decode cX0_reduceTail 21 = .ok (.getfield 32, 3) := by decide +kernel
theorem dX0_reduceTail_24 : decode cX0_reduceTail 24 = .ok (.aload_n 0, 1) := by decide +kernel
theorem dX0_reduceTail_25 : decode cX0_reduceTail 25 = .ok (.getfield 24, 3) := by decide +kernel
theorem dX0_reduceTail_28 : decode cX0_reduceTail 28 = .ok (.iload_n 2, 1) := by decide +kernel
theorem dX0_reduceTail_29 : decode cX0_reduceTail 29 = .ok (.iload_n 1, 1) := by decide +kernel
theorem dX0_reduceTail_30 : decode cX0_reduceTail 30 = .ok (.invokevirtual 137, 3) := by decide +kernel
theorem dX0_reduceTail_33 : decode cX0_reduceTail 33 = .ok (.istore 4, 2) := by decide +kernel
theorem dX0_reduceTail_35 : decode cX0_reduceTail 35 = .ok (.iload 4, 2) := by decide +kernel
theorem dX0_reduceTail_37 : decode cX0_reduceTail 37 = .ok (.ifCond .eq 6, 3) := by decide +kernel
theorem dX0_reduceTail_40 : decode cX0_reduceTail 40 = .ok (.iload 4, 2) := by decide +kernel
theorem dX0_reduceTail_42 : decode cX0_reduceTail 42 = .ok (.ireturn, 1) := by decide +kernel
theorem dX0_reduceTail_43 : decode cX0_reduceTail 43 = .ok (.aload_n 3, 1) := by decide +kernel
theorem dX0_reduceTail_44 : decode cX0_reduceTail 44 = .ok (.iconst 1, 1) := by decide +kernel
theorem dX0_reduceTail_45 : decode cX0_reduceTail 45 = .ok (.putfield 144, 3) := by decide +kernel
theorem dX0_reduceTail_48 : decode cX0_reduceTail 48 = .ok (.iconst 0, 1) := by decide +kernel
theorem dX0_reduceTail_49 : decode cX0_reduceTail 49 = .ok (.istore 5, 2) := by decide +kernel
theorem dX0_reduceTail_51 : decode cX0_reduceTail 51 = .ok (.iload 5, 2) := by decide +kernel
theorem dX0_reduceTail_53 : decode cX0_reduceTail 53 = .ok (.aload_n 0, 1) := by decide +kernel
theorem dX0_reduceTail_54 : decode cX0_reduceTail 54 = .ok (.getfield 40, 3) := by decide +kernel
theorem dX0_reduceTail_57 : decode cX0_reduceTail 57 = .ok (.getfield 141, 3) := by decide +kernel
theorem dX0_reduceTail_60 : decode cX0_reduceTail 60 = .ok (.getfield 144, 3) := by decide +kernel
theorem dX0_reduceTail_63 : decode cX0_reduceTail 63 = .ok (.if_icmp .ge 45, 3) := by decide +kernel
theorem dX0_reduceTail_66 : decode cX0_reduceTail 66 = .ok (.aload_n 3, 1) := by decide +kernel
theorem dX0_reduceTail_67 : decode cX0_reduceTail 67 = .ok (.aload_n 0, 1) := by decide +kernel
theorem dX0_reduceTail_68 : decode cX0_reduceTail 68 = .ok (.getfield 40, 3) := by decide +kernel
theorem dX0_reduceTail_71 : decode cX0_reduceTail 71 = .ok (.getfield 141, 3) := by decide +kernel
theorem dX0_reduceTail_74 : decode cX0_reduceTail 74 = .ok (.getfield 168, 3) := by decide +kernel
theorem dX0_reduceTail_77 : decode cX0_reduceTail 77 = .ok (.iload 5, 2) := by decide +kernel
theorem dX0_reduceTail_79 : decode cX0_reduceTail 79 = .ok (.iaload, 1) := by decide +kernel
theorem dX0_reduceTail_80 : decode cX0_reduceTail 80 = .ok (.aload_n 0, 1) := by decide +kernel
theorem dX0_reduceTail_81 : decode cX0_reduceTail 81 = .ok (.getfield 40, 3) := by decide +kernel
theorem dX0_reduceTail_84 : decode cX0_reduceTail 84 = .ok (.getfield 141, 3) := by decide +kernel
theorem dX0_reduceTail_87 : decode cX0_reduceTail 87 = .ok (.getfield 171, 3) := by decide +kernel
theorem dX0_reduceTail_90 : decode cX0_reduceTail 90 = .ok (.iload 5, 2) := by decide +kernel
theorem dX0_reduceTail_92 : decode cX0_reduceTail 92 = .ok (.iaload, 1) := by decide +kernel
theorem dX0_reduceTail_93 : decode cX0_reduceTail 93 = .ok (.invokevirtual 174, 3) := by decide +kernel
theorem dX0_reduceTail_96 : decode cX0_reduceTail 96 = .ok (.ifCond .ne 6, 3) := by decide +kernel
theorem dX0_reduceTail_99 : decode cX0_reduceTail 99 = .ok (.bipush (-6), 2) := by decide +kernel
theorem dX0_reduceTail_101 : decode cX0_reduceTail 101 = .ok (.ireturn, 1) := by decide +kernel
theorem dX0_reduceTail_102 : decode cX0_reduceTail 102 = .ok (.iinc 5 1, 3) := by decide +kernel
theorem dX0_reduceTail_105 : decode cX0_reduceTail 105 = .ok (.goto (-54), 3) := by decide +kernel
theorem dX0_reduceTail_108 : decode cX0_reduceTail 108 = .ok (.iconst 0, 1) := by decide +kernel
theorem dX0_reduceTail_109 : decode cX0_reduceTail 109 = .ok (.ireturn, 1) := by decide +kernel
theorem dX0_countWithoutFirst_0 : decode cX0_countWithoutFirst 0 = .ok (.iconst 0, 1) := by decide +kernel
theorem dX0_countWithoutFirst_1 : decode cX0_countWithoutFirst 1 = .ok (.istore_n 2, 1) := by decide +kernel
theorem dX0_countWithoutFirst_2 : decode cX0_countWithoutFirst 2 = .ok (.iconst 0, 1) := by decide +kernel
theorem dX0_countWithoutFirst_3 : decode cX0_countWithoutFirst 3 = .ok (.istore_n 3, 1) := by decide +kernel
theorem dX0_countWithoutFirst_4 : decode cX0_countWithoutFirst 4 = .ok (.iload_n 3, 1) := by decide +kernel
theorem dX0_countWithoutFirst_5 : decode cX0_countWithoutFirst 5 = .ok (.aload_n 0, 1) := by decide +kernel
theorem dX0_countWithoutFirst_6 : decode cX0_countWithoutFirst 6 = .ok (.getfield 44, 3) := by decide +kernel
theorem dX0_countWithoutFirst_9 : decode cX0_countWithoutFirst 9 = .ok (.if_icmp .ge 25, 3) := by decide +kernel
theorem dX0_countWithoutFirst_12 : decode cX0_countWithoutFirst 12 = .ok (.aload_n 0, 1) := by decide +kernel
theorem dX0_countWithoutFirst_13 : decode cX0_countWithoutFirst 13 = .ok (.getfield 20, 3) := by decide +kernel
theorem dX0_countWithoutFirst_16 : decode cX0_countWithoutFirst 16 = .ok (.iload_n 3, 1) := by decide +kernel
theorem dX0_countWithoutFirst_17 : decode cX0_countWithoutFirst 17 = .ok (.aaload, 1) := by decide +kernel
theorem dX0_countWithoutFirst_18 : decode cX0_countWithoutFirst 18 = .ok (.iload_n 1, 1) := by decide +kernel
theorem dX0_countWithoutFirst_19 : decode cX0_countWithoutFirst 19 = .ok (.invokestatic 177, 3) := by decide +kernel
theorem dX0_countWithoutFirst_22 : decode cX0_countWithoutFirst 22 = .ok (.ifCond .ne 6, 3) := by decide +kernel
theorem dX0_countWithoutFirst_25 : decode cX0_countWithoutFirst 25 = .ok (.iinc 2 1, 3) := by decide +kernel
theorem dX0_countWithoutFirst_28 : decode cX0_countWithoutFirst 28 = .ok (.iinc 3 1, 3) := by decide +kernel
theorem dX0_countWithoutFirst_31 : decode cX0_countWithoutFirst 31 = .ok (.goto (-27), 3) := by decide +kernel
theorem dX0_countWithoutFirst_34 : decode cX0_countWithoutFirst 34 = .ok (.iload_n 2, 1) := by decide +kernel
theorem dX0_countWithoutFirst_35 : decode cX0_countWithoutFirst 35 = .ok (.ireturn, 1) := by decide +kernel
theorem dX0_hasOneOfFirst_0 : decode cX0_hasOneOfFirst 0 = .ok (.iconst 0, 1) := by decide +kernel
theorem dX0_hasOneOfFirst_1 : decode cX0_hasOneOfFirst 1 = .ok (.istore_n 2, 1) := by decide +kernel
theorem dX0_hasOneOfFirst_2 : decode cX0_hasOneOfFirst 2 = .ok (.iload_n 2, 1) := by decide +kernel
theorem dX0_hasOneOfFirst_3 : decode cX0_hasOneOfFirst 3 = .ok (.aload_n 0, 1) := by decide +kernel
theorem dX0_hasOneOfFirst_4 : decode cX0_hasOneOfFirst 4 = .ok (.getfield 144, 3) := by decide +kernel
theorem dX0_hasOneOfFirst_7 : decode cX0_hasOneOfFirst 7 = .ok (.if_icmp .ge 37, 3) := by decide +kernel
theorem dX0_hasOneOfFirst_10 : decode cX0_hasOneOfFirst 10 = .ok (.iconst 0, 1) := by decide +kernel
theorem dX0_hasOneOfFirst_11 : decode cX0_hasOneOfFirst 11 = .ok (.istore_n 3, 1) := by decide +kernel
theorem dX0_hasOneOfFirst_12 : decode cX0_hasOneOfFirst 12 = .ok (.iload_n 3, 1) := by decide +kernel
theorem dX0_hasOneOfFirst_13 : decode cX0_hasOneOfFirst 13 = .ok (.iload_n 1, 1) := by decide +kernel
theorem dX0_hasOneOfFirst_14 : decode cX0_hasOneOfFirst 14 = .ok (.if_icmp .ge 24, 3) := by decide +kernel
theorem dX0_hasOneOfFirst_17 : decode cX0_hasOneOfFirst 17 = .ok (.aload_n 0, 1) := by decide +kernel
theorem dX0_hasOneOfFirst_18 : decode cX0_hasOneOfFirst 18 = .ok (.getfield 171, 3) := by decide +kernel
theorem dX0_hasOneOfFirst_21 : decode cX0_hasOneOfFirst 21 = .ok (.iload_n 2, 1) := by decide +kernel
theorem dX0_hasOneOfFirst_22 : decode cX0_hasOneOfFirst 22 = .ok (.iaload, 1) := by decide +kernel
theorem dX0_hasOneOfFirst_23 : decode cX0_hasOneOfFirst 23 = .ok (.iload_n 3, 1) := by decide +kernel
theorem dX0_hasOneOfFirst_24 : decode cX0_hasOneOfFirst 24 = .ok (.invokestatic 181, 3) := by decide +kernel
theorem dX0_hasOneOfFirst_27 : decode cX0_hasOneOfFirst 27 = .ok (.ifCond .le 5, 3) := by decide +kernel
theorem dX0_hasOneOfFirst_30 : decode cX0_hasOneOfFirst 30 = .ok (.iconst 1, 1) := by decide +kernel
theorem dX0_hasOneOfFirst_31 : decode cX0_hasOneOfFirst 31 = .ok (.ireturn, 1) := by decide +kernel
theorem dX0_hasOneOfFirst_32 : decode cX0_hasOneOfFirst 32 = .ok (.iinc 3 1, 3) := by decide +kernel
theorem dX0_hasOneOfFirst_35 : decode cX0_hasOneOfFirst 35 = .ok (.goto (-23), 3) := by decide +kernel
theorem dX0_hasOneOfFirst_38 : decode cX0_hasOneOfFirst 38 = .ok (.iinc 2 1, 3) := by decide +kernel
theorem dX0_hasOneOfFirst_41 : decode cX0_hasOneOfFirst 41 = .ok (.goto (-39), 3) := by decide +kernel
theorem dX0_hasOneOfFirst_44 : decode cX0_hasOneOfFirst 44 = .ok (.iconst 0, 1) := by decide +kernel
theorem dX0_hasOneOfFirst_45 : decode cX0_hasOneOfFirst 45 = .ok (.ireturn, 1) := by decide +kernel
theorem dX0_isZeroAtPoint_0 : decode cX0_isZeroAtPoint 0 = .ok (.iconst 0, 1) := by decide +kernel
theorem dX0_isZeroAtPoint_1 : decode cX0_isZeroAtPoint 1 = .ok (.istore_n 1, 1) := by decide +kernel
theorem dX0_isZeroAtPoint_2 : decode cX0_isZeroAtPoint 2 = .ok (.iload_n 1, 1) := by decide +kernel
theorem dX0_isZeroAtPoint_3 : decode cX0_isZeroAtPoint 3 = .ok (.aload_n 0, 1) := by decide +kernel
theorem dX0_isZeroAtPoint_4 : decode cX0_isZeroAtPoint 4 = .ok (.getfield 44, 3) := by decide +kernel
theorem dX0_isZeroAtPoint_7 : decode cX0_isZeroAtPoint 7 = .ok (.if_icmp .ge 27, 3) := by decide +kernel
theorem dX0_isZeroAtPoint_10 : decode cX0_isZeroAtPoint 10 = .ok (.aload_n 0, 1) := by decide +kernel
theorem dX0_isZeroAtPoint_11 : decode cX0_isZeroAtPoint 11 = .ok (.getfield 36, 3) := by decide +kernel
theorem dX0_isZeroAtPoint_14 : decode cX0_isZeroAtPoint 14 = .ok (.aload_n 0, 1) := by decide +kernel
theorem dX0_isZeroAtPoint_15 : decode cX0_isZeroAtPoint 15 = .ok (.getfield 20, 3) := by decide +kernel
theorem dX0_isZeroAtPoint_18 : decode cX0_isZeroAtPoint 18 = .ok (.iload_n 1, 1) := by decide +kernel
theorem dX0_isZeroAtPoint_19 : decode cX0_isZeroAtPoint 19 = .ok (.aaload, 1) := by decide +kernel
theorem dX0_isZeroAtPoint_20 : decode cX0_isZeroAtPoint 20 = .ok (.invokevirtual 184, 3) := by decide +kernel
theorem dX0_isZeroAtPoint_23 : decode cX0_isZeroAtPoint 23 = .ok (.ifCond .eq 5, 3) := by decide +kernel
theorem dX0_isZeroAtPoint_26 : decode cX0_isZeroAtPoint 26 = .ok (.iconst 0, 1) := by decide +kernel
theorem dX0_isZeroAtPoint_27 : decode cX0_isZeroAtPoint 27 = .ok (.ireturn, 1) := by decide +kernel
theorem dX0_isZeroAtPoint_28 : decode cX0_isZeroAtPoint 28 = .ok (.iinc 1 1, 3) := by decide +kernel
theorem dX0_isZeroAtPoint_31 : decode cX0_isZeroAtPoint 31 = .ok (.goto (-29), 3) := by decide +kernel
theorem dX0_isZeroAtPoint_34 : decode cX0_isZeroAtPoint 34 = .ok (.iconst 1, 1) := by decide +kernel
theorem dX0_isZeroAtPoint_35 : decode cX0_isZeroAtPoint 35 = .ok (.ireturn, 1) := by decide +kernel
theorem dX0_hasHeadDividing_0 : decode cX0_hasHeadDividing 0 = .ok (.iconst 0, 1) := by decide +kernel
theorem dX0_hasHeadDividing_1 : decode cX0_hasHeadDividing 1 = .ok (.istore_n 2, 1) := by decide +kernel
theorem dX0_hasHeadDividing_2 : decode cX0_hasHeadDividing 2 = .ok (.iload_n 2, 1) := by decide +kernel
theorem dX0_hasHeadDividing_3 : decode cX0_hasHeadDividing 3 = .ok (.aload_n 0, 1) := by decide +kernel
theorem dX0_hasHeadDividing_4 : decode cX0_hasHeadDividing 4 = .ok (.getfield 44, 3) := by decide +kernel
theorem dX0_hasHeadDividing_7 : decode cX0_hasHeadDividing 7 = .ok (.if_icmp .ge 27, 3) := by decide +kernel
theorem dX0_hasHeadDividing_10 : decode cX0_hasHeadDividing 10 = .ok (.aload_n 0, 1) := by decide +kernel
theorem dX0_hasHeadDividing_11 : decode cX0_hasHeadDividing 11 = .ok (.getfield 20, 3) := by decide +kernel
theorem dX0_hasHeadDividing_14 : decode cX0_hasHeadDividing 14 = .ok (.iload_n 2, 1) := by decide +kernel
theorem dX0_hasHeadDividing_15 : decode cX0_hasHeadDividing 15 = .ok (.aaload, 1) := by decide +kernel
theorem dX0_hasHeadDividing_16 : decode cX0_hasHeadDividing 16 = .ok (.invokevirtual 114, 3) := by decide +kernel
theorem dX0_hasHeadDividing_19 : decode cX0_hasHeadDividing 19 = .ok (.iload_n 1, 1) := by decide +kernel
theorem dX0_hasHeadDividing_20 : decode cX0_hasHeadDividing 20 = .ok (.invokestatic 126, 3) := by decide +kernel
theorem dX0_hasHeadDividing_23 : decode cX0_hasHeadDividing 23 = .ok (.ifCond .eq 5, 3) := by decide +kernel
theorem dX0_hasHeadDividing_26 : decode cX0_hasHeadDividing 26 = .ok (.iconst 1, 1) := by decide +kernel
theorem dX0_hasHeadDividing_27 : decode cX0_hasHeadDividing 27 = .ok (.ireturn, 1) := by decide +kernel
theorem dX0_hasHeadDividing_28 : decode cX0_hasHeadDividing 28 = .ok (.iinc 2 1, 3) := by decide +kernel
theorem dX0_hasHeadDividing_31 : decode cX0_hasHeadDividing 31 = .ok (.goto (-29), 3) := by decide +kernel
theorem dX0_hasHeadDividing_34 : decode cX0_hasHeadDividing 34 = .ok (.iconst 0, 1) := by decide +kernel
theorem dX0_hasHeadDividing_35 : decode cX0_hasHeadDividing 35 = .ok (.ireturn, 1) := by decide +kernel
theorem dX7_init_0 : decode cX7_init 0 = .ok (.aload_n 0, 1) := by decide +kernel
theorem dX7_init_1 : decode cX7_init 1 = .ok (.invokespecial 3, 3) := by decide +kernel
theorem dX7_init_4 : decode cX7_init 4 = .ok (.aload_n 0, 1) := by decide +kernel
theorem dX7_init_5 : decode cX7_init 5 = .ok (.sipush 300, 3) := by decide +kernel
theorem dX7_init_8 : decode cX7_init 8 = .ok (.newarray .int, 2) := by decide +kernel
theorem dX7_init_10 : decode cX7_init 10 = .ok (.putfield 9, 3) := by decide +kernel
theorem dX7_init_13 : decode cX7_init 13 = .ok (.aload_n 0, 1) := by decide +kernel
theorem dX7_init_14 : decode cX7_init 14 = .ok (.aload_n 1, 1) := by decide +kernel
theorem dX7_init_15 : decode cX7_init 15 = .ok (.putfield 15, 3) := by decide +kernel
theorem dX7_init_18 : decode cX7_init 18 = .ok (.aload_n 0, 1) := by decide +kernel
theorem dX7_init_19 : decode cX7_init 19 = .ok (.aload_n 2, 1) := by decide +kernel
theorem dX7_init_20 : decode cX7_init 20 = .ok (.putfield 19, 3) := by decide +kernel
theorem dX7_init_23 : decode cX7_init 23 = .ok (.return_, 1) := by decide +kernel
theorem dX7_find_0 : decode cX7_find 0 = .ok (.iconst 0, 1) := by decide +kernel
theorem dX7_find_1 : decode cX7_find 1 = .ok (.istore_n 1, 1) := by decide +kernel
theorem dX7_find_2 : decode cX7_find 2 = .ok (.aload_n 0, 1) := by decide +kernel
theorem dX7_find_3 : decode cX7_find 3 = .ok (.getfield 19, 3) := by decide +kernel
theorem dX7_find_6 : decode cX7_find 6 = .ok (.iconst 0, 1) := by decide +kernel
theorem dX7_find_7 : decode cX7_find 7 = .ok (.invokevirtual 23, 3) := by decide +kernel
theorem dX7_find_10 : decode cX7_find 10 = .ok (.ifCond .eq 7, 3) := by decide +kernel
theorem dX7_find_13 : decode cX7_find 13 = .ok (.iconst (-1), 1) := by decide +kernel
theorem dX7_find_14 : decode cX7_find 14 = .ok (.goto 4, 3) := by decide +kernel
theorem dX7_find_17 : decode cX7_find 17 = .ok (.iconst 0, 1) := by decide +kernel
theorem dX7_find_18 : decode cX7_find 18 = .ok (.istore_n 2, 1) := by decide +kernel
theorem dX7_find_19 : decode cX7_find 19 = .ok (.iload_n 2, 1) := by decide +kernel
theorem dX7_find_20 : decode cX7_find 20 = .ok (.ifCond .lt 37, 3) := by decide +kernel
theorem dX7_find_23 : decode cX7_find 23 = .ok (.iload_n 1, 1) := by decide +kernel
theorem dX7_find_24 : decode cX7_find 24 = .ok (.sipush 300, 3) := by decide +kernel
theorem dX7_find_27 : decode cX7_find 27 = .ok (.if_icmp .ge 10, 3) := by decide +kernel
theorem dX7_find_30 : decode cX7_find 30 = .ok (.iload_n 2, 1) := by decide +kernel
theorem dX7_find_31 : decode cX7_find 31 = .ok (.invokestatic 29, 3) := by decide +kernel
theorem dX7_find_34 : decode cX7_find 34 = .ok (.ifCond .eq 5, 3) := by decide +kernel
theorem dX7_find_37 : decode cX7_find 37 = .ok (.iconst (-1), 1) := by decide +kernel
theorem dX7_find_38 : decode cX7_find 38 = .ok (.ireturn, 1) := by decide +kernel
theorem dX7_find_39 : decode cX7_find 39 = .ok (.aload_n 0, 1) := by decide +kernel
theorem dX7_find_40 : decode cX7_find 40 = .ok (.iload_n 2, 1) := by decide +kernel
theorem dX7_find_41 : decode cX7_find 41 = .ok (.iload_n 1, 1) := by decide +kernel
theorem dX7_find_42 : decode cX7_find 42 = .ok (.invokevirtual 34, 3) := by decide +kernel
theorem dX7_find_45 : decode cX7_find 45 = .ok (.iinc 1 1, 3) := by decide +kernel
theorem dX7_find_48 : decode cX7_find 48 = .ok (.aload_n 0, 1) := by decide +kernel
theorem dX7_find_49 : decode cX7_find 49 = .ok (.iload_n 2, 1) := by decide +kernel
theorem dX7_find_50 : decode cX7_find 50 = .ok (.invokevirtual 38, 3) := by decide +kernel
theorem dX7_find_53 : decode cX7_find 53 = .ok (.istore_n 2, 1) := by decide +kernel
theorem dX7_find_54 : decode cX7_find 54 = .ok (.goto (-35), 3) := by decide +kernel
theorem dX7_find_57 : decode cX7_find 57 = .ok (.iload_n 1, 1) := by decide +kernel
theorem dX7_find_58 : decode cX7_find 58 = .ok (.ireturn, 1) := by decide +kernel
theorem dX7_nextBehind_0 : decode cX7_nextBehind 0 = .ok (.iload_n 1, 1) := by decide +kernel
theorem dX7_nextBehind_1 : decode cX7_nextBehind 1 = .ok (.istore_n 2, 1) := by decide +kernel
theorem dX7_nextBehind_2 : decode cX7_nextBehind 2 = .ok (.aload_n 0, 1) := by decide +kernel
theorem dX7_nextBehind_3 : decode cX7_nextBehind 3 = .ok (.getfield 15, 3) := by decide +kernel
theorem dX7_nextBehind_6 : decode cX7_nextBehind 6 = .ok (.getfield 42, 3) := by decide +kernel
theorem dX7_nextBehind_9 : decode cX7_nextBehind 9 = .ok (.iconst 1, 1) := by decide +kernel
theorem dX7_nextBehind_10 : decode cX7_nextBehind 10 = .ok (.isub, 1) := by decide +kernel
theorem dX7_nextBehind_11 : decode cX7_nextBehind 11 = .ok (.istore_n 3, 1) := by decide +kernel
theorem dX7_nextBehind_12 : decode cX7_nextBehind 12 = .ok (.iload_n 3, 1) := by decide +kernel
theorem dX7_nextBehind_13 : decode cX7_nextBehind 13 = .ok (.ifCond .lt 42, 3) := by decide +kernel
theorem dX7_nextBehind_16 : decode cX7_nextBehind 16 = .ok (.iload_n 2, 1) := by decide +kernel
theorem dX7_nextBehind_17 : decode cX7_nextBehind 17 = .ok (.iload_n 3, 1) := by decide +kernel
theorem dX7_nextBehind_18 : decode cX7_nextBehind 18 = .ok (.invokestatic 48, 3) := by decide +kernel
theorem dX7_nextBehind_21 : decode cX7_nextBehind 21 = .ok (.iadd, 1) := by decide +kernel
theorem dX7_nextBehind_22 : decode cX7_nextBehind 22 = .ok (.istore_n 2, 1) := by decide +kernel
theorem dX7_nextBehind_23 : decode cX7_nextBehind 23 = .ok (.aload_n 0, 1) := by decide +kernel
theorem dX7_nextBehind_24 : decode cX7_nextBehind 24 = .ok (.getfield 19, 3) := by decide +kernel
theorem dX7_nextBehind_27 : decode cX7_nextBehind 27 = .ok (.iload_n 2, 1) := by decide +kernel
theorem dX7_nextBehind_28 : decode cX7_nextBehind 28 = .ok (.invokevirtual 23, 3) := by decide +kernel
theorem dX7_nextBehind_31 : decode cX7_nextBehind 31 = .ok (.ifCond .ne 5, 3) := by decide +kernel
theorem dX7_nextBehind_34 : decode cX7_nextBehind 34 = .ok (.iload_n 2, 1) := by decide +kernel
theorem dX7_nextBehind_35 : decode cX7_nextBehind 35 = .ok (.ireturn, 1) := by decide +kernel
theorem dX7_nextBehind_36 : decode cX7_nextBehind 36 = .ok (.iload_n 2, 1) := by decide +kernel
theorem dX7_nextBehind_37 : decode cX7_nextBehind 37 = .ok (.iload_n 2, 1) := by decide +kernel
theorem dX7_nextBehind_38 : decode cX7_nextBehind 38 = .ok (.iload_n 3, 1) := by decide +kernel
theorem dX7_nextBehind_39 : decode cX7_nextBehind 39 = .ok (.invokestatic 51, 3) := by decide +kernel
theorem dX7_nextBehind_42 : decode cX7_nextBehind 42 = .ok (.iload_n 3, 1) := by decide +kernel
theorem dX7_nextBehind_43 : decode cX7_nextBehind 43 = .ok (.invokestatic 48, 3) := by decide +kernel
theorem dX7_nextBehind_46 : decode cX7_nextBehind 46 = .ok (.imul, 1) := by decide +kernel
theorem dX7_nextBehind_47 : decode cX7_nextBehind 47 = .ok (.isub, 1) := by decide +kernel
theorem dX7_nextBehind_48 : decode cX7_nextBehind 48 = .ok (.istore_n 2, 1) := by decide +kernel
theorem dX7_nextBehind_49 : decode cX7_nextBehind 49 = .ok (.iinc 3 (-1), 3) := by decide +kernel
theorem dX7_nextBehind_52 : decode cX7_nextBehind 52 = .ok (.goto (-40), 3) := by decide +kernel
theorem dX7_nextBehind_55 : decode cX7_nextBehind 55 = .ok (.iconst (-1), 1) := by decide +kernel
theorem dX7_nextBehind_56 : decode cX7_nextBehind 56 = .ok (.ireturn, 1) := by decide +kernel
theorem dX7_insert_0 : decode cX7_insert 0 = .ok (.aload_n 0, 1) := by decide +kernel
theorem dX7_insert_1 : decode cX7_insert 1 = .ok (.getfield 15, 3) := by decide +kernel
theorem dX7_insert_4 : decode cX7_insert 4 = .ok (.iload_n 1, 1) := by decide +kernel
theorem dX7_insert_5 : decode cX7_insert 5 = .ok (.invokevirtual 55, 3) := by decide +kernel
theorem dX7_insert_8 : decode cX7_insert 8 = .ok (.istore_n 3, 1) := by decide +kernel
theorem dX7_insert_9 : decode cX7_insert 9 = .ok (.iload_n 2, 1) := by decide +kernel
theorem dX7_insert_10 : decode cX7_insert 10 = .ok (.istore 4, 2) := by decide +kernel
theorem dX7_insert_12 : decode cX7_insert 12 = .ok (.iload 4, 2) := by decide +kernel
theorem dX7_insert_14 : decode cX7_insert 14 = .ok (.ifCond .le 45, 3) := by decide +kernel
theorem dX7_insert_17 : decode cX7_insert 17 = .ok (.aload_n 0, 1) := by decide +kernel
theorem dX7_insert_18 : decode cX7_insert 18 = .ok (.getfield 15, 3) := by decide +kernel
theorem dX7_insert_21 : decode cX7_insert 21 = .ok (.aload_n 0, 1) := by decide +kernel
theorem dX7_insert_22 : decode cX7_insert 22 = .ok (.getfield 9, 3) := by decide +kernel
theorem dX7_insert_25 : decode cX7_insert 25 = .ok (.iload 4, 2) := by decide +kernel
theorem dX7_insert_27 : decode cX7_insert 27 = .ok (.iconst 1, 1) := by decide +kernel
theorem dX7_insert_28 : decode cX7_insert 28 = .ok (.isub, 1) := by decide +kernel
theorem dX7_insert_29 : decode cX7_insert 29 = .ok (.iaload, 1) := by decide +kernel
theorem dX7_insert_30 : decode cX7_insert 30 = .ok (.invokevirtual 55, 3) := by decide +kernel
theorem dX7_insert_33 : decode cX7_insert 33 = .ok (.iload_n 3, 1) := by decide +kernel
theorem dX7_insert_34 : decode cX7_insert 34 = .ok (.if_icmp .le 25, 3) := by decide +kernel
theorem dX7_insert_37 : decode cX7_insert 37 = .ok (.aload_n 0, 1) := by decide +kernel
theorem dX7_insert_38 : decode cX7_insert 38 = .ok (.getfield 9, 3) := by decide +kernel
theorem dX7_insert_41 : decode cX7_insert 41 = .ok (.iload 4, 2) := by decide +kernel
theorem dX7_insert_43 : decode cX7_insert 43 = .ok (.aload_n 0, 1) := by decide +kernel
theorem dX7_insert_44 : decode cX7_insert 44 = .ok (.getfield 9, 3) := by decide +kernel
theorem dX7_insert_47 : decode cX7_insert 47 = .ok (.iload 4, 2) := by decide +kernel
theorem dX7_insert_49 : decode cX7_insert 49 = .ok (.iconst 1, 1) := by decide +kernel
theorem dX7_insert_50 : decode cX7_insert 50 = .ok (.isub, 1) := by decide +kernel
theorem dX7_insert_51 : decode cX7_insert 51 = .ok (.iaload, 1) := by decide +kernel
theorem dX7_insert_52 : decode cX7_insert 52 = .ok (.iastore, 1) := by decide +kernel
theorem dX7_insert_53 : decode cX7_insert 53 = .ok (.iinc 4 (-1), 3) := by decide +kernel
theorem dX7_insert_56 : decode cX7_insert 56 = .ok (.goto (-44), 3) := by decide +kernel
theorem dX7_insert_59 : decode cX7_insert 59 = .ok (.aload_n 0, 1) := by decide +kernel
theorem dX7_insert_60 : decode cX7_insert 60 = .ok (.getfield 9, 3) := by decide +kernel
theorem dX7_insert_63 : decode cX7_insert 63 = .ok (.iload 4, 2) := by decide +kernel
theorem dX7_insert_65 : decode cX7_insert 65 = .ok (.iload_n 1, 1) := by decide +kernel
theorem dX7_insert_66 : decode cX7_insert 66 = .ok (.iastore, 1) := by decide +kernel
theorem dX7_insert_67 : decode cX7_insert 67 = .ok (.return_, 1) := by decide +kernel
theorem dX8_init_0 : decode cX8_init 0 = .ok (.aload_n 0, 1) := by decide +kernel
theorem dX8_init_1 : decode cX8_init 1 = .ok (.invokespecial 3, 3) := by decide +kernel
theorem dX8_init_4 : decode cX8_init 4 = .ok (.aload_n 0, 1) := by decide +kernel
theorem dX8_init_5 : decode cX8_init 5 = .ok (.new 9, 3) := by decide +kernel
theorem dX8_init_8 : decode cX8_init 8 = .ok (.dup, 1) := by decide +kernel
theorem dX8_init_9 : decode cX8_init 9 = .ok (.iload_n 1, 1) := by decide +kernel
theorem dX8_init_10 : decode cX8_init 10 = .ok (.invokestatic 11, 3) := by decide +kernel
theorem dX8_init_13 : decode cX8_init 13 = .ok (.ifCond .eq 7, 3) := by decide +kernel
theorem dX8_init_16 : decode cX8_init 16 = .ok (.iload_n 1, 1) := by decide +kernel
theorem dX8_init_17 : decode cX8_init 17 = .ok (.goto 5, 3) := by decide +kernel
theorem dX8_init_20 : decode cX8_init 20 = .ok (.bipush 7, 2) := by decide +kernel
theorem dX8_init_22 : decode cX8_init 22 = .ok (.iload_n 2, 1) := by decide +kernel
theorem dX8_init_23 : decode cX8_init 23 = .ok (.iconst 1, 1) := by decide +kernel
theorem dX8_init_24 : decode cX8_init 24 = .ok (.if_icmp .lt 12, 3) := by decide +kernel
theorem dX8_init_27 : decode cX8_init 27 = .ok (.iload_n 2, 1) := by decide +kernel
theorem dX8_init_28 : decode cX8_init 28 = .ok (.iconst 4, 1) := by decide +kernel
theorem dX8_init_29 : decode cX8_init 29 = .ok (.if_icmp .gt 7, 3) := by decide +kernel
theorem dX8_init_32 : decode cX8_init 32 = .ok (.iload_n 2, 1) := by decide +kernel
theorem dX8_init_33 : decode cX8_init 33 = .ok (.goto 4, 3) := by decide +kernel
theorem dX8_init_36 : decode cX8_init 36 = .ok (.iconst 3, 1) := by decide +kernel
theorem dX8_init_37 : decode cX8_init 37 = .ok (.invokespecial 15, 3) := by decide +kernel
theorem dX8_init_40 : decode cX8_init 40 = .ok (.putfield 18, 3) := by decide +kernel
theorem dX8_init_43 : decode cX8_init 43 = .ok (.aload_n 0, 1) := by decide +kernel
theorem dX8_init_44 : decode cX8_init 44 = .ok (.new 22, 3) := by decide +kernel
theorem dX8_init_47 : decode cX8_init 47 = .ok (.dup, 1) := by decide +kernel
theorem dX8_init_48 : decode cX8_init 48 = .ok (.invokespecial 24, 3) := by decide +kernel
theorem dX8_init_51 : decode cX8_init 51 = .ok (.putfield 25, 3) := by decide +kernel
theorem dX8_init_54 : decode cX8_init 54 = .ok (.aload_n 0, 1) := by decide +kernel
theorem dX8_init_55 : decode cX8_init 55 = .ok (.new 22, 3) := by decide +kernel
theorem dX8_init_58 : decode cX8_init 58 = .ok (.dup, 1) := by decide +kernel
theorem dX8_init_59 : decode cX8_init 59 = .ok (.invokespecial 24, 3) := by decide +kernel
theorem dX8_init_62 : decode cX8_init 62 = .ok (.putfield 29, 3) := by decide +kernel
theorem dX8_init_65 : decode cX8_init 65 = .ok (.aload_n 0, 1) := by decide +kernel
theorem dX8_init_66 : decode cX8_init 66 = .ok (.getfield 29, 3) := by decide +kernel
theorem dX8_init_69 : decode cX8_init 69 = .ok (.iconst 1, 1) := by decide +kernel
theorem dX8_init_70 : decode cX8_init 70 = .ok (.iconst 0, 1) := by decide +kernel
theorem dX8_init_71 : decode cX8_init 71 = .ok (.invokevirtual 32, 3) := by decide +kernel
theorem dX8_init_74 : decode cX8_init 74 = .ok (.pop, 1) := by decide +kernel
theorem dX8_init_75 : decode cX8_init 75 = .ok (.aload_n 0, 1) := by decide +kernel
theorem dX8_init_76 : decode cX8_init 76 = .ok (.new 22, 3) := by decide +kernel
theorem dX8_init_79 : decode cX8_init 79 = .ok (.dup, 1) := by decide +kernel
theorem dX8_init_80 : decode cX8_init 80 = .ok (.invokespecial 24, 3) := by decide +kernel
theorem dX8_init_83 : decode cX8_init 83 = .ok (.putfield 36, 3) := by decide +kernel
theorem dX8_init_86 : decode cX8_init 86 = .ok (.aload_n 0, 1) := by decide +kernel
theorem dX8_init_87 : decode cX8_init 87 = .ok (.new 39, 3) := by decide +kernel
theorem dX8_init_90 : decode cX8_init 90 = .ok (.dup, 1) := by decide +kernel
theorem dX8_init_91 : decode cX8_init 91 = .ok (.invokespecial 41, 3) := by decide +kernel
theorem dX8_init_94 : decode cX8_init 94 = .ok (.putfield 42, 3) := by decide +kernel
theorem dX8_init_97 : decode cX8_init 97 = .ok (.aload_n 0, 1) := by decide +kernel
theorem dX8_init_98 : decode cX8_init 98 = .ok (.new 46, 3) := by decide +kernel
theorem dX8_init_101 : decode cX8_init 101 = .ok (.dup, 1) := by decide +kernel
theorem dX8_init_102 : decode cX8_init 102 = .ok (.aload_n 0, 1) := by decide +kernel
theorem dX8_init_103 : decode cX8_init 103 = .ok (.getfield 18, 3) := by decide +kernel
theorem dX8_init_106 : decode cX8_init 106 = .ok (.invokespecial 48, 3) := by decide +kernel
theorem dX8_init_109 : decode cX8_init 109 = .ok (.putfield 51, 3) := by decide +kernel
theorem dX8_init_112 : decode cX8_init 112 = .ok (.aload_n 0, 1) := by decide +kernel
theorem dX8_init_113 : decode cX8_init 113 = .ok (.new 55, 3) := by decide +kernel
theorem dX8_init_116 : decode cX8_init 116 = .ok (.dup, 1) := by decide +kernel
theorem dX8_init_117 : decode cX8_init 117 = .ok (.aload_n 0, 1) := by decide +kernel
theorem dX8_init_118 : decode cX8_init 118 = .ok (.getfield 18, 3) := by decide +kernel
theorem dX8_init_121 : decode cX8_init 121 = .ok (.aload_n 0, 1) := by decide +kernel
theorem dX8_init_122 : decode cX8_init 122 = .ok (.getfield 51, 3) := by decide +kernel
theorem dX8_init_125 : decode cX8_init 125 = .ok (.invokespecial 57, 3) := by decide +kernel
theorem dX8_init_128 : decode cX8_init 128 = .ok (.putfield 60, 3) := by decide +kernel
theorem dX8_init_131 : decode cX8_init 131 = .ok (.aload_n 0, 1) := by decide +kernel
theorem dX8_init_132 : decode cX8_init 132 = .ok (.new 64, 3) := by decide +kernel
theorem dX8_init_135 : decode cX8_init 135 = .ok (.dup, 1) := by decide +kernel
theorem dX8_init_136 : decode cX8_init 136 = .ok (.aload_n 0, 1) := by decide +kernel
theorem dX8_init_137 : decode cX8_init 137 = .ok (.getfield 18, 3) := by decide +kernel
theorem dX8_init_140 : decode cX8_init 140 = .ok (.aload_n 0, 1) := by decide +kernel
theorem dX8_init_141 : decode cX8_init 141 = .ok (.getfield 60, 3) := by decide +kernel
theorem dX8_init_144 : decode cX8_init 144 = .ok (.invokespecial 66, 3) := by decide +kernel
theorem dX8_init_147 : decode cX8_init 147 = .ok (.putfield 69, 3) := by decide +kernel
theorem dX8_init_150 : decode cX8_init 150 = .ok (.return_, 1) := by decide +kernel
theorem dX8_order_0 : decode cX8_order 0 = .ok (.iload_n 1, 1) := by decide +kernel
theorem dX8_order_1 : decode cX8_order 1 = .ok (.ifCond .lt 8, 3) := by decide +kernel
theorem dX8_order_4 : decode cX8_order 4 = .ok (.iload_n 1, 1) := by decide +kernel
theorem dX8_order_5 : decode cX8_order 5 = .ok (.iconst 3, 1) := by decide +kernel
theorem dX8_order_6 : decode cX8_order 6 = .ok (.if_icmp .le 6, 3) := by decide +kernel
theorem dX8_order_9 : decode cX8_order 9 = .ok (.bipush (-2), 2) := by decide +kernel
theorem dX8_order_11 : decode cX8_order 11 = .ok (.ireturn, 1) := by decide +kernel
theorem dX8_order_12 : decode cX8_order 12 = .ok (.aload_n 0, 1) := by decide +kernel
theorem dX8_order_13 : decode cX8_order 13 = .ok (.getfield 60, 3) := by decide +kernel
theorem dX8_order_16 : decode cX8_order 16 = .ok (.getfield 73, 3) := by decide +kernel
theorem dX8_order_19 : decode cX8_order 19 = .ok (.ifCond .le 6, 3) := by decide +kernel
theorem dX8_order_22 : decode cX8_order 22 = .ok (.bipush (-3), 2) := by decide +kernel
theorem dX8_order_24 : decode cX8_order 24 = .ok (.ireturn, 1) := by decide +kernel
theorem dX8_order_25 : decode cX8_order 25 = .ok (.aload_n 0, 1) := by decide +kernel
theorem dX8_order_26 : decode cX8_order 26 = .ok (.getfield 18, 3) := by decide +kernel
theorem dX8_order_29 : decode cX8_order 29 = .ok (.getfield 77, 3) := by decide +kernel
theorem dX8_order_32 : decode cX8_order 32 = .ok (.istore_n 2, 1) := by decide +kernel
theorem dX8_order_33 : decode cX8_order 33 = .ok (.aload_n 0, 1) := by decide +kernel
theorem dX8_order_34 : decode cX8_order 34 = .ok (.getfield 18, 3) := by decide +kernel
theorem dX8_order_37 : decode cX8_order 37 = .ok (.iload_n 1, 1) := by decide +kernel
theorem dX8_order_38 : decode cX8_order 38 = .ok (.putfield 77, 3) := by decide +kernel
theorem dX8_order_41 : decode cX8_order 41 = .ok (.aload_n 0, 1) := by decide +kernel
theorem dX8_order_42 : decode cX8_order 42 = .ok (.getfield 18, 3) := by decide +kernel
theorem dX8_order_45 : decode cX8_order 45 = .ok (.aload_n 0, 1) := by decide +kernel
theorem dX8_order_46 : decode cX8_order 46 = .ok (.getfield 25, 3) := by decide +kernel
theorem dX8_order_49 : decode cX8_order 49 = .ok (.invokevirtual 80, 3) := by decide +kernel
theorem dX8_order_52 : decode cX8_order 52 = .ok (.iconst 0, 1) := by decide +kernel
theorem dX8_order_53 : decode cX8_order 53 = .ok (.istore_n 3, 1) := by decide +kernel
theorem dX8_order_54 : decode cX8_order 54 = .ok (.iload_n 3, 1) := by decide +kernel
theorem dX8_order_55 : decode cX8_order 55 = .ok (.bipush 24, 2) := by decide +kernel
theorem dX8_order_57 : decode cX8_order 57 = .ok (.if_icmp .ge 33, 3) := by decide +kernel
theorem dX8_order_60 : decode cX8_order 60 = .ok (.aload_n 0, 1) := by decide +kernel
theorem dX8_order_61 : decode cX8_order 61 = .ok (.getfield 42, 3) := by decide +kernel
theorem dX8_order_64 : decode cX8_order 64 = .ok (.iload_n 3, 1) := by decide +kernel
theorem dX8_order_65 : decode cX8_order 65 = .ok (.invokevirtual 84, 3) := by decide +kernel
theorem dX8_order_68 : decode cX8_order 68 = .ok (.astore 4, 2) := by decide +kernel
theorem dX8_order_70 : decode cX8_order 70 = .ok (.aload 4, 2) := by decide +kernel
theorem dX8_order_72 : decode cX8_order 72 = .ok (.ifnull 12, 3) := by decide +kernel
theorem dX8_order_75 : decode cX8_order 75 = .ok (.aload_n 0, 1) := by decide +kernel
theorem dX8_order_76 : decode cX8_order 76 = .ok (.getfield 18, 3) := by decide +kernel
theorem dX8_order_79 : decode cX8_order 79 = .ok (.aload 4, 2) := by decide +kernel
theorem dX8_order_81 : decode cX8_order 81 = .ok (.invokevirtual 80, 3) := by decide +kernel
theorem dX8_order_84 : decode cX8_order 84 = .ok (.iinc 3 1, 3) := by decide +kernel
theorem dX8_order_87 : decode cX8_order 87 = .ok (.goto (-33), 3) := by decide +kernel
theorem dX8_order_90 : decode cX8_order 90 = .ok (.iload_n 2, 1) := by decide +kernel
theorem dX8_order_91 : decode cX8_order 91 = .ok (.ireturn, 1) := by decide +kernel
theorem dX8_term_0 : decode cX8_term 0 = .ok (.aload_n 0, 1) := by decide +kernel
theorem dX8_term_1 : decode cX8_term 1 = .ok (.getfield 18, 3) := by decide +kernel
theorem dX8_term_4 : decode cX8_term 4 = .ok (.iload_n 2, 1) := by decide +kernel
theorem dX8_term_5 : decode cX8_term 5 = .ok (.iconst 0, 1) := by decide +kernel
theorem dX8_term_6 : decode cX8_term 6 = .ok (.invokevirtual 88, 3) := by decide +kernel
theorem dX8_term_9 : decode cX8_term 9 = .ok (.ifCond .eq 41, 3) := by decide +kernel
theorem dX8_term_12 : decode cX8_term 12 = .ok (.aload_n 0, 1) := by decide +kernel
theorem dX8_term_13 : decode cX8_term 13 = .ok (.getfield 18, 3) := by decide +kernel
theorem dX8_term_16 : decode cX8_term 16 = .ok (.iload_n 3, 1) := by decide +kernel
theorem dX8_term_17 : decode cX8_term 17 = .ok (.iconst 1, 1) := by decide +kernel
theorem dX8_term_18 : decode cX8_term 18 = .ok (.invokevirtual 88, 3) := by decide +kernel
theorem dX8_term_21 : decode cX8_term 21 = .ok (.ifCond .eq 29, 3) := by decide +kernel
theorem dX8_term_24 : decode cX8_term 24 = .ok (.aload_n 0, 1) := by decide +kernel
theorem dX8_term_25 : decode cX8_term 25 = .ok (.getfield 18, 3) := by decide +kernel
theorem dX8_term_28 : decode cX8_term 28 = .ok (.iload 4, 2) := by decide +kernel
theorem dX8_term_30 : decode cX8_term 30 = .ok (.iconst 2, 1) := by decide +kernel
theorem dX8_term_31 : decode cX8_term 31 = .ok (.invokevirtual 88, 3) := by decide +kernel
theorem dX8_term_34 : decode cX8_term 34 = .ok (.ifCond .eq 16, 3) := by decide +kernel
theorem dX8_term_37 : decode cX8_term 37 = .ok (.aload_n 0, 1) := by decide +kernel
theorem dX8_term_38 : decode cX8_term 38 = .ok (.getfield 18, 3) := by decide +kernel
theorem dX8_term_41 : decode cX8_term 41 = .ok (.iload 5, 2) := by decide +kernel
theorem dX8_term_43 : decode cX8_term 43 = .ok (.iconst 3, 1) := by decide +kernel
theorem dX8_term_44 : decode cX8_term 44 = .ok (.invokevirtual 88, 3) := by decide +kernel
theorem dX8_term_47 : decode cX8_term 47 = .ok (.ifCond .ne 6, 3) := by decide +kernel
theorem dX8_term_50 : decode cX8_term 50 = .ok (.bipush (-2), 2) := by decide +kernel
theorem dX8_term_52 : decode cX8_term 52 = .ok (.ireturn, 1) := by decide +kernel
theorem dX8_term_53 : decode cX8_term 53 = .ok (.aload_n 0, 1) := by decide +kernel
theorem dX8_term_54 : decode cX8_term 54 = .ok (.getfield 18, 3) := by decide +kernel
theorem dX8_term_57 : decode cX8_term 57 = .ok (.aload_n 0, 1) := by decide +kernel
theorem dX8_term_58 : decode cX8_term 58 = .ok (.getfield 36, 3) := by decide +kernel
theorem dX8_term_61 : decode cX8_term 61 = .ok (.aload_n 0, 1) := by decide +kernel
theorem dX8_term_62 : decode cX8_term 62 = .ok (.getfield 25, 3) := by decide +kernel
theorem dX8_term_65 : decode cX8_term 65 = .ok (.aload_n 0, 1) := by decide +kernel
theorem dX8_term_66 : decode cX8_term 66 = .ok (.getfield 29, 3) := by decide +kernel
theorem dX8_term_69 : decode cX8_term 69 = .ok (.aload_n 0, 1) := by decide +kernel
theorem dX8_term_70 : decode cX8_term 70 = .ok (.getfield 18, 3) := by decide +kernel
theorem dX8_term_73 : decode cX8_term 73 = .ok (.iload_n 1, 1) := by decide +kernel
theorem dX8_term_74 : decode cX8_term 74 = .ok (.invokevirtual 91, 3) := by decide +kernel
theorem dX8_term_77 : decode cX8_term 77 = .ok (.iload_n 2, 1) := by decide +kernel
theorem dX8_term_78 : decode cX8_term 78 = .ok (.iload_n 3, 1) := by decide +kernel
theorem dX8_term_79 : decode cX8_term 79 = .ok (.iload 4, 2) := by decide +kernel
theorem dX8_term_81 : decode cX8_term 81 = .ok (.iload 5, 2) := by decide +kernel
theorem dX8_term_83 : decode cX8_term 83 = .ok (.invokestatic 95, 3) := by decide +kernel
theorem dX8_term_86 : decode cX8_term 86 = .ok (.invokevirtual 101, 3) := by decide +kernel
theorem dX8_term_89 : decode cX8_term 89 = .ok (.istore 6, 2) := by decide +kernel
theorem dX8_term_91 : decode cX8_term 91 = .ok (.iload 6, 2) := by decide +kernel
theorem dX8_term_93 : decode cX8_term 93 = .ok (.ifCond .eq 6, 3) := by decide +kernel
theorem dX8_term_96 : decode cX8_term 96 = .ok (.iload 6, 2) := by decide +kernel
theorem dX8_term_98 : decode cX8_term 98 = .ok (.ireturn, 1) := by decide +kernel
theorem dX8_term_99 : decode cX8_term 99 = .ok (.aload_n 0, 1) := by decide +kernel
theorem dX8_term_100 : decode cX8_term 100 = .ok (.getfield 25, 3) := by decide +kernel
theorem dX8_term_103 : decode cX8_term 103 = .ok (.aload_n 0, 1) := by decide +kernel
theorem dX8_term_104 : decode cX8_term 104 = .ok (.getfield 36, 3) := by decide +kernel
theorem dX8_term_107 : decode cX8_term 107 = .ok (.invokevirtual 105, 3) := by decide +kernel
theorem dX8_term_110 : decode cX8_term 110 = .ok (.aload_n 0, 1) := by decide +kernel
theorem dX8_term_111 : decode cX8_term 111 = .ok (.getfield 25, 3) := by decide +kernel
theorem dX8_term_114 : decode cX8_term 114 = .ok (.getfield 108, 3) := by decide +kernel
theorem dX8_term_117 : decode cX8_term 117 = .ok (.ireturn, 1) := by decide +kernel
theorem dX8_keep_0 : decode cX8_keep 0 = .ok (.aload_n 0, 1) := by decide +kernel
theorem dX8_keep_1 : decode cX8_keep 1 = .ok (.getfield 42, 3) := by decide +kernel
theorem dX8_keep_4 : decode cX8_keep 4 = .ok (.invokevirtual 109, 3) := by decide +kernel
theorem dX8_keep_7 : decode cX8_keep 7 = .ok (.ifCond .eq 6, 3) := by decide +kernel
theorem dX8_keep_10 : decode cX8_keep 10 = .ok (.bipush (-4), 2) := by decide +kernel
theorem dX8_keep_12 : decode cX8_keep 12 = .ok (.ireturn, 1) := by decide +kernel
theorem dX8_keep_13 : decode cX8_keep 13 = .ok (.aload_n 0, 1) := by decide +kernel
theorem dX8_keep_14 : decode cX8_keep 14 = .ok (.getfield 42, 3) := by decide +kernel
theorem dX8_keep_17 : decode cX8_keep 17 = .ok (.aload_n 0, 1) := by decide +kernel
theorem dX8_keep_18 : decode cX8_keep 18 = .ok (.getfield 25, 3) := by decide +kernel
theorem dX8_keep_21 : decode cX8_keep 21 = .ok (.invokevirtual 113, 3) := by decide +kernel
theorem dX8_keep_24 : decode cX8_keep 24 = .ok (.istore_n 1, 1) := by decide +kernel
theorem dX8_keep_25 : decode cX8_keep 25 = .ok (.aload_n 0, 1) := by decide +kernel
theorem dX8_keep_26 : decode cX8_keep 26 = .ok (.getfield 25, 3) := by decide +kernel
theorem dX8_keep_29 : decode cX8_keep 29 = .ok (.iconst 0, 1) := by decide +kernel
theorem dX8_keep_30 : decode cX8_keep 30 = .ok (.putfield 108, 3) := by decide +kernel
theorem dX8_keep_33 : decode cX8_keep 33 = .ok (.iload_n 1, 1) := by decide +kernel
theorem dX8_keep_34 : decode cX8_keep 34 = .ok (.ireturn, 1) := by decide +kernel
theorem dX8_drop_0 : decode cX8_drop 0 = .ok (.aload_n 0, 1) := by decide +kernel
theorem dX8_drop_1 : decode cX8_drop 1 = .ok (.getfield 42, 3) := by decide +kernel
theorem dX8_drop_4 : decode cX8_drop 4 = .ok (.iload_n 1, 1) := by decide +kernel
theorem dX8_drop_5 : decode cX8_drop 5 = .ok (.invokevirtual 84, 3) := by decide +kernel
theorem dX8_drop_8 : decode cX8_drop 8 = .ok (.astore_n 2, 1) := by decide +kernel
theorem dX8_drop_9 : decode cX8_drop 9 = .ok (.aload_n 2, 1) := by decide +kernel
theorem dX8_drop_10 : decode cX8_drop 10 = .ok (.ifnonnull 6, 3) := by decide +kernel
theorem dX8_drop_13 : decode cX8_drop 13 = .ok (.bipush (-2), 2) := by decide +kernel
theorem dX8_drop_15 : decode cX8_drop 15 = .ok (.ireturn, 1) := by decide +kernel
theorem dX8_drop_16 : decode cX8_drop 16 = .ok (.aload_n 0, 1) := by decide +kernel
theorem dX8_drop_17 : decode cX8_drop 17 = .ok (.getfield 42, 3) := by decide +kernel
theorem dX8_drop_20 : decode cX8_drop 20 = .ok (.iload_n 1, 1) := by decide +kernel
theorem dX8_drop_21 : decode cX8_drop 21 = .ok (.invokevirtual 117, 3) := by decide +kernel
theorem dX8_drop_24 : decode cX8_drop 24 = .ok (.aload_n 2, 1) := by decide +kernel
theorem dX8_drop_25 : decode cX8_drop 25 = .ok (.getfield 108, 3) := by decide +kernel
theorem dX8_drop_28 : decode cX8_drop 28 = .ok (.ireturn, 1) := by decide +kernel
theorem dX8_terms_0 : decode cX8_terms 0 = .ok (.aload_n 0, 1) := by decide +kernel
theorem dX8_terms_1 : decode cX8_terms 1 = .ok (.iload_n 1, 1) := by decide +kernel
theorem dX8_terms_2 : decode cX8_terms 2 = .ok (.invokevirtual 121, 3) := by decide +kernel
theorem dX8_terms_5 : decode cX8_terms 5 = .ok (.astore_n 2, 1) := by decide +kernel
theorem dX8_terms_6 : decode cX8_terms 6 = .ok (.aload_n 2, 1) := by decide +kernel
theorem dX8_terms_7 : decode cX8_terms 7 = .ok (.ifnonnull 8, 3) := by decide +kernel
theorem dX8_terms_10 : decode cX8_terms 10 = .ok (.bipush (-2), 2) := by decide +kernel
theorem dX8_terms_12 : decode cX8_terms 12 = .ok (.goto 7, 3) := by decide +kernel
theorem dX8_terms_15 : decode cX8_terms 15 = .ok (.aload_n 2, 1) := by decide +kernel
theorem dX8_terms_16 : decode cX8_terms 16 = .ok (.getfield 108, 3) := by decide +kernel
theorem dX8_terms_19 : decode cX8_terms 19 = .ok (.ireturn, 1) := by decide +kernel
theorem dX8_number_0 : decode cX8_number 0 = .ok (.aload_n 0, 1) := by decide +kernel
theorem dX8_number_1 : decode cX8_number 1 = .ok (.iload_n 1, 1) := by decide +kernel
theorem dX8_number_2 : decode cX8_number 2 = .ok (.invokevirtual 121, 3) := by decide +kernel
theorem dX8_number_5 : decode cX8_number 5 = .ok (.astore_n 3, 1) := by decide +kernel
theorem dX8_number_6 : decode cX8_number 6 = .ok (.aload_n 3, 1) := by decide +kernel
theorem dX8_number_7 : decode cX8_number 7 = .ok (.ifnull 15, 3) := by decide +kernel
theorem dX8_number_10 : decode cX8_number 10 = .ok (.iload_n 2, 1) := by decide +kernel
theorem dX8_number_11 : decode cX8_number 11 = .ok (.ifCond .lt 11, 3) := by decide +kernel
theorem dX8_number_14 : decode cX8_number 14 = .ok (.iload_n 2, 1) := by decide +kernel
theorem dX8_number_15 : decode cX8_number 15 = .ok (.aload_n 3, 1) := by decide +kernel
theorem dX8_number_16 : decode cX8_number 16 = .ok (.getfield 108, 3) := by decide +kernel
theorem dX8_number_19 : decode cX8_number 19 = .ok (.if_icmp .lt 8, 3) := by decide +kernel
theorem dX8_number_22 : decode cX8_number 22 = .ok (.bipush (-2), 2) := by decide +kernel
theorem dX8_number_24 : decode cX8_number 24 = .ok (.goto 9, 3) := by decide +kernel
theorem dX8_number_27 : decode cX8_number 27 = .ok (.aload_n 3, 1) := by decide +kernel
theorem dX8_number_28 : decode cX8_number 28 = .ok (.getfield 124, 3) := by decide +kernel
theorem dX8_number_31 : decode cX8_number 31 = .ok (.iload_n 2, 1) := by decide +kernel
theorem dX8_number_32 : decode cX8_number 32 = .ok (.iaload, 1) := by decide +kernel
theorem dX8_number_33 : decode cX8_number 33 = .ok (.ireturn, 1) := by decide +kernel
theorem dX8_exponent_0 : decode cX8_exponent 0 = .ok (.aload_n 0, 1) := by decide +kernel
theorem dX8_exponent_1 : decode cX8_exponent 1 = .ok (.iload_n 1, 1) := by decide +kernel
theorem dX8_exponent_2 : decode cX8_exponent 2 = .ok (.invokevirtual 121, 3) := by decide +kernel
theorem dX8_exponent_5 : decode cX8_exponent 5 = .ok (.astore 4, 2) := by decide +kernel
theorem dX8_exponent_7 : decode cX8_exponent 7 = .ok (.aload 4, 2) := by decide +kernel
theorem dX8_exponent_9 : decode cX8_exponent 9 = .ok (.ifnull 27, 3) := by decide +kernel
theorem dX8_exponent_12 : decode cX8_exponent 12 = .ok (.iload_n 2, 1) := by decide +kernel
theorem dX8_exponent_13 : decode cX8_exponent 13 = .ok (.ifCond .lt 23, 3) := by decide +kernel
theorem dX8_exponent_16 : decode cX8_exponent 16 = .ok (.iload_n 2, 1) := by decide +kernel
theorem dX8_exponent_17 : decode cX8_exponent 17 = .ok (.aload 4, 2) := by decide +kernel
theorem dX8_exponent_19 : decode cX8_exponent 19 = .ok (.getfield 108, 3) := by decide +kernel
theorem dX8_exponent_22 : decode cX8_exponent 22 = .ok (.if_icmp .ge 14, 3) := by decide +kernel
theorem dX8_exponent_25 : decode cX8_exponent 25 = .ok (.aload_n 0, 1) := by decide +kernel
theorem dX8_exponent_26 : decode cX8_exponent 26 = .ok (.getfield 18, 3) := by decide +kernel
theorem dX8_exponent_29 : decode cX8_exponent 29 = .ok (.iload_n 3, 1) := by decide +kernel
theorem dX8_exponent_30 : decode cX8_exponent 30 = .ok (.invokevirtual 128, 3) := by decide +kernel
theorem dX8_exponent_33 : decode cX8_exponent 33 = .ok (.ifCond .ne 8, 3) := by decide +kernel
theorem dX8_exponent_36 : decode cX8_exponent 36 = .ok (.bipush (-2), 2) := by decide +kernel
theorem dX8_exponent_38 : decode cX8_exponent 38 = .ok (.goto 14, 3) := by decide +kernel
theorem dX8_exponent_41 : decode cX8_exponent 41 = .ok (.aload 4, 2) := by decide +kernel
theorem dX8_exponent_43 : decode cX8_exponent 43 = .ok (.getfield 131, 3) := by decide +kernel
theorem dX8_exponent_46 : decode cX8_exponent 46 = .ok (.iload_n 2, 1) := by decide +kernel
theorem dX8_exponent_47 : decode cX8_exponent 47 = .ok (.iaload, 1) := by decide +kernel
theorem dX8_exponent_48 : decode cX8_exponent 48 = .ok (.iload_n 3, 1) := by decide +kernel
theorem dX8_exponent_49 : decode cX8_exponent 49 = .ok (.invokestatic 134, 3) := by decide +kernel
theorem dX8_exponent_52 : decode cX8_exponent 52 = .ok (.ireturn, 1) := by decide +kernel
theorem dX8_sum_0 : decode cX8_sum 0 = .ok (.aload_n 0, 1) := by decide +kernel
theorem dX8_sum_1 : decode cX8_sum 1 = .ok (.iload_n 1, 1) := by decide +kernel
theorem dX8_sum_2 : decode cX8_sum 2 = .ok (.invokevirtual 121, 3) := by decide +kernel
theorem dX8_sum_5 : decode cX8_sum 5 = .ok (.astore 4, 2) := by decide +kernel
theorem dX8_sum_7 : decode cX8_sum 7 = .ok (.aload_n 0, 1) := by decide +kernel
theorem dX8_sum_8 : decode cX8_sum 8 = .ok (.iload_n 2, 1) := by decide +kernel
theorem dX8_sum_9 : decode cX8_sum 9 = .ok (.invokevirtual 121, 3) := by decide +kernel
theorem dX8_sum_12 : decode cX8_sum 12 = .ok (.astore 5, 2) := by decide +kernel
theorem dX8_sum_14 : decode cX8_sum 14 = .ok (.aload 4, 2) := by decide +kernel
theorem dX8_sum_16 : decode cX8_sum 16 = .ok (.ifnull 8, 3) := by decide +kernel
theorem dX8_sum_19 : decode cX8_sum 19 = .ok (.aload 5, 2) := by decide +kernel
theorem dX8_sum_21 : decode cX8_sum 21 = .ok (.ifnonnull 6, 3) := by decide +kernel
theorem dX8_sum_24 : decode cX8_sum 24 = .ok (.bipush (-2), 2) := by decide +kernel
theorem dX8_sum_26 : decode cX8_sum 26 = .ok (.ireturn, 1) := by decide +kernel
theorem dX8_sum_27 : decode cX8_sum 27 = .ok (.aload_n 0, 1) := by decide +kernel
theorem dX8_sum_28 : decode cX8_sum 28 = .ok (.getfield 42, 3) := by decide +kernel
theorem dX8_sum_31 : decode cX8_sum 31 = .ok (.invokevirtual 109, 3) := by decide +kernel
theorem dX8_sum_34 : decode cX8_sum 34 = .ok (.ifCond .eq 6, 3) := by decide +kernel
theorem dX8_sum_37 : decode cX8_sum 37 = .ok (.bipush (-4), 2) := by decide +kernel
theorem dX8_sum_39 : decode cX8_sum 39 = .ok (.ireturn, 1) := by decide +kernel
theorem dX8_sum_40 : decode cX8_sum 40 = .ok (.aload_n 0, 1) := by decide +kernel
theorem dX8_sum_41 : decode cX8_sum 41 = .ok (.aload_n 0, 1) := by decide +kernel
theorem dX8_sum_42 : decode cX8_sum 42 = .ok (.getfield 18, 3) := by decide +kernel
theorem dX8_sum_45 : decode cX8_sum 45 = .ok (.aload_n 0, 1) := by decide +kernel
theorem dX8_sum_46 : decode cX8_sum 46 = .ok (.getfield 36, 3) := by decide +kernel
theorem dX8_sum_49 : decode cX8_sum 49 = .ok (.aload 4, 2) := by decide +kernel
theorem dX8_sum_51 : decode cX8_sum 51 = .ok (.aload 5, 2) := by decide +kernel
theorem dX8_sum_53 : decode cX8_sum 53 = .ok (.aload_n 0, 1) := by decide +kernel
theorem dX8_sum_54 : decode cX8_sum 54 = .ok (.getfield 18, 3) := by decide +kernel
theorem dX8_sum_57 : decode cX8_sum 57 = .ok (.iload_n 3, 1) := by decide +kernel
theorem dX8_sum_58 : decode cX8_sum 58 = .ok (.invokevirtual 91, 3) := by decide +kernel
theorem dX8_sum_61 : decode cX8_sum 61 = .ok (.iconst 0, 1) := by decide +kernel
theorem dX8_sum_62 : decode cX8_sum 62 = .ok (.invokevirtual 101, 3) := by decide +kernel
theorem dX8_sum_65 : decode cX8_sum 65 = .ok (.invokevirtual 138, 3) := by decide +kernel
theorem dX8_sum_68 : decode cX8_sum 68 = .ok (.ireturn, 1) := by decide +kernel
theorem dX8_product_0 : decode cX8_product 0 = .ok (.aload_n 0, 1) := by decide +kernel
theorem dX8_product_1 : decode cX8_product 1 = .ok (.iload_n 1, 1) := by decide +kernel
theorem dX8_product_2 : decode cX8_product 2 = .ok (.invokevirtual 121, 3) := by decide +kernel
theorem dX8_product_5 : decode cX8_product 5 = .ok (.astore_n 3, 1) := by decide +kernel
theorem dX8_product_6 : decode cX8_product 6 = .ok (.aload_n 0, 1) := by decide +kernel
theorem dX8_product_7 : decode cX8_product 7 = .ok (.iload_n 2, 1) := by decide +kernel
theorem dX8_product_8 : decode cX8_product 8 = .ok (.invokevirtual 121, 3) := by decide +kernel
theorem dX8_product_11 : decode cX8_product 11 = .ok (.astore 4, 2) := by decide +kernel
theorem dX8_product_13 : decode cX8_product 13 = .ok (.aload_n 3, 1) := by decide +kernel
theorem dX8_product_14 : decode cX8_product 14 = .ok (.ifnull 8, 3) := by decide +kernel
theorem dX8_product_17 : decode cX8_product 17 = .ok (.aload 4, 2) := by decide +kernel
theorem dX8_product_19 : decode cX8_product 19 = .ok (.ifnonnull 6, 3) := by decide +kernel
theorem dX8_product_22 : decode cX8_product 22 = .ok (.bipush (-2), 2) := by decide +kernel
theorem dX8_product_24 : decode cX8_product 24 = .ok (.ireturn, 1) := by decide +kernel
theorem dX8_product_25 : decode cX8_product 25 = .ok (.aload_n 0, 1) := by decide +kernel
theorem dX8_product_26 : decode cX8_product 26 = .ok (.getfield 42, 3) := by decide +kernel
theorem dX8_product_29 : decode cX8_product 29 = .ok (.invokevirtual 109, 3) := by decide +kernel
theorem dX8_product_32 : decode cX8_product 32 = .ok (.ifCond .eq 6, 3) := by decide +kernel
theorem dX8_product_35 : decode cX8_product 35 = .ok (.bipush (-4), 2) := by decide +kernel
theorem dX8_product_37 : decode cX8_product 37 = .ok (.ireturn, 1) := by decide +kernel
theorem dX8_product_38 : decode cX8_product 38 = .ok (.aload_n 0, 1) := by decide +kernel
theorem dX8_product_39 : decode cX8_product 39 = .ok (.aload_n 0, 1) := by decide +kernel
theorem dX8_product_40 : decode cX8_product 40 = .ok (.getfield 18, 3) := by decide +kernel
theorem dX8_product_43 : decode cX8_product 43 = .ok (.aload_n 0, 1) := by decide +kernel
theorem dX8_product_44 : decode cX8_product 44 = .ok (.getfield 36, 3) := by decide +kernel
theorem dX8_product_47 : decode cX8_product 47 = .ok (.aload_n 3, 1) := by decide +kernel
theorem dX8_product_48 : decode cX8_product 48 = .ok (.aload 4, 2) := by decide +kernel
theorem dX8_product_50 : decode cX8_product 50 = .ok (.invokevirtual 141, 3) := by decide +kernel
theorem dX8_product_53 : decode cX8_product 53 = .ok (.invokevirtual 138, 3) := by decide +kernel
theorem dX8_product_56 : decode cX8_product 56 = .ok (.ireturn, 1) := by decide +kernel
theorem dX8_derived_0 : decode cX8_derived 0 = .ok (.aload_n 0, 1) := by decide +kernel
theorem dX8_derived_1 : decode cX8_derived 1 = .ok (.iload_n 1, 1) := by decide +kernel
theorem dX8_derived_2 : decode cX8_derived 2 = .ok (.invokevirtual 121, 3) := by decide +kernel
theorem dX8_derived_5 : decode cX8_derived 5 = .ok (.astore_n 3, 1) := by decide +kernel
theorem dX8_derived_6 : decode cX8_derived 6 = .ok (.aload_n 3, 1) := by decide +kernel
theorem dX8_derived_7 : decode cX8_derived 7 = .ok (.ifnull 14, 3) := by decide +kernel
theorem dX8_derived_10 : decode cX8_derived 10 = .ok (.aload_n 0, 1) := by decide +kernel
theorem dX8_derived_11 : decode cX8_derived 11 = .ok (.getfield 18, 3) := by decide +kernel
theorem dX8_derived_14 : decode cX8_derived 14 = .ok (.iload_n 2, 1) := by decide +kernel
theorem dX8_derived_15 : decode cX8_derived 15 = .ok (.invokevirtual 128, 3) := by decide +kernel
theorem dX8_derived_18 : decode cX8_derived 18 = .ok (.ifCond .ne 6, 3) := by decide +kernel
theorem dX8_derived_21 : decode cX8_derived 21 = .ok (.bipush (-2), 2) := by decide +kernel
theorem dX8_derived_23 : decode cX8_derived 23 = .ok (.ireturn, 1) := by decide +kernel
theorem dX8_derived_24 : decode cX8_derived 24 = .ok (.aload_n 0, 1) := by decide +kernel
theorem dX8_derived_25 : decode cX8_derived 25 = .ok (.getfield 42, 3) := by decide +kernel
theorem dX8_derived_28 : decode cX8_derived 28 = .ok (.invokevirtual 109, 3) := by decide +kernel
theorem dX8_derived_31 : decode cX8_derived 31 = .ok (.ifCond .eq 6, 3) := by decide +kernel
theorem dX8_derived_34 : decode cX8_derived 34 = .ok (.bipush (-4), 2) := by decide +kernel
theorem dX8_derived_36 : decode cX8_derived 36 = .ok (.ireturn, 1) := by decide +kernel
theorem dX8_derived_37 : decode cX8_derived 37 = .ok (.aload_n 0, 1) := by decide +kernel
theorem dX8_derived_38 : decode cX8_derived 38 = .ok (.aload_n 0, 1) := by decide +kernel
theorem dX8_derived_39 : decode cX8_derived 39 = .ok (.getfield 18, 3) := by decide +kernel
theorem dX8_derived_42 : decode cX8_derived 42 = .ok (.aload_n 0, 1) := by decide +kernel
theorem dX8_derived_43 : decode cX8_derived 43 = .ok (.getfield 36, 3) := by decide +kernel
theorem dX8_derived_46 : decode cX8_derived 46 = .ok (.aload_n 3, 1) := by decide +kernel
theorem dX8_derived_47 : decode cX8_derived 47 = .ok (.iload_n 2, 1) := by decide +kernel
theorem dX8_derived_48 : decode cX8_derived 48 = .ok (.invokevirtual 145, 3) := by decide +kernel
theorem dX8_derived_51 : decode cX8_derived 51 = .ok (.invokevirtual 138, 3) := by decide +kernel
theorem dX8_derived_54 : decode cX8_derived 54 = .ok (.ireturn, 1) := by decide +kernel
theorem dX8_spair_0 : decode cX8_spair 0 = .ok (.aload_n 0, 1) := by decide +kernel
theorem dX8_spair_1 : decode cX8_spair 1 = .ok (.iload_n 1, 1) := by decide +kernel
theorem dX8_spair_2 : decode cX8_spair 2 = .ok (.invokevirtual 121, 3) := by decide +kernel
theorem dX8_spair_5 : decode cX8_spair 5 = .ok (.astore_n 3, 1) := by decide +kernel
theorem dX8_spair_6 : decode cX8_spair 6 = .ok (.aload_n 0, 1) := by decide +kernel
theorem dX8_spair_7 : decode cX8_spair 7 = .ok (.iload_n 2, 1) := by decide +kernel
theorem dX8_spair_8 : decode cX8_spair 8 = .ok (.invokevirtual 121, 3) := by decide +kernel
theorem dX8_spair_11 : decode cX8_spair 11 = .ok (.astore 4, 2) := by decide +kernel
theorem dX8_spair_13 : decode cX8_spair 13 = .ok (.aload_n 3, 1) := by decide +kernel
theorem dX8_spair_14 : decode cX8_spair 14 = .ok (.ifnull 23, 3) := by decide +kernel
theorem dX8_spair_17 : decode cX8_spair 17 = .ok (.aload 4, 2) := by decide +kernel
theorem dX8_spair_19 : decode cX8_spair 19 = .ok (.ifnull 18, 3) := by decide +kernel
theorem dX8_spair_22 : decode cX8_spair 22 = .ok (.aload_n 3, 1) := by decide +kernel
theorem dX8_spair_23 : decode cX8_spair 23 = .ok (.getfield 108, 3) := by decide +kernel
theorem dX8_spair_26 : decode cX8_spair 26 = .ok (.ifCond .eq 11, 3) := by decide +kernel
theorem dX8_spair_29 : decode cX8_spair 29 = .ok (.aload 4, 2) := by decide +kernel
theorem dX8_spair_31 : decode cX8_spair 31 = .ok (.getfield 108, 3) := by decide +kernel
theorem dX8_spair_34 : decode cX8_spair 34 = .ok (.ifCond .ne 6, 3) := by decide +kernel
theorem dX8_spair_37 : decode cX8_spair 37 = .ok (.bipush (-2), 2) := by decide +kernel
theorem dX8_spair_39 : decode cX8_spair 39 = .ok (.ireturn, 1) := by decide +kernel
theorem dX8_spair_40 : decode cX8_spair 40 = .ok (.aload_n 0, 1) := by decide +kernel
theorem dX8_spair_41 : decode cX8_spair 41 = .ok (.getfield 42, 3) := by decide +kernel
theorem dX8_spair_44 : decode cX8_spair 44 = .ok (.invokevirtual 109, 3) := by decide +kernel
theorem dX8_spair_47 : decode cX8_spair 47 = .ok (.ifCond .eq 6, 3) := by decide +kernel
theorem dX8_spair_50 : decode cX8_spair 50 = .ok (.bipush (-4), 2) := by decide +kernel
theorem dX8_spair_52 : decode cX8_spair 52 = .ok (.ireturn, 1) := by decide +kernel
theorem dX8_spair_53 : decode cX8_spair 53 = .ok (.aload_n 0, 1) := by decide +kernel
theorem dX8_spair_54 : decode cX8_spair 54 = .ok (.aload_n 0, 1) := by decide +kernel
theorem dX8_spair_55 : decode cX8_spair 55 = .ok (.getfield 18, 3) := by decide +kernel
theorem dX8_spair_58 : decode cX8_spair 58 = .ok (.aload_n 0, 1) := by decide +kernel
theorem dX8_spair_59 : decode cX8_spair 59 = .ok (.getfield 36, 3) := by decide +kernel
theorem dX8_spair_62 : decode cX8_spair 62 = .ok (.aload_n 3, 1) := by decide +kernel
theorem dX8_spair_63 : decode cX8_spair 63 = .ok (.aload 4, 2) := by decide +kernel
theorem dX8_spair_65 : decode cX8_spair 65 = .ok (.invokevirtual 149, 3) := by decide +kernel
theorem dX8_spair_68 : decode cX8_spair 68 = .ok (.invokevirtual 138, 3) := by decide +kernel
theorem dX8_spair_71 : decode cX8_spair 71 = .ok (.ireturn, 1) := by decide +kernel
theorem dX8_value_0 : decode cX8_value 0 = .ok (.aload_n 0, 1) := by decide +kernel
theorem dX8_value_1 : decode cX8_value 1 = .ok (.iload_n 1, 1) := by decide +kernel
theorem dX8_value_2 : decode cX8_value 2 = .ok (.invokevirtual 121, 3) := by decide +kernel
theorem dX8_value_5 : decode cX8_value 5 = .ok (.astore 6, 2) := by decide +kernel
theorem dX8_value_7 : decode cX8_value 7 = .ok (.aload 6, 2) := by decide +kernel
theorem dX8_value_9 : decode cX8_value 9 = .ok (.ifnonnull 6, 3) := by decide +kernel
theorem dX8_value_12 : decode cX8_value 12 = .ok (.bipush (-2), 2) := by decide +kernel
theorem dX8_value_14 : decode cX8_value 14 = .ok (.ireturn, 1) := by decide +kernel
theorem dX8_value_15 : decode cX8_value 15 = .ok (.aload_n 0, 1) := by decide +kernel
theorem dX8_value_16 : decode cX8_value 16 = .ok (.getfield 18, 3) := by decide +kernel
theorem dX8_value_19 : decode cX8_value 19 = .ok (.iconst 0, 1) := by decide +kernel
theorem dX8_value_20 : decode cX8_value 20 = .ok (.iload_n 2, 1) := by decide +kernel
theorem dX8_value_21 : decode cX8_value 21 = .ok (.invokevirtual 152, 3) := by decide +kernel
theorem dX8_value_24 : decode cX8_value 24 = .ok (.aload_n 0, 1) := by decide +kernel
theorem dX8_value_25 : decode cX8_value 25 = .ok (.getfield 18, 3) := by decide +kernel
theorem dX8_value_28 : decode cX8_value 28 = .ok (.iconst 1, 1) := by decide +kernel
theorem dX8_value_29 : decode cX8_value 29 = .ok (.iload_n 3, 1) := by decide +kernel
theorem dX8_value_30 : decode cX8_value 30 = .ok (.invokevirtual 152, 3) := by decide +kernel
theorem dX8_value_33 : decode cX8_value 33 = .ok (.aload_n 0, 1) := by decide +kernel
theorem dX8_value_34 : decode cX8_value 34 = .ok (.getfield 18, 3) := by decide +kernel
theorem dX8_value_37 : decode cX8_value 37 = .ok (.iconst 2, 1) := by decide +kernel
theorem dX8_value_38 : decode cX8_value 38 = .ok (.iload 4, 2) := by decide +kernel
theorem dX8_value_40 : decode cX8_value 40 = .ok (.invokevirtual 152, 3) := by decide +kernel
theorem dX8_value_43 : decode cX8_value 43 = .ok (.aload_n 0, 1) := by decide +kernel
theorem dX8_value_44 : decode cX8_value 44 = .ok (.getfield 18, 3) := by decide +kernel
theorem dX8_value_47 : decode cX8_value 47 = .ok (.iconst 3, 1) := by decide +kernel
theorem dX8_value_48 : decode cX8_value 48 = .ok (.iload 5, 2) := by decide +kernel
theorem dX8_value_50 : decode cX8_value 50 = .ok (.invokevirtual 152, 3) := by decide +kernel
theorem dX8_value_53 : decode cX8_value 53 = .ok (.aload_n 0, 1) := by decide +kernel
theorem dX8_value_54 : decode cX8_value 54 = .ok (.getfield 18, 3) := by decide +kernel
theorem dX8_value_57 : decode cX8_value 57 = .ok (.aload 6, 2) := by decide +kernel
theorem dX8_value_59 : decode cX8_value 59 = .ok (.invokevirtual 155, 3) := by decide +kernel
theorem dX8_value_62 : decode cX8_value 62 = .ok (.ireturn, 1) := by decide +kernel
theorem dX8_compare_0 : decode cX8_compare 0 = .ok (.aload_n 0, 1) := by decide +kernel
theorem dX8_compare_1 : decode cX8_compare 1 = .ok (.iload_n 1, 1) := by decide +kernel
theorem dX8_compare_2 : decode cX8_compare 2 = .ok (.invokevirtual 121, 3) := by decide +kernel
theorem dX8_compare_5 : decode cX8_compare 5 = .ok (.astore_n 3, 1) := by decide +kernel
theorem dX8_compare_6 : decode cX8_compare 6 = .ok (.aload_n 0, 1) := by decide +kernel
theorem dX8_compare_7 : decode cX8_compare 7 = .ok (.iload_n 2, 1) := by decide +kernel
theorem dX8_compare_8 : decode cX8_compare 8 = .ok (.invokevirtual 121, 3) := by decide +kernel
theorem dX8_compare_11 : decode cX8_compare 11 = .ok (.astore 4, 2) := by decide +kernel
theorem dX8_compare_13 : decode cX8_compare 13 = .ok (.aload_n 3, 1) := by decide +kernel
theorem dX8_compare_14 : decode cX8_compare 14 = .ok (.ifnull 8, 3) := by decide +kernel
theorem dX8_compare_17 : decode cX8_compare 17 = .ok (.aload 4, 2) := by decide +kernel
theorem dX8_compare_19 : decode cX8_compare 19 = .ok (.ifnonnull 8, 3) := by decide +kernel
theorem dX8_compare_22 : decode cX8_compare 22 = .ok (.bipush (-2), 2) := by decide +kernel
theorem dX8_compare_24 : decode cX8_compare 24 = .ok (.goto 13, 3) := by decide +kernel
theorem dX8_compare_27 : decode cX8_compare 27 = .ok (.aload_n 0, 1) := by decide +kernel
theorem dX8_compare_28 : decode cX8_compare 28 = .ok (.getfield 18, 3) := by decide +kernel
theorem dX8_compare_31 : decode cX8_compare 31 = .ok (.aload_n 3, 1) := by decide +kernel
theorem dX8_compare_32 : decode cX8_compare 32 = .ok (.aload 4, 2) := by decide +kernel
theorem dX8_compare_34 : decode cX8_compare 34 = .ok (.invokevirtual 158, 3) := by decide +kernel
theorem dX8_compare_37 : decode cX8_compare 37 = .ok (.ireturn, 1) := by decide +kernel
theorem dX8_fuel_0 : decode cX8_fuel 0 = .ok (.iload_n 1, 1) := by decide +kernel
theorem dX8_fuel_1 : decode cX8_fuel 1 = .ok (.ifCond .lt 10, 3) := by decide +kernel
theorem dX8_fuel_4 : decode cX8_fuel 4 = .ok (.iload_n 1, 1) := by decide +kernel
theorem dX8_fuel_5 : decode cX8_fuel 5 = .ok (.sipush 2000, 3) := by decide +kernel
theorem dX8_fuel_8 : decode cX8_fuel 8 = .ok (.if_icmp .le 6, 3) := by decide +kernel
theorem dX8_fuel_11 : decode cX8_fuel 11 = .ok (.bipush (-2), 2) := by decide +kernel
theorem dX8_fuel_13 : decode cX8_fuel 13 = .ok (.ireturn, 1) := by decide +kernel
theorem dX8_fuel_14 : decode cX8_fuel 14 = .ok (.aload_n 0, 1) := by decide +kernel
theorem dX8_fuel_15 : decode cX8_fuel 15 = .ok (.getfield 51, 3) := by decide +kernel
theorem dX8_fuel_18 : decode cX8_fuel 18 = .ok (.getfield 162, 3) := by decide +kernel
theorem dX8_fuel_21 : decode cX8_fuel 21 = .ok (.istore_n 2, 1) := by decide +kernel
theorem dX8_fuel_22 : decode cX8_fuel 22 = .ok (.aload_n 0, 1) := by decide +kernel
theorem dX8_fuel_23 : decode cX8_fuel 23 = .ok (.getfield 51, 3) := by decide +kernel
theorem dX8_fuel_26 : decode cX8_fuel 26 = .ok (.iload_n 1, 1) := by decide +kernel
theorem dX8_fuel_27 : decode cX8_fuel 27 = .ok (.putfield 162, 3) := by decide +kernel
theorem dX8_fuel_30 : decode cX8_fuel 30 = .ok (.iload_n 2, 1) := by decide +kernel
theorem dX8_fuel_31 : decode cX8_fuel 31 = .ok (.ireturn, 1) := by decide +kernel
theorem dX8_way_0 : decode cX8_way 0 = .ok (.iload_n 1, 1) := by decide +kernel
theorem dX8_way_1 : decode cX8_way 1 = .ok (.ifCond .lt 8, 3) := by decide +kernel
theorem dX8_way_4 : decode cX8_way 4 = .ok (.iload_n 1, 1) := by decide +kernel
theorem dX8_way_5 : decode cX8_way 5 = .ok (.iconst 1, 1) := by decide +kernel
theorem dX8_way_6 : decode cX8_way 6 = .ok (.if_icmp .le 6, 3) := by decide +kernel
theorem dX8_way_9 : decode cX8_way 9 = .ok (.bipush (-2), 2) := by decide +kernel
theorem dX8_way_11 : decode cX8_way 11 = .ok (.ireturn, 1) := by decide +kernel
theorem dX8_way_12 : decode cX8_way 12 = .ok (.aload_n 0, 1) := by decide +kernel
theorem dX8_way_13 : decode cX8_way 13 = .ok (.getfield 60, 3) := by decide +kernel
theorem dX8_way_16 : decode cX8_way 16 = .ok (.getfield 165, 3) := by decide +kernel
theorem dX8_way_19 : decode cX8_way 19 = .ok (.istore_n 2, 1) := by decide +kernel
theorem dX8_way_20 : decode cX8_way 20 = .ok (.aload_n 0, 1) := by decide +kernel
theorem dX8_way_21 : decode cX8_way 21 = .ok (.getfield 60, 3) := by decide +kernel
theorem dX8_way_24 : decode cX8_way 24 = .ok (.iload_n 1, 1) := by decide +kernel
theorem dX8_way_25 : decode cX8_way 25 = .ok (.putfield 165, 3) := by decide +kernel
theorem dX8_way_28 : decode cX8_way 28 = .ok (.iload_n 2, 1) := by decide +kernel
theorem dX8_way_29 : decode cX8_way 29 = .ok (.ireturn, 1) := by decide +kernel
theorem dX8_rules_0 : decode cX8_rules 0 = .ok (.iload_n 1, 1) := by decide +kernel
theorem dX8_rules_1 : decode cX8_rules 1 = .ok (.ifCond .lt 8, 3) := by decide +kernel
theorem dX8_rules_4 : decode cX8_rules 4 = .ok (.iload_n 1, 1) := by decide +kernel
theorem dX8_rules_5 : decode cX8_rules 5 = .ok (.iconst 3, 1) := by decide +kernel
theorem dX8_rules_6 : decode cX8_rules 6 = .ok (.if_icmp .le 6, 3) := by decide +kernel
theorem dX8_rules_9 : decode cX8_rules 9 = .ok (.bipush (-2), 2) := by decide +kernel
theorem dX8_rules_11 : decode cX8_rules 11 = .ok (.ireturn, 1) := by decide +kernel
theorem dX8_rules_12 : decode cX8_rules 12 = .ok (.aload_n 0, 1) := by decide +kernel
theorem dX8_rules_13 : decode cX8_rules 13 = .ok (.getfield 60, 3) := by decide +kernel
theorem dX8_rules_16 : decode cX8_rules 16 = .ok (.getfield 168, 3) := by decide +kernel
theorem dX8_rules_19 : decode cX8_rules 19 = .ok (.istore_n 2, 1) := by decide +kernel
theorem dX8_rules_20 : decode cX8_rules 20 = .ok (.aload_n 0, 1) := by decide +kernel
theorem dX8_rules_21 : decode cX8_rules 21 = .ok (.getfield 60, 3) := by decide +kernel
theorem dX8_rules_24 : decode cX8_rules 24 = .ok (.iload_n 1, 1) := by decide +kernel
theorem dX8_rules_25 : decode cX8_rules 25 = .ok (.putfield 168, 3) := by decide +kernel
theorem dX8_rules_28 : decode cX8_rules 28 = .ok (.iload_n 2, 1) := by decide +kernel
theorem dX8_rules_29 : decode cX8_rules 29 = .ok (.ireturn, 1) := by decide +kernel
theorem dX8_enter_0 : decode cX8_enter 0 = .ok (.aload_n 0, 1) := by decide +kernel
theorem dX8_enter_1 : decode cX8_enter 1 = .ok (.iload_n 1, 1) := by decide +kernel
theorem dX8_enter_2 : decode cX8_enter 2 = .ok (.invokevirtual 121, 3) := by decide +kernel
theorem dX8_enter_5 : decode cX8_enter 5 = .ok (.astore_n 2, 1) := by decide +kernel
theorem dX8_enter_6 : decode cX8_enter 6 = .ok (.aload_n 2, 1) := by decide +kernel
theorem dX8_enter_7 : decode cX8_enter 7 = .ok (.ifnull 10, 3) := by decide +kernel
theorem dX8_enter_10 : decode cX8_enter 10 = .ok (.aload_n 2, 1) := by decide +kernel
theorem dX8_enter_11 : decode cX8_enter 11 = .ok (.getfield 108, 3) := by decide +kernel
theorem dX8_enter_14 : decode cX8_enter 14 = .ok (.ifCond .ne 6, 3) := by decide +kernel
theorem dX8_enter_17 : decode cX8_enter 17 = .ok (.bipush (-2), 2) := by decide +kernel
theorem dX8_enter_19 : decode cX8_enter 19 = .ok (.ireturn, 1) := by decide +kernel
theorem dX8_enter_20 : decode cX8_enter 20 = .ok (.aload_n 0, 1) := by decide +kernel
theorem dX8_enter_21 : decode cX8_enter 21 = .ok (.getfield 60, 3) := by decide +kernel
theorem dX8_enter_24 : decode cX8_enter 24 = .ok (.invokevirtual 171, 3) := by decide +kernel
theorem dX8_enter_27 : decode cX8_enter 27 = .ok (.ifCond .eq 6, 3) := by decide +kernel
theorem dX8_enter_30 : decode cX8_enter 30 = .ok (.bipush (-4), 2) := by decide +kernel
theorem dX8_enter_32 : decode cX8_enter 32 = .ok (.ireturn, 1) := by decide +kernel
theorem dX8_enter_33 : decode cX8_enter 33 = .ok (.aload_n 0, 1) := by decide +kernel
theorem dX8_enter_34 : decode cX8_enter 34 = .ok (.getfield 60, 3) := by decide +kernel
theorem dX8_enter_37 : decode cX8_enter 37 = .ok (.iconst 0, 1) := by decide +kernel
theorem dX8_enter_38 : decode cX8_enter 38 = .ok (.putfield 172, 3) := by decide +kernel
theorem dX8_enter_41 : decode cX8_enter 41 = .ok (.aload_n 0, 1) := by decide +kernel
theorem dX8_enter_42 : decode cX8_enter 42 = .ok (.getfield 60, 3) := by decide +kernel
theorem dX8_enter_45 : decode cX8_enter 45 = .ok (.aload_n 2, 1) := by decide +kernel
theorem dX8_enter_46 : decode cX8_enter 46 = .ok (.invokevirtual 176, 3) := by decide +kernel
theorem dX8_enter_49 : decode cX8_enter 49 = .ok (.ireturn, 1) := by decide +kernel
theorem dX8_clear_0 : decode cX8_clear 0 = .ok (.aload_n 0, 1) := by decide +kernel
theorem dX8_clear_1 : decode cX8_clear 1 = .ok (.getfield 60, 3) := by decide +kernel
theorem dX8_clear_4 : decode cX8_clear 4 = .ok (.invokevirtual 179, 3) := by decide +kernel
theorem dX8_clear_7 : decode cX8_clear 7 = .ok (.ireturn, 1) := by decide +kernel
theorem dX8_work_0 : decode cX8_work 0 = .ok (.iload_n 1, 1) := by decide +kernel
theorem dX8_work_1 : decode cX8_work 1 = .ok (.iconst 1, 1) := by decide +kernel
theorem dX8_work_2 : decode cX8_work 2 = .ok (.if_icmp .lt 10, 3) := by decide +kernel
theorem dX8_work_5 : decode cX8_work 5 = .ok (.iload_n 1, 1) := by decide +kernel
theorem dX8_work_6 : decode cX8_work 6 = .ok (.sipush 200, 3) := by decide +kernel
theorem dX8_work_9 : decode cX8_work 9 = .ok (.if_icmp .le 6, 3) := by decide +kernel
theorem dX8_work_12 : decode cX8_work 12 = .ok (.bipush (-2), 2) := by decide +kernel
theorem dX8_work_14 : decode cX8_work 14 = .ok (.ireturn, 1) := by decide +kernel
theorem dX8_work_15 : decode cX8_work 15 = .ok (.aload_n 0, 1) := by decide +kernel
theorem dX8_work_16 : decode cX8_work 16 = .ok (.getfield 51, 3) := by decide +kernel
theorem dX8_work_19 : decode cX8_work 19 = .ok (.invokevirtual 183, 3) := by decide +kernel
theorem dX8_work_22 : decode cX8_work 22 = .ok (.iconst 0, 1) := by decide +kernel
theorem dX8_work_23 : decode cX8_work 23 = .ok (.istore_n 2, 1) := by decide +kernel
theorem dX8_work_24 : decode cX8_work 24 = .ok (.iload_n 2, 1) := by decide +kernel
theorem dX8_work_25 : decode cX8_work 25 = .ok (.iload_n 1, 1) := by decide +kernel
theorem dX8_work_26 : decode cX8_work 26 = .ok (.if_icmp .ge 36, 3) := by decide +kernel
theorem dX8_work_29 : decode cX8_work 29 = .ok (.aload_n 0, 1) := by decide +kernel
theorem dX8_work_30 : decode cX8_work 30 = .ok (.getfield 60, 3) := by decide +kernel
theorem dX8_work_33 : decode cX8_work 33 = .ok (.getfield 186, 3) := by decide +kernel
theorem dX8_work_36 : decode cX8_work 36 = .ok (.getfield 190, 3) := by decide +kernel
theorem dX8_work_39 : decode cX8_work 39 = .ok (.ifCond .le 23, 3) := by decide +kernel
theorem dX8_work_42 : decode cX8_work 42 = .ok (.aload_n 0, 1) := by decide +kernel
theorem dX8_work_43 : decode cX8_work 43 = .ok (.getfield 60, 3) := by decide +kernel
theorem dX8_work_46 : decode cX8_work 46 = .ok (.invokevirtual 193, 3) := by decide +kernel
theorem dX8_work_49 : decode cX8_work 49 = .ok (.istore_n 3, 1) := by decide +kernel
theorem dX8_work_50 : decode cX8_work 50 = .ok (.iload_n 3, 1) := by decide +kernel
theorem dX8_work_51 : decode cX8_work 51 = .ok (.ifCond .eq 5, 3) := by decide +kernel
theorem dX8_work_54 : decode cX8_work 54 = .ok (.iload_n 3, 1) := by decide +kernel
theorem dX8_work_55 : decode cX8_work 55 = .ok (.ireturn, 1) := by decide +kernel
theorem dX8_work_56 : decode cX8_work 56 = .ok (.iinc 2 1, 3) := by decide +kernel
theorem dX8_work_59 : decode cX8_work 59 = .ok (.goto (-35), 3) := by decide +kernel
theorem dX8_work_62 : decode cX8_work 62 = .ok (.iload_n 2, 1) := by decide +kernel
theorem dX8_work_63 : decode cX8_work 63 = .ok (.ireturn, 1) := by decide +kernel
theorem dX8_tidy_0 : decode cX8_tidy 0 = .ok (.aload_n 0, 1) := by decide +kernel
theorem dX8_tidy_1 : decode cX8_tidy 1 = .ok (.getfield 60, 3) := by decide +kernel
theorem dX8_tidy_4 : decode cX8_tidy 4 = .ok (.getfield 186, 3) := by decide +kernel
theorem dX8_tidy_7 : decode cX8_tidy 7 = .ok (.getfield 190, 3) := by decide +kernel
theorem dX8_tidy_10 : decode cX8_tidy 10 = .ok (.ifCond .le 8, 3) := by decide +kernel
theorem dX8_tidy_13 : decode cX8_tidy 13 = .ok (.bipush (-3), 2) := by decide +kernel
theorem dX8_tidy_15 : decode cX8_tidy 15 = .ok (.goto 10, 3) := by decide +kernel
theorem dX8_tidy_18 : decode cX8_tidy 18 = .ok (.aload_n 0, 1) := by decide +kernel
theorem dX8_tidy_19 : decode cX8_tidy 19 = .ok (.getfield 60, 3) := by decide +kernel
theorem dX8_tidy_22 : decode cX8_tidy 22 = .ok (.invokevirtual 196, 3) := by decide +kernel
theorem dX8_tidy_25 : decode cX8_tidy 25 = .ok (.ireturn, 1) := by decide +kernel
theorem dX8_left_0 : decode cX8_left 0 = .ok (.aload_n 0, 1) := by decide +kernel
theorem dX8_left_1 : decode cX8_left 1 = .ok (.iload_n 1, 1) := by decide +kernel
theorem dX8_left_2 : decode cX8_left 2 = .ok (.invokevirtual 121, 3) := by decide +kernel
theorem dX8_left_5 : decode cX8_left 5 = .ok (.astore_n 2, 1) := by decide +kernel
theorem dX8_left_6 : decode cX8_left 6 = .ok (.aload_n 2, 1) := by decide +kernel
theorem dX8_left_7 : decode cX8_left 7 = .ok (.ifnonnull 6, 3) := by decide +kernel
theorem dX8_left_10 : decode cX8_left 10 = .ok (.bipush (-2), 2) := by decide +kernel
theorem dX8_left_12 : decode cX8_left 12 = .ok (.ireturn, 1) := by decide +kernel
theorem dX8_left_13 : decode cX8_left 13 = .ok (.aload_n 0, 1) := by decide +kernel
theorem dX8_left_14 : decode cX8_left 14 = .ok (.getfield 51, 3) := by decide +kernel
theorem dX8_left_17 : decode cX8_left 17 = .ok (.invokevirtual 183, 3) := by decide +kernel
theorem dX8_left_20 : decode cX8_left 20 = .ok (.aload_n 0, 1) := by decide +kernel
theorem dX8_left_21 : decode cX8_left 21 = .ok (.getfield 42, 3) := by decide +kernel
theorem dX8_left_24 : decode cX8_left 24 = .ok (.invokevirtual 109, 3) := by decide +kernel
theorem dX8_left_27 : decode cX8_left 27 = .ok (.ifCond .eq 6, 3) := by decide +kernel
theorem dX8_left_30 : decode cX8_left 30 = .ok (.bipush (-4), 2) := by decide +kernel
theorem dX8_left_32 : decode cX8_left 32 = .ok (.ireturn, 1) := by decide +kernel
theorem dX8_left_33 : decode cX8_left 33 = .ok (.aload_n 0, 1) := by decide +kernel
theorem dX8_left_34 : decode cX8_left 34 = .ok (.getfield 51, 3) := by decide +kernel
theorem dX8_left_37 : decode cX8_left 37 = .ok (.aload_n 2, 1) := by decide +kernel
theorem dX8_left_38 : decode cX8_left 38 = .ok (.aload_n 0, 1) := by decide +kernel
theorem dX8_left_39 : decode cX8_left 39 = .ok (.getfield 60, 3) := by decide +kernel
theorem dX8_left_42 : decode cX8_left 42 = .ok (.getfield 199, 3) := by decide +kernel
theorem dX8_left_45 : decode cX8_left 45 = .ok (.aload_n 0, 1) := by decide +kernel
theorem dX8_left_46 : decode cX8_left 46 = .ok (.getfield 60, 3) := by decide +kernel
theorem dX8_left_49 : decode cX8_left 49 = .ok (.getfield 73, 3) := by decide +kernel
theorem dX8_left_52 : decode cX8_left 52 = .ok (.iconst (-1), 1) := by decide +kernel
theorem dX8_left_53 : decode cX8_left 53 = .ok (.invokevirtual 203, 3) := by decide +kernel
theorem dX8_left_56 : decode cX8_left 56 = .ok (.istore_n 3, 1) := by decide +kernel
theorem dX8_left_57 : decode cX8_left 57 = .ok (.iload_n 3, 1) := by decide +kernel
theorem dX8_left_58 : decode cX8_left 58 = .ok (.ifCond .eq 7, 3) := by decide +kernel
theorem dX8_left_61 : decode cX8_left 61 = .ok (.iload_n 3, 1) := by decide +kernel
theorem dX8_left_62 : decode cX8_left 62 = .ok (.goto 17, 3) := by decide +kernel
theorem dX8_left_65 : decode cX8_left 65 = .ok (.aload_n 0, 1) := by decide +kernel
theorem dX8_left_66 : decode cX8_left 66 = .ok (.getfield 42, 3) := by decide +kernel
theorem dX8_left_69 : decode cX8_left 69 = .ok (.aload_n 0, 1) := by decide +kernel
theorem dX8_left_70 : decode cX8_left 70 = .ok (.getfield 51, 3) := by decide +kernel
theorem dX8_left_73 : decode cX8_left 73 = .ok (.getfield 207, 3) := by decide +kernel
theorem dX8_left_76 : decode cX8_left 76 = .ok (.invokevirtual 113, 3) := by decide +kernel
theorem dX8_left_79 : decode cX8_left 79 = .ok (.ireturn, 1) := by decide +kernel
theorem dX8_member_0 : decode cX8_member 0 = .ok (.aload_n 0, 1) := by decide +kernel
theorem dX8_member_1 : decode cX8_member 1 = .ok (.iload_n 1, 1) := by decide +kernel
theorem dX8_member_2 : decode cX8_member 2 = .ok (.invokevirtual 121, 3) := by decide +kernel
theorem dX8_member_5 : decode cX8_member 5 = .ok (.astore_n 2, 1) := by decide +kernel
theorem dX8_member_6 : decode cX8_member 6 = .ok (.aload_n 2, 1) := by decide +kernel
theorem dX8_member_7 : decode cX8_member 7 = .ok (.ifnonnull 6, 3) := by decide +kernel
theorem dX8_member_10 : decode cX8_member 10 = .ok (.bipush (-2), 2) := by decide +kernel
theorem dX8_member_12 : decode cX8_member 12 = .ok (.ireturn, 1) := by decide +kernel
theorem dX8_member_13 : decode cX8_member 13 = .ok (.aload_n 0, 1) := by decide +kernel
theorem dX8_member_14 : decode cX8_member 14 = .ok (.getfield 60, 3) := by decide +kernel
theorem dX8_member_17 : decode cX8_member 17 = .ok (.getfield 172, 3) := by decide +kernel
theorem dX8_member_20 : decode cX8_member 20 = .ok (.ifCond .ne 6, 3) := by decide +kernel
theorem dX8_member_23 : decode cX8_member 23 = .ok (.bipush (-3), 2) := by decide +kernel
theorem dX8_member_25 : decode cX8_member 25 = .ok (.ireturn, 1) := by decide +kernel
theorem dX8_member_26 : decode cX8_member 26 = .ok (.aload_n 0, 1) := by decide +kernel
theorem dX8_member_27 : decode cX8_member 27 = .ok (.getfield 51, 3) := by decide +kernel
theorem dX8_member_30 : decode cX8_member 30 = .ok (.invokevirtual 183, 3) := by decide +kernel
theorem dX8_member_33 : decode cX8_member 33 = .ok (.aload_n 0, 1) := by decide +kernel
theorem dX8_member_34 : decode cX8_member 34 = .ok (.getfield 51, 3) := by decide +kernel
theorem dX8_member_37 : decode cX8_member 37 = .ok (.aload_n 2, 1) := by decide +kernel
theorem dX8_member_38 : decode cX8_member 38 = .ok (.aload_n 0, 1) := by decide +kernel
theorem dX8_member_39 : decode cX8_member 39 = .ok (.getfield 60, 3) := by decide +kernel
theorem dX8_member_42 : decode cX8_member 42 = .ok (.getfield 199, 3) := by decide +kernel
theorem dX8_member_45 : decode cX8_member 45 = .ok (.aload_n 0, 1) := by decide +kernel
theorem dX8_member_46 : decode cX8_member 46 = .ok (.getfield 60, 3) := by decide +kernel
theorem dX8_member_49 : decode cX8_member 49 = .ok (.getfield 73, 3) := by decide +kernel
theorem dX8_member_52 : decode cX8_member 52 = .ok (.iconst (-1), 1) := by decide +kernel
theorem dX8_member_53 : decode cX8_member 53 = .ok (.invokevirtual 203, 3) := by decide +kernel
theorem dX8_member_56 : decode cX8_member 56 = .ok (.istore_n 3, 1) := by decide +kernel
theorem dX8_member_57 : decode cX8_member 57 = .ok (.iload_n 3, 1) := by decide +kernel
theorem dX8_member_58 : decode cX8_member 58 = .ok (.ifCond .eq 5, 3) := by decide +kernel
theorem dX8_member_61 : decode cX8_member 61 = .ok (.iload_n 3, 1) := by decide +kernel
theorem dX8_member_62 : decode cX8_member 62 = .ok (.ireturn, 1) := by decide +kernel
theorem dX8_member_63 : decode cX8_member 63 = .ok (.aload_n 0, 1) := by decide +kernel
theorem dX8_member_64 : decode cX8_member 64 = .ok (.getfield 51, 3) := by decide +kernel
theorem dX8_member_67 : decode cX8_member 67 = .ok (.getfield 207, 3) := by decide +kernel
theorem dX8_member_70 : decode cX8_member 70 = .ok (.getfield 108, 3) := by decide +kernel
theorem dX8_member_73 : decode cX8_member 73 = .ok (.ifCond .ne 7, 3) := by decide +kernel
theorem dX8_member_76 : decode cX8_member 76 = .ok (.iconst 1, 1) := by decide +kernel
theorem dX8_member_77 : decode cX8_member 77 = .ok (.goto 4, 3) := by decide +kernel
theorem dX8_member_80 : decode cX8_member 80 = .ok (.iconst 0, 1) := by decide +kernel
theorem dX8_member_81 : decode cX8_member 81 = .ok (.ireturn, 1) := by decide +kernel
theorem dX8_pair_0 : decode cX8_pair 0 = .ok (.aload_n 0, 1) := by decide +kernel
theorem dX8_pair_1 : decode cX8_pair 1 = .ok (.getfield 60, 3) := by decide +kernel
theorem dX8_pair_4 : decode cX8_pair 4 = .ok (.getfield 186, 3) := by decide +kernel
theorem dX8_pair_7 : decode cX8_pair 7 = .ok (.astore_n 2, 1) := by decide +kernel
theorem dX8_pair_8 : decode cX8_pair 8 = .ok (.iload_n 1, 1) := by decide +kernel
theorem dX8_pair_9 : decode cX8_pair 9 = .ok (.ifCond .lt 11, 3) := by decide +kernel
theorem dX8_pair_12 : decode cX8_pair 12 = .ok (.iload_n 1, 1) := by decide +kernel
theorem dX8_pair_13 : decode cX8_pair 13 = .ok (.aload_n 2, 1) := by decide +kernel
theorem dX8_pair_14 : decode cX8_pair 14 = .ok (.getfield 190, 3) := by decide +kernel
theorem dX8_pair_17 : decode cX8_pair 17 = .ok (.if_icmp .lt 7, 3) := by decide +kernel
theorem dX8_pair_20 : decode cX8_pair 20 = .ok (.iconst (-1), 1) := by decide +kernel
theorem dX8_pair_21 : decode cX8_pair 21 = .ok (.goto 19, 3) := by decide +kernel
theorem dX8_pair_24 : decode cX8_pair 24 = .ok (.bipush 100, 2) := by decide +kernel
theorem dX8_pair_26 : decode cX8_pair 26 = .ok (.aload_n 2, 1) := by decide +kernel
theorem dX8_pair_27 : decode cX8_pair 27 = .ok (.getfield 210, 3) := by decide +kernel
theorem dX8_pair_30 : decode cX8_pair 30 = .ok (.iload_n 1, 1) := by decide +kernel
theorem dX8_pair_31 : decode cX8_pair 31 = .ok (.iaload, 1) := by decide +kernel
theorem dX8_pair_32 : decode cX8_pair 32 = .ok (.imul, 1) := by decide +kernel
theorem dX8_pair_33 : decode cX8_pair 33 = .ok (.aload_n 2, 1) := by decide +kernel
theorem dX8_pair_34 : decode cX8_pair 34 = .ok (.getfield 213, 3) := by decide +kernel
theorem dX8_pair_37 : decode cX8_pair 37 = .ok (.iload_n 1, 1) := by decide +kernel
theorem dX8_pair_38 : decode cX8_pair 38 = .ok (.iaload, 1) := by decide +kernel
theorem dX8_pair_39 : decode cX8_pair 39 = .ok (.iadd, 1) := by decide +kernel
theorem dX8_pair_40 : decode cX8_pair 40 = .ok (.ireturn, 1) := by decide +kernel
theorem dX8_standing_0 : decode cX8_standing 0 = .ok (.aload_n 0, 1) := by decide +kernel
theorem dX8_standing_1 : decode cX8_standing 1 = .ok (.getfield 60, 3) := by decide +kernel
theorem dX8_standing_4 : decode cX8_standing 4 = .ok (.getfield 172, 3) := by decide +kernel
theorem dX8_standing_7 : decode cX8_standing 7 = .ok (.ifCond .eq 13, 3) := by decide +kernel
theorem dX8_standing_10 : decode cX8_standing 10 = .ok (.aload_n 0, 1) := by decide +kernel
theorem dX8_standing_11 : decode cX8_standing 11 = .ok (.getfield 69, 3) := by decide +kernel
theorem dX8_standing_14 : decode cX8_standing 14 = .ok (.invokevirtual 216, 3) := by decide +kernel
theorem dX8_standing_17 : decode cX8_standing 17 = .ok (.goto 5, 3) := by decide +kernel
theorem dX8_standing_20 : decode cX8_standing 20 = .ok (.bipush (-3), 2) := by decide +kernel
theorem dX8_standing_22 : decode cX8_standing 22 = .ok (.ireturn, 1) := by decide +kernel
theorem dX8_stands_0 : decode cX8_stands 0 = .ok (.aload_n 0, 1) := by decide +kernel
theorem dX8_stands_1 : decode cX8_stands 1 = .ok (.getfield 60, 3) := by decide +kernel
theorem dX8_stands_4 : decode cX8_stands 4 = .ok (.getfield 172, 3) := by decide +kernel
theorem dX8_stands_7 : decode cX8_stands 7 = .ok (.ifCond .ne 6, 3) := by decide +kernel
theorem dX8_stands_10 : decode cX8_stands 10 = .ok (.bipush (-3), 2) := by decide +kernel
theorem dX8_stands_12 : decode cX8_stands 12 = .ok (.ireturn, 1) := by decide +kernel
theorem dX8_stands_13 : decode cX8_stands 13 = .ok (.aload_n 0, 1) := by decide +kernel
theorem dX8_stands_14 : decode cX8_stands 14 = .ok (.getfield 69, 3) := by decide +kernel
theorem dX8_stands_17 : decode cX8_stands 17 = .ok (.invokevirtual 216, 3) := by decide +kernel
theorem dX8_stands_20 : decode cX8_stands 20 = .ok (.istore_n 3, 1) := by decide +kernel
theorem dX8_stands_21 : decode cX8_stands 21 = .ok (.iload_n 1, 1) := by decide +kernel
theorem dX8_stands_22 : decode cX8_stands 22 = .ok (.ifCond .lt 19, 3) := by decide +kernel
theorem dX8_stands_25 : decode cX8_stands 25 = .ok (.iload_n 1, 1) := by decide +kernel
theorem dX8_stands_26 : decode cX8_stands 26 = .ok (.iload_n 3, 1) := by decide +kernel
theorem dX8_stands_27 : decode cX8_stands 27 = .ok (.if_icmp .ge 14, 3) := by decide +kernel
theorem dX8_stands_30 : decode cX8_stands 30 = .ok (.aload_n 0, 1) := by decide +kernel
theorem dX8_stands_31 : decode cX8_stands 31 = .ok (.getfield 18, 3) := by decide +kernel
theorem dX8_stands_34 : decode cX8_stands 34 = .ok (.iload_n 2, 1) := by decide +kernel
theorem dX8_stands_35 : decode cX8_stands 35 = .ok (.invokevirtual 128, 3) := by decide +kernel
theorem dX8_stands_38 : decode cX8_stands 38 = .ok (.ifCond .ne 8, 3) := by decide +kernel
theorem dX8_stands_41 : decode cX8_stands 41 = .ok (.bipush (-2), 2) := by decide +kernel
theorem dX8_stands_43 : decode cX8_stands 43 = .ok (.goto 16, 3) := by decide +kernel
theorem dX8_stands_46 : decode cX8_stands 46 = .ok (.aload_n 0, 1) := by decide +kernel
theorem dX8_stands_47 : decode cX8_stands 47 = .ok (.getfield 69, 3) := by decide +kernel
theorem dX8_stands_50 : decode cX8_stands 50 = .ok (.getfield 219, 3) := by decide +kernel
theorem dX8_stands_53 : decode cX8_stands 53 = .ok (.iload_n 1, 1) := by decide +kernel
theorem dX8_stands_54 : decode cX8_stands 54 = .ok (.iaload, 1) := by decide +kernel
theorem dX8_stands_55 : decode cX8_stands 55 = .ok (.iload_n 2, 1) := by decide +kernel
theorem dX8_stands_56 : decode cX8_stands 56 = .ok (.invokestatic 134, 3) := by decide +kernel
theorem dX8_stands_59 : decode cX8_stands 59 = .ok (.ireturn, 1) := by decide +kernel
theorem dX8_without_0 : decode cX8_without 0 = .ok (.iload_n 1, 1) := by decide +kernel
theorem dX8_without_1 : decode cX8_without 1 = .ok (.ifCond .lt 14, 3) := by decide +kernel
theorem dX8_without_4 : decode cX8_without 4 = .ok (.iload_n 1, 1) := by decide +kernel
theorem dX8_without_5 : decode cX8_without 5 = .ok (.aload_n 0, 1) := by decide +kernel
theorem dX8_without_6 : decode cX8_without 6 = .ok (.getfield 18, 3) := by decide +kernel
theorem dX8_without_9 : decode cX8_without 9 = .ok (.getfield 220, 3) := by decide +kernel
theorem dX8_without_12 : decode cX8_without 12 = .ok (.if_icmp .le 6, 3) := by decide +kernel
theorem dX8_without_15 : decode cX8_without 15 = .ok (.bipush (-2), 2) := by decide +kernel
theorem dX8_without_17 : decode cX8_without 17 = .ok (.ireturn, 1) := by decide +kernel
theorem dX8_without_18 : decode cX8_without 18 = .ok (.aload_n 0, 1) := by decide +kernel
theorem dX8_without_19 : decode cX8_without 19 = .ok (.getfield 60, 3) := by decide +kernel
theorem dX8_without_22 : decode cX8_without 22 = .ok (.getfield 172, 3) := by decide +kernel
theorem dX8_without_25 : decode cX8_without 25 = .ok (.ifCond .eq 14, 3) := by decide +kernel
theorem dX8_without_28 : decode cX8_without 28 = .ok (.aload_n 0, 1) := by decide +kernel
theorem dX8_without_29 : decode cX8_without 29 = .ok (.getfield 60, 3) := by decide +kernel
theorem dX8_without_32 : decode cX8_without 32 = .ok (.iload_n 1, 1) := by decide +kernel
theorem dX8_without_33 : decode cX8_without 33 = .ok (.invokevirtual 223, 3) := by decide +kernel
theorem dX8_without_36 : decode cX8_without 36 = .ok (.goto 5, 3) := by decide +kernel
theorem dX8_without_39 : decode cX8_without 39 = .ok (.bipush (-3), 2) := by decide +kernel
theorem dX8_without_41 : decode cX8_without 41 = .ok (.ireturn, 1) := by decide +kernel
theorem dX8_zeros_0 : decode cX8_zeros 0 = .ok (.aload_n 0, 1) := by decide +kernel
theorem dX8_zeros_1 : decode cX8_zeros 1 = .ok (.getfield 18, 3) := by decide +kernel
theorem dX8_zeros_4 : decode cX8_zeros 4 = .ok (.sipush 2500, 3) := by decide +kernel
theorem dX8_zeros_7 : decode cX8_zeros 7 = .ok (.invokevirtual 226, 3) := by decide +kernel
theorem dX8_zeros_10 : decode cX8_zeros 10 = .ok (.istore_n 1, 1) := by decide +kernel
theorem dX8_zeros_11 : decode cX8_zeros 11 = .ok (.iload_n 1, 1) := by decide +kernel
theorem dX8_zeros_12 : decode cX8_zeros 12 = .ok (.sipush 2500, 3) := by decide +kernel
theorem dX8_zeros_15 : decode cX8_zeros 15 = .ok (.if_icmp .le 6, 3) := by decide +kernel
theorem dX8_zeros_18 : decode cX8_zeros 18 = .ok (.bipush (-3), 2) := by decide +kernel
theorem dX8_zeros_20 : decode cX8_zeros 20 = .ok (.ireturn, 1) := by decide +kernel
theorem dX8_zeros_21 : decode cX8_zeros 21 = .ok (.iconst 0, 1) := by decide +kernel
theorem dX8_zeros_22 : decode cX8_zeros 22 = .ok (.istore_n 2, 1) := by decide +kernel
theorem dX8_zeros_23 : decode cX8_zeros 23 = .ok (.iconst 0, 1) := by decide +kernel
theorem dX8_zeros_24 : decode cX8_zeros 24 = .ok (.istore_n 3, 1) := by decide +kernel
theorem dX8_zeros_25 : decode cX8_zeros 25 = .ok (.iload_n 3, 1) := by decide +kernel
theorem dX8_zeros_26 : decode cX8_zeros 26 = .ok (.iload_n 1, 1) := by decide +kernel
theorem dX8_zeros_27 : decode cX8_zeros 27 = .ok (.if_icmp .ge 30, 3) := by decide +kernel
theorem dX8_zeros_30 : decode cX8_zeros 30 = .ok (.aload_n 0, 1) := by decide +kernel
theorem dX8_zeros_31 : decode cX8_zeros 31 = .ok (.getfield 18, 3) := by decide +kernel
theorem dX8_zeros_34 : decode cX8_zeros 34 = .ok (.iload_n 3, 1) := by decide +kernel
theorem dX8_zeros_35 : decode cX8_zeros 35 = .ok (.invokevirtual 229, 3) := by decide +kernel
theorem dX8_zeros_38 : decode cX8_zeros 38 = .ok (.aload_n 0, 1) := by decide +kernel
theorem dX8_zeros_39 : decode cX8_zeros 39 = .ok (.getfield 60, 3) := by decide +kernel
theorem dX8_zeros_42 : decode cX8_zeros 42 = .ok (.invokevirtual 232, 3) := by decide +kernel
theorem dX8_zeros_45 : decode cX8_zeros 45 = .ok (.ifCond .eq 6, 3) := by decide +kernel
theorem dX8_zeros_48 : decode cX8_zeros 48 = .ok (.iinc 2 1, 3) := by decide +kernel
theorem dX8_zeros_51 : decode cX8_zeros 51 = .ok (.iinc 3 1, 3) := by decide +kernel
theorem dX8_zeros_54 : decode cX8_zeros 54 = .ok (.goto (-29), 3) := by decide +kernel
theorem dX8_zeros_57 : decode cX8_zeros 57 = .ok (.iload_n 2, 1) := by decide +kernel
theorem dX8_zeros_58 : decode cX8_zeros 58 = .ok (.ireturn, 1) := by decide +kernel
theorem dX8_count_0 : decode cX8_count 0 = .ok (.iload_n 1, 1) := by decide +kernel
theorem dX8_count_1 : decode cX8_count 1 = .ok (.tableswitch 170 0 11 #[63, 71, 79, 87, 98, 106, 114, 122, 130, 138, 154, 162], 63) := by decide +kernel
theorem dX8_count_64 : decode cX8_count 64 = .ok (.aload_n 0, 1) := by decide +kernel
theorem dX8_count_65 : decode cX8_count 65 = .ok (.getfield 18, 3) := by decide +kernel
theorem dX8_count_68 : decode cX8_count 68 = .ok (.getfield 235, 3) := by decide +kernel
theorem dX8_count_71 : decode cX8_count 71 = .ok (.ireturn, 1) := by decide +kernel
theorem dX8_count_72 : decode cX8_count 72 = .ok (.aload_n 0, 1) := by decide +kernel
theorem dX8_count_73 : decode cX8_count 73 = .ok (.getfield 18, 3) := by decide +kernel
theorem dX8_count_76 : decode cX8_count 76 = .ok (.getfield 220, 3) := by decide +kernel
theorem dX8_count_79 : decode cX8_count 79 = .ok (.ireturn, 1) := by decide +kernel
theorem dX8_count_80 : decode cX8_count 80 = .ok (.aload_n 0, 1) := by decide +kernel
theorem dX8_count_81 : decode cX8_count 81 = .ok (.getfield 60, 3) := by decide +kernel
theorem dX8_count_84 : decode cX8_count 84 = .ok (.getfield 73, 3) := by decide +kernel
theorem dX8_count_87 : decode cX8_count 87 = .ok (.ireturn, 1) := by decide +kernel
theorem dX8_count_88 : decode cX8_count 88 = .ok (.aload_n 0, 1) := by decide +kernel
theorem dX8_count_89 : decode cX8_count 89 = .ok (.getfield 60, 3) := by decide +kernel
theorem dX8_count_92 : decode cX8_count 92 = .ok (.getfield 186, 3) := by decide +kernel
theorem dX8_count_95 : decode cX8_count 95 = .ok (.getfield 190, 3) := by decide +kernel
theorem dX8_count_98 : decode cX8_count 98 = .ok (.ireturn, 1) := by decide +kernel
theorem dX8_count_99 : decode cX8_count 99 = .ok (.aload_n 0, 1) := by decide +kernel
theorem dX8_count_100 : decode cX8_count 100 = .ok (.getfield 60, 3) := by decide +kernel
theorem dX8_count_103 : decode cX8_count 103 = .ok (.getfield 238, 3) := by decide +kernel
theorem dX8_count_106 : decode cX8_count 106 = .ok (.ireturn, 1) := by decide +kernel
theorem dX8_count_107 : decode cX8_count 107 = .ok (.aload_n 0, 1) := by decide +kernel
theorem dX8_count_108 : decode cX8_count 108 = .ok (.getfield 60, 3) := by decide +kernel
theorem dX8_count_111 : decode cX8_count 111 = .ok (.getfield 241, 3) := by decide +kernel
theorem dX8_count_114 : decode cX8_count 114 = .ok (.ireturn, 1) := by decide +kernel
theorem dX8_count_115 : decode cX8_count 115 = .ok (.aload_n 0, 1) := by decide +kernel
theorem dX8_count_116 : decode cX8_count 116 = .ok (.getfield 60, 3) := by decide +kernel
theorem dX8_count_119 : decode cX8_count 119 = .ok (.getfield 244, 3) := by decide +kernel
theorem dX8_count_122 : decode cX8_count 122 = .ok (.ireturn, 1) := by decide +kernel
theorem dX8_count_123 : decode cX8_count 123 = .ok (.aload_n 0, 1) := by decide +kernel
theorem dX8_count_124 : decode cX8_count 124 = .ok (.getfield 60, 3) := by decide +kernel
theorem dX8_count_127 : decode cX8_count 127 = .ok (.getfield 247, 3) := by decide +kernel
theorem dX8_count_130 : decode cX8_count 130 = .ok (.ireturn, 1) := by decide +kernel
theorem dX8_count_131 : decode cX8_count 131 = .ok (.aload_n 0, 1) := by decide +kernel
theorem dX8_count_132 : decode cX8_count 132 = .ok (.getfield 51, 3) := by decide +kernel
theorem dX8_count_135 : decode cX8_count 135 = .ok (.getfield 250, 3) := by decide +kernel
theorem dX8_count_138 : decode cX8_count 138 = .ok (.ireturn, 1) := by decide +kernel
theorem dX8_count_139 : decode cX8_count 139 = .ok (.aload_n 0, 1) := by decide +kernel
theorem dX8_count_140 : decode cX8_count 140 = .ok (.getfield 60, 3) := by decide +kernel
theorem dX8_count_143 : decode cX8_count 143 = .ok (.getfield 172, 3) := by decide +kernel
theorem dX8_count_146 : decode cX8_count 146 = .ok (.ifCond .eq 7, 3) := by decide +kernel
theorem dX8_count_149 : decode cX8_count 149 = .ok (.iconst 1, 1) := by decide +kernel
theorem dX8_count_150 : decode cX8_count 150 = .ok (.goto 4, 3) := by decide +kernel
theorem dX8_count_153 : decode cX8_count 153 = .ok (.iconst 0, 1) := by decide +kernel
theorem dX8_count_154 : decode cX8_count 154 = .ok (.ireturn, 1) := by decide +kernel
theorem dX8_count_155 : decode cX8_count 155 = .ok (.aload_n 0, 1) := by decide +kernel
theorem dX8_count_156 : decode cX8_count 156 = .ok (.getfield 42, 3) := by decide +kernel
theorem dX8_count_159 : decode cX8_count 159 = .ok (.getfield 253, 3) := by decide +kernel
theorem dX8_count_162 : decode cX8_count 162 = .ok (.ireturn, 1) := by decide +kernel
theorem dX8_count_163 : decode cX8_count 163 = .ok (.aload_n 0, 1) := by decide +kernel
theorem dX8_count_164 : decode cX8_count 164 = .ok (.getfield 51, 3) := by decide +kernel
theorem dX8_count_167 : decode cX8_count 167 = .ok (.getfield 256, 3) := by decide +kernel
theorem dX8_count_170 : decode cX8_count 170 = .ok (.ireturn, 1) := by decide +kernel
theorem dX8_count_171 : decode cX8_count 171 = .ok (.bipush (-2), 2) := by decide +kernel
theorem dX8_count_173 : decode cX8_count 173 = .ok (.ireturn, 1) := by decide +kernel
theorem dX8_digest_0 : decode cX8_digest 0 = .ok (.aload_n 0, 1) := by decide +kernel
theorem dX8_digest_1 : decode cX8_digest 1 = .ok (.ldc2_w 259, 3) := by decide +kernel
theorem dX8_digest_4 : decode cX8_digest 4 = .ok (.aload_n 0, 1) := by decide +kernel
theorem dX8_digest_5 : decode cX8_digest 5 = .ok (.getfield 25, 3) := by decide +kernel
theorem dX8_digest_8 : decode cX8_digest 8 = .ok (.invokevirtual 261, 3) := by decide +kernel
theorem dX8_digest_11 : decode cX8_digest 11 = .ok (.lstore_n 1, 1) := by decide +kernel
theorem dX8_digest_12 : decode cX8_digest 12 = .ok (.iconst 0, 1) := by decide +kernel
theorem dX8_digest_13 : decode cX8_digest 13 = .ok (.istore_n 3, 1) := by decide +kernel
theorem dX8_digest_14 : decode cX8_digest 14 = .ok (.iload_n 3, 1) := by decide +kernel
theorem dX8_digest_15 : decode cX8_digest 15 = .ok (.bipush 24, 2) := by decide +kernel
theorem dX8_digest_17 : decode cX8_digest 17 = .ok (.if_icmp .ge 39, 3) := by decide +kernel
theorem dX8_digest_20 : decode cX8_digest 20 = .ok (.aload_n 0, 1) := by decide +kernel
theorem dX8_digest_21 : decode cX8_digest 21 = .ok (.getfield 42, 3) := by decide +kernel
theorem dX8_digest_24 : decode cX8_digest 24 = .ok (.iload_n 3, 1) := by decide +kernel
theorem dX8_digest_25 : decode cX8_digest 25 = .ok (.invokevirtual 84, 3) := by decide +kernel
theorem dX8_digest_28 : decode cX8_digest 28 = .ok (.astore 4, 2) := by decide +kernel
theorem dX8_digest_30 : decode cX8_digest 30 = .ok (.aload 4, 2) := by decide +kernel
theorem dX8_digest_32 : decode cX8_digest 32 = .ok (.ifnull 18, 3) := by decide +kernel
theorem dX8_digest_35 : decode cX8_digest 35 = .ok (.aload_n 0, 1) := by decide +kernel
theorem dX8_digest_36 : decode cX8_digest 36 = .ok (.ldc2_w 265, 3) := by decide +kernel
theorem dX8_digest_39 : decode cX8_digest 39 = .ok (.lload_n 1, 1) := by decide +kernel
theorem dX8_digest_40 : decode cX8_digest 40 = .ok (.lmul, 1) := by decide +kernel
theorem dX8_digest_41 : decode cX8_digest 41 = .ok (.iload_n 3, 1) := by decide +kernel
theorem dX8_digest_42 : decode cX8_digest 42 = .ok (.i2l, 1) := by decide +kernel
theorem dX8_digest_43 : decode cX8_digest 43 = .ok (.ladd, 1) := by decide +kernel
theorem dX8_digest_44 : decode cX8_digest 44 = .ok (.aload 4, 2) := by decide +kernel
theorem dX8_digest_46 : decode cX8_digest 46 = .ok (.invokevirtual 261, 3) := by decide +kernel
theorem dX8_digest_49 : decode cX8_digest 49 = .ok (.lstore_n 1, 1) := by decide +kernel
theorem dX8_digest_50 : decode cX8_digest 50 = .ok (.iinc 3 1, 3) := by decide +kernel
theorem dX8_digest_53 : decode cX8_digest 53 = .ok (.goto (-39), 3) := by decide +kernel
theorem dX8_digest_56 : decode cX8_digest 56 = .ok (.iconst 0, 1) := by decide +kernel
theorem dX8_digest_57 : decode cX8_digest 57 = .ok (.istore_n 3, 1) := by decide +kernel
theorem dX8_digest_58 : decode cX8_digest 58 = .ok (.iload_n 3, 1) := by decide +kernel
theorem dX8_digest_59 : decode cX8_digest 59 = .ok (.aload_n 0, 1) := by decide +kernel
theorem dX8_digest_60 : decode cX8_digest 60 = .ok (.getfield 60, 3) := by decide +kernel
theorem dX8_digest_63 : decode cX8_digest 63 = .ok (.getfield 73, 3) := by decide +kernel
theorem dX8_digest_66 : decode cX8_digest 66 = .ok (.if_icmp .ge 24, 3) := by decide +kernel
theorem dX8_digest_69 : decode cX8_digest 69 = .ok (.aload_n 0, 1) := by decide +kernel
theorem dX8_digest_70 : decode cX8_digest 70 = .ok (.lload_n 1, 1) := by decide +kernel
theorem dX8_digest_71 : decode cX8_digest 71 = .ok (.aload_n 0, 1) := by decide +kernel
theorem dX8_digest_72 : decode cX8_digest 72 = .ok (.getfield 60, 3) := by decide +kernel
theorem dX8_digest_75 : decode cX8_digest 75 = .ok (.getfield 199, 3) := by decide +kernel
theorem dX8_digest_78 : decode cX8_digest 78 = .ok (.iload_n 3, 1) := by decide +kernel
theorem dX8_digest_79 : decode cX8_digest 79 = .ok (.aaload, 1) := by decide +kernel
theorem dX8_digest_80 : decode cX8_digest 80 = .ok (.invokevirtual 261, 3) := by decide +kernel
theorem dX8_digest_83 : decode cX8_digest 83 = .ok (.lstore_n 1, 1) := by decide +kernel
theorem dX8_digest_84 : decode cX8_digest 84 = .ok (.iinc 3 1, 3) := by decide +kernel
theorem dX8_digest_87 : decode cX8_digest 87 = .ok (.goto (-29), 3) := by decide +kernel
theorem dX8_digest_90 : decode cX8_digest 90 = .ok (.lload_n 1, 1) := by decide +kernel
theorem dX8_digest_91 : decode cX8_digest 91 = .ok (.lreturn, 1) := by decide +kernel
theorem dX8_digestOf_0 : decode cX8_digestOf 0 = .ok (.ldc2_w 265, 3) := by decide +kernel
theorem dX8_digestOf_3 : decode cX8_digestOf 3 = .ok (.lload_n 1, 1) := by decide +kernel
theorem dX8_digestOf_4 : decode cX8_digestOf 4 = .ok (.lmul, 1) := by decide +kernel
theorem dX8_digestOf_5 : decode cX8_digestOf 5 = .ok (.aload_n 3, 1) := by decide +kernel
theorem dX8_digestOf_6 : decode cX8_digestOf 6 = .ok (.getfield 108, 3) := by decide +kernel
theorem dX8_digestOf_9 : decode cX8_digestOf 9 = .ok (.i2l, 1) := by decide +kernel
theorem dX8_digestOf_10 : decode cX8_digestOf 10 = .ok (.ladd, 1) := by decide +kernel
theorem dX8_digestOf_11 : decode cX8_digestOf 11 = .ok (.lstore 4, 2) := by decide +kernel
theorem dX8_digestOf_13 : decode cX8_digestOf 13 = .ok (.iconst 0, 1) := by decide +kernel
theorem dX8_digestOf_14 : decode cX8_digestOf 14 = .ok (.istore 6, 2) := by decide +kernel
theorem dX8_digestOf_16 : decode cX8_digestOf 16 = .ok (.iload 6, 2) := by decide +kernel
theorem dX8_digestOf_18 : decode cX8_digestOf 18 = .ok (.aload_n 3, 1) := by decide +kernel
theorem dX8_digestOf_19 : decode cX8_digestOf 19 = .ok (.getfield 108, 3) := by decide +kernel
theorem dX8_digestOf_22 : decode cX8_digestOf 22 = .ok (.if_icmp .ge 69, 3) := by decide +kernel
theorem dX8_digestOf_25 : decode cX8_digestOf 25 = .ok (.ldc2_w 265, 3) := by decide +kernel
theorem dX8_digestOf_28 : decode cX8_digestOf 28 = .ok (.lload 4, 2) := by decide +kernel
theorem dX8_digestOf_30 : decode cX8_digestOf 30 = .ok (.lmul, 1) := by decide +kernel
theorem dX8_digestOf_31 : decode cX8_digestOf 31 = .ok (.aload_n 3, 1) := by decide +kernel
theorem dX8_digestOf_32 : decode cX8_digestOf 32 = .ok (.getfield 124, 3) := by decide +kernel
theorem dX8_digestOf_35 : decode cX8_digestOf 35 = .ok (.iload 6, 2) := by decide +kernel
theorem dX8_digestOf_37 : decode cX8_digestOf 37 = .ok (.iaload, 1) := by decide +kernel
theorem dX8_digestOf_38 : decode cX8_digestOf 38 = .ok (.i2l, 1) := by decide +kernel
theorem dX8_digestOf_39 : decode cX8_digestOf 39 = .ok (.ladd, 1) := by decide +kernel
theorem dX8_digestOf_40 : decode cX8_digestOf 40 = .ok (.lstore 4, 2) := by decide +kernel
theorem dX8_digestOf_42 : decode cX8_digestOf 42 = .ok (.iconst 0, 1) := by decide +kernel
theorem dX8_digestOf_43 : decode cX8_digestOf 43 = .ok (.istore 7, 2) := by decide +kernel
theorem dX8_digestOf_45 : decode cX8_digestOf 45 = .ok (.iload 7, 2) := by decide +kernel
theorem dX8_digestOf_47 : decode cX8_digestOf 47 = .ok (.aload_n 0, 1) := by decide +kernel
theorem dX8_digestOf_48 : decode cX8_digestOf 48 = .ok (.getfield 18, 3) := by decide +kernel
theorem dX8_digestOf_51 : decode cX8_digestOf 51 = .ok (.getfield 220, 3) := by decide +kernel
theorem dX8_digestOf_54 : decode cX8_digestOf 54 = .ok (.if_icmp .ge 31, 3) := by decide +kernel
theorem dX8_digestOf_57 : decode cX8_digestOf 57 = .ok (.ldc2_w 265, 3) := by decide +kernel
theorem dX8_digestOf_60 : decode cX8_digestOf 60 = .ok (.lload 4, 2) := by decide +kernel
theorem dX8_digestOf_62 : decode cX8_digestOf 62 = .ok (.lmul, 1) := by decide +kernel
theorem dX8_digestOf_63 : decode cX8_digestOf 63 = .ok (.aload_n 3, 1) := by decide +kernel
theorem dX8_digestOf_64 : decode cX8_digestOf 64 = .ok (.getfield 131, 3) := by decide +kernel
theorem dX8_digestOf_67 : decode cX8_digestOf 67 = .ok (.iload 6, 2) := by decide +kernel
theorem dX8_digestOf_69 : decode cX8_digestOf 69 = .ok (.iaload, 1) := by decide +kernel
theorem dX8_digestOf_70 : decode cX8_digestOf 70 = .ok (.iload 7, 2) := by decide +kernel
theorem dX8_digestOf_72 : decode cX8_digestOf 72 = .ok (.invokestatic 134, 3) := by decide +kernel
theorem dX8_digestOf_75 : decode cX8_digestOf 75 = .ok (.i2l, 1) := by decide +kernel
theorem dX8_digestOf_76 : decode cX8_digestOf 76 = .ok (.ladd, 1) := by decide +kernel
theorem dX8_digestOf_77 : decode cX8_digestOf 77 = .ok (.lstore 4, 2) := by decide +kernel
theorem dX8_digestOf_79 : decode cX8_digestOf 79 = .ok (.iinc 7 1, 3) := by decide +kernel
theorem dX8_digestOf_82 : decode cX8_digestOf 82 = .ok (.goto (-37), 3) := by decide +kernel
theorem dX8_digestOf_85 : decode cX8_digestOf 85 = .ok (.iinc 6 1, 3) := by decide +kernel
theorem dX8_digestOf_88 : decode cX8_digestOf 88 = .ok (.goto (-72), 3) := by decide +kernel
theorem dX8_digestOf_91 : decode cX8_digestOf 91 = .ok (.lload 4, 2) := by decide +kernel
theorem dX8_digestOf_93 : decode cX8_digestOf 93 = .ok (.lreturn, 1) := by decide +kernel
theorem dX8_polyAt_0 : decode cX8_polyAt 0 = .ok (.iload_n 1, 1) := by decide +kernel
theorem dX8_polyAt_1 : decode cX8_polyAt 1 = .ok (.iconst (-1), 1) := by decide +kernel
theorem dX8_polyAt_2 : decode cX8_polyAt 2 = .ok (.if_icmp .ne 8, 3) := by decide +kernel
theorem dX8_polyAt_5 : decode cX8_polyAt 5 = .ok (.aload_n 0, 1) := by decide +kernel
theorem dX8_polyAt_6 : decode cX8_polyAt 6 = .ok (.getfield 25, 3) := by decide +kernel
theorem dX8_polyAt_9 : decode cX8_polyAt 9 = .ok (.areturn, 1) := by decide +kernel
theorem dX8_polyAt_10 : decode cX8_polyAt 10 = .ok (.iload_n 1, 1) := by decide +kernel
theorem dX8_polyAt_11 : decode cX8_polyAt 11 = .ok (.bipush (-2), 2) := by decide +kernel
theorem dX8_polyAt_13 : decode cX8_polyAt 13 = .ok (.if_icmp .gt 17, 3) := by decide +kernel
theorem dX8_polyAt_16 : decode cX8_polyAt 16 = .ok (.aload_n 0, 1) := by decide +kernel
theorem dX8_polyAt_17 : decode cX8_polyAt 17 = .ok (.getfield 60, 3) := by decide +kernel
theorem dX8_polyAt_20 : decode cX8_polyAt 20 = .ok (.bipush (-2), 2) := by decide +kernel
theorem dX8_polyAt_22 : decode cX8_polyAt 22 = .ok (.iload_n 1, 1) := by decide +kernel
theorem dX8_polyAt_23 : decode cX8_polyAt 23 = .ok (.isub, 1) := by decide +kernel
theorem dX8_polyAt_24 : decode cX8_polyAt 24 = .ok (.invokevirtual 267, 3) := by decide +kernel
theorem dX8_polyAt_27 : decode cX8_polyAt 27 = .ok (.goto 11, 3) := by decide +kernel
theorem dX8_polyAt_30 : decode cX8_polyAt 30 = .ok (.aload_n 0, 1) := by decide +kernel
theorem dX8_polyAt_31 : decode cX8_polyAt 31 = .ok (.getfield 42, 3) := by decide +kernel
theorem dX8_polyAt_34 : decode cX8_polyAt 34 = .ok (.iload_n 1, 1) := by decide +kernel
theorem dX8_polyAt_35 : decode cX8_polyAt 35 = .ok (.invokevirtual 84, 3) := by decide +kernel
theorem dX8_polyAt_38 : decode cX8_polyAt 38 = .ok (.areturn, 1) := by decide +kernel
theorem dX8_putResult_0 : decode cX8_putResult 0 = .ok (.iload_n 1, 1) := by decide +kernel
theorem dX8_putResult_1 : decode cX8_putResult 1 = .ok (.ifCond .eq 7, 3) := by decide +kernel
theorem dX8_putResult_4 : decode cX8_putResult 4 = .ok (.iload_n 1, 1) := by decide +kernel
theorem dX8_putResult_5 : decode cX8_putResult 5 = .ok (.goto 14, 3) := by decide +kernel
theorem dX8_putResult_8 : decode cX8_putResult 8 = .ok (.aload_n 0, 1) := by decide +kernel
theorem dX8_putResult_9 : decode cX8_putResult 9 = .ok (.getfield 42, 3) := by decide +kernel
theorem dX8_putResult_12 : decode cX8_putResult 12 = .ok (.aload_n 0, 1) := by decide +kernel
theorem dX8_putResult_13 : decode cX8_putResult 13 = .ok (.getfield 36, 3) := by decide +kernel
theorem dX8_putResult_16 : decode cX8_putResult 16 = .ok (.invokevirtual 113, 3) := by decide +kernel
theorem dX8_putResult_19 : decode cX8_putResult 19 = .ok (.ireturn, 1) := by decide +kernel
theorem dX8_isPrimeInRange_0 : decode cX8_isPrimeInRange 0 = .ok (.iload_n 0, 1) := by decide +kernel
theorem dX8_isPrimeInRange_1 : decode cX8_isPrimeInRange 1 = .ok (.iconst 2, 1) := by decide +kernel
theorem dX8_isPrimeInRange_2 : decode cX8_isPrimeInRange 2 = .ok (.if_icmp .lt 10, 3) := by decide +kernel
theorem dX8_isPrimeInRange_5 : decode cX8_isPrimeInRange 5 = .ok (.iload_n 0, 1) := by decide +kernel
theorem dX8_isPrimeInRange_6 : decode cX8_isPrimeInRange 6 = .ok (.sipush 251, 3) := by decide +kernel
theorem dX8_isPrimeInRange_9 : decode cX8_isPrimeInRange 9 = .ok (.if_icmp .le 5, 3) := by decide +kernel
theorem dX8_isPrimeInRange_12 : decode cX8_isPrimeInRange 12 = .ok (.iconst 0, 1) := by decide +kernel
theorem dX8_isPrimeInRange_13 : decode cX8_isPrimeInRange 13 = .ok (.ireturn, 1) := by decide +kernel
theorem dX8_isPrimeInRange_14 : decode cX8_isPrimeInRange 14 = .ok (.iconst 2, 1) := by decide +kernel
theorem dX8_isPrimeInRange_15 : decode cX8_isPrimeInRange 15 = .ok (.istore_n 1, 1) := by decide +kernel
theorem dX8_isPrimeInRange_16 : decode cX8_isPrimeInRange 16 = .ok (.iload_n 1, 1) := by decide +kernel
theorem dX8_isPrimeInRange_17 : decode cX8_isPrimeInRange 17 = .ok (.iload_n 0, 1) := by decide +kernel
theorem dX8_isPrimeInRange_18 : decode cX8_isPrimeInRange 18 = .ok (.if_icmp .ge 17, 3) := by decide +kernel
theorem dX8_isPrimeInRange_21 : decode cX8_isPrimeInRange 21 = .ok (.iload_n 0, 1) := by decide +kernel
theorem dX8_isPrimeInRange_22 : decode cX8_isPrimeInRange 22 = .ok (.iload_n 1, 1) := by decide +kernel
theorem dX8_isPrimeInRange_23 : decode cX8_isPrimeInRange 23 = .ok (.irem, 1) := by decide +kernel
theorem dX8_isPrimeInRange_24 : decode cX8_isPrimeInRange 24 = .ok (.ifCond .ne 5, 3) := by decide +kernel
theorem dX8_isPrimeInRange_27 : decode cX8_isPrimeInRange 27 = .ok (.iconst 0, 1) := by decide +kernel
theorem dX8_isPrimeInRange_28 : decode cX8_isPrimeInRange 28 = .ok (.ireturn, 1) := by decide +kernel
theorem dX8_isPrimeInRange_29 : decode cX8_isPrimeInRange 29 = .ok (.iinc 1 1, 3) := by decide +kernel
theorem dX8_isPrimeInRange_32 : decode cX8_isPrimeInRange 32 = .ok (.goto (-16), 3) := by decide +kernel
theorem dX8_isPrimeInRange_35 : decode cX8_isPrimeInRange 35 = .ok (.iconst 1, 1) := by decide +kernel
theorem dX8_isPrimeInRange_36 : decode cX8_isPrimeInRange 36 = .ok (.ireturn, 1) := by decide +kernel
theorem dX9_init_0 : decode cX9_init 0 = .ok (.aload_n 0, 1) := by decide +kernel
theorem dX9_init_1 : decode cX9_init 1 = .ok (.invokespecial 1, 3) := by decide +kernel
theorem dX9_init_4 : decode cX9_init 4 = .ok (.aload_n 0, 1) := by decide +kernel
theorem dX9_init_5 : decode cX9_init 5 = .ok (.iconst 2, 1) := by decide +kernel
theorem dX9_init_6 : decode cX9_init 6 = .ok (.putfield 7, 3) := by decide +kernel
theorem dX9_init_9 : decode cX9_init 9 = .ok (.aload_n 0, 1) := by decide +kernel
theorem dX9_init_10 : decode cX9_init 10 = .ok (.bipush 61, 2) := by decide +kernel
theorem dX9_init_12 : decode cX9_init 12 = .ok (.newarray .int, 2) := by decide +kernel
theorem dX9_init_14 : decode cX9_init 14 = .ok (.putfield 13, 3) := by decide +kernel
theorem dX9_init_17 : decode cX9_init 17 = .ok (.aload_n 0, 1) := by decide +kernel
theorem dX9_init_18 : decode cX9_init 18 = .ok (.sipush 2440, 3) := by decide +kernel
theorem dX9_init_21 : decode cX9_init 21 = .ok (.newarray .int, 2) := by decide +kernel
theorem dX9_init_23 : decode cX9_init 23 = .ok (.putfield 17, 3) := by decide +kernel
theorem dX9_init_26 : decode cX9_init 26 = .ok (.aload_n 0, 1) := by decide +kernel
theorem dX9_init_27 : decode cX9_init 27 = .ok (.sipush 9760, 3) := by decide +kernel
theorem dX9_init_30 : decode cX9_init 30 = .ok (.newarray .int, 2) := by decide +kernel
theorem dX9_init_32 : decode cX9_init 32 = .ok (.putfield 20, 3) := by decide +kernel
theorem dX9_init_35 : decode cX9_init 35 = .ok (.aload_n 0, 1) := by decide +kernel
theorem dX9_init_36 : decode cX9_init 36 = .ok (.sipush 160, 3) := by decide +kernel
theorem dX9_init_39 : decode cX9_init 39 = .ok (.newarray .int, 2) := by decide +kernel
theorem dX9_init_41 : decode cX9_init 41 = .ok (.putfield 23, 3) := by decide +kernel
theorem dX9_init_44 : decode cX9_init 44 = .ok (.aload_n 0, 1) := by decide +kernel
theorem dX9_init_45 : decode cX9_init 45 = .ok (.sipush 160, 3) := by decide +kernel
theorem dX9_init_48 : decode cX9_init 48 = .ok (.newarray .int, 2) := by decide +kernel
theorem dX9_init_50 : decode cX9_init 50 = .ok (.putfield 26, 3) := by decide +kernel
theorem dX9_init_53 : decode cX9_init 53 = .ok (.aload_n 0, 1) := by decide +kernel
theorem dX9_init_54 : decode cX9_init 54 = .ok (.sipush 500, 3) := by decide +kernel
theorem dX9_init_57 : decode cX9_init 57 = .ok (.putfield 29, 3) := by decide +kernel
theorem dX9_init_60 : decode cX9_init 60 = .ok (.aload_n 0, 1) := by decide +kernel
theorem dX9_init_61 : decode cX9_init 61 = .ok (.sipush 1700, 3) := by decide +kernel
theorem dX9_init_64 : decode cX9_init 64 = .ok (.newarray .int, 2) := by decide +kernel
theorem dX9_init_66 : decode cX9_init 66 = .ok (.putfield 32, 3) := by decide +kernel
theorem dX9_init_69 : decode cX9_init 69 = .ok (.aload_n 0, 1) := by decide +kernel
theorem dX9_init_70 : decode cX9_init 70 = .ok (.sipush 6800, 3) := by decide +kernel
theorem dX9_init_73 : decode cX9_init 73 = .ok (.newarray .int, 2) := by decide +kernel
theorem dX9_init_75 : decode cX9_init 75 = .ok (.putfield 35, 3) := by decide +kernel
theorem dX9_init_78 : decode cX9_init 78 = .ok (.aload_n 0, 1) := by decide +kernel
theorem dX9_init_79 : decode cX9_init 79 = .ok (.iconst 4, 1) := by decide +kernel
theorem dX9_init_80 : decode cX9_init 80 = .ok (.newarray .int, 2) := by decide +kernel
theorem dX9_init_82 : decode cX9_init 82 = .ok (.putfield 38, 3) := by decide +kernel
theorem dX9_init_85 : decode cX9_init 85 = .ok (.aload_n 0, 1) := by decide +kernel
theorem dX9_init_86 : decode cX9_init 86 = .ok (.iconst 4, 1) := by decide +kernel
theorem dX9_init_87 : decode cX9_init 87 = .ok (.newarray .int, 2) := by decide +kernel
theorem dX9_init_89 : decode cX9_init 89 = .ok (.putfield 41, 3) := by decide +kernel
theorem dX9_init_92 : decode cX9_init 92 = .ok (.aload_n 0, 1) := by decide +kernel
theorem dX9_init_93 : decode cX9_init 93 = .ok (.iconst 4, 1) := by decide +kernel
theorem dX9_init_94 : decode cX9_init 94 = .ok (.newarray .int, 2) := by decide +kernel
theorem dX9_init_96 : decode cX9_init 96 = .ok (.putfield 44, 3) := by decide +kernel
theorem dX9_init_99 : decode cX9_init 99 = .ok (.aload_n 0, 1) := by decide +kernel
theorem dX9_init_100 : decode cX9_init 100 = .ok (.iconst 4, 1) := by decide +kernel
theorem dX9_init_101 : decode cX9_init 101 = .ok (.newarray .int, 2) := by decide +kernel
theorem dX9_init_103 : decode cX9_init 103 = .ok (.putfield 47, 3) := by decide +kernel
theorem dX9_init_106 : decode cX9_init 106 = .ok (.aload_n 0, 1) := by decide +kernel
theorem dX9_init_107 : decode cX9_init 107 = .ok (.bipush 18, 2) := by decide +kernel
theorem dX9_init_109 : decode cX9_init 109 = .ok (.newarray .int, 2) := by decide +kernel
theorem dX9_init_111 : decode cX9_init 111 = .ok (.putfield 50, 3) := by decide +kernel
theorem dX9_init_114 : decode cX9_init 114 = .ok (.aload_n 0, 1) := by decide +kernel
theorem dX9_init_115 : decode cX9_init 115 = .ok (.bipush 40, 2) := by decide +kernel
theorem dX9_init_117 : decode cX9_init 117 = .ok (.newarray .int, 2) := by decide +kernel
theorem dX9_init_119 : decode cX9_init 119 = .ok (.putfield 53, 3) := by decide +kernel
theorem dX9_init_122 : decode cX9_init 122 = .ok (.aload_n 0, 1) := by decide +kernel
theorem dX9_init_123 : decode cX9_init 123 = .ok (.sipush 160, 3) := by decide +kernel
theorem dX9_init_126 : decode cX9_init 126 = .ok (.newarray .int, 2) := by decide +kernel
theorem dX9_init_128 : decode cX9_init 128 = .ok (.putfield 56, 3) := by decide +kernel
theorem dX9_init_131 : decode cX9_init 131 = .ok (.aload_n 0, 1) := by decide +kernel
theorem dX9_init_132 : decode cX9_init 132 = .ok (.iconst 4, 1) := by decide +kernel
theorem dX9_init_133 : decode cX9_init 133 = .ok (.newarray .int, 2) := by decide +kernel
theorem dX9_init_135 : decode cX9_init 135 = .ok (.putfield 59, 3) := by decide +kernel
theorem dX9_init_138 : decode cX9_init 138 = .ok (.aload_n 0, 1) := by decide +kernel
theorem dX9_init_139 : decode cX9_init 139 = .ok (.sipush 1204, 3) := by decide +kernel
theorem dX9_init_142 : decode cX9_init 142 = .ok (.newarray .int, 2) := by decide +kernel
theorem dX9_init_144 : decode cX9_init 144 = .ok (.putfield 62, 3) := by decide +kernel
theorem dX9_init_147 : decode cX9_init 147 = .ok (.aload_n 0, 1) := by decide +kernel
theorem dX9_init_148 : decode cX9_init 148 = .ok (.iconst 4, 1) := by decide +kernel
theorem dX9_init_149 : decode cX9_init 149 = .ok (.newarray .int, 2) := by decide +kernel
theorem dX9_init_151 : decode cX9_init 151 = .ok (.putfield 65, 3) := by decide +kernel
theorem dX9_init_154 : decode cX9_init 154 = .ok (.aload_n 0, 1) := by decide +kernel
theorem dX9_init_155 : decode cX9_init 155 = .ok (.iload_n 1, 1) := by decide +kernel
theorem dX9_init_156 : decode cX9_init 156 = .ok (.invokestatic 68, 3) := by decide +kernel
theorem dX9_init_159 : decode cX9_init 159 = .ok (.ifCond .eq 7, 3) := by decide +kernel
theorem dX9_init_162 : decode cX9_init 162 = .ok (.iload_n 1, 1) := by decide +kernel
theorem dX9_init_163 : decode cX9_init 163 = .ok (.goto 5, 3) := by decide +kernel
theorem dX9_init_166 : decode cX9_init 166 = .ok (.bipush 7, 2) := by decide +kernel
theorem dX9_init_168 : decode cX9_init 168 = .ok (.putfield 72, 3) := by decide +kernel
theorem dX9_init_171 : decode cX9_init 171 = .ok (.aload_n 0, 1) := by decide +kernel
theorem dX9_init_172 : decode cX9_init 172 = .ok (.iload_n 2, 1) := by decide +kernel
theorem dX9_init_173 : decode cX9_init 173 = .ok (.iconst 1, 1) := by decide +kernel
theorem dX9_init_174 : decode cX9_init 174 = .ok (.if_icmp .lt 12, 3) := by decide +kernel
theorem dX9_init_177 : decode cX9_init 177 = .ok (.iload_n 2, 1) := by decide +kernel
theorem dX9_init_178 : decode cX9_init 178 = .ok (.iconst 4, 1) := by decide +kernel
theorem dX9_init_179 : decode cX9_init 179 = .ok (.if_icmp .gt 7, 3) := by decide +kernel
theorem dX9_init_182 : decode cX9_init 182 = .ok (.iload_n 2, 1) := by decide +kernel
theorem dX9_init_183 : decode cX9_init 183 = .ok (.goto 4, 3) := by decide +kernel
theorem dX9_init_186 : decode cX9_init 186 = .ok (.iconst 3, 1) := by decide +kernel
theorem dX9_init_187 : decode cX9_init 187 = .ok (.putfield 75, 3) := by decide +kernel
theorem dX9_init_190 : decode cX9_init 190 = .ok (.iconst 1, 1) := by decide +kernel
theorem dX9_init_191 : decode cX9_init 191 = .ok (.istore_n 3, 1) := by decide +kernel
theorem dX9_init_192 : decode cX9_init 192 = .ok (.iload_n 3, 1) := by decide +kernel
theorem dX9_init_193 : decode cX9_init 193 = .ok (.bipush 25, 2) := by decide +kernel
theorem dX9_init_195 : decode cX9_init 195 = .ok (.if_icmp .ge 16, 3) := by decide +kernel
theorem dX9_init_198 : decode cX9_init 198 = .ok (.aload_n 0, 1) := by decide +kernel
theorem dX9_init_199 : decode cX9_init 199 = .ok (.getfield 13, 3) := by decide +kernel
theorem dX9_init_202 : decode cX9_init 202 = .ok (.iload_n 3, 1) := by decide +kernel
theorem dX9_init_203 : decode cX9_init 203 = .ok (.iconst (-1), 1) := by decide +kernel
theorem dX9_init_204 : decode cX9_init 204 = .ok (.iastore, 1) := by decide +kernel
theorem dX9_init_205 : decode cX9_init 205 = .ok (.iinc 3 1, 3) := by decide +kernel
theorem dX9_init_208 : decode cX9_init 208 = .ok (.goto (-16), 3) := by decide +kernel
theorem dX9_init_211 : decode cX9_init 211 = .ok (.return_, 1) := by decide +kernel
theorem dX9_in_0 : decode cX9_in 0 = .ok (.iload_n 0, 1) := by decide +kernel
theorem dX9_in_1 : decode cX9_in 1 = .ok (.iload_n 1, 1) := by decide +kernel
theorem dX9_in_2 : decode cX9_in 2 = .ok (.if_icmp .lt 12, 3) := by decide +kernel
theorem dX9_in_5 : decode cX9_in 5 = .ok (.iload_n 0, 1) := by decide +kernel
theorem dX9_in_6 : decode cX9_in 6 = .ok (.iload_n 2, 1) := by decide +kernel
theorem dX9_in_7 : decode cX9_in 7 = .ok (.if_icmp .gt 7, 3) := by decide +kernel
theorem dX9_in_10 : decode cX9_in 10 = .ok (.iconst 1, 1) := by decide +kernel
theorem dX9_in_11 : decode cX9_in 11 = .ok (.goto 4, 3) := by decide +kernel
theorem dX9_in_14 : decode cX9_in 14 = .ok (.iconst 0, 1) := by decide +kernel
theorem dX9_in_15 : decode cX9_in 15 = .ok (.ireturn, 1) := by decide +kernel
theorem dX9_isPrime_0 : decode cX9_isPrime 0 = .ok (.iload_n 0, 1) := by decide +kernel
theorem dX9_isPrime_1 : decode cX9_isPrime 1 = .ok (.iconst 2, 1) := by decide +kernel
theorem dX9_isPrime_2 : decode cX9_isPrime 2 = .ok (.sipush 251, 3) := by decide +kernel
theorem dX9_isPrime_5 : decode cX9_isPrime 5 = .ok (.invokestatic 78, 3) := by decide +kernel
theorem dX9_isPrime_8 : decode cX9_isPrime 8 = .ok (.ifCond .ne 5, 3) := by decide +kernel
theorem dX9_isPrime_11 : decode cX9_isPrime 11 = .ok (.iconst 0, 1) := by decide +kernel
theorem dX9_isPrime_12 : decode cX9_isPrime 12 = .ok (.ireturn, 1) := by decide +kernel
theorem dX9_isPrime_13 : decode cX9_isPrime 13 = .ok (.iconst 2, 1) := by decide +kernel
theorem dX9_isPrime_14 : decode cX9_isPrime 14 = .ok (.istore_n 1, 1) := by decide +kernel
theorem dX9_isPrime_15 : decode cX9_isPrime 15 = .ok (.iload_n 1, 1) := by decide +kernel
theorem dX9_isPrime_16 : decode cX9_isPrime 16 = .ok (.iload_n 1, 1) := by decide +kernel
theorem dX9_isPrime_17 : decode cX9_isPrime 17 = .ok (.imul, 1) := by decide +kernel
theorem dX9_isPrime_18 : decode cX9_isPrime 18 = .ok (.iload_n 0, 1) := by decide +kernel
theorem dX9_isPrime_19 : decode cX9_isPrime 19 = .ok (.if_icmp .gt 17, 3) := by decide +kernel
theorem dX9_isPrime_22 : decode cX9_isPrime 22 = .ok (.iload_n 0, 1) := by decide +kernel
theorem dX9_isPrime_23 : decode cX9_isPrime 23 = .ok (.iload_n 1, 1) := by decide +kernel
theorem dX9_isPrime_24 : decode cX9_isPrime 24 = .ok (.irem, 1) := by decide +kernel
theorem dX9_isPrime_25 : decode cX9_isPrime 25 = .ok (.ifCond .ne 5, 3) := by decide +kernel
theorem dX9_isPrime_28 : decode cX9_isPrime 28 = .ok (.iconst 0, 1) := by decide +kernel
theorem dX9_isPrime_29 : decode cX9_isPrime 29 = .ok (.ireturn, 1) := by decide +kernel
theorem dX9_isPrime_30 : decode cX9_isPrime 30 = .ok (.iinc 1 1, 3) := by decide +kernel
theorem dX9_isPrime_33 : decode cX9_isPrime 33 = .ok (.goto (-18), 3) := by decide +kernel
theorem dX9_isPrime_36 : decode cX9_isPrime 36 = .ok (.iconst 1, 1) := by decide +kernel
theorem dX9_isPrime_37 : decode cX9_isPrime 37 = .ok (.ireturn, 1) := by decide +kernel
theorem dX9_rest_0 : decode cX9_rest 0 = .ok (.lload_n 1, 1) := by decide +kernel
theorem dX9_rest_1 : decode cX9_rest 1 = .ok (.aload_n 0, 1) := by decide +kernel
theorem dX9_rest_2 : decode cX9_rest 2 = .ok (.getfield 72, 3) := by decide +kernel
theorem dX9_rest_5 : decode cX9_rest 5 = .ok (.i2l, 1) := by decide +kernel
theorem dX9_rest_6 : decode cX9_rest 6 = .ok (.lrem, 1) := by decide +kernel
theorem dX9_rest_7 : decode cX9_rest 7 = .ok (.l2i, 1) := by decide +kernel
theorem dX9_rest_8 : decode cX9_rest 8 = .ok (.istore_n 3, 1) := by decide +kernel
theorem dX9_rest_9 : decode cX9_rest 9 = .ok (.iload_n 3, 1) := by decide +kernel
theorem dX9_rest_10 : decode cX9_rest 10 = .ok (.ifCond .ge 12, 3) := by decide +kernel
theorem dX9_rest_13 : decode cX9_rest 13 = .ok (.iload_n 3, 1) := by decide +kernel
theorem dX9_rest_14 : decode cX9_rest 14 = .ok (.aload_n 0, 1) := by decide +kernel
theorem dX9_rest_15 : decode cX9_rest 15 = .ok (.getfield 72, 3) := by decide +kernel
theorem dX9_rest_18 : decode cX9_rest 18 = .ok (.iadd, 1) := by decide +kernel
theorem dX9_rest_19 : decode cX9_rest 19 = .ok (.goto 4, 3) := by decide +kernel
theorem dX9_rest_22 : decode cX9_rest 22 = .ok (.iload_n 3, 1) := by decide +kernel
theorem dX9_rest_23 : decode cX9_rest 23 = .ok (.ireturn, 1) := by decide +kernel
theorem dX9_inverse_0 : decode cX9_inverse 0 = .ok (.iconst 1, 1) := by decide +kernel
theorem dX9_inverse_1 : decode cX9_inverse 1 = .ok (.istore_n 2, 1) := by decide +kernel
theorem dX9_inverse_2 : decode cX9_inverse 2 = .ok (.iload_n 2, 1) := by decide +kernel
theorem dX9_inverse_3 : decode cX9_inverse 3 = .ok (.iload_n 1, 1) := by decide +kernel
theorem dX9_inverse_4 : decode cX9_inverse 4 = .ok (.imul, 1) := by decide +kernel
theorem dX9_inverse_5 : decode cX9_inverse 5 = .ok (.aload_n 0, 1) := by decide +kernel
theorem dX9_inverse_6 : decode cX9_inverse 6 = .ok (.getfield 72, 3) := by decide +kernel
theorem dX9_inverse_9 : decode cX9_inverse 9 = .ok (.irem, 1) := by decide +kernel
theorem dX9_inverse_10 : decode cX9_inverse 10 = .ok (.iconst 1, 1) := by decide +kernel
theorem dX9_inverse_11 : decode cX9_inverse 11 = .ok (.if_icmp .eq 9, 3) := by decide +kernel
theorem dX9_inverse_14 : decode cX9_inverse 14 = .ok (.iinc 2 1, 3) := by decide +kernel
theorem dX9_inverse_17 : decode cX9_inverse 17 = .ok (.goto (-15), 3) := by decide +kernel
theorem dX9_inverse_20 : decode cX9_inverse 20 = .ok (.iload_n 2, 1) := by decide +kernel
theorem dX9_inverse_21 : decode cX9_inverse 21 = .ok (.ireturn, 1) := by decide +kernel
theorem dX9_reversed_0 : decode cX9_reversed 0 = .ok (.iconst 0, 1) := by decide +kernel
theorem dX9_reversed_1 : decode cX9_reversed 1 = .ok (.istore 6, 2) := by decide +kernel
theorem dX9_reversed_3 : decode cX9_reversed 3 = .ok (.iload 4, 2) := by decide +kernel
theorem dX9_reversed_5 : decode cX9_reversed 5 = .ok (.istore 7, 2) := by decide +kernel
theorem dX9_reversed_7 : decode cX9_reversed 7 = .ok (.iload 7, 2) := by decide +kernel
theorem dX9_reversed_9 : decode cX9_reversed 9 = .ok (.iload 5, 2) := by decide +kernel
theorem dX9_reversed_11 : decode cX9_reversed 11 = .ok (.if_icmp .ge 27, 3) := by decide +kernel
theorem dX9_reversed_14 : decode cX9_reversed 14 = .ok (.iload 6, 2) := by decide +kernel
theorem dX9_reversed_16 : decode cX9_reversed 16 = .ok (.aload_n 0, 1) := by decide +kernel
theorem dX9_reversed_17 : decode cX9_reversed 17 = .ok (.iload_n 1, 1) := by decide +kernel
theorem dX9_reversed_18 : decode cX9_reversed 18 = .ok (.iload 7, 2) := by decide +kernel
theorem dX9_reversed_20 : decode cX9_reversed 20 = .ok (.iadd, 1) := by decide +kernel
theorem dX9_reversed_21 : decode cX9_reversed 21 = .ok (.iaload, 1) := by decide +kernel
theorem dX9_reversed_22 : decode cX9_reversed 22 = .ok (.aload_n 2, 1) := by decide +kernel
theorem dX9_reversed_23 : decode cX9_reversed 23 = .ok (.iload_n 3, 1) := by decide +kernel
theorem dX9_reversed_24 : decode cX9_reversed 24 = .ok (.iload 7, 2) := by decide +kernel
theorem dX9_reversed_26 : decode cX9_reversed 26 = .ok (.iadd, 1) := by decide +kernel
theorem dX9_reversed_27 : decode cX9_reversed 27 = .ok (.iaload, 1) := by decide +kernel
theorem dX9_reversed_28 : decode cX9_reversed 28 = .ok (.isub, 1) := by decide +kernel
theorem dX9_reversed_29 : decode cX9_reversed 29 = .ok (.iadd, 1) := by decide +kernel
theorem dX9_reversed_30 : decode cX9_reversed 30 = .ok (.istore 6, 2) := by decide +kernel
theorem dX9_reversed_32 : decode cX9_reversed 32 = .ok (.iinc 7 1, 3) := by decide +kernel
theorem dX9_reversed_35 : decode cX9_reversed 35 = .ok (.goto (-28), 3) := by decide +kernel
theorem dX9_reversed_38 : decode cX9_reversed 38 = .ok (.iload 6, 2) := by decide +kernel
theorem dX9_reversed_40 : decode cX9_reversed 40 = .ok (.ifCond .eq 14, 3) := by decide +kernel
theorem dX9_reversed_43 : decode cX9_reversed 43 = .ok (.iload 6, 2) := by decide +kernel
theorem dX9_reversed_45 : decode cX9_reversed 45 = .ok (.ifCond .ge 7, 3) := by decide +kernel
theorem dX9_reversed_48 : decode cX9_reversed 48 = .ok (.iconst (-1), 1) := by decide +kernel
theorem dX9_reversed_49 : decode cX9_reversed 49 = .ok (.goto 4, 3) := by decide +kernel
theorem dX9_reversed_52 : decode cX9_reversed 52 = .ok (.iconst 1, 1) := by decide +kernel
theorem dX9_reversed_53 : decode cX9_reversed 53 = .ok (.ireturn, 1) := by decide +kernel
theorem dX9_reversed_54 : decode cX9_reversed 54 = .ok (.iload 5, 2) := by decide +kernel
theorem dX9_reversed_56 : decode cX9_reversed 56 = .ok (.iconst 1, 1) := by decide +kernel
theorem dX9_reversed_57 : decode cX9_reversed 57 = .ok (.isub, 1) := by decide +kernel
theorem dX9_reversed_58 : decode cX9_reversed 58 = .ok (.istore 7, 2) := by decide +kernel
theorem dX9_reversed_60 : decode cX9_reversed 60 = .ok (.iload 7, 2) := by decide +kernel
theorem dX9_reversed_62 : decode cX9_reversed 62 = .ok (.iload 4, 2) := by decide +kernel
theorem dX9_reversed_64 : decode cX9_reversed 64 = .ok (.if_icmp .lt 45, 3) := by decide +kernel
theorem dX9_reversed_67 : decode cX9_reversed 67 = .ok (.aload_n 0, 1) := by decide +kernel
theorem dX9_reversed_68 : decode cX9_reversed 68 = .ok (.iload_n 1, 1) := by decide +kernel
theorem dX9_reversed_69 : decode cX9_reversed 69 = .ok (.iload 7, 2) := by decide +kernel
theorem dX9_reversed_71 : decode cX9_reversed 71 = .ok (.iadd, 1) := by decide +kernel
theorem dX9_reversed_72 : decode cX9_reversed 72 = .ok (.iaload, 1) := by decide +kernel
theorem dX9_reversed_73 : decode cX9_reversed 73 = .ok (.aload_n 2, 1) := by decide +kernel
theorem dX9_reversed_74 : decode cX9_reversed 74 = .ok (.iload_n 3, 1) := by decide +kernel
theorem dX9_reversed_75 : decode cX9_reversed 75 = .ok (.iload 7, 2) := by decide +kernel
theorem dX9_reversed_77 : decode cX9_reversed 77 = .ok (.iadd, 1) := by decide +kernel
theorem dX9_reversed_78 : decode cX9_reversed 78 = .ok (.iaload, 1) := by decide +kernel
theorem dX9_reversed_79 : decode cX9_reversed 79 = .ok (.if_icmp .eq 24, 3) := by decide +kernel
theorem dX9_reversed_82 : decode cX9_reversed 82 = .ok (.aload_n 0, 1) := by decide +kernel
theorem dX9_reversed_83 : decode cX9_reversed 83 = .ok (.iload_n 1, 1) := by decide +kernel
theorem dX9_reversed_84 : decode cX9_reversed 84 = .ok (.iload 7, 2) := by decide +kernel
theorem dX9_reversed_86 : decode cX9_reversed 86 = .ok (.iadd, 1) := by decide +kernel
theorem dX9_reversed_87 : decode cX9_reversed 87 = .ok (.iaload, 1) := by decide +kernel
theorem dX9_reversed_88 : decode cX9_reversed 88 = .ok (.aload_n 2, 1) := by decide +kernel
theorem dX9_reversed_89 : decode cX9_reversed 89 = .ok (.iload_n 3, 1) := by decide +kernel
theorem dX9_reversed_90 : decode cX9_reversed 90 = .ok (.iload 7, 2) := by decide +kernel
theorem dX9_reversed_92 : decode cX9_reversed 92 = .ok (.iadd, 1) := by decide +kernel
theorem dX9_reversed_93 : decode cX9_reversed 93 = .ok (.iaload, 1) := by decide +kernel
theorem dX9_reversed_94 : decode cX9_reversed 94 = .ok (.if_icmp .ge 7, 3) := by decide +kernel
theorem dX9_reversed_97 : decode cX9_reversed 97 = .ok (.iconst 1, 1) := by decide +kernel
theorem dX9_reversed_98 : decode cX9_reversed 98 = .ok (.goto 4, 3) := by decide +kernel
theorem dX9_reversed_101 : decode cX9_reversed 101 = .ok (.iconst (-1), 1) := by decide +kernel
theorem dX9_reversed_102 : decode cX9_reversed 102 = .ok (.ireturn, 1) := by decide +kernel
theorem dX9_reversed_103 : decode cX9_reversed 103 = .ok (.iinc 7 (-1), 3) := by decide +kernel
theorem dX9_reversed_106 : decode cX9_reversed 106 = .ok (.goto (-46), 3) := by decide +kernel
theorem dX9_reversed_109 : decode cX9_reversed 109 = .ok (.iconst 0, 1) := by decide +kernel
theorem dX9_reversed_110 : decode cX9_reversed 110 = .ok (.ireturn, 1) := by decide +kernel
theorem dX9_lexed_0 : decode cX9_lexed 0 = .ok (.iconst 0, 1) := by decide +kernel
theorem dX9_lexed_1 : decode cX9_lexed 1 = .ok (.istore 4, 2) := by decide +kernel
theorem dX9_lexed_3 : decode cX9_lexed 3 = .ok (.iload 4, 2) := by decide +kernel
theorem dX9_lexed_5 : decode cX9_lexed 5 = .ok (.iconst 4, 1) := by decide +kernel
theorem dX9_lexed_6 : decode cX9_lexed 6 = .ok (.if_icmp .ge 45, 3) := by decide +kernel
theorem dX9_lexed_9 : decode cX9_lexed 9 = .ok (.aload_n 0, 1) := by decide +kernel
theorem dX9_lexed_10 : decode cX9_lexed 10 = .ok (.iload_n 1, 1) := by decide +kernel
theorem dX9_lexed_11 : decode cX9_lexed 11 = .ok (.iload 4, 2) := by decide +kernel
theorem dX9_lexed_13 : decode cX9_lexed 13 = .ok (.iadd, 1) := by decide +kernel
theorem dX9_lexed_14 : decode cX9_lexed 14 = .ok (.iaload, 1) := by decide +kernel
theorem dX9_lexed_15 : decode cX9_lexed 15 = .ok (.aload_n 2, 1) := by decide +kernel
theorem dX9_lexed_16 : decode cX9_lexed 16 = .ok (.iload_n 3, 1) := by decide +kernel
theorem dX9_lexed_17 : decode cX9_lexed 17 = .ok (.iload 4, 2) := by decide +kernel
theorem dX9_lexed_19 : decode cX9_lexed 19 = .ok (.iadd, 1) := by decide +kernel
theorem dX9_lexed_20 : decode cX9_lexed 20 = .ok (.iaload, 1) := by decide +kernel
theorem dX9_lexed_21 : decode cX9_lexed 21 = .ok (.if_icmp .eq 24, 3) := by decide +kernel
theorem dX9_lexed_24 : decode cX9_lexed 24 = .ok (.aload_n 0, 1) := by decide +kernel
theorem dX9_lexed_25 : decode cX9_lexed 25 = .ok (.iload_n 1, 1) := by decide +kernel
theorem dX9_lexed_26 : decode cX9_lexed 26 = .ok (.iload 4, 2) := by decide +kernel
theorem dX9_lexed_28 : decode cX9_lexed 28 = .ok (.iadd, 1) := by decide +kernel
theorem dX9_lexed_29 : decode cX9_lexed 29 = .ok (.iaload, 1) := by decide +kernel
theorem dX9_lexed_30 : decode cX9_lexed 30 = .ok (.aload_n 2, 1) := by decide +kernel
theorem dX9_lexed_31 : decode cX9_lexed 31 = .ok (.iload_n 3, 1) := by decide +kernel
theorem dX9_lexed_32 : decode cX9_lexed 32 = .ok (.iload 4, 2) := by decide +kernel
theorem dX9_lexed_34 : decode cX9_lexed 34 = .ok (.iadd, 1) := by decide +kernel
theorem dX9_lexed_35 : decode cX9_lexed 35 = .ok (.iaload, 1) := by decide +kernel
theorem dX9_lexed_36 : decode cX9_lexed 36 = .ok (.if_icmp .ge 7, 3) := by decide +kernel
theorem dX9_lexed_39 : decode cX9_lexed 39 = .ok (.iconst (-1), 1) := by decide +kernel
theorem dX9_lexed_40 : decode cX9_lexed 40 = .ok (.goto 4, 3) := by decide +kernel
theorem dX9_lexed_43 : decode cX9_lexed 43 = .ok (.iconst 1, 1) := by decide +kernel
theorem dX9_lexed_44 : decode cX9_lexed 44 = .ok (.ireturn, 1) := by decide +kernel
theorem dX9_lexed_45 : decode cX9_lexed 45 = .ok (.iinc 4 1, 3) := by decide +kernel
theorem dX9_lexed_48 : decode cX9_lexed 48 = .ok (.goto (-45), 3) := by decide +kernel
theorem dX9_lexed_51 : decode cX9_lexed 51 = .ok (.iconst 0, 1) := by decide +kernel
theorem dX9_lexed_52 : decode cX9_lexed 52 = .ok (.ireturn, 1) := by decide +kernel
theorem dX9_stand_0 : decode cX9_stand 0 = .ok (.aload_n 0, 1) := by decide +kernel
theorem dX9_stand_1 : decode cX9_stand 1 = .ok (.getfield 7, 3) := by decide +kernel
theorem dX9_stand_4 : decode cX9_stand 4 = .ok (.ifCond .ne 12, 3) := by decide +kernel
theorem dX9_stand_7 : decode cX9_stand 7 = .ok (.aload_n 1, 1) := by decide +kernel
theorem dX9_stand_8 : decode cX9_stand 8 = .ok (.iload_n 2, 1) := by decide +kernel
theorem dX9_stand_9 : decode cX9_stand 9 = .ok (.aload_n 3, 1) := by decide +kernel
theorem dX9_stand_10 : decode cX9_stand 10 = .ok (.iload 4, 2) := by decide +kernel
theorem dX9_stand_12 : decode cX9_stand 12 = .ok (.invokestatic 82, 3) := by decide +kernel
theorem dX9_stand_15 : decode cX9_stand 15 = .ok (.ireturn, 1) := by decide +kernel
theorem dX9_stand_16 : decode cX9_stand 16 = .ok (.aload_n 0, 1) := by decide +kernel
theorem dX9_stand_17 : decode cX9_stand 17 = .ok (.getfield 7, 3) := by decide +kernel
theorem dX9_stand_20 : decode cX9_stand 20 = .ok (.iconst 2, 1) := by decide +kernel
theorem dX9_stand_21 : decode cX9_stand 21 = .ok (.if_icmp .ne 14, 3) := by decide +kernel
theorem dX9_stand_24 : decode cX9_stand 24 = .ok (.aload_n 1, 1) := by decide +kernel
theorem dX9_stand_25 : decode cX9_stand 25 = .ok (.iload_n 2, 1) := by decide +kernel
theorem dX9_stand_26 : decode cX9_stand 26 = .ok (.aload_n 3, 1) := by decide +kernel
theorem dX9_stand_27 : decode cX9_stand 27 = .ok (.iload 4, 2) := by decide +kernel
theorem dX9_stand_29 : decode cX9_stand 29 = .ok (.iconst 0, 1) := by decide +kernel
theorem dX9_stand_30 : decode cX9_stand 30 = .ok (.iconst 4, 1) := by decide +kernel
theorem dX9_stand_31 : decode cX9_stand 31 = .ok (.invokestatic 86, 3) := by decide +kernel
theorem dX9_stand_34 : decode cX9_stand 34 = .ok (.ireturn, 1) := by decide +kernel
theorem dX9_stand_35 : decode cX9_stand 35 = .ok (.aload_n 0, 1) := by decide +kernel
theorem dX9_stand_36 : decode cX9_stand 36 = .ok (.getfield 7, 3) := by decide +kernel
theorem dX9_stand_39 : decode cX9_stand 39 = .ok (.iconst 1, 1) := by decide +kernel
theorem dX9_stand_40 : decode cX9_stand 40 = .ok (.if_icmp .ne 67, 3) := by decide +kernel
theorem dX9_stand_43 : decode cX9_stand 43 = .ok (.iconst 0, 1) := by decide +kernel
theorem dX9_stand_44 : decode cX9_stand 44 = .ok (.istore 5, 2) := by decide +kernel
theorem dX9_stand_46 : decode cX9_stand 46 = .ok (.iconst 0, 1) := by decide +kernel
theorem dX9_stand_47 : decode cX9_stand 47 = .ok (.istore 6, 2) := by decide +kernel
theorem dX9_stand_49 : decode cX9_stand 49 = .ok (.iload 6, 2) := by decide +kernel
theorem dX9_stand_51 : decode cX9_stand 51 = .ok (.iconst 4, 1) := by decide +kernel
theorem dX9_stand_52 : decode cX9_stand 52 = .ok (.if_icmp .ge 28, 3) := by decide +kernel
theorem dX9_stand_55 : decode cX9_stand 55 = .ok (.iload 5, 2) := by decide +kernel
theorem dX9_stand_57 : decode cX9_stand 57 = .ok (.aload_n 1, 1) := by decide +kernel
theorem dX9_stand_58 : decode cX9_stand 58 = .ok (.iload_n 2, 1) := by decide +kernel
theorem dX9_stand_59 : decode cX9_stand 59 = .ok (.iload 6, 2) := by decide +kernel
theorem dX9_stand_61 : decode cX9_stand 61 = .ok (.iadd, 1) := by decide +kernel
theorem dX9_stand_62 : decode cX9_stand 62 = .ok (.iaload, 1) := by decide +kernel
theorem dX9_stand_63 : decode cX9_stand 63 = .ok (.aload_n 3, 1) := by decide +kernel
theorem dX9_stand_64 : decode cX9_stand 64 = .ok (.iload 4, 2) := by decide +kernel
theorem dX9_stand_66 : decode cX9_stand 66 = .ok (.iload 6, 2) := by decide +kernel
theorem dX9_stand_68 : decode cX9_stand 68 = .ok (.iadd, 1) := by decide +kernel
theorem dX9_stand_69 : decode cX9_stand 69 = .ok (.iaload, 1) := by decide +kernel
theorem dX9_stand_70 : decode cX9_stand 70 = .ok (.isub, 1) := by decide +kernel
theorem dX9_stand_71 : decode cX9_stand 71 = .ok (.iadd, 1) := by decide +kernel
theorem dX9_stand_72 : decode cX9_stand 72 = .ok (.istore 5, 2) := by decide +kernel
theorem dX9_stand_74 : decode cX9_stand 74 = .ok (.iinc 6 1, 3) := by decide +kernel
theorem dX9_stand_77 : decode cX9_stand 77 = .ok (.goto (-28), 3) := by decide +kernel
theorem dX9_stand_80 : decode cX9_stand 80 = .ok (.iload 5, 2) := by decide +kernel
theorem dX9_stand_82 : decode cX9_stand 82 = .ok (.ifCond .eq 16, 3) := by decide +kernel
theorem dX9_stand_85 : decode cX9_stand 85 = .ok (.iload 5, 2) := by decide +kernel
theorem dX9_stand_87 : decode cX9_stand 87 = .ok (.ifCond .ge 7, 3) := by decide +kernel
theorem dX9_stand_90 : decode cX9_stand 90 = .ok (.iconst (-1), 1) := by decide +kernel
theorem dX9_stand_91 : decode cX9_stand 91 = .ok (.goto 15, 3) := by decide +kernel
theorem dX9_stand_94 : decode cX9_stand 94 = .ok (.iconst 1, 1) := by decide +kernel
theorem dX9_stand_95 : decode cX9_stand 95 = .ok (.goto 11, 3) := by decide +kernel
theorem dX9_stand_98 : decode cX9_stand 98 = .ok (.aload_n 1, 1) := by decide +kernel
theorem dX9_stand_99 : decode cX9_stand 99 = .ok (.iload_n 2, 1) := by decide +kernel
theorem dX9_stand_100 : decode cX9_stand 100 = .ok (.aload_n 3, 1) := by decide +kernel
theorem dX9_stand_101 : decode cX9_stand 101 = .ok (.iload 4, 2) := by decide +kernel
theorem dX9_stand_103 : decode cX9_stand 103 = .ok (.invokestatic 82, 3) := by decide +kernel
theorem dX9_stand_106 : decode cX9_stand 106 = .ok (.ireturn, 1) := by decide +kernel
theorem dX9_stand_107 : decode cX9_stand 107 = .ok (.aload_n 1, 1) := by decide +kernel
theorem dX9_stand_108 : decode cX9_stand 108 = .ok (.iload_n 2, 1) := by decide +kernel
theorem dX9_stand_109 : decode cX9_stand 109 = .ok (.aload_n 3, 1) := by decide +kernel
theorem dX9_stand_110 : decode cX9_stand 110 = .ok (.iload 4, 2) := by decide +kernel
theorem dX9_stand_112 : decode cX9_stand 112 = .ok (.iconst 0, 1) := by decide +kernel
theorem dX9_stand_113 : decode cX9_stand 113 = .ok (.iconst 2, 1) := by decide +kernel
theorem dX9_stand_114 : decode cX9_stand 114 = .ok (.invokestatic 86, 3) := by decide +kernel
theorem dX9_stand_117 : decode cX9_stand 117 = .ok (.istore 5, 2) := by decide +kernel
theorem dX9_stand_119 : decode cX9_stand 119 = .ok (.iload 5, 2) := by decide +kernel
theorem dX9_stand_121 : decode cX9_stand 121 = .ok (.ifCond .eq 8, 3) := by decide +kernel
theorem dX9_stand_124 : decode cX9_stand 124 = .ok (.iload 5, 2) := by decide +kernel
theorem dX9_stand_126 : decode cX9_stand 126 = .ok (.goto 13, 3) := by decide +kernel
theorem dX9_stand_129 : decode cX9_stand 129 = .ok (.aload_n 1, 1) := by decide +kernel
theorem dX9_stand_130 : decode cX9_stand 130 = .ok (.iload_n 2, 1) := by decide +kernel
theorem dX9_stand_131 : decode cX9_stand 131 = .ok (.aload_n 3, 1) := by decide +kernel
theorem dX9_stand_132 : decode cX9_stand 132 = .ok (.iload 4, 2) := by decide +kernel
theorem dX9_stand_134 : decode cX9_stand 134 = .ok (.iconst 2, 1) := by decide +kernel
theorem dX9_stand_135 : decode cX9_stand 135 = .ok (.iconst 4, 1) := by decide +kernel
theorem dX9_stand_136 : decode cX9_stand 136 = .ok (.invokestatic 86, 3) := by decide +kernel
theorem dX9_stand_139 : decode cX9_stand 139 = .ok (.ireturn, 1) := by decide +kernel
theorem dX9_divides_0 : decode cX9_divides 0 = .ok (.iconst 1, 1) := by decide +kernel
theorem dX9_divides_1 : decode cX9_divides 1 = .ok (.istore 4, 2) := by decide +kernel
theorem dX9_divides_3 : decode cX9_divides 3 = .ok (.iconst 0, 1) := by decide +kernel
theorem dX9_divides_4 : decode cX9_divides 4 = .ok (.istore 5, 2) := by decide +kernel
theorem dX9_divides_6 : decode cX9_divides 6 = .ok (.iload 5, 2) := by decide +kernel
theorem dX9_divides_8 : decode cX9_divides 8 = .ok (.iconst 4, 1) := by decide +kernel
theorem dX9_divides_9 : decode cX9_divides 9 = .ok (.if_icmp .ge 34, 3) := by decide +kernel
theorem dX9_divides_12 : decode cX9_divides 12 = .ok (.iload 4, 2) := by decide +kernel
theorem dX9_divides_14 : decode cX9_divides 14 = .ok (.aload_n 0, 1) := by decide +kernel
theorem dX9_divides_15 : decode cX9_divides 15 = .ok (.iload_n 1, 1) := by decide +kernel
theorem dX9_divides_16 : decode cX9_divides 16 = .ok (.iload 5, 2) := by decide +kernel
theorem dX9_divides_18 : decode cX9_divides 18 = .ok (.iadd, 1) := by decide +kernel
theorem dX9_divides_19 : decode cX9_divides 19 = .ok (.iaload, 1) := by decide +kernel
theorem dX9_divides_20 : decode cX9_divides 20 = .ok (.aload_n 2, 1) := by decide +kernel
theorem dX9_divides_21 : decode cX9_divides 21 = .ok (.iload_n 3, 1) := by decide +kernel
theorem dX9_divides_22 : decode cX9_divides 22 = .ok (.iload 5, 2) := by decide +kernel
theorem dX9_divides_24 : decode cX9_divides 24 = .ok (.iadd, 1) := by decide +kernel
theorem dX9_divides_25 : decode cX9_divides 25 = .ok (.iaload, 1) := by decide +kernel
theorem dX9_divides_26 : decode cX9_divides 26 = .ok (.if_icmp .gt 7, 3) := by decide +kernel
theorem dX9_divides_29 : decode cX9_divides 29 = .ok (.iconst 1, 1) := by decide +kernel
theorem dX9_divides_30 : decode cX9_divides 30 = .ok (.goto 4, 3) := by decide +kernel
theorem dX9_divides_33 : decode cX9_divides 33 = .ok (.iconst 0, 1) := by decide +kernel
theorem dX9_divides_34 : decode cX9_divides 34 = .ok (.iand, 1) := by decide +kernel
theorem dX9_divides_35 : decode cX9_divides 35 = .ok (.istore 4, 2) := by decide +kernel
theorem dX9_divides_37 : decode cX9_divides 37 = .ok (.iinc 5 1, 3) := by decide +kernel
theorem dX9_divides_40 : decode cX9_divides 40 = .ok (.goto (-34), 3) := by decide +kernel
theorem dX9_divides_43 : decode cX9_divides 43 = .ok (.iload 4, 2) := by decide +kernel
theorem dX9_divides_45 : decode cX9_divides 45 = .ok (.ireturn, 1) := by decide +kernel
theorem dX9_add_0 : decode cX9_add 0 = .ok (.iconst 0, 1) := by decide +kernel
theorem dX9_add_1 : decode cX9_add 1 = .ok (.istore_n 2, 1) := by decide +kernel
theorem dX9_add_2 : decode cX9_add 2 = .ok (.iconst 1, 1) := by decide +kernel
theorem dX9_add_3 : decode cX9_add 3 = .ok (.istore_n 3, 1) := by decide +kernel
theorem dX9_add_4 : decode cX9_add 4 = .ok (.iload_n 2, 1) := by decide +kernel
theorem dX9_add_5 : decode cX9_add 5 = .ok (.aload_n 0, 1) := by decide +kernel
theorem dX9_add_6 : decode cX9_add 6 = .ok (.getfield 90, 3) := by decide +kernel
theorem dX9_add_9 : decode cX9_add 9 = .ok (.if_icmp .ge 39, 3) := by decide +kernel
theorem dX9_add_12 : decode cX9_add 12 = .ok (.iload_n 3, 1) := by decide +kernel
theorem dX9_add_13 : decode cX9_add 13 = .ok (.ifCond .le 35, 3) := by decide +kernel
theorem dX9_add_16 : decode cX9_add 16 = .ok (.aload_n 0, 1) := by decide +kernel
theorem dX9_add_17 : decode cX9_add 17 = .ok (.aload_n 0, 1) := by decide +kernel
theorem dX9_add_18 : decode cX9_add 18 = .ok (.getfield 35, 3) := by decide +kernel
theorem dX9_add_21 : decode cX9_add 21 = .ok (.iconst 4, 1) := by decide +kernel
theorem dX9_add_22 : decode cX9_add 22 = .ok (.iload_n 2, 1) := by decide +kernel
theorem dX9_add_23 : decode cX9_add 23 = .ok (.imul, 1) := by decide +kernel
theorem dX9_add_24 : decode cX9_add 24 = .ok (.aload_n 0, 1) := by decide +kernel
theorem dX9_add_25 : decode cX9_add 25 = .ok (.getfield 38, 3) := by decide +kernel
theorem dX9_add_28 : decode cX9_add 28 = .ok (.iconst 0, 1) := by decide +kernel
theorem dX9_add_29 : decode cX9_add 29 = .ok (.invokevirtual 93, 3) := by decide +kernel
theorem dX9_add_32 : decode cX9_add 32 = .ok (.istore_n 3, 1) := by decide +kernel
theorem dX9_add_33 : decode cX9_add 33 = .ok (.iload_n 2, 1) := by decide +kernel
theorem dX9_add_34 : decode cX9_add 34 = .ok (.iload_n 3, 1) := by decide +kernel
theorem dX9_add_35 : decode cX9_add 35 = .ok (.ifCond .le 7, 3) := by decide +kernel
theorem dX9_add_38 : decode cX9_add 38 = .ok (.iconst 1, 1) := by decide +kernel
theorem dX9_add_39 : decode cX9_add 39 = .ok (.goto 4, 3) := by decide +kernel
theorem dX9_add_42 : decode cX9_add 42 = .ok (.iconst 0, 1) := by decide +kernel
theorem dX9_add_43 : decode cX9_add 43 = .ok (.iadd, 1) := by decide +kernel
theorem dX9_add_44 : decode cX9_add 44 = .ok (.istore_n 2, 1) := by decide +kernel
theorem dX9_add_45 : decode cX9_add 45 = .ok (.goto (-41), 3) := by decide +kernel
theorem dX9_add_48 : decode cX9_add 48 = .ok (.iload_n 2, 1) := by decide +kernel
theorem dX9_add_49 : decode cX9_add 49 = .ok (.aload_n 0, 1) := by decide +kernel
theorem dX9_add_50 : decode cX9_add 50 = .ok (.getfield 90, 3) := by decide +kernel
theorem dX9_add_53 : decode cX9_add 53 = .ok (.if_icmp .ge 27, 3) := by decide +kernel
theorem dX9_add_56 : decode cX9_add 56 = .ok (.iload_n 3, 1) := by decide +kernel
theorem dX9_add_57 : decode cX9_add 57 = .ok (.ifCond .ne 23, 3) := by decide +kernel
theorem dX9_add_60 : decode cX9_add 60 = .ok (.aload_n 0, 1) := by decide +kernel
theorem dX9_add_61 : decode cX9_add 61 = .ok (.getfield 32, 3) := by decide +kernel
theorem dX9_add_64 : decode cX9_add 64 = .ok (.iload_n 2, 1) := by decide +kernel
theorem dX9_add_65 : decode cX9_add 65 = .ok (.aload_n 0, 1) := by decide +kernel
theorem dX9_add_66 : decode cX9_add 66 = .ok (.getfield 32, 3) := by decide +kernel
theorem dX9_add_69 : decode cX9_add 69 = .ok (.iload_n 2, 1) := by decide +kernel
theorem dX9_add_70 : decode cX9_add 70 = .ok (.iaload, 1) := by decide +kernel
theorem dX9_add_71 : decode cX9_add 71 = .ok (.iload_n 1, 1) := by decide +kernel
theorem dX9_add_72 : decode cX9_add 72 = .ok (.iadd, 1) := by decide +kernel
theorem dX9_add_73 : decode cX9_add 73 = .ok (.aload_n 0, 1) := by decide +kernel
theorem dX9_add_74 : decode cX9_add 74 = .ok (.getfield 72, 3) := by decide +kernel
theorem dX9_add_77 : decode cX9_add 77 = .ok (.irem, 1) := by decide +kernel
theorem dX9_add_78 : decode cX9_add 78 = .ok (.iastore, 1) := by decide +kernel
theorem dX9_add_79 : decode cX9_add 79 = .ok (.return_, 1) := by decide +kernel
theorem dX9_add_80 : decode cX9_add 80 = .ok (.aload_n 0, 1) := by decide +kernel
theorem dX9_add_81 : decode cX9_add 81 = .ok (.getfield 90, 3) := by decide +kernel
theorem dX9_add_84 : decode cX9_add 84 = .ok (.istore 4, 2) := by decide +kernel
theorem dX9_add_86 : decode cX9_add 86 = .ok (.iload 4, 2) := by decide +kernel
theorem dX9_add_88 : decode cX9_add 88 = .ok (.iload_n 2, 1) := by decide +kernel
theorem dX9_add_89 : decode cX9_add 89 = .ok (.if_icmp .le 66, 3) := by decide +kernel
theorem dX9_add_92 : decode cX9_add 92 = .ok (.aload_n 0, 1) := by decide +kernel
theorem dX9_add_93 : decode cX9_add 93 = .ok (.getfield 32, 3) := by decide +kernel
theorem dX9_add_96 : decode cX9_add 96 = .ok (.iload 4, 2) := by decide +kernel
theorem dX9_add_98 : decode cX9_add 98 = .ok (.aload_n 0, 1) := by decide +kernel
theorem dX9_add_99 : decode cX9_add 99 = .ok (.getfield 32, 3) := by decide +kernel
theorem dX9_add_102 : decode cX9_add 102 = .ok (.iload 4, 2) := by decide +kernel
theorem dX9_add_104 : decode cX9_add 104 = .ok (.iconst 1, 1) := by decide +kernel
theorem dX9_add_105 : decode cX9_add 105 = .ok (.isub, 1) := by decide +kernel
theorem dX9_add_106 : decode cX9_add 106 = .ok (.iaload, 1) := by decide +kernel
theorem dX9_add_107 : decode cX9_add 107 = .ok (.iastore, 1) := by decide +kernel
theorem dX9_add_108 : decode cX9_add 108 = .ok (.iconst 0, 1) := by decide +kernel
theorem dX9_add_109 : decode cX9_add 109 = .ok (.istore 5, 2) := by decide +kernel
theorem dX9_add_111 : decode cX9_add 111 = .ok (.iload 5, 2) := by decide +kernel
theorem dX9_add_113 : decode cX9_add 113 = .ok (.iconst 4, 1) := by decide +kernel
theorem dX9_add_114 : decode cX9_add 114 = .ok (.if_icmp .ge 35, 3) := by decide +kernel
theorem dX9_add_117 : decode cX9_add 117 = .ok (.aload_n 0, 1) := by decide +kernel
theorem dX9_add_118 : decode cX9_add 118 = .ok (.getfield 35, 3) := by decide +kernel
theorem dX9_add_121 : decode cX9_add 121 = .ok (.iconst 4, 1) := by decide +kernel
theorem dX9_add_122 : decode cX9_add 122 = .ok (.iload 4, 2) := by decide +kernel
theorem dX9_add_124 : decode cX9_add 124 = .ok (.imul, 1) := by decide +kernel
theorem dX9_add_125 : decode cX9_add 125 = .ok (.iload 5, 2) := by decide +kernel
theorem dX9_add_127 : decode cX9_add 127 = .ok (.iadd, 1) := by decide +kernel
theorem dX9_add_128 : decode cX9_add 128 = .ok (.aload_n 0, 1) := by decide +kernel
theorem dX9_add_129 : decode cX9_add 129 = .ok (.getfield 35, 3) := by decide +kernel
theorem dX9_add_132 : decode cX9_add 132 = .ok (.iconst 4, 1) := by decide +kernel
theorem dX9_add_133 : decode cX9_add 133 = .ok (.iload 4, 2) := by decide +kernel
theorem dX9_add_135 : decode cX9_add 135 = .ok (.imul, 1) := by decide +kernel
theorem dX9_add_136 : decode cX9_add 136 = .ok (.iconst 4, 1) := by decide +kernel
theorem dX9_add_137 : decode cX9_add 137 = .ok (.isub, 1) := by decide +kernel
theorem dX9_add_138 : decode cX9_add 138 = .ok (.iload 5, 2) := by decide +kernel
theorem dX9_add_140 : decode cX9_add 140 = .ok (.iadd, 1) := by decide +kernel
theorem dX9_add_141 : decode cX9_add 141 = .ok (.iaload, 1) := by decide +kernel
theorem dX9_add_142 : decode cX9_add 142 = .ok (.iastore, 1) := by decide +kernel
theorem dX9_add_143 : decode cX9_add 143 = .ok (.iinc 5 1, 3) := by decide +kernel
theorem dX9_add_146 : decode cX9_add 146 = .ok (.goto (-35), 3) := by decide +kernel
theorem dX9_add_149 : decode cX9_add 149 = .ok (.iinc 4 (-1), 3) := by decide +kernel
theorem dX9_add_152 : decode cX9_add 152 = .ok (.goto (-66), 3) := by decide +kernel
theorem dX9_add_155 : decode cX9_add 155 = .ok (.aload_n 0, 1) := by decide +kernel
theorem dX9_add_156 : decode cX9_add 156 = .ok (.getfield 32, 3) := by decide +kernel
theorem dX9_add_159 : decode cX9_add 159 = .ok (.iload_n 2, 1) := by decide +kernel
theorem dX9_add_160 : decode cX9_add 160 = .ok (.iload_n 1, 1) := by decide +kernel
theorem dX9_add_161 : decode cX9_add 161 = .ok (.iastore, 1) := by decide +kernel
theorem dX9_add_162 : decode cX9_add 162 = .ok (.iconst 0, 1) := by decide +kernel
theorem dX9_add_163 : decode cX9_add 163 = .ok (.istore 4, 2) := by decide +kernel
theorem dX9_add_165 : decode cX9_add 165 = .ok (.iload 4, 2) := by decide +kernel
theorem dX9_add_167 : decode cX9_add 167 = .ok (.iconst 4, 1) := by decide +kernel
theorem dX9_add_168 : decode cX9_add 168 = .ok (.if_icmp .ge 27, 3) := by decide +kernel
theorem dX9_add_171 : decode cX9_add 171 = .ok (.aload_n 0, 1) := by decide +kernel
theorem dX9_add_172 : decode cX9_add 172 = .ok (.getfield 35, 3) := by decide +kernel
theorem dX9_add_175 : decode cX9_add 175 = .ok (.iconst 4, 1) := by decide +kernel
theorem dX9_add_176 : decode cX9_add 176 = .ok (.iload_n 2, 1) := by decide +kernel
theorem dX9_add_177 : decode cX9_add 177 = .ok (.imul, 1) := by decide +kernel
theorem dX9_add_178 : decode cX9_add 178 = .ok (.iload 4, 2) := by decide +kernel
theorem dX9_add_180 : decode cX9_add 180 = .ok (.iadd, 1) := by decide +kernel
theorem dX9_add_181 : decode cX9_add 181 = .ok (.aload_n 0, 1) := by decide +kernel
theorem dX9_add_182 : decode cX9_add 182 = .ok (.getfield 38, 3) := by decide +kernel
theorem dX9_add_185 : decode cX9_add 185 = .ok (.iload 4, 2) := by decide +kernel
theorem dX9_add_187 : decode cX9_add 187 = .ok (.iaload, 1) := by decide +kernel
theorem dX9_add_188 : decode cX9_add 188 = .ok (.iastore, 1) := by decide +kernel
theorem dX9_add_189 : decode cX9_add 189 = .ok (.iinc 4 1, 3) := by decide +kernel
theorem dX9_add_192 : decode cX9_add 192 = .ok (.goto (-27), 3) := by decide +kernel
theorem dX9_add_195 : decode cX9_add 195 = .ok (.aload_n 0, 1) := by decide +kernel
theorem dX9_add_196 : decode cX9_add 196 = .ok (.dup, 1) := by decide +kernel
theorem dX9_add_197 : decode cX9_add 197 = .ok (.getfield 90, 3) := by decide +kernel
theorem dX9_add_200 : decode cX9_add 200 = .ok (.iconst 1, 1) := by decide +kernel
theorem dX9_add_201 : decode cX9_add 201 = .ok (.iadd, 1) := by decide +kernel
theorem dX9_add_202 : decode cX9_add 202 = .ok (.putfield 90, 3) := by decide +kernel
theorem dX9_add_205 : decode cX9_add 205 = .ok (.return_, 1) := by decide +kernel
theorem dX9_addTimes_0 : decode cX9_addTimes 0 = .ok (.iconst 0, 1) := by decide +kernel
theorem dX9_addTimes_1 : decode cX9_addTimes 1 = .ok (.istore_n 3, 1) := by decide +kernel
theorem dX9_addTimes_2 : decode cX9_addTimes 2 = .ok (.iload_n 3, 1) := by decide +kernel
theorem dX9_addTimes_3 : decode cX9_addTimes 3 = .ok (.aload_n 0, 1) := by decide +kernel
theorem dX9_addTimes_4 : decode cX9_addTimes 4 = .ok (.getfield 13, 3) := by decide +kernel
theorem dX9_addTimes_7 : decode cX9_addTimes 7 = .ok (.iload_n 1, 1) := by decide +kernel
theorem dX9_addTimes_8 : decode cX9_addTimes 8 = .ok (.iaload, 1) := by decide +kernel
theorem dX9_addTimes_9 : decode cX9_addTimes 9 = .ok (.if_icmp .ge 56, 3) := by decide +kernel
theorem dX9_addTimes_12 : decode cX9_addTimes 12 = .ok (.iconst 0, 1) := by decide +kernel
theorem dX9_addTimes_13 : decode cX9_addTimes 13 = .ok (.istore 4, 2) := by decide +kernel
theorem dX9_addTimes_15 : decode cX9_addTimes 15 = .ok (.iload 4, 2) := by decide +kernel
theorem dX9_addTimes_17 : decode cX9_addTimes 17 = .ok (.iconst 4, 1) := by decide +kernel
theorem dX9_addTimes_18 : decode cX9_addTimes 18 = .ok (.if_icmp .ge 41, 3) := by decide +kernel
theorem dX9_addTimes_21 : decode cX9_addTimes 21 = .ok (.aload_n 0, 1) := by decide +kernel
theorem dX9_addTimes_22 : decode cX9_addTimes 22 = .ok (.getfield 20, 3) := by decide +kernel
theorem dX9_addTimes_25 : decode cX9_addTimes 25 = .ok (.sipush 160, 3) := by decide +kernel
theorem dX9_addTimes_28 : decode cX9_addTimes 28 = .ok (.iload_n 1, 1) := by decide +kernel
theorem dX9_addTimes_29 : decode cX9_addTimes 29 = .ok (.imul, 1) := by decide +kernel
theorem dX9_addTimes_30 : decode cX9_addTimes 30 = .ok (.iconst 4, 1) := by decide +kernel
theorem dX9_addTimes_31 : decode cX9_addTimes 31 = .ok (.iload_n 3, 1) := by decide +kernel
theorem dX9_addTimes_32 : decode cX9_addTimes 32 = .ok (.imul, 1) := by decide +kernel
theorem dX9_addTimes_33 : decode cX9_addTimes 33 = .ok (.iadd, 1) := by decide +kernel
theorem dX9_addTimes_34 : decode cX9_addTimes 34 = .ok (.iload 4, 2) := by decide +kernel
theorem dX9_addTimes_36 : decode cX9_addTimes 36 = .ok (.iadd, 1) := by decide +kernel
theorem dX9_addTimes_37 : decode cX9_addTimes 37 = .ok (.iaload, 1) := by decide +kernel
theorem dX9_addTimes_38 : decode cX9_addTimes 38 = .ok (.aload_n 0, 1) := by decide +kernel
theorem dX9_addTimes_39 : decode cX9_addTimes 39 = .ok (.getfield 41, 3) := by decide +kernel
theorem dX9_addTimes_42 : decode cX9_addTimes 42 = .ok (.iload 4, 2) := by decide +kernel
theorem dX9_addTimes_44 : decode cX9_addTimes 44 = .ok (.iaload, 1) := by decide +kernel
theorem dX9_addTimes_45 : decode cX9_addTimes 45 = .ok (.iadd, 1) := by decide +kernel
theorem dX9_addTimes_46 : decode cX9_addTimes 46 = .ok (.bipush 30, 2) := by decide +kernel
theorem dX9_addTimes_48 : decode cX9_addTimes 48 = .ok (.if_icmp .le 5, 3) := by decide +kernel
theorem dX9_addTimes_51 : decode cX9_addTimes 51 = .ok (.iconst 0, 1) := by decide +kernel
theorem dX9_addTimes_52 : decode cX9_addTimes 52 = .ok (.ireturn, 1) := by decide +kernel
theorem dX9_addTimes_53 : decode cX9_addTimes 53 = .ok (.iinc 4 1, 3) := by decide +kernel
theorem dX9_addTimes_56 : decode cX9_addTimes 56 = .ok (.goto (-41), 3) := by decide +kernel
theorem dX9_addTimes_59 : decode cX9_addTimes 59 = .ok (.iinc 3 1, 3) := by decide +kernel
theorem dX9_addTimes_62 : decode cX9_addTimes 62 = .ok (.goto (-60), 3) := by decide +kernel
theorem dX9_addTimes_65 : decode cX9_addTimes 65 = .ok (.iconst 0, 1) := by decide +kernel
theorem dX9_addTimes_66 : decode cX9_addTimes 66 = .ok (.istore_n 3, 1) := by decide +kernel
theorem dX9_addTimes_67 : decode cX9_addTimes 67 = .ok (.iload_n 3, 1) := by decide +kernel
theorem dX9_addTimes_68 : decode cX9_addTimes 68 = .ok (.aload_n 0, 1) := by decide +kernel
theorem dX9_addTimes_69 : decode cX9_addTimes 69 = .ok (.getfield 13, 3) := by decide +kernel
theorem dX9_addTimes_72 : decode cX9_addTimes 72 = .ok (.iload_n 1, 1) := by decide +kernel
theorem dX9_addTimes_73 : decode cX9_addTimes 73 = .ok (.iaload, 1) := by decide +kernel
theorem dX9_addTimes_74 : decode cX9_addTimes 74 = .ok (.if_icmp .ge 82, 3) := by decide +kernel
theorem dX9_addTimes_77 : decode cX9_addTimes 77 = .ok (.iload_n 2, 1) := by decide +kernel
theorem dX9_addTimes_78 : decode cX9_addTimes 78 = .ok (.ifCond .eq 78, 3) := by decide +kernel
theorem dX9_addTimes_81 : decode cX9_addTimes 81 = .ok (.iconst 0, 1) := by decide +kernel
theorem dX9_addTimes_82 : decode cX9_addTimes 82 = .ok (.istore 4, 2) := by decide +kernel
theorem dX9_addTimes_84 : decode cX9_addTimes 84 = .ok (.iload 4, 2) := by decide +kernel
theorem dX9_addTimes_86 : decode cX9_addTimes 86 = .ok (.iconst 4, 1) := by decide +kernel
theorem dX9_addTimes_87 : decode cX9_addTimes 87 = .ok (.if_icmp .ge 41, 3) := by decide +kernel
theorem dX9_addTimes_90 : decode cX9_addTimes 90 = .ok (.aload_n 0, 1) := by decide +kernel
theorem dX9_addTimes_91 : decode cX9_addTimes 91 = .ok (.getfield 38, 3) := by decide +kernel
