theorem dX9_workOf_155 : decode cX9_workOf 155 = .ok (.aload_n 0, 1) := by decide +kernel
theorem dX9_workOf_156 : decode cX9_workOf 156 = .ok (.dup, 1) := by decide +kernel
theorem dX9_workOf_157 : decode cX9_workOf 157 = .ok (.getfield 215, 3) := by decide +kernel
theorem dX9_workOf_160 : decode cX9_workOf 160 = .ok (.iconst 1, 1) := by decide +kernel
theorem dX9_workOf_161 : decode cX9_workOf 161 = .ok (.iadd, 1) := by decide +kernel
theorem dX9_workOf_162 : decode cX9_workOf 162 = .ok (.putfield 215, 3) := by decide +kernel
theorem dX9_workOf_165 : decode cX9_workOf 165 = .ok (.aload_n 0, 1) := by decide +kernel
theorem dX9_workOf_166 : decode cX9_workOf 166 = .ok (.invokevirtual 184, 3) := by decide +kernel
theorem dX9_workOf_169 : decode cX9_workOf 169 = .ok (.goto 13, 3) := by decide +kernel
theorem dX9_workOf_172 : decode cX9_workOf 172 = .ok (.aload_n 0, 1) := by decide +kernel
theorem dX9_workOf_173 : decode cX9_workOf 173 = .ok (.dup, 1) := by decide +kernel
theorem dX9_workOf_174 : decode cX9_workOf 174 = .ok (.getfield 218, 3) := by decide +kernel
theorem dX9_workOf_177 : decode cX9_workOf 177 = .ok (.iconst 1, 1) := by decide +kernel
theorem dX9_workOf_178 : decode cX9_workOf 178 = .ok (.iadd, 1) := by decide +kernel
theorem dX9_workOf_179 : decode cX9_workOf 179 = .ok (.putfield 218, 3) := by decide +kernel
theorem dX9_workOf_182 : decode cX9_workOf 182 = .ok (.iconst 0, 1) := by decide +kernel
theorem dX9_workOf_183 : decode cX9_workOf 183 = .ok (.ireturn, 1) := by decide +kernel
theorem dX9_work_0 : decode cX9_work 0 = .ok (.iload_n 1, 1) := by decide +kernel
theorem dX9_work_1 : decode cX9_work 1 = .ok (.iconst 1, 1) := by decide +kernel
theorem dX9_work_2 : decode cX9_work 2 = .ok (.sipush 200, 3) := by decide +kernel
theorem dX9_work_5 : decode cX9_work 5 = .ok (.invokestatic 78, 3) := by decide +kernel
theorem dX9_work_8 : decode cX9_work 8 = .ok (.ifCond .ne 6, 3) := by decide +kernel
theorem dX9_work_11 : decode cX9_work 11 = .ok (.bipush (-2), 2) := by decide +kernel
theorem dX9_work_13 : decode cX9_work 13 = .ok (.ireturn, 1) := by decide +kernel
theorem dX9_work_14 : decode cX9_work 14 = .ok (.aload_n 0, 1) := by decide +kernel
theorem dX9_work_15 : decode cX9_work 15 = .ok (.iconst 0, 1) := by decide +kernel
theorem dX9_work_16 : decode cX9_work 16 = .ok (.putfield 221, 3) := by decide +kernel
theorem dX9_work_19 : decode cX9_work 19 = .ok (.iconst 0, 1) := by decide +kernel
theorem dX9_work_20 : decode cX9_work 20 = .ok (.istore_n 2, 1) := by decide +kernel
theorem dX9_work_21 : decode cX9_work 21 = .ok (.iload_n 2, 1) := by decide +kernel
theorem dX9_work_22 : decode cX9_work 22 = .ok (.iload_n 1, 1) := by decide +kernel
theorem dX9_work_23 : decode cX9_work 23 = .ok (.if_icmp .ge 44, 3) := by decide +kernel
theorem dX9_work_26 : decode cX9_work 26 = .ok (.aload_n 0, 1) := by decide +kernel
theorem dX9_work_27 : decode cX9_work 27 = .ok (.getfield 181, 3) := by decide +kernel
theorem dX9_work_30 : decode cX9_work 30 = .ok (.ifCond .le 37, 3) := by decide +kernel
theorem dX9_work_33 : decode cX9_work 33 = .ok (.aload_n 0, 1) := by decide +kernel
theorem dX9_work_34 : decode cX9_work 34 = .ok (.iconst 0, 1) := by decide +kernel
theorem dX9_work_35 : decode cX9_work 35 = .ok (.putfield 158, 3) := by decide +kernel
theorem dX9_work_38 : decode cX9_work 38 = .ok (.aload_n 0, 1) := by decide +kernel
theorem dX9_work_39 : decode cX9_work 39 = .ok (.aload_n 0, 1) := by decide +kernel
theorem dX9_work_40 : decode cX9_work 40 = .ok (.invokevirtual 224, 3) := by decide +kernel
theorem dX9_work_43 : decode cX9_work 43 = .ok (.invokevirtual 227, 3) := by decide +kernel
theorem dX9_work_46 : decode cX9_work 46 = .ok (.istore_n 3, 1) := by decide +kernel
theorem dX9_work_47 : decode cX9_work 47 = .ok (.aload_n 0, 1) := by decide +kernel
theorem dX9_work_48 : decode cX9_work 48 = .ok (.aload_n 0, 1) := by decide +kernel
theorem dX9_work_49 : decode cX9_work 49 = .ok (.getfield 158, 3) := by decide +kernel
theorem dX9_work_52 : decode cX9_work 52 = .ok (.putfield 221, 3) := by decide +kernel
theorem dX9_work_55 : decode cX9_work 55 = .ok (.iload_n 3, 1) := by decide +kernel
theorem dX9_work_56 : decode cX9_work 56 = .ok (.ifCond .ge 5, 3) := by decide +kernel
theorem dX9_work_59 : decode cX9_work 59 = .ok (.iload_n 3, 1) := by decide +kernel
theorem dX9_work_60 : decode cX9_work 60 = .ok (.ireturn, 1) := by decide +kernel
theorem dX9_work_61 : decode cX9_work 61 = .ok (.iinc 2 1, 3) := by decide +kernel
theorem dX9_work_64 : decode cX9_work 64 = .ok (.goto (-43), 3) := by decide +kernel
theorem dX9_work_67 : decode cX9_work 67 = .ok (.iload_n 2, 1) := by decide +kernel
theorem dX9_work_68 : decode cX9_work 68 = .ok (.ireturn, 1) := by decide +kernel
theorem dX9_isGone_0 : decode cX9_isGone 0 = .ok (.iconst 0, 1) := by decide +kernel
theorem dX9_isGone_1 : decode cX9_isGone 1 = .ok (.istore_n 2, 1) := by decide +kernel
theorem dX9_isGone_2 : decode cX9_isGone 2 = .ok (.iload_n 2, 1) := by decide +kernel
theorem dX9_isGone_3 : decode cX9_isGone 3 = .ok (.aload_n 0, 1) := by decide +kernel
theorem dX9_isGone_4 : decode cX9_isGone 4 = .ok (.getfield 107, 3) := by decide +kernel
theorem dX9_isGone_7 : decode cX9_isGone 7 = .ok (.if_icmp .ge 107, 3) := by decide +kernel
theorem dX9_isGone_10 : decode cX9_isGone 10 = .ok (.iload_n 2, 1) := by decide +kernel
theorem dX9_isGone_11 : decode cX9_isGone 11 = .ok (.iload_n 1, 1) := by decide +kernel
theorem dX9_isGone_12 : decode cX9_isGone 12 = .ok (.if_icmp .eq 37, 3) := by decide +kernel
theorem dX9_isGone_15 : decode cX9_isGone 15 = .ok (.aload_n 0, 1) := by decide +kernel
theorem dX9_isGone_16 : decode cX9_isGone 16 = .ok (.getfield 20, 3) := by decide +kernel
theorem dX9_isGone_19 : decode cX9_isGone 19 = .ok (.sipush 160, 3) := by decide +kernel
theorem dX9_isGone_22 : decode cX9_isGone 22 = .ok (.bipush 25, 2) := by decide +kernel
theorem dX9_isGone_24 : decode cX9_isGone 24 = .ok (.iload_n 2, 1) := by decide +kernel
theorem dX9_isGone_25 : decode cX9_isGone 25 = .ok (.iadd, 1) := by decide +kernel
theorem dX9_isGone_26 : decode cX9_isGone 26 = .ok (.imul, 1) := by decide +kernel
theorem dX9_isGone_27 : decode cX9_isGone 27 = .ok (.aload_n 0, 1) := by decide +kernel
theorem dX9_isGone_28 : decode cX9_isGone 28 = .ok (.getfield 20, 3) := by decide +kernel
theorem dX9_isGone_31 : decode cX9_isGone 31 = .ok (.sipush 160, 3) := by decide +kernel
theorem dX9_isGone_34 : decode cX9_isGone 34 = .ok (.bipush 25, 2) := by decide +kernel
theorem dX9_isGone_36 : decode cX9_isGone 36 = .ok (.iload_n 1, 1) := by decide +kernel
theorem dX9_isGone_37 : decode cX9_isGone 37 = .ok (.iadd, 1) := by decide +kernel
theorem dX9_isGone_38 : decode cX9_isGone 38 = .ok (.imul, 1) := by decide +kernel
theorem dX9_isGone_39 : decode cX9_isGone 39 = .ok (.invokestatic 154, 3) := by decide +kernel
theorem dX9_isGone_42 : decode cX9_isGone 42 = .ok (.ifCond .eq 7, 3) := by decide +kernel
theorem dX9_isGone_45 : decode cX9_isGone 45 = .ok (.iconst 1, 1) := by decide +kernel
theorem dX9_isGone_46 : decode cX9_isGone 46 = .ok (.goto 4, 3) := by decide +kernel
theorem dX9_isGone_49 : decode cX9_isGone 49 = .ok (.iconst 0, 1) := by decide +kernel
theorem dX9_isGone_50 : decode cX9_isGone 50 = .ok (.istore_n 3, 1) := by decide +kernel
theorem dX9_isGone_51 : decode cX9_isGone 51 = .ok (.iload_n 3, 1) := by decide +kernel
theorem dX9_isGone_52 : decode cX9_isGone 52 = .ok (.ifCond .eq 37, 3) := by decide +kernel
theorem dX9_isGone_55 : decode cX9_isGone 55 = .ok (.aload_n 0, 1) := by decide +kernel
theorem dX9_isGone_56 : decode cX9_isGone 56 = .ok (.getfield 20, 3) := by decide +kernel
theorem dX9_isGone_59 : decode cX9_isGone 59 = .ok (.sipush 160, 3) := by decide +kernel
theorem dX9_isGone_62 : decode cX9_isGone 62 = .ok (.bipush 25, 2) := by decide +kernel
theorem dX9_isGone_64 : decode cX9_isGone 64 = .ok (.iload_n 1, 1) := by decide +kernel
theorem dX9_isGone_65 : decode cX9_isGone 65 = .ok (.iadd, 1) := by decide +kernel
theorem dX9_isGone_66 : decode cX9_isGone 66 = .ok (.imul, 1) := by decide +kernel
theorem dX9_isGone_67 : decode cX9_isGone 67 = .ok (.aload_n 0, 1) := by decide +kernel
theorem dX9_isGone_68 : decode cX9_isGone 68 = .ok (.getfield 20, 3) := by decide +kernel
theorem dX9_isGone_71 : decode cX9_isGone 71 = .ok (.sipush 160, 3) := by decide +kernel
theorem dX9_isGone_74 : decode cX9_isGone 74 = .ok (.bipush 25, 2) := by decide +kernel
theorem dX9_isGone_76 : decode cX9_isGone 76 = .ok (.iload_n 2, 1) := by decide +kernel
theorem dX9_isGone_77 : decode cX9_isGone 77 = .ok (.iadd, 1) := by decide +kernel
theorem dX9_isGone_78 : decode cX9_isGone 78 = .ok (.imul, 1) := by decide +kernel
theorem dX9_isGone_79 : decode cX9_isGone 79 = .ok (.invokestatic 154, 3) := by decide +kernel
theorem dX9_isGone_82 : decode cX9_isGone 82 = .ok (.ifCond .eq 7, 3) := by decide +kernel
theorem dX9_isGone_85 : decode cX9_isGone 85 = .ok (.iconst 1, 1) := by decide +kernel
theorem dX9_isGone_86 : decode cX9_isGone 86 = .ok (.goto 4, 3) := by decide +kernel
theorem dX9_isGone_89 : decode cX9_isGone 89 = .ok (.iconst 0, 1) := by decide +kernel
theorem dX9_isGone_90 : decode cX9_isGone 90 = .ok (.istore 4, 2) := by decide +kernel
theorem dX9_isGone_92 : decode cX9_isGone 92 = .ok (.iload_n 3, 1) := by decide +kernel
theorem dX9_isGone_93 : decode cX9_isGone 93 = .ok (.ifCond .eq 15, 3) := by decide +kernel
theorem dX9_isGone_96 : decode cX9_isGone 96 = .ok (.iload 4, 2) := by decide +kernel
theorem dX9_isGone_98 : decode cX9_isGone 98 = .ok (.ifCond .eq 8, 3) := by decide +kernel
theorem dX9_isGone_101 : decode cX9_isGone 101 = .ok (.iload_n 2, 1) := by decide +kernel
theorem dX9_isGone_102 : decode cX9_isGone 102 = .ok (.iload_n 1, 1) := by decide +kernel
theorem dX9_isGone_103 : decode cX9_isGone 103 = .ok (.if_icmp .ge 5, 3) := by decide +kernel
theorem dX9_isGone_106 : decode cX9_isGone 106 = .ok (.iconst 1, 1) := by decide +kernel
theorem dX9_isGone_107 : decode cX9_isGone 107 = .ok (.ireturn, 1) := by decide +kernel
theorem dX9_isGone_108 : decode cX9_isGone 108 = .ok (.iinc 2 1, 3) := by decide +kernel
theorem dX9_isGone_111 : decode cX9_isGone 111 = .ok (.goto (-109), 3) := by decide +kernel
theorem dX9_isGone_114 : decode cX9_isGone 114 = .ok (.iconst 0, 1) := by decide +kernel
theorem dX9_isGone_115 : decode cX9_isGone 115 = .ok (.ireturn, 1) := by decide +kernel
theorem dX9_sort_0 : decode cX9_sort 0 = .ok (.aload_n 0, 1) := by decide +kernel
theorem dX9_sort_1 : decode cX9_sort 1 = .ok (.iconst 0, 1) := by decide +kernel
theorem dX9_sort_2 : decode cX9_sort 2 = .ok (.putfield 230, 3) := by decide +kernel
theorem dX9_sort_5 : decode cX9_sort 5 = .ok (.iconst 0, 1) := by decide +kernel
theorem dX9_sort_6 : decode cX9_sort 6 = .ok (.istore_n 1, 1) := by decide +kernel
theorem dX9_sort_7 : decode cX9_sort 7 = .ok (.iload_n 1, 1) := by decide +kernel
theorem dX9_sort_8 : decode cX9_sort 8 = .ok (.aload_n 0, 1) := by decide +kernel
theorem dX9_sort_9 : decode cX9_sort 9 = .ok (.getfield 107, 3) := by decide +kernel
theorem dX9_sort_12 : decode cX9_sort 12 = .ok (.if_icmp .ge 101, 3) := by decide +kernel
theorem dX9_sort_15 : decode cX9_sort 15 = .ok (.aload_n 0, 1) := by decide +kernel
theorem dX9_sort_16 : decode cX9_sort 16 = .ok (.iload_n 1, 1) := by decide +kernel
theorem dX9_sort_17 : decode cX9_sort 17 = .ok (.invokevirtual 233, 3) := by decide +kernel
theorem dX9_sort_20 : decode cX9_sort 20 = .ok (.ifCond .ne 87, 3) := by decide +kernel
theorem dX9_sort_23 : decode cX9_sort 23 = .ok (.aload_n 0, 1) := by decide +kernel
theorem dX9_sort_24 : decode cX9_sort 24 = .ok (.getfield 230, 3) := by decide +kernel
theorem dX9_sort_27 : decode cX9_sort 27 = .ok (.istore_n 2, 1) := by decide +kernel
theorem dX9_sort_28 : decode cX9_sort 28 = .ok (.iload_n 2, 1) := by decide +kernel
theorem dX9_sort_29 : decode cX9_sort 29 = .ok (.ifCond .le 56, 3) := by decide +kernel
theorem dX9_sort_32 : decode cX9_sort 32 = .ok (.aload_n 0, 1) := by decide +kernel
theorem dX9_sort_33 : decode cX9_sort 33 = .ok (.aload_n 0, 1) := by decide +kernel
theorem dX9_sort_34 : decode cX9_sort 34 = .ok (.getfield 20, 3) := by decide +kernel
theorem dX9_sort_37 : decode cX9_sort 37 = .ok (.sipush 160, 3) := by decide +kernel
theorem dX9_sort_40 : decode cX9_sort 40 = .ok (.bipush 43, 2) := by decide +kernel
theorem dX9_sort_42 : decode cX9_sort 42 = .ok (.iload_n 2, 1) := by decide +kernel
theorem dX9_sort_43 : decode cX9_sort 43 = .ok (.iadd, 1) := by decide +kernel
theorem dX9_sort_44 : decode cX9_sort 44 = .ok (.iconst 1, 1) := by decide +kernel
theorem dX9_sort_45 : decode cX9_sort 45 = .ok (.isub, 1) := by decide +kernel
theorem dX9_sort_46 : decode cX9_sort 46 = .ok (.imul, 1) := by decide +kernel
theorem dX9_sort_47 : decode cX9_sort 47 = .ok (.aload_n 0, 1) := by decide +kernel
theorem dX9_sort_48 : decode cX9_sort 48 = .ok (.getfield 20, 3) := by decide +kernel
theorem dX9_sort_51 : decode cX9_sort 51 = .ok (.sipush 160, 3) := by decide +kernel
theorem dX9_sort_54 : decode cX9_sort 54 = .ok (.bipush 25, 2) := by decide +kernel
theorem dX9_sort_56 : decode cX9_sort 56 = .ok (.iload_n 1, 1) := by decide +kernel
theorem dX9_sort_57 : decode cX9_sort 57 = .ok (.iadd, 1) := by decide +kernel
theorem dX9_sort_58 : decode cX9_sort 58 = .ok (.imul, 1) := by decide +kernel
theorem dX9_sort_59 : decode cX9_sort 59 = .ok (.invokevirtual 93, 3) := by decide +kernel
theorem dX9_sort_62 : decode cX9_sort 62 = .ok (.ifCond .le 23, 3) := by decide +kernel
theorem dX9_sort_65 : decode cX9_sort 65 = .ok (.aload_n 0, 1) := by decide +kernel
theorem dX9_sort_66 : decode cX9_sort 66 = .ok (.bipush 43, 2) := by decide +kernel
theorem dX9_sort_68 : decode cX9_sort 68 = .ok (.iload_n 2, 1) := by decide +kernel
theorem dX9_sort_69 : decode cX9_sort 69 = .ok (.iadd, 1) := by decide +kernel
theorem dX9_sort_70 : decode cX9_sort 70 = .ok (.iconst 1, 1) := by decide +kernel
theorem dX9_sort_71 : decode cX9_sort 71 = .ok (.isub, 1) := by decide +kernel
theorem dX9_sort_72 : decode cX9_sort 72 = .ok (.bipush 43, 2) := by decide +kernel
theorem dX9_sort_74 : decode cX9_sort 74 = .ok (.iload_n 2, 1) := by decide +kernel
theorem dX9_sort_75 : decode cX9_sort 75 = .ok (.iadd, 1) := by decide +kernel
theorem dX9_sort_76 : decode cX9_sort 76 = .ok (.invokevirtual 128, 3) := by decide +kernel
theorem dX9_sort_79 : decode cX9_sort 79 = .ok (.iinc 2 (-1), 3) := by decide +kernel
theorem dX9_sort_82 : decode cX9_sort 82 = .ok (.goto (-54), 3) := by decide +kernel
theorem dX9_sort_85 : decode cX9_sort 85 = .ok (.aload_n 0, 1) := by decide +kernel
theorem dX9_sort_86 : decode cX9_sort 86 = .ok (.bipush 25, 2) := by decide +kernel
theorem dX9_sort_88 : decode cX9_sort 88 = .ok (.iload_n 1, 1) := by decide +kernel
theorem dX9_sort_89 : decode cX9_sort 89 = .ok (.iadd, 1) := by decide +kernel
theorem dX9_sort_90 : decode cX9_sort 90 = .ok (.bipush 43, 2) := by decide +kernel
theorem dX9_sort_92 : decode cX9_sort 92 = .ok (.iload_n 2, 1) := by decide +kernel
theorem dX9_sort_93 : decode cX9_sort 93 = .ok (.iadd, 1) := by decide +kernel
theorem dX9_sort_94 : decode cX9_sort 94 = .ok (.invokevirtual 128, 3) := by decide +kernel
theorem dX9_sort_97 : decode cX9_sort 97 = .ok (.aload_n 0, 1) := by decide +kernel
theorem dX9_sort_98 : decode cX9_sort 98 = .ok (.dup, 1) := by decide +kernel
theorem dX9_sort_99 : decode cX9_sort 99 = .ok (.getfield 230, 3) := by decide +kernel
theorem dX9_sort_102 : decode cX9_sort 102 = .ok (.iconst 1, 1) := by decide +kernel
theorem dX9_sort_103 : decode cX9_sort 103 = .ok (.iadd, 1) := by decide +kernel
theorem dX9_sort_104 : decode cX9_sort 104 = .ok (.putfield 230, 3) := by decide +kernel
theorem dX9_sort_107 : decode cX9_sort 107 = .ok (.iinc 1 1, 3) := by decide +kernel
theorem dX9_sort_110 : decode cX9_sort 110 = .ok (.goto (-103), 3) := by decide +kernel
theorem dX9_sort_113 : decode cX9_sort 113 = .ok (.return_, 1) := by decide +kernel
theorem dX9_tidyOne_0 : decode cX9_tidyOne 0 = .ok (.aload_n 0, 1) := by decide +kernel
theorem dX9_tidyOne_1 : decode cX9_tidyOne 1 = .ok (.iconst 0, 1) := by decide +kernel
theorem dX9_tidyOne_2 : decode cX9_tidyOne 2 = .ok (.putfield 151, 3) := by decide +kernel
theorem dX9_tidyOne_5 : decode cX9_tidyOne 5 = .ok (.iconst 0, 1) := by decide +kernel
theorem dX9_tidyOne_6 : decode cX9_tidyOne 6 = .ok (.istore_n 2, 1) := by decide +kernel
theorem dX9_tidyOne_7 : decode cX9_tidyOne 7 = .ok (.iload_n 2, 1) := by decide +kernel
theorem dX9_tidyOne_8 : decode cX9_tidyOne 8 = .ok (.aload_n 0, 1) := by decide +kernel
theorem dX9_tidyOne_9 : decode cX9_tidyOne 9 = .ok (.getfield 230, 3) := by decide +kernel
theorem dX9_tidyOne_12 : decode cX9_tidyOne 12 = .ok (.if_icmp .ge 37, 3) := by decide +kernel
theorem dX9_tidyOne_15 : decode cX9_tidyOne 15 = .ok (.iload_n 2, 1) := by decide +kernel
theorem dX9_tidyOne_16 : decode cX9_tidyOne 16 = .ok (.iload_n 1, 1) := by decide +kernel
theorem dX9_tidyOne_17 : decode cX9_tidyOne 17 = .ok (.if_icmp .eq 26, 3) := by decide +kernel
theorem dX9_tidyOne_20 : decode cX9_tidyOne 20 = .ok (.aload_n 0, 1) := by decide +kernel
theorem dX9_tidyOne_21 : decode cX9_tidyOne 21 = .ok (.getfield 50, 3) := by decide +kernel
theorem dX9_tidyOne_24 : decode cX9_tidyOne 24 = .ok (.aload_n 0, 1) := by decide +kernel
theorem dX9_tidyOne_25 : decode cX9_tidyOne 25 = .ok (.getfield 151, 3) := by decide +kernel
theorem dX9_tidyOne_28 : decode cX9_tidyOne 28 = .ok (.bipush 43, 2) := by decide +kernel
theorem dX9_tidyOne_30 : decode cX9_tidyOne 30 = .ok (.iload_n 2, 1) := by decide +kernel
theorem dX9_tidyOne_31 : decode cX9_tidyOne 31 = .ok (.iadd, 1) := by decide +kernel
theorem dX9_tidyOne_32 : decode cX9_tidyOne 32 = .ok (.iastore, 1) := by decide +kernel
theorem dX9_tidyOne_33 : decode cX9_tidyOne 33 = .ok (.aload_n 0, 1) := by decide +kernel
theorem dX9_tidyOne_34 : decode cX9_tidyOne 34 = .ok (.dup, 1) := by decide +kernel
theorem dX9_tidyOne_35 : decode cX9_tidyOne 35 = .ok (.getfield 151, 3) := by decide +kernel
theorem dX9_tidyOne_38 : decode cX9_tidyOne 38 = .ok (.iconst 1, 1) := by decide +kernel
theorem dX9_tidyOne_39 : decode cX9_tidyOne 39 = .ok (.iadd, 1) := by decide +kernel
theorem dX9_tidyOne_40 : decode cX9_tidyOne 40 = .ok (.putfield 151, 3) := by decide +kernel
theorem dX9_tidyOne_43 : decode cX9_tidyOne 43 = .ok (.iinc 2 1, 3) := by decide +kernel
theorem dX9_tidyOne_46 : decode cX9_tidyOne 46 = .ok (.goto (-39), 3) := by decide +kernel
theorem dX9_tidyOne_49 : decode cX9_tidyOne 49 = .ok (.bipush 43, 2) := by decide +kernel
theorem dX9_tidyOne_51 : decode cX9_tidyOne 51 = .ok (.iload_n 1, 1) := by decide +kernel
theorem dX9_tidyOne_52 : decode cX9_tidyOne 52 = .ok (.iadd, 1) := by decide +kernel
theorem dX9_tidyOne_53 : decode cX9_tidyOne 53 = .ok (.istore_n 2, 1) := by decide +kernel
theorem dX9_tidyOne_54 : decode cX9_tidyOne 54 = .ok (.aload_n 0, 1) := by decide +kernel
theorem dX9_tidyOne_55 : decode cX9_tidyOne 55 = .ok (.aload_n 0, 1) := by decide +kernel
theorem dX9_tidyOne_56 : decode cX9_tidyOne 56 = .ok (.getfield 13, 3) := by decide +kernel
theorem dX9_tidyOne_59 : decode cX9_tidyOne 59 = .ok (.iload_n 2, 1) := by decide +kernel
theorem dX9_tidyOne_60 : decode cX9_tidyOne 60 = .ok (.iaload, 1) := by decide +kernel
theorem dX9_tidyOne_61 : decode cX9_tidyOne 61 = .ok (.iconst 1, 1) := by decide +kernel
theorem dX9_tidyOne_62 : decode cX9_tidyOne 62 = .ok (.isub, 1) := by decide +kernel
theorem dX9_tidyOne_63 : decode cX9_tidyOne 63 = .ok (.putfield 90, 3) := by decide +kernel
theorem dX9_tidyOne_66 : decode cX9_tidyOne 66 = .ok (.iconst 0, 1) := by decide +kernel
theorem dX9_tidyOne_67 : decode cX9_tidyOne 67 = .ok (.istore_n 3, 1) := by decide +kernel
theorem dX9_tidyOne_68 : decode cX9_tidyOne 68 = .ok (.iload_n 3, 1) := by decide +kernel
theorem dX9_tidyOne_69 : decode cX9_tidyOne 69 = .ok (.aload_n 0, 1) := by decide +kernel
theorem dX9_tidyOne_70 : decode cX9_tidyOne 70 = .ok (.getfield 90, 3) := by decide +kernel
theorem dX9_tidyOne_73 : decode cX9_tidyOne 73 = .ok (.if_icmp .ge 73, 3) := by decide +kernel
theorem dX9_tidyOne_76 : decode cX9_tidyOne 76 = .ok (.aload_n 0, 1) := by decide +kernel
theorem dX9_tidyOne_77 : decode cX9_tidyOne 77 = .ok (.getfield 32, 3) := by decide +kernel
theorem dX9_tidyOne_80 : decode cX9_tidyOne 80 = .ok (.iload_n 3, 1) := by decide +kernel
theorem dX9_tidyOne_81 : decode cX9_tidyOne 81 = .ok (.aload_n 0, 1) := by decide +kernel
theorem dX9_tidyOne_82 : decode cX9_tidyOne 82 = .ok (.getfield 17, 3) := by decide +kernel
theorem dX9_tidyOne_85 : decode cX9_tidyOne 85 = .ok (.bipush 40, 2) := by decide +kernel
theorem dX9_tidyOne_87 : decode cX9_tidyOne 87 = .ok (.iload_n 2, 1) := by decide +kernel
theorem dX9_tidyOne_88 : decode cX9_tidyOne 88 = .ok (.imul, 1) := by decide +kernel
theorem dX9_tidyOne_89 : decode cX9_tidyOne 89 = .ok (.iload_n 3, 1) := by decide +kernel
theorem dX9_tidyOne_90 : decode cX9_tidyOne 90 = .ok (.iadd, 1) := by decide +kernel
theorem dX9_tidyOne_91 : decode cX9_tidyOne 91 = .ok (.iconst 1, 1) := by decide +kernel
theorem dX9_tidyOne_92 : decode cX9_tidyOne 92 = .ok (.iadd, 1) := by decide +kernel
theorem dX9_tidyOne_93 : decode cX9_tidyOne 93 = .ok (.iaload, 1) := by decide +kernel
theorem dX9_tidyOne_94 : decode cX9_tidyOne 94 = .ok (.iastore, 1) := by decide +kernel
theorem dX9_tidyOne_95 : decode cX9_tidyOne 95 = .ok (.iconst 0, 1) := by decide +kernel
theorem dX9_tidyOne_96 : decode cX9_tidyOne 96 = .ok (.istore 4, 2) := by decide +kernel
theorem dX9_tidyOne_98 : decode cX9_tidyOne 98 = .ok (.iload 4, 2) := by decide +kernel
theorem dX9_tidyOne_100 : decode cX9_tidyOne 100 = .ok (.iconst 4, 1) := by decide +kernel
theorem dX9_tidyOne_101 : decode cX9_tidyOne 101 = .ok (.if_icmp .ge 39, 3) := by decide +kernel
theorem dX9_tidyOne_104 : decode cX9_tidyOne 104 = .ok (.aload_n 0, 1) := by decide +kernel
theorem dX9_tidyOne_105 : decode cX9_tidyOne 105 = .ok (.getfield 35, 3) := by decide +kernel
theorem dX9_tidyOne_108 : decode cX9_tidyOne 108 = .ok (.iconst 4, 1) := by decide +kernel
theorem dX9_tidyOne_109 : decode cX9_tidyOne 109 = .ok (.iload_n 3, 1) := by decide +kernel
theorem dX9_tidyOne_110 : decode cX9_tidyOne 110 = .ok (.imul, 1) := by decide +kernel
theorem dX9_tidyOne_111 : decode cX9_tidyOne 111 = .ok (.iload 4, 2) := by decide +kernel
theorem dX9_tidyOne_113 : decode cX9_tidyOne 113 = .ok (.iadd, 1) := by decide +kernel
theorem dX9_tidyOne_114 : decode cX9_tidyOne 114 = .ok (.aload_n 0, 1) := by decide +kernel
theorem dX9_tidyOne_115 : decode cX9_tidyOne 115 = .ok (.getfield 20, 3) := by decide +kernel
theorem dX9_tidyOne_118 : decode cX9_tidyOne 118 = .ok (.sipush 160, 3) := by decide +kernel
theorem dX9_tidyOne_121 : decode cX9_tidyOne 121 = .ok (.iload_n 2, 1) := by decide +kernel
theorem dX9_tidyOne_122 : decode cX9_tidyOne 122 = .ok (.imul, 1) := by decide +kernel
theorem dX9_tidyOne_123 : decode cX9_tidyOne 123 = .ok (.iconst 4, 1) := by decide +kernel
theorem dX9_tidyOne_124 : decode cX9_tidyOne 124 = .ok (.iload_n 3, 1) := by decide +kernel
theorem dX9_tidyOne_125 : decode cX9_tidyOne 125 = .ok (.imul, 1) := by decide +kernel
theorem dX9_tidyOne_126 : decode cX9_tidyOne 126 = .ok (.iadd, 1) := by decide +kernel
theorem dX9_tidyOne_127 : decode cX9_tidyOne 127 = .ok (.iconst 4, 1) := by decide +kernel
theorem dX9_tidyOne_128 : decode cX9_tidyOne 128 = .ok (.iadd, 1) := by decide +kernel
theorem dX9_tidyOne_129 : decode cX9_tidyOne 129 = .ok (.iload 4, 2) := by decide +kernel
theorem dX9_tidyOne_131 : decode cX9_tidyOne 131 = .ok (.iadd, 1) := by decide +kernel
theorem dX9_tidyOne_132 : decode cX9_tidyOne 132 = .ok (.iaload, 1) := by decide +kernel
theorem dX9_tidyOne_133 : decode cX9_tidyOne 133 = .ok (.iastore, 1) := by decide +kernel
theorem dX9_tidyOne_134 : decode cX9_tidyOne 134 = .ok (.iinc 4 1, 3) := by decide +kernel
theorem dX9_tidyOne_137 : decode cX9_tidyOne 137 = .ok (.goto (-39), 3) := by decide +kernel
theorem dX9_tidyOne_140 : decode cX9_tidyOne 140 = .ok (.iinc 3 1, 3) := by decide +kernel
theorem dX9_tidyOne_143 : decode cX9_tidyOne 143 = .ok (.goto (-75), 3) := by decide +kernel
theorem dX9_tidyOne_146 : decode cX9_tidyOne 146 = .ok (.aload_n 0, 1) := by decide +kernel
theorem dX9_tidyOne_147 : decode cX9_tidyOne 147 = .ok (.invokevirtual 212, 3) := by decide +kernel
theorem dX9_tidyOne_150 : decode cX9_tidyOne 150 = .ok (.istore_n 3, 1) := by decide +kernel
theorem dX9_tidyOne_151 : decode cX9_tidyOne 151 = .ok (.iload_n 3, 1) := by decide +kernel
theorem dX9_tidyOne_152 : decode cX9_tidyOne 152 = .ok (.ifCond .ge 5, 3) := by decide +kernel
theorem dX9_tidyOne_155 : decode cX9_tidyOne 155 = .ok (.iload_n 3, 1) := by decide +kernel
theorem dX9_tidyOne_156 : decode cX9_tidyOne 156 = .ok (.ireturn, 1) := by decide +kernel
theorem dX9_tidyOne_157 : decode cX9_tidyOne 157 = .ok (.aload_n 0, 1) := by decide +kernel
theorem dX9_tidyOne_158 : decode cX9_tidyOne 158 = .ok (.getfield 90, 3) := by decide +kernel
theorem dX9_tidyOne_161 : decode cX9_tidyOne 161 = .ok (.bipush 40, 2) := by decide +kernel
theorem dX9_tidyOne_163 : decode cX9_tidyOne 163 = .ok (.if_icmp .ne 6, 3) := by decide +kernel
theorem dX9_tidyOne_166 : decode cX9_tidyOne 166 = .ok (.bipush (-6), 2) := by decide +kernel
theorem dX9_tidyOne_168 : decode cX9_tidyOne 168 = .ok (.ireturn, 1) := by decide +kernel
theorem dX9_tidyOne_169 : decode cX9_tidyOne 169 = .ok (.iconst 0, 1) := by decide +kernel
theorem dX9_tidyOne_170 : decode cX9_tidyOne 170 = .ok (.istore 4, 2) := by decide +kernel
theorem dX9_tidyOne_172 : decode cX9_tidyOne 172 = .ok (.iload 4, 2) := by decide +kernel
theorem dX9_tidyOne_174 : decode cX9_tidyOne 174 = .ok (.aload_n 0, 1) := by decide +kernel
theorem dX9_tidyOne_175 : decode cX9_tidyOne 175 = .ok (.getfield 90, 3) := by decide +kernel
theorem dX9_tidyOne_178 : decode cX9_tidyOne 178 = .ok (.if_icmp .ge 77, 3) := by decide +kernel
theorem dX9_tidyOne_181 : decode cX9_tidyOne 181 = .ok (.aload_n 0, 1) := by decide +kernel
theorem dX9_tidyOne_182 : decode cX9_tidyOne 182 = .ok (.getfield 17, 3) := by decide +kernel
theorem dX9_tidyOne_185 : decode cX9_tidyOne 185 = .ok (.bipush 40, 2) := by decide +kernel
theorem dX9_tidyOne_187 : decode cX9_tidyOne 187 = .ok (.iload_n 2, 1) := by decide +kernel
theorem dX9_tidyOne_188 : decode cX9_tidyOne 188 = .ok (.imul, 1) := by decide +kernel
theorem dX9_tidyOne_189 : decode cX9_tidyOne 189 = .ok (.iload 4, 2) := by decide +kernel
theorem dX9_tidyOne_191 : decode cX9_tidyOne 191 = .ok (.iadd, 1) := by decide +kernel
theorem dX9_tidyOne_192 : decode cX9_tidyOne 192 = .ok (.iconst 1, 1) := by decide +kernel
theorem dX9_tidyOne_193 : decode cX9_tidyOne 193 = .ok (.iadd, 1) := by decide +kernel
theorem dX9_tidyOne_194 : decode cX9_tidyOne 194 = .ok (.aload_n 0, 1) := by decide +kernel
theorem dX9_tidyOne_195 : decode cX9_tidyOne 195 = .ok (.getfield 32, 3) := by decide +kernel
theorem dX9_tidyOne_198 : decode cX9_tidyOne 198 = .ok (.iload 4, 2) := by decide +kernel
theorem dX9_tidyOne_200 : decode cX9_tidyOne 200 = .ok (.iaload, 1) := by decide +kernel
theorem dX9_tidyOne_201 : decode cX9_tidyOne 201 = .ok (.iastore, 1) := by decide +kernel
theorem dX9_tidyOne_202 : decode cX9_tidyOne 202 = .ok (.iconst 0, 1) := by decide +kernel
theorem dX9_tidyOne_203 : decode cX9_tidyOne 203 = .ok (.istore 5, 2) := by decide +kernel
theorem dX9_tidyOne_205 : decode cX9_tidyOne 205 = .ok (.iload 5, 2) := by decide +kernel
theorem dX9_tidyOne_207 : decode cX9_tidyOne 207 = .ok (.iconst 4, 1) := by decide +kernel
theorem dX9_tidyOne_208 : decode cX9_tidyOne 208 = .ok (.if_icmp .ge 41, 3) := by decide +kernel
theorem dX9_tidyOne_211 : decode cX9_tidyOne 211 = .ok (.aload_n 0, 1) := by decide +kernel
theorem dX9_tidyOne_212 : decode cX9_tidyOne 212 = .ok (.getfield 20, 3) := by decide +kernel
theorem dX9_tidyOne_215 : decode cX9_tidyOne 215 = .ok (.sipush 160, 3) := by decide +kernel
theorem dX9_tidyOne_218 : decode cX9_tidyOne 218 = .ok (.iload_n 2, 1) := by decide +kernel
theorem dX9_tidyOne_219 : decode cX9_tidyOne 219 = .ok (.imul, 1) := by decide +kernel
theorem dX9_tidyOne_220 : decode cX9_tidyOne 220 = .ok (.iconst 4, 1) := by decide +kernel
theorem dX9_tidyOne_221 : decode cX9_tidyOne 221 = .ok (.iload 4, 2) := by decide +kernel
theorem dX9_tidyOne_223 : decode cX9_tidyOne 223 = .ok (.imul, 1) := by decide +kernel
theorem dX9_tidyOne_224 : decode cX9_tidyOne 224 = .ok (.iadd, 1) := by decide +kernel
theorem dX9_tidyOne_225 : decode cX9_tidyOne 225 = .ok (.iconst 4, 1) := by decide +kernel
theorem dX9_tidyOne_226 : decode cX9_tidyOne 226 = .ok (.iadd, 1) := by decide +kernel
theorem dX9_tidyOne_227 : decode cX9_tidyOne 227 = .ok (.iload 5, 2) := by decide +kernel
theorem dX9_tidyOne_229 : decode cX9_tidyOne 229 = .ok (.iadd, 1) := by decide +kernel
theorem dX9_tidyOne_230 : decode cX9_tidyOne 230 = .ok (.aload_n 0, 1) := by decide +kernel
theorem dX9_tidyOne_231 : decode cX9_tidyOne 231 = .ok (.getfield 35, 3) := by decide +kernel
theorem dX9_tidyOne_234 : decode cX9_tidyOne 234 = .ok (.iconst 4, 1) := by decide +kernel
theorem dX9_tidyOne_235 : decode cX9_tidyOne 235 = .ok (.iload 4, 2) := by decide +kernel
theorem dX9_tidyOne_237 : decode cX9_tidyOne 237 = .ok (.imul, 1) := by decide +kernel
theorem dX9_tidyOne_238 : decode cX9_tidyOne 238 = .ok (.iload 5, 2) := by decide +kernel
theorem dX9_tidyOne_240 : decode cX9_tidyOne 240 = .ok (.iadd, 1) := by decide +kernel
theorem dX9_tidyOne_241 : decode cX9_tidyOne 241 = .ok (.iaload, 1) := by decide +kernel
theorem dX9_tidyOne_242 : decode cX9_tidyOne 242 = .ok (.iastore, 1) := by decide +kernel
theorem dX9_tidyOne_243 : decode cX9_tidyOne 243 = .ok (.iinc 5 1, 3) := by decide +kernel
theorem dX9_tidyOne_246 : decode cX9_tidyOne 246 = .ok (.goto (-41), 3) := by decide +kernel
theorem dX9_tidyOne_249 : decode cX9_tidyOne 249 = .ok (.iinc 4 1, 3) := by decide +kernel
theorem dX9_tidyOne_252 : decode cX9_tidyOne 252 = .ok (.goto (-80), 3) := by decide +kernel
theorem dX9_tidyOne_255 : decode cX9_tidyOne 255 = .ok (.aload_n 0, 1) := by decide +kernel
theorem dX9_tidyOne_256 : decode cX9_tidyOne 256 = .ok (.getfield 13, 3) := by decide +kernel
theorem dX9_tidyOne_259 : decode cX9_tidyOne 259 = .ok (.iload_n 2, 1) := by decide +kernel
theorem dX9_tidyOne_260 : decode cX9_tidyOne 260 = .ok (.aload_n 0, 1) := by decide +kernel
theorem dX9_tidyOne_261 : decode cX9_tidyOne 261 = .ok (.getfield 90, 3) := by decide +kernel
theorem dX9_tidyOne_264 : decode cX9_tidyOne 264 = .ok (.iconst 1, 1) := by decide +kernel
theorem dX9_tidyOne_265 : decode cX9_tidyOne 265 = .ok (.iadd, 1) := by decide +kernel
theorem dX9_tidyOne_266 : decode cX9_tidyOne 266 = .ok (.iastore, 1) := by decide +kernel
theorem dX9_tidyOne_267 : decode cX9_tidyOne 267 = .ok (.iconst 0, 1) := by decide +kernel
theorem dX9_tidyOne_268 : decode cX9_tidyOne 268 = .ok (.ireturn, 1) := by decide +kernel
theorem dX9_tidy_0 : decode cX9_tidy 0 = .ok (.aload_n 0, 1) := by decide +kernel
theorem dX9_tidy_1 : decode cX9_tidy 1 = .ok (.getfield 181, 3) := by decide +kernel
theorem dX9_tidy_4 : decode cX9_tidy 4 = .ok (.ifCond .le 6, 3) := by decide +kernel
theorem dX9_tidy_7 : decode cX9_tidy 7 = .ok (.bipush (-3), 2) := by decide +kernel
theorem dX9_tidy_9 : decode cX9_tidy 9 = .ok (.ireturn, 1) := by decide +kernel
theorem dX9_tidy_10 : decode cX9_tidy 10 = .ok (.aload_n 0, 1) := by decide +kernel
theorem dX9_tidy_11 : decode cX9_tidy 11 = .ok (.iconst 0, 1) := by decide +kernel
theorem dX9_tidy_12 : decode cX9_tidy 12 = .ok (.putfield 158, 3) := by decide +kernel
theorem dX9_tidy_15 : decode cX9_tidy 15 = .ok (.aload_n 0, 1) := by decide +kernel
theorem dX9_tidy_16 : decode cX9_tidy 16 = .ok (.iconst 0, 1) := by decide +kernel
theorem dX9_tidy_17 : decode cX9_tidy 17 = .ok (.putfield 221, 3) := by decide +kernel
theorem dX9_tidy_20 : decode cX9_tidy 20 = .ok (.aload_n 0, 1) := by decide +kernel
theorem dX9_tidy_21 : decode cX9_tidy 21 = .ok (.invokevirtual 236, 3) := by decide +kernel
theorem dX9_tidy_24 : decode cX9_tidy 24 = .ok (.iconst 0, 1) := by decide +kernel
theorem dX9_tidy_25 : decode cX9_tidy 25 = .ok (.istore_n 1, 1) := by decide +kernel
theorem dX9_tidy_26 : decode cX9_tidy 26 = .ok (.iload_n 1, 1) := by decide +kernel
theorem dX9_tidy_27 : decode cX9_tidy 27 = .ok (.aload_n 0, 1) := by decide +kernel
theorem dX9_tidy_28 : decode cX9_tidy 28 = .ok (.getfield 230, 3) := by decide +kernel
theorem dX9_tidy_31 : decode cX9_tidy 31 = .ok (.if_icmp .ge 29, 3) := by decide +kernel
theorem dX9_tidy_34 : decode cX9_tidy 34 = .ok (.aload_n 0, 1) := by decide +kernel
theorem dX9_tidy_35 : decode cX9_tidy 35 = .ok (.iload_n 1, 1) := by decide +kernel
theorem dX9_tidy_36 : decode cX9_tidy 36 = .ok (.invokevirtual 239, 3) := by decide +kernel
theorem dX9_tidy_39 : decode cX9_tidy 39 = .ok (.istore_n 2, 1) := by decide +kernel
theorem dX9_tidy_40 : decode cX9_tidy 40 = .ok (.aload_n 0, 1) := by decide +kernel
theorem dX9_tidy_41 : decode cX9_tidy 41 = .ok (.aload_n 0, 1) := by decide +kernel
theorem dX9_tidy_42 : decode cX9_tidy 42 = .ok (.getfield 158, 3) := by decide +kernel
theorem dX9_tidy_45 : decode cX9_tidy 45 = .ok (.putfield 221, 3) := by decide +kernel
theorem dX9_tidy_48 : decode cX9_tidy 48 = .ok (.iload_n 2, 1) := by decide +kernel
theorem dX9_tidy_49 : decode cX9_tidy 49 = .ok (.ifCond .ge 5, 3) := by decide +kernel
theorem dX9_tidy_52 : decode cX9_tidy 52 = .ok (.iload_n 2, 1) := by decide +kernel
theorem dX9_tidy_53 : decode cX9_tidy 53 = .ok (.ireturn, 1) := by decide +kernel
theorem dX9_tidy_54 : decode cX9_tidy 54 = .ok (.iinc 1 1, 3) := by decide +kernel
theorem dX9_tidy_57 : decode cX9_tidy 57 = .ok (.goto (-31), 3) := by decide +kernel
theorem dX9_tidy_60 : decode cX9_tidy 60 = .ok (.iconst 0, 1) := by decide +kernel
theorem dX9_tidy_61 : decode cX9_tidy 61 = .ok (.istore_n 1, 1) := by decide +kernel
theorem dX9_tidy_62 : decode cX9_tidy 62 = .ok (.iload_n 1, 1) := by decide +kernel
theorem dX9_tidy_63 : decode cX9_tidy 63 = .ok (.aload_n 0, 1) := by decide +kernel
theorem dX9_tidy_64 : decode cX9_tidy 64 = .ok (.getfield 230, 3) := by decide +kernel
theorem dX9_tidy_67 : decode cX9_tidy 67 = .ok (.if_icmp .ge 21, 3) := by decide +kernel
theorem dX9_tidy_70 : decode cX9_tidy 70 = .ok (.aload_n 0, 1) := by decide +kernel
theorem dX9_tidy_71 : decode cX9_tidy 71 = .ok (.bipush 43, 2) := by decide +kernel
theorem dX9_tidy_73 : decode cX9_tidy 73 = .ok (.iload_n 1, 1) := by decide +kernel
theorem dX9_tidy_74 : decode cX9_tidy 74 = .ok (.iadd, 1) := by decide +kernel
theorem dX9_tidy_75 : decode cX9_tidy 75 = .ok (.bipush 25, 2) := by decide +kernel
theorem dX9_tidy_77 : decode cX9_tidy 77 = .ok (.iload_n 1, 1) := by decide +kernel
theorem dX9_tidy_78 : decode cX9_tidy 78 = .ok (.iadd, 1) := by decide +kernel
theorem dX9_tidy_79 : decode cX9_tidy 79 = .ok (.invokevirtual 128, 3) := by decide +kernel
theorem dX9_tidy_82 : decode cX9_tidy 82 = .ok (.iinc 1 1, 3) := by decide +kernel
theorem dX9_tidy_85 : decode cX9_tidy 85 = .ok (.goto (-23), 3) := by decide +kernel
theorem dX9_tidy_88 : decode cX9_tidy 88 = .ok (.aload_n 0, 1) := by decide +kernel
theorem dX9_tidy_89 : decode cX9_tidy 89 = .ok (.aload_n 0, 1) := by decide +kernel
theorem dX9_tidy_90 : decode cX9_tidy 90 = .ok (.getfield 230, 3) := by decide +kernel
theorem dX9_tidy_93 : decode cX9_tidy 93 = .ok (.putfield 107, 3) := by decide +kernel
theorem dX9_tidy_96 : decode cX9_tidy 96 = .ok (.aload_n 0, 1) := by decide +kernel
theorem dX9_tidy_97 : decode cX9_tidy 97 = .ok (.iconst 1, 1) := by decide +kernel
theorem dX9_tidy_98 : decode cX9_tidy 98 = .ok (.putfield 187, 3) := by decide +kernel
theorem dX9_tidy_101 : decode cX9_tidy 101 = .ok (.aload_n 0, 1) := by decide +kernel
theorem dX9_tidy_102 : decode cX9_tidy 102 = .ok (.getfield 107, 3) := by decide +kernel
theorem dX9_tidy_105 : decode cX9_tidy 105 = .ok (.ireturn, 1) := by decide +kernel
theorem dX9_left_0 : decode cX9_left 0 = .ok (.aload_n 0, 1) := by decide +kernel
theorem dX9_left_1 : decode cX9_left 1 = .ok (.iload_n 1, 1) := by decide +kernel
theorem dX9_left_2 : decode cX9_left 2 = .ok (.invokevirtual 131, 3) := by decide +kernel
theorem dX9_left_5 : decode cX9_left 5 = .ok (.istore_n 2, 1) := by decide +kernel
theorem dX9_left_6 : decode cX9_left 6 = .ok (.iload_n 2, 1) := by decide +kernel
theorem dX9_left_7 : decode cX9_left 7 = .ok (.ifCond .ge 6, 3) := by decide +kernel
theorem dX9_left_10 : decode cX9_left 10 = .ok (.bipush (-2), 2) := by decide +kernel
theorem dX9_left_12 : decode cX9_left 12 = .ok (.ireturn, 1) := by decide +kernel
theorem dX9_left_13 : decode cX9_left 13 = .ok (.aload_n 0, 1) := by decide +kernel
theorem dX9_left_14 : decode cX9_left 14 = .ok (.iconst 0, 1) := by decide +kernel
theorem dX9_left_15 : decode cX9_left 15 = .ok (.putfield 221, 3) := by decide +kernel
theorem dX9_left_18 : decode cX9_left 18 = .ok (.aload_n 0, 1) := by decide +kernel
theorem dX9_left_19 : decode cX9_left 19 = .ok (.invokevirtual 124, 3) := by decide +kernel
theorem dX9_left_22 : decode cX9_left 22 = .ok (.istore_n 3, 1) := by decide +kernel
theorem dX9_left_23 : decode cX9_left 23 = .ok (.iload_n 3, 1) := by decide +kernel
theorem dX9_left_24 : decode cX9_left 24 = .ok (.bipush 25, 2) := by decide +kernel
theorem dX9_left_26 : decode cX9_left 26 = .ok (.if_icmp .ne 6, 3) := by decide +kernel
theorem dX9_left_29 : decode cX9_left 29 = .ok (.bipush (-4), 2) := by decide +kernel
theorem dX9_left_31 : decode cX9_left 31 = .ok (.ireturn, 1) := by decide +kernel
theorem dX9_left_32 : decode cX9_left 32 = .ok (.aload_n 0, 1) := by decide +kernel
theorem dX9_left_33 : decode cX9_left 33 = .ok (.iconst 0, 1) := by decide +kernel
theorem dX9_left_34 : decode cX9_left 34 = .ok (.putfield 158, 3) := by decide +kernel
theorem dX9_left_37 : decode cX9_left 37 = .ok (.aload_n 0, 1) := by decide +kernel
theorem dX9_left_38 : decode cX9_left 38 = .ok (.iload_n 2, 1) := by decide +kernel
theorem dX9_left_39 : decode cX9_left 39 = .ok (.invokevirtual 100, 3) := by decide +kernel
theorem dX9_left_42 : decode cX9_left 42 = .ok (.aload_n 0, 1) := by decide +kernel
theorem dX9_left_43 : decode cX9_left 43 = .ok (.invokevirtual 209, 3) := by decide +kernel
theorem dX9_left_46 : decode cX9_left 46 = .ok (.aload_n 0, 1) := by decide +kernel
theorem dX9_left_47 : decode cX9_left 47 = .ok (.invokevirtual 212, 3) := by decide +kernel
theorem dX9_left_50 : decode cX9_left 50 = .ok (.istore 4, 2) := by decide +kernel
theorem dX9_left_52 : decode cX9_left 52 = .ok (.aload_n 0, 1) := by decide +kernel
theorem dX9_left_53 : decode cX9_left 53 = .ok (.aload_n 0, 1) := by decide +kernel
theorem dX9_left_54 : decode cX9_left 54 = .ok (.getfield 158, 3) := by decide +kernel
theorem dX9_left_57 : decode cX9_left 57 = .ok (.putfield 221, 3) := by decide +kernel
theorem dX9_left_60 : decode cX9_left 60 = .ok (.iload 4, 2) := by decide +kernel
theorem dX9_left_62 : decode cX9_left 62 = .ok (.ifCond .ge 6, 3) := by decide +kernel
theorem dX9_left_65 : decode cX9_left 65 = .ok (.iload 4, 2) := by decide +kernel
theorem dX9_left_67 : decode cX9_left 67 = .ok (.ireturn, 1) := by decide +kernel
theorem dX9_left_68 : decode cX9_left 68 = .ok (.aload_n 0, 1) := by decide +kernel
theorem dX9_left_69 : decode cX9_left 69 = .ok (.iload_n 3, 1) := by decide +kernel
theorem dX9_left_70 : decode cX9_left 70 = .ok (.iconst 1, 1) := by decide +kernel
theorem dX9_left_71 : decode cX9_left 71 = .ok (.invokevirtual 103, 3) := by decide +kernel
theorem dX9_left_74 : decode cX9_left 74 = .ok (.iload_n 3, 1) := by decide +kernel
theorem dX9_left_75 : decode cX9_left 75 = .ok (.iconst 1, 1) := by decide +kernel
theorem dX9_left_76 : decode cX9_left 76 = .ok (.isub, 1) := by decide +kernel
theorem dX9_left_77 : decode cX9_left 77 = .ok (.ireturn, 1) := by decide +kernel
theorem dX9_member_0 : decode cX9_member 0 = .ok (.aload_n 0, 1) := by decide +kernel
theorem dX9_member_1 : decode cX9_member 1 = .ok (.iload_n 1, 1) := by decide +kernel
theorem dX9_member_2 : decode cX9_member 2 = .ok (.invokevirtual 131, 3) := by decide +kernel
theorem dX9_member_5 : decode cX9_member 5 = .ok (.istore_n 2, 1) := by decide +kernel
theorem dX9_member_6 : decode cX9_member 6 = .ok (.iload_n 2, 1) := by decide +kernel
theorem dX9_member_7 : decode cX9_member 7 = .ok (.ifCond .ge 6, 3) := by decide +kernel
theorem dX9_member_10 : decode cX9_member 10 = .ok (.bipush (-2), 2) := by decide +kernel
theorem dX9_member_12 : decode cX9_member 12 = .ok (.ireturn, 1) := by decide +kernel
theorem dX9_member_13 : decode cX9_member 13 = .ok (.aload_n 0, 1) := by decide +kernel
theorem dX9_member_14 : decode cX9_member 14 = .ok (.getfield 187, 3) := by decide +kernel
theorem dX9_member_17 : decode cX9_member 17 = .ok (.ifCond .ne 6, 3) := by decide +kernel
theorem dX9_member_20 : decode cX9_member 20 = .ok (.bipush (-3), 2) := by decide +kernel
theorem dX9_member_22 : decode cX9_member 22 = .ok (.ireturn, 1) := by decide +kernel
theorem dX9_member_23 : decode cX9_member 23 = .ok (.aload_n 0, 1) := by decide +kernel
theorem dX9_member_24 : decode cX9_member 24 = .ok (.iconst 0, 1) := by decide +kernel
theorem dX9_member_25 : decode cX9_member 25 = .ok (.putfield 158, 3) := by decide +kernel
theorem dX9_member_28 : decode cX9_member 28 = .ok (.aload_n 0, 1) := by decide +kernel
theorem dX9_member_29 : decode cX9_member 29 = .ok (.iload_n 2, 1) := by decide +kernel
theorem dX9_member_30 : decode cX9_member 30 = .ok (.invokevirtual 100, 3) := by decide +kernel
theorem dX9_member_33 : decode cX9_member 33 = .ok (.aload_n 0, 1) := by decide +kernel
theorem dX9_member_34 : decode cX9_member 34 = .ok (.invokevirtual 209, 3) := by decide +kernel
theorem dX9_member_37 : decode cX9_member 37 = .ok (.aload_n 0, 1) := by decide +kernel
theorem dX9_member_38 : decode cX9_member 38 = .ok (.invokevirtual 212, 3) := by decide +kernel
theorem dX9_member_41 : decode cX9_member 41 = .ok (.istore_n 3, 1) := by decide +kernel
theorem dX9_member_42 : decode cX9_member 42 = .ok (.aload_n 0, 1) := by decide +kernel
theorem dX9_member_43 : decode cX9_member 43 = .ok (.aload_n 0, 1) := by decide +kernel
theorem dX9_member_44 : decode cX9_member 44 = .ok (.getfield 158, 3) := by decide +kernel
theorem dX9_member_47 : decode cX9_member 47 = .ok (.putfield 221, 3) := by decide +kernel
theorem dX9_member_50 : decode cX9_member 50 = .ok (.iload_n 3, 1) := by decide +kernel
theorem dX9_member_51 : decode cX9_member 51 = .ok (.ifCond .ge 7, 3) := by decide +kernel
theorem dX9_member_54 : decode cX9_member 54 = .ok (.iload_n 3, 1) := by decide +kernel
theorem dX9_member_55 : decode cX9_member 55 = .ok (.goto 15, 3) := by decide +kernel
theorem dX9_member_58 : decode cX9_member 58 = .ok (.aload_n 0, 1) := by decide +kernel
theorem dX9_member_59 : decode cX9_member 59 = .ok (.getfield 90, 3) := by decide +kernel
theorem dX9_member_62 : decode cX9_member 62 = .ok (.ifCond .ne 7, 3) := by decide +kernel
theorem dX9_member_65 : decode cX9_member 65 = .ok (.iconst 1, 1) := by decide +kernel
theorem dX9_member_66 : decode cX9_member 66 = .ok (.goto 4, 3) := by decide +kernel
theorem dX9_member_69 : decode cX9_member 69 = .ok (.iconst 0, 1) := by decide +kernel
theorem dX9_member_70 : decode cX9_member 70 = .ok (.ireturn, 1) := by decide +kernel
theorem dX9_pair_0 : decode cX9_pair 0 = .ok (.iload_n 1, 1) := by decide +kernel
theorem dX9_pair_1 : decode cX9_pair 1 = .ok (.iconst 0, 1) := by decide +kernel
theorem dX9_pair_2 : decode cX9_pair 2 = .ok (.aload_n 0, 1) := by decide +kernel
theorem dX9_pair_3 : decode cX9_pair 3 = .ok (.getfield 181, 3) := by decide +kernel
theorem dX9_pair_6 : decode cX9_pair 6 = .ok (.iconst 1, 1) := by decide +kernel
theorem dX9_pair_7 : decode cX9_pair 7 = .ok (.isub, 1) := by decide +kernel
theorem dX9_pair_8 : decode cX9_pair 8 = .ok (.invokestatic 78, 3) := by decide +kernel
theorem dX9_pair_11 : decode cX9_pair 11 = .ok (.ifCond .eq 22, 3) := by decide +kernel
theorem dX9_pair_14 : decode cX9_pair 14 = .ok (.bipush 100, 2) := by decide +kernel
theorem dX9_pair_16 : decode cX9_pair 16 = .ok (.aload_n 0, 1) := by decide +kernel
theorem dX9_pair_17 : decode cX9_pair 17 = .ok (.getfield 23, 3) := by decide +kernel
theorem dX9_pair_20 : decode cX9_pair 20 = .ok (.iload_n 1, 1) := by decide +kernel
theorem dX9_pair_21 : decode cX9_pair 21 = .ok (.iaload, 1) := by decide +kernel
theorem dX9_pair_22 : decode cX9_pair 22 = .ok (.imul, 1) := by decide +kernel
theorem dX9_pair_23 : decode cX9_pair 23 = .ok (.aload_n 0, 1) := by decide +kernel
theorem dX9_pair_24 : decode cX9_pair 24 = .ok (.getfield 26, 3) := by decide +kernel
theorem dX9_pair_27 : decode cX9_pair 27 = .ok (.iload_n 1, 1) := by decide +kernel
theorem dX9_pair_28 : decode cX9_pair 28 = .ok (.iaload, 1) := by decide +kernel
theorem dX9_pair_29 : decode cX9_pair 29 = .ok (.iadd, 1) := by decide +kernel
theorem dX9_pair_30 : decode cX9_pair 30 = .ok (.goto 4, 3) := by decide +kernel
theorem dX9_pair_33 : decode cX9_pair 33 = .ok (.iconst (-1), 1) := by decide +kernel
theorem dX9_pair_34 : decode cX9_pair 34 = .ok (.ireturn, 1) := by decide +kernel
theorem dX9_isOne_0 : decode cX9_isOne 0 = .ok (.iconst 0, 1) := by decide +kernel
theorem dX9_isOne_1 : decode cX9_isOne 1 = .ok (.istore_n 2, 1) := by decide +kernel
theorem dX9_isOne_2 : decode cX9_isOne 2 = .ok (.iconst 0, 1) := by decide +kernel
theorem dX9_isOne_3 : decode cX9_isOne 3 = .ok (.istore_n 3, 1) := by decide +kernel
theorem dX9_isOne_4 : decode cX9_isOne 4 = .ok (.iload_n 3, 1) := by decide +kernel
theorem dX9_isOne_5 : decode cX9_isOne 5 = .ok (.iconst 4, 1) := by decide +kernel
theorem dX9_isOne_6 : decode cX9_isOne 6 = .ok (.if_icmp .ge 27, 3) := by decide +kernel
theorem dX9_isOne_9 : decode cX9_isOne 9 = .ok (.iload_n 2, 1) := by decide +kernel
theorem dX9_isOne_10 : decode cX9_isOne 10 = .ok (.aload_n 0, 1) := by decide +kernel
theorem dX9_isOne_11 : decode cX9_isOne 11 = .ok (.getfield 20, 3) := by decide +kernel
theorem dX9_isOne_14 : decode cX9_isOne 14 = .ok (.sipush 160, 3) := by decide +kernel
theorem dX9_isOne_17 : decode cX9_isOne 17 = .ok (.bipush 25, 2) := by decide +kernel
theorem dX9_isOne_19 : decode cX9_isOne 19 = .ok (.iload_n 1, 1) := by decide +kernel
theorem dX9_isOne_20 : decode cX9_isOne 20 = .ok (.iadd, 1) := by decide +kernel
theorem dX9_isOne_21 : decode cX9_isOne 21 = .ok (.imul, 1) := by decide +kernel
theorem dX9_isOne_22 : decode cX9_isOne 22 = .ok (.iload_n 3, 1) := by decide +kernel
theorem dX9_isOne_23 : decode cX9_isOne 23 = .ok (.iadd, 1) := by decide +kernel
theorem dX9_isOne_24 : decode cX9_isOne 24 = .ok (.iaload, 1) := by decide +kernel
theorem dX9_isOne_25 : decode cX9_isOne 25 = .ok (.iadd, 1) := by decide +kernel
theorem dX9_isOne_26 : decode cX9_isOne 26 = .ok (.istore_n 2, 1) := by decide +kernel
theorem dX9_isOne_27 : decode cX9_isOne 27 = .ok (.iinc 3 1, 3) := by decide +kernel
theorem dX9_isOne_30 : decode cX9_isOne 30 = .ok (.goto (-26), 3) := by decide +kernel
theorem dX9_isOne_33 : decode cX9_isOne 33 = .ok (.iload_n 2, 1) := by decide +kernel
theorem dX9_isOne_34 : decode cX9_isOne 34 = .ok (.ifCond .ne 7, 3) := by decide +kernel
theorem dX9_isOne_37 : decode cX9_isOne 37 = .ok (.iconst 1, 1) := by decide +kernel
theorem dX9_isOne_38 : decode cX9_isOne 38 = .ok (.goto 4, 3) := by decide +kernel
theorem dX9_isOne_41 : decode cX9_isOne 41 = .ok (.iconst 0, 1) := by decide +kernel
theorem dX9_isOne_42 : decode cX9_isOne 42 = .ok (.ireturn, 1) := by decide +kernel
theorem dX9_alone_0 : decode cX9_alone 0 = .ok (.bipush 31, 2) := by decide +kernel
theorem dX9_alone_2 : decode cX9_alone 2 = .ok (.istore_n 2, 1) := by decide +kernel
theorem dX9_alone_3 : decode cX9_alone 3 = .ok (.iconst 0, 1) := by decide +kernel
theorem dX9_alone_4 : decode cX9_alone 4 = .ok (.istore_n 3, 1) := by decide +kernel
theorem dX9_alone_5 : decode cX9_alone 5 = .ok (.iload_n 3, 1) := by decide +kernel
theorem dX9_alone_6 : decode cX9_alone 6 = .ok (.aload_n 0, 1) := by decide +kernel
theorem dX9_alone_7 : decode cX9_alone 7 = .ok (.getfield 107, 3) := by decide +kernel
theorem dX9_alone_10 : decode cX9_alone 10 = .ok (.if_icmp .ge 94, 3) := by decide +kernel
theorem dX9_alone_13 : decode cX9_alone 13 = .ok (.sipush 160, 3) := by decide +kernel
theorem dX9_alone_16 : decode cX9_alone 16 = .ok (.bipush 25, 2) := by decide +kernel
theorem dX9_alone_18 : decode cX9_alone 18 = .ok (.iload_n 3, 1) := by decide +kernel
theorem dX9_alone_19 : decode cX9_alone 19 = .ok (.iadd, 1) := by decide +kernel
theorem dX9_alone_20 : decode cX9_alone 20 = .ok (.imul, 1) := by decide +kernel
theorem dX9_alone_21 : decode cX9_alone 21 = .ok (.istore 4, 2) := by decide +kernel
theorem dX9_alone_23 : decode cX9_alone 23 = .ok (.iconst 0, 1) := by decide +kernel
theorem dX9_alone_24 : decode cX9_alone 24 = .ok (.istore 5, 2) := by decide +kernel
theorem dX9_alone_26 : decode cX9_alone 26 = .ok (.iconst 0, 1) := by decide +kernel
theorem dX9_alone_27 : decode cX9_alone 27 = .ok (.istore 6, 2) := by decide +kernel
theorem dX9_alone_29 : decode cX9_alone 29 = .ok (.iload 6, 2) := by decide +kernel
theorem dX9_alone_31 : decode cX9_alone 31 = .ok (.iconst 4, 1) := by decide +kernel
theorem dX9_alone_32 : decode cX9_alone 32 = .ok (.if_icmp .ge 34, 3) := by decide +kernel
theorem dX9_alone_35 : decode cX9_alone 35 = .ok (.iload 5, 2) := by decide +kernel
theorem dX9_alone_37 : decode cX9_alone 37 = .ok (.iload 6, 2) := by decide +kernel
theorem dX9_alone_39 : decode cX9_alone 39 = .ok (.iload_n 1, 1) := by decide +kernel
theorem dX9_alone_40 : decode cX9_alone 40 = .ok (.if_icmp .ne 7, 3) := by decide +kernel
theorem dX9_alone_43 : decode cX9_alone 43 = .ok (.iconst 0, 1) := by decide +kernel
theorem dX9_alone_44 : decode cX9_alone 44 = .ok (.goto 13, 3) := by decide +kernel
theorem dX9_alone_47 : decode cX9_alone 47 = .ok (.aload_n 0, 1) := by decide +kernel
theorem dX9_alone_48 : decode cX9_alone 48 = .ok (.getfield 20, 3) := by decide +kernel
theorem dX9_alone_51 : decode cX9_alone 51 = .ok (.iload 4, 2) := by decide +kernel
theorem dX9_alone_53 : decode cX9_alone 53 = .ok (.iload 6, 2) := by decide +kernel
theorem dX9_alone_55 : decode cX9_alone 55 = .ok (.iadd, 1) := by decide +kernel
theorem dX9_alone_56 : decode cX9_alone 56 = .ok (.iaload, 1) := by decide +kernel
theorem dX9_alone_57 : decode cX9_alone 57 = .ok (.iadd, 1) := by decide +kernel
theorem dX9_alone_58 : decode cX9_alone 58 = .ok (.istore 5, 2) := by decide +kernel
theorem dX9_alone_60 : decode cX9_alone 60 = .ok (.iinc 6 1, 3) := by decide +kernel
theorem dX9_alone_63 : decode cX9_alone 63 = .ok (.goto (-34), 3) := by decide +kernel
theorem dX9_alone_66 : decode cX9_alone 66 = .ok (.iload 5, 2) := by decide +kernel
theorem dX9_alone_68 : decode cX9_alone 68 = .ok (.ifCond .ne 28, 3) := by decide +kernel
theorem dX9_alone_71 : decode cX9_alone 71 = .ok (.aload_n 0, 1) := by decide +kernel
theorem dX9_alone_72 : decode cX9_alone 72 = .ok (.getfield 20, 3) := by decide +kernel
theorem dX9_alone_75 : decode cX9_alone 75 = .ok (.iload 4, 2) := by decide +kernel
theorem dX9_alone_77 : decode cX9_alone 77 = .ok (.iload_n 1, 1) := by decide +kernel
theorem dX9_alone_78 : decode cX9_alone 78 = .ok (.iadd, 1) := by decide +kernel
theorem dX9_alone_79 : decode cX9_alone 79 = .ok (.iaload, 1) := by decide +kernel
theorem dX9_alone_80 : decode cX9_alone 80 = .ok (.iload_n 2, 1) := by decide +kernel
theorem dX9_alone_81 : decode cX9_alone 81 = .ok (.if_icmp .ge 15, 3) := by decide +kernel
theorem dX9_alone_84 : decode cX9_alone 84 = .ok (.aload_n 0, 1) := by decide +kernel
theorem dX9_alone_85 : decode cX9_alone 85 = .ok (.getfield 20, 3) := by decide +kernel
theorem dX9_alone_88 : decode cX9_alone 88 = .ok (.iload 4, 2) := by decide +kernel
theorem dX9_alone_90 : decode cX9_alone 90 = .ok (.iload_n 1, 1) := by decide +kernel
theorem dX9_alone_91 : decode cX9_alone 91 = .ok (.iadd, 1) := by decide +kernel
theorem dX9_alone_92 : decode cX9_alone 92 = .ok (.iaload, 1) := by decide +kernel
theorem dX9_alone_93 : decode cX9_alone 93 = .ok (.goto 4, 3) := by decide +kernel
theorem dX9_alone_96 : decode cX9_alone 96 = .ok (.iload_n 2, 1) := by decide +kernel
theorem dX9_alone_97 : decode cX9_alone 97 = .ok (.istore_n 2, 1) := by decide +kernel
theorem dX9_alone_98 : decode cX9_alone 98 = .ok (.iinc 3 1, 3) := by decide +kernel
theorem dX9_alone_101 : decode cX9_alone 101 = .ok (.goto (-96), 3) := by decide +kernel
theorem dX9_alone_104 : decode cX9_alone 104 = .ok (.iload_n 2, 1) := by decide +kernel
theorem dX9_alone_105 : decode cX9_alone 105 = .ok (.ireturn, 1) := by decide +kernel
theorem dX9_doesStand_0 : decode cX9_doesStand 0 = .ok (.iconst 0, 1) := by decide +kernel
theorem dX9_doesStand_1 : decode cX9_doesStand 1 = .ok (.istore_n 1, 1) := by decide +kernel
theorem dX9_doesStand_2 : decode cX9_doesStand 2 = .ok (.iload_n 1, 1) := by decide +kernel
theorem dX9_doesStand_3 : decode cX9_doesStand 3 = .ok (.aload_n 0, 1) := by decide +kernel
theorem dX9_doesStand_4 : decode cX9_doesStand 4 = .ok (.getfield 107, 3) := by decide +kernel
theorem dX9_doesStand_7 : decode cX9_doesStand 7 = .ok (.if_icmp .ge 34, 3) := by decide +kernel
theorem dX9_doesStand_10 : decode cX9_doesStand 10 = .ok (.aload_n 0, 1) := by decide +kernel
theorem dX9_doesStand_11 : decode cX9_doesStand 11 = .ok (.getfield 20, 3) := by decide +kernel
theorem dX9_doesStand_14 : decode cX9_doesStand 14 = .ok (.sipush 160, 3) := by decide +kernel
theorem dX9_doesStand_17 : decode cX9_doesStand 17 = .ok (.bipush 25, 2) := by decide +kernel
theorem dX9_doesStand_19 : decode cX9_doesStand 19 = .ok (.iload_n 1, 1) := by decide +kernel
theorem dX9_doesStand_20 : decode cX9_doesStand 20 = .ok (.iadd, 1) := by decide +kernel
theorem dX9_doesStand_21 : decode cX9_doesStand 21 = .ok (.imul, 1) := by decide +kernel
theorem dX9_doesStand_22 : decode cX9_doesStand 22 = .ok (.aload_n 0, 1) := by decide +kernel
theorem dX9_doesStand_23 : decode cX9_doesStand 23 = .ok (.getfield 38, 3) := by decide +kernel
theorem dX9_doesStand_26 : decode cX9_doesStand 26 = .ok (.iconst 0, 1) := by decide +kernel
theorem dX9_doesStand_27 : decode cX9_doesStand 27 = .ok (.invokestatic 154, 3) := by decide +kernel
theorem dX9_doesStand_30 : decode cX9_doesStand 30 = .ok (.ifCond .eq 5, 3) := by decide +kernel
theorem dX9_doesStand_33 : decode cX9_doesStand 33 = .ok (.iconst 0, 1) := by decide +kernel
theorem dX9_doesStand_34 : decode cX9_doesStand 34 = .ok (.ireturn, 1) := by decide +kernel
theorem dX9_doesStand_35 : decode cX9_doesStand 35 = .ok (.iinc 1 1, 3) := by decide +kernel
theorem dX9_doesStand_38 : decode cX9_doesStand 38 = .ok (.goto (-36), 3) := by decide +kernel
theorem dX9_doesStand_41 : decode cX9_doesStand 41 = .ok (.iconst 1, 1) := by decide +kernel
theorem dX9_doesStand_42 : decode cX9_doesStand 42 = .ok (.ireturn, 1) := by decide +kernel
theorem dX9_findStanding_0 : decode cX9_findStanding 0 = .ok (.aload_n 0, 1) := by decide +kernel
theorem dX9_findStanding_1 : decode cX9_findStanding 1 = .ok (.iconst 0, 1) := by decide +kernel
theorem dX9_findStanding_2 : decode cX9_findStanding 2 = .ok (.putfield 242, 3) := by decide +kernel
theorem dX9_findStanding_5 : decode cX9_findStanding 5 = .ok (.iconst 0, 1) := by decide +kernel
theorem dX9_findStanding_6 : decode cX9_findStanding 6 = .ok (.istore_n 1, 1) := by decide +kernel
theorem dX9_findStanding_7 : decode cX9_findStanding 7 = .ok (.iload_n 1, 1) := by decide +kernel
theorem dX9_findStanding_8 : decode cX9_findStanding 8 = .ok (.aload_n 0, 1) := by decide +kernel
theorem dX9_findStanding_9 : decode cX9_findStanding 9 = .ok (.getfield 107, 3) := by decide +kernel
theorem dX9_findStanding_12 : decode cX9_findStanding 12 = .ok (.if_icmp .ge 19, 3) := by decide +kernel
theorem dX9_findStanding_15 : decode cX9_findStanding 15 = .ok (.aload_n 0, 1) := by decide +kernel
theorem dX9_findStanding_16 : decode cX9_findStanding 16 = .ok (.iload_n 1, 1) := by decide +kernel
theorem dX9_findStanding_17 : decode cX9_findStanding 17 = .ok (.invokevirtual 245, 3) := by decide +kernel
theorem dX9_findStanding_20 : decode cX9_findStanding 20 = .ok (.ifCond .eq 5, 3) := by decide +kernel
theorem dX9_findStanding_23 : decode cX9_findStanding 23 = .ok (.iconst 0, 1) := by decide +kernel
theorem dX9_findStanding_24 : decode cX9_findStanding 24 = .ok (.ireturn, 1) := by decide +kernel
theorem dX9_findStanding_25 : decode cX9_findStanding 25 = .ok (.iinc 1 1, 3) := by decide +kernel
theorem dX9_findStanding_28 : decode cX9_findStanding 28 = .ok (.goto (-21), 3) := by decide +kernel
theorem dX9_findStanding_31 : decode cX9_findStanding 31 = .ok (.iconst 0, 1) := by decide +kernel
theorem dX9_findStanding_32 : decode cX9_findStanding 32 = .ok (.istore_n 1, 1) := by decide +kernel
theorem dX9_findStanding_33 : decode cX9_findStanding 33 = .ok (.iload_n 1, 1) := by decide +kernel
theorem dX9_findStanding_34 : decode cX9_findStanding 34 = .ok (.iconst 4, 1) := by decide +kernel
theorem dX9_findStanding_35 : decode cX9_findStanding 35 = .ok (.if_icmp .ge 45, 3) := by decide +kernel
theorem dX9_findStanding_38 : decode cX9_findStanding 38 = .ok (.aload_n 0, 1) := by decide +kernel
theorem dX9_findStanding_39 : decode cX9_findStanding 39 = .ok (.getfield 65, 3) := by decide +kernel
theorem dX9_findStanding_42 : decode cX9_findStanding 42 = .ok (.iload_n 1, 1) := by decide +kernel
theorem dX9_findStanding_43 : decode cX9_findStanding 43 = .ok (.iload_n 1, 1) := by decide +kernel
theorem dX9_findStanding_44 : decode cX9_findStanding 44 = .ok (.aload_n 0, 1) := by decide +kernel
theorem dX9_findStanding_45 : decode cX9_findStanding 45 = .ok (.getfield 75, 3) := by decide +kernel
theorem dX9_findStanding_48 : decode cX9_findStanding 48 = .ok (.if_icmp .ge 11, 3) := by decide +kernel
theorem dX9_findStanding_51 : decode cX9_findStanding 51 = .ok (.aload_n 0, 1) := by decide +kernel
theorem dX9_findStanding_52 : decode cX9_findStanding 52 = .ok (.iload_n 1, 1) := by decide +kernel
theorem dX9_findStanding_53 : decode cX9_findStanding 53 = .ok (.invokevirtual 248, 3) := by decide +kernel
theorem dX9_findStanding_56 : decode cX9_findStanding 56 = .ok (.goto 4, 3) := by decide +kernel
theorem dX9_findStanding_59 : decode cX9_findStanding 59 = .ok (.iconst 1, 1) := by decide +kernel
theorem dX9_findStanding_60 : decode cX9_findStanding 60 = .ok (.iastore, 1) := by decide +kernel
theorem dX9_findStanding_61 : decode cX9_findStanding 61 = .ok (.aload_n 0, 1) := by decide +kernel
theorem dX9_findStanding_62 : decode cX9_findStanding 62 = .ok (.getfield 65, 3) := by decide +kernel
theorem dX9_findStanding_65 : decode cX9_findStanding 65 = .ok (.iload_n 1, 1) := by decide +kernel
theorem dX9_findStanding_66 : decode cX9_findStanding 66 = .ok (.iaload, 1) := by decide +kernel
theorem dX9_findStanding_67 : decode cX9_findStanding 67 = .ok (.bipush 31, 2) := by decide +kernel
theorem dX9_findStanding_69 : decode cX9_findStanding 69 = .ok (.if_icmp .ne 5, 3) := by decide +kernel
theorem dX9_findStanding_72 : decode cX9_findStanding 72 = .ok (.iconst (-1), 1) := by decide +kernel
theorem dX9_findStanding_73 : decode cX9_findStanding 73 = .ok (.ireturn, 1) := by decide +kernel
theorem dX9_findStanding_74 : decode cX9_findStanding 74 = .ok (.iinc 1 1, 3) := by decide +kernel
theorem dX9_findStanding_77 : decode cX9_findStanding 77 = .ok (.goto (-44), 3) := by decide +kernel
theorem dX9_findStanding_80 : decode cX9_findStanding 80 = .ok (.aload_n 0, 1) := by decide +kernel
theorem dX9_findStanding_81 : decode cX9_findStanding 81 = .ok (.getfield 38, 3) := by decide +kernel
theorem dX9_findStanding_84 : decode cX9_findStanding 84 = .ok (.iconst 0, 1) := by decide +kernel
theorem dX9_findStanding_85 : decode cX9_findStanding 85 = .ok (.iconst 0, 1) := by decide +kernel
theorem dX9_findStanding_86 : decode cX9_findStanding 86 = .ok (.iastore, 1) := by decide +kernel
theorem dX9_findStanding_87 : decode cX9_findStanding 87 = .ok (.aload_n 0, 1) := by decide +kernel
theorem dX9_findStanding_88 : decode cX9_findStanding 88 = .ok (.getfield 38, 3) := by decide +kernel
theorem dX9_findStanding_91 : decode cX9_findStanding 91 = .ok (.iconst 0, 1) := by decide +kernel
theorem dX9_findStanding_92 : decode cX9_findStanding 92 = .ok (.iaload, 1) := by decide +kernel
theorem dX9_findStanding_93 : decode cX9_findStanding 93 = .ok (.aload_n 0, 1) := by decide +kernel
theorem dX9_findStanding_94 : decode cX9_findStanding 94 = .ok (.getfield 65, 3) := by decide +kernel
theorem dX9_findStanding_97 : decode cX9_findStanding 97 = .ok (.iconst 0, 1) := by decide +kernel
theorem dX9_findStanding_98 : decode cX9_findStanding 98 = .ok (.iaload, 1) := by decide +kernel
theorem dX9_findStanding_99 : decode cX9_findStanding 99 = .ok (.if_icmp .ge 144, 3) := by decide +kernel
theorem dX9_findStanding_102 : decode cX9_findStanding 102 = .ok (.aload_n 0, 1) := by decide +kernel
theorem dX9_findStanding_103 : decode cX9_findStanding 103 = .ok (.getfield 38, 3) := by decide +kernel
theorem dX9_findStanding_106 : decode cX9_findStanding 106 = .ok (.iconst 1, 1) := by decide +kernel
theorem dX9_findStanding_107 : decode cX9_findStanding 107 = .ok (.iconst 0, 1) := by decide +kernel
theorem dX9_findStanding_108 : decode cX9_findStanding 108 = .ok (.iastore, 1) := by decide +kernel
theorem dX9_findStanding_109 : decode cX9_findStanding 109 = .ok (.aload_n 0, 1) := by decide +kernel
theorem dX9_findStanding_110 : decode cX9_findStanding 110 = .ok (.getfield 38, 3) := by decide +kernel
theorem dX9_findStanding_113 : decode cX9_findStanding 113 = .ok (.iconst 1, 1) := by decide +kernel
theorem dX9_findStanding_114 : decode cX9_findStanding 114 = .ok (.iaload, 1) := by decide +kernel
theorem dX9_findStanding_115 : decode cX9_findStanding 115 = .ok (.aload_n 0, 1) := by decide +kernel
theorem dX9_findStanding_116 : decode cX9_findStanding 116 = .ok (.getfield 65, 3) := by decide +kernel
theorem dX9_findStanding_119 : decode cX9_findStanding 119 = .ok (.iconst 1, 1) := by decide +kernel
theorem dX9_findStanding_120 : decode cX9_findStanding 120 = .ok (.iaload, 1) := by decide +kernel
theorem dX9_findStanding_121 : decode cX9_findStanding 121 = .ok (.if_icmp .ge 109, 3) := by decide +kernel
theorem dX9_findStanding_124 : decode cX9_findStanding 124 = .ok (.aload_n 0, 1) := by decide +kernel
theorem dX9_findStanding_125 : decode cX9_findStanding 125 = .ok (.getfield 38, 3) := by decide +kernel
theorem dX9_findStanding_128 : decode cX9_findStanding 128 = .ok (.iconst 2, 1) := by decide +kernel
theorem dX9_findStanding_129 : decode cX9_findStanding 129 = .ok (.iconst 0, 1) := by decide +kernel
theorem dX9_findStanding_130 : decode cX9_findStanding 130 = .ok (.iastore, 1) := by decide +kernel
theorem dX9_findStanding_131 : decode cX9_findStanding 131 = .ok (.aload_n 0, 1) := by decide +kernel
theorem dX9_findStanding_132 : decode cX9_findStanding 132 = .ok (.getfield 38, 3) := by decide +kernel
theorem dX9_findStanding_135 : decode cX9_findStanding 135 = .ok (.iconst 2, 1) := by decide +kernel
theorem dX9_findStanding_136 : decode cX9_findStanding 136 = .ok (.iaload, 1) := by decide +kernel
theorem dX9_findStanding_137 : decode cX9_findStanding 137 = .ok (.aload_n 0, 1) := by decide +kernel
theorem dX9_findStanding_138 : decode cX9_findStanding 138 = .ok (.getfield 65, 3) := by decide +kernel
theorem dX9_findStanding_141 : decode cX9_findStanding 141 = .ok (.iconst 2, 1) := by decide +kernel
theorem dX9_findStanding_142 : decode cX9_findStanding 142 = .ok (.iaload, 1) := by decide +kernel
theorem dX9_findStanding_143 : decode cX9_findStanding 143 = .ok (.if_icmp .ge 74, 3) := by decide +kernel
theorem dX9_findStanding_146 : decode cX9_findStanding 146 = .ok (.aload_n 0, 1) := by decide +kernel
theorem dX9_findStanding_147 : decode cX9_findStanding 147 = .ok (.getfield 38, 3) := by decide +kernel
theorem dX9_findStanding_150 : decode cX9_findStanding 150 = .ok (.iconst 3, 1) := by decide +kernel
theorem dX9_findStanding_151 : decode cX9_findStanding 151 = .ok (.iconst 0, 1) := by decide +kernel
theorem dX9_findStanding_152 : decode cX9_findStanding 152 = .ok (.iastore, 1) := by decide +kernel
theorem dX9_findStanding_153 : decode cX9_findStanding 153 = .ok (.aload_n 0, 1) := by decide +kernel
theorem dX9_findStanding_154 : decode cX9_findStanding 154 = .ok (.getfield 38, 3) := by decide +kernel
theorem dX9_findStanding_157 : decode cX9_findStanding 157 = .ok (.iconst 3, 1) := by decide +kernel
theorem dX9_findStanding_158 : decode cX9_findStanding 158 = .ok (.iaload, 1) := by decide +kernel
theorem dX9_findStanding_159 : decode cX9_findStanding 159 = .ok (.aload_n 0, 1) := by decide +kernel
theorem dX9_findStanding_160 : decode cX9_findStanding 160 = .ok (.getfield 65, 3) := by decide +kernel
theorem dX9_findStanding_163 : decode cX9_findStanding 163 = .ok (.iconst 3, 1) := by decide +kernel
theorem dX9_findStanding_164 : decode cX9_findStanding 164 = .ok (.iaload, 1) := by decide +kernel
theorem dX9_findStanding_165 : decode cX9_findStanding 165 = .ok (.if_icmp .ge 39, 3) := by decide +kernel
theorem dX9_findStanding_168 : decode cX9_findStanding 168 = .ok (.aload_n 0, 1) := by decide +kernel
theorem dX9_findStanding_169 : decode cX9_findStanding 169 = .ok (.invokevirtual 251, 3) := by decide +kernel
theorem dX9_findStanding_172 : decode cX9_findStanding 172 = .ok (.ifCond .eq 19, 3) := by decide +kernel
theorem dX9_findStanding_175 : decode cX9_findStanding 175 = .ok (.aload_n 0, 1) := by decide +kernel
theorem dX9_findStanding_176 : decode cX9_findStanding 176 = .ok (.getfield 242, 3) := by decide +kernel
theorem dX9_findStanding_179 : decode cX9_findStanding 179 = .ok (.sipush 300, 3) := by decide +kernel
theorem dX9_findStanding_182 : decode cX9_findStanding 182 = .ok (.if_icmp .ne 5, 3) := by decide +kernel
theorem dX9_findStanding_185 : decode cX9_findStanding 185 = .ok (.iconst (-1), 1) := by decide +kernel
theorem dX9_findStanding_186 : decode cX9_findStanding 186 = .ok (.ireturn, 1) := by decide +kernel
theorem dX9_findStanding_187 : decode cX9_findStanding 187 = .ok (.aload_n 0, 1) := by decide +kernel
theorem dX9_findStanding_188 : decode cX9_findStanding 188 = .ok (.invokevirtual 255, 3) := by decide +kernel
theorem dX9_findStanding_191 : decode cX9_findStanding 191 = .ok (.aload_n 0, 1) := by decide +kernel
theorem dX9_findStanding_192 : decode cX9_findStanding 192 = .ok (.getfield 38, 3) := by decide +kernel
theorem dX9_findStanding_195 : decode cX9_findStanding 195 = .ok (.iconst 3, 1) := by decide +kernel
theorem dX9_findStanding_196 : decode cX9_findStanding 196 = .ok (.dup2, 1) := by decide +kernel
theorem dX9_findStanding_197 : decode cX9_findStanding 197 = .ok (.iaload, 1) := by decide +kernel
theorem dX9_findStanding_198 : decode cX9_findStanding 198 = .ok (.iconst 1, 1) := by decide +kernel
theorem dX9_findStanding_199 : decode cX9_findStanding 199 = .ok (.iadd, 1) := by decide +kernel
theorem dX9_findStanding_200 : decode cX9_findStanding 200 = .ok (.iastore, 1) := by decide +kernel
theorem dX9_findStanding_201 : decode cX9_findStanding 201 = .ok (.goto (-48), 3) := by decide +kernel
theorem dX9_findStanding_204 : decode cX9_findStanding 204 = .ok (.aload_n 0, 1) := by decide +kernel
theorem dX9_findStanding_205 : decode cX9_findStanding 205 = .ok (.getfield 38, 3) := by decide +kernel
theorem dX9_findStanding_208 : decode cX9_findStanding 208 = .ok (.iconst 2, 1) := by decide +kernel
theorem dX9_findStanding_209 : decode cX9_findStanding 209 = .ok (.dup2, 1) := by decide +kernel
theorem dX9_findStanding_210 : decode cX9_findStanding 210 = .ok (.iaload, 1) := by decide +kernel
theorem dX9_findStanding_211 : decode cX9_findStanding 211 = .ok (.iconst 1, 1) := by decide +kernel
theorem dX9_findStanding_212 : decode cX9_findStanding 212 = .ok (.iadd, 1) := by decide +kernel
theorem dX9_findStanding_213 : decode cX9_findStanding 213 = .ok (.iastore, 1) := by decide +kernel
theorem dX9_findStanding_214 : decode cX9_findStanding 214 = .ok (.goto (-83), 3) := by decide +kernel
theorem dX9_findStanding_217 : decode cX9_findStanding 217 = .ok (.aload_n 0, 1) := by decide +kernel
theorem dX9_findStanding_218 : decode cX9_findStanding 218 = .ok (.getfield 38, 3) := by decide +kernel
theorem dX9_findStanding_221 : decode cX9_findStanding 221 = .ok (.iconst 1, 1) := by decide +kernel
theorem dX9_findStanding_222 : decode cX9_findStanding 222 = .ok (.dup2, 1) := by decide +kernel
theorem dX9_findStanding_223 : decode cX9_findStanding 223 = .ok (.iaload, 1) := by decide +kernel
theorem dX9_findStanding_224 : decode cX9_findStanding 224 = .ok (.iconst 1, 1) := by decide +kernel
theorem dX9_findStanding_225 : decode cX9_findStanding 225 = .ok (.iadd, 1) := by decide +kernel
theorem dX9_findStanding_226 : decode cX9_findStanding 226 = .ok (.iastore, 1) := by decide +kernel
theorem dX9_findStanding_227 : decode cX9_findStanding 227 = .ok (.goto (-118), 3) := by decide +kernel
theorem dX9_findStanding_230 : decode cX9_findStanding 230 = .ok (.aload_n 0, 1) := by decide +kernel
theorem dX9_findStanding_231 : decode cX9_findStanding 231 = .ok (.getfield 38, 3) := by decide +kernel
theorem dX9_findStanding_234 : decode cX9_findStanding 234 = .ok (.iconst 0, 1) := by decide +kernel
theorem dX9_findStanding_235 : decode cX9_findStanding 235 = .ok (.dup2, 1) := by decide +kernel
theorem dX9_findStanding_236 : decode cX9_findStanding 236 = .ok (.iaload, 1) := by decide +kernel
theorem dX9_findStanding_237 : decode cX9_findStanding 237 = .ok (.iconst 1, 1) := by decide +kernel
theorem dX9_findStanding_238 : decode cX9_findStanding 238 = .ok (.iadd, 1) := by decide +kernel
theorem dX9_findStanding_239 : decode cX9_findStanding 239 = .ok (.iastore, 1) := by decide +kernel
theorem dX9_findStanding_240 : decode cX9_findStanding 240 = .ok (.goto (-153), 3) := by decide +kernel
theorem dX9_findStanding_243 : decode cX9_findStanding 243 = .ok (.aload_n 0, 1) := by decide +kernel
theorem dX9_findStanding_244 : decode cX9_findStanding 244 = .ok (.getfield 242, 3) := by decide +kernel
theorem dX9_findStanding_247 : decode cX9_findStanding 247 = .ok (.ireturn, 1) := by decide +kernel
theorem dX9_layStanding_0 : decode cX9_layStanding 0 = .ok (.aload_n 0, 1) := by decide +kernel
theorem dX9_layStanding_1 : decode cX9_layStanding 1 = .ok (.getfield 242, 3) := by decide +kernel
theorem dX9_layStanding_4 : decode cX9_layStanding 4 = .ok (.istore_n 1, 1) := by decide +kernel
theorem dX9_layStanding_5 : decode cX9_layStanding 5 = .ok (.iload_n 1, 1) := by decide +kernel
theorem dX9_layStanding_6 : decode cX9_layStanding 6 = .ok (.ifCond .le 65, 3) := by decide +kernel
theorem dX9_layStanding_9 : decode cX9_layStanding 9 = .ok (.aload_n 0, 1) := by decide +kernel
theorem dX9_layStanding_10 : decode cX9_layStanding 10 = .ok (.aload_n 0, 1) := by decide +kernel
theorem dX9_layStanding_11 : decode cX9_layStanding 11 = .ok (.getfield 62, 3) := by decide +kernel
theorem dX9_layStanding_14 : decode cX9_layStanding 14 = .ok (.iconst 4, 1) := by decide +kernel
theorem dX9_layStanding_15 : decode cX9_layStanding 15 = .ok (.iload_n 1, 1) := by decide +kernel
theorem dX9_layStanding_16 : decode cX9_layStanding 16 = .ok (.imul, 1) := by decide +kernel
theorem dX9_layStanding_17 : decode cX9_layStanding 17 = .ok (.iconst 4, 1) := by decide +kernel
theorem dX9_layStanding_18 : decode cX9_layStanding 18 = .ok (.isub, 1) := by decide +kernel
theorem dX9_layStanding_19 : decode cX9_layStanding 19 = .ok (.aload_n 0, 1) := by decide +kernel
theorem dX9_layStanding_20 : decode cX9_layStanding 20 = .ok (.getfield 38, 3) := by decide +kernel
theorem dX9_layStanding_23 : decode cX9_layStanding 23 = .ok (.iconst 0, 1) := by decide +kernel
theorem dX9_layStanding_24 : decode cX9_layStanding 24 = .ok (.invokevirtual 93, 3) := by decide +kernel
theorem dX9_layStanding_27 : decode cX9_layStanding 27 = .ok (.ifCond .le 44, 3) := by decide +kernel
theorem dX9_layStanding_30 : decode cX9_layStanding 30 = .ok (.iconst 0, 1) := by decide +kernel
theorem dX9_layStanding_31 : decode cX9_layStanding 31 = .ok (.istore_n 2, 1) := by decide +kernel
theorem dX9_layStanding_32 : decode cX9_layStanding 32 = .ok (.iload_n 2, 1) := by decide +kernel
theorem dX9_layStanding_33 : decode cX9_layStanding 33 = .ok (.iconst 4, 1) := by decide +kernel
theorem dX9_layStanding_34 : decode cX9_layStanding 34 = .ok (.if_icmp .ge 31, 3) := by decide +kernel
theorem dX9_layStanding_37 : decode cX9_layStanding 37 = .ok (.aload_n 0, 1) := by decide +kernel
theorem dX9_layStanding_38 : decode cX9_layStanding 38 = .ok (.getfield 62, 3) := by decide +kernel
theorem dX9_layStanding_41 : decode cX9_layStanding 41 = .ok (.iconst 4, 1) := by decide +kernel
theorem dX9_layStanding_42 : decode cX9_layStanding 42 = .ok (.iload_n 1, 1) := by decide +kernel
theorem dX9_layStanding_43 : decode cX9_layStanding 43 = .ok (.imul, 1) := by decide +kernel
theorem dX9_layStanding_44 : decode cX9_layStanding 44 = .ok (.iload_n 2, 1) := by decide +kernel
theorem dX9_layStanding_45 : decode cX9_layStanding 45 = .ok (.iadd, 1) := by decide +kernel
theorem dX9_layStanding_46 : decode cX9_layStanding 46 = .ok (.aload_n 0, 1) := by decide +kernel
theorem dX9_layStanding_47 : decode cX9_layStanding 47 = .ok (.getfield 62, 3) := by decide +kernel
theorem dX9_layStanding_50 : decode cX9_layStanding 50 = .ok (.iconst 4, 1) := by decide +kernel
theorem dX9_layStanding_51 : decode cX9_layStanding 51 = .ok (.iload_n 1, 1) := by decide +kernel
theorem dX9_layStanding_52 : decode cX9_layStanding 52 = .ok (.imul, 1) := by decide +kernel
theorem dX9_layStanding_53 : decode cX9_layStanding 53 = .ok (.iconst 4, 1) := by decide +kernel
theorem dX9_layStanding_54 : decode cX9_layStanding 54 = .ok (.isub, 1) := by decide +kernel
theorem dX9_layStanding_55 : decode cX9_layStanding 55 = .ok (.iload_n 2, 1) := by decide +kernel
theorem dX9_layStanding_56 : decode cX9_layStanding 56 = .ok (.iadd, 1) := by decide +kernel
theorem dX9_layStanding_57 : decode cX9_layStanding 57 = .ok (.iaload, 1) := by decide +kernel
theorem dX9_layStanding_58 : decode cX9_layStanding 58 = .ok (.iastore, 1) := by decide +kernel
theorem dX9_layStanding_59 : decode cX9_layStanding 59 = .ok (.iinc 2 1, 3) := by decide +kernel
theorem dX9_layStanding_62 : decode cX9_layStanding 62 = .ok (.goto (-30), 3) := by decide +kernel
theorem dX9_layStanding_65 : decode cX9_layStanding 65 = .ok (.iinc 1 (-1), 3) := by decide +kernel
theorem dX9_layStanding_68 : decode cX9_layStanding 68 = .ok (.goto (-63), 3) := by decide +kernel
theorem dX9_layStanding_71 : decode cX9_layStanding 71 = .ok (.iconst 0, 1) := by decide +kernel
theorem dX9_layStanding_72 : decode cX9_layStanding 72 = .ok (.istore_n 2, 1) := by decide +kernel
theorem dX9_layStanding_73 : decode cX9_layStanding 73 = .ok (.iload_n 2, 1) := by decide +kernel
theorem dX9_layStanding_74 : decode cX9_layStanding 74 = .ok (.iconst 4, 1) := by decide +kernel
theorem dX9_layStanding_75 : decode cX9_layStanding 75 = .ok (.if_icmp .ge 25, 3) := by decide +kernel
theorem dX9_layStanding_78 : decode cX9_layStanding 78 = .ok (.aload_n 0, 1) := by decide +kernel
theorem dX9_layStanding_79 : decode cX9_layStanding 79 = .ok (.getfield 62, 3) := by decide +kernel
theorem dX9_layStanding_82 : decode cX9_layStanding 82 = .ok (.iconst 4, 1) := by decide +kernel
theorem dX9_layStanding_83 : decode cX9_layStanding 83 = .ok (.iload_n 1, 1) := by decide +kernel
theorem dX9_layStanding_84 : decode cX9_layStanding 84 = .ok (.imul, 1) := by decide +kernel
theorem dX9_layStanding_85 : decode cX9_layStanding 85 = .ok (.iload_n 2, 1) := by decide +kernel
theorem dX9_layStanding_86 : decode cX9_layStanding 86 = .ok (.iadd, 1) := by decide +kernel
theorem dX9_layStanding_87 : decode cX9_layStanding 87 = .ok (.aload_n 0, 1) := by decide +kernel
theorem dX9_layStanding_88 : decode cX9_layStanding 88 = .ok (.getfield 38, 3) := by decide +kernel
theorem dX9_layStanding_91 : decode cX9_layStanding 91 = .ok (.iload_n 2, 1) := by decide +kernel
theorem dX9_layStanding_92 : decode cX9_layStanding 92 = .ok (.iaload, 1) := by decide +kernel
theorem dX9_layStanding_93 : decode cX9_layStanding 93 = .ok (.iastore, 1) := by decide +kernel
theorem dX9_layStanding_94 : decode cX9_layStanding 94 = .ok (.iinc 2 1, 3) := by decide +kernel
theorem dX9_layStanding_97 : decode cX9_layStanding 97 = .ok (.goto (-24), 3) := by decide +kernel
theorem dX9_layStanding_100 : decode cX9_layStanding 100 = .ok (.aload_n 0, 1) := by decide +kernel
theorem dX9_layStanding_101 : decode cX9_layStanding 101 = .ok (.dup, 1) := by decide +kernel
theorem dX9_layStanding_102 : decode cX9_layStanding 102 = .ok (.getfield 242, 3) := by decide +kernel
theorem dX9_layStanding_105 : decode cX9_layStanding 105 = .ok (.iconst 1, 1) := by decide +kernel
theorem dX9_layStanding_106 : decode cX9_layStanding 106 = .ok (.iadd, 1) := by decide +kernel
theorem dX9_layStanding_107 : decode cX9_layStanding 107 = .ok (.putfield 242, 3) := by decide +kernel
theorem dX9_layStanding_110 : decode cX9_layStanding 110 = .ok (.return_, 1) := by decide +kernel
theorem dX9_standing_0 : decode cX9_standing 0 = .ok (.aload_n 0, 1) := by decide +kernel
theorem dX9_standing_1 : decode cX9_standing 1 = .ok (.getfield 187, 3) := by decide +kernel
theorem dX9_standing_4 : decode cX9_standing 4 = .ok (.ifCond .eq 10, 3) := by decide +kernel
theorem dX9_standing_7 : decode cX9_standing 7 = .ok (.aload_n 0, 1) := by decide +kernel
theorem dX9_standing_8 : decode cX9_standing 8 = .ok (.invokevirtual 258, 3) := by decide +kernel
theorem dX9_standing_11 : decode cX9_standing 11 = .ok (.goto 5, 3) := by decide +kernel
theorem dX9_standing_14 : decode cX9_standing 14 = .ok (.bipush (-3), 2) := by decide +kernel
theorem dX9_standing_16 : decode cX9_standing 16 = .ok (.ireturn, 1) := by decide +kernel
theorem dX9_stands_0 : decode cX9_stands 0 = .ok (.aload_n 0, 1) := by decide +kernel
theorem dX9_stands_1 : decode cX9_stands 1 = .ok (.getfield 187, 3) := by decide +kernel
theorem dX9_stands_4 : decode cX9_stands 4 = .ok (.ifCond .ne 6, 3) := by decide +kernel
theorem dX9_stands_7 : decode cX9_stands 7 = .ok (.bipush (-3), 2) := by decide +kernel
theorem dX9_stands_9 : decode cX9_stands 9 = .ok (.ireturn, 1) := by decide +kernel
theorem dX9_stands_10 : decode cX9_stands 10 = .ok (.aload_n 0, 1) := by decide +kernel
theorem dX9_stands_11 : decode cX9_stands 11 = .ok (.invokevirtual 258, 3) := by decide +kernel
theorem dX9_stands_14 : decode cX9_stands 14 = .ok (.istore_n 3, 1) := by decide +kernel
theorem dX9_stands_15 : decode cX9_stands 15 = .ok (.iload_n 1, 1) := by decide +kernel
theorem dX9_stands_16 : decode cX9_stands 16 = .ok (.iconst 0, 1) := by decide +kernel
theorem dX9_stands_17 : decode cX9_stands 17 = .ok (.iload_n 3, 1) := by decide +kernel
theorem dX9_stands_18 : decode cX9_stands 18 = .ok (.iconst 1, 1) := by decide +kernel
theorem dX9_stands_19 : decode cX9_stands 19 = .ok (.isub, 1) := by decide +kernel
theorem dX9_stands_20 : decode cX9_stands 20 = .ok (.invokestatic 78, 3) := by decide +kernel
theorem dX9_stands_23 : decode cX9_stands 23 = .ok (.ifCond .eq 30, 3) := by decide +kernel
theorem dX9_stands_26 : decode cX9_stands 26 = .ok (.iload_n 2, 1) := by decide +kernel
theorem dX9_stands_27 : decode cX9_stands 27 = .ok (.iconst 0, 1) := by decide +kernel
theorem dX9_stands_28 : decode cX9_stands 28 = .ok (.aload_n 0, 1) := by decide +kernel
theorem dX9_stands_29 : decode cX9_stands 29 = .ok (.getfield 75, 3) := by decide +kernel
theorem dX9_stands_32 : decode cX9_stands 32 = .ok (.iconst 1, 1) := by decide +kernel
theorem dX9_stands_33 : decode cX9_stands 33 = .ok (.isub, 1) := by decide +kernel
theorem dX9_stands_34 : decode cX9_stands 34 = .ok (.invokestatic 78, 3) := by decide +kernel
theorem dX9_stands_37 : decode cX9_stands 37 = .ok (.ifCond .eq 16, 3) := by decide +kernel
theorem dX9_stands_40 : decode cX9_stands 40 = .ok (.aload_n 0, 1) := by decide +kernel
theorem dX9_stands_41 : decode cX9_stands 41 = .ok (.getfield 62, 3) := by decide +kernel
theorem dX9_stands_44 : decode cX9_stands 44 = .ok (.iconst 4, 1) := by decide +kernel
theorem dX9_stands_45 : decode cX9_stands 45 = .ok (.iload_n 1, 1) := by decide +kernel
theorem dX9_stands_46 : decode cX9_stands 46 = .ok (.imul, 1) := by decide +kernel
theorem dX9_stands_47 : decode cX9_stands 47 = .ok (.iload_n 2, 1) := by decide +kernel
theorem dX9_stands_48 : decode cX9_stands 48 = .ok (.iadd, 1) := by decide +kernel
theorem dX9_stands_49 : decode cX9_stands 49 = .ok (.iaload, 1) := by decide +kernel
theorem dX9_stands_50 : decode cX9_stands 50 = .ok (.goto 5, 3) := by decide +kernel
theorem dX9_stands_53 : decode cX9_stands 53 = .ok (.bipush (-2), 2) := by decide +kernel
theorem dX9_stands_55 : decode cX9_stands 55 = .ok (.ireturn, 1) := by decide +kernel
theorem dX9_without_0 : decode cX9_without 0 = .ok (.iload_n 1, 1) := by decide +kernel
theorem dX9_without_1 : decode cX9_without 1 = .ok (.iconst 0, 1) := by decide +kernel
theorem dX9_without_2 : decode cX9_without 2 = .ok (.aload_n 0, 1) := by decide +kernel
theorem dX9_without_3 : decode cX9_without 3 = .ok (.getfield 75, 3) := by decide +kernel
theorem dX9_without_6 : decode cX9_without 6 = .ok (.invokestatic 78, 3) := by decide +kernel
theorem dX9_without_9 : decode cX9_without 9 = .ok (.ifCond .ne 6, 3) := by decide +kernel
theorem dX9_without_12 : decode cX9_without 12 = .ok (.bipush (-2), 2) := by decide +kernel
theorem dX9_without_14 : decode cX9_without 14 = .ok (.ireturn, 1) := by decide +kernel
theorem dX9_without_15 : decode cX9_without 15 = .ok (.aload_n 0, 1) := by decide +kernel
theorem dX9_without_16 : decode cX9_without 16 = .ok (.getfield 187, 3) := by decide +kernel
theorem dX9_without_19 : decode cX9_without 19 = .ok (.ifCond .ne 6, 3) := by decide +kernel
theorem dX9_without_22 : decode cX9_without 22 = .ok (.bipush (-3), 2) := by decide +kernel
theorem dX9_without_24 : decode cX9_without 24 = .ok (.ireturn, 1) := by decide +kernel
theorem dX9_without_25 : decode cX9_without 25 = .ok (.iconst 0, 1) := by decide +kernel
theorem dX9_without_26 : decode cX9_without 26 = .ok (.istore_n 2, 1) := by decide +kernel
theorem dX9_without_27 : decode cX9_without 27 = .ok (.iconst 0, 1) := by decide +kernel
theorem dX9_without_28 : decode cX9_without 28 = .ok (.istore_n 3, 1) := by decide +kernel
theorem dX9_without_29 : decode cX9_without 29 = .ok (.iload_n 3, 1) := by decide +kernel
theorem dX9_without_30 : decode cX9_without 30 = .ok (.aload_n 0, 1) := by decide +kernel
theorem dX9_without_31 : decode cX9_without 31 = .ok (.getfield 107, 3) := by decide +kernel
theorem dX9_without_34 : decode cX9_without 34 = .ok (.if_icmp .ge 89, 3) := by decide +kernel
theorem dX9_without_37 : decode cX9_without 37 = .ok (.iconst 0, 1) := by decide +kernel
theorem dX9_without_38 : decode cX9_without 38 = .ok (.istore 4, 2) := by decide +kernel
theorem dX9_without_40 : decode cX9_without 40 = .ok (.iconst 0, 1) := by decide +kernel
theorem dX9_without_41 : decode cX9_without 41 = .ok (.istore 5, 2) := by decide +kernel
theorem dX9_without_43 : decode cX9_without 43 = .ok (.iload 5, 2) := by decide +kernel
theorem dX9_without_45 : decode cX9_without 45 = .ok (.aload_n 0, 1) := by decide +kernel
theorem dX9_without_46 : decode cX9_without 46 = .ok (.getfield 13, 3) := by decide +kernel
theorem dX9_without_49 : decode cX9_without 49 = .ok (.bipush 25, 2) := by decide +kernel
theorem dX9_without_51 : decode cX9_without 51 = .ok (.iload_n 3, 1) := by decide +kernel
theorem dX9_without_52 : decode cX9_without 52 = .ok (.iadd, 1) := by decide +kernel
theorem dX9_without_53 : decode cX9_without 53 = .ok (.iaload, 1) := by decide +kernel
theorem dX9_without_54 : decode cX9_without 54 = .ok (.if_icmp .ge 50, 3) := by decide +kernel
theorem dX9_without_57 : decode cX9_without 57 = .ok (.iconst 0, 1) := by decide +kernel
theorem dX9_without_58 : decode cX9_without 58 = .ok (.istore 6, 2) := by decide +kernel
theorem dX9_without_60 : decode cX9_without 60 = .ok (.iload 6, 2) := by decide +kernel
theorem dX9_without_62 : decode cX9_without 62 = .ok (.iload_n 1, 1) := by decide +kernel
theorem dX9_without_63 : decode cX9_without 63 = .ok (.if_icmp .ge 35, 3) := by decide +kernel
theorem dX9_without_66 : decode cX9_without 66 = .ok (.iload 4, 2) := by decide +kernel
theorem dX9_without_68 : decode cX9_without 68 = .ok (.aload_n 0, 1) := by decide +kernel
theorem dX9_without_69 : decode cX9_without 69 = .ok (.getfield 20, 3) := by decide +kernel
theorem dX9_without_72 : decode cX9_without 72 = .ok (.sipush 160, 3) := by decide +kernel
theorem dX9_without_75 : decode cX9_without 75 = .ok (.bipush 25, 2) := by decide +kernel
theorem dX9_without_77 : decode cX9_without 77 = .ok (.iload_n 3, 1) := by decide +kernel
theorem dX9_without_78 : decode cX9_without 78 = .ok (.iadd, 1) := by decide +kernel
theorem dX9_without_79 : decode cX9_without 79 = .ok (.imul, 1) := by decide +kernel
theorem dX9_without_80 : decode cX9_without 80 = .ok (.iconst 4, 1) := by decide +kernel
theorem dX9_without_81 : decode cX9_without 81 = .ok (.iload 5, 2) := by decide +kernel
theorem dX9_without_83 : decode cX9_without 83 = .ok (.imul, 1) := by decide +kernel
theorem dX9_without_84 : decode cX9_without 84 = .ok (.iadd, 1) := by decide +kernel
theorem dX9_without_85 : decode cX9_without 85 = .ok (.iload 6, 2) := by decide +kernel
theorem dX9_without_87 : decode cX9_without 87 = .ok (.iadd, 1) := by decide +kernel
theorem dX9_without_88 : decode cX9_without 88 = .ok (.iaload, 1) := by decide +kernel
theorem dX9_without_89 : decode cX9_without 89 = .ok (.iadd, 1) := by decide +kernel
theorem dX9_without_90 : decode cX9_without 90 = .ok (.istore 4, 2) := by decide +kernel
theorem dX9_without_92 : decode cX9_without 92 = .ok (.iinc 6 1, 3) := by decide +kernel
theorem dX9_without_95 : decode cX9_without 95 = .ok (.goto (-35), 3) := by decide +kernel
theorem dX9_without_98 : decode cX9_without 98 = .ok (.iinc 5 1, 3) := by decide +kernel
theorem dX9_without_101 : decode cX9_without 101 = .ok (.goto (-58), 3) := by decide +kernel
theorem dX9_without_104 : decode cX9_without 104 = .ok (.iload_n 2, 1) := by decide +kernel
theorem dX9_without_105 : decode cX9_without 105 = .ok (.iload 4, 2) := by decide +kernel
theorem dX9_without_107 : decode cX9_without 107 = .ok (.ifCond .ne 7, 3) := by decide +kernel
theorem dX9_without_110 : decode cX9_without 110 = .ok (.iconst 1, 1) := by decide +kernel
theorem dX9_without_111 : decode cX9_without 111 = .ok (.goto 4, 3) := by decide +kernel
theorem dX9_without_114 : decode cX9_without 114 = .ok (.iconst 0, 1) := by decide +kernel
theorem dX9_without_115 : decode cX9_without 115 = .ok (.iadd, 1) := by decide +kernel
theorem dX9_without_116 : decode cX9_without 116 = .ok (.istore_n 2, 1) := by decide +kernel
theorem dX9_without_117 : decode cX9_without 117 = .ok (.iinc 3 1, 3) := by decide +kernel
theorem dX9_without_120 : decode cX9_without 120 = .ok (.goto (-91), 3) := by decide +kernel
theorem dX9_without_123 : decode cX9_without 123 = .ok (.iload_n 2, 1) := by decide +kernel
theorem dX9_without_124 : decode cX9_without 124 = .ok (.ireturn, 1) := by decide +kernel
theorem dX9_zeros_0 : decode cX9_zeros 0 = .ok (.iconst 1, 1) := by decide +kernel
theorem dX9_zeros_1 : decode cX9_zeros 1 = .ok (.istore_n 1, 1) := by decide +kernel
theorem dX9_zeros_2 : decode cX9_zeros 2 = .ok (.iconst 0, 1) := by decide +kernel
theorem dX9_zeros_3 : decode cX9_zeros 3 = .ok (.istore_n 2, 1) := by decide +kernel
theorem dX9_zeros_4 : decode cX9_zeros 4 = .ok (.iload_n 2, 1) := by decide +kernel
theorem dX9_zeros_5 : decode cX9_zeros 5 = .ok (.aload_n 0, 1) := by decide +kernel
theorem dX9_zeros_6 : decode cX9_zeros 6 = .ok (.getfield 75, 3) := by decide +kernel
theorem dX9_zeros_9 : decode cX9_zeros 9 = .ok (.if_icmp .ge 27, 3) := by decide +kernel
theorem dX9_zeros_12 : decode cX9_zeros 12 = .ok (.iload_n 1, 1) := by decide +kernel
theorem dX9_zeros_13 : decode cX9_zeros 13 = .ok (.sipush 2500, 3) := by decide +kernel
theorem dX9_zeros_16 : decode cX9_zeros 16 = .ok (.if_icmp .le 7, 3) := by decide +kernel
theorem dX9_zeros_19 : decode cX9_zeros 19 = .ok (.iload_n 1, 1) := by decide +kernel
theorem dX9_zeros_20 : decode cX9_zeros 20 = .ok (.goto 9, 3) := by decide +kernel
theorem dX9_zeros_23 : decode cX9_zeros 23 = .ok (.iload_n 1, 1) := by decide +kernel
theorem dX9_zeros_24 : decode cX9_zeros 24 = .ok (.aload_n 0, 1) := by decide +kernel
theorem dX9_zeros_25 : decode cX9_zeros 25 = .ok (.getfield 72, 3) := by decide +kernel
theorem dX9_zeros_28 : decode cX9_zeros 28 = .ok (.imul, 1) := by decide +kernel
theorem dX9_zeros_29 : decode cX9_zeros 29 = .ok (.istore_n 1, 1) := by decide +kernel
theorem dX9_zeros_30 : decode cX9_zeros 30 = .ok (.iinc 2 1, 3) := by decide +kernel
theorem dX9_zeros_33 : decode cX9_zeros 33 = .ok (.goto (-29), 3) := by decide +kernel
theorem dX9_zeros_36 : decode cX9_zeros 36 = .ok (.iload_n 1, 1) := by decide +kernel
theorem dX9_zeros_37 : decode cX9_zeros 37 = .ok (.sipush 2500, 3) := by decide +kernel
theorem dX9_zeros_40 : decode cX9_zeros 40 = .ok (.if_icmp .le 6, 3) := by decide +kernel
theorem dX9_zeros_43 : decode cX9_zeros 43 = .ok (.bipush (-3), 2) := by decide +kernel
theorem dX9_zeros_45 : decode cX9_zeros 45 = .ok (.ireturn, 1) := by decide +kernel
theorem dX9_zeros_46 : decode cX9_zeros 46 = .ok (.iconst 0, 1) := by decide +kernel
theorem dX9_zeros_47 : decode cX9_zeros 47 = .ok (.istore_n 2, 1) := by decide +kernel
theorem dX9_zeros_48 : decode cX9_zeros 48 = .ok (.iconst 0, 1) := by decide +kernel
theorem dX9_zeros_49 : decode cX9_zeros 49 = .ok (.istore_n 3, 1) := by decide +kernel
theorem dX9_zeros_50 : decode cX9_zeros 50 = .ok (.iload_n 3, 1) := by decide +kernel
theorem dX9_zeros_51 : decode cX9_zeros 51 = .ok (.iload_n 1, 1) := by decide +kernel
theorem dX9_zeros_52 : decode cX9_zeros 52 = .ok (.if_icmp .ge 108, 3) := by decide +kernel
theorem dX9_zeros_55 : decode cX9_zeros 55 = .ok (.iload_n 3, 1) := by decide +kernel
theorem dX9_zeros_56 : decode cX9_zeros 56 = .ok (.istore 4, 2) := by decide +kernel
theorem dX9_zeros_58 : decode cX9_zeros 58 = .ok (.iconst 0, 1) := by decide +kernel
theorem dX9_zeros_59 : decode cX9_zeros 59 = .ok (.istore 5, 2) := by decide +kernel
theorem dX9_zeros_61 : decode cX9_zeros 61 = .ok (.iload 5, 2) := by decide +kernel
theorem dX9_zeros_63 : decode cX9_zeros 63 = .ok (.iconst 4, 1) := by decide +kernel
theorem dX9_zeros_64 : decode cX9_zeros 64 = .ok (.if_icmp .ge 32, 3) := by decide +kernel
theorem dX9_zeros_67 : decode cX9_zeros 67 = .ok (.aload_n 0, 1) := by decide +kernel
theorem dX9_zeros_68 : decode cX9_zeros 68 = .ok (.getfield 47, 3) := by decide +kernel
theorem dX9_zeros_71 : decode cX9_zeros 71 = .ok (.iload 5, 2) := by decide +kernel
theorem dX9_zeros_73 : decode cX9_zeros 73 = .ok (.iload 4, 2) := by decide +kernel
theorem dX9_zeros_75 : decode cX9_zeros 75 = .ok (.aload_n 0, 1) := by decide +kernel
theorem dX9_zeros_76 : decode cX9_zeros 76 = .ok (.getfield 72, 3) := by decide +kernel
theorem dX9_zeros_79 : decode cX9_zeros 79 = .ok (.irem, 1) := by decide +kernel
theorem dX9_zeros_80 : decode cX9_zeros 80 = .ok (.iastore, 1) := by decide +kernel
theorem dX9_zeros_81 : decode cX9_zeros 81 = .ok (.iload 4, 2) := by decide +kernel
theorem dX9_zeros_83 : decode cX9_zeros 83 = .ok (.aload_n 0, 1) := by decide +kernel
theorem dX9_zeros_84 : decode cX9_zeros 84 = .ok (.getfield 72, 3) := by decide +kernel
theorem dX9_zeros_87 : decode cX9_zeros 87 = .ok (.idiv, 1) := by decide +kernel
theorem dX9_zeros_88 : decode cX9_zeros 88 = .ok (.istore 4, 2) := by decide +kernel
theorem dX9_zeros_90 : decode cX9_zeros 90 = .ok (.iinc 5 1, 3) := by decide +kernel
theorem dX9_zeros_93 : decode cX9_zeros 93 = .ok (.goto (-32), 3) := by decide +kernel
theorem dX9_zeros_96 : decode cX9_zeros 96 = .ok (.iconst 1, 1) := by decide +kernel
theorem dX9_zeros_97 : decode cX9_zeros 97 = .ok (.istore 5, 2) := by decide +kernel
theorem dX9_zeros_99 : decode cX9_zeros 99 = .ok (.iconst 0, 1) := by decide +kernel
theorem dX9_zeros_100 : decode cX9_zeros 100 = .ok (.istore 6, 2) := by decide +kernel
theorem dX9_zeros_102 : decode cX9_zeros 102 = .ok (.iload 6, 2) := by decide +kernel
theorem dX9_zeros_104 : decode cX9_zeros 104 = .ok (.aload_n 0, 1) := by decide +kernel
theorem dX9_zeros_105 : decode cX9_zeros 105 = .ok (.getfield 107, 3) := by decide +kernel
theorem dX9_zeros_108 : decode cX9_zeros 108 = .ok (.if_icmp .ge 33, 3) := by decide +kernel
theorem dX9_zeros_111 : decode cX9_zeros 111 = .ok (.iload 5, 2) := by decide +kernel
theorem dX9_zeros_113 : decode cX9_zeros 113 = .ok (.ifCond .eq 28, 3) := by decide +kernel
theorem dX9_zeros_116 : decode cX9_zeros 116 = .ok (.aload_n 0, 1) := by decide +kernel
theorem dX9_zeros_117 : decode cX9_zeros 117 = .ok (.bipush 25, 2) := by decide +kernel
theorem dX9_zeros_119 : decode cX9_zeros 119 = .ok (.iload 6, 2) := by decide +kernel
theorem dX9_zeros_121 : decode cX9_zeros 121 = .ok (.iadd, 1) := by decide +kernel
theorem dX9_zeros_122 : decode cX9_zeros 122 = .ok (.invokevirtual 148, 3) := by decide +kernel
theorem dX9_zeros_125 : decode cX9_zeros 125 = .ok (.ifCond .ne 7, 3) := by decide +kernel
theorem dX9_zeros_128 : decode cX9_zeros 128 = .ok (.iconst 1, 1) := by decide +kernel
theorem dX9_zeros_129 : decode cX9_zeros 129 = .ok (.goto 4, 3) := by decide +kernel
theorem dX9_zeros_132 : decode cX9_zeros 132 = .ok (.iconst 0, 1) := by decide +kernel
theorem dX9_zeros_133 : decode cX9_zeros 133 = .ok (.istore 5, 2) := by decide +kernel
theorem dX9_zeros_135 : decode cX9_zeros 135 = .ok (.iinc 6 1, 3) := by decide +kernel
theorem dX9_zeros_138 : decode cX9_zeros 138 = .ok (.goto (-36), 3) := by decide +kernel
theorem dX9_zeros_141 : decode cX9_zeros 141 = .ok (.iload_n 2, 1) := by decide +kernel
theorem dX9_zeros_142 : decode cX9_zeros 142 = .ok (.iload 5, 2) := by decide +kernel
theorem dX9_zeros_144 : decode cX9_zeros 144 = .ok (.ifCond .eq 7, 3) := by decide +kernel
theorem dX9_zeros_147 : decode cX9_zeros 147 = .ok (.iconst 1, 1) := by decide +kernel
theorem dX9_zeros_148 : decode cX9_zeros 148 = .ok (.goto 4, 3) := by decide +kernel
theorem dX9_zeros_151 : decode cX9_zeros 151 = .ok (.iconst 0, 1) := by decide +kernel
theorem dX9_zeros_152 : decode cX9_zeros 152 = .ok (.iadd, 1) := by decide +kernel
theorem dX9_zeros_153 : decode cX9_zeros 153 = .ok (.istore_n 2, 1) := by decide +kernel
theorem dX9_zeros_154 : decode cX9_zeros 154 = .ok (.iinc 3 1, 3) := by decide +kernel
theorem dX9_zeros_157 : decode cX9_zeros 157 = .ok (.goto (-107), 3) := by decide +kernel
theorem dX9_zeros_160 : decode cX9_zeros 160 = .ok (.iload_n 2, 1) := by decide +kernel
theorem dX9_zeros_161 : decode cX9_zeros 161 = .ok (.ireturn, 1) := by decide +kernel
theorem dX9_count_0 : decode cX9_count 0 = .ok (.iload_n 1, 1) := by decide +kernel
theorem dX9_count_1 : decode cX9_count 1 = .ok (.tableswitch 162 0 11 #[63, 68, 73, 78, 83, 88, 93, 98, 103, 108, 121, 157], 63) := by decide +kernel
theorem dX9_count_64 : decode cX9_count 64 = .ok (.aload_n 0, 1) := by decide +kernel
theorem dX9_count_65 : decode cX9_count 65 = .ok (.getfield 72, 3) := by decide +kernel
theorem dX9_count_68 : decode cX9_count 68 = .ok (.ireturn, 1) := by decide +kernel
theorem dX9_count_69 : decode cX9_count 69 = .ok (.aload_n 0, 1) := by decide +kernel
theorem dX9_count_70 : decode cX9_count 70 = .ok (.getfield 75, 3) := by decide +kernel
theorem dX9_count_73 : decode cX9_count 73 = .ok (.ireturn, 1) := by decide +kernel
theorem dX9_count_74 : decode cX9_count 74 = .ok (.aload_n 0, 1) := by decide +kernel
theorem dX9_count_75 : decode cX9_count 75 = .ok (.getfield 107, 3) := by decide +kernel
theorem dX9_count_78 : decode cX9_count 78 = .ok (.ireturn, 1) := by decide +kernel
theorem dX9_count_79 : decode cX9_count 79 = .ok (.aload_n 0, 1) := by decide +kernel
theorem dX9_count_80 : decode cX9_count 80 = .ok (.getfield 181, 3) := by decide +kernel
theorem dX9_count_83 : decode cX9_count 83 = .ok (.ireturn, 1) := by decide +kernel
theorem dX9_count_84 : decode cX9_count 84 = .ok (.aload_n 0, 1) := by decide +kernel
theorem dX9_count_85 : decode cX9_count 85 = .ok (.getfield 197, 3) := by decide +kernel
theorem dX9_count_88 : decode cX9_count 88 = .ok (.ireturn, 1) := by decide +kernel
theorem dX9_count_89 : decode cX9_count 89 = .ok (.aload_n 0, 1) := by decide +kernel
theorem dX9_count_90 : decode cX9_count 90 = .ok (.getfield 206, 3) := by decide +kernel
theorem dX9_count_93 : decode cX9_count 93 = .ok (.ireturn, 1) := by decide +kernel
theorem dX9_count_94 : decode cX9_count 94 = .ok (.aload_n 0, 1) := by decide +kernel
theorem dX9_count_95 : decode cX9_count 95 = .ok (.getfield 215, 3) := by decide +kernel
theorem dX9_count_98 : decode cX9_count 98 = .ok (.ireturn, 1) := by decide +kernel
theorem dX9_count_99 : decode cX9_count 99 = .ok (.aload_n 0, 1) := by decide +kernel
theorem dX9_count_100 : decode cX9_count 100 = .ok (.getfield 218, 3) := by decide +kernel
theorem dX9_count_103 : decode cX9_count 103 = .ok (.ireturn, 1) := by decide +kernel
theorem dX9_count_104 : decode cX9_count 104 = .ok (.aload_n 0, 1) := by decide +kernel
theorem dX9_count_105 : decode cX9_count 105 = .ok (.getfield 161, 3) := by decide +kernel
theorem dX9_count_108 : decode cX9_count 108 = .ok (.ireturn, 1) := by decide +kernel
theorem dX9_count_109 : decode cX9_count 109 = .ok (.aload_n 0, 1) := by decide +kernel
theorem dX9_count_110 : decode cX9_count 110 = .ok (.getfield 187, 3) := by decide +kernel
theorem dX9_count_113 : decode cX9_count 113 = .ok (.ifCond .eq 7, 3) := by decide +kernel
theorem dX9_count_116 : decode cX9_count 116 = .ok (.iconst 1, 1) := by decide +kernel
theorem dX9_count_117 : decode cX9_count 117 = .ok (.goto 4, 3) := by decide +kernel
theorem dX9_count_120 : decode cX9_count 120 = .ok (.iconst 0, 1) := by decide +kernel
theorem dX9_count_121 : decode cX9_count 121 = .ok (.ireturn, 1) := by decide +kernel
theorem dX9_count_122 : decode cX9_count 122 = .ok (.iconst 0, 1) := by decide +kernel
theorem dX9_count_123 : decode cX9_count 123 = .ok (.istore_n 2, 1) := by decide +kernel
theorem dX9_count_124 : decode cX9_count 124 = .ok (.iconst 1, 1) := by decide +kernel
theorem dX9_count_125 : decode cX9_count 125 = .ok (.istore_n 3, 1) := by decide +kernel
theorem dX9_count_126 : decode cX9_count 126 = .ok (.iload_n 3, 1) := by decide +kernel
theorem dX9_count_127 : decode cX9_count 127 = .ok (.bipush 25, 2) := by decide +kernel
theorem dX9_count_129 : decode cX9_count 129 = .ok (.if_icmp .ge 27, 3) := by decide +kernel
theorem dX9_count_132 : decode cX9_count 132 = .ok (.iload_n 2, 1) := by decide +kernel
theorem dX9_count_133 : decode cX9_count 133 = .ok (.aload_n 0, 1) := by decide +kernel
theorem dX9_count_134 : decode cX9_count 134 = .ok (.getfield 13, 3) := by decide +kernel
theorem dX9_count_137 : decode cX9_count 137 = .ok (.iload_n 3, 1) := by decide +kernel
theorem dX9_count_138 : decode cX9_count 138 = .ok (.iaload, 1) := by decide +kernel
theorem dX9_count_139 : decode cX9_count 139 = .ok (.iconst (-1), 1) := by decide +kernel
theorem dX9_count_140 : decode cX9_count 140 = .ok (.if_icmp .ne 7, 3) := by decide +kernel
theorem dX9_count_143 : decode cX9_count 143 = .ok (.iconst 0, 1) := by decide +kernel
theorem dX9_count_144 : decode cX9_count 144 = .ok (.goto 4, 3) := by decide +kernel
theorem dX9_count_147 : decode cX9_count 147 = .ok (.iconst 1, 1) := by decide +kernel
theorem dX9_count_148 : decode cX9_count 148 = .ok (.iadd, 1) := by decide +kernel
theorem dX9_count_149 : decode cX9_count 149 = .ok (.istore_n 2, 1) := by decide +kernel
theorem dX9_count_150 : decode cX9_count 150 = .ok (.iinc 3 1, 3) := by decide +kernel
theorem dX9_count_153 : decode cX9_count 153 = .ok (.goto (-27), 3) := by decide +kernel
theorem dX9_count_156 : decode cX9_count 156 = .ok (.iload_n 2, 1) := by decide +kernel
theorem dX9_count_157 : decode cX9_count 157 = .ok (.ireturn, 1) := by decide +kernel
theorem dX9_count_158 : decode cX9_count 158 = .ok (.aload_n 0, 1) := by decide +kernel
theorem dX9_count_159 : decode cX9_count 159 = .ok (.getfield 221, 3) := by decide +kernel
theorem dX9_count_162 : decode cX9_count 162 = .ok (.ireturn, 1) := by decide +kernel
theorem dX9_count_163 : decode cX9_count 163 = .ok (.bipush (-2), 2) := by decide +kernel
theorem dX9_count_165 : decode cX9_count 165 = .ok (.ireturn, 1) := by decide +kernel
theorem dX9_digested_0 : decode cX9_digested 0 = .ok (.ldc2_w 261, 3) := by decide +kernel
theorem dX9_digested_3 : decode cX9_digested 3 = .ok (.lload_n 1, 1) := by decide +kernel
theorem dX9_digested_4 : decode cX9_digested 4 = .ok (.lmul, 1) := by decide +kernel
theorem dX9_digested_5 : decode cX9_digested 5 = .ok (.aload_n 0, 1) := by decide +kernel
theorem dX9_digested_6 : decode cX9_digested 6 = .ok (.getfield 13, 3) := by decide +kernel
theorem dX9_digested_9 : decode cX9_digested 9 = .ok (.iload_n 3, 1) := by decide +kernel
theorem dX9_digested_10 : decode cX9_digested 10 = .ok (.iaload, 1) := by decide +kernel
theorem dX9_digested_11 : decode cX9_digested 11 = .ok (.i2l, 1) := by decide +kernel
theorem dX9_digested_12 : decode cX9_digested 12 = .ok (.ladd, 1) := by decide +kernel
theorem dX9_digested_13 : decode cX9_digested 13 = .ok (.lstore 4, 2) := by decide +kernel
theorem dX9_digested_15 : decode cX9_digested 15 = .ok (.iconst 0, 1) := by decide +kernel
theorem dX9_digested_16 : decode cX9_digested 16 = .ok (.istore 6, 2) := by decide +kernel
theorem dX9_digested_18 : decode cX9_digested 18 = .ok (.iload 6, 2) := by decide +kernel
theorem dX9_digested_20 : decode cX9_digested 20 = .ok (.aload_n 0, 1) := by decide +kernel
theorem dX9_digested_21 : decode cX9_digested 21 = .ok (.getfield 13, 3) := by decide +kernel
theorem dX9_digested_24 : decode cX9_digested 24 = .ok (.iload_n 3, 1) := by decide +kernel
theorem dX9_digested_25 : decode cX9_digested 25 = .ok (.iaload, 1) := by decide +kernel
theorem dX9_digested_26 : decode cX9_digested 26 = .ok (.if_icmp .ge 77, 3) := by decide +kernel
theorem dX9_digested_29 : decode cX9_digested 29 = .ok (.ldc2_w 261, 3) := by decide +kernel
theorem dX9_digested_32 : decode cX9_digested 32 = .ok (.lload 4, 2) := by decide +kernel
theorem dX9_digested_34 : decode cX9_digested 34 = .ok (.lmul, 1) := by decide +kernel
theorem dX9_digested_35 : decode cX9_digested 35 = .ok (.aload_n 0, 1) := by decide +kernel
theorem dX9_digested_36 : decode cX9_digested 36 = .ok (.getfield 17, 3) := by decide +kernel
theorem dX9_digested_39 : decode cX9_digested 39 = .ok (.bipush 40, 2) := by decide +kernel
theorem dX9_digested_41 : decode cX9_digested 41 = .ok (.iload_n 3, 1) := by decide +kernel
theorem dX9_digested_42 : decode cX9_digested 42 = .ok (.imul, 1) := by decide +kernel
theorem dX9_digested_43 : decode cX9_digested 43 = .ok (.iload 6, 2) := by decide +kernel
theorem dX9_digested_45 : decode cX9_digested 45 = .ok (.iadd, 1) := by decide +kernel
theorem dX9_digested_46 : decode cX9_digested 46 = .ok (.iaload, 1) := by decide +kernel
theorem dX9_digested_47 : decode cX9_digested 47 = .ok (.i2l, 1) := by decide +kernel
theorem dX9_digested_48 : decode cX9_digested 48 = .ok (.ladd, 1) := by decide +kernel
theorem dX9_digested_49 : decode cX9_digested 49 = .ok (.lstore 4, 2) := by decide +kernel
theorem dX9_digested_51 : decode cX9_digested 51 = .ok (.iconst 0, 1) := by decide +kernel
theorem dX9_digested_52 : decode cX9_digested 52 = .ok (.istore 7, 2) := by decide +kernel
theorem dX9_digested_54 : decode cX9_digested 54 = .ok (.iload 7, 2) := by decide +kernel
theorem dX9_digested_56 : decode cX9_digested 56 = .ok (.aload_n 0, 1) := by decide +kernel
theorem dX9_digested_57 : decode cX9_digested 57 = .ok (.getfield 75, 3) := by decide +kernel
theorem dX9_digested_60 : decode cX9_digested 60 = .ok (.if_icmp .ge 37, 3) := by decide +kernel
theorem dX9_digested_63 : decode cX9_digested 63 = .ok (.ldc2_w 261, 3) := by decide +kernel
theorem dX9_digested_66 : decode cX9_digested 66 = .ok (.lload 4, 2) := by decide +kernel
theorem dX9_digested_68 : decode cX9_digested 68 = .ok (.lmul, 1) := by decide +kernel
theorem dX9_digested_69 : decode cX9_digested 69 = .ok (.aload_n 0, 1) := by decide +kernel
theorem dX9_digested_70 : decode cX9_digested 70 = .ok (.getfield 20, 3) := by decide +kernel
theorem dX9_digested_73 : decode cX9_digested 73 = .ok (.sipush 160, 3) := by decide +kernel
theorem dX9_digested_76 : decode cX9_digested 76 = .ok (.iload_n 3, 1) := by decide +kernel
theorem dX9_digested_77 : decode cX9_digested 77 = .ok (.imul, 1) := by decide +kernel
theorem dX9_digested_78 : decode cX9_digested 78 = .ok (.iconst 4, 1) := by decide +kernel
theorem dX9_digested_79 : decode cX9_digested 79 = .ok (.iload 6, 2) := by decide +kernel
theorem dX9_digested_81 : decode cX9_digested 81 = .ok (.imul, 1) := by decide +kernel
theorem dX9_digested_82 : decode cX9_digested 82 = .ok (.iadd, 1) := by decide +kernel
theorem dX9_digested_83 : decode cX9_digested 83 = .ok (.iload 7, 2) := by decide +kernel
theorem dX9_digested_85 : decode cX9_digested 85 = .ok (.iadd, 1) := by decide +kernel
theorem dX9_digested_86 : decode cX9_digested 86 = .ok (.iaload, 1) := by decide +kernel
theorem dX9_digested_87 : decode cX9_digested 87 = .ok (.i2l, 1) := by decide +kernel
theorem dX9_digested_88 : decode cX9_digested 88 = .ok (.ladd, 1) := by decide +kernel
theorem dX9_digested_89 : decode cX9_digested 89 = .ok (.lstore 4, 2) := by decide +kernel
theorem dX9_digested_91 : decode cX9_digested 91 = .ok (.iinc 7 1, 3) := by decide +kernel
theorem dX9_digested_94 : decode cX9_digested 94 = .ok (.goto (-40), 3) := by decide +kernel
theorem dX9_digested_97 : decode cX9_digested 97 = .ok (.iinc 6 1, 3) := by decide +kernel
theorem dX9_digested_100 : decode cX9_digested 100 = .ok (.goto (-82), 3) := by decide +kernel
theorem dX9_digested_103 : decode cX9_digested 103 = .ok (.lload 4, 2) := by decide +kernel
theorem dX9_digested_105 : decode cX9_digested 105 = .ok (.lreturn, 1) := by decide +kernel
theorem dX9_digest_0 : decode cX9_digest 0 = .ok (.aload_n 0, 1) := by decide +kernel
theorem dX9_digest_1 : decode cX9_digest 1 = .ok (.ldc2_w 263, 3) := by decide +kernel
theorem dX9_digest_4 : decode cX9_digest 4 = .ok (.iconst 0, 1) := by decide +kernel
theorem dX9_digest_5 : decode cX9_digest 5 = .ok (.invokevirtual 265, 3) := by decide +kernel
theorem dX9_digest_8 : decode cX9_digest 8 = .ok (.lstore_n 1, 1) := by decide +kernel
theorem dX9_digest_9 : decode cX9_digest 9 = .ok (.iconst 1, 1) := by decide +kernel
theorem dX9_digest_10 : decode cX9_digest 10 = .ok (.istore_n 3, 1) := by decide +kernel
theorem dX9_digest_11 : decode cX9_digest 11 = .ok (.iload_n 3, 1) := by decide +kernel
theorem dX9_digest_12 : decode cX9_digest 12 = .ok (.bipush 25, 2) := by decide +kernel
theorem dX9_digest_14 : decode cX9_digest 14 = .ok (.if_icmp .ge 35, 3) := by decide +kernel
theorem dX9_digest_17 : decode cX9_digest 17 = .ok (.aload_n 0, 1) := by decide +kernel
theorem dX9_digest_18 : decode cX9_digest 18 = .ok (.getfield 13, 3) := by decide +kernel
theorem dX9_digest_21 : decode cX9_digest 21 = .ok (.iload_n 3, 1) := by decide +kernel
theorem dX9_digest_22 : decode cX9_digest 22 = .ok (.iaload, 1) := by decide +kernel
theorem dX9_digest_23 : decode cX9_digest 23 = .ok (.iconst (-1), 1) := by decide +kernel
theorem dX9_digest_24 : decode cX9_digest 24 = .ok (.if_icmp .eq 19, 3) := by decide +kernel
theorem dX9_digest_27 : decode cX9_digest 27 = .ok (.aload_n 0, 1) := by decide +kernel
theorem dX9_digest_28 : decode cX9_digest 28 = .ok (.ldc2_w 261, 3) := by decide +kernel
theorem dX9_digest_31 : decode cX9_digest 31 = .ok (.lload_n 1, 1) := by decide +kernel
theorem dX9_digest_32 : decode cX9_digest 32 = .ok (.lmul, 1) := by decide +kernel
theorem dX9_digest_33 : decode cX9_digest 33 = .ok (.iload_n 3, 1) := by decide +kernel
theorem dX9_digest_34 : decode cX9_digest 34 = .ok (.iconst 1, 1) := by decide +kernel
theorem dX9_digest_35 : decode cX9_digest 35 = .ok (.isub, 1) := by decide +kernel
theorem dX9_digest_36 : decode cX9_digest 36 = .ok (.i2l, 1) := by decide +kernel
theorem dX9_digest_37 : decode cX9_digest 37 = .ok (.ladd, 1) := by decide +kernel
theorem dX9_digest_38 : decode cX9_digest 38 = .ok (.iload_n 3, 1) := by decide +kernel
theorem dX9_digest_39 : decode cX9_digest 39 = .ok (.invokevirtual 265, 3) := by decide +kernel
theorem dX9_digest_42 : decode cX9_digest 42 = .ok (.lstore_n 1, 1) := by decide +kernel
theorem dX9_digest_43 : decode cX9_digest 43 = .ok (.iinc 3 1, 3) := by decide +kernel
theorem dX9_digest_46 : decode cX9_digest 46 = .ok (.goto (-35), 3) := by decide +kernel
theorem dX9_digest_49 : decode cX9_digest 49 = .ok (.iconst 0, 1) := by decide +kernel
theorem dX9_digest_50 : decode cX9_digest 50 = .ok (.istore_n 3, 1) := by decide +kernel
theorem dX9_digest_51 : decode cX9_digest 51 = .ok (.iload_n 3, 1) := by decide +kernel
theorem dX9_digest_52 : decode cX9_digest 52 = .ok (.aload_n 0, 1) := by decide +kernel
theorem dX9_digest_53 : decode cX9_digest 53 = .ok (.getfield 107, 3) := by decide +kernel
theorem dX9_digest_56 : decode cX9_digest 56 = .ok (.if_icmp .ge 19, 3) := by decide +kernel
theorem dX9_digest_59 : decode cX9_digest 59 = .ok (.aload_n 0, 1) := by decide +kernel
theorem dX9_digest_60 : decode cX9_digest 60 = .ok (.lload_n 1, 1) := by decide +kernel
theorem dX9_digest_61 : decode cX9_digest 61 = .ok (.bipush 25, 2) := by decide +kernel
theorem dX9_digest_63 : decode cX9_digest 63 = .ok (.iload_n 3, 1) := by decide +kernel
theorem dX9_digest_64 : decode cX9_digest 64 = .ok (.iadd, 1) := by decide +kernel
theorem dX9_digest_65 : decode cX9_digest 65 = .ok (.invokevirtual 265, 3) := by decide +kernel
theorem dX9_digest_68 : decode cX9_digest 68 = .ok (.lstore_n 1, 1) := by decide +kernel
theorem dX9_digest_69 : decode cX9_digest 69 = .ok (.iinc 3 1, 3) := by decide +kernel
theorem dX9_digest_72 : decode cX9_digest 72 = .ok (.goto (-21), 3) := by decide +kernel
theorem dX9_digest_75 : decode cX9_digest 75 = .ok (.lload_n 1, 1) := by decide +kernel
theorem dX9_digest_76 : decode cX9_digest 76 = .ok (.lreturn, 1) := by decide +kernel
theorem dL_cell_0 : decode cL_cell 0 = .ok (.iload_n 1, 1) := by decide +kernel
theorem dL_cell_1 : decode cL_cell 1 = .ok (.aload_n 0, 1) := by decide +kernel
theorem dL_cell_2 : decode cL_cell 2 = .ok (.arraylength, 1) := by decide +kernel
theorem dL_cell_3 : decode cL_cell 3 = .ok (.if_icmp .ge 9, 3) := by decide +kernel
theorem dL_cell_6 : decode cL_cell 6 = .ok (.aload_n 0, 1) := by decide +kernel
theorem dL_cell_7 : decode cL_cell 7 = .ok (.iload_n 1, 1) := by decide +kernel
theorem dL_cell_8 : decode cL_cell 8 = .ok (.iaload, 1) := by decide +kernel
theorem dL_cell_9 : decode cL_cell 9 = .ok (.goto 4, 3) := by decide +kernel
theorem dL_cell_12 : decode cL_cell 12 = .ok (.iconst 0, 1) := by decide +kernel
theorem dL_cell_13 : decode cL_cell 13 = .ok (.ireturn, 1) := by decide +kernel
theorem dL_law_0 : decode cL_law 0 = .ok (.new 7, 3) := by decide +kernel
theorem dL_law_3 : decode cL_law 3 = .ok (.dup, 1) := by decide +kernel
theorem dL_law_4 : decode cL_law 4 = .ok (.aload_n 0, 1) := by decide +kernel
theorem dL_law_5 : decode cL_law 5 = .ok (.iconst 0, 1) := by decide +kernel
theorem dL_law_6 : decode cL_law 6 = .ok (.invokestatic 9, 3) := by decide +kernel
theorem dL_law_9 : decode cL_law 9 = .ok (.aload_n 0, 1) := by decide +kernel
theorem dL_law_10 : decode cL_law 10 = .ok (.iconst 1, 1) := by decide +kernel
theorem dL_law_11 : decode cL_law 11 = .ok (.invokestatic 9, 3) := by decide +kernel
theorem dL_law_14 : decode cL_law 14 = .ok (.invokespecial 15, 3) := by decide +kernel
theorem dL_law_17 : decode cL_law 17 = .ok (.astore_n 1, 1) := by decide +kernel
theorem dL_law_18 : decode cL_law 18 = .ok (.new 18, 3) := by decide +kernel
theorem dL_law_21 : decode cL_law 21 = .ok (.dup, 1) := by decide +kernel
theorem dL_law_22 : decode cL_law 22 = .ok (.aload_n 0, 1) := by decide +kernel
theorem dL_law_23 : decode cL_law 23 = .ok (.iconst 0, 1) := by decide +kernel
theorem dL_law_24 : decode cL_law 24 = .ok (.invokestatic 9, 3) := by decide +kernel
theorem dL_law_27 : decode cL_law 27 = .ok (.aload_n 0, 1) := by decide +kernel
theorem dL_law_28 : decode cL_law 28 = .ok (.iconst 1, 1) := by decide +kernel
theorem dL_law_29 : decode cL_law 29 = .ok (.invokestatic 9, 3) := by decide +kernel
theorem dL_law_32 : decode cL_law 32 = .ok (.invokespecial 20, 3) := by decide +kernel
theorem dL_law_35 : decode cL_law 35 = .ok (.astore_n 2, 1) := by decide +kernel
theorem dL_law_36 : decode cL_law 36 = .ok (.iconst 2, 1) := by decide +kernel
theorem dL_law_37 : decode cL_law 37 = .ok (.istore_n 3, 1) := by decide +kernel
theorem dL_law_38 : decode cL_law 38 = .ok (.iload_n 3, 1) := by decide +kernel
theorem dL_law_39 : decode cL_law 39 = .ok (.aload_n 0, 1) := by decide +kernel
theorem dL_law_40 : decode cL_law 40 = .ok (.arraylength, 1) := by decide +kernel
theorem dL_law_41 : decode cL_law 41 = .ok (.bipush 6, 2) := by decide +kernel
theorem dL_law_43 : decode cL_law 43 = .ok (.isub, 1) := by decide +kernel
theorem dL_law_44 : decode cL_law 44 = .ok (.if_icmp .gt 934, 3) := by decide +kernel
theorem dL_law_47 : decode cL_law 47 = .ok (.aload_n 0, 1) := by decide +kernel
theorem dL_law_48 : decode cL_law 48 = .ok (.iload_n 3, 1) := by decide +kernel
theorem dL_law_49 : decode cL_law 49 = .ok (.iaload, 1) := by decide +kernel
theorem dL_law_50 : decode cL_law 50 = .ok (.bipush 31, 2) := by decide +kernel
theorem dL_law_52 : decode cL_law 52 = .ok (.iand, 1) := by decide +kernel
theorem dL_law_53 : decode cL_law 53 = .ok (.tableswitch 919 0 28 #[131, 154, 217, 230, 253, 276, 309, 352, 395, 428, 461, 494, 557, 590, 613, 636, 659, 682, 695, 718, 731, 754, 777, 800, 813, 846, 869, 882, 905], 131) := by decide +kernel
theorem dL_law_184 : decode cL_law 184 = .ok (.aload_n 1, 1) := by decide +kernel
theorem dL_law_185 : decode cL_law 185 = .ok (.aload_n 0, 1) := by decide +kernel
theorem dL_law_186 : decode cL_law 186 = .ok (.iload_n 3, 1) := by decide +kernel
theorem dL_law_187 : decode cL_law 187 = .ok (.iconst 1, 1) := by decide +kernel
theorem dL_law_188 : decode cL_law 188 = .ok (.iadd, 1) := by decide +kernel
theorem dL_law_189 : decode cL_law 189 = .ok (.iaload, 1) := by decide +kernel
theorem dL_law_190 : decode cL_law 190 = .ok (.invokevirtual 21, 3) := by decide +kernel
theorem dL_law_193 : decode cL_law 193 = .ok (.aload_n 2, 1) := by decide +kernel
theorem dL_law_194 : decode cL_law 194 = .ok (.aload_n 0, 1) := by decide +kernel
theorem dL_law_195 : decode cL_law 195 = .ok (.iload_n 3, 1) := by decide +kernel
theorem dL_law_196 : decode cL_law 196 = .ok (.iconst 1, 1) := by decide +kernel
theorem dL_law_197 : decode cL_law 197 = .ok (.iadd, 1) := by decide +kernel
theorem dL_law_198 : decode cL_law 198 = .ok (.iaload, 1) := by decide +kernel
theorem dL_law_199 : decode cL_law 199 = .ok (.invokevirtual 25, 3) := by decide +kernel
theorem dL_law_202 : decode cL_law 202 = .ok (.if_icmp .eq 770, 3) := by decide +kernel
theorem dL_law_205 : decode cL_law 205 = .ok (.iconst 0, 1) := by decide +kernel
theorem dL_law_206 : decode cL_law 206 = .ok (.ireturn, 1) := by decide +kernel
theorem dL_law_207 : decode cL_law 207 = .ok (.aload_n 1, 1) := by decide +kernel
theorem dL_law_208 : decode cL_law 208 = .ok (.aload_n 0, 1) := by decide +kernel
theorem dL_law_209 : decode cL_law 209 = .ok (.iload_n 3, 1) := by decide +kernel
theorem dL_law_210 : decode cL_law 210 = .ok (.iconst 1, 1) := by decide +kernel
theorem dL_law_211 : decode cL_law 211 = .ok (.iadd, 1) := by decide +kernel
theorem dL_law_212 : decode cL_law 212 = .ok (.iaload, 1) := by decide +kernel
theorem dL_law_213 : decode cL_law 213 = .ok (.aload_n 0, 1) := by decide +kernel
theorem dL_law_214 : decode cL_law 214 = .ok (.iload_n 3, 1) := by decide +kernel
theorem dL_law_215 : decode cL_law 215 = .ok (.iconst 2, 1) := by decide +kernel
theorem dL_law_216 : decode cL_law 216 = .ok (.iadd, 1) := by decide +kernel
theorem dL_law_217 : decode cL_law 217 = .ok (.iaload, 1) := by decide +kernel
theorem dL_law_218 : decode cL_law 218 = .ok (.aload_n 0, 1) := by decide +kernel
theorem dL_law_219 : decode cL_law 219 = .ok (.iload_n 3, 1) := by decide +kernel
theorem dL_law_220 : decode cL_law 220 = .ok (.iconst 3, 1) := by decide +kernel
theorem dL_law_221 : decode cL_law 221 = .ok (.iadd, 1) := by decide +kernel
theorem dL_law_222 : decode cL_law 222 = .ok (.iaload, 1) := by decide +kernel
theorem dL_law_223 : decode cL_law 223 = .ok (.aload_n 0, 1) := by decide +kernel
theorem dL_law_224 : decode cL_law 224 = .ok (.iload_n 3, 1) := by decide +kernel
theorem dL_law_225 : decode cL_law 225 = .ok (.iconst 4, 1) := by decide +kernel
theorem dL_law_226 : decode cL_law 226 = .ok (.iadd, 1) := by decide +kernel
theorem dL_law_227 : decode cL_law 227 = .ok (.iaload, 1) := by decide +kernel
theorem dL_law_228 : decode cL_law 228 = .ok (.aload_n 0, 1) := by decide +kernel
theorem dL_law_229 : decode cL_law 229 = .ok (.iload_n 3, 1) := by decide +kernel
theorem dL_law_230 : decode cL_law 230 = .ok (.iconst 5, 1) := by decide +kernel
theorem dL_law_231 : decode cL_law 231 = .ok (.iadd, 1) := by decide +kernel
theorem dL_law_232 : decode cL_law 232 = .ok (.iaload, 1) := by decide +kernel
theorem dL_law_233 : decode cL_law 233 = .ok (.invokevirtual 26, 3) := by decide +kernel
theorem dL_law_236 : decode cL_law 236 = .ok (.aload_n 2, 1) := by decide +kernel
theorem dL_law_237 : decode cL_law 237 = .ok (.aload_n 0, 1) := by decide +kernel
theorem dL_law_238 : decode cL_law 238 = .ok (.iload_n 3, 1) := by decide +kernel
theorem dL_law_239 : decode cL_law 239 = .ok (.iconst 1, 1) := by decide +kernel
theorem dL_law_240 : decode cL_law 240 = .ok (.iadd, 1) := by decide +kernel
theorem dL_law_241 : decode cL_law 241 = .ok (.iaload, 1) := by decide +kernel
theorem dL_law_242 : decode cL_law 242 = .ok (.aload_n 0, 1) := by decide +kernel
theorem dL_law_243 : decode cL_law 243 = .ok (.iload_n 3, 1) := by decide +kernel
theorem dL_law_244 : decode cL_law 244 = .ok (.iconst 2, 1) := by decide +kernel
theorem dL_law_245 : decode cL_law 245 = .ok (.iadd, 1) := by decide +kernel
theorem dL_law_246 : decode cL_law 246 = .ok (.iaload, 1) := by decide +kernel
theorem dL_law_247 : decode cL_law 247 = .ok (.aload_n 0, 1) := by decide +kernel
theorem dL_law_248 : decode cL_law 248 = .ok (.iload_n 3, 1) := by decide +kernel
theorem dL_law_249 : decode cL_law 249 = .ok (.iconst 3, 1) := by decide +kernel
theorem dL_law_250 : decode cL_law 250 = .ok (.iadd, 1) := by decide +kernel
theorem dL_law_251 : decode cL_law 251 = .ok (.iaload, 1) := by decide +kernel
theorem dL_law_252 : decode cL_law 252 = .ok (.aload_n 0, 1) := by decide +kernel
theorem dL_law_253 : decode cL_law 253 = .ok (.iload_n 3, 1) := by decide +kernel
theorem dL_law_254 : decode cL_law 254 = .ok (.iconst 4, 1) := by decide +kernel
theorem dL_law_255 : decode cL_law 255 = .ok (.iadd, 1) := by decide +kernel
theorem dL_law_256 : decode cL_law 256 = .ok (.iaload, 1) := by decide +kernel
theorem dL_law_257 : decode cL_law 257 = .ok (.aload_n 0, 1) := by decide +kernel
theorem dL_law_258 : decode cL_law 258 = .ok (.iload_n 3, 1) := by decide +kernel
theorem dL_law_259 : decode cL_law 259 = .ok (.iconst 5, 1) := by decide +kernel
theorem dL_law_260 : decode cL_law 260 = .ok (.iadd, 1) := by decide +kernel
theorem dL_law_261 : decode cL_law 261 = .ok (.iaload, 1) := by decide +kernel
theorem dL_law_262 : decode cL_law 262 = .ok (.invokevirtual 30, 3) := by decide +kernel
theorem dL_law_265 : decode cL_law 265 = .ok (.if_icmp .eq 707, 3) := by decide +kernel
theorem dL_law_268 : decode cL_law 268 = .ok (.iconst 0, 1) := by decide +kernel
theorem dL_law_269 : decode cL_law 269 = .ok (.ireturn, 1) := by decide +kernel
theorem dL_law_270 : decode cL_law 270 = .ok (.aload_n 1, 1) := by decide +kernel
theorem dL_law_271 : decode cL_law 271 = .ok (.invokevirtual 31, 3) := by decide +kernel
theorem dL_law_274 : decode cL_law 274 = .ok (.aload_n 2, 1) := by decide +kernel
theorem dL_law_275 : decode cL_law 275 = .ok (.invokevirtual 35, 3) := by decide +kernel
theorem dL_law_278 : decode cL_law 278 = .ok (.if_icmp .eq 694, 3) := by decide +kernel
theorem dL_law_281 : decode cL_law 281 = .ok (.iconst 0, 1) := by decide +kernel
theorem dL_law_282 : decode cL_law 282 = .ok (.ireturn, 1) := by decide +kernel
theorem dL_law_283 : decode cL_law 283 = .ok (.aload_n 1, 1) := by decide +kernel
theorem dL_law_284 : decode cL_law 284 = .ok (.aload_n 0, 1) := by decide +kernel
theorem dL_law_285 : decode cL_law 285 = .ok (.iload_n 3, 1) := by decide +kernel
theorem dL_law_286 : decode cL_law 286 = .ok (.iconst 1, 1) := by decide +kernel
theorem dL_law_287 : decode cL_law 287 = .ok (.iadd, 1) := by decide +kernel
theorem dL_law_288 : decode cL_law 288 = .ok (.iaload, 1) := by decide +kernel
theorem dL_law_289 : decode cL_law 289 = .ok (.invokevirtual 36, 3) := by decide +kernel
theorem dL_law_292 : decode cL_law 292 = .ok (.aload_n 2, 1) := by decide +kernel
theorem dL_law_293 : decode cL_law 293 = .ok (.aload_n 0, 1) := by decide +kernel
theorem dL_law_294 : decode cL_law 294 = .ok (.iload_n 3, 1) := by decide +kernel
theorem dL_law_295 : decode cL_law 295 = .ok (.iconst 1, 1) := by decide +kernel
theorem dL_law_296 : decode cL_law 296 = .ok (.iadd, 1) := by decide +kernel
theorem dL_law_297 : decode cL_law 297 = .ok (.iaload, 1) := by decide +kernel
theorem dL_law_298 : decode cL_law 298 = .ok (.invokevirtual 39, 3) := by decide +kernel
theorem dL_law_301 : decode cL_law 301 = .ok (.if_icmp .eq 671, 3) := by decide +kernel
theorem dL_law_304 : decode cL_law 304 = .ok (.iconst 0, 1) := by decide +kernel
theorem dL_law_305 : decode cL_law 305 = .ok (.ireturn, 1) := by decide +kernel
theorem dL_law_306 : decode cL_law 306 = .ok (.aload_n 1, 1) := by decide +kernel
theorem dL_law_307 : decode cL_law 307 = .ok (.aload_n 0, 1) := by decide +kernel
theorem dL_law_308 : decode cL_law 308 = .ok (.iload_n 3, 1) := by decide +kernel
theorem dL_law_309 : decode cL_law 309 = .ok (.iconst 1, 1) := by decide +kernel
theorem dL_law_310 : decode cL_law 310 = .ok (.iadd, 1) := by decide +kernel
theorem dL_law_311 : decode cL_law 311 = .ok (.iaload, 1) := by decide +kernel
theorem dL_law_312 : decode cL_law 312 = .ok (.invokevirtual 40, 3) := by decide +kernel
theorem dL_law_315 : decode cL_law 315 = .ok (.aload_n 2, 1) := by decide +kernel
theorem dL_law_316 : decode cL_law 316 = .ok (.aload_n 0, 1) := by decide +kernel
theorem dL_law_317 : decode cL_law 317 = .ok (.iload_n 3, 1) := by decide +kernel
theorem dL_law_318 : decode cL_law 318 = .ok (.iconst 1, 1) := by decide +kernel
theorem dL_law_319 : decode cL_law 319 = .ok (.iadd, 1) := by decide +kernel
theorem dL_law_320 : decode cL_law 320 = .ok (.iaload, 1) := by decide +kernel
theorem dL_law_321 : decode cL_law 321 = .ok (.invokevirtual 43, 3) := by decide +kernel
theorem dL_law_324 : decode cL_law 324 = .ok (.if_icmp .eq 648, 3) := by decide +kernel
theorem dL_law_327 : decode cL_law 327 = .ok (.iconst 0, 1) := by decide +kernel
theorem dL_law_328 : decode cL_law 328 = .ok (.ireturn, 1) := by decide +kernel
theorem dL_law_329 : decode cL_law 329 = .ok (.aload_n 1, 1) := by decide +kernel
theorem dL_law_330 : decode cL_law 330 = .ok (.aload_n 0, 1) := by decide +kernel
theorem dL_law_331 : decode cL_law 331 = .ok (.iload_n 3, 1) := by decide +kernel
theorem dL_law_332 : decode cL_law 332 = .ok (.iconst 1, 1) := by decide +kernel
theorem dL_law_333 : decode cL_law 333 = .ok (.iadd, 1) := by decide +kernel
theorem dL_law_334 : decode cL_law 334 = .ok (.iaload, 1) := by decide +kernel
theorem dL_law_335 : decode cL_law 335 = .ok (.aload_n 0, 1) := by decide +kernel
theorem dL_law_336 : decode cL_law 336 = .ok (.iload_n 3, 1) := by decide +kernel
theorem dL_law_337 : decode cL_law 337 = .ok (.iconst 2, 1) := by decide +kernel
theorem dL_law_338 : decode cL_law 338 = .ok (.iadd, 1) := by decide +kernel
theorem dL_law_339 : decode cL_law 339 = .ok (.iaload, 1) := by decide +kernel
theorem dL_law_340 : decode cL_law 340 = .ok (.invokevirtual 44, 3) := by decide +kernel
theorem dL_law_343 : decode cL_law 343 = .ok (.aload_n 2, 1) := by decide +kernel
theorem dL_law_344 : decode cL_law 344 = .ok (.aload_n 0, 1) := by decide +kernel
theorem dL_law_345 : decode cL_law 345 = .ok (.iload_n 3, 1) := by decide +kernel
theorem dL_law_346 : decode cL_law 346 = .ok (.iconst 1, 1) := by decide +kernel
theorem dL_law_347 : decode cL_law 347 = .ok (.iadd, 1) := by decide +kernel
theorem dL_law_348 : decode cL_law 348 = .ok (.iaload, 1) := by decide +kernel
theorem dL_law_349 : decode cL_law 349 = .ok (.aload_n 0, 1) := by decide +kernel
theorem dL_law_350 : decode cL_law 350 = .ok (.iload_n 3, 1) := by decide +kernel
theorem dL_law_351 : decode cL_law 351 = .ok (.iconst 2, 1) := by decide +kernel
theorem dL_law_352 : decode cL_law 352 = .ok (.iadd, 1) := by decide +kernel
theorem dL_law_353 : decode cL_law 353 = .ok (.iaload, 1) := by decide +kernel
theorem dL_law_354 : decode cL_law 354 = .ok (.invokevirtual 48, 3) := by decide +kernel
theorem dL_law_357 : decode cL_law 357 = .ok (.if_icmp .eq 615, 3) := by decide +kernel
theorem dL_law_360 : decode cL_law 360 = .ok (.iconst 0, 1) := by decide +kernel
theorem dL_law_361 : decode cL_law 361 = .ok (.ireturn, 1) := by decide +kernel
theorem dL_law_362 : decode cL_law 362 = .ok (.aload_n 1, 1) := by decide +kernel
theorem dL_law_363 : decode cL_law 363 = .ok (.aload_n 0, 1) := by decide +kernel
theorem dL_law_364 : decode cL_law 364 = .ok (.iload_n 3, 1) := by decide +kernel
theorem dL_law_365 : decode cL_law 365 = .ok (.iconst 1, 1) := by decide +kernel
theorem dL_law_366 : decode cL_law 366 = .ok (.iadd, 1) := by decide +kernel
theorem dL_law_367 : decode cL_law 367 = .ok (.iaload, 1) := by decide +kernel
theorem dL_law_368 : decode cL_law 368 = .ok (.aload_n 0, 1) := by decide +kernel
theorem dL_law_369 : decode cL_law 369 = .ok (.iload_n 3, 1) := by decide +kernel
theorem dL_law_370 : decode cL_law 370 = .ok (.iconst 2, 1) := by decide +kernel
theorem dL_law_371 : decode cL_law 371 = .ok (.iadd, 1) := by decide +kernel
theorem dL_law_372 : decode cL_law 372 = .ok (.iaload, 1) := by decide +kernel
theorem dL_law_373 : decode cL_law 373 = .ok (.aload_n 0, 1) := by decide +kernel
theorem dL_law_374 : decode cL_law 374 = .ok (.iload_n 3, 1) := by decide +kernel
theorem dL_law_375 : decode cL_law 375 = .ok (.iconst 3, 1) := by decide +kernel
theorem dL_law_376 : decode cL_law 376 = .ok (.iadd, 1) := by decide +kernel
theorem dL_law_377 : decode cL_law 377 = .ok (.iaload, 1) := by decide +kernel
theorem dL_law_378 : decode cL_law 378 = .ok (.invokevirtual 49, 3) := by decide +kernel
theorem dL_law_381 : decode cL_law 381 = .ok (.aload_n 2, 1) := by decide +kernel
theorem dL_law_382 : decode cL_law 382 = .ok (.aload_n 0, 1) := by decide +kernel
theorem dL_law_383 : decode cL_law 383 = .ok (.iload_n 3, 1) := by decide +kernel
theorem dL_law_384 : decode cL_law 384 = .ok (.iconst 1, 1) := by decide +kernel
theorem dL_law_385 : decode cL_law 385 = .ok (.iadd, 1) := by decide +kernel
theorem dL_law_386 : decode cL_law 386 = .ok (.iaload, 1) := by decide +kernel
theorem dL_law_387 : decode cL_law 387 = .ok (.aload_n 0, 1) := by decide +kernel
theorem dL_law_388 : decode cL_law 388 = .ok (.iload_n 3, 1) := by decide +kernel
theorem dL_law_389 : decode cL_law 389 = .ok (.iconst 2, 1) := by decide +kernel
theorem dL_law_390 : decode cL_law 390 = .ok (.iadd, 1) := by decide +kernel
theorem dL_law_391 : decode cL_law 391 = .ok (.iaload, 1) := by decide +kernel
theorem dL_law_392 : decode cL_law 392 = .ok (.aload_n 0, 1) := by decide +kernel
theorem dL_law_393 : decode cL_law 393 = .ok (.iload_n 3, 1) := by decide +kernel
theorem dL_law_394 : decode cL_law 394 = .ok (.iconst 3, 1) := by decide +kernel
theorem dL_law_395 : decode cL_law 395 = .ok (.iadd, 1) := by decide +kernel
theorem dL_law_396 : decode cL_law 396 = .ok (.iaload, 1) := by decide +kernel
theorem dL_law_397 : decode cL_law 397 = .ok (.invokevirtual 53, 3) := by decide +kernel
theorem dL_law_400 : decode cL_law 400 = .ok (.if_icmp .eq 572, 3) := by decide +kernel
theorem dL_law_403 : decode cL_law 403 = .ok (.iconst 0, 1) := by decide +kernel
theorem dL_law_404 : decode cL_law 404 = .ok (.ireturn, 1) := by decide +kernel
theorem dL_law_405 : decode cL_law 405 = .ok (.aload_n 1, 1) := by decide +kernel
theorem dL_law_406 : decode cL_law 406 = .ok (.aload_n 0, 1) := by decide +kernel
theorem dL_law_407 : decode cL_law 407 = .ok (.iload_n 3, 1) := by decide +kernel
theorem dL_law_408 : decode cL_law 408 = .ok (.iconst 1, 1) := by decide +kernel
theorem dL_law_409 : decode cL_law 409 = .ok (.iadd, 1) := by decide +kernel
theorem dL_law_410 : decode cL_law 410 = .ok (.iaload, 1) := by decide +kernel
theorem dL_law_411 : decode cL_law 411 = .ok (.aload_n 0, 1) := by decide +kernel
theorem dL_law_412 : decode cL_law 412 = .ok (.iload_n 3, 1) := by decide +kernel
theorem dL_law_413 : decode cL_law 413 = .ok (.iconst 2, 1) := by decide +kernel
theorem dL_law_414 : decode cL_law 414 = .ok (.iadd, 1) := by decide +kernel
theorem dL_law_415 : decode cL_law 415 = .ok (.iaload, 1) := by decide +kernel
theorem dL_law_416 : decode cL_law 416 = .ok (.aload_n 0, 1) := by decide +kernel
theorem dL_law_417 : decode cL_law 417 = .ok (.iload_n 3, 1) := by decide +kernel
theorem dL_law_418 : decode cL_law 418 = .ok (.iconst 3, 1) := by decide +kernel
theorem dL_law_419 : decode cL_law 419 = .ok (.iadd, 1) := by decide +kernel
theorem dL_law_420 : decode cL_law 420 = .ok (.iaload, 1) := by decide +kernel
theorem dL_law_421 : decode cL_law 421 = .ok (.invokevirtual 54, 3) := by decide +kernel
theorem dL_law_424 : decode cL_law 424 = .ok (.aload_n 2, 1) := by decide +kernel
theorem dL_law_425 : decode cL_law 425 = .ok (.aload_n 0, 1) := by decide +kernel
theorem dL_law_426 : decode cL_law 426 = .ok (.iload_n 3, 1) := by decide +kernel
theorem dL_law_427 : decode cL_law 427 = .ok (.iconst 1, 1) := by decide +kernel
theorem dL_law_428 : decode cL_law 428 = .ok (.iadd, 1) := by decide +kernel
theorem dL_law_429 : decode cL_law 429 = .ok (.iaload, 1) := by decide +kernel
theorem dL_law_430 : decode cL_law 430 = .ok (.aload_n 0, 1) := by decide +kernel
theorem dL_law_431 : decode cL_law 431 = .ok (.iload_n 3, 1) := by decide +kernel
theorem dL_law_432 : decode cL_law 432 = .ok (.iconst 2, 1) := by decide +kernel
theorem dL_law_433 : decode cL_law 433 = .ok (.iadd, 1) := by decide +kernel
theorem dL_law_434 : decode cL_law 434 = .ok (.iaload, 1) := by decide +kernel
theorem dL_law_435 : decode cL_law 435 = .ok (.aload_n 0, 1) := by decide +kernel
theorem dL_law_436 : decode cL_law 436 = .ok (.iload_n 3, 1) := by decide +kernel
theorem dL_law_437 : decode cL_law 437 = .ok (.iconst 3, 1) := by decide +kernel
theorem dL_law_438 : decode cL_law 438 = .ok (.iadd, 1) := by decide +kernel
theorem dL_law_439 : decode cL_law 439 = .ok (.iaload, 1) := by decide +kernel
theorem dL_law_440 : decode cL_law 440 = .ok (.invokevirtual 57, 3) := by decide +kernel
theorem dL_law_443 : decode cL_law 443 = .ok (.if_icmp .eq 529, 3) := by decide +kernel
theorem dL_law_446 : decode cL_law 446 = .ok (.iconst 0, 1) := by decide +kernel
theorem dL_law_447 : decode cL_law 447 = .ok (.ireturn, 1) := by decide +kernel
theorem dL_law_448 : decode cL_law 448 = .ok (.aload_n 1, 1) := by decide +kernel
theorem dL_law_449 : decode cL_law 449 = .ok (.aload_n 0, 1) := by decide +kernel
theorem dL_law_450 : decode cL_law 450 = .ok (.iload_n 3, 1) := by decide +kernel
theorem dL_law_451 : decode cL_law 451 = .ok (.iconst 1, 1) := by decide +kernel
theorem dL_law_452 : decode cL_law 452 = .ok (.iadd, 1) := by decide +kernel
theorem dL_law_453 : decode cL_law 453 = .ok (.iaload, 1) := by decide +kernel
theorem dL_law_454 : decode cL_law 454 = .ok (.aload_n 0, 1) := by decide +kernel
theorem dL_law_455 : decode cL_law 455 = .ok (.iload_n 3, 1) := by decide +kernel
theorem dL_law_456 : decode cL_law 456 = .ok (.iconst 2, 1) := by decide +kernel
theorem dL_law_457 : decode cL_law 457 = .ok (.iadd, 1) := by decide +kernel
theorem dL_law_458 : decode cL_law 458 = .ok (.iaload, 1) := by decide +kernel
theorem dL_law_459 : decode cL_law 459 = .ok (.invokevirtual 58, 3) := by decide +kernel
theorem dL_law_462 : decode cL_law 462 = .ok (.aload_n 2, 1) := by decide +kernel
theorem dL_law_463 : decode cL_law 463 = .ok (.aload_n 0, 1) := by decide +kernel
theorem dL_law_464 : decode cL_law 464 = .ok (.iload_n 3, 1) := by decide +kernel
theorem dL_law_465 : decode cL_law 465 = .ok (.iconst 1, 1) := by decide +kernel
theorem dL_law_466 : decode cL_law 466 = .ok (.iadd, 1) := by decide +kernel
theorem dL_law_467 : decode cL_law 467 = .ok (.iaload, 1) := by decide +kernel
theorem dL_law_468 : decode cL_law 468 = .ok (.aload_n 0, 1) := by decide +kernel
theorem dL_law_469 : decode cL_law 469 = .ok (.iload_n 3, 1) := by decide +kernel
theorem dL_law_470 : decode cL_law 470 = .ok (.iconst 2, 1) := by decide +kernel
theorem dL_law_471 : decode cL_law 471 = .ok (.iadd, 1) := by decide +kernel
theorem dL_law_472 : decode cL_law 472 = .ok (.iaload, 1) := by decide +kernel
theorem dL_law_473 : decode cL_law 473 = .ok (.invokevirtual 61, 3) := by decide +kernel
theorem dL_law_476 : decode cL_law 476 = .ok (.if_icmp .eq 496, 3) := by decide +kernel
theorem dL_law_479 : decode cL_law 479 = .ok (.iconst 0, 1) := by decide +kernel
theorem dL_law_480 : decode cL_law 480 = .ok (.ireturn, 1) := by decide +kernel
theorem dL_law_481 : decode cL_law 481 = .ok (.aload_n 1, 1) := by decide +kernel
theorem dL_law_482 : decode cL_law 482 = .ok (.aload_n 0, 1) := by decide +kernel
theorem dL_law_483 : decode cL_law 483 = .ok (.iload_n 3, 1) := by decide +kernel
theorem dL_law_484 : decode cL_law 484 = .ok (.iconst 1, 1) := by decide +kernel
theorem dL_law_485 : decode cL_law 485 = .ok (.iadd, 1) := by decide +kernel
theorem dL_law_486 : decode cL_law 486 = .ok (.iaload, 1) := by decide +kernel
theorem dL_law_487 : decode cL_law 487 = .ok (.aload_n 0, 1) := by decide +kernel
theorem dL_law_488 : decode cL_law 488 = .ok (.iload_n 3, 1) := by decide +kernel
theorem dL_law_489 : decode cL_law 489 = .ok (.iconst 2, 1) := by decide +kernel
theorem dL_law_490 : decode cL_law 490 = .ok (.iadd, 1) := by decide +kernel
theorem dL_law_491 : decode cL_law 491 = .ok (.iaload, 1) := by decide +kernel
theorem dL_law_492 : decode cL_law 492 = .ok (.invokevirtual 62, 3) := by decide +kernel
theorem dL_law_495 : decode cL_law 495 = .ok (.aload_n 2, 1) := by decide +kernel
theorem dL_law_496 : decode cL_law 496 = .ok (.aload_n 0, 1) := by decide +kernel
theorem dL_law_497 : decode cL_law 497 = .ok (.iload_n 3, 1) := by decide +kernel
theorem dL_law_498 : decode cL_law 498 = .ok (.iconst 1, 1) := by decide +kernel
theorem dL_law_499 : decode cL_law 499 = .ok (.iadd, 1) := by decide +kernel
theorem dL_law_500 : decode cL_law 500 = .ok (.iaload, 1) := by decide +kernel
theorem dL_law_501 : decode cL_law 501 = .ok (.aload_n 0, 1) := by decide +kernel
theorem dL_law_502 : decode cL_law 502 = .ok (.iload_n 3, 1) := by decide +kernel
theorem dL_law_503 : decode cL_law 503 = .ok (.iconst 2, 1) := by decide +kernel
theorem dL_law_504 : decode cL_law 504 = .ok (.iadd, 1) := by decide +kernel
theorem dL_law_505 : decode cL_law 505 = .ok (.iaload, 1) := by decide +kernel
theorem dL_law_506 : decode cL_law 506 = .ok (.invokevirtual 65, 3) := by decide +kernel
theorem dL_law_509 : decode cL_law 509 = .ok (.if_icmp .eq 463, 3) := by decide +kernel
theorem dL_law_512 : decode cL_law 512 = .ok (.iconst 0, 1) := by decide +kernel
theorem dL_law_513 : decode cL_law 513 = .ok (.ireturn, 1) := by decide +kernel
theorem dL_law_514 : decode cL_law 514 = .ok (.aload_n 1, 1) := by decide +kernel
theorem dL_law_515 : decode cL_law 515 = .ok (.aload_n 0, 1) := by decide +kernel
theorem dL_law_516 : decode cL_law 516 = .ok (.iload_n 3, 1) := by decide +kernel
theorem dL_law_517 : decode cL_law 517 = .ok (.iconst 1, 1) := by decide +kernel
theorem dL_law_518 : decode cL_law 518 = .ok (.iadd, 1) := by decide +kernel
theorem dL_law_519 : decode cL_law 519 = .ok (.iaload, 1) := by decide +kernel
theorem dL_law_520 : decode cL_law 520 = .ok (.aload_n 0, 1) := by decide +kernel
theorem dL_law_521 : decode cL_law 521 = .ok (.iload_n 3, 1) := by decide +kernel
theorem dL_law_522 : decode cL_law 522 = .ok (.iconst 2, 1) := by decide +kernel
theorem dL_law_523 : decode cL_law 523 = .ok (.iadd, 1) := by decide +kernel
theorem dL_law_524 : decode cL_law 524 = .ok (.iaload, 1) := by decide +kernel
theorem dL_law_525 : decode cL_law 525 = .ok (.invokevirtual 66, 3) := by decide +kernel
theorem dL_law_528 : decode cL_law 528 = .ok (.aload_n 2, 1) := by decide +kernel
theorem dL_law_529 : decode cL_law 529 = .ok (.aload_n 0, 1) := by decide +kernel
theorem dL_law_530 : decode cL_law 530 = .ok (.iload_n 3, 1) := by decide +kernel
theorem dL_law_531 : decode cL_law 531 = .ok (.iconst 1, 1) := by decide +kernel
theorem dL_law_532 : decode cL_law 532 = .ok (.iadd, 1) := by decide +kernel
theorem dL_law_533 : decode cL_law 533 = .ok (.iaload, 1) := by decide +kernel
theorem dL_law_534 : decode cL_law 534 = .ok (.aload_n 0, 1) := by decide +kernel
theorem dL_law_535 : decode cL_law 535 = .ok (.iload_n 3, 1) := by decide +kernel
theorem dL_law_536 : decode cL_law 536 = .ok (.iconst 2, 1) := by decide +kernel
theorem dL_law_537 : decode cL_law 537 = .ok (.iadd, 1) := by decide +kernel
theorem dL_law_538 : decode cL_law 538 = .ok (.iaload, 1) := by decide +kernel
theorem dL_law_539 : decode cL_law 539 = .ok (.invokevirtual 69, 3) := by decide +kernel
theorem dL_law_542 : decode cL_law 542 = .ok (.if_icmp .eq 430, 3) := by decide +kernel
theorem dL_law_545 : decode cL_law 545 = .ok (.iconst 0, 1) := by decide +kernel
theorem dL_law_546 : decode cL_law 546 = .ok (.ireturn, 1) := by decide +kernel
theorem dL_law_547 : decode cL_law 547 = .ok (.aload_n 1, 1) := by decide +kernel
theorem dL_law_548 : decode cL_law 548 = .ok (.aload_n 0, 1) := by decide +kernel
theorem dL_law_549 : decode cL_law 549 = .ok (.iload_n 3, 1) := by decide +kernel
theorem dL_law_550 : decode cL_law 550 = .ok (.iconst 1, 1) := by decide +kernel
theorem dL_law_551 : decode cL_law 551 = .ok (.iadd, 1) := by decide +kernel
theorem dL_law_552 : decode cL_law 552 = .ok (.iaload, 1) := by decide +kernel
theorem dL_law_553 : decode cL_law 553 = .ok (.aload_n 0, 1) := by decide +kernel
theorem dL_law_554 : decode cL_law 554 = .ok (.iload_n 3, 1) := by decide +kernel
theorem dL_law_555 : decode cL_law 555 = .ok (.iconst 2, 1) := by decide +kernel
theorem dL_law_556 : decode cL_law 556 = .ok (.iadd, 1) := by decide +kernel
theorem dL_law_557 : decode cL_law 557 = .ok (.iaload, 1) := by decide +kernel
theorem dL_law_558 : decode cL_law 558 = .ok (.aload_n 0, 1) := by decide +kernel
theorem dL_law_559 : decode cL_law 559 = .ok (.iload_n 3, 1) := by decide +kernel
theorem dL_law_560 : decode cL_law 560 = .ok (.iconst 3, 1) := by decide +kernel
theorem dL_law_561 : decode cL_law 561 = .ok (.iadd, 1) := by decide +kernel
theorem dL_law_562 : decode cL_law 562 = .ok (.iaload, 1) := by decide +kernel
theorem dL_law_563 : decode cL_law 563 = .ok (.aload_n 0, 1) := by decide +kernel
theorem dL_law_564 : decode cL_law 564 = .ok (.iload_n 3, 1) := by decide +kernel
theorem dL_law_565 : decode cL_law 565 = .ok (.iconst 4, 1) := by decide +kernel
theorem dL_law_566 : decode cL_law 566 = .ok (.iadd, 1) := by decide +kernel
theorem dL_law_567 : decode cL_law 567 = .ok (.iaload, 1) := by decide +kernel
theorem dL_law_568 : decode cL_law 568 = .ok (.aload_n 0, 1) := by decide +kernel
theorem dL_law_569 : decode cL_law 569 = .ok (.iload_n 3, 1) := by decide +kernel
theorem dL_law_570 : decode cL_law 570 = .ok (.iconst 5, 1) := by decide +kernel
theorem dL_law_571 : decode cL_law 571 = .ok (.iadd, 1) := by decide +kernel
theorem dL_law_572 : decode cL_law 572 = .ok (.iaload, 1) := by decide +kernel
theorem dL_law_573 : decode cL_law 573 = .ok (.invokevirtual 70, 3) := by decide +kernel
theorem dL_law_576 : decode cL_law 576 = .ok (.aload_n 2, 1) := by decide +kernel
theorem dL_law_577 : decode cL_law 577 = .ok (.aload_n 0, 1) := by decide +kernel
theorem dL_law_578 : decode cL_law 578 = .ok (.iload_n 3, 1) := by decide +kernel
theorem dL_law_579 : decode cL_law 579 = .ok (.iconst 1, 1) := by decide +kernel
theorem dL_law_580 : decode cL_law 580 = .ok (.iadd, 1) := by decide +kernel
theorem dL_law_581 : decode cL_law 581 = .ok (.iaload, 1) := by decide +kernel
theorem dL_law_582 : decode cL_law 582 = .ok (.aload_n 0, 1) := by decide +kernel
theorem dL_law_583 : decode cL_law 583 = .ok (.iload_n 3, 1) := by decide +kernel
theorem dL_law_584 : decode cL_law 584 = .ok (.iconst 2, 1) := by decide +kernel
theorem dL_law_585 : decode cL_law 585 = .ok (.iadd, 1) := by decide +kernel
theorem dL_law_586 : decode cL_law 586 = .ok (.iaload, 1) := by decide +kernel
theorem dL_law_587 : decode cL_law 587 = .ok (.aload_n 0, 1) := by decide +kernel
theorem dL_law_588 : decode cL_law 588 = .ok (.iload_n 3, 1) := by decide +kernel
theorem dL_law_589 : decode cL_law 589 = .ok (.iconst 3, 1) := by decide +kernel
theorem dL_law_590 : decode cL_law 590 = .ok (.iadd, 1) := by decide +kernel
theorem dL_law_591 : decode cL_law 591 = .ok (.iaload, 1) := by decide +kernel
theorem dL_law_592 : decode cL_law 592 = .ok (.aload_n 0, 1) := by decide +kernel
theorem dL_law_593 : decode cL_law 593 = .ok (.iload_n 3, 1) := by decide +kernel
theorem dL_law_594 : decode cL_law 594 = .ok (.iconst 4, 1) := by decide +kernel
theorem dL_law_595 : decode cL_law 595 = .ok (.iadd, 1) := by decide +kernel
theorem dL_law_596 : decode cL_law 596 = .ok (.iaload, 1) := by decide +kernel
theorem dL_law_597 : decode cL_law 597 = .ok (.aload_n 0, 1) := by decide +kernel
theorem dL_law_598 : decode cL_law 598 = .ok (.iload_n 3, 1) := by decide +kernel
theorem dL_law_599 : decode cL_law 599 = .ok (.iconst 5, 1) := by decide +kernel
theorem dL_law_600 : decode cL_law 600 = .ok (.iadd, 1) := by decide +kernel
theorem dL_law_601 : decode cL_law 601 = .ok (.iaload, 1) := by decide +kernel
theorem dL_law_602 : decode cL_law 602 = .ok (.invokevirtual 73, 3) := by decide +kernel
theorem dL_law_605 : decode cL_law 605 = .ok (.if_icmp .eq 367, 3) := by decide +kernel
theorem dL_law_608 : decode cL_law 608 = .ok (.iconst 0, 1) := by decide +kernel
theorem dL_law_609 : decode cL_law 609 = .ok (.ireturn, 1) := by decide +kernel
theorem dL_law_610 : decode cL_law 610 = .ok (.aload_n 1, 1) := by decide +kernel
theorem dL_law_611 : decode cL_law 611 = .ok (.aload_n 0, 1) := by decide +kernel
theorem dL_law_612 : decode cL_law 612 = .ok (.iload_n 3, 1) := by decide +kernel
theorem dL_law_613 : decode cL_law 613 = .ok (.iconst 1, 1) := by decide +kernel
theorem dL_law_614 : decode cL_law 614 = .ok (.iadd, 1) := by decide +kernel
theorem dL_law_615 : decode cL_law 615 = .ok (.iaload, 1) := by decide +kernel
theorem dL_law_616 : decode cL_law 616 = .ok (.aload_n 0, 1) := by decide +kernel
theorem dL_law_617 : decode cL_law 617 = .ok (.iload_n 3, 1) := by decide +kernel
theorem dL_law_618 : decode cL_law 618 = .ok (.iconst 2, 1) := by decide +kernel
theorem dL_law_619 : decode cL_law 619 = .ok (.iadd, 1) := by decide +kernel
theorem dL_law_620 : decode cL_law 620 = .ok (.iaload, 1) := by decide +kernel
theorem dL_law_621 : decode cL_law 621 = .ok (.invokevirtual 74, 3) := by decide +kernel
theorem dL_law_624 : decode cL_law 624 = .ok (.aload_n 2, 1) := by decide +kernel
theorem dL_law_625 : decode cL_law 625 = .ok (.aload_n 0, 1) := by decide +kernel
theorem dL_law_626 : decode cL_law 626 = .ok (.iload_n 3, 1) := by decide +kernel
theorem dL_law_627 : decode cL_law 627 = .ok (.iconst 1, 1) := by decide +kernel
theorem dL_law_628 : decode cL_law 628 = .ok (.iadd, 1) := by decide +kernel
theorem dL_law_629 : decode cL_law 629 = .ok (.iaload, 1) := by decide +kernel
theorem dL_law_630 : decode cL_law 630 = .ok (.aload_n 0, 1) := by decide +kernel
theorem dL_law_631 : decode cL_law 631 = .ok (.iload_n 3, 1) := by decide +kernel
theorem dL_law_632 : decode cL_law 632 = .ok (.iconst 2, 1) := by decide +kernel
theorem dL_law_633 : decode cL_law 633 = .ok (.iadd, 1) := by decide +kernel
theorem dL_law_634 : decode cL_law 634 = .ok (.iaload, 1) := by decide +kernel
theorem dL_law_635 : decode cL_law 635 = .ok (.invokevirtual 77, 3) := by decide +kernel
theorem dL_law_638 : decode cL_law 638 = .ok (.if_icmp .eq 334, 3) := by decide +kernel
theorem dL_law_641 : decode cL_law 641 = .ok (.iconst 0, 1) := by decide +kernel
theorem dL_law_642 : decode cL_law 642 = .ok (.ireturn, 1) := by decide +kernel
theorem dL_law_643 : decode cL_law 643 = .ok (.aload_n 1, 1) := by decide +kernel
theorem dL_law_644 : decode cL_law 644 = .ok (.aload_n 0, 1) := by decide +kernel
theorem dL_law_645 : decode cL_law 645 = .ok (.iload_n 3, 1) := by decide +kernel
theorem dL_law_646 : decode cL_law 646 = .ok (.iconst 1, 1) := by decide +kernel
theorem dL_law_647 : decode cL_law 647 = .ok (.iadd, 1) := by decide +kernel
theorem dL_law_648 : decode cL_law 648 = .ok (.iaload, 1) := by decide +kernel
theorem dL_law_649 : decode cL_law 649 = .ok (.invokevirtual 78, 3) := by decide +kernel
theorem dL_law_652 : decode cL_law 652 = .ok (.aload_n 2, 1) := by decide +kernel
theorem dL_law_653 : decode cL_law 653 = .ok (.aload_n 0, 1) := by decide +kernel
theorem dL_law_654 : decode cL_law 654 = .ok (.iload_n 3, 1) := by decide +kernel
theorem dL_law_655 : decode cL_law 655 = .ok (.iconst 1, 1) := by decide +kernel
theorem dL_law_656 : decode cL_law 656 = .ok (.iadd, 1) := by decide +kernel
theorem dL_law_657 : decode cL_law 657 = .ok (.iaload, 1) := by decide +kernel
theorem dL_law_658 : decode cL_law 658 = .ok (.invokevirtual 81, 3) := by decide +kernel
theorem dL_law_661 : decode cL_law 661 = .ok (.if_icmp .eq 311, 3) := by decide +kernel
theorem dL_law_664 : decode cL_law 664 = .ok (.iconst 0, 1) := by decide +kernel
theorem dL_law_665 : decode cL_law 665 = .ok (.ireturn, 1) := by decide +kernel
theorem dL_law_666 : decode cL_law 666 = .ok (.aload_n 1, 1) := by decide +kernel
theorem dL_law_667 : decode cL_law 667 = .ok (.aload_n 0, 1) := by decide +kernel
theorem dL_law_668 : decode cL_law 668 = .ok (.iload_n 3, 1) := by decide +kernel
theorem dL_law_669 : decode cL_law 669 = .ok (.iconst 1, 1) := by decide +kernel
theorem dL_law_670 : decode cL_law 670 = .ok (.iadd, 1) := by decide +kernel
theorem dL_law_671 : decode cL_law 671 = .ok (.iaload, 1) := by decide +kernel
theorem dL_law_672 : decode cL_law 672 = .ok (.invokevirtual 82, 3) := by decide +kernel
theorem dL_law_675 : decode cL_law 675 = .ok (.aload_n 2, 1) := by decide +kernel
theorem dL_law_676 : decode cL_law 676 = .ok (.aload_n 0, 1) := by decide +kernel
theorem dL_law_677 : decode cL_law 677 = .ok (.iload_n 3, 1) := by decide +kernel
theorem dL_law_678 : decode cL_law 678 = .ok (.iconst 1, 1) := by decide +kernel
theorem dL_law_679 : decode cL_law 679 = .ok (.iadd, 1) := by decide +kernel
theorem dL_law_680 : decode cL_law 680 = .ok (.iaload, 1) := by decide +kernel
theorem dL_law_681 : decode cL_law 681 = .ok (.invokevirtual 85, 3) := by decide +kernel
theorem dL_law_684 : decode cL_law 684 = .ok (.if_icmp .eq 288, 3) := by decide +kernel
theorem dL_law_687 : decode cL_law 687 = .ok (.iconst 0, 1) := by decide +kernel
theorem dL_law_688 : decode cL_law 688 = .ok (.ireturn, 1) := by decide +kernel
theorem dL_law_689 : decode cL_law 689 = .ok (.aload_n 1, 1) := by decide +kernel
theorem dL_law_690 : decode cL_law 690 = .ok (.aload_n 0, 1) := by decide +kernel
theorem dL_law_691 : decode cL_law 691 = .ok (.iload_n 3, 1) := by decide +kernel
theorem dL_law_692 : decode cL_law 692 = .ok (.iconst 1, 1) := by decide +kernel
theorem dL_law_693 : decode cL_law 693 = .ok (.iadd, 1) := by decide +kernel
theorem dL_law_694 : decode cL_law 694 = .ok (.iaload, 1) := by decide +kernel
theorem dL_law_695 : decode cL_law 695 = .ok (.invokevirtual 86, 3) := by decide +kernel
theorem dL_law_698 : decode cL_law 698 = .ok (.aload_n 2, 1) := by decide +kernel
theorem dL_law_699 : decode cL_law 699 = .ok (.aload_n 0, 1) := by decide +kernel
theorem dL_law_700 : decode cL_law 700 = .ok (.iload_n 3, 1) := by decide +kernel
theorem dL_law_701 : decode cL_law 701 = .ok (.iconst 1, 1) := by decide +kernel
theorem dL_law_702 : decode cL_law 702 = .ok (.iadd, 1) := by decide +kernel
theorem dL_law_703 : decode cL_law 703 = .ok (.iaload, 1) := by decide +kernel
theorem dL_law_704 : decode cL_law 704 = .ok (.invokevirtual 89, 3) := by decide +kernel
theorem dL_law_707 : decode cL_law 707 = .ok (.if_icmp .eq 265, 3) := by decide +kernel
theorem dL_law_710 : decode cL_law 710 = .ok (.iconst 0, 1) := by decide +kernel
theorem dL_law_711 : decode cL_law 711 = .ok (.ireturn, 1) := by decide +kernel
theorem dL_law_712 : decode cL_law 712 = .ok (.aload_n 1, 1) := by decide +kernel
theorem dL_law_713 : decode cL_law 713 = .ok (.aload_n 0, 1) := by decide +kernel
theorem dL_law_714 : decode cL_law 714 = .ok (.iload_n 3, 1) := by decide +kernel
theorem dL_law_715 : decode cL_law 715 = .ok (.iconst 1, 1) := by decide +kernel
theorem dL_law_716 : decode cL_law 716 = .ok (.iadd, 1) := by decide +kernel
theorem dL_law_717 : decode cL_law 717 = .ok (.iaload, 1) := by decide +kernel
theorem dL_law_718 : decode cL_law 718 = .ok (.invokevirtual 90, 3) := by decide +kernel
theorem dL_law_721 : decode cL_law 721 = .ok (.aload_n 2, 1) := by decide +kernel
theorem dL_law_722 : decode cL_law 722 = .ok (.aload_n 0, 1) := by decide +kernel
theorem dL_law_723 : decode cL_law 723 = .ok (.iload_n 3, 1) := by decide +kernel
theorem dL_law_724 : decode cL_law 724 = .ok (.iconst 1, 1) := by decide +kernel
theorem dL_law_725 : decode cL_law 725 = .ok (.iadd, 1) := by decide +kernel
theorem dL_law_726 : decode cL_law 726 = .ok (.iaload, 1) := by decide +kernel
theorem dL_law_727 : decode cL_law 727 = .ok (.invokevirtual 93, 3) := by decide +kernel
theorem dL_law_730 : decode cL_law 730 = .ok (.if_icmp .eq 242, 3) := by decide +kernel
theorem dL_law_733 : decode cL_law 733 = .ok (.iconst 0, 1) := by decide +kernel
theorem dL_law_734 : decode cL_law 734 = .ok (.ireturn, 1) := by decide +kernel
theorem dL_law_735 : decode cL_law 735 = .ok (.aload_n 1, 1) := by decide +kernel
theorem dL_law_736 : decode cL_law 736 = .ok (.invokevirtual 94, 3) := by decide +kernel
theorem dL_law_739 : decode cL_law 739 = .ok (.aload_n 2, 1) := by decide +kernel
theorem dL_law_740 : decode cL_law 740 = .ok (.invokevirtual 97, 3) := by decide +kernel
theorem dL_law_743 : decode cL_law 743 = .ok (.if_icmp .eq 229, 3) := by decide +kernel
theorem dL_law_746 : decode cL_law 746 = .ok (.iconst 0, 1) := by decide +kernel
theorem dL_law_747 : decode cL_law 747 = .ok (.ireturn, 1) := by decide +kernel
theorem dL_law_748 : decode cL_law 748 = .ok (.aload_n 1, 1) := by decide +kernel
theorem dL_law_749 : decode cL_law 749 = .ok (.aload_n 0, 1) := by decide +kernel
theorem dL_law_750 : decode cL_law 750 = .ok (.iload_n 3, 1) := by decide +kernel
theorem dL_law_751 : decode cL_law 751 = .ok (.iconst 1, 1) := by decide +kernel
theorem dL_law_752 : decode cL_law 752 = .ok (.iadd, 1) := by decide +kernel
theorem dL_law_753 : decode cL_law 753 = .ok (.iaload, 1) := by decide +kernel
theorem dL_law_754 : decode cL_law 754 = .ok (.invokevirtual 98, 3) := by decide +kernel
theorem dL_law_757 : decode cL_law 757 = .ok (.aload_n 2, 1) := by decide +kernel
theorem dL_law_758 : decode cL_law 758 = .ok (.aload_n 0, 1) := by decide +kernel
theorem dL_law_759 : decode cL_law 759 = .ok (.iload_n 3, 1) := by decide +kernel
theorem dL_law_760 : decode cL_law 760 = .ok (.iconst 1, 1) := by decide +kernel
theorem dL_law_761 : decode cL_law 761 = .ok (.iadd, 1) := by decide +kernel
theorem dL_law_762 : decode cL_law 762 = .ok (.iaload, 1) := by decide +kernel
theorem dL_law_763 : decode cL_law 763 = .ok (.invokevirtual 101, 3) := by decide +kernel
theorem dL_law_766 : decode cL_law 766 = .ok (.if_icmp .eq 206, 3) := by decide +kernel
theorem dL_law_769 : decode cL_law 769 = .ok (.iconst 0, 1) := by decide +kernel
theorem dL_law_770 : decode cL_law 770 = .ok (.ireturn, 1) := by decide +kernel
theorem dL_law_771 : decode cL_law 771 = .ok (.aload_n 1, 1) := by decide +kernel
theorem dL_law_772 : decode cL_law 772 = .ok (.invokevirtual 102, 3) := by decide +kernel
theorem dL_law_775 : decode cL_law 775 = .ok (.aload_n 2, 1) := by decide +kernel
theorem dL_law_776 : decode cL_law 776 = .ok (.invokevirtual 105, 3) := by decide +kernel
theorem dL_law_779 : decode cL_law 779 = .ok (.if_icmp .eq 193, 3) := by decide +kernel
theorem dL_law_782 : decode cL_law 782 = .ok (.iconst 0, 1) := by decide +kernel
theorem dL_law_783 : decode cL_law 783 = .ok (.ireturn, 1) := by decide +kernel
theorem dL_law_784 : decode cL_law 784 = .ok (.aload_n 1, 1) := by decide +kernel
theorem dL_law_785 : decode cL_law 785 = .ok (.aload_n 0, 1) := by decide +kernel
theorem dL_law_786 : decode cL_law 786 = .ok (.iload_n 3, 1) := by decide +kernel
theorem dL_law_787 : decode cL_law 787 = .ok (.iconst 1, 1) := by decide +kernel
theorem dL_law_788 : decode cL_law 788 = .ok (.iadd, 1) := by decide +kernel
theorem dL_law_789 : decode cL_law 789 = .ok (.iaload, 1) := by decide +kernel
theorem dL_law_790 : decode cL_law 790 = .ok (.invokevirtual 106, 3) := by decide +kernel
theorem dL_law_793 : decode cL_law 793 = .ok (.aload_n 2, 1) := by decide +kernel
theorem dL_law_794 : decode cL_law 794 = .ok (.aload_n 0, 1) := by decide +kernel
theorem dL_law_795 : decode cL_law 795 = .ok (.iload_n 3, 1) := by decide +kernel
theorem dL_law_796 : decode cL_law 796 = .ok (.iconst 1, 1) := by decide +kernel
theorem dL_law_797 : decode cL_law 797 = .ok (.iadd, 1) := by decide +kernel
theorem dL_law_798 : decode cL_law 798 = .ok (.iaload, 1) := by decide +kernel
theorem dL_law_799 : decode cL_law 799 = .ok (.invokevirtual 109, 3) := by decide +kernel
theorem dL_law_802 : decode cL_law 802 = .ok (.if_icmp .eq 170, 3) := by decide +kernel
theorem dL_law_805 : decode cL_law 805 = .ok (.iconst 0, 1) := by decide +kernel
theorem dL_law_806 : decode cL_law 806 = .ok (.ireturn, 1) := by decide +kernel
theorem dL_law_807 : decode cL_law 807 = .ok (.aload_n 1, 1) := by decide +kernel
theorem dL_law_808 : decode cL_law 808 = .ok (.aload_n 0, 1) := by decide +kernel
theorem dL_law_809 : decode cL_law 809 = .ok (.iload_n 3, 1) := by decide +kernel
theorem dL_law_810 : decode cL_law 810 = .ok (.iconst 1, 1) := by decide +kernel
theorem dL_law_811 : decode cL_law 811 = .ok (.iadd, 1) := by decide +kernel
theorem dL_law_812 : decode cL_law 812 = .ok (.iaload, 1) := by decide +kernel
theorem dL_law_813 : decode cL_law 813 = .ok (.invokevirtual 110, 3) := by decide +kernel
theorem dL_law_816 : decode cL_law 816 = .ok (.aload_n 2, 1) := by decide +kernel
theorem dL_law_817 : decode cL_law 817 = .ok (.aload_n 0, 1) := by decide +kernel
theorem dL_law_818 : decode cL_law 818 = .ok (.iload_n 3, 1) := by decide +kernel
theorem dL_law_819 : decode cL_law 819 = .ok (.iconst 1, 1) := by decide +kernel
theorem dL_law_820 : decode cL_law 820 = .ok (.iadd, 1) := by decide +kernel
theorem dL_law_821 : decode cL_law 821 = .ok (.iaload, 1) := by decide +kernel
theorem dL_law_822 : decode cL_law 822 = .ok (.invokevirtual 113, 3) := by decide +kernel
theorem dL_law_825 : decode cL_law 825 = .ok (.if_icmp .eq 147, 3) := by decide +kernel
theorem dL_law_828 : decode cL_law 828 = .ok (.iconst 0, 1) := by decide +kernel
theorem dL_law_829 : decode cL_law 829 = .ok (.ireturn, 1) := by decide +kernel
theorem dL_law_830 : decode cL_law 830 = .ok (.aload_n 1, 1) := by decide +kernel
theorem dL_law_831 : decode cL_law 831 = .ok (.aload_n 0, 1) := by decide +kernel
theorem dL_law_832 : decode cL_law 832 = .ok (.iload_n 3, 1) := by decide +kernel
theorem dL_law_833 : decode cL_law 833 = .ok (.iconst 1, 1) := by decide +kernel
theorem dL_law_834 : decode cL_law 834 = .ok (.iadd, 1) := by decide +kernel
theorem dL_law_835 : decode cL_law 835 = .ok (.iaload, 1) := by decide +kernel
theorem dL_law_836 : decode cL_law 836 = .ok (.invokevirtual 114, 3) := by decide +kernel
theorem dL_law_839 : decode cL_law 839 = .ok (.aload_n 2, 1) := by decide +kernel
theorem dL_law_840 : decode cL_law 840 = .ok (.aload_n 0, 1) := by decide +kernel
theorem dL_law_841 : decode cL_law 841 = .ok (.iload_n 3, 1) := by decide +kernel
theorem dL_law_842 : decode cL_law 842 = .ok (.iconst 1, 1) := by decide +kernel
theorem dL_law_843 : decode cL_law 843 = .ok (.iadd, 1) := by decide +kernel
theorem dL_law_844 : decode cL_law 844 = .ok (.iaload, 1) := by decide +kernel
theorem dL_law_845 : decode cL_law 845 = .ok (.invokevirtual 117, 3) := by decide +kernel
theorem dL_law_848 : decode cL_law 848 = .ok (.if_icmp .eq 124, 3) := by decide +kernel
theorem dL_law_851 : decode cL_law 851 = .ok (.iconst 0, 1) := by decide +kernel
theorem dL_law_852 : decode cL_law 852 = .ok (.ireturn, 1) := by decide +kernel
theorem dL_law_853 : decode cL_law 853 = .ok (.aload_n 1, 1) := by decide +kernel
theorem dL_law_854 : decode cL_law 854 = .ok (.invokevirtual 118, 3) := by decide +kernel
theorem dL_law_857 : decode cL_law 857 = .ok (.aload_n 2, 1) := by decide +kernel
theorem dL_law_858 : decode cL_law 858 = .ok (.invokevirtual 121, 3) := by decide +kernel
theorem dL_law_861 : decode cL_law 861 = .ok (.if_icmp .eq 111, 3) := by decide +kernel
theorem dL_law_864 : decode cL_law 864 = .ok (.iconst 0, 1) := by decide +kernel
theorem dL_law_865 : decode cL_law 865 = .ok (.ireturn, 1) := by decide +kernel
theorem dL_law_866 : decode cL_law 866 = .ok (.aload_n 1, 1) := by decide +kernel
theorem dL_law_867 : decode cL_law 867 = .ok (.aload_n 0, 1) := by decide +kernel
theorem dL_law_868 : decode cL_law 868 = .ok (.iload_n 3, 1) := by decide +kernel
theorem dL_law_869 : decode cL_law 869 = .ok (.iconst 1, 1) := by decide +kernel
theorem dL_law_870 : decode cL_law 870 = .ok (.iadd, 1) := by decide +kernel
theorem dL_law_871 : decode cL_law 871 = .ok (.iaload, 1) := by decide +kernel
theorem dL_law_872 : decode cL_law 872 = .ok (.aload_n 0, 1) := by decide +kernel
theorem dL_law_873 : decode cL_law 873 = .ok (.iload_n 3, 1) := by decide +kernel
theorem dL_law_874 : decode cL_law 874 = .ok (.iconst 2, 1) := by decide +kernel
theorem dL_law_875 : decode cL_law 875 = .ok (.iadd, 1) := by decide +kernel
theorem dL_law_876 : decode cL_law 876 = .ok (.iaload, 1) := by decide +kernel
theorem dL_law_877 : decode cL_law 877 = .ok (.invokevirtual 122, 3) := by decide +kernel
theorem dL_law_880 : decode cL_law 880 = .ok (.aload_n 2, 1) := by decide +kernel
theorem dL_law_881 : decode cL_law 881 = .ok (.aload_n 0, 1) := by decide +kernel
theorem dL_law_882 : decode cL_law 882 = .ok (.iload_n 3, 1) := by decide +kernel
theorem dL_law_883 : decode cL_law 883 = .ok (.iconst 1, 1) := by decide +kernel
theorem dL_law_884 : decode cL_law 884 = .ok (.iadd, 1) := by decide +kernel
theorem dL_law_885 : decode cL_law 885 = .ok (.iaload, 1) := by decide +kernel
theorem dL_law_886 : decode cL_law 886 = .ok (.aload_n 0, 1) := by decide +kernel
theorem dL_law_887 : decode cL_law 887 = .ok (.iload_n 3, 1) := by decide +kernel
theorem dL_law_888 : decode cL_law 888 = .ok (.iconst 2, 1) := by decide +kernel
theorem dL_law_889 : decode cL_law 889 = .ok (.iadd, 1) := by decide +kernel
theorem dL_law_890 : decode cL_law 890 = .ok (.iaload, 1) := by decide +kernel
theorem dL_law_891 : decode cL_law 891 = .ok (.invokevirtual 125, 3) := by decide +kernel
theorem dL_law_894 : decode cL_law 894 = .ok (.if_icmp .eq 78, 3) := by decide +kernel
theorem dL_law_897 : decode cL_law 897 = .ok (.iconst 0, 1) := by decide +kernel
theorem dL_law_898 : decode cL_law 898 = .ok (.ireturn, 1) := by decide +kernel
theorem dL_law_899 : decode cL_law 899 = .ok (.aload_n 1, 1) := by decide +kernel
theorem dL_law_900 : decode cL_law 900 = .ok (.aload_n 0, 1) := by decide +kernel
theorem dL_law_901 : decode cL_law 901 = .ok (.iload_n 3, 1) := by decide +kernel
theorem dL_law_902 : decode cL_law 902 = .ok (.iconst 1, 1) := by decide +kernel
theorem dL_law_903 : decode cL_law 903 = .ok (.iadd, 1) := by decide +kernel
theorem dL_law_904 : decode cL_law 904 = .ok (.iaload, 1) := by decide +kernel
theorem dL_law_905 : decode cL_law 905 = .ok (.invokevirtual 126, 3) := by decide +kernel
theorem dL_law_908 : decode cL_law 908 = .ok (.aload_n 2, 1) := by decide +kernel
theorem dL_law_909 : decode cL_law 909 = .ok (.aload_n 0, 1) := by decide +kernel
theorem dL_law_910 : decode cL_law 910 = .ok (.iload_n 3, 1) := by decide +kernel
theorem dL_law_911 : decode cL_law 911 = .ok (.iconst 1, 1) := by decide +kernel
theorem dL_law_912 : decode cL_law 912 = .ok (.iadd, 1) := by decide +kernel
theorem dL_law_913 : decode cL_law 913 = .ok (.iaload, 1) := by decide +kernel
theorem dL_law_914 : decode cL_law 914 = .ok (.invokevirtual 129, 3) := by decide +kernel
theorem dL_law_917 : decode cL_law 917 = .ok (.if_icmp .eq 55, 3) := by decide +kernel
theorem dL_law_920 : decode cL_law 920 = .ok (.iconst 0, 1) := by decide +kernel
theorem dL_law_921 : decode cL_law 921 = .ok (.ireturn, 1) := by decide +kernel
theorem dL_law_922 : decode cL_law 922 = .ok (.aload_n 1, 1) := by decide +kernel
theorem dL_law_923 : decode cL_law 923 = .ok (.invokevirtual 130, 3) := by decide +kernel
theorem dL_law_926 : decode cL_law 926 = .ok (.aload_n 2, 1) := by decide +kernel
theorem dL_law_927 : decode cL_law 927 = .ok (.invokevirtual 133, 3) := by decide +kernel
theorem dL_law_930 : decode cL_law 930 = .ok (.if_icmp .eq 42, 3) := by decide +kernel
theorem dL_law_933 : decode cL_law 933 = .ok (.iconst 0, 1) := by decide +kernel
theorem dL_law_934 : decode cL_law 934 = .ok (.ireturn, 1) := by decide +kernel
theorem dL_law_935 : decode cL_law 935 = .ok (.aload_n 1, 1) := by decide +kernel
theorem dL_law_936 : decode cL_law 936 = .ok (.aload_n 0, 1) := by decide +kernel
theorem dL_law_937 : decode cL_law 937 = .ok (.iload_n 3, 1) := by decide +kernel
theorem dL_law_938 : decode cL_law 938 = .ok (.iconst 1, 1) := by decide +kernel
theorem dL_law_939 : decode cL_law 939 = .ok (.iadd, 1) := by decide +kernel
theorem dL_law_940 : decode cL_law 940 = .ok (.iaload, 1) := by decide +kernel
theorem dL_law_941 : decode cL_law 941 = .ok (.invokevirtual 134, 3) := by decide +kernel
theorem dL_law_944 : decode cL_law 944 = .ok (.aload_n 2, 1) := by decide +kernel
theorem dL_law_945 : decode cL_law 945 = .ok (.aload_n 0, 1) := by decide +kernel
theorem dL_law_946 : decode cL_law 946 = .ok (.iload_n 3, 1) := by decide +kernel
theorem dL_law_947 : decode cL_law 947 = .ok (.iconst 1, 1) := by decide +kernel
theorem dL_law_948 : decode cL_law 948 = .ok (.iadd, 1) := by decide +kernel
theorem dL_law_949 : decode cL_law 949 = .ok (.iaload, 1) := by decide +kernel
theorem dL_law_950 : decode cL_law 950 = .ok (.invokevirtual 137, 3) := by decide +kernel
theorem dL_law_953 : decode cL_law 953 = .ok (.if_icmp .eq 19, 3) := by decide +kernel
theorem dL_law_956 : decode cL_law 956 = .ok (.iconst 0, 1) := by decide +kernel
theorem dL_law_957 : decode cL_law 957 = .ok (.ireturn, 1) := by decide +kernel
theorem dL_law_958 : decode cL_law 958 = .ok (.aload_n 1, 1) := by decide +kernel
theorem dL_law_959 : decode cL_law 959 = .ok (.invokevirtual 138, 3) := by decide +kernel
theorem dL_law_962 : decode cL_law 962 = .ok (.aload_n 2, 1) := by decide +kernel
theorem dL_law_963 : decode cL_law 963 = .ok (.invokevirtual 142, 3) := by decide +kernel
theorem dL_law_966 : decode cL_law 966 = .ok (.lcmp, 1) := by decide +kernel
theorem dL_law_967 : decode cL_law 967 = .ok (.ifCond .eq 5, 3) := by decide +kernel
theorem dL_law_970 : decode cL_law 970 = .ok (.iconst 0, 1) := by decide +kernel
theorem dL_law_971 : decode cL_law 971 = .ok (.ireturn, 1) := by decide +kernel
theorem dL_law_972 : decode cL_law 972 = .ok (.iinc 3 6, 3) := by decide +kernel
theorem dL_law_975 : decode cL_law 975 = .ok (.goto (-937), 3) := by decide +kernel
theorem dL_law_978 : decode cL_law 978 = .ok (.iconst 1, 1) := by decide +kernel
theorem dL_law_979 : decode cL_law 979 = .ok (.ireturn, 1) := by decide +kernel
