theorem dX9_addTimes_94 : decode cX9_addTimes 94 = .ok (.iload 4, 2) := by decide +kernel
theorem dX9_addTimes_96 : decode cX9_addTimes 96 = .ok (.aload_n 0, 1) := by decide +kernel
theorem dX9_addTimes_97 : decode cX9_addTimes 97 = .ok (.getfield 20, 3) := by decide +kernel
theorem dX9_addTimes_100 : decode cX9_addTimes 100 = .ok (.sipush 160, 3) := by decide +kernel
theorem dX9_addTimes_103 : decode cX9_addTimes 103 = .ok (.iload_n 1, 1) := by decide +kernel
theorem dX9_addTimes_104 : decode cX9_addTimes 104 = .ok (.imul, 1) := by decide +kernel
theorem dX9_addTimes_105 : decode cX9_addTimes 105 = .ok (.iconst 4, 1) := by decide +kernel
theorem dX9_addTimes_106 : decode cX9_addTimes 106 = .ok (.iload_n 3, 1) := by decide +kernel
theorem dX9_addTimes_107 : decode cX9_addTimes 107 = .ok (.imul, 1) := by decide +kernel
theorem dX9_addTimes_108 : decode cX9_addTimes 108 = .ok (.iadd, 1) := by decide +kernel
theorem dX9_addTimes_109 : decode cX9_addTimes 109 = .ok (.iload 4, 2) := by decide +kernel
theorem dX9_addTimes_111 : decode cX9_addTimes 111 = .ok (.iadd, 1) := by decide +kernel
theorem dX9_addTimes_112 : decode cX9_addTimes 112 = .ok (.iaload, 1) := by decide +kernel
theorem dX9_addTimes_113 : decode cX9_addTimes 113 = .ok (.aload_n 0, 1) := by decide +kernel
theorem dX9_addTimes_114 : decode cX9_addTimes 114 = .ok (.getfield 41, 3) := by decide +kernel
theorem dX9_addTimes_117 : decode cX9_addTimes 117 = .ok (.iload 4, 2) := by decide +kernel
theorem dX9_addTimes_119 : decode cX9_addTimes 119 = .ok (.iaload, 1) := by decide +kernel
theorem dX9_addTimes_120 : decode cX9_addTimes 120 = .ok (.iadd, 1) := by decide +kernel
theorem dX9_addTimes_121 : decode cX9_addTimes 121 = .ok (.iastore, 1) := by decide +kernel
theorem dX9_addTimes_122 : decode cX9_addTimes 122 = .ok (.iinc 4 1, 3) := by decide +kernel
theorem dX9_addTimes_125 : decode cX9_addTimes 125 = .ok (.goto (-41), 3) := by decide +kernel
theorem dX9_addTimes_128 : decode cX9_addTimes 128 = .ok (.aload_n 0, 1) := by decide +kernel
theorem dX9_addTimes_129 : decode cX9_addTimes 129 = .ok (.aload_n 0, 1) := by decide +kernel
theorem dX9_addTimes_130 : decode cX9_addTimes 130 = .ok (.getfield 17, 3) := by decide +kernel
theorem dX9_addTimes_133 : decode cX9_addTimes 133 = .ok (.bipush 40, 2) := by decide +kernel
theorem dX9_addTimes_135 : decode cX9_addTimes 135 = .ok (.iload_n 1, 1) := by decide +kernel
theorem dX9_addTimes_136 : decode cX9_addTimes 136 = .ok (.imul, 1) := by decide +kernel
theorem dX9_addTimes_137 : decode cX9_addTimes 137 = .ok (.iload_n 3, 1) := by decide +kernel
theorem dX9_addTimes_138 : decode cX9_addTimes 138 = .ok (.iadd, 1) := by decide +kernel
theorem dX9_addTimes_139 : decode cX9_addTimes 139 = .ok (.iaload, 1) := by decide +kernel
theorem dX9_addTimes_140 : decode cX9_addTimes 140 = .ok (.iload_n 2, 1) := by decide +kernel
theorem dX9_addTimes_141 : decode cX9_addTimes 141 = .ok (.imul, 1) := by decide +kernel
theorem dX9_addTimes_142 : decode cX9_addTimes 142 = .ok (.aload_n 0, 1) := by decide +kernel
theorem dX9_addTimes_143 : decode cX9_addTimes 143 = .ok (.getfield 72, 3) := by decide +kernel
theorem dX9_addTimes_146 : decode cX9_addTimes 146 = .ok (.irem, 1) := by decide +kernel
theorem dX9_addTimes_147 : decode cX9_addTimes 147 = .ok (.invokevirtual 96, 3) := by decide +kernel
theorem dX9_addTimes_150 : decode cX9_addTimes 150 = .ok (.iinc 3 1, 3) := by decide +kernel
theorem dX9_addTimes_153 : decode cX9_addTimes 153 = .ok (.goto (-86), 3) := by decide +kernel
theorem dX9_addTimes_156 : decode cX9_addTimes 156 = .ok (.iconst 1, 1) := by decide +kernel
theorem dX9_addTimes_157 : decode cX9_addTimes 157 = .ok (.ireturn, 1) := by decide +kernel
theorem dX9_byOne_0 : decode cX9_byOne 0 = .ok (.iconst 0, 1) := by decide +kernel
theorem dX9_byOne_1 : decode cX9_byOne 1 = .ok (.istore_n 1, 1) := by decide +kernel
theorem dX9_byOne_2 : decode cX9_byOne 2 = .ok (.iload_n 1, 1) := by decide +kernel
theorem dX9_byOne_3 : decode cX9_byOne 3 = .ok (.iconst 4, 1) := by decide +kernel
theorem dX9_byOne_4 : decode cX9_byOne 4 = .ok (.if_icmp .ge 16, 3) := by decide +kernel
theorem dX9_byOne_7 : decode cX9_byOne 7 = .ok (.aload_n 0, 1) := by decide +kernel
theorem dX9_byOne_8 : decode cX9_byOne 8 = .ok (.getfield 41, 3) := by decide +kernel
theorem dX9_byOne_11 : decode cX9_byOne 11 = .ok (.iload_n 1, 1) := by decide +kernel
theorem dX9_byOne_12 : decode cX9_byOne 12 = .ok (.iconst 0, 1) := by decide +kernel
theorem dX9_byOne_13 : decode cX9_byOne 13 = .ok (.iastore, 1) := by decide +kernel
theorem dX9_byOne_14 : decode cX9_byOne 14 = .ok (.iinc 1 1, 3) := by decide +kernel
theorem dX9_byOne_17 : decode cX9_byOne 17 = .ok (.goto (-15), 3) := by decide +kernel
theorem dX9_byOne_20 : decode cX9_byOne 20 = .ok (.return_, 1) := by decide +kernel
theorem dX9_clean_0 : decode cX9_clean 0 = .ok (.iconst 0, 1) := by decide +kernel
theorem dX9_clean_1 : decode cX9_clean 1 = .ok (.istore_n 1, 1) := by decide +kernel
theorem dX9_clean_2 : decode cX9_clean 2 = .ok (.iconst 0, 1) := by decide +kernel
theorem dX9_clean_3 : decode cX9_clean 3 = .ok (.istore_n 2, 1) := by decide +kernel
theorem dX9_clean_4 : decode cX9_clean 4 = .ok (.iload_n 2, 1) := by decide +kernel
theorem dX9_clean_5 : decode cX9_clean 5 = .ok (.aload_n 0, 1) := by decide +kernel
theorem dX9_clean_6 : decode cX9_clean 6 = .ok (.getfield 90, 3) := by decide +kernel
theorem dX9_clean_9 : decode cX9_clean 9 = .ok (.if_icmp .ge 66, 3) := by decide +kernel
theorem dX9_clean_12 : decode cX9_clean 12 = .ok (.aload_n 0, 1) := by decide +kernel
theorem dX9_clean_13 : decode cX9_clean 13 = .ok (.getfield 32, 3) := by decide +kernel
theorem dX9_clean_16 : decode cX9_clean 16 = .ok (.iload_n 2, 1) := by decide +kernel
theorem dX9_clean_17 : decode cX9_clean 17 = .ok (.iaload, 1) := by decide +kernel
theorem dX9_clean_18 : decode cX9_clean 18 = .ok (.ifCond .eq 51, 3) := by decide +kernel
theorem dX9_clean_21 : decode cX9_clean 21 = .ok (.aload_n 0, 1) := by decide +kernel
theorem dX9_clean_22 : decode cX9_clean 22 = .ok (.getfield 32, 3) := by decide +kernel
theorem dX9_clean_25 : decode cX9_clean 25 = .ok (.iload_n 1, 1) := by decide +kernel
theorem dX9_clean_26 : decode cX9_clean 26 = .ok (.aload_n 0, 1) := by decide +kernel
theorem dX9_clean_27 : decode cX9_clean 27 = .ok (.getfield 32, 3) := by decide +kernel
theorem dX9_clean_30 : decode cX9_clean 30 = .ok (.iload_n 2, 1) := by decide +kernel
theorem dX9_clean_31 : decode cX9_clean 31 = .ok (.iaload, 1) := by decide +kernel
theorem dX9_clean_32 : decode cX9_clean 32 = .ok (.iastore, 1) := by decide +kernel
theorem dX9_clean_33 : decode cX9_clean 33 = .ok (.iconst 0, 1) := by decide +kernel
theorem dX9_clean_34 : decode cX9_clean 34 = .ok (.istore_n 3, 1) := by decide +kernel
theorem dX9_clean_35 : decode cX9_clean 35 = .ok (.iload_n 3, 1) := by decide +kernel
theorem dX9_clean_36 : decode cX9_clean 36 = .ok (.iconst 4, 1) := by decide +kernel
theorem dX9_clean_37 : decode cX9_clean 37 = .ok (.if_icmp .ge 29, 3) := by decide +kernel
theorem dX9_clean_40 : decode cX9_clean 40 = .ok (.aload_n 0, 1) := by decide +kernel
theorem dX9_clean_41 : decode cX9_clean 41 = .ok (.getfield 35, 3) := by decide +kernel
theorem dX9_clean_44 : decode cX9_clean 44 = .ok (.iconst 4, 1) := by decide +kernel
theorem dX9_clean_45 : decode cX9_clean 45 = .ok (.iload_n 1, 1) := by decide +kernel
theorem dX9_clean_46 : decode cX9_clean 46 = .ok (.imul, 1) := by decide +kernel
theorem dX9_clean_47 : decode cX9_clean 47 = .ok (.iload_n 3, 1) := by decide +kernel
theorem dX9_clean_48 : decode cX9_clean 48 = .ok (.iadd, 1) := by decide +kernel
theorem dX9_clean_49 : decode cX9_clean 49 = .ok (.aload_n 0, 1) := by decide +kernel
theorem dX9_clean_50 : decode cX9_clean 50 = .ok (.getfield 35, 3) := by decide +kernel
theorem dX9_clean_53 : decode cX9_clean 53 = .ok (.iconst 4, 1) := by decide +kernel
theorem dX9_clean_54 : decode cX9_clean 54 = .ok (.iload_n 2, 1) := by decide +kernel
theorem dX9_clean_55 : decode cX9_clean 55 = .ok (.imul, 1) := by decide +kernel
theorem dX9_clean_56 : decode cX9_clean 56 = .ok (.iload_n 3, 1) := by decide +kernel
theorem dX9_clean_57 : decode cX9_clean 57 = .ok (.iadd, 1) := by decide +kernel
theorem dX9_clean_58 : decode cX9_clean 58 = .ok (.iaload, 1) := by decide +kernel
theorem dX9_clean_59 : decode cX9_clean 59 = .ok (.iastore, 1) := by decide +kernel
theorem dX9_clean_60 : decode cX9_clean 60 = .ok (.iinc 3 1, 3) := by decide +kernel
theorem dX9_clean_63 : decode cX9_clean 63 = .ok (.goto (-28), 3) := by decide +kernel
theorem dX9_clean_66 : decode cX9_clean 66 = .ok (.iinc 1 1, 3) := by decide +kernel
theorem dX9_clean_69 : decode cX9_clean 69 = .ok (.iinc 2 1, 3) := by decide +kernel
theorem dX9_clean_72 : decode cX9_clean 72 = .ok (.goto (-68), 3) := by decide +kernel
theorem dX9_clean_75 : decode cX9_clean 75 = .ok (.aload_n 0, 1) := by decide +kernel
theorem dX9_clean_76 : decode cX9_clean 76 = .ok (.iload_n 1, 1) := by decide +kernel
theorem dX9_clean_77 : decode cX9_clean 77 = .ok (.putfield 90, 3) := by decide +kernel
theorem dX9_clean_80 : decode cX9_clean 80 = .ok (.return_, 1) := by decide +kernel
theorem dX9_lay_0 : decode cX9_lay 0 = .ok (.aload_n 0, 1) := by decide +kernel
theorem dX9_lay_1 : decode cX9_lay 1 = .ok (.getfield 13, 3) := by decide +kernel
theorem dX9_lay_4 : decode cX9_lay 4 = .ok (.iload_n 1, 1) := by decide +kernel
theorem dX9_lay_5 : decode cX9_lay 5 = .ok (.aload_n 0, 1) := by decide +kernel
theorem dX9_lay_6 : decode cX9_lay 6 = .ok (.getfield 90, 3) := by decide +kernel
theorem dX9_lay_9 : decode cX9_lay 9 = .ok (.iastore, 1) := by decide +kernel
theorem dX9_lay_10 : decode cX9_lay 10 = .ok (.iconst 0, 1) := by decide +kernel
theorem dX9_lay_11 : decode cX9_lay 11 = .ok (.istore_n 3, 1) := by decide +kernel
theorem dX9_lay_12 : decode cX9_lay 12 = .ok (.iload_n 3, 1) := by decide +kernel
theorem dX9_lay_13 : decode cX9_lay 13 = .ok (.aload_n 0, 1) := by decide +kernel
theorem dX9_lay_14 : decode cX9_lay 14 = .ok (.getfield 90, 3) := by decide +kernel
theorem dX9_lay_17 : decode cX9_lay 17 = .ok (.if_icmp .ge 76, 3) := by decide +kernel
theorem dX9_lay_20 : decode cX9_lay 20 = .ok (.aload_n 0, 1) := by decide +kernel
theorem dX9_lay_21 : decode cX9_lay 21 = .ok (.getfield 17, 3) := by decide +kernel
theorem dX9_lay_24 : decode cX9_lay 24 = .ok (.bipush 40, 2) := by decide +kernel
theorem dX9_lay_26 : decode cX9_lay 26 = .ok (.iload_n 1, 1) := by decide +kernel
theorem dX9_lay_27 : decode cX9_lay 27 = .ok (.imul, 1) := by decide +kernel
theorem dX9_lay_28 : decode cX9_lay 28 = .ok (.iload_n 3, 1) := by decide +kernel
theorem dX9_lay_29 : decode cX9_lay 29 = .ok (.iadd, 1) := by decide +kernel
theorem dX9_lay_30 : decode cX9_lay 30 = .ok (.aload_n 0, 1) := by decide +kernel
theorem dX9_lay_31 : decode cX9_lay 31 = .ok (.getfield 32, 3) := by decide +kernel
theorem dX9_lay_34 : decode cX9_lay 34 = .ok (.iload_n 3, 1) := by decide +kernel
theorem dX9_lay_35 : decode cX9_lay 35 = .ok (.iaload, 1) := by decide +kernel
theorem dX9_lay_36 : decode cX9_lay 36 = .ok (.iload_n 2, 1) := by decide +kernel
theorem dX9_lay_37 : decode cX9_lay 37 = .ok (.imul, 1) := by decide +kernel
theorem dX9_lay_38 : decode cX9_lay 38 = .ok (.aload_n 0, 1) := by decide +kernel
theorem dX9_lay_39 : decode cX9_lay 39 = .ok (.getfield 72, 3) := by decide +kernel
theorem dX9_lay_42 : decode cX9_lay 42 = .ok (.irem, 1) := by decide +kernel
theorem dX9_lay_43 : decode cX9_lay 43 = .ok (.iastore, 1) := by decide +kernel
theorem dX9_lay_44 : decode cX9_lay 44 = .ok (.iconst 0, 1) := by decide +kernel
theorem dX9_lay_45 : decode cX9_lay 45 = .ok (.istore 4, 2) := by decide +kernel
theorem dX9_lay_47 : decode cX9_lay 47 = .ok (.iload 4, 2) := by decide +kernel
theorem dX9_lay_49 : decode cX9_lay 49 = .ok (.iconst 4, 1) := by decide +kernel
theorem dX9_lay_50 : decode cX9_lay 50 = .ok (.if_icmp .ge 37, 3) := by decide +kernel
theorem dX9_lay_53 : decode cX9_lay 53 = .ok (.aload_n 0, 1) := by decide +kernel
theorem dX9_lay_54 : decode cX9_lay 54 = .ok (.getfield 20, 3) := by decide +kernel
theorem dX9_lay_57 : decode cX9_lay 57 = .ok (.sipush 160, 3) := by decide +kernel
theorem dX9_lay_60 : decode cX9_lay 60 = .ok (.iload_n 1, 1) := by decide +kernel
theorem dX9_lay_61 : decode cX9_lay 61 = .ok (.imul, 1) := by decide +kernel
theorem dX9_lay_62 : decode cX9_lay 62 = .ok (.iconst 4, 1) := by decide +kernel
theorem dX9_lay_63 : decode cX9_lay 63 = .ok (.iload_n 3, 1) := by decide +kernel
theorem dX9_lay_64 : decode cX9_lay 64 = .ok (.imul, 1) := by decide +kernel
theorem dX9_lay_65 : decode cX9_lay 65 = .ok (.iadd, 1) := by decide +kernel
theorem dX9_lay_66 : decode cX9_lay 66 = .ok (.iload 4, 2) := by decide +kernel
theorem dX9_lay_68 : decode cX9_lay 68 = .ok (.iadd, 1) := by decide +kernel
theorem dX9_lay_69 : decode cX9_lay 69 = .ok (.aload_n 0, 1) := by decide +kernel
theorem dX9_lay_70 : decode cX9_lay 70 = .ok (.getfield 35, 3) := by decide +kernel
theorem dX9_lay_73 : decode cX9_lay 73 = .ok (.iconst 4, 1) := by decide +kernel
theorem dX9_lay_74 : decode cX9_lay 74 = .ok (.iload_n 3, 1) := by decide +kernel
theorem dX9_lay_75 : decode cX9_lay 75 = .ok (.imul, 1) := by decide +kernel
theorem dX9_lay_76 : decode cX9_lay 76 = .ok (.iload 4, 2) := by decide +kernel
theorem dX9_lay_78 : decode cX9_lay 78 = .ok (.iadd, 1) := by decide +kernel
theorem dX9_lay_79 : decode cX9_lay 79 = .ok (.iaload, 1) := by decide +kernel
theorem dX9_lay_80 : decode cX9_lay 80 = .ok (.iastore, 1) := by decide +kernel
theorem dX9_lay_81 : decode cX9_lay 81 = .ok (.iinc 4 1, 3) := by decide +kernel
theorem dX9_lay_84 : decode cX9_lay 84 = .ok (.goto (-37), 3) := by decide +kernel
theorem dX9_lay_87 : decode cX9_lay 87 = .ok (.iinc 3 1, 3) := by decide +kernel
theorem dX9_lay_90 : decode cX9_lay 90 = .ok (.goto (-78), 3) := by decide +kernel
theorem dX9_lay_93 : decode cX9_lay 93 = .ok (.return_, 1) := by decide +kernel
theorem dX9_fetch_0 : decode cX9_fetch 0 = .ok (.aload_n 0, 1) := by decide +kernel
theorem dX9_fetch_1 : decode cX9_fetch 1 = .ok (.aload_n 0, 1) := by decide +kernel
theorem dX9_fetch_2 : decode cX9_fetch 2 = .ok (.getfield 13, 3) := by decide +kernel
theorem dX9_fetch_5 : decode cX9_fetch 5 = .ok (.iload_n 1, 1) := by decide +kernel
theorem dX9_fetch_6 : decode cX9_fetch 6 = .ok (.iaload, 1) := by decide +kernel
theorem dX9_fetch_7 : decode cX9_fetch 7 = .ok (.putfield 90, 3) := by decide +kernel
theorem dX9_fetch_10 : decode cX9_fetch 10 = .ok (.iconst 0, 1) := by decide +kernel
theorem dX9_fetch_11 : decode cX9_fetch 11 = .ok (.istore_n 2, 1) := by decide +kernel
theorem dX9_fetch_12 : decode cX9_fetch 12 = .ok (.iload_n 2, 1) := by decide +kernel
theorem dX9_fetch_13 : decode cX9_fetch 13 = .ok (.aload_n 0, 1) := by decide +kernel
theorem dX9_fetch_14 : decode cX9_fetch 14 = .ok (.getfield 90, 3) := by decide +kernel
theorem dX9_fetch_17 : decode cX9_fetch 17 = .ok (.if_icmp .ge 65, 3) := by decide +kernel
theorem dX9_fetch_20 : decode cX9_fetch 20 = .ok (.aload_n 0, 1) := by decide +kernel
theorem dX9_fetch_21 : decode cX9_fetch 21 = .ok (.getfield 32, 3) := by decide +kernel
theorem dX9_fetch_24 : decode cX9_fetch 24 = .ok (.iload_n 2, 1) := by decide +kernel
theorem dX9_fetch_25 : decode cX9_fetch 25 = .ok (.aload_n 0, 1) := by decide +kernel
theorem dX9_fetch_26 : decode cX9_fetch 26 = .ok (.getfield 17, 3) := by decide +kernel
theorem dX9_fetch_29 : decode cX9_fetch 29 = .ok (.bipush 40, 2) := by decide +kernel
theorem dX9_fetch_31 : decode cX9_fetch 31 = .ok (.iload_n 1, 1) := by decide +kernel
theorem dX9_fetch_32 : decode cX9_fetch 32 = .ok (.imul, 1) := by decide +kernel
theorem dX9_fetch_33 : decode cX9_fetch 33 = .ok (.iload_n 2, 1) := by decide +kernel
theorem dX9_fetch_34 : decode cX9_fetch 34 = .ok (.iadd, 1) := by decide +kernel
theorem dX9_fetch_35 : decode cX9_fetch 35 = .ok (.iaload, 1) := by decide +kernel
theorem dX9_fetch_36 : decode cX9_fetch 36 = .ok (.iastore, 1) := by decide +kernel
theorem dX9_fetch_37 : decode cX9_fetch 37 = .ok (.iconst 0, 1) := by decide +kernel
theorem dX9_fetch_38 : decode cX9_fetch 38 = .ok (.istore_n 3, 1) := by decide +kernel
theorem dX9_fetch_39 : decode cX9_fetch 39 = .ok (.iload_n 3, 1) := by decide +kernel
theorem dX9_fetch_40 : decode cX9_fetch 40 = .ok (.iconst 4, 1) := by decide +kernel
theorem dX9_fetch_41 : decode cX9_fetch 41 = .ok (.if_icmp .ge 35, 3) := by decide +kernel
theorem dX9_fetch_44 : decode cX9_fetch 44 = .ok (.aload_n 0, 1) := by decide +kernel
theorem dX9_fetch_45 : decode cX9_fetch 45 = .ok (.getfield 35, 3) := by decide +kernel
theorem dX9_fetch_48 : decode cX9_fetch 48 = .ok (.iconst 4, 1) := by decide +kernel
theorem dX9_fetch_49 : decode cX9_fetch 49 = .ok (.iload_n 2, 1) := by decide +kernel
theorem dX9_fetch_50 : decode cX9_fetch 50 = .ok (.imul, 1) := by decide +kernel
theorem dX9_fetch_51 : decode cX9_fetch 51 = .ok (.iload_n 3, 1) := by decide +kernel
theorem dX9_fetch_52 : decode cX9_fetch 52 = .ok (.iadd, 1) := by decide +kernel
theorem dX9_fetch_53 : decode cX9_fetch 53 = .ok (.aload_n 0, 1) := by decide +kernel
theorem dX9_fetch_54 : decode cX9_fetch 54 = .ok (.getfield 20, 3) := by decide +kernel
theorem dX9_fetch_57 : decode cX9_fetch 57 = .ok (.sipush 160, 3) := by decide +kernel
theorem dX9_fetch_60 : decode cX9_fetch 60 = .ok (.iload_n 1, 1) := by decide +kernel
theorem dX9_fetch_61 : decode cX9_fetch 61 = .ok (.imul, 1) := by decide +kernel
theorem dX9_fetch_62 : decode cX9_fetch 62 = .ok (.iconst 4, 1) := by decide +kernel
theorem dX9_fetch_63 : decode cX9_fetch 63 = .ok (.iload_n 2, 1) := by decide +kernel
theorem dX9_fetch_64 : decode cX9_fetch 64 = .ok (.imul, 1) := by decide +kernel
theorem dX9_fetch_65 : decode cX9_fetch 65 = .ok (.iadd, 1) := by decide +kernel
theorem dX9_fetch_66 : decode cX9_fetch 66 = .ok (.iload_n 3, 1) := by decide +kernel
theorem dX9_fetch_67 : decode cX9_fetch 67 = .ok (.iadd, 1) := by decide +kernel
theorem dX9_fetch_68 : decode cX9_fetch 68 = .ok (.iaload, 1) := by decide +kernel
theorem dX9_fetch_69 : decode cX9_fetch 69 = .ok (.iastore, 1) := by decide +kernel
theorem dX9_fetch_70 : decode cX9_fetch 70 = .ok (.iinc 3 1, 3) := by decide +kernel
theorem dX9_fetch_73 : decode cX9_fetch 73 = .ok (.goto (-34), 3) := by decide +kernel
theorem dX9_fetch_76 : decode cX9_fetch 76 = .ok (.iinc 2 1, 3) := by decide +kernel
theorem dX9_fetch_79 : decode cX9_fetch 79 = .ok (.goto (-67), 3) := by decide +kernel
theorem dX9_fetch_82 : decode cX9_fetch 82 = .ok (.return_, 1) := by decide +kernel
theorem dX9_copy_0 : decode cX9_copy 0 = .ok (.aload_n 0, 1) := by decide +kernel
theorem dX9_copy_1 : decode cX9_copy 1 = .ok (.iload_n 1, 1) := by decide +kernel
theorem dX9_copy_2 : decode cX9_copy 2 = .ok (.invokevirtual 100, 3) := by decide +kernel
theorem dX9_copy_5 : decode cX9_copy 5 = .ok (.aload_n 0, 1) := by decide +kernel
theorem dX9_copy_6 : decode cX9_copy 6 = .ok (.iload_n 2, 1) := by decide +kernel
theorem dX9_copy_7 : decode cX9_copy 7 = .ok (.iconst 1, 1) := by decide +kernel
theorem dX9_copy_8 : decode cX9_copy 8 = .ok (.invokevirtual 103, 3) := by decide +kernel
theorem dX9_copy_11 : decode cX9_copy 11 = .ok (.return_, 1) := by decide +kernel
theorem dX9_placeOf_0 : decode cX9_placeOf 0 = .ok (.iload_n 1, 1) := by decide +kernel
theorem dX9_placeOf_1 : decode cX9_placeOf 1 = .ok (.iconst (-1), 1) := by decide +kernel
theorem dX9_placeOf_2 : decode cX9_placeOf 2 = .ok (.if_icmp .ne 5, 3) := by decide +kernel
theorem dX9_placeOf_5 : decode cX9_placeOf 5 = .ok (.iconst 0, 1) := by decide +kernel
theorem dX9_placeOf_6 : decode cX9_placeOf 6 = .ok (.ireturn, 1) := by decide +kernel
theorem dX9_placeOf_7 : decode cX9_placeOf 7 = .ok (.iload_n 1, 1) := by decide +kernel
theorem dX9_placeOf_8 : decode cX9_placeOf 8 = .ok (.ifCond .lt 30, 3) := by decide +kernel
theorem dX9_placeOf_11 : decode cX9_placeOf 11 = .ok (.iload_n 1, 1) := by decide +kernel
theorem dX9_placeOf_12 : decode cX9_placeOf 12 = .ok (.bipush 24, 2) := by decide +kernel
theorem dX9_placeOf_14 : decode cX9_placeOf 14 = .ok (.if_icmp .ge 21, 3) := by decide +kernel
theorem dX9_placeOf_17 : decode cX9_placeOf 17 = .ok (.aload_n 0, 1) := by decide +kernel
theorem dX9_placeOf_18 : decode cX9_placeOf 18 = .ok (.getfield 13, 3) := by decide +kernel
theorem dX9_placeOf_21 : decode cX9_placeOf 21 = .ok (.iconst 1, 1) := by decide +kernel
theorem dX9_placeOf_22 : decode cX9_placeOf 22 = .ok (.iload_n 1, 1) := by decide +kernel
theorem dX9_placeOf_23 : decode cX9_placeOf 23 = .ok (.iadd, 1) := by decide +kernel
theorem dX9_placeOf_24 : decode cX9_placeOf 24 = .ok (.iaload, 1) := by decide +kernel
theorem dX9_placeOf_25 : decode cX9_placeOf 25 = .ok (.iconst (-1), 1) := by decide +kernel
theorem dX9_placeOf_26 : decode cX9_placeOf 26 = .ok (.if_icmp .eq 9, 3) := by decide +kernel
theorem dX9_placeOf_29 : decode cX9_placeOf 29 = .ok (.iconst 1, 1) := by decide +kernel
theorem dX9_placeOf_30 : decode cX9_placeOf 30 = .ok (.iload_n 1, 1) := by decide +kernel
theorem dX9_placeOf_31 : decode cX9_placeOf 31 = .ok (.iadd, 1) := by decide +kernel
theorem dX9_placeOf_32 : decode cX9_placeOf 32 = .ok (.goto 5, 3) := by decide +kernel
theorem dX9_placeOf_35 : decode cX9_placeOf 35 = .ok (.bipush (-2), 2) := by decide +kernel
theorem dX9_placeOf_37 : decode cX9_placeOf 37 = .ok (.ireturn, 1) := by decide +kernel
theorem dX9_placeOf_38 : decode cX9_placeOf 38 = .ok (.iload_n 1, 1) := by decide +kernel
theorem dX9_placeOf_39 : decode cX9_placeOf 39 = .ok (.iconst (-1), 1) := by decide +kernel
theorem dX9_placeOf_40 : decode cX9_placeOf 40 = .ok (.aload_n 0, 1) := by decide +kernel
theorem dX9_placeOf_41 : decode cX9_placeOf 41 = .ok (.getfield 107, 3) := by decide +kernel
theorem dX9_placeOf_44 : decode cX9_placeOf 44 = .ok (.isub, 1) := by decide +kernel
theorem dX9_placeOf_45 : decode cX9_placeOf 45 = .ok (.if_icmp .lt 10, 3) := by decide +kernel
theorem dX9_placeOf_48 : decode cX9_placeOf 48 = .ok (.bipush 23, 2) := by decide +kernel
theorem dX9_placeOf_50 : decode cX9_placeOf 50 = .ok (.iload_n 1, 1) := by decide +kernel
theorem dX9_placeOf_51 : decode cX9_placeOf 51 = .ok (.isub, 1) := by decide +kernel
theorem dX9_placeOf_52 : decode cX9_placeOf 52 = .ok (.goto 5, 3) := by decide +kernel
theorem dX9_placeOf_55 : decode cX9_placeOf 55 = .ok (.bipush (-2), 2) := by decide +kernel
theorem dX9_placeOf_57 : decode cX9_placeOf 57 = .ok (.ireturn, 1) := by decide +kernel
theorem dX9_free_0 : decode cX9_free 0 = .ok (.iconst 1, 1) := by decide +kernel
theorem dX9_free_1 : decode cX9_free 1 = .ok (.istore_n 1, 1) := by decide +kernel
theorem dX9_free_2 : decode cX9_free 2 = .ok (.iload_n 1, 1) := by decide +kernel
theorem dX9_free_3 : decode cX9_free 3 = .ok (.bipush 25, 2) := by decide +kernel
theorem dX9_free_5 : decode cX9_free 5 = .ok (.if_icmp .ge 19, 3) := by decide +kernel
theorem dX9_free_8 : decode cX9_free 8 = .ok (.aload_n 0, 1) := by decide +kernel
theorem dX9_free_9 : decode cX9_free 9 = .ok (.getfield 13, 3) := by decide +kernel
theorem dX9_free_12 : decode cX9_free 12 = .ok (.iload_n 1, 1) := by decide +kernel
theorem dX9_free_13 : decode cX9_free 13 = .ok (.iaload, 1) := by decide +kernel
theorem dX9_free_14 : decode cX9_free 14 = .ok (.iconst (-1), 1) := by decide +kernel
theorem dX9_free_15 : decode cX9_free 15 = .ok (.if_icmp .eq 9, 3) := by decide +kernel
theorem dX9_free_18 : decode cX9_free 18 = .ok (.iinc 1 1, 3) := by decide +kernel
theorem dX9_free_21 : decode cX9_free 21 = .ok (.goto (-19), 3) := by decide +kernel
theorem dX9_free_24 : decode cX9_free 24 = .ok (.iload_n 1, 1) := by decide +kernel
theorem dX9_free_25 : decode cX9_free 25 = .ok (.ireturn, 1) := by decide +kernel
theorem dX9_shelve_0 : decode cX9_shelve 0 = .ok (.aload_n 0, 1) := by decide +kernel
theorem dX9_shelve_1 : decode cX9_shelve 1 = .ok (.invokevirtual 110, 3) := by decide +kernel
theorem dX9_shelve_4 : decode cX9_shelve 4 = .ok (.aload_n 0, 1) := by decide +kernel
theorem dX9_shelve_5 : decode cX9_shelve 5 = .ok (.getfield 90, 3) := by decide +kernel
theorem dX9_shelve_8 : decode cX9_shelve 8 = .ok (.bipush 40, 2) := by decide +kernel
theorem dX9_shelve_10 : decode cX9_shelve 10 = .ok (.if_icmp .le 6, 3) := by decide +kernel
theorem dX9_shelve_13 : decode cX9_shelve 13 = .ok (.bipush (-6), 2) := by decide +kernel
theorem dX9_shelve_15 : decode cX9_shelve 15 = .ok (.ireturn, 1) := by decide +kernel
theorem dX9_shelve_16 : decode cX9_shelve 16 = .ok (.aload_n 0, 1) := by decide +kernel
theorem dX9_shelve_17 : decode cX9_shelve 17 = .ok (.iload_n 1, 1) := by decide +kernel
theorem dX9_shelve_18 : decode cX9_shelve 18 = .ok (.iconst 1, 1) := by decide +kernel
theorem dX9_shelve_19 : decode cX9_shelve 19 = .ok (.invokevirtual 103, 3) := by decide +kernel
theorem dX9_shelve_22 : decode cX9_shelve 22 = .ok (.iload_n 1, 1) := by decide +kernel
theorem dX9_shelve_23 : decode cX9_shelve 23 = .ok (.iconst 1, 1) := by decide +kernel
theorem dX9_shelve_24 : decode cX9_shelve 24 = .ok (.isub, 1) := by decide +kernel
theorem dX9_shelve_25 : decode cX9_shelve 25 = .ok (.ireturn, 1) := by decide +kernel
theorem dX9_order_0 : decode cX9_order 0 = .ok (.iload_n 1, 1) := by decide +kernel
theorem dX9_order_1 : decode cX9_order 1 = .ok (.iconst 0, 1) := by decide +kernel
theorem dX9_order_2 : decode cX9_order 2 = .ok (.iconst 3, 1) := by decide +kernel
theorem dX9_order_3 : decode cX9_order 3 = .ok (.invokestatic 78, 3) := by decide +kernel
theorem dX9_order_6 : decode cX9_order 6 = .ok (.ifCond .ne 6, 3) := by decide +kernel
theorem dX9_order_9 : decode cX9_order 9 = .ok (.bipush (-2), 2) := by decide +kernel
theorem dX9_order_11 : decode cX9_order 11 = .ok (.ireturn, 1) := by decide +kernel
theorem dX9_order_12 : decode cX9_order 12 = .ok (.aload_n 0, 1) := by decide +kernel
theorem dX9_order_13 : decode cX9_order 13 = .ok (.getfield 107, 3) := by decide +kernel
theorem dX9_order_16 : decode cX9_order 16 = .ok (.ifCond .le 6, 3) := by decide +kernel
theorem dX9_order_19 : decode cX9_order 19 = .ok (.bipush (-3), 2) := by decide +kernel
theorem dX9_order_21 : decode cX9_order 21 = .ok (.ireturn, 1) := by decide +kernel
theorem dX9_order_22 : decode cX9_order 22 = .ok (.aload_n 0, 1) := by decide +kernel
theorem dX9_order_23 : decode cX9_order 23 = .ok (.getfield 7, 3) := by decide +kernel
theorem dX9_order_26 : decode cX9_order 26 = .ok (.istore_n 2, 1) := by decide +kernel
theorem dX9_order_27 : decode cX9_order 27 = .ok (.aload_n 0, 1) := by decide +kernel
theorem dX9_order_28 : decode cX9_order 28 = .ok (.iload_n 1, 1) := by decide +kernel
theorem dX9_order_29 : decode cX9_order 29 = .ok (.putfield 7, 3) := by decide +kernel
theorem dX9_order_32 : decode cX9_order 32 = .ok (.aload_n 0, 1) := by decide +kernel
theorem dX9_order_33 : decode cX9_order 33 = .ok (.invokevirtual 113, 3) := by decide +kernel
theorem dX9_order_36 : decode cX9_order 36 = .ok (.iconst 0, 1) := by decide +kernel
theorem dX9_order_37 : decode cX9_order 37 = .ok (.istore_n 3, 1) := by decide +kernel
theorem dX9_order_38 : decode cX9_order 38 = .ok (.iload_n 3, 1) := by decide +kernel
theorem dX9_order_39 : decode cX9_order 39 = .ok (.bipush 25, 2) := by decide +kernel
theorem dX9_order_41 : decode cX9_order 41 = .ok (.if_icmp .ge 37, 3) := by decide +kernel
theorem dX9_order_44 : decode cX9_order 44 = .ok (.aload_n 0, 1) := by decide +kernel
theorem dX9_order_45 : decode cX9_order 45 = .ok (.getfield 13, 3) := by decide +kernel
theorem dX9_order_48 : decode cX9_order 48 = .ok (.iload_n 3, 1) := by decide +kernel
theorem dX9_order_49 : decode cX9_order 49 = .ok (.iaload, 1) := by decide +kernel
theorem dX9_order_50 : decode cX9_order 50 = .ok (.ifCond .le 22, 3) := by decide +kernel
theorem dX9_order_53 : decode cX9_order 53 = .ok (.aload_n 0, 1) := by decide +kernel
theorem dX9_order_54 : decode cX9_order 54 = .ok (.iconst 0, 1) := by decide +kernel
theorem dX9_order_55 : decode cX9_order 55 = .ok (.putfield 90, 3) := by decide +kernel
theorem dX9_order_58 : decode cX9_order 58 = .ok (.aload_n 0, 1) := by decide +kernel
theorem dX9_order_59 : decode cX9_order 59 = .ok (.iload_n 3, 1) := by decide +kernel
theorem dX9_order_60 : decode cX9_order 60 = .ok (.iconst 1, 1) := by decide +kernel
theorem dX9_order_61 : decode cX9_order 61 = .ok (.invokevirtual 116, 3) := by decide +kernel
theorem dX9_order_64 : decode cX9_order 64 = .ok (.istore 4, 2) := by decide +kernel
theorem dX9_order_66 : decode cX9_order 66 = .ok (.aload_n 0, 1) := by decide +kernel
theorem dX9_order_67 : decode cX9_order 67 = .ok (.iload_n 3, 1) := by decide +kernel
theorem dX9_order_68 : decode cX9_order 68 = .ok (.iconst 1, 1) := by decide +kernel
theorem dX9_order_69 : decode cX9_order 69 = .ok (.invokevirtual 103, 3) := by decide +kernel
theorem dX9_order_72 : decode cX9_order 72 = .ok (.iinc 3 1, 3) := by decide +kernel
theorem dX9_order_75 : decode cX9_order 75 = .ok (.goto (-37), 3) := by decide +kernel
theorem dX9_order_78 : decode cX9_order 78 = .ok (.iload_n 2, 1) := by decide +kernel
theorem dX9_order_79 : decode cX9_order 79 = .ok (.ireturn, 1) := by decide +kernel
theorem dX9_term_0 : decode cX9_term 0 = .ok (.iload_n 2, 1) := by decide +kernel
theorem dX9_term_1 : decode cX9_term 1 = .ok (.iconst 0, 1) := by decide +kernel
theorem dX9_term_2 : decode cX9_term 2 = .ok (.bipush 30, 2) := by decide +kernel
theorem dX9_term_4 : decode cX9_term 4 = .ok (.invokestatic 78, 3) := by decide +kernel
theorem dX9_term_7 : decode cX9_term 7 = .ok (.ifCond .eq 75, 3) := by decide +kernel
theorem dX9_term_10 : decode cX9_term 10 = .ok (.iload_n 3, 1) := by decide +kernel
theorem dX9_term_11 : decode cX9_term 11 = .ok (.iconst 0, 1) := by decide +kernel
theorem dX9_term_12 : decode cX9_term 12 = .ok (.aload_n 0, 1) := by decide +kernel
theorem dX9_term_13 : decode cX9_term 13 = .ok (.getfield 75, 3) := by decide +kernel
theorem dX9_term_16 : decode cX9_term 16 = .ok (.iconst 2, 1) := by decide +kernel
theorem dX9_term_17 : decode cX9_term 17 = .ok (.if_icmp .ge 7, 3) := by decide +kernel
theorem dX9_term_20 : decode cX9_term 20 = .ok (.iconst 0, 1) := by decide +kernel
theorem dX9_term_21 : decode cX9_term 21 = .ok (.goto 5, 3) := by decide +kernel
theorem dX9_term_24 : decode cX9_term 24 = .ok (.bipush 30, 2) := by decide +kernel
theorem dX9_term_26 : decode cX9_term 26 = .ok (.invokestatic 78, 3) := by decide +kernel
theorem dX9_term_29 : decode cX9_term 29 = .ok (.ifCond .eq 53, 3) := by decide +kernel
theorem dX9_term_32 : decode cX9_term 32 = .ok (.iload 4, 2) := by decide +kernel
theorem dX9_term_34 : decode cX9_term 34 = .ok (.iconst 0, 1) := by decide +kernel
theorem dX9_term_35 : decode cX9_term 35 = .ok (.aload_n 0, 1) := by decide +kernel
theorem dX9_term_36 : decode cX9_term 36 = .ok (.getfield 75, 3) := by decide +kernel
theorem dX9_term_39 : decode cX9_term 39 = .ok (.iconst 3, 1) := by decide +kernel
theorem dX9_term_40 : decode cX9_term 40 = .ok (.if_icmp .ge 7, 3) := by decide +kernel
theorem dX9_term_43 : decode cX9_term 43 = .ok (.iconst 0, 1) := by decide +kernel
theorem dX9_term_44 : decode cX9_term 44 = .ok (.goto 5, 3) := by decide +kernel
theorem dX9_term_47 : decode cX9_term 47 = .ok (.bipush 30, 2) := by decide +kernel
theorem dX9_term_49 : decode cX9_term 49 = .ok (.invokestatic 78, 3) := by decide +kernel
theorem dX9_term_52 : decode cX9_term 52 = .ok (.ifCond .eq 30, 3) := by decide +kernel
theorem dX9_term_55 : decode cX9_term 55 = .ok (.iload 5, 2) := by decide +kernel
theorem dX9_term_57 : decode cX9_term 57 = .ok (.iconst 0, 1) := by decide +kernel
theorem dX9_term_58 : decode cX9_term 58 = .ok (.aload_n 0, 1) := by decide +kernel
theorem dX9_term_59 : decode cX9_term 59 = .ok (.getfield 75, 3) := by decide +kernel
theorem dX9_term_62 : decode cX9_term 62 = .ok (.iconst 4, 1) := by decide +kernel
theorem dX9_term_63 : decode cX9_term 63 = .ok (.if_icmp .ge 7, 3) := by decide +kernel
theorem dX9_term_66 : decode cX9_term 66 = .ok (.iconst 0, 1) := by decide +kernel
theorem dX9_term_67 : decode cX9_term 67 = .ok (.goto 5, 3) := by decide +kernel
theorem dX9_term_70 : decode cX9_term 70 = .ok (.bipush 30, 2) := by decide +kernel
theorem dX9_term_72 : decode cX9_term 72 = .ok (.invokestatic 78, 3) := by decide +kernel
theorem dX9_term_75 : decode cX9_term 75 = .ok (.ifCond .eq 7, 3) := by decide +kernel
theorem dX9_term_78 : decode cX9_term 78 = .ok (.iconst 1, 1) := by decide +kernel
theorem dX9_term_79 : decode cX9_term 79 = .ok (.goto 4, 3) := by decide +kernel
theorem dX9_term_82 : decode cX9_term 82 = .ok (.iconst 0, 1) := by decide +kernel
theorem dX9_term_83 : decode cX9_term 83 = .ok (.istore 6, 2) := by decide +kernel
theorem dX9_term_85 : decode cX9_term 85 = .ok (.iload 6, 2) := by decide +kernel
theorem dX9_term_87 : decode cX9_term 87 = .ok (.ifCond .ne 6, 3) := by decide +kernel
theorem dX9_term_90 : decode cX9_term 90 = .ok (.bipush (-2), 2) := by decide +kernel
theorem dX9_term_92 : decode cX9_term 92 = .ok (.ireturn, 1) := by decide +kernel
theorem dX9_term_93 : decode cX9_term 93 = .ok (.aload_n 0, 1) := by decide +kernel
theorem dX9_term_94 : decode cX9_term 94 = .ok (.iconst 0, 1) := by decide +kernel
theorem dX9_term_95 : decode cX9_term 95 = .ok (.invokevirtual 100, 3) := by decide +kernel
theorem dX9_term_98 : decode cX9_term 98 = .ok (.aload_n 0, 1) := by decide +kernel
theorem dX9_term_99 : decode cX9_term 99 = .ok (.getfield 38, 3) := by decide +kernel
theorem dX9_term_102 : decode cX9_term 102 = .ok (.iconst 0, 1) := by decide +kernel
theorem dX9_term_103 : decode cX9_term 103 = .ok (.iload_n 2, 1) := by decide +kernel
theorem dX9_term_104 : decode cX9_term 104 = .ok (.iastore, 1) := by decide +kernel
theorem dX9_term_105 : decode cX9_term 105 = .ok (.aload_n 0, 1) := by decide +kernel
theorem dX9_term_106 : decode cX9_term 106 = .ok (.getfield 38, 3) := by decide +kernel
theorem dX9_term_109 : decode cX9_term 109 = .ok (.iconst 1, 1) := by decide +kernel
theorem dX9_term_110 : decode cX9_term 110 = .ok (.iload_n 3, 1) := by decide +kernel
theorem dX9_term_111 : decode cX9_term 111 = .ok (.iastore, 1) := by decide +kernel
theorem dX9_term_112 : decode cX9_term 112 = .ok (.aload_n 0, 1) := by decide +kernel
theorem dX9_term_113 : decode cX9_term 113 = .ok (.getfield 38, 3) := by decide +kernel
theorem dX9_term_116 : decode cX9_term 116 = .ok (.iconst 2, 1) := by decide +kernel
theorem dX9_term_117 : decode cX9_term 117 = .ok (.iload 4, 2) := by decide +kernel
theorem dX9_term_119 : decode cX9_term 119 = .ok (.iastore, 1) := by decide +kernel
theorem dX9_term_120 : decode cX9_term 120 = .ok (.aload_n 0, 1) := by decide +kernel
theorem dX9_term_121 : decode cX9_term 121 = .ok (.getfield 38, 3) := by decide +kernel
theorem dX9_term_124 : decode cX9_term 124 = .ok (.iconst 3, 1) := by decide +kernel
theorem dX9_term_125 : decode cX9_term 125 = .ok (.iload 5, 2) := by decide +kernel
theorem dX9_term_127 : decode cX9_term 127 = .ok (.iastore, 1) := by decide +kernel
theorem dX9_term_128 : decode cX9_term 128 = .ok (.aload_n 0, 1) := by decide +kernel
theorem dX9_term_129 : decode cX9_term 129 = .ok (.aload_n 0, 1) := by decide +kernel
theorem dX9_term_130 : decode cX9_term 130 = .ok (.iload_n 1, 1) := by decide +kernel
theorem dX9_term_131 : decode cX9_term 131 = .ok (.i2l, 1) := by decide +kernel
theorem dX9_term_132 : decode cX9_term 132 = .ok (.invokevirtual 120, 3) := by decide +kernel
theorem dX9_term_135 : decode cX9_term 135 = .ok (.invokevirtual 96, 3) := by decide +kernel
theorem dX9_term_138 : decode cX9_term 138 = .ok (.aload_n 0, 1) := by decide +kernel
theorem dX9_term_139 : decode cX9_term 139 = .ok (.invokevirtual 110, 3) := by decide +kernel
theorem dX9_term_142 : decode cX9_term 142 = .ok (.aload_n 0, 1) := by decide +kernel
theorem dX9_term_143 : decode cX9_term 143 = .ok (.getfield 90, 3) := by decide +kernel
theorem dX9_term_146 : decode cX9_term 146 = .ok (.bipush 40, 2) := by decide +kernel
theorem dX9_term_148 : decode cX9_term 148 = .ok (.if_icmp .le 6, 3) := by decide +kernel
theorem dX9_term_151 : decode cX9_term 151 = .ok (.bipush (-6), 2) := by decide +kernel
theorem dX9_term_153 : decode cX9_term 153 = .ok (.ireturn, 1) := by decide +kernel
theorem dX9_term_154 : decode cX9_term 154 = .ok (.aload_n 0, 1) := by decide +kernel
theorem dX9_term_155 : decode cX9_term 155 = .ok (.iconst 0, 1) := by decide +kernel
theorem dX9_term_156 : decode cX9_term 156 = .ok (.iconst 1, 1) := by decide +kernel
theorem dX9_term_157 : decode cX9_term 157 = .ok (.invokevirtual 103, 3) := by decide +kernel
theorem dX9_term_160 : decode cX9_term 160 = .ok (.aload_n 0, 1) := by decide +kernel
theorem dX9_term_161 : decode cX9_term 161 = .ok (.getfield 90, 3) := by decide +kernel
theorem dX9_term_164 : decode cX9_term 164 = .ok (.ireturn, 1) := by decide +kernel
theorem dX9_keep_0 : decode cX9_keep 0 = .ok (.aload_n 0, 1) := by decide +kernel
theorem dX9_keep_1 : decode cX9_keep 1 = .ok (.invokevirtual 124, 3) := by decide +kernel
theorem dX9_keep_4 : decode cX9_keep 4 = .ok (.istore_n 1, 1) := by decide +kernel
theorem dX9_keep_5 : decode cX9_keep 5 = .ok (.iload_n 1, 1) := by decide +kernel
theorem dX9_keep_6 : decode cX9_keep 6 = .ok (.bipush 25, 2) := by decide +kernel
theorem dX9_keep_8 : decode cX9_keep 8 = .ok (.if_icmp .ne 6, 3) := by decide +kernel
theorem dX9_keep_11 : decode cX9_keep 11 = .ok (.bipush (-4), 2) := by decide +kernel
theorem dX9_keep_13 : decode cX9_keep 13 = .ok (.ireturn, 1) := by decide +kernel
theorem dX9_keep_14 : decode cX9_keep 14 = .ok (.aload_n 0, 1) := by decide +kernel
theorem dX9_keep_15 : decode cX9_keep 15 = .ok (.iconst 0, 1) := by decide +kernel
theorem dX9_keep_16 : decode cX9_keep 16 = .ok (.iload_n 1, 1) := by decide +kernel
theorem dX9_keep_17 : decode cX9_keep 17 = .ok (.invokevirtual 128, 3) := by decide +kernel
theorem dX9_keep_20 : decode cX9_keep 20 = .ok (.aload_n 0, 1) := by decide +kernel
theorem dX9_keep_21 : decode cX9_keep 21 = .ok (.getfield 13, 3) := by decide +kernel
theorem dX9_keep_24 : decode cX9_keep 24 = .ok (.iconst 0, 1) := by decide +kernel
theorem dX9_keep_25 : decode cX9_keep 25 = .ok (.iconst 0, 1) := by decide +kernel
theorem dX9_keep_26 : decode cX9_keep 26 = .ok (.iastore, 1) := by decide +kernel
theorem dX9_keep_27 : decode cX9_keep 27 = .ok (.iload_n 1, 1) := by decide +kernel
theorem dX9_keep_28 : decode cX9_keep 28 = .ok (.iconst 1, 1) := by decide +kernel
theorem dX9_keep_29 : decode cX9_keep 29 = .ok (.isub, 1) := by decide +kernel
theorem dX9_keep_30 : decode cX9_keep 30 = .ok (.ireturn, 1) := by decide +kernel
theorem dX9_drop_0 : decode cX9_drop 0 = .ok (.iload_n 1, 1) := by decide +kernel
theorem dX9_drop_1 : decode cX9_drop 1 = .ok (.iconst 0, 1) := by decide +kernel
theorem dX9_drop_2 : decode cX9_drop 2 = .ok (.bipush 23, 2) := by decide +kernel
theorem dX9_drop_4 : decode cX9_drop 4 = .ok (.invokestatic 78, 3) := by decide +kernel
theorem dX9_drop_7 : decode cX9_drop 7 = .ok (.ifCond .eq 15, 3) := by decide +kernel
theorem dX9_drop_10 : decode cX9_drop 10 = .ok (.aload_n 0, 1) := by decide +kernel
theorem dX9_drop_11 : decode cX9_drop 11 = .ok (.getfield 13, 3) := by decide +kernel
theorem dX9_drop_14 : decode cX9_drop 14 = .ok (.iconst 1, 1) := by decide +kernel
theorem dX9_drop_15 : decode cX9_drop 15 = .ok (.iload_n 1, 1) := by decide +kernel
theorem dX9_drop_16 : decode cX9_drop 16 = .ok (.iadd, 1) := by decide +kernel
theorem dX9_drop_17 : decode cX9_drop 17 = .ok (.iaload, 1) := by decide +kernel
theorem dX9_drop_18 : decode cX9_drop 18 = .ok (.iconst (-1), 1) := by decide +kernel
theorem dX9_drop_19 : decode cX9_drop 19 = .ok (.if_icmp .ne 6, 3) := by decide +kernel
theorem dX9_drop_22 : decode cX9_drop 22 = .ok (.bipush (-2), 2) := by decide +kernel
theorem dX9_drop_24 : decode cX9_drop 24 = .ok (.ireturn, 1) := by decide +kernel
theorem dX9_drop_25 : decode cX9_drop 25 = .ok (.aload_n 0, 1) := by decide +kernel
theorem dX9_drop_26 : decode cX9_drop 26 = .ok (.getfield 13, 3) := by decide +kernel
theorem dX9_drop_29 : decode cX9_drop 29 = .ok (.iconst 1, 1) := by decide +kernel
theorem dX9_drop_30 : decode cX9_drop 30 = .ok (.iload_n 1, 1) := by decide +kernel
theorem dX9_drop_31 : decode cX9_drop 31 = .ok (.iadd, 1) := by decide +kernel
theorem dX9_drop_32 : decode cX9_drop 32 = .ok (.iaload, 1) := by decide +kernel
theorem dX9_drop_33 : decode cX9_drop 33 = .ok (.istore_n 2, 1) := by decide +kernel
theorem dX9_drop_34 : decode cX9_drop 34 = .ok (.aload_n 0, 1) := by decide +kernel
theorem dX9_drop_35 : decode cX9_drop 35 = .ok (.getfield 13, 3) := by decide +kernel
theorem dX9_drop_38 : decode cX9_drop 38 = .ok (.iconst 1, 1) := by decide +kernel
theorem dX9_drop_39 : decode cX9_drop 39 = .ok (.iload_n 1, 1) := by decide +kernel
theorem dX9_drop_40 : decode cX9_drop 40 = .ok (.iadd, 1) := by decide +kernel
theorem dX9_drop_41 : decode cX9_drop 41 = .ok (.iconst (-1), 1) := by decide +kernel
theorem dX9_drop_42 : decode cX9_drop 42 = .ok (.iastore, 1) := by decide +kernel
theorem dX9_drop_43 : decode cX9_drop 43 = .ok (.iload_n 2, 1) := by decide +kernel
theorem dX9_drop_44 : decode cX9_drop 44 = .ok (.ireturn, 1) := by decide +kernel
theorem dX9_terms_0 : decode cX9_terms 0 = .ok (.aload_n 0, 1) := by decide +kernel
theorem dX9_terms_1 : decode cX9_terms 1 = .ok (.iload_n 1, 1) := by decide +kernel
theorem dX9_terms_2 : decode cX9_terms 2 = .ok (.invokevirtual 131, 3) := by decide +kernel
theorem dX9_terms_5 : decode cX9_terms 5 = .ok (.istore_n 2, 1) := by decide +kernel
theorem dX9_terms_6 : decode cX9_terms 6 = .ok (.iload_n 2, 1) := by decide +kernel
theorem dX9_terms_7 : decode cX9_terms 7 = .ok (.ifCond .ge 8, 3) := by decide +kernel
theorem dX9_terms_10 : decode cX9_terms 10 = .ok (.bipush (-2), 2) := by decide +kernel
theorem dX9_terms_12 : decode cX9_terms 12 = .ok (.goto 9, 3) := by decide +kernel
theorem dX9_terms_15 : decode cX9_terms 15 = .ok (.aload_n 0, 1) := by decide +kernel
theorem dX9_terms_16 : decode cX9_terms 16 = .ok (.getfield 13, 3) := by decide +kernel
theorem dX9_terms_19 : decode cX9_terms 19 = .ok (.iload_n 2, 1) := by decide +kernel
theorem dX9_terms_20 : decode cX9_terms 20 = .ok (.iaload, 1) := by decide +kernel
theorem dX9_terms_21 : decode cX9_terms 21 = .ok (.ireturn, 1) := by decide +kernel
theorem dX9_number_0 : decode cX9_number 0 = .ok (.aload_n 0, 1) := by decide +kernel
theorem dX9_number_1 : decode cX9_number 1 = .ok (.iload_n 1, 1) := by decide +kernel
theorem dX9_number_2 : decode cX9_number 2 = .ok (.invokevirtual 131, 3) := by decide +kernel
theorem dX9_number_5 : decode cX9_number 5 = .ok (.istore_n 3, 1) := by decide +kernel
theorem dX9_number_6 : decode cX9_number 6 = .ok (.iload_n 3, 1) := by decide +kernel
theorem dX9_number_7 : decode cX9_number 7 = .ok (.ifCond .lt 19, 3) := by decide +kernel
theorem dX9_number_10 : decode cX9_number 10 = .ok (.iload_n 2, 1) := by decide +kernel
theorem dX9_number_11 : decode cX9_number 11 = .ok (.iconst 0, 1) := by decide +kernel
theorem dX9_number_12 : decode cX9_number 12 = .ok (.aload_n 0, 1) := by decide +kernel
theorem dX9_number_13 : decode cX9_number 13 = .ok (.getfield 13, 3) := by decide +kernel
theorem dX9_number_16 : decode cX9_number 16 = .ok (.iload_n 3, 1) := by decide +kernel
theorem dX9_number_17 : decode cX9_number 17 = .ok (.iaload, 1) := by decide +kernel
theorem dX9_number_18 : decode cX9_number 18 = .ok (.iconst 1, 1) := by decide +kernel
theorem dX9_number_19 : decode cX9_number 19 = .ok (.isub, 1) := by decide +kernel
theorem dX9_number_20 : decode cX9_number 20 = .ok (.invokestatic 78, 3) := by decide +kernel
theorem dX9_number_23 : decode cX9_number 23 = .ok (.ifCond .ne 8, 3) := by decide +kernel
theorem dX9_number_26 : decode cX9_number 26 = .ok (.bipush (-2), 2) := by decide +kernel
theorem dX9_number_28 : decode cX9_number 28 = .ok (.goto 14, 3) := by decide +kernel
theorem dX9_number_31 : decode cX9_number 31 = .ok (.aload_n 0, 1) := by decide +kernel
theorem dX9_number_32 : decode cX9_number 32 = .ok (.getfield 17, 3) := by decide +kernel
theorem dX9_number_35 : decode cX9_number 35 = .ok (.bipush 40, 2) := by decide +kernel
theorem dX9_number_37 : decode cX9_number 37 = .ok (.iload_n 3, 1) := by decide +kernel
theorem dX9_number_38 : decode cX9_number 38 = .ok (.imul, 1) := by decide +kernel
theorem dX9_number_39 : decode cX9_number 39 = .ok (.iload_n 2, 1) := by decide +kernel
theorem dX9_number_40 : decode cX9_number 40 = .ok (.iadd, 1) := by decide +kernel
theorem dX9_number_41 : decode cX9_number 41 = .ok (.iaload, 1) := by decide +kernel
theorem dX9_number_42 : decode cX9_number 42 = .ok (.ireturn, 1) := by decide +kernel
theorem dX9_exponent_0 : decode cX9_exponent 0 = .ok (.aload_n 0, 1) := by decide +kernel
theorem dX9_exponent_1 : decode cX9_exponent 1 = .ok (.iload_n 1, 1) := by decide +kernel
theorem dX9_exponent_2 : decode cX9_exponent 2 = .ok (.invokevirtual 131, 3) := by decide +kernel
theorem dX9_exponent_5 : decode cX9_exponent 5 = .ok (.istore 4, 2) := by decide +kernel
theorem dX9_exponent_7 : decode cX9_exponent 7 = .ok (.iload 4, 2) := by decide +kernel
theorem dX9_exponent_9 : decode cX9_exponent 9 = .ok (.ifCond .lt 34, 3) := by decide +kernel
theorem dX9_exponent_12 : decode cX9_exponent 12 = .ok (.iload_n 2, 1) := by decide +kernel
theorem dX9_exponent_13 : decode cX9_exponent 13 = .ok (.iconst 0, 1) := by decide +kernel
theorem dX9_exponent_14 : decode cX9_exponent 14 = .ok (.aload_n 0, 1) := by decide +kernel
theorem dX9_exponent_15 : decode cX9_exponent 15 = .ok (.getfield 13, 3) := by decide +kernel
theorem dX9_exponent_18 : decode cX9_exponent 18 = .ok (.iload 4, 2) := by decide +kernel
theorem dX9_exponent_20 : decode cX9_exponent 20 = .ok (.iaload, 1) := by decide +kernel
theorem dX9_exponent_21 : decode cX9_exponent 21 = .ok (.iconst 1, 1) := by decide +kernel
theorem dX9_exponent_22 : decode cX9_exponent 22 = .ok (.isub, 1) := by decide +kernel
theorem dX9_exponent_23 : decode cX9_exponent 23 = .ok (.invokestatic 78, 3) := by decide +kernel
theorem dX9_exponent_26 : decode cX9_exponent 26 = .ok (.ifCond .eq 17, 3) := by decide +kernel
theorem dX9_exponent_29 : decode cX9_exponent 29 = .ok (.iload_n 3, 1) := by decide +kernel
theorem dX9_exponent_30 : decode cX9_exponent 30 = .ok (.iconst 0, 1) := by decide +kernel
theorem dX9_exponent_31 : decode cX9_exponent 31 = .ok (.aload_n 0, 1) := by decide +kernel
theorem dX9_exponent_32 : decode cX9_exponent 32 = .ok (.getfield 75, 3) := by decide +kernel
theorem dX9_exponent_35 : decode cX9_exponent 35 = .ok (.iconst 1, 1) := by decide +kernel
theorem dX9_exponent_36 : decode cX9_exponent 36 = .ok (.isub, 1) := by decide +kernel
theorem dX9_exponent_37 : decode cX9_exponent 37 = .ok (.invokestatic 78, 3) := by decide +kernel
theorem dX9_exponent_40 : decode cX9_exponent 40 = .ok (.ifCond .ne 8, 3) := by decide +kernel
theorem dX9_exponent_43 : decode cX9_exponent 43 = .ok (.bipush (-2), 2) := by decide +kernel
theorem dX9_exponent_45 : decode cX9_exponent 45 = .ok (.goto 20, 3) := by decide +kernel
theorem dX9_exponent_48 : decode cX9_exponent 48 = .ok (.aload_n 0, 1) := by decide +kernel
theorem dX9_exponent_49 : decode cX9_exponent 49 = .ok (.getfield 20, 3) := by decide +kernel
theorem dX9_exponent_52 : decode cX9_exponent 52 = .ok (.sipush 160, 3) := by decide +kernel
theorem dX9_exponent_55 : decode cX9_exponent 55 = .ok (.iload 4, 2) := by decide +kernel
theorem dX9_exponent_57 : decode cX9_exponent 57 = .ok (.imul, 1) := by decide +kernel
theorem dX9_exponent_58 : decode cX9_exponent 58 = .ok (.iconst 4, 1) := by decide +kernel
theorem dX9_exponent_59 : decode cX9_exponent 59 = .ok (.iload_n 2, 1) := by decide +kernel
theorem dX9_exponent_60 : decode cX9_exponent 60 = .ok (.imul, 1) := by decide +kernel
theorem dX9_exponent_61 : decode cX9_exponent 61 = .ok (.iadd, 1) := by decide +kernel
theorem dX9_exponent_62 : decode cX9_exponent 62 = .ok (.iload_n 3, 1) := by decide +kernel
theorem dX9_exponent_63 : decode cX9_exponent 63 = .ok (.iadd, 1) := by decide +kernel
theorem dX9_exponent_64 : decode cX9_exponent 64 = .ok (.iaload, 1) := by decide +kernel
theorem dX9_exponent_65 : decode cX9_exponent 65 = .ok (.ireturn, 1) := by decide +kernel
theorem dX9_sum_0 : decode cX9_sum 0 = .ok (.aload_n 0, 1) := by decide +kernel
theorem dX9_sum_1 : decode cX9_sum 1 = .ok (.iload_n 1, 1) := by decide +kernel
theorem dX9_sum_2 : decode cX9_sum 2 = .ok (.invokevirtual 131, 3) := by decide +kernel
theorem dX9_sum_5 : decode cX9_sum 5 = .ok (.istore 4, 2) := by decide +kernel
theorem dX9_sum_7 : decode cX9_sum 7 = .ok (.aload_n 0, 1) := by decide +kernel
theorem dX9_sum_8 : decode cX9_sum 8 = .ok (.iload_n 2, 1) := by decide +kernel
theorem dX9_sum_9 : decode cX9_sum 9 = .ok (.invokevirtual 131, 3) := by decide +kernel
theorem dX9_sum_12 : decode cX9_sum 12 = .ok (.istore 5, 2) := by decide +kernel
theorem dX9_sum_14 : decode cX9_sum 14 = .ok (.iload 4, 2) := by decide +kernel
theorem dX9_sum_16 : decode cX9_sum 16 = .ok (.ifCond .lt 8, 3) := by decide +kernel
theorem dX9_sum_19 : decode cX9_sum 19 = .ok (.iload 5, 2) := by decide +kernel
theorem dX9_sum_21 : decode cX9_sum 21 = .ok (.ifCond .ge 6, 3) := by decide +kernel
theorem dX9_sum_24 : decode cX9_sum 24 = .ok (.bipush (-2), 2) := by decide +kernel
theorem dX9_sum_26 : decode cX9_sum 26 = .ok (.ireturn, 1) := by decide +kernel
theorem dX9_sum_27 : decode cX9_sum 27 = .ok (.aload_n 0, 1) := by decide +kernel
theorem dX9_sum_28 : decode cX9_sum 28 = .ok (.invokevirtual 124, 3) := by decide +kernel
theorem dX9_sum_31 : decode cX9_sum 31 = .ok (.istore 6, 2) := by decide +kernel
theorem dX9_sum_33 : decode cX9_sum 33 = .ok (.iload 6, 2) := by decide +kernel
theorem dX9_sum_35 : decode cX9_sum 35 = .ok (.bipush 25, 2) := by decide +kernel
theorem dX9_sum_37 : decode cX9_sum 37 = .ok (.if_icmp .ne 6, 3) := by decide +kernel
theorem dX9_sum_40 : decode cX9_sum 40 = .ok (.bipush (-4), 2) := by decide +kernel
theorem dX9_sum_42 : decode cX9_sum 42 = .ok (.ireturn, 1) := by decide +kernel
theorem dX9_sum_43 : decode cX9_sum 43 = .ok (.aload_n 0, 1) := by decide +kernel
theorem dX9_sum_44 : decode cX9_sum 44 = .ok (.iload 4, 2) := by decide +kernel
theorem dX9_sum_46 : decode cX9_sum 46 = .ok (.invokevirtual 100, 3) := by decide +kernel
theorem dX9_sum_49 : decode cX9_sum 49 = .ok (.aload_n 0, 1) := by decide +kernel
theorem dX9_sum_50 : decode cX9_sum 50 = .ok (.invokevirtual 113, 3) := by decide +kernel
theorem dX9_sum_53 : decode cX9_sum 53 = .ok (.aload_n 0, 1) := by decide +kernel
theorem dX9_sum_54 : decode cX9_sum 54 = .ok (.iload 5, 2) := by decide +kernel
theorem dX9_sum_56 : decode cX9_sum 56 = .ok (.aload_n 0, 1) := by decide +kernel
theorem dX9_sum_57 : decode cX9_sum 57 = .ok (.iload_n 3, 1) := by decide +kernel
theorem dX9_sum_58 : decode cX9_sum 58 = .ok (.i2l, 1) := by decide +kernel
theorem dX9_sum_59 : decode cX9_sum 59 = .ok (.invokevirtual 120, 3) := by decide +kernel
theorem dX9_sum_62 : decode cX9_sum 62 = .ok (.invokevirtual 116, 3) := by decide +kernel
theorem dX9_sum_65 : decode cX9_sum 65 = .ok (.istore 7, 2) := by decide +kernel
theorem dX9_sum_67 : decode cX9_sum 67 = .ok (.aload_n 0, 1) := by decide +kernel
theorem dX9_sum_68 : decode cX9_sum 68 = .ok (.iload 6, 2) := by decide +kernel
theorem dX9_sum_70 : decode cX9_sum 70 = .ok (.invokevirtual 135, 3) := by decide +kernel
theorem dX9_sum_73 : decode cX9_sum 73 = .ok (.ireturn, 1) := by decide +kernel
theorem dX9_product_0 : decode cX9_product 0 = .ok (.aload_n 0, 1) := by decide +kernel
theorem dX9_product_1 : decode cX9_product 1 = .ok (.iload_n 1, 1) := by decide +kernel
theorem dX9_product_2 : decode cX9_product 2 = .ok (.invokevirtual 131, 3) := by decide +kernel
theorem dX9_product_5 : decode cX9_product 5 = .ok (.istore_n 3, 1) := by decide +kernel
theorem dX9_product_6 : decode cX9_product 6 = .ok (.aload_n 0, 1) := by decide +kernel
theorem dX9_product_7 : decode cX9_product 7 = .ok (.iload_n 2, 1) := by decide +kernel
theorem dX9_product_8 : decode cX9_product 8 = .ok (.invokevirtual 131, 3) := by decide +kernel
theorem dX9_product_11 : decode cX9_product 11 = .ok (.istore 4, 2) := by decide +kernel
theorem dX9_product_13 : decode cX9_product 13 = .ok (.iload_n 3, 1) := by decide +kernel
theorem dX9_product_14 : decode cX9_product 14 = .ok (.ifCond .lt 8, 3) := by decide +kernel
theorem dX9_product_17 : decode cX9_product 17 = .ok (.iload 4, 2) := by decide +kernel
theorem dX9_product_19 : decode cX9_product 19 = .ok (.ifCond .ge 6, 3) := by decide +kernel
theorem dX9_product_22 : decode cX9_product 22 = .ok (.bipush (-2), 2) := by decide +kernel
theorem dX9_product_24 : decode cX9_product 24 = .ok (.ireturn, 1) := by decide +kernel
theorem dX9_product_25 : decode cX9_product 25 = .ok (.aload_n 0, 1) := by decide +kernel
theorem dX9_product_26 : decode cX9_product 26 = .ok (.invokevirtual 124, 3) := by decide +kernel
theorem dX9_product_29 : decode cX9_product 29 = .ok (.istore 5, 2) := by decide +kernel
theorem dX9_product_31 : decode cX9_product 31 = .ok (.iload 5, 2) := by decide +kernel
theorem dX9_product_33 : decode cX9_product 33 = .ok (.bipush 25, 2) := by decide +kernel
theorem dX9_product_35 : decode cX9_product 35 = .ok (.if_icmp .ne 6, 3) := by decide +kernel
theorem dX9_product_38 : decode cX9_product 38 = .ok (.bipush (-4), 2) := by decide +kernel
theorem dX9_product_40 : decode cX9_product 40 = .ok (.ireturn, 1) := by decide +kernel
theorem dX9_product_41 : decode cX9_product 41 = .ok (.aload_n 0, 1) := by decide +kernel
theorem dX9_product_42 : decode cX9_product 42 = .ok (.iconst 0, 1) := by decide +kernel
theorem dX9_product_43 : decode cX9_product 43 = .ok (.putfield 90, 3) := by decide +kernel
theorem dX9_product_46 : decode cX9_product 46 = .ok (.iconst 0, 1) := by decide +kernel
theorem dX9_product_47 : decode cX9_product 47 = .ok (.istore 6, 2) := by decide +kernel
theorem dX9_product_49 : decode cX9_product 49 = .ok (.iload 6, 2) := by decide +kernel
theorem dX9_product_51 : decode cX9_product 51 = .ok (.aload_n 0, 1) := by decide +kernel
theorem dX9_product_52 : decode cX9_product 52 = .ok (.getfield 13, 3) := by decide +kernel
theorem dX9_product_55 : decode cX9_product 55 = .ok (.iload_n 3, 1) := by decide +kernel
theorem dX9_product_56 : decode cX9_product 56 = .ok (.iaload, 1) := by decide +kernel
theorem dX9_product_57 : decode cX9_product 57 = .ok (.if_icmp .ge 73, 3) := by decide +kernel
theorem dX9_product_60 : decode cX9_product 60 = .ok (.iconst 0, 1) := by decide +kernel
theorem dX9_product_61 : decode cX9_product 61 = .ok (.istore 7, 2) := by decide +kernel
theorem dX9_product_63 : decode cX9_product 63 = .ok (.iload 7, 2) := by decide +kernel
theorem dX9_product_65 : decode cX9_product 65 = .ok (.iconst 4, 1) := by decide +kernel
theorem dX9_product_66 : decode cX9_product 66 = .ok (.if_icmp .ge 34, 3) := by decide +kernel
theorem dX9_product_69 : decode cX9_product 69 = .ok (.aload_n 0, 1) := by decide +kernel
theorem dX9_product_70 : decode cX9_product 70 = .ok (.getfield 41, 3) := by decide +kernel
theorem dX9_product_73 : decode cX9_product 73 = .ok (.iload 7, 2) := by decide +kernel
theorem dX9_product_75 : decode cX9_product 75 = .ok (.aload_n 0, 1) := by decide +kernel
theorem dX9_product_76 : decode cX9_product 76 = .ok (.getfield 20, 3) := by decide +kernel
theorem dX9_product_79 : decode cX9_product 79 = .ok (.sipush 160, 3) := by decide +kernel
theorem dX9_product_82 : decode cX9_product 82 = .ok (.iload_n 3, 1) := by decide +kernel
theorem dX9_product_83 : decode cX9_product 83 = .ok (.imul, 1) := by decide +kernel
theorem dX9_product_84 : decode cX9_product 84 = .ok (.iconst 4, 1) := by decide +kernel
theorem dX9_product_85 : decode cX9_product 85 = .ok (.iload 6, 2) := by decide +kernel
theorem dX9_product_87 : decode cX9_product 87 = .ok (.imul, 1) := by decide +kernel
theorem dX9_product_88 : decode cX9_product 88 = .ok (.iadd, 1) := by decide +kernel
theorem dX9_product_89 : decode cX9_product 89 = .ok (.iload 7, 2) := by decide +kernel
theorem dX9_product_91 : decode cX9_product 91 = .ok (.iadd, 1) := by decide +kernel
theorem dX9_product_92 : decode cX9_product 92 = .ok (.iaload, 1) := by decide +kernel
theorem dX9_product_93 : decode cX9_product 93 = .ok (.iastore, 1) := by decide +kernel
theorem dX9_product_94 : decode cX9_product 94 = .ok (.iinc 7 1, 3) := by decide +kernel
theorem dX9_product_97 : decode cX9_product 97 = .ok (.goto (-34), 3) := by decide +kernel
theorem dX9_product_100 : decode cX9_product 100 = .ok (.aload_n 0, 1) := by decide +kernel
theorem dX9_product_101 : decode cX9_product 101 = .ok (.iload 4, 2) := by decide +kernel
theorem dX9_product_103 : decode cX9_product 103 = .ok (.aload_n 0, 1) := by decide +kernel
theorem dX9_product_104 : decode cX9_product 104 = .ok (.getfield 17, 3) := by decide +kernel
theorem dX9_product_107 : decode cX9_product 107 = .ok (.bipush 40, 2) := by decide +kernel
theorem dX9_product_109 : decode cX9_product 109 = .ok (.iload_n 3, 1) := by decide +kernel
theorem dX9_product_110 : decode cX9_product 110 = .ok (.imul, 1) := by decide +kernel
theorem dX9_product_111 : decode cX9_product 111 = .ok (.iload 6, 2) := by decide +kernel
theorem dX9_product_113 : decode cX9_product 113 = .ok (.iadd, 1) := by decide +kernel
theorem dX9_product_114 : decode cX9_product 114 = .ok (.iaload, 1) := by decide +kernel
theorem dX9_product_115 : decode cX9_product 115 = .ok (.invokevirtual 116, 3) := by decide +kernel
theorem dX9_product_118 : decode cX9_product 118 = .ok (.ifCond .ne 6, 3) := by decide +kernel
theorem dX9_product_121 : decode cX9_product 121 = .ok (.bipush (-5), 2) := by decide +kernel
theorem dX9_product_123 : decode cX9_product 123 = .ok (.ireturn, 1) := by decide +kernel
theorem dX9_product_124 : decode cX9_product 124 = .ok (.iinc 6 1, 3) := by decide +kernel
theorem dX9_product_127 : decode cX9_product 127 = .ok (.goto (-78), 3) := by decide +kernel
theorem dX9_product_130 : decode cX9_product 130 = .ok (.aload_n 0, 1) := by decide +kernel
theorem dX9_product_131 : decode cX9_product 131 = .ok (.iload 5, 2) := by decide +kernel
theorem dX9_product_133 : decode cX9_product 133 = .ok (.invokevirtual 135, 3) := by decide +kernel
theorem dX9_product_136 : decode cX9_product 136 = .ok (.ireturn, 1) := by decide +kernel
theorem dX9_derived_0 : decode cX9_derived 0 = .ok (.aload_n 0, 1) := by decide +kernel
theorem dX9_derived_1 : decode cX9_derived 1 = .ok (.iload_n 1, 1) := by decide +kernel
theorem dX9_derived_2 : decode cX9_derived 2 = .ok (.invokevirtual 131, 3) := by decide +kernel
theorem dX9_derived_5 : decode cX9_derived 5 = .ok (.istore_n 3, 1) := by decide +kernel
theorem dX9_derived_6 : decode cX9_derived 6 = .ok (.iload_n 3, 1) := by decide +kernel
theorem dX9_derived_7 : decode cX9_derived 7 = .ok (.ifCond .lt 17, 3) := by decide +kernel
theorem dX9_derived_10 : decode cX9_derived 10 = .ok (.iload_n 2, 1) := by decide +kernel
theorem dX9_derived_11 : decode cX9_derived 11 = .ok (.iconst 0, 1) := by decide +kernel
theorem dX9_derived_12 : decode cX9_derived 12 = .ok (.aload_n 0, 1) := by decide +kernel
theorem dX9_derived_13 : decode cX9_derived 13 = .ok (.getfield 75, 3) := by decide +kernel
theorem dX9_derived_16 : decode cX9_derived 16 = .ok (.iconst 1, 1) := by decide +kernel
theorem dX9_derived_17 : decode cX9_derived 17 = .ok (.isub, 1) := by decide +kernel
theorem dX9_derived_18 : decode cX9_derived 18 = .ok (.invokestatic 78, 3) := by decide +kernel
theorem dX9_derived_21 : decode cX9_derived 21 = .ok (.ifCond .ne 6, 3) := by decide +kernel
theorem dX9_derived_24 : decode cX9_derived 24 = .ok (.bipush (-2), 2) := by decide +kernel
theorem dX9_derived_26 : decode cX9_derived 26 = .ok (.ireturn, 1) := by decide +kernel
theorem dX9_derived_27 : decode cX9_derived 27 = .ok (.aload_n 0, 1) := by decide +kernel
theorem dX9_derived_28 : decode cX9_derived 28 = .ok (.invokevirtual 124, 3) := by decide +kernel
theorem dX9_derived_31 : decode cX9_derived 31 = .ok (.istore 4, 2) := by decide +kernel
theorem dX9_derived_33 : decode cX9_derived 33 = .ok (.iload 4, 2) := by decide +kernel
theorem dX9_derived_35 : decode cX9_derived 35 = .ok (.bipush 25, 2) := by decide +kernel
theorem dX9_derived_37 : decode cX9_derived 37 = .ok (.if_icmp .ne 6, 3) := by decide +kernel
theorem dX9_derived_40 : decode cX9_derived 40 = .ok (.bipush (-4), 2) := by decide +kernel
theorem dX9_derived_42 : decode cX9_derived 42 = .ok (.ireturn, 1) := by decide +kernel
theorem dX9_derived_43 : decode cX9_derived 43 = .ok (.aload_n 0, 1) := by decide +kernel
theorem dX9_derived_44 : decode cX9_derived 44 = .ok (.iconst 0, 1) := by decide +kernel
theorem dX9_derived_45 : decode cX9_derived 45 = .ok (.putfield 90, 3) := by decide +kernel
theorem dX9_derived_48 : decode cX9_derived 48 = .ok (.iconst 0, 1) := by decide +kernel
theorem dX9_derived_49 : decode cX9_derived 49 = .ok (.istore 5, 2) := by decide +kernel
theorem dX9_derived_51 : decode cX9_derived 51 = .ok (.iload 5, 2) := by decide +kernel
theorem dX9_derived_53 : decode cX9_derived 53 = .ok (.aload_n 0, 1) := by decide +kernel
theorem dX9_derived_54 : decode cX9_derived 54 = .ok (.getfield 13, 3) := by decide +kernel
theorem dX9_derived_57 : decode cX9_derived 57 = .ok (.iload_n 3, 1) := by decide +kernel
theorem dX9_derived_58 : decode cX9_derived 58 = .ok (.iaload, 1) := by decide +kernel
theorem dX9_derived_59 : decode cX9_derived 59 = .ok (.if_icmp .ge 113, 3) := by decide +kernel
theorem dX9_derived_62 : decode cX9_derived 62 = .ok (.aload_n 0, 1) := by decide +kernel
theorem dX9_derived_63 : decode cX9_derived 63 = .ok (.getfield 20, 3) := by decide +kernel
theorem dX9_derived_66 : decode cX9_derived 66 = .ok (.sipush 160, 3) := by decide +kernel
theorem dX9_derived_69 : decode cX9_derived 69 = .ok (.iload_n 3, 1) := by decide +kernel
theorem dX9_derived_70 : decode cX9_derived 70 = .ok (.imul, 1) := by decide +kernel
theorem dX9_derived_71 : decode cX9_derived 71 = .ok (.iconst 4, 1) := by decide +kernel
theorem dX9_derived_72 : decode cX9_derived 72 = .ok (.iload 5, 2) := by decide +kernel
theorem dX9_derived_74 : decode cX9_derived 74 = .ok (.imul, 1) := by decide +kernel
theorem dX9_derived_75 : decode cX9_derived 75 = .ok (.iadd, 1) := by decide +kernel
theorem dX9_derived_76 : decode cX9_derived 76 = .ok (.iload_n 2, 1) := by decide +kernel
theorem dX9_derived_77 : decode cX9_derived 77 = .ok (.iadd, 1) := by decide +kernel
theorem dX9_derived_78 : decode cX9_derived 78 = .ok (.iaload, 1) := by decide +kernel
theorem dX9_derived_79 : decode cX9_derived 79 = .ok (.istore 6, 2) := by decide +kernel
theorem dX9_derived_81 : decode cX9_derived 81 = .ok (.aload_n 0, 1) := by decide +kernel
theorem dX9_derived_82 : decode cX9_derived 82 = .ok (.getfield 17, 3) := by decide +kernel
theorem dX9_derived_85 : decode cX9_derived 85 = .ok (.bipush 40, 2) := by decide +kernel
theorem dX9_derived_87 : decode cX9_derived 87 = .ok (.iload_n 3, 1) := by decide +kernel
theorem dX9_derived_88 : decode cX9_derived 88 = .ok (.imul, 1) := by decide +kernel
theorem dX9_derived_89 : decode cX9_derived 89 = .ok (.iload 5, 2) := by decide +kernel
theorem dX9_derived_91 : decode cX9_derived 91 = .ok (.iadd, 1) := by decide +kernel
theorem dX9_derived_92 : decode cX9_derived 92 = .ok (.iaload, 1) := by decide +kernel
theorem dX9_derived_93 : decode cX9_derived 93 = .ok (.iload 6, 2) := by decide +kernel
theorem dX9_derived_95 : decode cX9_derived 95 = .ok (.imul, 1) := by decide +kernel
theorem dX9_derived_96 : decode cX9_derived 96 = .ok (.aload_n 0, 1) := by decide +kernel
theorem dX9_derived_97 : decode cX9_derived 97 = .ok (.getfield 72, 3) := by decide +kernel
theorem dX9_derived_100 : decode cX9_derived 100 = .ok (.irem, 1) := by decide +kernel
theorem dX9_derived_101 : decode cX9_derived 101 = .ok (.istore 7, 2) := by decide +kernel
theorem dX9_derived_103 : decode cX9_derived 103 = .ok (.iload 7, 2) := by decide +kernel
theorem dX9_derived_105 : decode cX9_derived 105 = .ok (.ifCond .eq 61, 3) := by decide +kernel
theorem dX9_derived_108 : decode cX9_derived 108 = .ok (.iconst 0, 1) := by decide +kernel
theorem dX9_derived_109 : decode cX9_derived 109 = .ok (.istore 8, 2) := by decide +kernel
theorem dX9_derived_111 : decode cX9_derived 111 = .ok (.iload 8, 2) := by decide +kernel
theorem dX9_derived_113 : decode cX9_derived 113 = .ok (.iconst 4, 1) := by decide +kernel
theorem dX9_derived_114 : decode cX9_derived 114 = .ok (.if_icmp .ge 46, 3) := by decide +kernel
theorem dX9_derived_117 : decode cX9_derived 117 = .ok (.aload_n 0, 1) := by decide +kernel
theorem dX9_derived_118 : decode cX9_derived 118 = .ok (.getfield 38, 3) := by decide +kernel
theorem dX9_derived_121 : decode cX9_derived 121 = .ok (.iload 8, 2) := by decide +kernel
theorem dX9_derived_123 : decode cX9_derived 123 = .ok (.aload_n 0, 1) := by decide +kernel
theorem dX9_derived_124 : decode cX9_derived 124 = .ok (.getfield 20, 3) := by decide +kernel
theorem dX9_derived_127 : decode cX9_derived 127 = .ok (.sipush 160, 3) := by decide +kernel
theorem dX9_derived_130 : decode cX9_derived 130 = .ok (.iload_n 3, 1) := by decide +kernel
theorem dX9_derived_131 : decode cX9_derived 131 = .ok (.imul, 1) := by decide +kernel
theorem dX9_derived_132 : decode cX9_derived 132 = .ok (.iconst 4, 1) := by decide +kernel
theorem dX9_derived_133 : decode cX9_derived 133 = .ok (.iload 5, 2) := by decide +kernel
theorem dX9_derived_135 : decode cX9_derived 135 = .ok (.imul, 1) := by decide +kernel
theorem dX9_derived_136 : decode cX9_derived 136 = .ok (.iadd, 1) := by decide +kernel
theorem dX9_derived_137 : decode cX9_derived 137 = .ok (.iload 8, 2) := by decide +kernel
theorem dX9_derived_139 : decode cX9_derived 139 = .ok (.iadd, 1) := by decide +kernel
theorem dX9_derived_140 : decode cX9_derived 140 = .ok (.iaload, 1) := by decide +kernel
theorem dX9_derived_141 : decode cX9_derived 141 = .ok (.iload 8, 2) := by decide +kernel
theorem dX9_derived_143 : decode cX9_derived 143 = .ok (.iload_n 2, 1) := by decide +kernel
theorem dX9_derived_144 : decode cX9_derived 144 = .ok (.if_icmp .ne 7, 3) := by decide +kernel
theorem dX9_derived_147 : decode cX9_derived 147 = .ok (.iconst 1, 1) := by decide +kernel
theorem dX9_derived_148 : decode cX9_derived 148 = .ok (.goto 4, 3) := by decide +kernel
theorem dX9_derived_151 : decode cX9_derived 151 = .ok (.iconst 0, 1) := by decide +kernel
theorem dX9_derived_152 : decode cX9_derived 152 = .ok (.isub, 1) := by decide +kernel
theorem dX9_derived_153 : decode cX9_derived 153 = .ok (.iastore, 1) := by decide +kernel
theorem dX9_derived_154 : decode cX9_derived 154 = .ok (.iinc 8 1, 3) := by decide +kernel
theorem dX9_derived_157 : decode cX9_derived 157 = .ok (.goto (-46), 3) := by decide +kernel
theorem dX9_derived_160 : decode cX9_derived 160 = .ok (.aload_n 0, 1) := by decide +kernel
theorem dX9_derived_161 : decode cX9_derived 161 = .ok (.iload 7, 2) := by decide +kernel
theorem dX9_derived_163 : decode cX9_derived 163 = .ok (.invokevirtual 96, 3) := by decide +kernel
theorem dX9_derived_166 : decode cX9_derived 166 = .ok (.iinc 5 1, 3) := by decide +kernel
theorem dX9_derived_169 : decode cX9_derived 169 = .ok (.goto (-118), 3) := by decide +kernel
theorem dX9_derived_172 : decode cX9_derived 172 = .ok (.aload_n 0, 1) := by decide +kernel
theorem dX9_derived_173 : decode cX9_derived 173 = .ok (.iload 4, 2) := by decide +kernel
theorem dX9_derived_175 : decode cX9_derived 175 = .ok (.invokevirtual 135, 3) := by decide +kernel
theorem dX9_derived_178 : decode cX9_derived 178 = .ok (.ireturn, 1) := by decide +kernel
theorem dX9_leastOf_0 : decode cX9_leastOf 0 = .ok (.iconst 0, 1) := by decide +kernel
theorem dX9_leastOf_1 : decode cX9_leastOf 1 = .ok (.istore_n 3, 1) := by decide +kernel
theorem dX9_leastOf_2 : decode cX9_leastOf 2 = .ok (.iload_n 3, 1) := by decide +kernel
theorem dX9_leastOf_3 : decode cX9_leastOf 3 = .ok (.iconst 4, 1) := by decide +kernel
theorem dX9_leastOf_4 : decode cX9_leastOf 4 = .ok (.if_icmp .ge 57, 3) := by decide +kernel
theorem dX9_leastOf_7 : decode cX9_leastOf 7 = .ok (.aload_n 0, 1) := by decide +kernel
theorem dX9_leastOf_8 : decode cX9_leastOf 8 = .ok (.getfield 20, 3) := by decide +kernel
theorem dX9_leastOf_11 : decode cX9_leastOf 11 = .ok (.sipush 160, 3) := by decide +kernel
theorem dX9_leastOf_14 : decode cX9_leastOf 14 = .ok (.iload_n 1, 1) := by decide +kernel
theorem dX9_leastOf_15 : decode cX9_leastOf 15 = .ok (.imul, 1) := by decide +kernel
theorem dX9_leastOf_16 : decode cX9_leastOf 16 = .ok (.iload_n 3, 1) := by decide +kernel
theorem dX9_leastOf_17 : decode cX9_leastOf 17 = .ok (.iadd, 1) := by decide +kernel
theorem dX9_leastOf_18 : decode cX9_leastOf 18 = .ok (.iaload, 1) := by decide +kernel
theorem dX9_leastOf_19 : decode cX9_leastOf 19 = .ok (.istore 4, 2) := by decide +kernel
theorem dX9_leastOf_21 : decode cX9_leastOf 21 = .ok (.aload_n 0, 1) := by decide +kernel
theorem dX9_leastOf_22 : decode cX9_leastOf 22 = .ok (.getfield 20, 3) := by decide +kernel
theorem dX9_leastOf_25 : decode cX9_leastOf 25 = .ok (.sipush 160, 3) := by decide +kernel
theorem dX9_leastOf_28 : decode cX9_leastOf 28 = .ok (.iload_n 2, 1) := by decide +kernel
theorem dX9_leastOf_29 : decode cX9_leastOf 29 = .ok (.imul, 1) := by decide +kernel
theorem dX9_leastOf_30 : decode cX9_leastOf 30 = .ok (.iload_n 3, 1) := by decide +kernel
theorem dX9_leastOf_31 : decode cX9_leastOf 31 = .ok (.iadd, 1) := by decide +kernel
theorem dX9_leastOf_32 : decode cX9_leastOf 32 = .ok (.iaload, 1) := by decide +kernel
theorem dX9_leastOf_33 : decode cX9_leastOf 33 = .ok (.istore 5, 2) := by decide +kernel
theorem dX9_leastOf_35 : decode cX9_leastOf 35 = .ok (.aload_n 0, 1) := by decide +kernel
theorem dX9_leastOf_36 : decode cX9_leastOf 36 = .ok (.getfield 44, 3) := by decide +kernel
theorem dX9_leastOf_39 : decode cX9_leastOf 39 = .ok (.iload_n 3, 1) := by decide +kernel
theorem dX9_leastOf_40 : decode cX9_leastOf 40 = .ok (.iload 4, 2) := by decide +kernel
theorem dX9_leastOf_42 : decode cX9_leastOf 42 = .ok (.iload 5, 2) := by decide +kernel
theorem dX9_leastOf_44 : decode cX9_leastOf 44 = .ok (.if_icmp .le 8, 3) := by decide +kernel
theorem dX9_leastOf_47 : decode cX9_leastOf 47 = .ok (.iload 4, 2) := by decide +kernel
theorem dX9_leastOf_49 : decode cX9_leastOf 49 = .ok (.goto 5, 3) := by decide +kernel
theorem dX9_leastOf_52 : decode cX9_leastOf 52 = .ok (.iload 5, 2) := by decide +kernel
theorem dX9_leastOf_54 : decode cX9_leastOf 54 = .ok (.iastore, 1) := by decide +kernel
theorem dX9_leastOf_55 : decode cX9_leastOf 55 = .ok (.iinc 3 1, 3) := by decide +kernel
theorem dX9_leastOf_58 : decode cX9_leastOf 58 = .ok (.goto (-56), 3) := by decide +kernel
theorem dX9_leastOf_61 : decode cX9_leastOf 61 = .ok (.return_, 1) := by decide +kernel
theorem dX9_makeS_0 : decode cX9_makeS 0 = .ok (.aload_n 0, 1) := by decide +kernel
theorem dX9_makeS_1 : decode cX9_makeS 1 = .ok (.iload_n 1, 1) := by decide +kernel
theorem dX9_makeS_2 : decode cX9_makeS 2 = .ok (.iload_n 2, 1) := by decide +kernel
theorem dX9_makeS_3 : decode cX9_makeS 3 = .ok (.invokevirtual 138, 3) := by decide +kernel
theorem dX9_makeS_6 : decode cX9_makeS 6 = .ok (.aload_n 0, 1) := by decide +kernel
theorem dX9_makeS_7 : decode cX9_makeS 7 = .ok (.iconst 0, 1) := by decide +kernel
theorem dX9_makeS_8 : decode cX9_makeS 8 = .ok (.putfield 90, 3) := by decide +kernel
theorem dX9_makeS_11 : decode cX9_makeS 11 = .ok (.iconst 0, 1) := by decide +kernel
theorem dX9_makeS_12 : decode cX9_makeS 12 = .ok (.istore_n 3, 1) := by decide +kernel
theorem dX9_makeS_13 : decode cX9_makeS 13 = .ok (.iload_n 3, 1) := by decide +kernel
theorem dX9_makeS_14 : decode cX9_makeS 14 = .ok (.iconst 2, 1) := by decide +kernel
theorem dX9_makeS_15 : decode cX9_makeS 15 = .ok (.if_icmp .ge 113, 3) := by decide +kernel
theorem dX9_makeS_18 : decode cX9_makeS 18 = .ok (.iload_n 3, 1) := by decide +kernel
theorem dX9_makeS_19 : decode cX9_makeS 19 = .ok (.ifCond .ne 7, 3) := by decide +kernel
theorem dX9_makeS_22 : decode cX9_makeS 22 = .ok (.iload_n 1, 1) := by decide +kernel
theorem dX9_makeS_23 : decode cX9_makeS 23 = .ok (.goto 4, 3) := by decide +kernel
theorem dX9_makeS_26 : decode cX9_makeS 26 = .ok (.iload_n 2, 1) := by decide +kernel
theorem dX9_makeS_27 : decode cX9_makeS 27 = .ok (.istore 4, 2) := by decide +kernel
theorem dX9_makeS_29 : decode cX9_makeS 29 = .ok (.iconst 0, 1) := by decide +kernel
theorem dX9_makeS_30 : decode cX9_makeS 30 = .ok (.istore 5, 2) := by decide +kernel
theorem dX9_makeS_32 : decode cX9_makeS 32 = .ok (.iload 5, 2) := by decide +kernel
theorem dX9_makeS_34 : decode cX9_makeS 34 = .ok (.iconst 4, 1) := by decide +kernel
theorem dX9_makeS_35 : decode cX9_makeS 35 = .ok (.if_icmp .ge 38, 3) := by decide +kernel
theorem dX9_makeS_38 : decode cX9_makeS 38 = .ok (.aload_n 0, 1) := by decide +kernel
theorem dX9_makeS_39 : decode cX9_makeS 39 = .ok (.getfield 41, 3) := by decide +kernel
theorem dX9_makeS_42 : decode cX9_makeS 42 = .ok (.iload 5, 2) := by decide +kernel
theorem dX9_makeS_44 : decode cX9_makeS 44 = .ok (.aload_n 0, 1) := by decide +kernel
theorem dX9_makeS_45 : decode cX9_makeS 45 = .ok (.getfield 44, 3) := by decide +kernel
theorem dX9_makeS_48 : decode cX9_makeS 48 = .ok (.iload 5, 2) := by decide +kernel
theorem dX9_makeS_50 : decode cX9_makeS 50 = .ok (.iaload, 1) := by decide +kernel
theorem dX9_makeS_51 : decode cX9_makeS 51 = .ok (.aload_n 0, 1) := by decide +kernel
theorem dX9_makeS_52 : decode cX9_makeS 52 = .ok (.getfield 20, 3) := by decide +kernel
theorem dX9_makeS_55 : decode cX9_makeS 55 = .ok (.sipush 160, 3) := by decide +kernel
theorem dX9_makeS_58 : decode cX9_makeS 58 = .ok (.iload 4, 2) := by decide +kernel
theorem dX9_makeS_60 : decode cX9_makeS 60 = .ok (.imul, 1) := by decide +kernel
theorem dX9_makeS_61 : decode cX9_makeS 61 = .ok (.iload 5, 2) := by decide +kernel
theorem dX9_makeS_63 : decode cX9_makeS 63 = .ok (.iadd, 1) := by decide +kernel
theorem dX9_makeS_64 : decode cX9_makeS 64 = .ok (.iaload, 1) := by decide +kernel
theorem dX9_makeS_65 : decode cX9_makeS 65 = .ok (.isub, 1) := by decide +kernel
theorem dX9_makeS_66 : decode cX9_makeS 66 = .ok (.iastore, 1) := by decide +kernel
theorem dX9_makeS_67 : decode cX9_makeS 67 = .ok (.iinc 5 1, 3) := by decide +kernel
theorem dX9_makeS_70 : decode cX9_makeS 70 = .ok (.goto (-38), 3) := by decide +kernel
theorem dX9_makeS_73 : decode cX9_makeS 73 = .ok (.aload_n 0, 1) := by decide +kernel
theorem dX9_makeS_74 : decode cX9_makeS 74 = .ok (.aload_n 0, 1) := by decide +kernel
theorem dX9_makeS_75 : decode cX9_makeS 75 = .ok (.getfield 17, 3) := by decide +kernel
theorem dX9_makeS_78 : decode cX9_makeS 78 = .ok (.bipush 40, 2) := by decide +kernel
theorem dX9_makeS_80 : decode cX9_makeS 80 = .ok (.iload 4, 2) := by decide +kernel
theorem dX9_makeS_82 : decode cX9_makeS 82 = .ok (.imul, 1) := by decide +kernel
theorem dX9_makeS_83 : decode cX9_makeS 83 = .ok (.iaload, 1) := by decide +kernel
theorem dX9_makeS_84 : decode cX9_makeS 84 = .ok (.invokevirtual 141, 3) := by decide +kernel
theorem dX9_makeS_87 : decode cX9_makeS 87 = .ok (.istore 5, 2) := by decide +kernel
theorem dX9_makeS_89 : decode cX9_makeS 89 = .ok (.aload_n 0, 1) := by decide +kernel
theorem dX9_makeS_90 : decode cX9_makeS 90 = .ok (.iload 4, 2) := by decide +kernel
theorem dX9_makeS_92 : decode cX9_makeS 92 = .ok (.iload_n 3, 1) := by decide +kernel
theorem dX9_makeS_93 : decode cX9_makeS 93 = .ok (.ifCond .ne 8, 3) := by decide +kernel
theorem dX9_makeS_96 : decode cX9_makeS 96 = .ok (.iload 5, 2) := by decide +kernel
theorem dX9_makeS_98 : decode cX9_makeS 98 = .ok (.goto 15, 3) := by decide +kernel
theorem dX9_makeS_101 : decode cX9_makeS 101 = .ok (.aload_n 0, 1) := by decide +kernel
theorem dX9_makeS_102 : decode cX9_makeS 102 = .ok (.getfield 72, 3) := by decide +kernel
theorem dX9_makeS_105 : decode cX9_makeS 105 = .ok (.iload 5, 2) := by decide +kernel
theorem dX9_makeS_107 : decode cX9_makeS 107 = .ok (.isub, 1) := by decide +kernel
theorem dX9_makeS_108 : decode cX9_makeS 108 = .ok (.aload_n 0, 1) := by decide +kernel
theorem dX9_makeS_109 : decode cX9_makeS 109 = .ok (.getfield 72, 3) := by decide +kernel
theorem dX9_makeS_112 : decode cX9_makeS 112 = .ok (.irem, 1) := by decide +kernel
theorem dX9_makeS_113 : decode cX9_makeS 113 = .ok (.invokevirtual 116, 3) := by decide +kernel
theorem dX9_makeS_116 : decode cX9_makeS 116 = .ok (.ifCond .ne 6, 3) := by decide +kernel
theorem dX9_makeS_119 : decode cX9_makeS 119 = .ok (.bipush (-5), 2) := by decide +kernel
theorem dX9_makeS_121 : decode cX9_makeS 121 = .ok (.ireturn, 1) := by decide +kernel
theorem dX9_makeS_122 : decode cX9_makeS 122 = .ok (.iinc 3 1, 3) := by decide +kernel
theorem dX9_makeS_125 : decode cX9_makeS 125 = .ok (.goto (-112), 3) := by decide +kernel
theorem dX9_makeS_128 : decode cX9_makeS 128 = .ok (.aload_n 0, 1) := by decide +kernel
theorem dX9_makeS_129 : decode cX9_makeS 129 = .ok (.invokevirtual 110, 3) := by decide +kernel
theorem dX9_makeS_132 : decode cX9_makeS 132 = .ok (.aload_n 0, 1) := by decide +kernel
theorem dX9_makeS_133 : decode cX9_makeS 133 = .ok (.getfield 90, 3) := by decide +kernel
theorem dX9_makeS_136 : decode cX9_makeS 136 = .ok (.bipush 40, 2) := by decide +kernel
theorem dX9_makeS_138 : decode cX9_makeS 138 = .ok (.if_icmp .le 8, 3) := by decide +kernel
theorem dX9_makeS_141 : decode cX9_makeS 141 = .ok (.bipush (-6), 2) := by decide +kernel
theorem dX9_makeS_143 : decode cX9_makeS 143 = .ok (.goto 4, 3) := by decide +kernel
theorem dX9_makeS_146 : decode cX9_makeS 146 = .ok (.iconst 0, 1) := by decide +kernel
theorem dX9_makeS_147 : decode cX9_makeS 147 = .ok (.ireturn, 1) := by decide +kernel
theorem dX9_spair_0 : decode cX9_spair 0 = .ok (.aload_n 0, 1) := by decide +kernel
theorem dX9_spair_1 : decode cX9_spair 1 = .ok (.iload_n 1, 1) := by decide +kernel
theorem dX9_spair_2 : decode cX9_spair 2 = .ok (.invokevirtual 131, 3) := by decide +kernel
theorem dX9_spair_5 : decode cX9_spair 5 = .ok (.istore_n 3, 1) := by decide +kernel
theorem dX9_spair_6 : decode cX9_spair 6 = .ok (.aload_n 0, 1) := by decide +kernel
theorem dX9_spair_7 : decode cX9_spair 7 = .ok (.iload_n 2, 1) := by decide +kernel
theorem dX9_spair_8 : decode cX9_spair 8 = .ok (.invokevirtual 131, 3) := by decide +kernel
theorem dX9_spair_11 : decode cX9_spair 11 = .ok (.istore 4, 2) := by decide +kernel
theorem dX9_spair_13 : decode cX9_spair 13 = .ok (.iload_n 3, 1) := by decide +kernel
theorem dX9_spair_14 : decode cX9_spair 14 = .ok (.ifCond .lt 27, 3) := by decide +kernel
theorem dX9_spair_17 : decode cX9_spair 17 = .ok (.iload 4, 2) := by decide +kernel
theorem dX9_spair_19 : decode cX9_spair 19 = .ok (.ifCond .lt 22, 3) := by decide +kernel
theorem dX9_spair_22 : decode cX9_spair 22 = .ok (.aload_n 0, 1) := by decide +kernel
theorem dX9_spair_23 : decode cX9_spair 23 = .ok (.getfield 13, 3) := by decide +kernel
theorem dX9_spair_26 : decode cX9_spair 26 = .ok (.iload_n 3, 1) := by decide +kernel
theorem dX9_spair_27 : decode cX9_spair 27 = .ok (.iaload, 1) := by decide +kernel
theorem dX9_spair_28 : decode cX9_spair 28 = .ok (.ifCond .eq 13, 3) := by decide +kernel
theorem dX9_spair_31 : decode cX9_spair 31 = .ok (.aload_n 0, 1) := by decide +kernel
theorem dX9_spair_32 : decode cX9_spair 32 = .ok (.getfield 13, 3) := by decide +kernel
theorem dX9_spair_35 : decode cX9_spair 35 = .ok (.iload 4, 2) := by decide +kernel
theorem dX9_spair_37 : decode cX9_spair 37 = .ok (.iaload, 1) := by decide +kernel
theorem dX9_spair_38 : decode cX9_spair 38 = .ok (.ifCond .ne 6, 3) := by decide +kernel
theorem dX9_spair_41 : decode cX9_spair 41 = .ok (.bipush (-2), 2) := by decide +kernel
theorem dX9_spair_43 : decode cX9_spair 43 = .ok (.ireturn, 1) := by decide +kernel
theorem dX9_spair_44 : decode cX9_spair 44 = .ok (.aload_n 0, 1) := by decide +kernel
theorem dX9_spair_45 : decode cX9_spair 45 = .ok (.invokevirtual 124, 3) := by decide +kernel
theorem dX9_spair_48 : decode cX9_spair 48 = .ok (.istore 5, 2) := by decide +kernel
theorem dX9_spair_50 : decode cX9_spair 50 = .ok (.iload 5, 2) := by decide +kernel
theorem dX9_spair_52 : decode cX9_spair 52 = .ok (.bipush 25, 2) := by decide +kernel
theorem dX9_spair_54 : decode cX9_spair 54 = .ok (.if_icmp .ne 6, 3) := by decide +kernel
theorem dX9_spair_57 : decode cX9_spair 57 = .ok (.bipush (-4), 2) := by decide +kernel
theorem dX9_spair_59 : decode cX9_spair 59 = .ok (.ireturn, 1) := by decide +kernel
theorem dX9_spair_60 : decode cX9_spair 60 = .ok (.aload_n 0, 1) := by decide +kernel
theorem dX9_spair_61 : decode cX9_spair 61 = .ok (.iload_n 3, 1) := by decide +kernel
theorem dX9_spair_62 : decode cX9_spair 62 = .ok (.iload 4, 2) := by decide +kernel
theorem dX9_spair_64 : decode cX9_spair 64 = .ok (.invokevirtual 144, 3) := by decide +kernel
theorem dX9_spair_67 : decode cX9_spair 67 = .ok (.istore 6, 2) := by decide +kernel
theorem dX9_spair_69 : decode cX9_spair 69 = .ok (.iload 6, 2) := by decide +kernel
theorem dX9_spair_71 : decode cX9_spair 71 = .ok (.ifCond .ge 8, 3) := by decide +kernel
theorem dX9_spair_74 : decode cX9_spair 74 = .ok (.iload 6, 2) := by decide +kernel
theorem dX9_spair_76 : decode cX9_spair 76 = .ok (.goto 9, 3) := by decide +kernel
theorem dX9_spair_79 : decode cX9_spair 79 = .ok (.aload_n 0, 1) := by decide +kernel
theorem dX9_spair_80 : decode cX9_spair 80 = .ok (.iload 5, 2) := by decide +kernel
theorem dX9_spair_82 : decode cX9_spair 82 = .ok (.invokevirtual 135, 3) := by decide +kernel
theorem dX9_spair_85 : decode cX9_spair 85 = .ok (.ireturn, 1) := by decide +kernel
theorem dX9_valueAt_0 : decode cX9_valueAt 0 = .ok (.iconst 0, 1) := by decide +kernel
theorem dX9_valueAt_1 : decode cX9_valueAt 1 = .ok (.istore_n 2, 1) := by decide +kernel
theorem dX9_valueAt_2 : decode cX9_valueAt 2 = .ok (.iconst 0, 1) := by decide +kernel
theorem dX9_valueAt_3 : decode cX9_valueAt 3 = .ok (.istore_n 3, 1) := by decide +kernel
theorem dX9_valueAt_4 : decode cX9_valueAt 4 = .ok (.iload_n 3, 1) := by decide +kernel
theorem dX9_valueAt_5 : decode cX9_valueAt 5 = .ok (.aload_n 0, 1) := by decide +kernel
theorem dX9_valueAt_6 : decode cX9_valueAt 6 = .ok (.getfield 13, 3) := by decide +kernel
theorem dX9_valueAt_9 : decode cX9_valueAt 9 = .ok (.iload_n 1, 1) := by decide +kernel
theorem dX9_valueAt_10 : decode cX9_valueAt 10 = .ok (.iaload, 1) := by decide +kernel
theorem dX9_valueAt_11 : decode cX9_valueAt 11 = .ok (.if_icmp .ge 95, 3) := by decide +kernel
theorem dX9_valueAt_14 : decode cX9_valueAt 14 = .ok (.aload_n 0, 1) := by decide +kernel
theorem dX9_valueAt_15 : decode cX9_valueAt 15 = .ok (.getfield 17, 3) := by decide +kernel
theorem dX9_valueAt_18 : decode cX9_valueAt 18 = .ok (.bipush 40, 2) := by decide +kernel
theorem dX9_valueAt_20 : decode cX9_valueAt 20 = .ok (.iload_n 1, 1) := by decide +kernel
theorem dX9_valueAt_21 : decode cX9_valueAt 21 = .ok (.imul, 1) := by decide +kernel
theorem dX9_valueAt_22 : decode cX9_valueAt 22 = .ok (.iload_n 3, 1) := by decide +kernel
theorem dX9_valueAt_23 : decode cX9_valueAt 23 = .ok (.iadd, 1) := by decide +kernel
theorem dX9_valueAt_24 : decode cX9_valueAt 24 = .ok (.iaload, 1) := by decide +kernel
theorem dX9_valueAt_25 : decode cX9_valueAt 25 = .ok (.istore 4, 2) := by decide +kernel
theorem dX9_valueAt_27 : decode cX9_valueAt 27 = .ok (.iconst 0, 1) := by decide +kernel
theorem dX9_valueAt_28 : decode cX9_valueAt 28 = .ok (.istore 5, 2) := by decide +kernel
theorem dX9_valueAt_30 : decode cX9_valueAt 30 = .ok (.iload 5, 2) := by decide +kernel
theorem dX9_valueAt_32 : decode cX9_valueAt 32 = .ok (.iconst 4, 1) := by decide +kernel
theorem dX9_valueAt_33 : decode cX9_valueAt 33 = .ok (.if_icmp .ge 57, 3) := by decide +kernel
theorem dX9_valueAt_36 : decode cX9_valueAt 36 = .ok (.iconst 0, 1) := by decide +kernel
theorem dX9_valueAt_37 : decode cX9_valueAt 37 = .ok (.istore 6, 2) := by decide +kernel
theorem dX9_valueAt_39 : decode cX9_valueAt 39 = .ok (.iload 6, 2) := by decide +kernel
theorem dX9_valueAt_41 : decode cX9_valueAt 41 = .ok (.aload_n 0, 1) := by decide +kernel
theorem dX9_valueAt_42 : decode cX9_valueAt 42 = .ok (.getfield 20, 3) := by decide +kernel
theorem dX9_valueAt_45 : decode cX9_valueAt 45 = .ok (.sipush 160, 3) := by decide +kernel
theorem dX9_valueAt_48 : decode cX9_valueAt 48 = .ok (.iload_n 1, 1) := by decide +kernel
theorem dX9_valueAt_49 : decode cX9_valueAt 49 = .ok (.imul, 1) := by decide +kernel
theorem dX9_valueAt_50 : decode cX9_valueAt 50 = .ok (.iconst 4, 1) := by decide +kernel
theorem dX9_valueAt_51 : decode cX9_valueAt 51 = .ok (.iload_n 3, 1) := by decide +kernel
theorem dX9_valueAt_52 : decode cX9_valueAt 52 = .ok (.imul, 1) := by decide +kernel
theorem dX9_valueAt_53 : decode cX9_valueAt 53 = .ok (.iadd, 1) := by decide +kernel
theorem dX9_valueAt_54 : decode cX9_valueAt 54 = .ok (.iload 5, 2) := by decide +kernel
theorem dX9_valueAt_56 : decode cX9_valueAt 56 = .ok (.iadd, 1) := by decide +kernel
theorem dX9_valueAt_57 : decode cX9_valueAt 57 = .ok (.iaload, 1) := by decide +kernel
theorem dX9_valueAt_58 : decode cX9_valueAt 58 = .ok (.if_icmp .ge 26, 3) := by decide +kernel
theorem dX9_valueAt_61 : decode cX9_valueAt 61 = .ok (.iload 4, 2) := by decide +kernel
theorem dX9_valueAt_63 : decode cX9_valueAt 63 = .ok (.aload_n 0, 1) := by decide +kernel
theorem dX9_valueAt_64 : decode cX9_valueAt 64 = .ok (.getfield 47, 3) := by decide +kernel
theorem dX9_valueAt_67 : decode cX9_valueAt 67 = .ok (.iload 5, 2) := by decide +kernel
theorem dX9_valueAt_69 : decode cX9_valueAt 69 = .ok (.iaload, 1) := by decide +kernel
theorem dX9_valueAt_70 : decode cX9_valueAt 70 = .ok (.imul, 1) := by decide +kernel
theorem dX9_valueAt_71 : decode cX9_valueAt 71 = .ok (.aload_n 0, 1) := by decide +kernel
theorem dX9_valueAt_72 : decode cX9_valueAt 72 = .ok (.getfield 72, 3) := by decide +kernel
theorem dX9_valueAt_75 : decode cX9_valueAt 75 = .ok (.irem, 1) := by decide +kernel
theorem dX9_valueAt_76 : decode cX9_valueAt 76 = .ok (.istore 4, 2) := by decide +kernel
theorem dX9_valueAt_78 : decode cX9_valueAt 78 = .ok (.iinc 6 1, 3) := by decide +kernel
theorem dX9_valueAt_81 : decode cX9_valueAt 81 = .ok (.goto (-42), 3) := by decide +kernel
theorem dX9_valueAt_84 : decode cX9_valueAt 84 = .ok (.iinc 5 1, 3) := by decide +kernel
theorem dX9_valueAt_87 : decode cX9_valueAt 87 = .ok (.goto (-57), 3) := by decide +kernel
theorem dX9_valueAt_90 : decode cX9_valueAt 90 = .ok (.iload_n 2, 1) := by decide +kernel
theorem dX9_valueAt_91 : decode cX9_valueAt 91 = .ok (.iload 4, 2) := by decide +kernel
theorem dX9_valueAt_93 : decode cX9_valueAt 93 = .ok (.iadd, 1) := by decide +kernel
theorem dX9_valueAt_94 : decode cX9_valueAt 94 = .ok (.aload_n 0, 1) := by decide +kernel
theorem dX9_valueAt_95 : decode cX9_valueAt 95 = .ok (.getfield 72, 3) := by decide +kernel
theorem dX9_valueAt_98 : decode cX9_valueAt 98 = .ok (.irem, 1) := by decide +kernel
theorem dX9_valueAt_99 : decode cX9_valueAt 99 = .ok (.istore_n 2, 1) := by decide +kernel
theorem dX9_valueAt_100 : decode cX9_valueAt 100 = .ok (.iinc 3 1, 3) := by decide +kernel
theorem dX9_valueAt_103 : decode cX9_valueAt 103 = .ok (.goto (-99), 3) := by decide +kernel
theorem dX9_valueAt_106 : decode cX9_valueAt 106 = .ok (.iload_n 2, 1) := by decide +kernel
theorem dX9_valueAt_107 : decode cX9_valueAt 107 = .ok (.ireturn, 1) := by decide +kernel
theorem dX9_value_0 : decode cX9_value 0 = .ok (.aload_n 0, 1) := by decide +kernel
theorem dX9_value_1 : decode cX9_value 1 = .ok (.iload_n 1, 1) := by decide +kernel
theorem dX9_value_2 : decode cX9_value 2 = .ok (.invokevirtual 131, 3) := by decide +kernel
theorem dX9_value_5 : decode cX9_value 5 = .ok (.istore 6, 2) := by decide +kernel
theorem dX9_value_7 : decode cX9_value 7 = .ok (.iload 6, 2) := by decide +kernel
theorem dX9_value_9 : decode cX9_value 9 = .ok (.ifCond .ge 6, 3) := by decide +kernel
theorem dX9_value_12 : decode cX9_value 12 = .ok (.bipush (-2), 2) := by decide +kernel
theorem dX9_value_14 : decode cX9_value 14 = .ok (.ireturn, 1) := by decide +kernel
theorem dX9_value_15 : decode cX9_value 15 = .ok (.aload_n 0, 1) := by decide +kernel
theorem dX9_value_16 : decode cX9_value 16 = .ok (.getfield 47, 3) := by decide +kernel
theorem dX9_value_19 : decode cX9_value 19 = .ok (.iconst 0, 1) := by decide +kernel
theorem dX9_value_20 : decode cX9_value 20 = .ok (.aload_n 0, 1) := by decide +kernel
theorem dX9_value_21 : decode cX9_value 21 = .ok (.iload_n 2, 1) := by decide +kernel
theorem dX9_value_22 : decode cX9_value 22 = .ok (.i2l, 1) := by decide +kernel
theorem dX9_value_23 : decode cX9_value 23 = .ok (.invokevirtual 120, 3) := by decide +kernel
theorem dX9_value_26 : decode cX9_value 26 = .ok (.iastore, 1) := by decide +kernel
theorem dX9_value_27 : decode cX9_value 27 = .ok (.aload_n 0, 1) := by decide +kernel
theorem dX9_value_28 : decode cX9_value 28 = .ok (.getfield 47, 3) := by decide +kernel
theorem dX9_value_31 : decode cX9_value 31 = .ok (.iconst 1, 1) := by decide +kernel
theorem dX9_value_32 : decode cX9_value 32 = .ok (.aload_n 0, 1) := by decide +kernel
theorem dX9_value_33 : decode cX9_value 33 = .ok (.iload_n 3, 1) := by decide +kernel
theorem dX9_value_34 : decode cX9_value 34 = .ok (.i2l, 1) := by decide +kernel
theorem dX9_value_35 : decode cX9_value 35 = .ok (.invokevirtual 120, 3) := by decide +kernel
theorem dX9_value_38 : decode cX9_value 38 = .ok (.iastore, 1) := by decide +kernel
theorem dX9_value_39 : decode cX9_value 39 = .ok (.aload_n 0, 1) := by decide +kernel
theorem dX9_value_40 : decode cX9_value 40 = .ok (.getfield 47, 3) := by decide +kernel
theorem dX9_value_43 : decode cX9_value 43 = .ok (.iconst 2, 1) := by decide +kernel
theorem dX9_value_44 : decode cX9_value 44 = .ok (.aload_n 0, 1) := by decide +kernel
theorem dX9_value_45 : decode cX9_value 45 = .ok (.iload 4, 2) := by decide +kernel
theorem dX9_value_47 : decode cX9_value 47 = .ok (.i2l, 1) := by decide +kernel
theorem dX9_value_48 : decode cX9_value 48 = .ok (.invokevirtual 120, 3) := by decide +kernel
theorem dX9_value_51 : decode cX9_value 51 = .ok (.iastore, 1) := by decide +kernel
theorem dX9_value_52 : decode cX9_value 52 = .ok (.aload_n 0, 1) := by decide +kernel
theorem dX9_value_53 : decode cX9_value 53 = .ok (.getfield 47, 3) := by decide +kernel
theorem dX9_value_56 : decode cX9_value 56 = .ok (.iconst 3, 1) := by decide +kernel
theorem dX9_value_57 : decode cX9_value 57 = .ok (.aload_n 0, 1) := by decide +kernel
theorem dX9_value_58 : decode cX9_value 58 = .ok (.iload 5, 2) := by decide +kernel
theorem dX9_value_60 : decode cX9_value 60 = .ok (.i2l, 1) := by decide +kernel
theorem dX9_value_61 : decode cX9_value 61 = .ok (.invokevirtual 120, 3) := by decide +kernel
theorem dX9_value_64 : decode cX9_value 64 = .ok (.iastore, 1) := by decide +kernel
theorem dX9_value_65 : decode cX9_value 65 = .ok (.aload_n 0, 1) := by decide +kernel
theorem dX9_value_66 : decode cX9_value 66 = .ok (.iload 6, 2) := by decide +kernel
theorem dX9_value_68 : decode cX9_value 68 = .ok (.invokevirtual 148, 3) := by decide +kernel
theorem dX9_value_71 : decode cX9_value 71 = .ok (.ireturn, 1) := by decide +kernel
theorem dX9_compare_0 : decode cX9_compare 0 = .ok (.aload_n 0, 1) := by decide +kernel
theorem dX9_compare_1 : decode cX9_compare 1 = .ok (.iload_n 1, 1) := by decide +kernel
theorem dX9_compare_2 : decode cX9_compare 2 = .ok (.invokevirtual 131, 3) := by decide +kernel
theorem dX9_compare_5 : decode cX9_compare 5 = .ok (.istore_n 3, 1) := by decide +kernel
theorem dX9_compare_6 : decode cX9_compare 6 = .ok (.aload_n 0, 1) := by decide +kernel
theorem dX9_compare_7 : decode cX9_compare 7 = .ok (.iload_n 2, 1) := by decide +kernel
theorem dX9_compare_8 : decode cX9_compare 8 = .ok (.invokevirtual 131, 3) := by decide +kernel
theorem dX9_compare_11 : decode cX9_compare 11 = .ok (.istore 4, 2) := by decide +kernel
theorem dX9_compare_13 : decode cX9_compare 13 = .ok (.iload_n 3, 1) := by decide +kernel
theorem dX9_compare_14 : decode cX9_compare 14 = .ok (.ifCond .lt 8, 3) := by decide +kernel
theorem dX9_compare_17 : decode cX9_compare 17 = .ok (.iload 4, 2) := by decide +kernel
theorem dX9_compare_19 : decode cX9_compare 19 = .ok (.ifCond .ge 6, 3) := by decide +kernel
theorem dX9_compare_22 : decode cX9_compare 22 = .ok (.bipush (-2), 2) := by decide +kernel
theorem dX9_compare_24 : decode cX9_compare 24 = .ok (.ireturn, 1) := by decide +kernel
theorem dX9_compare_25 : decode cX9_compare 25 = .ok (.iconst 0, 1) := by decide +kernel
theorem dX9_compare_26 : decode cX9_compare 26 = .ok (.istore 5, 2) := by decide +kernel
theorem dX9_compare_28 : decode cX9_compare 28 = .ok (.iload 5, 2) := by decide +kernel
theorem dX9_compare_30 : decode cX9_compare 30 = .ok (.aload_n 0, 1) := by decide +kernel
theorem dX9_compare_31 : decode cX9_compare 31 = .ok (.getfield 13, 3) := by decide +kernel
theorem dX9_compare_34 : decode cX9_compare 34 = .ok (.iload_n 3, 1) := by decide +kernel
theorem dX9_compare_35 : decode cX9_compare 35 = .ok (.iaload, 1) := by decide +kernel
theorem dX9_compare_36 : decode cX9_compare 36 = .ok (.if_icmp .ge 113, 3) := by decide +kernel
theorem dX9_compare_39 : decode cX9_compare 39 = .ok (.iload 5, 2) := by decide +kernel
theorem dX9_compare_41 : decode cX9_compare 41 = .ok (.aload_n 0, 1) := by decide +kernel
theorem dX9_compare_42 : decode cX9_compare 42 = .ok (.getfield 13, 3) := by decide +kernel
theorem dX9_compare_45 : decode cX9_compare 45 = .ok (.iload 4, 2) := by decide +kernel
theorem dX9_compare_47 : decode cX9_compare 47 = .ok (.iaload, 1) := by decide +kernel
theorem dX9_compare_48 : decode cX9_compare 48 = .ok (.if_icmp .ge 101, 3) := by decide +kernel
theorem dX9_compare_51 : decode cX9_compare 51 = .ok (.aload_n 0, 1) := by decide +kernel
theorem dX9_compare_52 : decode cX9_compare 52 = .ok (.aload_n 0, 1) := by decide +kernel
theorem dX9_compare_53 : decode cX9_compare 53 = .ok (.getfield 20, 3) := by decide +kernel
theorem dX9_compare_56 : decode cX9_compare 56 = .ok (.sipush 160, 3) := by decide +kernel
theorem dX9_compare_59 : decode cX9_compare 59 = .ok (.iload_n 3, 1) := by decide +kernel
theorem dX9_compare_60 : decode cX9_compare 60 = .ok (.imul, 1) := by decide +kernel
theorem dX9_compare_61 : decode cX9_compare 61 = .ok (.iconst 4, 1) := by decide +kernel
theorem dX9_compare_62 : decode cX9_compare 62 = .ok (.iload 5, 2) := by decide +kernel
theorem dX9_compare_64 : decode cX9_compare 64 = .ok (.imul, 1) := by decide +kernel
theorem dX9_compare_65 : decode cX9_compare 65 = .ok (.iadd, 1) := by decide +kernel
theorem dX9_compare_66 : decode cX9_compare 66 = .ok (.aload_n 0, 1) := by decide +kernel
theorem dX9_compare_67 : decode cX9_compare 67 = .ok (.getfield 20, 3) := by decide +kernel
theorem dX9_compare_70 : decode cX9_compare 70 = .ok (.sipush 160, 3) := by decide +kernel
theorem dX9_compare_73 : decode cX9_compare 73 = .ok (.iload 4, 2) := by decide +kernel
theorem dX9_compare_75 : decode cX9_compare 75 = .ok (.imul, 1) := by decide +kernel
theorem dX9_compare_76 : decode cX9_compare 76 = .ok (.iconst 4, 1) := by decide +kernel
theorem dX9_compare_77 : decode cX9_compare 77 = .ok (.iload 5, 2) := by decide +kernel
theorem dX9_compare_79 : decode cX9_compare 79 = .ok (.imul, 1) := by decide +kernel
theorem dX9_compare_80 : decode cX9_compare 80 = .ok (.iadd, 1) := by decide +kernel
theorem dX9_compare_81 : decode cX9_compare 81 = .ok (.invokevirtual 93, 3) := by decide +kernel
theorem dX9_compare_84 : decode cX9_compare 84 = .ok (.istore 6, 2) := by decide +kernel
theorem dX9_compare_86 : decode cX9_compare 86 = .ok (.iload 6, 2) := by decide +kernel
theorem dX9_compare_88 : decode cX9_compare 88 = .ok (.ifCond .eq 6, 3) := by decide +kernel
theorem dX9_compare_91 : decode cX9_compare 91 = .ok (.iload 6, 2) := by decide +kernel
theorem dX9_compare_93 : decode cX9_compare 93 = .ok (.ireturn, 1) := by decide +kernel
theorem dX9_compare_94 : decode cX9_compare 94 = .ok (.aload_n 0, 1) := by decide +kernel
theorem dX9_compare_95 : decode cX9_compare 95 = .ok (.getfield 17, 3) := by decide +kernel
theorem dX9_compare_98 : decode cX9_compare 98 = .ok (.bipush 40, 2) := by decide +kernel
theorem dX9_compare_100 : decode cX9_compare 100 = .ok (.iload_n 3, 1) := by decide +kernel
theorem dX9_compare_101 : decode cX9_compare 101 = .ok (.imul, 1) := by decide +kernel
theorem dX9_compare_102 : decode cX9_compare 102 = .ok (.iload 5, 2) := by decide +kernel
theorem dX9_compare_104 : decode cX9_compare 104 = .ok (.iadd, 1) := by decide +kernel
theorem dX9_compare_105 : decode cX9_compare 105 = .ok (.iaload, 1) := by decide +kernel
theorem dX9_compare_106 : decode cX9_compare 106 = .ok (.istore 7, 2) := by decide +kernel
theorem dX9_compare_108 : decode cX9_compare 108 = .ok (.aload_n 0, 1) := by decide +kernel
theorem dX9_compare_109 : decode cX9_compare 109 = .ok (.getfield 17, 3) := by decide +kernel
theorem dX9_compare_112 : decode cX9_compare 112 = .ok (.bipush 40, 2) := by decide +kernel
theorem dX9_compare_114 : decode cX9_compare 114 = .ok (.iload 4, 2) := by decide +kernel
theorem dX9_compare_116 : decode cX9_compare 116 = .ok (.imul, 1) := by decide +kernel
theorem dX9_compare_117 : decode cX9_compare 117 = .ok (.iload 5, 2) := by decide +kernel
theorem dX9_compare_119 : decode cX9_compare 119 = .ok (.iadd, 1) := by decide +kernel
theorem dX9_compare_120 : decode cX9_compare 120 = .ok (.iaload, 1) := by decide +kernel
theorem dX9_compare_121 : decode cX9_compare 121 = .ok (.istore 8, 2) := by decide +kernel
theorem dX9_compare_123 : decode cX9_compare 123 = .ok (.iload 7, 2) := by decide +kernel
theorem dX9_compare_125 : decode cX9_compare 125 = .ok (.iload 8, 2) := by decide +kernel
theorem dX9_compare_127 : decode cX9_compare 127 = .ok (.if_icmp .eq 16, 3) := by decide +kernel
theorem dX9_compare_130 : decode cX9_compare 130 = .ok (.iload 7, 2) := by decide +kernel
theorem dX9_compare_132 : decode cX9_compare 132 = .ok (.iload 8, 2) := by decide +kernel
theorem dX9_compare_134 : decode cX9_compare 134 = .ok (.if_icmp .ge 7, 3) := by decide +kernel
theorem dX9_compare_137 : decode cX9_compare 137 = .ok (.iconst (-1), 1) := by decide +kernel
theorem dX9_compare_138 : decode cX9_compare 138 = .ok (.goto 4, 3) := by decide +kernel
theorem dX9_compare_141 : decode cX9_compare 141 = .ok (.iconst 1, 1) := by decide +kernel
theorem dX9_compare_142 : decode cX9_compare 142 = .ok (.ireturn, 1) := by decide +kernel
theorem dX9_compare_143 : decode cX9_compare 143 = .ok (.iinc 5 1, 3) := by decide +kernel
theorem dX9_compare_146 : decode cX9_compare 146 = .ok (.goto (-118), 3) := by decide +kernel
theorem dX9_compare_149 : decode cX9_compare 149 = .ok (.aload_n 0, 1) := by decide +kernel
theorem dX9_compare_150 : decode cX9_compare 150 = .ok (.getfield 13, 3) := by decide +kernel
theorem dX9_compare_153 : decode cX9_compare 153 = .ok (.iload_n 3, 1) := by decide +kernel
theorem dX9_compare_154 : decode cX9_compare 154 = .ok (.iaload, 1) := by decide +kernel
theorem dX9_compare_155 : decode cX9_compare 155 = .ok (.aload_n 0, 1) := by decide +kernel
theorem dX9_compare_156 : decode cX9_compare 156 = .ok (.getfield 13, 3) := by decide +kernel
theorem dX9_compare_159 : decode cX9_compare 159 = .ok (.iload 4, 2) := by decide +kernel
theorem dX9_compare_161 : decode cX9_compare 161 = .ok (.iaload, 1) := by decide +kernel
theorem dX9_compare_162 : decode cX9_compare 162 = .ok (.if_icmp .ne 7, 3) := by decide +kernel
theorem dX9_compare_165 : decode cX9_compare 165 = .ok (.iconst 0, 1) := by decide +kernel
theorem dX9_compare_166 : decode cX9_compare 166 = .ok (.goto 24, 3) := by decide +kernel
theorem dX9_compare_169 : decode cX9_compare 169 = .ok (.aload_n 0, 1) := by decide +kernel
theorem dX9_compare_170 : decode cX9_compare 170 = .ok (.getfield 13, 3) := by decide +kernel
theorem dX9_compare_173 : decode cX9_compare 173 = .ok (.iload_n 3, 1) := by decide +kernel
theorem dX9_compare_174 : decode cX9_compare 174 = .ok (.iaload, 1) := by decide +kernel
theorem dX9_compare_175 : decode cX9_compare 175 = .ok (.aload_n 0, 1) := by decide +kernel
theorem dX9_compare_176 : decode cX9_compare 176 = .ok (.getfield 13, 3) := by decide +kernel
theorem dX9_compare_179 : decode cX9_compare 179 = .ok (.iload 4, 2) := by decide +kernel
theorem dX9_compare_181 : decode cX9_compare 181 = .ok (.iaload, 1) := by decide +kernel
theorem dX9_compare_182 : decode cX9_compare 182 = .ok (.if_icmp .ge 7, 3) := by decide +kernel
theorem dX9_compare_185 : decode cX9_compare 185 = .ok (.iconst (-1), 1) := by decide +kernel
theorem dX9_compare_186 : decode cX9_compare 186 = .ok (.goto 4, 3) := by decide +kernel
theorem dX9_compare_189 : decode cX9_compare 189 = .ok (.iconst 1, 1) := by decide +kernel
theorem dX9_compare_190 : decode cX9_compare 190 = .ok (.ireturn, 1) := by decide +kernel
theorem dX9_reducer_0 : decode cX9_reducer 0 = .ok (.iconst 0, 1) := by decide +kernel
theorem dX9_reducer_1 : decode cX9_reducer 1 = .ok (.istore_n 1, 1) := by decide +kernel
theorem dX9_reducer_2 : decode cX9_reducer 2 = .ok (.iload_n 1, 1) := by decide +kernel
theorem dX9_reducer_3 : decode cX9_reducer 3 = .ok (.aload_n 0, 1) := by decide +kernel
theorem dX9_reducer_4 : decode cX9_reducer 4 = .ok (.getfield 151, 3) := by decide +kernel
theorem dX9_reducer_7 : decode cX9_reducer 7 = .ok (.if_icmp .ge 41, 3) := by decide +kernel
theorem dX9_reducer_10 : decode cX9_reducer 10 = .ok (.aload_n 0, 1) := by decide +kernel
theorem dX9_reducer_11 : decode cX9_reducer 11 = .ok (.getfield 20, 3) := by decide +kernel
theorem dX9_reducer_14 : decode cX9_reducer 14 = .ok (.sipush 160, 3) := by decide +kernel
theorem dX9_reducer_17 : decode cX9_reducer 17 = .ok (.aload_n 0, 1) := by decide +kernel
theorem dX9_reducer_18 : decode cX9_reducer 18 = .ok (.getfield 50, 3) := by decide +kernel
theorem dX9_reducer_21 : decode cX9_reducer 21 = .ok (.iload_n 1, 1) := by decide +kernel
theorem dX9_reducer_22 : decode cX9_reducer 22 = .ok (.iaload, 1) := by decide +kernel
theorem dX9_reducer_23 : decode cX9_reducer 23 = .ok (.imul, 1) := by decide +kernel
theorem dX9_reducer_24 : decode cX9_reducer 24 = .ok (.aload_n 0, 1) := by decide +kernel
theorem dX9_reducer_25 : decode cX9_reducer 25 = .ok (.getfield 35, 3) := by decide +kernel
theorem dX9_reducer_28 : decode cX9_reducer 28 = .ok (.iconst 0, 1) := by decide +kernel
theorem dX9_reducer_29 : decode cX9_reducer 29 = .ok (.invokestatic 154, 3) := by decide +kernel
theorem dX9_reducer_32 : decode cX9_reducer 32 = .ok (.ifCond .eq 10, 3) := by decide +kernel
theorem dX9_reducer_35 : decode cX9_reducer 35 = .ok (.aload_n 0, 1) := by decide +kernel
theorem dX9_reducer_36 : decode cX9_reducer 36 = .ok (.getfield 50, 3) := by decide +kernel
theorem dX9_reducer_39 : decode cX9_reducer 39 = .ok (.iload_n 1, 1) := by decide +kernel
theorem dX9_reducer_40 : decode cX9_reducer 40 = .ok (.iaload, 1) := by decide +kernel
theorem dX9_reducer_41 : decode cX9_reducer 41 = .ok (.ireturn, 1) := by decide +kernel
theorem dX9_reducer_42 : decode cX9_reducer 42 = .ok (.iinc 1 1, 3) := by decide +kernel
theorem dX9_reducer_45 : decode cX9_reducer 45 = .ok (.goto (-43), 3) := by decide +kernel
theorem dX9_reducer_48 : decode cX9_reducer 48 = .ok (.iconst (-1), 1) := by decide +kernel
theorem dX9_reducer_49 : decode cX9_reducer 49 = .ok (.ireturn, 1) := by decide +kernel
theorem dX9_reduce_0 : decode cX9_reduce 0 = .ok (.aload_n 0, 1) := by decide +kernel
theorem dX9_reduce_1 : decode cX9_reduce 1 = .ok (.getfield 158, 3) := by decide +kernel
theorem dX9_reduce_4 : decode cX9_reduce 4 = .ok (.aload_n 0, 1) := by decide +kernel
theorem dX9_reduce_5 : decode cX9_reduce 5 = .ok (.getfield 29, 3) := by decide +kernel
theorem dX9_reduce_8 : decode cX9_reduce 8 = .ok (.if_icmp .ne 6, 3) := by decide +kernel
theorem dX9_reduce_11 : decode cX9_reduce 11 = .ok (.bipush (-7), 2) := by decide +kernel
theorem dX9_reduce_13 : decode cX9_reduce 13 = .ok (.ireturn, 1) := by decide +kernel
theorem dX9_reduce_14 : decode cX9_reduce 14 = .ok (.aload_n 0, 1) := by decide +kernel
theorem dX9_reduce_15 : decode cX9_reduce 15 = .ok (.dup, 1) := by decide +kernel
theorem dX9_reduce_16 : decode cX9_reduce 16 = .ok (.getfield 158, 3) := by decide +kernel
theorem dX9_reduce_19 : decode cX9_reduce 19 = .ok (.iconst 1, 1) := by decide +kernel
theorem dX9_reduce_20 : decode cX9_reduce 20 = .ok (.iadd, 1) := by decide +kernel
theorem dX9_reduce_21 : decode cX9_reduce 21 = .ok (.putfield 158, 3) := by decide +kernel
theorem dX9_reduce_24 : decode cX9_reduce 24 = .ok (.aload_n 0, 1) := by decide +kernel
theorem dX9_reduce_25 : decode cX9_reduce 25 = .ok (.dup, 1) := by decide +kernel
theorem dX9_reduce_26 : decode cX9_reduce 26 = .ok (.getfield 161, 3) := by decide +kernel
theorem dX9_reduce_29 : decode cX9_reduce 29 = .ok (.iconst 1, 1) := by decide +kernel
theorem dX9_reduce_30 : decode cX9_reduce 30 = .ok (.iadd, 1) := by decide +kernel
theorem dX9_reduce_31 : decode cX9_reduce 31 = .ok (.putfield 161, 3) := by decide +kernel
theorem dX9_reduce_34 : decode cX9_reduce 34 = .ok (.iconst 0, 1) := by decide +kernel
theorem dX9_reduce_35 : decode cX9_reduce 35 = .ok (.istore_n 2, 1) := by decide +kernel
theorem dX9_reduce_36 : decode cX9_reduce 36 = .ok (.iload_n 2, 1) := by decide +kernel
theorem dX9_reduce_37 : decode cX9_reduce 37 = .ok (.iconst 4, 1) := by decide +kernel
theorem dX9_reduce_38 : decode cX9_reduce 38 = .ok (.if_icmp .ge 34, 3) := by decide +kernel
theorem dX9_reduce_41 : decode cX9_reduce 41 = .ok (.aload_n 0, 1) := by decide +kernel
theorem dX9_reduce_42 : decode cX9_reduce 42 = .ok (.getfield 41, 3) := by decide +kernel
theorem dX9_reduce_45 : decode cX9_reduce 45 = .ok (.iload_n 2, 1) := by decide +kernel
theorem dX9_reduce_46 : decode cX9_reduce 46 = .ok (.aload_n 0, 1) := by decide +kernel
theorem dX9_reduce_47 : decode cX9_reduce 47 = .ok (.getfield 35, 3) := by decide +kernel
theorem dX9_reduce_50 : decode cX9_reduce 50 = .ok (.iload_n 2, 1) := by decide +kernel
theorem dX9_reduce_51 : decode cX9_reduce 51 = .ok (.iaload, 1) := by decide +kernel
theorem dX9_reduce_52 : decode cX9_reduce 52 = .ok (.aload_n 0, 1) := by decide +kernel
theorem dX9_reduce_53 : decode cX9_reduce 53 = .ok (.getfield 20, 3) := by decide +kernel
theorem dX9_reduce_56 : decode cX9_reduce 56 = .ok (.sipush 160, 3) := by decide +kernel
theorem dX9_reduce_59 : decode cX9_reduce 59 = .ok (.iload_n 1, 1) := by decide +kernel
theorem dX9_reduce_60 : decode cX9_reduce 60 = .ok (.imul, 1) := by decide +kernel
theorem dX9_reduce_61 : decode cX9_reduce 61 = .ok (.iload_n 2, 1) := by decide +kernel
theorem dX9_reduce_62 : decode cX9_reduce 62 = .ok (.iadd, 1) := by decide +kernel
theorem dX9_reduce_63 : decode cX9_reduce 63 = .ok (.iaload, 1) := by decide +kernel
theorem dX9_reduce_64 : decode cX9_reduce 64 = .ok (.isub, 1) := by decide +kernel
theorem dX9_reduce_65 : decode cX9_reduce 65 = .ok (.iastore, 1) := by decide +kernel
theorem dX9_reduce_66 : decode cX9_reduce 66 = .ok (.iinc 2 1, 3) := by decide +kernel
theorem dX9_reduce_69 : decode cX9_reduce 69 = .ok (.goto (-33), 3) := by decide +kernel
theorem dX9_reduce_72 : decode cX9_reduce 72 = .ok (.aload_n 0, 1) := by decide +kernel
theorem dX9_reduce_73 : decode cX9_reduce 73 = .ok (.getfield 32, 3) := by decide +kernel
theorem dX9_reduce_76 : decode cX9_reduce 76 = .ok (.iconst 0, 1) := by decide +kernel
theorem dX9_reduce_77 : decode cX9_reduce 77 = .ok (.iaload, 1) := by decide +kernel
theorem dX9_reduce_78 : decode cX9_reduce 78 = .ok (.aload_n 0, 1) := by decide +kernel
theorem dX9_reduce_79 : decode cX9_reduce 79 = .ok (.aload_n 0, 1) := by decide +kernel
theorem dX9_reduce_80 : decode cX9_reduce 80 = .ok (.getfield 17, 3) := by decide +kernel
theorem dX9_reduce_83 : decode cX9_reduce 83 = .ok (.bipush 40, 2) := by decide +kernel
theorem dX9_reduce_85 : decode cX9_reduce 85 = .ok (.iload_n 1, 1) := by decide +kernel
theorem dX9_reduce_86 : decode cX9_reduce 86 = .ok (.imul, 1) := by decide +kernel
theorem dX9_reduce_87 : decode cX9_reduce 87 = .ok (.iaload, 1) := by decide +kernel
theorem dX9_reduce_88 : decode cX9_reduce 88 = .ok (.invokevirtual 141, 3) := by decide +kernel
theorem dX9_reduce_91 : decode cX9_reduce 91 = .ok (.imul, 1) := by decide +kernel
theorem dX9_reduce_92 : decode cX9_reduce 92 = .ok (.aload_n 0, 1) := by decide +kernel
theorem dX9_reduce_93 : decode cX9_reduce 93 = .ok (.getfield 72, 3) := by decide +kernel
theorem dX9_reduce_96 : decode cX9_reduce 96 = .ok (.irem, 1) := by decide +kernel
theorem dX9_reduce_97 : decode cX9_reduce 97 = .ok (.istore_n 2, 1) := by decide +kernel
theorem dX9_reduce_98 : decode cX9_reduce 98 = .ok (.aload_n 0, 1) := by decide +kernel
theorem dX9_reduce_99 : decode cX9_reduce 99 = .ok (.iload_n 1, 1) := by decide +kernel
theorem dX9_reduce_100 : decode cX9_reduce 100 = .ok (.aload_n 0, 1) := by decide +kernel
theorem dX9_reduce_101 : decode cX9_reduce 101 = .ok (.getfield 72, 3) := by decide +kernel
theorem dX9_reduce_104 : decode cX9_reduce 104 = .ok (.iload_n 2, 1) := by decide +kernel
theorem dX9_reduce_105 : decode cX9_reduce 105 = .ok (.isub, 1) := by decide +kernel
theorem dX9_reduce_106 : decode cX9_reduce 106 = .ok (.aload_n 0, 1) := by decide +kernel
theorem dX9_reduce_107 : decode cX9_reduce 107 = .ok (.getfield 72, 3) := by decide +kernel
theorem dX9_reduce_110 : decode cX9_reduce 110 = .ok (.irem, 1) := by decide +kernel
theorem dX9_reduce_111 : decode cX9_reduce 111 = .ok (.invokevirtual 116, 3) := by decide +kernel
theorem dX9_reduce_114 : decode cX9_reduce 114 = .ok (.ifCond .ne 6, 3) := by decide +kernel
theorem dX9_reduce_117 : decode cX9_reduce 117 = .ok (.bipush (-5), 2) := by decide +kernel
theorem dX9_reduce_119 : decode cX9_reduce 119 = .ok (.ireturn, 1) := by decide +kernel
theorem dX9_reduce_120 : decode cX9_reduce 120 = .ok (.aload_n 0, 1) := by decide +kernel
theorem dX9_reduce_121 : decode cX9_reduce 121 = .ok (.invokevirtual 110, 3) := by decide +kernel
theorem dX9_reduce_124 : decode cX9_reduce 124 = .ok (.aload_n 0, 1) := by decide +kernel
theorem dX9_reduce_125 : decode cX9_reduce 125 = .ok (.getfield 90, 3) := by decide +kernel
theorem dX9_reduce_128 : decode cX9_reduce 128 = .ok (.bipush 40, 2) := by decide +kernel
theorem dX9_reduce_130 : decode cX9_reduce 130 = .ok (.if_icmp .le 8, 3) := by decide +kernel
theorem dX9_reduce_133 : decode cX9_reduce 133 = .ok (.bipush (-6), 2) := by decide +kernel
theorem dX9_reduce_135 : decode cX9_reduce 135 = .ok (.goto 4, 3) := by decide +kernel
theorem dX9_reduce_138 : decode cX9_reduce 138 = .ok (.iconst 0, 1) := by decide +kernel
theorem dX9_reduce_139 : decode cX9_reduce 139 = .ok (.ireturn, 1) := by decide +kernel
theorem dX9_goOver_0 : decode cX9_goOver 0 = .ok (.aload_n 0, 1) := by decide +kernel
theorem dX9_goOver_1 : decode cX9_goOver 1 = .ok (.getfield 164, 3) := by decide +kernel
theorem dX9_goOver_4 : decode cX9_goOver 4 = .ok (.bipush 40, 2) := by decide +kernel
theorem dX9_goOver_6 : decode cX9_goOver 6 = .ok (.if_icmp .ne 6, 3) := by decide +kernel
theorem dX9_goOver_9 : decode cX9_goOver 9 = .ok (.bipush (-6), 2) := by decide +kernel
theorem dX9_goOver_11 : decode cX9_goOver 11 = .ok (.ireturn, 1) := by decide +kernel
theorem dX9_goOver_12 : decode cX9_goOver 12 = .ok (.aload_n 0, 1) := by decide +kernel
theorem dX9_goOver_13 : decode cX9_goOver 13 = .ok (.getfield 53, 3) := by decide +kernel
theorem dX9_goOver_16 : decode cX9_goOver 16 = .ok (.aload_n 0, 1) := by decide +kernel
theorem dX9_goOver_17 : decode cX9_goOver 17 = .ok (.getfield 164, 3) := by decide +kernel
theorem dX9_goOver_20 : decode cX9_goOver 20 = .ok (.aload_n 0, 1) := by decide +kernel
theorem dX9_goOver_21 : decode cX9_goOver 21 = .ok (.getfield 32, 3) := by decide +kernel
theorem dX9_goOver_24 : decode cX9_goOver 24 = .ok (.iconst 0, 1) := by decide +kernel
theorem dX9_goOver_25 : decode cX9_goOver 25 = .ok (.iaload, 1) := by decide +kernel
theorem dX9_goOver_26 : decode cX9_goOver 26 = .ok (.iastore, 1) := by decide +kernel
theorem dX9_goOver_27 : decode cX9_goOver 27 = .ok (.iconst 0, 1) := by decide +kernel
theorem dX9_goOver_28 : decode cX9_goOver 28 = .ok (.istore_n 1, 1) := by decide +kernel
theorem dX9_goOver_29 : decode cX9_goOver 29 = .ok (.iload_n 1, 1) := by decide +kernel
theorem dX9_goOver_30 : decode cX9_goOver 30 = .ok (.iconst 4, 1) := by decide +kernel
theorem dX9_goOver_31 : decode cX9_goOver 31 = .ok (.if_icmp .ge 28, 3) := by decide +kernel
theorem dX9_goOver_34 : decode cX9_goOver 34 = .ok (.aload_n 0, 1) := by decide +kernel
theorem dX9_goOver_35 : decode cX9_goOver 35 = .ok (.getfield 56, 3) := by decide +kernel
theorem dX9_goOver_38 : decode cX9_goOver 38 = .ok (.iconst 4, 1) := by decide +kernel
theorem dX9_goOver_39 : decode cX9_goOver 39 = .ok (.aload_n 0, 1) := by decide +kernel
theorem dX9_goOver_40 : decode cX9_goOver 40 = .ok (.getfield 164, 3) := by decide +kernel
theorem dX9_goOver_43 : decode cX9_goOver 43 = .ok (.imul, 1) := by decide +kernel
theorem dX9_goOver_44 : decode cX9_goOver 44 = .ok (.iload_n 1, 1) := by decide +kernel
theorem dX9_goOver_45 : decode cX9_goOver 45 = .ok (.iadd, 1) := by decide +kernel
theorem dX9_goOver_46 : decode cX9_goOver 46 = .ok (.aload_n 0, 1) := by decide +kernel
theorem dX9_goOver_47 : decode cX9_goOver 47 = .ok (.getfield 35, 3) := by decide +kernel
theorem dX9_goOver_50 : decode cX9_goOver 50 = .ok (.iload_n 1, 1) := by decide +kernel
theorem dX9_goOver_51 : decode cX9_goOver 51 = .ok (.iaload, 1) := by decide +kernel
theorem dX9_goOver_52 : decode cX9_goOver 52 = .ok (.iastore, 1) := by decide +kernel
theorem dX9_goOver_53 : decode cX9_goOver 53 = .ok (.iinc 1 1, 3) := by decide +kernel
theorem dX9_goOver_56 : decode cX9_goOver 56 = .ok (.goto (-27), 3) := by decide +kernel
theorem dX9_goOver_59 : decode cX9_goOver 59 = .ok (.aload_n 0, 1) := by decide +kernel
theorem dX9_goOver_60 : decode cX9_goOver 60 = .ok (.dup, 1) := by decide +kernel
theorem dX9_goOver_61 : decode cX9_goOver 61 = .ok (.getfield 164, 3) := by decide +kernel
theorem dX9_goOver_64 : decode cX9_goOver 64 = .ok (.iconst 1, 1) := by decide +kernel
theorem dX9_goOver_65 : decode cX9_goOver 65 = .ok (.iadd, 1) := by decide +kernel
theorem dX9_goOver_66 : decode cX9_goOver 66 = .ok (.putfield 164, 3) := by decide +kernel
theorem dX9_goOver_69 : decode cX9_goOver 69 = .ok (.aload_n 0, 1) := by decide +kernel
theorem dX9_goOver_70 : decode cX9_goOver 70 = .ok (.dup, 1) := by decide +kernel
theorem dX9_goOver_71 : decode cX9_goOver 71 = .ok (.getfield 90, 3) := by decide +kernel
theorem dX9_goOver_74 : decode cX9_goOver 74 = .ok (.iconst 1, 1) := by decide +kernel
theorem dX9_goOver_75 : decode cX9_goOver 75 = .ok (.isub, 1) := by decide +kernel
theorem dX9_goOver_76 : decode cX9_goOver 76 = .ok (.putfield 90, 3) := by decide +kernel
theorem dX9_goOver_79 : decode cX9_goOver 79 = .ok (.iconst 0, 1) := by decide +kernel
theorem dX9_goOver_80 : decode cX9_goOver 80 = .ok (.istore_n 1, 1) := by decide +kernel
theorem dX9_goOver_81 : decode cX9_goOver 81 = .ok (.iload_n 1, 1) := by decide +kernel
theorem dX9_goOver_82 : decode cX9_goOver 82 = .ok (.aload_n 0, 1) := by decide +kernel
theorem dX9_goOver_83 : decode cX9_goOver 83 = .ok (.getfield 90, 3) := by decide +kernel
theorem dX9_goOver_86 : decode cX9_goOver 86 = .ok (.if_icmp .ge 58, 3) := by decide +kernel
theorem dX9_goOver_89 : decode cX9_goOver 89 = .ok (.aload_n 0, 1) := by decide +kernel
theorem dX9_goOver_90 : decode cX9_goOver 90 = .ok (.getfield 32, 3) := by decide +kernel
theorem dX9_goOver_93 : decode cX9_goOver 93 = .ok (.iload_n 1, 1) := by decide +kernel
theorem dX9_goOver_94 : decode cX9_goOver 94 = .ok (.aload_n 0, 1) := by decide +kernel
theorem dX9_goOver_95 : decode cX9_goOver 95 = .ok (.getfield 32, 3) := by decide +kernel
theorem dX9_goOver_98 : decode cX9_goOver 98 = .ok (.iload_n 1, 1) := by decide +kernel
theorem dX9_goOver_99 : decode cX9_goOver 99 = .ok (.iconst 1, 1) := by decide +kernel
theorem dX9_goOver_100 : decode cX9_goOver 100 = .ok (.iadd, 1) := by decide +kernel
theorem dX9_goOver_101 : decode cX9_goOver 101 = .ok (.iaload, 1) := by decide +kernel
theorem dX9_goOver_102 : decode cX9_goOver 102 = .ok (.iastore, 1) := by decide +kernel
theorem dX9_goOver_103 : decode cX9_goOver 103 = .ok (.iconst 0, 1) := by decide +kernel
theorem dX9_goOver_104 : decode cX9_goOver 104 = .ok (.istore_n 2, 1) := by decide +kernel
theorem dX9_goOver_105 : decode cX9_goOver 105 = .ok (.iload_n 2, 1) := by decide +kernel
theorem dX9_goOver_106 : decode cX9_goOver 106 = .ok (.iconst 4, 1) := by decide +kernel
theorem dX9_goOver_107 : decode cX9_goOver 107 = .ok (.if_icmp .ge 31, 3) := by decide +kernel
theorem dX9_goOver_110 : decode cX9_goOver 110 = .ok (.aload_n 0, 1) := by decide +kernel
theorem dX9_goOver_111 : decode cX9_goOver 111 = .ok (.getfield 35, 3) := by decide +kernel
theorem dX9_goOver_114 : decode cX9_goOver 114 = .ok (.iconst 4, 1) := by decide +kernel
theorem dX9_goOver_115 : decode cX9_goOver 115 = .ok (.iload_n 1, 1) := by decide +kernel
theorem dX9_goOver_116 : decode cX9_goOver 116 = .ok (.imul, 1) := by decide +kernel
theorem dX9_goOver_117 : decode cX9_goOver 117 = .ok (.iload_n 2, 1) := by decide +kernel
theorem dX9_goOver_118 : decode cX9_goOver 118 = .ok (.iadd, 1) := by decide +kernel
theorem dX9_goOver_119 : decode cX9_goOver 119 = .ok (.aload_n 0, 1) := by decide +kernel
theorem dX9_goOver_120 : decode cX9_goOver 120 = .ok (.getfield 35, 3) := by decide +kernel
theorem dX9_goOver_123 : decode cX9_goOver 123 = .ok (.iconst 4, 1) := by decide +kernel
theorem dX9_goOver_124 : decode cX9_goOver 124 = .ok (.iload_n 1, 1) := by decide +kernel
theorem dX9_goOver_125 : decode cX9_goOver 125 = .ok (.imul, 1) := by decide +kernel
theorem dX9_goOver_126 : decode cX9_goOver 126 = .ok (.iconst 4, 1) := by decide +kernel
theorem dX9_goOver_127 : decode cX9_goOver 127 = .ok (.iadd, 1) := by decide +kernel
theorem dX9_goOver_128 : decode cX9_goOver 128 = .ok (.iload_n 2, 1) := by decide +kernel
theorem dX9_goOver_129 : decode cX9_goOver 129 = .ok (.iadd, 1) := by decide +kernel
theorem dX9_goOver_130 : decode cX9_goOver 130 = .ok (.iaload, 1) := by decide +kernel
theorem dX9_goOver_131 : decode cX9_goOver 131 = .ok (.iastore, 1) := by decide +kernel
theorem dX9_goOver_132 : decode cX9_goOver 132 = .ok (.iinc 2 1, 3) := by decide +kernel
theorem dX9_goOver_135 : decode cX9_goOver 135 = .ok (.goto (-30), 3) := by decide +kernel
theorem dX9_goOver_138 : decode cX9_goOver 138 = .ok (.iinc 1 1, 3) := by decide +kernel
theorem dX9_goOver_141 : decode cX9_goOver 141 = .ok (.goto (-60), 3) := by decide +kernel
theorem dX9_goOver_144 : decode cX9_goOver 144 = .ok (.iconst 0, 1) := by decide +kernel
theorem dX9_goOver_145 : decode cX9_goOver 145 = .ok (.ireturn, 1) := by decide +kernel
theorem dX9_leave_0 : decode cX9_leave 0 = .ok (.aload_n 0, 1) := by decide +kernel
theorem dX9_leave_1 : decode cX9_leave 1 = .ok (.iconst 0, 1) := by decide +kernel
theorem dX9_leave_2 : decode cX9_leave 2 = .ok (.putfield 164, 3) := by decide +kernel
theorem dX9_leave_5 : decode cX9_leave 5 = .ok (.aload_n 0, 1) := by decide +kernel
theorem dX9_leave_6 : decode cX9_leave 6 = .ok (.getfield 90, 3) := by decide +kernel
theorem dX9_leave_9 : decode cX9_leave 9 = .ok (.ifCond .le 35, 3) := by decide +kernel
theorem dX9_leave_12 : decode cX9_leave 12 = .ok (.aload_n 0, 1) := by decide +kernel
theorem dX9_leave_13 : decode cX9_leave 13 = .ok (.invokevirtual 166, 3) := by decide +kernel
theorem dX9_leave_16 : decode cX9_leave 16 = .ok (.istore_n 1, 1) := by decide +kernel
theorem dX9_leave_17 : decode cX9_leave 17 = .ok (.iload_n 1, 1) := by decide +kernel
theorem dX9_leave_18 : decode cX9_leave 18 = .ok (.iconst (-1), 1) := by decide +kernel
theorem dX9_leave_19 : decode cX9_leave 19 = .ok (.if_icmp .ne 10, 3) := by decide +kernel
theorem dX9_leave_22 : decode cX9_leave 22 = .ok (.aload_n 0, 1) := by decide +kernel
theorem dX9_leave_23 : decode cX9_leave 23 = .ok (.invokevirtual 169, 3) := by decide +kernel
theorem dX9_leave_26 : decode cX9_leave 26 = .ok (.goto 8, 3) := by decide +kernel
theorem dX9_leave_29 : decode cX9_leave 29 = .ok (.aload_n 0, 1) := by decide +kernel
theorem dX9_leave_30 : decode cX9_leave 30 = .ok (.iload_n 1, 1) := by decide +kernel
theorem dX9_leave_31 : decode cX9_leave 31 = .ok (.invokevirtual 172, 3) := by decide +kernel
theorem dX9_leave_34 : decode cX9_leave 34 = .ok (.istore_n 2, 1) := by decide +kernel
theorem dX9_leave_35 : decode cX9_leave 35 = .ok (.iload_n 2, 1) := by decide +kernel
theorem dX9_leave_36 : decode cX9_leave 36 = .ok (.ifCond .ge 5, 3) := by decide +kernel
theorem dX9_leave_39 : decode cX9_leave 39 = .ok (.iload_n 2, 1) := by decide +kernel
theorem dX9_leave_40 : decode cX9_leave 40 = .ok (.ireturn, 1) := by decide +kernel
theorem dX9_leave_41 : decode cX9_leave 41 = .ok (.goto (-36), 3) := by decide +kernel
theorem dX9_leave_44 : decode cX9_leave 44 = .ok (.aload_n 0, 1) := by decide +kernel
theorem dX9_leave_45 : decode cX9_leave 45 = .ok (.aload_n 0, 1) := by decide +kernel
theorem dX9_leave_46 : decode cX9_leave 46 = .ok (.getfield 164, 3) := by decide +kernel
theorem dX9_leave_49 : decode cX9_leave 49 = .ok (.putfield 90, 3) := by decide +kernel
theorem dX9_leave_52 : decode cX9_leave 52 = .ok (.iconst 0, 1) := by decide +kernel
theorem dX9_leave_53 : decode cX9_leave 53 = .ok (.istore_n 1, 1) := by decide +kernel
theorem dX9_leave_54 : decode cX9_leave 54 = .ok (.iload_n 1, 1) := by decide +kernel
theorem dX9_leave_55 : decode cX9_leave 55 = .ok (.aload_n 0, 1) := by decide +kernel
theorem dX9_leave_56 : decode cX9_leave 56 = .ok (.getfield 164, 3) := by decide +kernel
theorem dX9_leave_59 : decode cX9_leave 59 = .ok (.if_icmp .ge 54, 3) := by decide +kernel
theorem dX9_leave_62 : decode cX9_leave 62 = .ok (.aload_n 0, 1) := by decide +kernel
theorem dX9_leave_63 : decode cX9_leave 63 = .ok (.getfield 32, 3) := by decide +kernel
theorem dX9_leave_66 : decode cX9_leave 66 = .ok (.iload_n 1, 1) := by decide +kernel
theorem dX9_leave_67 : decode cX9_leave 67 = .ok (.aload_n 0, 1) := by decide +kernel
theorem dX9_leave_68 : decode cX9_leave 68 = .ok (.getfield 53, 3) := by decide +kernel
theorem dX9_leave_71 : decode cX9_leave 71 = .ok (.iload_n 1, 1) := by decide +kernel
theorem dX9_leave_72 : decode cX9_leave 72 = .ok (.iaload, 1) := by decide +kernel
theorem dX9_leave_73 : decode cX9_leave 73 = .ok (.iastore, 1) := by decide +kernel
theorem dX9_leave_74 : decode cX9_leave 74 = .ok (.iconst 0, 1) := by decide +kernel
theorem dX9_leave_75 : decode cX9_leave 75 = .ok (.istore_n 2, 1) := by decide +kernel
theorem dX9_leave_76 : decode cX9_leave 76 = .ok (.iload_n 2, 1) := by decide +kernel
theorem dX9_leave_77 : decode cX9_leave 77 = .ok (.iconst 4, 1) := by decide +kernel
theorem dX9_leave_78 : decode cX9_leave 78 = .ok (.if_icmp .ge 29, 3) := by decide +kernel
theorem dX9_leave_81 : decode cX9_leave 81 = .ok (.aload_n 0, 1) := by decide +kernel
theorem dX9_leave_82 : decode cX9_leave 82 = .ok (.getfield 35, 3) := by decide +kernel
theorem dX9_leave_85 : decode cX9_leave 85 = .ok (.iconst 4, 1) := by decide +kernel
theorem dX9_leave_86 : decode cX9_leave 86 = .ok (.iload_n 1, 1) := by decide +kernel
theorem dX9_leave_87 : decode cX9_leave 87 = .ok (.imul, 1) := by decide +kernel
theorem dX9_leave_88 : decode cX9_leave 88 = .ok (.iload_n 2, 1) := by decide +kernel
theorem dX9_leave_89 : decode cX9_leave 89 = .ok (.iadd, 1) := by decide +kernel
theorem dX9_leave_90 : decode cX9_leave 90 = .ok (.aload_n 0, 1) := by decide +kernel
theorem dX9_leave_91 : decode cX9_leave 91 = .ok (.getfield 56, 3) := by decide +kernel
theorem dX9_leave_94 : decode cX9_leave 94 = .ok (.iconst 4, 1) := by decide +kernel
theorem dX9_leave_95 : decode cX9_leave 95 = .ok (.iload_n 1, 1) := by decide +kernel
theorem dX9_leave_96 : decode cX9_leave 96 = .ok (.imul, 1) := by decide +kernel
theorem dX9_leave_97 : decode cX9_leave 97 = .ok (.iload_n 2, 1) := by decide +kernel
theorem dX9_leave_98 : decode cX9_leave 98 = .ok (.iadd, 1) := by decide +kernel
theorem dX9_leave_99 : decode cX9_leave 99 = .ok (.iaload, 1) := by decide +kernel
theorem dX9_leave_100 : decode cX9_leave 100 = .ok (.iastore, 1) := by decide +kernel
theorem dX9_leave_101 : decode cX9_leave 101 = .ok (.iinc 2 1, 3) := by decide +kernel
theorem dX9_leave_104 : decode cX9_leave 104 = .ok (.goto (-28), 3) := by decide +kernel
theorem dX9_leave_107 : decode cX9_leave 107 = .ok (.iinc 1 1, 3) := by decide +kernel
theorem dX9_leave_110 : decode cX9_leave 110 = .ok (.goto (-56), 3) := by decide +kernel
theorem dX9_leave_113 : decode cX9_leave 113 = .ok (.iconst 0, 1) := by decide +kernel
theorem dX9_leave_114 : decode cX9_leave 114 = .ok (.ireturn, 1) := by decide +kernel
theorem dX9_byBasis_0 : decode cX9_byBasis 0 = .ok (.aload_n 0, 1) := by decide +kernel
theorem dX9_byBasis_1 : decode cX9_byBasis 1 = .ok (.aload_n 0, 1) := by decide +kernel
theorem dX9_byBasis_2 : decode cX9_byBasis 2 = .ok (.getfield 107, 3) := by decide +kernel
theorem dX9_byBasis_5 : decode cX9_byBasis 5 = .ok (.putfield 151, 3) := by decide +kernel
theorem dX9_byBasis_8 : decode cX9_byBasis 8 = .ok (.iconst 0, 1) := by decide +kernel
theorem dX9_byBasis_9 : decode cX9_byBasis 9 = .ok (.istore_n 1, 1) := by decide +kernel
theorem dX9_byBasis_10 : decode cX9_byBasis 10 = .ok (.iload_n 1, 1) := by decide +kernel
theorem dX9_byBasis_11 : decode cX9_byBasis 11 = .ok (.aload_n 0, 1) := by decide +kernel
theorem dX9_byBasis_12 : decode cX9_byBasis 12 = .ok (.getfield 107, 3) := by decide +kernel
theorem dX9_byBasis_15 : decode cX9_byBasis 15 = .ok (.if_icmp .ge 19, 3) := by decide +kernel
theorem dX9_byBasis_18 : decode cX9_byBasis 18 = .ok (.aload_n 0, 1) := by decide +kernel
theorem dX9_byBasis_19 : decode cX9_byBasis 19 = .ok (.getfield 50, 3) := by decide +kernel
theorem dX9_byBasis_22 : decode cX9_byBasis 22 = .ok (.iload_n 1, 1) := by decide +kernel
theorem dX9_byBasis_23 : decode cX9_byBasis 23 = .ok (.bipush 25, 2) := by decide +kernel
theorem dX9_byBasis_25 : decode cX9_byBasis 25 = .ok (.iload_n 1, 1) := by decide +kernel
theorem dX9_byBasis_26 : decode cX9_byBasis 26 = .ok (.iadd, 1) := by decide +kernel
theorem dX9_byBasis_27 : decode cX9_byBasis 27 = .ok (.iastore, 1) := by decide +kernel
theorem dX9_byBasis_28 : decode cX9_byBasis 28 = .ok (.iinc 1 1, 3) := by decide +kernel
theorem dX9_byBasis_31 : decode cX9_byBasis 31 = .ok (.goto (-21), 3) := by decide +kernel
theorem dX9_byBasis_34 : decode cX9_byBasis 34 = .ok (.return_, 1) := by decide +kernel
theorem dX9_fuel_0 : decode cX9_fuel 0 = .ok (.iload_n 1, 1) := by decide +kernel
theorem dX9_fuel_1 : decode cX9_fuel 1 = .ok (.iconst 0, 1) := by decide +kernel
theorem dX9_fuel_2 : decode cX9_fuel 2 = .ok (.sipush 2000, 3) := by decide +kernel
theorem dX9_fuel_5 : decode cX9_fuel 5 = .ok (.invokestatic 78, 3) := by decide +kernel
theorem dX9_fuel_8 : decode cX9_fuel 8 = .ok (.ifCond .ne 6, 3) := by decide +kernel
theorem dX9_fuel_11 : decode cX9_fuel 11 = .ok (.bipush (-2), 2) := by decide +kernel
theorem dX9_fuel_13 : decode cX9_fuel 13 = .ok (.ireturn, 1) := by decide +kernel
theorem dX9_fuel_14 : decode cX9_fuel 14 = .ok (.aload_n 0, 1) := by decide +kernel
theorem dX9_fuel_15 : decode cX9_fuel 15 = .ok (.getfield 29, 3) := by decide +kernel
theorem dX9_fuel_18 : decode cX9_fuel 18 = .ok (.istore_n 2, 1) := by decide +kernel
theorem dX9_fuel_19 : decode cX9_fuel 19 = .ok (.aload_n 0, 1) := by decide +kernel
theorem dX9_fuel_20 : decode cX9_fuel 20 = .ok (.iload_n 1, 1) := by decide +kernel
theorem dX9_fuel_21 : decode cX9_fuel 21 = .ok (.putfield 29, 3) := by decide +kernel
theorem dX9_fuel_24 : decode cX9_fuel 24 = .ok (.iload_n 2, 1) := by decide +kernel
theorem dX9_fuel_25 : decode cX9_fuel 25 = .ok (.ireturn, 1) := by decide +kernel
theorem dX9_way_0 : decode cX9_way 0 = .ok (.iload_n 1, 1) := by decide +kernel
theorem dX9_way_1 : decode cX9_way 1 = .ok (.iconst 0, 1) := by decide +kernel
theorem dX9_way_2 : decode cX9_way 2 = .ok (.iconst 1, 1) := by decide +kernel
theorem dX9_way_3 : decode cX9_way 3 = .ok (.invokestatic 78, 3) := by decide +kernel
theorem dX9_way_6 : decode cX9_way 6 = .ok (.ifCond .ne 6, 3) := by decide +kernel
theorem dX9_way_9 : decode cX9_way 9 = .ok (.bipush (-2), 2) := by decide +kernel
theorem dX9_way_11 : decode cX9_way 11 = .ok (.ireturn, 1) := by decide +kernel
theorem dX9_way_12 : decode cX9_way 12 = .ok (.aload_n 0, 1) := by decide +kernel
theorem dX9_way_13 : decode cX9_way 13 = .ok (.getfield 175, 3) := by decide +kernel
theorem dX9_way_16 : decode cX9_way 16 = .ok (.istore_n 2, 1) := by decide +kernel
theorem dX9_way_17 : decode cX9_way 17 = .ok (.aload_n 0, 1) := by decide +kernel
theorem dX9_way_18 : decode cX9_way 18 = .ok (.iload_n 1, 1) := by decide +kernel
theorem dX9_way_19 : decode cX9_way 19 = .ok (.putfield 175, 3) := by decide +kernel
theorem dX9_way_22 : decode cX9_way 22 = .ok (.iload_n 2, 1) := by decide +kernel
theorem dX9_way_23 : decode cX9_way 23 = .ok (.ireturn, 1) := by decide +kernel
theorem dX9_rules_0 : decode cX9_rules 0 = .ok (.iload_n 1, 1) := by decide +kernel
theorem dX9_rules_1 : decode cX9_rules 1 = .ok (.iconst 0, 1) := by decide +kernel
theorem dX9_rules_2 : decode cX9_rules 2 = .ok (.iconst 3, 1) := by decide +kernel
theorem dX9_rules_3 : decode cX9_rules 3 = .ok (.invokestatic 78, 3) := by decide +kernel
theorem dX9_rules_6 : decode cX9_rules 6 = .ok (.ifCond .ne 6, 3) := by decide +kernel
theorem dX9_rules_9 : decode cX9_rules 9 = .ok (.bipush (-2), 2) := by decide +kernel
theorem dX9_rules_11 : decode cX9_rules 11 = .ok (.ireturn, 1) := by decide +kernel
theorem dX9_rules_12 : decode cX9_rules 12 = .ok (.aload_n 0, 1) := by decide +kernel
theorem dX9_rules_13 : decode cX9_rules 13 = .ok (.getfield 178, 3) := by decide +kernel
theorem dX9_rules_16 : decode cX9_rules 16 = .ok (.istore_n 2, 1) := by decide +kernel
theorem dX9_rules_17 : decode cX9_rules 17 = .ok (.aload_n 0, 1) := by decide +kernel
theorem dX9_rules_18 : decode cX9_rules 18 = .ok (.iload_n 1, 1) := by decide +kernel
theorem dX9_rules_19 : decode cX9_rules 19 = .ok (.putfield 178, 3) := by decide +kernel
theorem dX9_rules_22 : decode cX9_rules 22 = .ok (.iload_n 2, 1) := by decide +kernel
theorem dX9_rules_23 : decode cX9_rules 23 = .ok (.ireturn, 1) := by decide +kernel
theorem dX9_come_0 : decode cX9_come 0 = .ok (.aload_n 0, 1) := by decide +kernel
theorem dX9_come_1 : decode cX9_come 1 = .ok (.bipush 25, 2) := by decide +kernel
theorem dX9_come_3 : decode cX9_come 3 = .ok (.aload_n 0, 1) := by decide +kernel
theorem dX9_come_4 : decode cX9_come 4 = .ok (.getfield 107, 3) := by decide +kernel
theorem dX9_come_7 : decode cX9_come 7 = .ok (.iadd, 1) := by decide +kernel
theorem dX9_come_8 : decode cX9_come 8 = .ok (.aload_n 0, 1) := by decide +kernel
theorem dX9_come_9 : decode cX9_come 9 = .ok (.aload_n 0, 1) := by decide +kernel
theorem dX9_come_10 : decode cX9_come 10 = .ok (.getfield 32, 3) := by decide +kernel
theorem dX9_come_13 : decode cX9_come 13 = .ok (.iconst 0, 1) := by decide +kernel
theorem dX9_come_14 : decode cX9_come 14 = .ok (.iaload, 1) := by decide +kernel
theorem dX9_come_15 : decode cX9_come 15 = .ok (.invokevirtual 141, 3) := by decide +kernel
theorem dX9_come_18 : decode cX9_come 18 = .ok (.invokevirtual 103, 3) := by decide +kernel
theorem dX9_come_21 : decode cX9_come 21 = .ok (.iconst 0, 1) := by decide +kernel
theorem dX9_come_22 : decode cX9_come 22 = .ok (.istore_n 1, 1) := by decide +kernel
theorem dX9_come_23 : decode cX9_come 23 = .ok (.iload_n 1, 1) := by decide +kernel
theorem dX9_come_24 : decode cX9_come 24 = .ok (.aload_n 0, 1) := by decide +kernel
theorem dX9_come_25 : decode cX9_come 25 = .ok (.getfield 107, 3) := by decide +kernel
theorem dX9_come_28 : decode cX9_come 28 = .ok (.if_icmp .ge 42, 3) := by decide +kernel
theorem dX9_come_31 : decode cX9_come 31 = .ok (.aload_n 0, 1) := by decide +kernel
theorem dX9_come_32 : decode cX9_come 32 = .ok (.getfield 23, 3) := by decide +kernel
theorem dX9_come_35 : decode cX9_come 35 = .ok (.aload_n 0, 1) := by decide +kernel
theorem dX9_come_36 : decode cX9_come 36 = .ok (.getfield 181, 3) := by decide +kernel
theorem dX9_come_39 : decode cX9_come 39 = .ok (.iload_n 1, 1) := by decide +kernel
theorem dX9_come_40 : decode cX9_come 40 = .ok (.iastore, 1) := by decide +kernel
theorem dX9_come_41 : decode cX9_come 41 = .ok (.aload_n 0, 1) := by decide +kernel
theorem dX9_come_42 : decode cX9_come 42 = .ok (.getfield 26, 3) := by decide +kernel
theorem dX9_come_45 : decode cX9_come 45 = .ok (.aload_n 0, 1) := by decide +kernel
theorem dX9_come_46 : decode cX9_come 46 = .ok (.getfield 181, 3) := by decide +kernel
theorem dX9_come_49 : decode cX9_come 49 = .ok (.aload_n 0, 1) := by decide +kernel
theorem dX9_come_50 : decode cX9_come 50 = .ok (.getfield 107, 3) := by decide +kernel
theorem dX9_come_53 : decode cX9_come 53 = .ok (.iastore, 1) := by decide +kernel
theorem dX9_come_54 : decode cX9_come 54 = .ok (.aload_n 0, 1) := by decide +kernel
theorem dX9_come_55 : decode cX9_come 55 = .ok (.dup, 1) := by decide +kernel
theorem dX9_come_56 : decode cX9_come 56 = .ok (.getfield 181, 3) := by decide +kernel
theorem dX9_come_59 : decode cX9_come 59 = .ok (.iconst 1, 1) := by decide +kernel
theorem dX9_come_60 : decode cX9_come 60 = .ok (.iadd, 1) := by decide +kernel
theorem dX9_come_61 : decode cX9_come 61 = .ok (.putfield 181, 3) := by decide +kernel
theorem dX9_come_64 : decode cX9_come 64 = .ok (.iinc 1 1, 3) := by decide +kernel
theorem dX9_come_67 : decode cX9_come 67 = .ok (.goto (-44), 3) := by decide +kernel
theorem dX9_come_70 : decode cX9_come 70 = .ok (.aload_n 0, 1) := by decide +kernel
theorem dX9_come_71 : decode cX9_come 71 = .ok (.dup, 1) := by decide +kernel
theorem dX9_come_72 : decode cX9_come 72 = .ok (.getfield 107, 3) := by decide +kernel
theorem dX9_come_75 : decode cX9_come 75 = .ok (.iconst 1, 1) := by decide +kernel
theorem dX9_come_76 : decode cX9_come 76 = .ok (.iadd, 1) := by decide +kernel
theorem dX9_come_77 : decode cX9_come 77 = .ok (.putfield 107, 3) := by decide +kernel
theorem dX9_come_80 : decode cX9_come 80 = .ok (.return_, 1) := by decide +kernel
theorem dX9_enter_0 : decode cX9_enter 0 = .ok (.aload_n 0, 1) := by decide +kernel
theorem dX9_enter_1 : decode cX9_enter 1 = .ok (.iload_n 1, 1) := by decide +kernel
theorem dX9_enter_2 : decode cX9_enter 2 = .ok (.invokevirtual 131, 3) := by decide +kernel
theorem dX9_enter_5 : decode cX9_enter 5 = .ok (.istore_n 2, 1) := by decide +kernel
theorem dX9_enter_6 : decode cX9_enter 6 = .ok (.iload_n 2, 1) := by decide +kernel
theorem dX9_enter_7 : decode cX9_enter 7 = .ok (.ifCond .lt 12, 3) := by decide +kernel
theorem dX9_enter_10 : decode cX9_enter 10 = .ok (.aload_n 0, 1) := by decide +kernel
theorem dX9_enter_11 : decode cX9_enter 11 = .ok (.getfield 13, 3) := by decide +kernel
theorem dX9_enter_14 : decode cX9_enter 14 = .ok (.iload_n 2, 1) := by decide +kernel
theorem dX9_enter_15 : decode cX9_enter 15 = .ok (.iaload, 1) := by decide +kernel
theorem dX9_enter_16 : decode cX9_enter 16 = .ok (.ifCond .ne 6, 3) := by decide +kernel
theorem dX9_enter_19 : decode cX9_enter 19 = .ok (.bipush (-2), 2) := by decide +kernel
theorem dX9_enter_21 : decode cX9_enter 21 = .ok (.ireturn, 1) := by decide +kernel
theorem dX9_enter_22 : decode cX9_enter 22 = .ok (.aload_n 0, 1) := by decide +kernel
theorem dX9_enter_23 : decode cX9_enter 23 = .ok (.getfield 107, 3) := by decide +kernel
theorem dX9_enter_26 : decode cX9_enter 26 = .ok (.bipush 18, 2) := by decide +kernel
theorem dX9_enter_28 : decode cX9_enter 28 = .ok (.if_icmp .ne 6, 3) := by decide +kernel
theorem dX9_enter_31 : decode cX9_enter 31 = .ok (.bipush (-4), 2) := by decide +kernel
theorem dX9_enter_33 : decode cX9_enter 33 = .ok (.ireturn, 1) := by decide +kernel
theorem dX9_enter_34 : decode cX9_enter 34 = .ok (.aload_n 0, 1) := by decide +kernel
theorem dX9_enter_35 : decode cX9_enter 35 = .ok (.iload_n 2, 1) := by decide +kernel
theorem dX9_enter_36 : decode cX9_enter 36 = .ok (.invokevirtual 100, 3) := by decide +kernel
theorem dX9_enter_39 : decode cX9_enter 39 = .ok (.aload_n 0, 1) := by decide +kernel
theorem dX9_enter_40 : decode cX9_enter 40 = .ok (.invokevirtual 184, 3) := by decide +kernel
theorem dX9_enter_43 : decode cX9_enter 43 = .ok (.aload_n 0, 1) := by decide +kernel
theorem dX9_enter_44 : decode cX9_enter 44 = .ok (.iconst 0, 1) := by decide +kernel
theorem dX9_enter_45 : decode cX9_enter 45 = .ok (.putfield 187, 3) := by decide +kernel
theorem dX9_enter_48 : decode cX9_enter 48 = .ok (.aload_n 0, 1) := by decide +kernel
theorem dX9_enter_49 : decode cX9_enter 49 = .ok (.getfield 107, 3) := by decide +kernel
theorem dX9_enter_52 : decode cX9_enter 52 = .ok (.iconst 1, 1) := by decide +kernel
theorem dX9_enter_53 : decode cX9_enter 53 = .ok (.isub, 1) := by decide +kernel
theorem dX9_enter_54 : decode cX9_enter 54 = .ok (.ireturn, 1) := by decide +kernel
theorem dX9_clear_0 : decode cX9_clear 0 = .ok (.aload_n 0, 1) := by decide +kernel
theorem dX9_clear_1 : decode cX9_clear 1 = .ok (.getfield 107, 3) := by decide +kernel
theorem dX9_clear_4 : decode cX9_clear 4 = .ok (.istore_n 1, 1) := by decide +kernel
theorem dX9_clear_5 : decode cX9_clear 5 = .ok (.aload_n 0, 1) := by decide +kernel
theorem dX9_clear_6 : decode cX9_clear 6 = .ok (.iconst 0, 1) := by decide +kernel
theorem dX9_clear_7 : decode cX9_clear 7 = .ok (.putfield 107, 3) := by decide +kernel
theorem dX9_clear_10 : decode cX9_clear 10 = .ok (.aload_n 0, 1) := by decide +kernel
theorem dX9_clear_11 : decode cX9_clear 11 = .ok (.iconst 0, 1) := by decide +kernel
theorem dX9_clear_12 : decode cX9_clear 12 = .ok (.putfield 181, 3) := by decide +kernel
theorem dX9_clear_15 : decode cX9_clear 15 = .ok (.aload_n 0, 1) := by decide +kernel
theorem dX9_clear_16 : decode cX9_clear 16 = .ok (.iconst 0, 1) := by decide +kernel
theorem dX9_clear_17 : decode cX9_clear 17 = .ok (.putfield 187, 3) := by decide +kernel
theorem dX9_clear_20 : decode cX9_clear 20 = .ok (.iload_n 1, 1) := by decide +kernel
theorem dX9_clear_21 : decode cX9_clear 21 = .ok (.ireturn, 1) := by decide +kernel
theorem dX9_nextPair_0 : decode cX9_nextPair 0 = .ok (.iconst 0, 1) := by decide +kernel
theorem dX9_nextPair_1 : decode cX9_nextPair 1 = .ok (.istore_n 1, 1) := by decide +kernel
theorem dX9_nextPair_2 : decode cX9_nextPair 2 = .ok (.aload_n 0, 1) := by decide +kernel
theorem dX9_nextPair_3 : decode cX9_nextPair 3 = .ok (.getfield 175, 3) := by decide +kernel
theorem dX9_nextPair_6 : decode cX9_nextPair 6 = .ok (.ifCond .ne 5, 3) := by decide +kernel
theorem dX9_nextPair_9 : decode cX9_nextPair 9 = .ok (.iload_n 1, 1) := by decide +kernel
theorem dX9_nextPair_10 : decode cX9_nextPair 10 = .ok (.ireturn, 1) := by decide +kernel
theorem dX9_nextPair_11 : decode cX9_nextPair 11 = .ok (.iconst 0, 1) := by decide +kernel
theorem dX9_nextPair_12 : decode cX9_nextPair 12 = .ok (.istore_n 2, 1) := by decide +kernel
theorem dX9_nextPair_13 : decode cX9_nextPair 13 = .ok (.iload_n 2, 1) := by decide +kernel
theorem dX9_nextPair_14 : decode cX9_nextPair 14 = .ok (.aload_n 0, 1) := by decide +kernel
theorem dX9_nextPair_15 : decode cX9_nextPair 15 = .ok (.getfield 181, 3) := by decide +kernel
theorem dX9_nextPair_18 : decode cX9_nextPair 18 = .ok (.if_icmp .ge 79, 3) := by decide +kernel
theorem dX9_nextPair_21 : decode cX9_nextPair 21 = .ok (.aload_n 0, 1) := by decide +kernel
theorem dX9_nextPair_22 : decode cX9_nextPair 22 = .ok (.bipush 25, 2) := by decide +kernel
theorem dX9_nextPair_24 : decode cX9_nextPair 24 = .ok (.aload_n 0, 1) := by decide +kernel
theorem dX9_nextPair_25 : decode cX9_nextPair 25 = .ok (.getfield 23, 3) := by decide +kernel
theorem dX9_nextPair_28 : decode cX9_nextPair 28 = .ok (.iload_n 2, 1) := by decide +kernel
theorem dX9_nextPair_29 : decode cX9_nextPair 29 = .ok (.iaload, 1) := by decide +kernel
theorem dX9_nextPair_30 : decode cX9_nextPair 30 = .ok (.iadd, 1) := by decide +kernel
theorem dX9_nextPair_31 : decode cX9_nextPair 31 = .ok (.bipush 25, 2) := by decide +kernel
theorem dX9_nextPair_33 : decode cX9_nextPair 33 = .ok (.aload_n 0, 1) := by decide +kernel
theorem dX9_nextPair_34 : decode cX9_nextPair 34 = .ok (.getfield 26, 3) := by decide +kernel
theorem dX9_nextPair_37 : decode cX9_nextPair 37 = .ok (.iload_n 2, 1) := by decide +kernel
theorem dX9_nextPair_38 : decode cX9_nextPair 38 = .ok (.iaload, 1) := by decide +kernel
theorem dX9_nextPair_39 : decode cX9_nextPair 39 = .ok (.iadd, 1) := by decide +kernel
theorem dX9_nextPair_40 : decode cX9_nextPair 40 = .ok (.invokevirtual 138, 3) := by decide +kernel
theorem dX9_nextPair_43 : decode cX9_nextPair 43 = .ok (.iload_n 2, 1) := by decide +kernel
theorem dX9_nextPair_44 : decode cX9_nextPair 44 = .ok (.ifCond .eq 20, 3) := by decide +kernel
theorem dX9_nextPair_47 : decode cX9_nextPair 47 = .ok (.aload_n 0, 1) := by decide +kernel
theorem dX9_nextPair_48 : decode cX9_nextPair 48 = .ok (.aload_n 0, 1) := by decide +kernel
theorem dX9_nextPair_49 : decode cX9_nextPair 49 = .ok (.getfield 44, 3) := by decide +kernel
theorem dX9_nextPair_52 : decode cX9_nextPair 52 = .ok (.iconst 0, 1) := by decide +kernel
theorem dX9_nextPair_53 : decode cX9_nextPair 53 = .ok (.aload_n 0, 1) := by decide +kernel
theorem dX9_nextPair_54 : decode cX9_nextPair 54 = .ok (.getfield 59, 3) := by decide +kernel
theorem dX9_nextPair_57 : decode cX9_nextPair 57 = .ok (.iconst 0, 1) := by decide +kernel
theorem dX9_nextPair_58 : decode cX9_nextPair 58 = .ok (.invokevirtual 93, 3) := by decide +kernel
theorem dX9_nextPair_61 : decode cX9_nextPair 61 = .ok (.ifCond .ge 30, 3) := by decide +kernel
theorem dX9_nextPair_64 : decode cX9_nextPair 64 = .ok (.iload_n 2, 1) := by decide +kernel
theorem dX9_nextPair_65 : decode cX9_nextPair 65 = .ok (.istore_n 1, 1) := by decide +kernel
theorem dX9_nextPair_66 : decode cX9_nextPair 66 = .ok (.iconst 0, 1) := by decide +kernel
theorem dX9_nextPair_67 : decode cX9_nextPair 67 = .ok (.istore_n 3, 1) := by decide +kernel
theorem dX9_nextPair_68 : decode cX9_nextPair 68 = .ok (.iload_n 3, 1) := by decide +kernel
theorem dX9_nextPair_69 : decode cX9_nextPair 69 = .ok (.iconst 4, 1) := by decide +kernel
theorem dX9_nextPair_70 : decode cX9_nextPair 70 = .ok (.if_icmp .ge 21, 3) := by decide +kernel
theorem dX9_nextPair_73 : decode cX9_nextPair 73 = .ok (.aload_n 0, 1) := by decide +kernel
theorem dX9_nextPair_74 : decode cX9_nextPair 74 = .ok (.getfield 59, 3) := by decide +kernel
theorem dX9_nextPair_77 : decode cX9_nextPair 77 = .ok (.iload_n 3, 1) := by decide +kernel
theorem dX9_nextPair_78 : decode cX9_nextPair 78 = .ok (.aload_n 0, 1) := by decide +kernel
theorem dX9_nextPair_79 : decode cX9_nextPair 79 = .ok (.getfield 44, 3) := by decide +kernel
theorem dX9_nextPair_82 : decode cX9_nextPair 82 = .ok (.iload_n 3, 1) := by decide +kernel
theorem dX9_nextPair_83 : decode cX9_nextPair 83 = .ok (.iaload, 1) := by decide +kernel
theorem dX9_nextPair_84 : decode cX9_nextPair 84 = .ok (.iastore, 1) := by decide +kernel
theorem dX9_nextPair_85 : decode cX9_nextPair 85 = .ok (.iinc 3 1, 3) := by decide +kernel
theorem dX9_nextPair_88 : decode cX9_nextPair 88 = .ok (.goto (-20), 3) := by decide +kernel
theorem dX9_nextPair_91 : decode cX9_nextPair 91 = .ok (.iinc 2 1, 3) := by decide +kernel
theorem dX9_nextPair_94 : decode cX9_nextPair 94 = .ok (.goto (-81), 3) := by decide +kernel
theorem dX9_nextPair_97 : decode cX9_nextPair 97 = .ok (.iload_n 1, 1) := by decide +kernel
theorem dX9_nextPair_98 : decode cX9_nextPair 98 = .ok (.ireturn, 1) := by decide +kernel
theorem dX9_waits_0 : decode cX9_waits 0 = .ok (.iconst 0, 1) := by decide +kernel
theorem dX9_waits_1 : decode cX9_waits 1 = .ok (.istore_n 3, 1) := by decide +kernel
theorem dX9_waits_2 : decode cX9_waits 2 = .ok (.iload_n 3, 1) := by decide +kernel
theorem dX9_waits_3 : decode cX9_waits 3 = .ok (.aload_n 0, 1) := by decide +kernel
theorem dX9_waits_4 : decode cX9_waits 4 = .ok (.getfield 181, 3) := by decide +kernel
theorem dX9_waits_7 : decode cX9_waits 7 = .ok (.if_icmp .ge 51, 3) := by decide +kernel
theorem dX9_waits_10 : decode cX9_waits 10 = .ok (.aload_n 0, 1) := by decide +kernel
theorem dX9_waits_11 : decode cX9_waits 11 = .ok (.getfield 23, 3) := by decide +kernel
theorem dX9_waits_14 : decode cX9_waits 14 = .ok (.iload_n 3, 1) := by decide +kernel
theorem dX9_waits_15 : decode cX9_waits 15 = .ok (.iaload, 1) := by decide +kernel
theorem dX9_waits_16 : decode cX9_waits 16 = .ok (.iload_n 1, 1) := by decide +kernel
theorem dX9_waits_17 : decode cX9_waits 17 = .ok (.if_icmp .ne 13, 3) := by decide +kernel
theorem dX9_waits_20 : decode cX9_waits 20 = .ok (.aload_n 0, 1) := by decide +kernel
theorem dX9_waits_21 : decode cX9_waits 21 = .ok (.getfield 26, 3) := by decide +kernel
theorem dX9_waits_24 : decode cX9_waits 24 = .ok (.iload_n 3, 1) := by decide +kernel
theorem dX9_waits_25 : decode cX9_waits 25 = .ok (.iaload, 1) := by decide +kernel
theorem dX9_waits_26 : decode cX9_waits 26 = .ok (.iload_n 2, 1) := by decide +kernel
theorem dX9_waits_27 : decode cX9_waits 27 = .ok (.if_icmp .eq 23, 3) := by decide +kernel
theorem dX9_waits_30 : decode cX9_waits 30 = .ok (.aload_n 0, 1) := by decide +kernel
theorem dX9_waits_31 : decode cX9_waits 31 = .ok (.getfield 23, 3) := by decide +kernel
theorem dX9_waits_34 : decode cX9_waits 34 = .ok (.iload_n 3, 1) := by decide +kernel
theorem dX9_waits_35 : decode cX9_waits 35 = .ok (.iaload, 1) := by decide +kernel
theorem dX9_waits_36 : decode cX9_waits 36 = .ok (.iload_n 2, 1) := by decide +kernel
theorem dX9_waits_37 : decode cX9_waits 37 = .ok (.if_icmp .ne 15, 3) := by decide +kernel
theorem dX9_waits_40 : decode cX9_waits 40 = .ok (.aload_n 0, 1) := by decide +kernel
theorem dX9_waits_41 : decode cX9_waits 41 = .ok (.getfield 26, 3) := by decide +kernel
theorem dX9_waits_44 : decode cX9_waits 44 = .ok (.iload_n 3, 1) := by decide +kernel
theorem dX9_waits_45 : decode cX9_waits 45 = .ok (.iaload, 1) := by decide +kernel
theorem dX9_waits_46 : decode cX9_waits 46 = .ok (.iload_n 1, 1) := by decide +kernel
theorem dX9_waits_47 : decode cX9_waits 47 = .ok (.if_icmp .ne 5, 3) := by decide +kernel
theorem dX9_waits_50 : decode cX9_waits 50 = .ok (.iconst 1, 1) := by decide +kernel
theorem dX9_waits_51 : decode cX9_waits 51 = .ok (.ireturn, 1) := by decide +kernel
theorem dX9_waits_52 : decode cX9_waits 52 = .ok (.iinc 3 1, 3) := by decide +kernel
theorem dX9_waits_55 : decode cX9_waits 55 = .ok (.goto (-53), 3) := by decide +kernel
theorem dX9_waits_58 : decode cX9_waits 58 = .ok (.iconst 0, 1) := by decide +kernel
theorem dX9_waits_59 : decode cX9_waits 59 = .ok (.ireturn, 1) := by decide +kernel
theorem dX9_areCoprime_0 : decode cX9_areCoprime 0 = .ok (.iconst 1, 1) := by decide +kernel
theorem dX9_areCoprime_1 : decode cX9_areCoprime 1 = .ok (.istore_n 3, 1) := by decide +kernel
theorem dX9_areCoprime_2 : decode cX9_areCoprime 2 = .ok (.iconst 0, 1) := by decide +kernel
theorem dX9_areCoprime_3 : decode cX9_areCoprime 3 = .ok (.istore 4, 2) := by decide +kernel
theorem dX9_areCoprime_5 : decode cX9_areCoprime 5 = .ok (.iload 4, 2) := by decide +kernel
theorem dX9_areCoprime_7 : decode cX9_areCoprime 7 = .ok (.iconst 4, 1) := by decide +kernel
theorem dX9_areCoprime_8 : decode cX9_areCoprime 8 = .ok (.if_icmp .ge 55, 3) := by decide +kernel
theorem dX9_areCoprime_11 : decode cX9_areCoprime 11 = .ok (.iload_n 3, 1) := by decide +kernel
theorem dX9_areCoprime_12 : decode cX9_areCoprime 12 = .ok (.aload_n 0, 1) := by decide +kernel
theorem dX9_areCoprime_13 : decode cX9_areCoprime 13 = .ok (.getfield 20, 3) := by decide +kernel
theorem dX9_areCoprime_16 : decode cX9_areCoprime 16 = .ok (.sipush 160, 3) := by decide +kernel
theorem dX9_areCoprime_19 : decode cX9_areCoprime 19 = .ok (.bipush 25, 2) := by decide +kernel
theorem dX9_areCoprime_21 : decode cX9_areCoprime 21 = .ok (.iload_n 1, 1) := by decide +kernel
theorem dX9_areCoprime_22 : decode cX9_areCoprime 22 = .ok (.iadd, 1) := by decide +kernel
theorem dX9_areCoprime_23 : decode cX9_areCoprime 23 = .ok (.imul, 1) := by decide +kernel
theorem dX9_areCoprime_24 : decode cX9_areCoprime 24 = .ok (.iload 4, 2) := by decide +kernel
theorem dX9_areCoprime_26 : decode cX9_areCoprime 26 = .ok (.iadd, 1) := by decide +kernel
theorem dX9_areCoprime_27 : decode cX9_areCoprime 27 = .ok (.iaload, 1) := by decide +kernel
theorem dX9_areCoprime_28 : decode cX9_areCoprime 28 = .ok (.ifCond .eq 22, 3) := by decide +kernel
theorem dX9_areCoprime_31 : decode cX9_areCoprime 31 = .ok (.aload_n 0, 1) := by decide +kernel
theorem dX9_areCoprime_32 : decode cX9_areCoprime 32 = .ok (.getfield 20, 3) := by decide +kernel
theorem dX9_areCoprime_35 : decode cX9_areCoprime 35 = .ok (.sipush 160, 3) := by decide +kernel
theorem dX9_areCoprime_38 : decode cX9_areCoprime 38 = .ok (.bipush 25, 2) := by decide +kernel
theorem dX9_areCoprime_40 : decode cX9_areCoprime 40 = .ok (.iload_n 2, 1) := by decide +kernel
theorem dX9_areCoprime_41 : decode cX9_areCoprime 41 = .ok (.iadd, 1) := by decide +kernel
theorem dX9_areCoprime_42 : decode cX9_areCoprime 42 = .ok (.imul, 1) := by decide +kernel
theorem dX9_areCoprime_43 : decode cX9_areCoprime 43 = .ok (.iload 4, 2) := by decide +kernel
theorem dX9_areCoprime_45 : decode cX9_areCoprime 45 = .ok (.iadd, 1) := by decide +kernel
theorem dX9_areCoprime_46 : decode cX9_areCoprime 46 = .ok (.iaload, 1) := by decide +kernel
theorem dX9_areCoprime_47 : decode cX9_areCoprime 47 = .ok (.ifCond .ne 7, 3) := by decide +kernel
theorem dX9_areCoprime_50 : decode cX9_areCoprime 50 = .ok (.iconst 1, 1) := by decide +kernel
theorem dX9_areCoprime_51 : decode cX9_areCoprime 51 = .ok (.goto 4, 3) := by decide +kernel
theorem dX9_areCoprime_54 : decode cX9_areCoprime 54 = .ok (.iconst 0, 1) := by decide +kernel
theorem dX9_areCoprime_55 : decode cX9_areCoprime 55 = .ok (.iand, 1) := by decide +kernel
theorem dX9_areCoprime_56 : decode cX9_areCoprime 56 = .ok (.istore_n 3, 1) := by decide +kernel
theorem dX9_areCoprime_57 : decode cX9_areCoprime 57 = .ok (.iinc 4 1, 3) := by decide +kernel
theorem dX9_areCoprime_60 : decode cX9_areCoprime 60 = .ok (.goto (-55), 3) := by decide +kernel
theorem dX9_areCoprime_63 : decode cX9_areCoprime 63 = .ok (.iload_n 3, 1) := by decide +kernel
theorem dX9_areCoprime_64 : decode cX9_areCoprime 64 = .ok (.ireturn, 1) := by decide +kernel
theorem dX9_isChained_0 : decode cX9_isChained 0 = .ok (.aload_n 0, 1) := by decide +kernel
theorem dX9_isChained_1 : decode cX9_isChained 1 = .ok (.bipush 25, 2) := by decide +kernel
theorem dX9_isChained_3 : decode cX9_isChained 3 = .ok (.iload_n 1, 1) := by decide +kernel
theorem dX9_isChained_4 : decode cX9_isChained 4 = .ok (.iadd, 1) := by decide +kernel
theorem dX9_isChained_5 : decode cX9_isChained 5 = .ok (.bipush 25, 2) := by decide +kernel
theorem dX9_isChained_7 : decode cX9_isChained 7 = .ok (.iload_n 2, 1) := by decide +kernel
theorem dX9_isChained_8 : decode cX9_isChained 8 = .ok (.iadd, 1) := by decide +kernel
theorem dX9_isChained_9 : decode cX9_isChained 9 = .ok (.invokevirtual 138, 3) := by decide +kernel
theorem dX9_isChained_12 : decode cX9_isChained 12 = .ok (.iconst 0, 1) := by decide +kernel
theorem dX9_isChained_13 : decode cX9_isChained 13 = .ok (.istore_n 3, 1) := by decide +kernel
theorem dX9_isChained_14 : decode cX9_isChained 14 = .ok (.iload_n 3, 1) := by decide +kernel
theorem dX9_isChained_15 : decode cX9_isChained 15 = .ok (.aload_n 0, 1) := by decide +kernel
theorem dX9_isChained_16 : decode cX9_isChained 16 = .ok (.getfield 107, 3) := by decide +kernel
theorem dX9_isChained_19 : decode cX9_isChained 19 = .ok (.if_icmp .ge 62, 3) := by decide +kernel
theorem dX9_isChained_22 : decode cX9_isChained 22 = .ok (.iload_n 3, 1) := by decide +kernel
theorem dX9_isChained_23 : decode cX9_isChained 23 = .ok (.iload_n 1, 1) := by decide +kernel
theorem dX9_isChained_24 : decode cX9_isChained 24 = .ok (.if_icmp .eq 51, 3) := by decide +kernel
theorem dX9_isChained_27 : decode cX9_isChained 27 = .ok (.iload_n 3, 1) := by decide +kernel
theorem dX9_isChained_28 : decode cX9_isChained 28 = .ok (.iload_n 2, 1) := by decide +kernel
theorem dX9_isChained_29 : decode cX9_isChained 29 = .ok (.if_icmp .eq 46, 3) := by decide +kernel
theorem dX9_isChained_32 : decode cX9_isChained 32 = .ok (.aload_n 0, 1) := by decide +kernel
theorem dX9_isChained_33 : decode cX9_isChained 33 = .ok (.getfield 20, 3) := by decide +kernel
theorem dX9_isChained_36 : decode cX9_isChained 36 = .ok (.sipush 160, 3) := by decide +kernel
theorem dX9_isChained_39 : decode cX9_isChained 39 = .ok (.bipush 25, 2) := by decide +kernel
theorem dX9_isChained_41 : decode cX9_isChained 41 = .ok (.iload_n 3, 1) := by decide +kernel
theorem dX9_isChained_42 : decode cX9_isChained 42 = .ok (.iadd, 1) := by decide +kernel
theorem dX9_isChained_43 : decode cX9_isChained 43 = .ok (.imul, 1) := by decide +kernel
theorem dX9_isChained_44 : decode cX9_isChained 44 = .ok (.aload_n 0, 1) := by decide +kernel
theorem dX9_isChained_45 : decode cX9_isChained 45 = .ok (.getfield 44, 3) := by decide +kernel
theorem dX9_isChained_48 : decode cX9_isChained 48 = .ok (.iconst 0, 1) := by decide +kernel
theorem dX9_isChained_49 : decode cX9_isChained 49 = .ok (.invokestatic 154, 3) := by decide +kernel
theorem dX9_isChained_52 : decode cX9_isChained 52 = .ok (.ifCond .eq 23, 3) := by decide +kernel
theorem dX9_isChained_55 : decode cX9_isChained 55 = .ok (.aload_n 0, 1) := by decide +kernel
theorem dX9_isChained_56 : decode cX9_isChained 56 = .ok (.iload_n 1, 1) := by decide +kernel
theorem dX9_isChained_57 : decode cX9_isChained 57 = .ok (.iload_n 3, 1) := by decide +kernel
theorem dX9_isChained_58 : decode cX9_isChained 58 = .ok (.invokevirtual 191, 3) := by decide +kernel
theorem dX9_isChained_61 : decode cX9_isChained 61 = .ok (.ifCond .ne 14, 3) := by decide +kernel
theorem dX9_isChained_64 : decode cX9_isChained 64 = .ok (.aload_n 0, 1) := by decide +kernel
theorem dX9_isChained_65 : decode cX9_isChained 65 = .ok (.iload_n 2, 1) := by decide +kernel
theorem dX9_isChained_66 : decode cX9_isChained 66 = .ok (.iload_n 3, 1) := by decide +kernel
theorem dX9_isChained_67 : decode cX9_isChained 67 = .ok (.invokevirtual 191, 3) := by decide +kernel
theorem dX9_isChained_70 : decode cX9_isChained 70 = .ok (.ifCond .ne 5, 3) := by decide +kernel
theorem dX9_isChained_73 : decode cX9_isChained 73 = .ok (.iconst 1, 1) := by decide +kernel
theorem dX9_isChained_74 : decode cX9_isChained 74 = .ok (.ireturn, 1) := by decide +kernel
theorem dX9_isChained_75 : decode cX9_isChained 75 = .ok (.iinc 3 1, 3) := by decide +kernel
theorem dX9_isChained_78 : decode cX9_isChained 78 = .ok (.goto (-64), 3) := by decide +kernel
theorem dX9_isChained_81 : decode cX9_isChained 81 = .ok (.iconst 0, 1) := by decide +kernel
theorem dX9_isChained_82 : decode cX9_isChained 82 = .ok (.ireturn, 1) := by decide +kernel
theorem dX9_goes_0 : decode cX9_goes 0 = .ok (.aload_n 0, 1) := by decide +kernel
theorem dX9_goes_1 : decode cX9_goes 1 = .ok (.dup, 1) := by decide +kernel
theorem dX9_goes_2 : decode cX9_goes 2 = .ok (.getfield 181, 3) := by decide +kernel
theorem dX9_goes_5 : decode cX9_goes 5 = .ok (.iconst 1, 1) := by decide +kernel
theorem dX9_goes_6 : decode cX9_goes 6 = .ok (.isub, 1) := by decide +kernel
theorem dX9_goes_7 : decode cX9_goes 7 = .ok (.putfield 181, 3) := by decide +kernel
theorem dX9_goes_10 : decode cX9_goes 10 = .ok (.iload_n 1, 1) := by decide +kernel
theorem dX9_goes_11 : decode cX9_goes 11 = .ok (.istore_n 2, 1) := by decide +kernel
theorem dX9_goes_12 : decode cX9_goes 12 = .ok (.iload_n 2, 1) := by decide +kernel
theorem dX9_goes_13 : decode cX9_goes 13 = .ok (.aload_n 0, 1) := by decide +kernel
theorem dX9_goes_14 : decode cX9_goes 14 = .ok (.getfield 181, 3) := by decide +kernel
theorem dX9_goes_17 : decode cX9_goes 17 = .ok (.if_icmp .ge 37, 3) := by decide +kernel
theorem dX9_goes_20 : decode cX9_goes 20 = .ok (.aload_n 0, 1) := by decide +kernel
theorem dX9_goes_21 : decode cX9_goes 21 = .ok (.getfield 23, 3) := by decide +kernel
theorem dX9_goes_24 : decode cX9_goes 24 = .ok (.iload_n 2, 1) := by decide +kernel
theorem dX9_goes_25 : decode cX9_goes 25 = .ok (.aload_n 0, 1) := by decide +kernel
theorem dX9_goes_26 : decode cX9_goes 26 = .ok (.getfield 23, 3) := by decide +kernel
theorem dX9_goes_29 : decode cX9_goes 29 = .ok (.iload_n 2, 1) := by decide +kernel
theorem dX9_goes_30 : decode cX9_goes 30 = .ok (.iconst 1, 1) := by decide +kernel
theorem dX9_goes_31 : decode cX9_goes 31 = .ok (.iadd, 1) := by decide +kernel
theorem dX9_goes_32 : decode cX9_goes 32 = .ok (.iaload, 1) := by decide +kernel
theorem dX9_goes_33 : decode cX9_goes 33 = .ok (.iastore, 1) := by decide +kernel
theorem dX9_goes_34 : decode cX9_goes 34 = .ok (.aload_n 0, 1) := by decide +kernel
theorem dX9_goes_35 : decode cX9_goes 35 = .ok (.getfield 26, 3) := by decide +kernel
theorem dX9_goes_38 : decode cX9_goes 38 = .ok (.iload_n 2, 1) := by decide +kernel
theorem dX9_goes_39 : decode cX9_goes 39 = .ok (.aload_n 0, 1) := by decide +kernel
theorem dX9_goes_40 : decode cX9_goes 40 = .ok (.getfield 26, 3) := by decide +kernel
theorem dX9_goes_43 : decode cX9_goes 43 = .ok (.iload_n 2, 1) := by decide +kernel
theorem dX9_goes_44 : decode cX9_goes 44 = .ok (.iconst 1, 1) := by decide +kernel
theorem dX9_goes_45 : decode cX9_goes 45 = .ok (.iadd, 1) := by decide +kernel
theorem dX9_goes_46 : decode cX9_goes 46 = .ok (.iaload, 1) := by decide +kernel
theorem dX9_goes_47 : decode cX9_goes 47 = .ok (.iastore, 1) := by decide +kernel
theorem dX9_goes_48 : decode cX9_goes 48 = .ok (.iinc 2 1, 3) := by decide +kernel
theorem dX9_goes_51 : decode cX9_goes 51 = .ok (.goto (-39), 3) := by decide +kernel
theorem dX9_goes_54 : decode cX9_goes 54 = .ok (.return_, 1) := by decide +kernel
theorem dX9_workOf_0 : decode cX9_workOf 0 = .ok (.aload_n 0, 1) := by decide +kernel
theorem dX9_workOf_1 : decode cX9_workOf 1 = .ok (.getfield 23, 3) := by decide +kernel
theorem dX9_workOf_4 : decode cX9_workOf 4 = .ok (.iload_n 1, 1) := by decide +kernel
theorem dX9_workOf_5 : decode cX9_workOf 5 = .ok (.iaload, 1) := by decide +kernel
theorem dX9_workOf_6 : decode cX9_workOf 6 = .ok (.istore_n 2, 1) := by decide +kernel
theorem dX9_workOf_7 : decode cX9_workOf 7 = .ok (.aload_n 0, 1) := by decide +kernel
theorem dX9_workOf_8 : decode cX9_workOf 8 = .ok (.getfield 26, 3) := by decide +kernel
theorem dX9_workOf_11 : decode cX9_workOf 11 = .ok (.iload_n 1, 1) := by decide +kernel
theorem dX9_workOf_12 : decode cX9_workOf 12 = .ok (.iaload, 1) := by decide +kernel
theorem dX9_workOf_13 : decode cX9_workOf 13 = .ok (.istore_n 3, 1) := by decide +kernel
theorem dX9_workOf_14 : decode cX9_workOf 14 = .ok (.aload_n 0, 1) := by decide +kernel
theorem dX9_workOf_15 : decode cX9_workOf 15 = .ok (.getfield 178, 3) := by decide +kernel
theorem dX9_workOf_18 : decode cX9_workOf 18 = .ok (.iconst 1, 1) := by decide +kernel
theorem dX9_workOf_19 : decode cX9_workOf 19 = .ok (.iand, 1) := by decide +kernel
theorem dX9_workOf_20 : decode cX9_workOf 20 = .ok (.iconst 1, 1) := by decide +kernel
theorem dX9_workOf_21 : decode cX9_workOf 21 = .ok (.if_icmp .ne 29, 3) := by decide +kernel
theorem dX9_workOf_24 : decode cX9_workOf 24 = .ok (.aload_n 0, 1) := by decide +kernel
theorem dX9_workOf_25 : decode cX9_workOf 25 = .ok (.iload_n 2, 1) := by decide +kernel
theorem dX9_workOf_26 : decode cX9_workOf 26 = .ok (.iload_n 3, 1) := by decide +kernel
theorem dX9_workOf_27 : decode cX9_workOf 27 = .ok (.invokevirtual 194, 3) := by decide +kernel
theorem dX9_workOf_30 : decode cX9_workOf 30 = .ok (.ifCond .eq 20, 3) := by decide +kernel
theorem dX9_workOf_33 : decode cX9_workOf 33 = .ok (.aload_n 0, 1) := by decide +kernel
theorem dX9_workOf_34 : decode cX9_workOf 34 = .ok (.dup, 1) := by decide +kernel
theorem dX9_workOf_35 : decode cX9_workOf 35 = .ok (.getfield 197, 3) := by decide +kernel
theorem dX9_workOf_38 : decode cX9_workOf 38 = .ok (.iconst 1, 1) := by decide +kernel
theorem dX9_workOf_39 : decode cX9_workOf 39 = .ok (.iadd, 1) := by decide +kernel
theorem dX9_workOf_40 : decode cX9_workOf 40 = .ok (.putfield 197, 3) := by decide +kernel
theorem dX9_workOf_43 : decode cX9_workOf 43 = .ok (.aload_n 0, 1) := by decide +kernel
theorem dX9_workOf_44 : decode cX9_workOf 44 = .ok (.iload_n 1, 1) := by decide +kernel
theorem dX9_workOf_45 : decode cX9_workOf 45 = .ok (.invokevirtual 200, 3) := by decide +kernel
theorem dX9_workOf_48 : decode cX9_workOf 48 = .ok (.iconst 0, 1) := by decide +kernel
theorem dX9_workOf_49 : decode cX9_workOf 49 = .ok (.ireturn, 1) := by decide +kernel
theorem dX9_workOf_50 : decode cX9_workOf 50 = .ok (.aload_n 0, 1) := by decide +kernel
theorem dX9_workOf_51 : decode cX9_workOf 51 = .ok (.getfield 178, 3) := by decide +kernel
theorem dX9_workOf_54 : decode cX9_workOf 54 = .ok (.iconst 1, 1) := by decide +kernel
theorem dX9_workOf_55 : decode cX9_workOf 55 = .ok (.if_icmp .le 29, 3) := by decide +kernel
theorem dX9_workOf_58 : decode cX9_workOf 58 = .ok (.aload_n 0, 1) := by decide +kernel
theorem dX9_workOf_59 : decode cX9_workOf 59 = .ok (.iload_n 2, 1) := by decide +kernel
theorem dX9_workOf_60 : decode cX9_workOf 60 = .ok (.iload_n 3, 1) := by decide +kernel
theorem dX9_workOf_61 : decode cX9_workOf 61 = .ok (.invokevirtual 203, 3) := by decide +kernel
theorem dX9_workOf_64 : decode cX9_workOf 64 = .ok (.ifCond .eq 20, 3) := by decide +kernel
theorem dX9_workOf_67 : decode cX9_workOf 67 = .ok (.aload_n 0, 1) := by decide +kernel
theorem dX9_workOf_68 : decode cX9_workOf 68 = .ok (.dup, 1) := by decide +kernel
theorem dX9_workOf_69 : decode cX9_workOf 69 = .ok (.getfield 206, 3) := by decide +kernel
theorem dX9_workOf_72 : decode cX9_workOf 72 = .ok (.iconst 1, 1) := by decide +kernel
theorem dX9_workOf_73 : decode cX9_workOf 73 = .ok (.iadd, 1) := by decide +kernel
theorem dX9_workOf_74 : decode cX9_workOf 74 = .ok (.putfield 206, 3) := by decide +kernel
theorem dX9_workOf_77 : decode cX9_workOf 77 = .ok (.aload_n 0, 1) := by decide +kernel
theorem dX9_workOf_78 : decode cX9_workOf 78 = .ok (.iload_n 1, 1) := by decide +kernel
theorem dX9_workOf_79 : decode cX9_workOf 79 = .ok (.invokevirtual 200, 3) := by decide +kernel
theorem dX9_workOf_82 : decode cX9_workOf 82 = .ok (.iconst 0, 1) := by decide +kernel
theorem dX9_workOf_83 : decode cX9_workOf 83 = .ok (.ireturn, 1) := by decide +kernel
theorem dX9_workOf_84 : decode cX9_workOf 84 = .ok (.aload_n 0, 1) := by decide +kernel
theorem dX9_workOf_85 : decode cX9_workOf 85 = .ok (.bipush 25, 2) := by decide +kernel
theorem dX9_workOf_87 : decode cX9_workOf 87 = .ok (.iload_n 2, 1) := by decide +kernel
theorem dX9_workOf_88 : decode cX9_workOf 88 = .ok (.iadd, 1) := by decide +kernel
theorem dX9_workOf_89 : decode cX9_workOf 89 = .ok (.bipush 25, 2) := by decide +kernel
theorem dX9_workOf_91 : decode cX9_workOf 91 = .ok (.iload_n 3, 1) := by decide +kernel
theorem dX9_workOf_92 : decode cX9_workOf 92 = .ok (.iadd, 1) := by decide +kernel
theorem dX9_workOf_93 : decode cX9_workOf 93 = .ok (.invokevirtual 144, 3) := by decide +kernel
theorem dX9_workOf_96 : decode cX9_workOf 96 = .ok (.istore 4, 2) := by decide +kernel
theorem dX9_workOf_98 : decode cX9_workOf 98 = .ok (.iload 4, 2) := by decide +kernel
theorem dX9_workOf_100 : decode cX9_workOf 100 = .ok (.ifCond .ge 6, 3) := by decide +kernel
theorem dX9_workOf_103 : decode cX9_workOf 103 = .ok (.iload 4, 2) := by decide +kernel
theorem dX9_workOf_105 : decode cX9_workOf 105 = .ok (.ireturn, 1) := by decide +kernel
theorem dX9_workOf_106 : decode cX9_workOf 106 = .ok (.aload_n 0, 1) := by decide +kernel
theorem dX9_workOf_107 : decode cX9_workOf 107 = .ok (.invokevirtual 209, 3) := by decide +kernel
theorem dX9_workOf_110 : decode cX9_workOf 110 = .ok (.aload_n 0, 1) := by decide +kernel
theorem dX9_workOf_111 : decode cX9_workOf 111 = .ok (.invokevirtual 212, 3) := by decide +kernel
theorem dX9_workOf_114 : decode cX9_workOf 114 = .ok (.istore 4, 2) := by decide +kernel
theorem dX9_workOf_116 : decode cX9_workOf 116 = .ok (.iload 4, 2) := by decide +kernel
theorem dX9_workOf_118 : decode cX9_workOf 118 = .ok (.ifCond .ge 6, 3) := by decide +kernel
theorem dX9_workOf_121 : decode cX9_workOf 121 = .ok (.iload 4, 2) := by decide +kernel
theorem dX9_workOf_123 : decode cX9_workOf 123 = .ok (.ireturn, 1) := by decide +kernel
theorem dX9_workOf_124 : decode cX9_workOf 124 = .ok (.aload_n 0, 1) := by decide +kernel
theorem dX9_workOf_125 : decode cX9_workOf 125 = .ok (.getfield 90, 3) := by decide +kernel
theorem dX9_workOf_128 : decode cX9_workOf 128 = .ok (.ifCond .le 15, 3) := by decide +kernel
theorem dX9_workOf_131 : decode cX9_workOf 131 = .ok (.aload_n 0, 1) := by decide +kernel
theorem dX9_workOf_132 : decode cX9_workOf 132 = .ok (.getfield 107, 3) := by decide +kernel
theorem dX9_workOf_135 : decode cX9_workOf 135 = .ok (.bipush 18, 2) := by decide +kernel
theorem dX9_workOf_137 : decode cX9_workOf 137 = .ok (.if_icmp .ne 6, 3) := by decide +kernel
theorem dX9_workOf_140 : decode cX9_workOf 140 = .ok (.bipush (-4), 2) := by decide +kernel
theorem dX9_workOf_142 : decode cX9_workOf 142 = .ok (.ireturn, 1) := by decide +kernel
theorem dX9_workOf_143 : decode cX9_workOf 143 = .ok (.aload_n 0, 1) := by decide +kernel
theorem dX9_workOf_144 : decode cX9_workOf 144 = .ok (.iload_n 1, 1) := by decide +kernel
theorem dX9_workOf_145 : decode cX9_workOf 145 = .ok (.invokevirtual 200, 3) := by decide +kernel
theorem dX9_workOf_148 : decode cX9_workOf 148 = .ok (.aload_n 0, 1) := by decide +kernel
theorem dX9_workOf_149 : decode cX9_workOf 149 = .ok (.getfield 90, 3) := by decide +kernel
theorem dX9_workOf_152 : decode cX9_workOf 152 = .ok (.ifCond .le 20, 3) := by decide +kernel
