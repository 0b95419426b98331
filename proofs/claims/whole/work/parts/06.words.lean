/-! words, cells, fields, methods by their places in the table -/
theorem in_X0 : ∀ w ∈ u_ws RX0 TX0 15, w ∈ q_tbl := by
  show ∀ w ∈ [u_lay RX0 TX0 0, u_lay RX0 TX0 1, u_lay RX0 TX0 2, u_lay RX0 TX0 3, u_lay RX0 TX0 4, u_lay RX0 TX0 5, u_lay RX0 TX0 6, u_lay RX0 TX0 7, u_lay RX0 TX0 8, u_lay RX0 TX0 9, u_lay RX0 TX0 10, u_lay RX0 TX0 11, u_lay RX0 TX0 12, u_lay RX0 TX0 13, u_lay RX0 TX0 14], w ∈ q_tbl
  exact List.forall_mem_cons.mpr ⟨q_in 259 (by decide +kernel) (by decide +kernel), List.forall_mem_cons.mpr ⟨q_in 261 (by decide +kernel) (by decide +kernel), List.forall_mem_cons.mpr ⟨q_in 263 (by decide +kernel) (by decide +kernel), List.forall_mem_cons.mpr ⟨q_in 265 (by decide +kernel) (by decide +kernel), List.forall_mem_cons.mpr ⟨q_in 267 (by decide +kernel) (by decide +kernel), List.forall_mem_cons.mpr ⟨q_in 269 (by decide +kernel) (by decide +kernel), List.forall_mem_cons.mpr ⟨q_in 271 (by decide +kernel) (by decide +kernel), List.forall_mem_cons.mpr ⟨q_in 273 (by decide +kernel) (by decide +kernel), List.forall_mem_cons.mpr ⟨q_in 275 (by decide +kernel) (by decide +kernel), List.forall_mem_cons.mpr ⟨q_in 277 (by decide +kernel) (by decide +kernel), List.forall_mem_cons.mpr ⟨q_in 279 (by decide +kernel) (by decide +kernel), List.forall_mem_cons.mpr ⟨q_in 281 (by decide +kernel) (by decide +kernel), List.forall_mem_cons.mpr ⟨q_in 283 (by decide +kernel) (by decide +kernel), List.forall_mem_cons.mpr ⟨q_in 285 (by decide +kernel) (by decide +kernel), List.forall_mem_cons.mpr ⟨q_in 287 (by decide +kernel) (by decide +kernel), fun _ h => absurd h List.not_mem_nil⟩⟩⟩⟩⟩⟩⟩⟩⟩⟩⟩⟩⟩⟩⟩
theorem in_X2 : ∀ w ∈ u_ws RX2 TX2 3, w ∈ q_tbl := by
  show ∀ w ∈ [u_lay RX2 TX2 0, u_lay RX2 TX2 1, u_lay RX2 TX2 2], w ∈ q_tbl
  exact List.forall_mem_cons.mpr ⟨q_in 225 (by decide +kernel) (by decide +kernel), List.forall_mem_cons.mpr ⟨q_in 227 (by decide +kernel) (by decide +kernel), List.forall_mem_cons.mpr ⟨q_in 229 (by decide +kernel) (by decide +kernel), fun _ h => absurd h List.not_mem_nil⟩⟩⟩
theorem in_X3 : ∀ w ∈ u_ws RX3 TX3 3, w ∈ q_tbl := by
  show ∀ w ∈ [u_lay RX3 TX3 0, u_lay RX3 TX3 1, u_lay RX3 TX3 2], w ∈ q_tbl
  exact List.forall_mem_cons.mpr ⟨q_in 107 (by decide +kernel) (by decide +kernel), List.forall_mem_cons.mpr ⟨q_in 109 (by decide +kernel) (by decide +kernel), List.forall_mem_cons.mpr ⟨q_in 111 (by decide +kernel) (by decide +kernel), fun _ h => absurd h List.not_mem_nil⟩⟩⟩
theorem in_X4 : ∀ w ∈ u_ws RX4 TX4 7, w ∈ q_tbl := by
  show ∀ w ∈ [u_lay RX4 TX4 0, u_lay RX4 TX4 1, u_lay RX4 TX4 2, u_lay RX4 TX4 3, u_lay RX4 TX4 4, u_lay RX4 TX4 5, u_lay RX4 TX4 6], w ∈ q_tbl
  exact List.forall_mem_cons.mpr ⟨q_in 189 (by decide +kernel) (by decide +kernel), List.forall_mem_cons.mpr ⟨q_in 191 (by decide +kernel) (by decide +kernel), List.forall_mem_cons.mpr ⟨q_in 193 (by decide +kernel) (by decide +kernel), List.forall_mem_cons.mpr ⟨q_in 195 (by decide +kernel) (by decide +kernel), List.forall_mem_cons.mpr ⟨q_in 197 (by decide +kernel) (by decide +kernel), List.forall_mem_cons.mpr ⟨q_in 199 (by decide +kernel) (by decide +kernel), List.forall_mem_cons.mpr ⟨q_in 201 (by decide +kernel) (by decide +kernel), fun _ h => absurd h List.not_mem_nil⟩⟩⟩⟩⟩⟩⟩
theorem in_X5 : ∀ w ∈ u_ws RX5 TX5 7, w ∈ q_tbl := by
  show ∀ w ∈ [u_lay RX5 TX5 0, u_lay RX5 TX5 1, u_lay RX5 TX5 2, u_lay RX5 TX5 3, u_lay RX5 TX5 4, u_lay RX5 TX5 5, u_lay RX5 TX5 6], w ∈ q_tbl
  exact List.forall_mem_cons.mpr ⟨q_in 127 (by decide +kernel) (by decide +kernel), List.forall_mem_cons.mpr ⟨q_in 129 (by decide +kernel) (by decide +kernel), List.forall_mem_cons.mpr ⟨q_in 131 (by decide +kernel) (by decide +kernel), List.forall_mem_cons.mpr ⟨q_in 133 (by decide +kernel) (by decide +kernel), List.forall_mem_cons.mpr ⟨q_in 135 (by decide +kernel) (by decide +kernel), List.forall_mem_cons.mpr ⟨q_in 137 (by decide +kernel) (by decide +kernel), List.forall_mem_cons.mpr ⟨q_in 139 (by decide +kernel) (by decide +kernel), fun _ h => absurd h List.not_mem_nil⟩⟩⟩⟩⟩⟩⟩
theorem in_X6 : ∀ w ∈ u_ws RX6 TX6 3, w ∈ q_tbl := by
  show ∀ w ∈ [u_lay RX6 TX6 0, u_lay RX6 TX6 1, u_lay RX6 TX6 2], w ∈ q_tbl
  exact List.forall_mem_cons.mpr ⟨q_in 161 (by decide +kernel) (by decide +kernel), List.forall_mem_cons.mpr ⟨q_in 163 (by decide +kernel) (by decide +kernel), List.forall_mem_cons.mpr ⟨q_in 165 (by decide +kernel) (by decide +kernel), fun _ h => absurd h List.not_mem_nil⟩⟩⟩
theorem in_X7 : ∀ w ∈ u_ws RX7 TX7 3, w ∈ q_tbl := by
  show ∀ w ∈ [u_lay RX7 TX7 0, u_lay RX7 TX7 1, u_lay RX7 TX7 2], w ∈ q_tbl
  exact List.forall_mem_cons.mpr ⟨q_in 300 (by decide +kernel) (by decide +kernel), List.forall_mem_cons.mpr ⟨q_in 302 (by decide +kernel) (by decide +kernel), List.forall_mem_cons.mpr ⟨q_in 304 (by decide +kernel) (by decide +kernel), fun _ h => absurd h List.not_mem_nil⟩⟩⟩
theorem in_X8 : ∀ w ∈ u_ws RX8 TX8 8, w ∈ q_tbl := by
  show ∀ w ∈ [u_lay RX8 TX8 0, u_lay RX8 TX8 1, u_lay RX8 TX8 2, u_lay RX8 TX8 3, u_lay RX8 TX8 4, u_lay RX8 TX8 5, u_lay RX8 TX8 6, u_lay RX8 TX8 7], w ∈ q_tbl
  exact List.forall_mem_cons.mpr ⟨q_in 315 (by decide +kernel) (by decide +kernel), List.forall_mem_cons.mpr ⟨q_in 317 (by decide +kernel) (by decide +kernel), List.forall_mem_cons.mpr ⟨q_in 319 (by decide +kernel) (by decide +kernel), List.forall_mem_cons.mpr ⟨q_in 321 (by decide +kernel) (by decide +kernel), List.forall_mem_cons.mpr ⟨q_in 323 (by decide +kernel) (by decide +kernel), List.forall_mem_cons.mpr ⟨q_in 325 (by decide +kernel) (by decide +kernel), List.forall_mem_cons.mpr ⟨q_in 327 (by decide +kernel) (by decide +kernel), List.forall_mem_cons.mpr ⟨q_in 329 (by decide +kernel) (by decide +kernel), fun _ h => absurd h List.not_mem_nil⟩⟩⟩⟩⟩⟩⟩⟩
theorem in_X9 : ∀ w ∈ u_ws RX9 TX9 38, w ∈ q_tbl := by
  show ∀ w ∈ [u_lay RX9 TX9 0, u_lay RX9 TX9 1, u_lay RX9 TX9 2, u_lay RX9 TX9 3, u_lay RX9 TX9 4, u_lay RX9 TX9 5, u_lay RX9 TX9 6, u_lay RX9 TX9 7, u_lay RX9 TX9 8, u_lay RX9 TX9 9, u_lay RX9 TX9 10, u_lay RX9 TX9 11, u_lay RX9 TX9 12, u_lay RX9 TX9 13, u_lay RX9 TX9 14, u_lay RX9 TX9 15, u_lay RX9 TX9 16, u_lay RX9 TX9 17, u_lay RX9 TX9 18, u_lay RX9 TX9 19, u_lay RX9 TX9 20, u_lay RX9 TX9 21, u_lay RX9 TX9 22, u_lay RX9 TX9 23, u_lay RX9 TX9 24, u_lay RX9 TX9 25, u_lay RX9 TX9 26, u_lay RX9 TX9 27, u_lay RX9 TX9 28, u_lay RX9 TX9 29, u_lay RX9 TX9 30, u_lay RX9 TX9 31, u_lay RX9 TX9 32, u_lay RX9 TX9 33, u_lay RX9 TX9 34, u_lay RX9 TX9 35, u_lay RX9 TX9 36, u_lay RX9 TX9 37], w ∈ q_tbl
  exact List.forall_mem_cons.mpr ⟨q_in 811 (by decide +kernel) (by decide +kernel), List.forall_mem_cons.mpr ⟨q_in 813 (by decide +kernel) (by decide +kernel), List.forall_mem_cons.mpr ⟨q_in 815 (by decide +kernel) (by decide +kernel), List.forall_mem_cons.mpr ⟨q_in 817 (by decide +kernel) (by decide +kernel), List.forall_mem_cons.mpr ⟨q_in 819 (by decide +kernel) (by decide +kernel), List.forall_mem_cons.mpr ⟨q_in 821 (by decide +kernel) (by decide +kernel), List.forall_mem_cons.mpr ⟨q_in 823 (by decide +kernel) (by decide +kernel), List.forall_mem_cons.mpr ⟨q_in 825 (by decide +kernel) (by decide +kernel), List.forall_mem_cons.mpr ⟨q_in 827 (by decide +kernel) (by decide +kernel), List.forall_mem_cons.mpr ⟨q_in 829 (by decide +kernel) (by decide +kernel), List.forall_mem_cons.mpr ⟨q_in 831 (by decide +kernel) (by decide +kernel), List.forall_mem_cons.mpr ⟨q_in 833 (by decide +kernel) (by decide +kernel), List.forall_mem_cons.mpr ⟨q_in 835 (by decide +kernel) (by decide +kernel), List.forall_mem_cons.mpr ⟨q_in 837 (by decide +kernel) (by decide +kernel), List.forall_mem_cons.mpr ⟨q_in 839 (by decide +kernel) (by decide +kernel), List.forall_mem_cons.mpr ⟨q_in 841 (by decide +kernel) (by decide +kernel), List.forall_mem_cons.mpr ⟨q_in 843 (by decide +kernel) (by decide +kernel), List.forall_mem_cons.mpr ⟨q_in 845 (by decide +kernel) (by decide +kernel), List.forall_mem_cons.mpr ⟨q_in 847 (by decide +kernel) (by decide +kernel), List.forall_mem_cons.mpr ⟨q_in 849 (by decide +kernel) (by decide +kernel), List.forall_mem_cons.mpr ⟨q_in 851 (by decide +kernel) (by decide +kernel), List.forall_mem_cons.mpr ⟨q_in 853 (by decide +kernel) (by decide +kernel), List.forall_mem_cons.mpr ⟨q_in 855 (by decide +kernel) (by decide +kernel), List.forall_mem_cons.mpr ⟨q_in 857 (by decide +kernel) (by decide +kernel), List.forall_mem_cons.mpr ⟨q_in 859 (by decide +kernel) (by decide +kernel), List.forall_mem_cons.mpr ⟨q_in 861 (by decide +kernel) (by decide +kernel), List.forall_mem_cons.mpr ⟨q_in 863 (by decide +kernel) (by decide +kernel), List.forall_mem_cons.mpr ⟨q_in 865 (by decide +kernel) (by decide +kernel), List.forall_mem_cons.mpr ⟨q_in 867 (by decide +kernel) (by decide +kernel), List.forall_mem_cons.mpr ⟨q_in 869 (by decide +kernel) (by decide +kernel), List.forall_mem_cons.mpr ⟨q_in 871 (by decide +kernel) (by decide +kernel), List.forall_mem_cons.mpr ⟨q_in 873 (by decide +kernel) (by decide +kernel), List.forall_mem_cons.mpr ⟨q_in 875 (by decide +kernel) (by decide +kernel), List.forall_mem_cons.mpr ⟨q_in 877 (by decide +kernel) (by decide +kernel), List.forall_mem_cons.mpr ⟨q_in 879 (by decide +kernel) (by decide +kernel), List.forall_mem_cons.mpr ⟨q_in 881 (by decide +kernel) (by decide +kernel), List.forall_mem_cons.mpr ⟨q_in 883 (by decide +kernel) (by decide +kernel), List.forall_mem_cons.mpr ⟨q_in 885 (by decide +kernel) (by decide +kernel), fun _ h => absurd h List.not_mem_nil⟩⟩⟩⟩⟩⟩⟩⟩⟩⟩⟩⟩⟩⟩⟩⟩⟩⟩⟩⟩⟩⟩⟩⟩⟩⟩⟩⟩⟩⟩⟩⟩⟩⟩⟩⟩⟩⟩
theorem kz_0 : 0 < 242 ∧ kd 0 = (3, 7) := by decide +kernel
theorem kz_1 : 1 < 242 ∧ kd 1 = (3, 4) := by decide +kernel
theorem kz_2 : 2 < 242 ∧ kd 2 = (0, 4) := by decide +kernel
theorem kz_3 : 3 < 242 ∧ kd 3 = (0, 40) := by decide +kernel
theorem kz_4 : isP 4 := by unfold isP; decide +kernel
theorem kz_7 : isP 7 := by unfold isP; decide +kernel
theorem kz_10 : isP 10 := by unfold isP; decide +kernel
theorem kz_13 : isP 13 := by unfold isP; decide +kernel
theorem kz_16 : isP 16 := by unfold isP; decide +kernel
theorem kz_19 : 19 < 242 ∧ kd 19 = (3, 5) := by decide +kernel
theorem kz_20 : 20 < 242 ∧ kd 20 = (2, 24) := by decide +kernel
theorem kz_21 : 21 < 242 ∧ kd 21 = (1, 24) := by decide +kernel
theorem kz_94 : 94 < 242 ∧ kd 94 = (3, 3) := by decide +kernel
theorem kz_101 : isP 101 := by unfold isP; decide +kernel
theorem kz_104 : 104 < 242 ∧ kd 104 = (3, 0) := by decide +kernel
theorem kz_105 : 105 < 242 ∧ kd 105 = (3, 1) := by decide +kernel
theorem kz_106 : 106 < 242 ∧ kd 106 = (0, 153) := by decide +kernel
theorem kz_107 : 107 < 242 ∧ kd 107 = (0, 153) := by decide +kernel
theorem kz_110 : 110 < 242 ∧ kd 110 = (0, 18) := by decide +kernel
theorem kz_111 : isP 111 := by unfold isP; decide +kernel
theorem kz_222 : 222 < 242 ∧ kd 222 = (3, 6) := by decide +kernel
theorem kz_223 : 223 < 242 ∧ kd 223 = (0, 300) := by decide +kernel
theorem kz_224 : 224 < 242 ∧ kd 224 = (3, 8) := by decide +kernel
theorem kz_225 : 225 < 242 ∧ kd 225 = (0, 61) := by decide +kernel
theorem kz_226 : 226 < 242 ∧ kd 226 = (0, 2440) := by decide +kernel
theorem kz_227 : 227 < 242 ∧ kd 227 = (0, 9760) := by decide +kernel
theorem kz_228 : 228 < 242 ∧ kd 228 = (0, 160) := by decide +kernel
theorem kz_229 : 229 < 242 ∧ kd 229 = (0, 160) := by decide +kernel
theorem kz_230 : 230 < 242 ∧ kd 230 = (0, 1700) := by decide +kernel
theorem kz_231 : 231 < 242 ∧ kd 231 = (0, 6800) := by decide +kernel
theorem kz_232 : 232 < 242 ∧ kd 232 = (0, 4) := by decide +kernel
theorem kz_233 : 233 < 242 ∧ kd 233 = (0, 4) := by decide +kernel
theorem kz_234 : 234 < 242 ∧ kd 234 = (0, 4) := by decide +kernel
theorem kz_235 : 235 < 242 ∧ kd 235 = (0, 4) := by decide +kernel
theorem kz_236 : 236 < 242 ∧ kd 236 = (0, 18) := by decide +kernel
theorem kz_237 : 237 < 242 ∧ kd 237 = (0, 40) := by decide +kernel
theorem kz_238 : 238 < 242 ∧ kd 238 = (0, 160) := by decide +kernel
theorem kz_239 : 239 < 242 ∧ kd 239 = (0, 4) := by decide +kernel
theorem kz_240 : 240 < 242 ∧ kd 240 = (0, 1204) := by decide +kernel
theorem kz_241 : 241 < 242 ∧ kd 241 = (0, 4) := by decide +kernel
theorem tl_X1_11 : Cond.constant RX1 11 (1633771873) ∈ q_tbl := q_in 380 (by decide +kernel) rfl
theorem tl_X1_12 : Cond.constant RX1 12 (-2139062144) ∈ q_tbl := q_in 381 (by decide +kernel) rfl
theorem tl_X1_13 : Cond.methodLink RX1 13 yX1_exponentOf ∈ q_tbl := q_in 493 (by decide +kernel) rfl
theorem tl_X1_17 : Cond.methodLink RX1 17 yJ9_max_7cf53 ∈ q_tbl := q_in 494 (by decide +kernel) rfl
theorem tl_X1_22 : Cond.methodLink RX1 22 yX1_variable ∈ q_tbl := q_in 497 (by decide +kernel) rfl
theorem tl_X3_18 : Cond.fieldLink RX3 18 "IdealBench$Poly" "size" "I" ∈ q_tbl := q_in 102 (by decide +kernel) rfl
theorem tl_X3_9 : Cond.fieldLink RX3 9 "IdealBench$Poly" "numbers" "[I" ∈ q_tbl := q_in 92 (by decide +kernel) rfl
theorem tl_X3_15 : Cond.fieldLink RX3 15 "IdealBench$Poly" "monos" "[I" ∈ q_tbl := q_in 97 (by decide +kernel) rfl
theorem tl_X3_26 : Cond.methodLink RX3 26 yX3_push ∈ q_tbl := q_in 392 (by decide +kernel) rfl
theorem tl_X3_22 : Cond.methodLink RX3 22 yX3_copyFrom ∈ q_tbl := q_in 388 (by decide +kernel) rfl
theorem tl_X2_18 : Cond.fieldLink RX2 18 "IdealBench$Pairs" "size" "I" ∈ q_tbl := q_in 222 (by decide +kernel) rfl
theorem tl_X2_9 : Cond.fieldLink RX2 9 "IdealBench$Pairs" "firsts" "[I" ∈ q_tbl := q_in 216 (by decide +kernel) rfl
theorem tl_X2_15 : Cond.fieldLink RX2 15 "IdealBench$Pairs" "seconds" "[I" ∈ q_tbl := q_in 219 (by decide +kernel) rfl
theorem tl_X2_22 : Cond.methodLink RX2 22 yJ9_min_7cf53 ∈ q_tbl := q_in 614 (by decide +kernel) rfl
theorem tl_X2_28 : Cond.methodLink RX2 28 yJ9_max_7cf53 ∈ q_tbl := q_in 615 (by decide +kernel) rfl
theorem tl_X5_35 : Cond.fieldLink RX5 35 "IdealBench$Ring" "n" "I" ∈ q_tbl := q_in 118 (by decide +kernel) rfl
theorem tl_X5_38 : Cond.methodLink RX5 38 yX5_hasVariable ∈ q_tbl := q_in 356 (by decide +kernel) rfl
theorem tl_X5_32 : Cond.fieldLink RX5 32 "IdealBench$Ring" "p" "I" ∈ q_tbl := q_in 115 (by decide +kernel) rfl
theorem tl_X5_42 : Cond.methodLink RX5 42 yJ9_floorMod_7cf53 ∈ q_tbl := q_in 364 (by decide +kernel) rfl
theorem tl_X5_48 : Cond.methodLink RX5 48 yX5_power ∈ q_tbl := q_in 502 (by decide +kernel) rfl
theorem tl_X5_9 : Cond.fieldLink RX5 9 "IdealBench$Ring" "orde\x72" "I" ∈ q_tbl := q_in 121 (by decide +kernel) rfl
theorem tl_X5_54 : Cond.fieldLink RX5 54 "IdealBench$Poly" "numbers" "[I" ∈ q_tbl := q_in 95 (by decide +kernel) rfl
theorem tl_X5_57 : Cond.fieldLink RX5 57 "IdealBench$Poly" "monos" "[I" ∈ q_tbl := q_in 99 (by decide +kernel) rfl
theorem tl_X5_60 : Cond.methodLink RX5 60 yX5_rank ∈ q_tbl := q_in 340 (by decide +kernel) rfl
theorem tl_X5_51 : Cond.fieldLink RX5 51 "IdealBench$Poly" "size" "I" ∈ q_tbl := q_in 105 (by decide +kernel) rfl
theorem tl_X5_67 : Cond.methodLink RX5 67 yJ6_compare_7cf53 ∈ q_tbl := q_in 530 (by decide +kernel) rfl
theorem tl_X5_64 : Cond.methodLink RX5 64 yJ9_min_7cf53 ∈ q_tbl := q_in 527 (by decide +kernel) rfl
theorem tl_X5_83 : Cond.methodLink RX5 83 yX1_isGreat ∈ q_tbl := q_in 377 (by decide +kernel) rfl
theorem tl_X5_79 : Cond.methodLink RX5 79 yX3_push ∈ q_tbl := q_in 383 (by decide +kernel) rfl
theorem tl_X5_76 : Cond.methodLink RX5 76 yX5_restOf ∈ q_tbl := q_in 382 (by decide +kernel) rfl
theorem tl_X5_72 : Cond.methodLink RX5 72 yX5_isMultipleGreat ∈ q_tbl := q_in 374 (by decide +kernel) rfl
theorem tl_X5_19 : Cond.fieldLink RX5 19 "IdealBench$Ring" "meets" "[I" ∈ q_tbl := q_in 124 (by decide +kernel) rfl
theorem tl_X5_94 : Cond.methodLink RX5 94 yX5_greatestToMeet ∈ q_tbl := q_in 458 (by decide +kernel) rfl
theorem tl_X5_98 : Cond.methodLink RX5 98 yX5_takeProducts ∈ q_tbl := q_in 462 (by decide +kernel) rfl
theorem tl_X5_88 : Cond.methodLink RX5 88 yJ7_fill_53178 ∈ q_tbl := q_in 455 (by decide +kernel) rfl
theorem tl_X5_102 : Cond.methodLink RX5 102 yX1_exponentOf ∈ q_tbl := q_in 474 (by decide +kernel) rfl
theorem tl_X5_105 : Cond.methodLink RX5 105 yX1_variable ∈ q_tbl := q_in 475 (by decide +kernel) rfl
theorem tl_X5_108 : Cond.methodLink RX5 108 yX3_head ∈ q_tbl := q_in 486 (by decide +kernel) rfl
theorem tl_X5_112 : Cond.methodLink RX5 112 yX1_leastMultiple ∈ q_tbl := q_in 490 (by decide +kernel) rfl
theorem tl_X5_29 : Cond.fieldLink RX5 29 "IdealBench$Ring" "firstMultiple" "LIdealBench$Poly;" ∈ q_tbl := q_in 126 (by decide +kernel) rfl
theorem tl_X5_25 : Cond.fieldLink RX5 25 "IdealBench$Ring" "nought" "LIdealBench$Poly;" ∈ q_tbl := q_in 125 (by decide +kernel) rfl
theorem tl_X5_115 : Cond.methodLink RX5 115 yX5_inverse ∈ q_tbl := q_in 498 (by decide +kernel) rfl
theorem tl_X5_118 : Cond.methodLink RX5 118 yX5_addMultiple ∈ q_tbl := q_in 506 (by decide +kernel) rfl
theorem tl_X5_15 : Cond.fieldLink RX5 15 "IdealBench$Ring" "point" "[I" ∈ q_tbl := q_in 123 (by decide +kernel) rfl
theorem tl_X5_122 : Cond.methodLink RX5 122 yX5_setPoint ∈ q_tbl := q_in 738 (by decide +kernel) rfl
theorem tl_X6_17 : Cond.fieldLink RX6 17 "IdealBench$Shelf" "holds" "[Z" ∈ q_tbl := q_in 158 (by decide +kernel) rfl
theorem tl_X6_11 : Cond.fieldLink RX6 11 "IdealBench$Shelf" "polys" "[LIdealBench$Poly;" ∈ q_tbl := q_in 157 (by decide +kernel) rfl
theorem tl_X6_22 : Cond.fieldLink RX6 22 "IdealBench$Shelf" "held" "I" ∈ q_tbl := q_in 159 (by decide +kernel) rfl
theorem tl_X6_26 : Cond.methodLink RX6 26 yX3_copyOf ∈ q_tbl := q_in 405 (by decide +kernel) rfl
theorem tl_X6_30 : Cond.methodLink RX6 30 yX6_at ∈ q_tbl := q_in 414 (by decide +kernel) rfl
theorem tl_X4_32 : Cond.fieldLink RX4 32 "IdealBench$Reduce\x72" "made" "I" ∈ q_tbl := q_in 185 (by decide +kernel) rfl
theorem tl_X4_54 : Cond.methodLink RX4 54 yX3_head ∈ q_tbl := q_in 630 (by decide +kernel) rfl
theorem tl_X4_12 : Cond.fieldLink RX4 12 "IdealBench$Reduce\x72" "h" "LIdealBench$Poly;" ∈ q_tbl := q_in 178 (by decide +kernel) rfl
theorem tl_X4_57 : Cond.methodLink RX4 57 yX1_divides ∈ q_tbl := q_in 631 (by decide +kernel) rfl
theorem tl_X4_21 : Cond.fieldLink RX4 21 "IdealBench$Reduce\x72" "\x72" "LIdealBench$Poly;" ∈ q_tbl := q_in 180 (by decide +kernel) rfl
theorem tl_X4_63 : Cond.fieldLink RX4 63 "IdealBench$Poly" "numbers" "[I" ∈ q_tbl := q_in 93 (by decide +kernel) rfl
theorem tl_X4_67 : Cond.fieldLink RX4 67 "IdealBench$Poly" "monos" "[I" ∈ q_tbl := q_in 98 (by decide +kernel) rfl
theorem tl_X4_70 : Cond.methodLink RX4 70 yX3_push ∈ q_tbl := q_in 636 (by decide +kernel) rfl
theorem tl_X4_73 : Cond.methodLink RX4 73 yX3_dropHead ∈ q_tbl := q_in 637 (by decide +kernel) rfl
theorem tl_X4_24 : Cond.fieldLink RX4 24 "IdealBench$Reduce\x72" "fuel" "I" ∈ q_tbl := q_in 183 (by decide +kernel) rfl
theorem tl_X4_76 : Cond.fieldLink RX4 76 "IdealBench$Reduce\x72" "madeInAll" "I" ∈ q_tbl := q_in 187 (by decide +kernel) rfl
theorem tl_X4_28 : Cond.fieldLink RX4 28 "IdealBench$Reduce\x72" "ring" "LIdealBench$Ring;" ∈ q_tbl := q_in 177 (by decide +kernel) rfl
theorem tl_X4_18 : Cond.fieldLink RX4 18 "IdealBench$Reduce\x72" "lessened" "LIdealBench$Poly;" ∈ q_tbl := q_in 179 (by decide +kernel) rfl
theorem tl_X4_79 : Cond.fieldLink RX4 79 "IdealBench$Ring" "p" "I" ∈ q_tbl := q_in 116 (by decide +kernel) rfl
theorem tl_X4_84 : Cond.methodLink RX4 84 yX5_addMultiple ∈ q_tbl := q_in 645 (by decide +kernel) rfl
theorem tl_X4_39 : Cond.fieldLink RX4 39 "IdealBench$Poly" "size" "I" ∈ q_tbl := q_in 103 (by decide +kernel) rfl
theorem tl_X4_42 : Cond.methodLink RX4 42 yX4_firstDividing ∈ q_tbl := q_in 626 (by decide +kernel) rfl
theorem tl_X4_50 : Cond.methodLink RX4 50 yX4_lessenBy ∈ q_tbl := q_in 641 (by decide +kernel) rfl
theorem tl_X4_46 : Cond.methodLink RX4 46 yX4_moveHead ∈ q_tbl := q_in 632 (by decide +kernel) rfl
theorem tl_X4_35 : Cond.methodLink RX4 35 yX3_copyOf ∈ q_tbl := q_in 625 (by decide +kernel) rfl
theorem tl_X0_44 : Cond.fieldLink RX0 44 "IdealBench$Basis" "size" "I" ∈ q_tbl := q_in 243 (by decide +kernel) rfl
theorem tl_X0_20 : Cond.fieldLink RX0 20 "IdealBench$Basis" "rows" "[LIdealBench$Poly;" ∈ q_tbl := q_in 238 (by decide +kernel) rfl
theorem tl_X0_12 : Cond.fieldLink RX0 12 "IdealBench$Basis" "pairs" "LIdealBench$Pairs;" ∈ q_tbl := q_in 236 (by decide +kernel) rfl
theorem tl_X0_48 : Cond.fieldLink RX0 48 "IdealBench$Pairs" "size" "I" ∈ q_tbl := q_in 223 (by decide +kernel) rfl
theorem tl_X0_49 : Cond.fieldLink RX0 49 "IdealBench$Basis" "isTidy" "Z" ∈ q_tbl := q_in 245 (by decide +kernel) rfl
theorem tl_X0_53 : Cond.methodLink RX0 53 yX0_isFull ∈ q_tbl := q_in 557 (by decide +kernel) rfl
theorem tl_X0_57 : Cond.methodLink RX0 57 yX3_copyOf ∈ q_tbl := q_in 558 (by decide +kernel) rfl
theorem tl_X0_36 : Cond.fieldLink RX0 36 "IdealBench$Basis" "ring" "LIdealBench$Ring;" ∈ q_tbl := q_in 234 (by decide +kernel) rfl
theorem tl_X0_61 : Cond.methodLink RX0 61 yX5_makeMonic ∈ q_tbl := q_in 559 (by decide +kernel) rfl
theorem tl_X0_66 : Cond.methodLink RX0 66 yX2_comeWith ∈ q_tbl := q_in 563 (by decide +kernel) rfl
theorem tl_X0_111 : Cond.fieldLink RX0 111 "IdealBench$Pairs" "firsts" "[I" ∈ q_tbl := q_in 217 (by decide +kernel) rfl
theorem tl_X0_114 : Cond.methodLink RX0 114 yX3_head ∈ q_tbl := q_in 596 (by decide +kernel) rfl
theorem tl_X0_117 : Cond.fieldLink RX0 117 "IdealBench$Pairs" "seconds" "[I" ∈ q_tbl := q_in 220 (by decide +kernel) rfl
theorem tl_X0_120 : Cond.methodLink RX0 120 yX1_leastMultiple ∈ q_tbl := q_in 597 (by decide +kernel) rfl
theorem tl_X0_105 : Cond.methodLink RX0 105 yX0_multipleOf ∈ q_tbl := q_in 592 (by decide +kernel) rfl
theorem tl_X0_108 : Cond.methodLink RX0 108 yX5_rank ∈ q_tbl := q_in 598 (by decide +kernel) rfl
theorem tl_X0_102 : Cond.fieldLink RX0 102 "IdealBench$Basis" "way" "I" ∈ q_tbl := q_in 247 (by decide +kernel) rfl
theorem tl_X0_126 : Cond.methodLink RX0 126 yX1_divides ∈ q_tbl := q_in 607 (by decide +kernel) rfl
theorem tl_X0_130 : Cond.methodLink RX0 130 yX2_waits ∈ q_tbl := q_in 610 (by decide +kernel) rfl
theorem tl_X0_40 : Cond.fieldLink RX0 40 "IdealBench$Basis" "reduce\x72" "LIdealBench$Reducer;" ∈ q_tbl := q_in 235 (by decide +kernel) rfl
theorem tl_X0_141 : Cond.fieldLink RX0 141 "IdealBench$Reduce\x72" "\x72" "LIdealBench$Poly;" ∈ q_tbl := q_in 181 (by decide +kernel) rfl
theorem tl_X0_144 : Cond.fieldLink RX0 144 "IdealBench$Poly" "size" "I" ∈ q_tbl := q_in 106 (by decide +kernel) rfl
theorem tl_X0_148 : Cond.methodLink RX0 148 yX0_take ∈ q_tbl := q_in 646 (by decide +kernel) rfl
theorem tl_X0_152 : Cond.fieldLink RX0 152 "IdealBench$Basis" "leftSomething" "I" ∈ q_tbl := q_in 255 (by decide +kernel) rfl
theorem tl_X0_145 : Cond.fieldLink RX0 145 "IdealBench$Basis" "leftNothing" "I" ∈ q_tbl := q_in 257 (by decide +kernel) rfl
theorem tl_X0_32 : Cond.fieldLink RX0 32 "IdealBench$Basis" "begun" "LIdealBench$Poly;" ∈ q_tbl := q_in 242 (by decide +kernel) rfl
theorem tl_X0_133 : Cond.methodLink RX0 133 yX5_makeS ∈ q_tbl := q_in 620 (by decide +kernel) rfl
theorem tl_X0_137 : Cond.methodLink RX0 137 yX4_leave ∈ q_tbl := q_in 621 (by decide +kernel) rfl
theorem tl_X0_99 : Cond.methodLink RX0 99 yX2_remove ∈ q_tbl := q_in 647 (by decide +kernel) rfl
theorem tl_X0_95 : Cond.methodLink RX0 95 yX0_reduceS ∈ q_tbl := q_in 616 (by decide +kernel) rfl
theorem tl_X0_79 : Cond.fieldLink RX0 79 "IdealBench$Basis" "rules" "I" ∈ q_tbl := q_in 249 (by decide +kernel) rfl
theorem tl_X0_89 : Cond.methodLink RX0 89 yX0_isChained ∈ q_tbl := q_in 603 (by decide +kernel) rfl
theorem tl_X0_92 : Cond.fieldLink RX0 92 "IdealBench$Basis" "passedChain" "I" ∈ q_tbl := q_in 253 (by decide +kernel) rfl
theorem tl_X0_70 : Cond.methodLink RX0 70 yX4_begin ∈ q_tbl := q_in 587 (by decide +kernel) rfl
theorem tl_X0_75 : Cond.methodLink RX0 75 yX0_nextPair ∈ q_tbl := q_in 588 (by decide +kernel) rfl
theorem tl_X0_82 : Cond.methodLink RX0 82 yX0_isCoprime ∈ q_tbl := q_in 599 (by decide +kernel) rfl
theorem tl_X0_86 : Cond.fieldLink RX0 86 "IdealBench$Basis" "passedCoprime" "I" ∈ q_tbl := q_in 251 (by decide +kernel) rfl
theorem tl_X0_27 : Cond.fieldLink RX0 27 "IdealBench$Basis" "stay" "[I" ∈ q_tbl := q_in 241 (by decide +kernel) rfl
theorem tl_X0_161 : Cond.methodLink RX0 161 yX0_isNeedless ∈ q_tbl := q_in 663 (by decide +kernel) rfl
theorem tl_X0_168 : Cond.fieldLink RX0 168 "IdealBench$Poly" "numbers" "[I" ∈ q_tbl := q_in 96 (by decide +kernel) rfl
theorem tl_X0_171 : Cond.fieldLink RX0 171 "IdealBench$Poly" "monos" "[I" ∈ q_tbl := q_in 101 (by decide +kernel) rfl
theorem tl_X0_174 : Cond.methodLink RX0 174 yX3_push ∈ q_tbl := q_in 672 (by decide +kernel) rfl
theorem tl_X0_24 : Cond.fieldLink RX0 24 "IdealBench$Basis" "spare" "[LIdealBench$Poly;" ∈ q_tbl := q_in 240 (by decide +kernel) rfl
theorem tl_X0_164 : Cond.methodLink RX0 164 yX3_copyFrom ∈ q_tbl := q_in 671 (by decide +kernel) rfl
theorem tl_X0_158 : Cond.methodLink RX0 158 yX0_reduceTail ∈ q_tbl := q_in 667 (by decide +kernel) rfl
theorem tl_X0_155 : Cond.methodLink RX0 155 yX0_sortThoseThatStay ∈ q_tbl := q_in 659 (by decide +kernel) rfl
theorem tl_X0_181 : Cond.methodLink RX0 181 yX1_exponentOf ∈ q_tbl := q_in 725 (by decide +kernel) rfl
theorem tl_X0_177 : Cond.methodLink RX0 177 yX0_hasOneOfFirst ∈ q_tbl := q_in 722 (by decide +kernel) rfl
theorem tl_X0_184 : Cond.methodLink RX0 184 yX5_valueAtPoint ∈ q_tbl := q_in 743 (by decide +kernel) rfl
theorem tl_X7_9 : Cond.fieldLink RX7 9 "IdealBench$Stai\x72" "monos" "[I" ∈ q_tbl := q_in 298 (by decide +kernel) rfl
theorem tl_X7_15 : Cond.fieldLink RX7 15 "IdealBench$Stai\x72" "ring" "LIdealBench$Ring;" ∈ q_tbl := q_in 296 (by decide +kernel) rfl
theorem tl_X7_55 : Cond.methodLink RX7 55 yX5_rank ∈ q_tbl := q_in 703 (by decide +kernel) rfl
theorem tl_X7_48 : Cond.methodLink RX7 48 yX1_variable ∈ q_tbl := q_in 708 (by decide +kernel) rfl
theorem tl_X7_19 : Cond.fieldLink RX7 19 "IdealBench$Stai\x72" "basis" "LIdealBench$Basis;" ∈ q_tbl := q_in 297 (by decide +kernel) rfl
theorem tl_X7_23 : Cond.methodLink RX7 23 yX0_hasHeadDividing ∈ q_tbl := q_in 694 (by decide +kernel) rfl
theorem tl_X7_51 : Cond.methodLink RX7 51 yX1_exponentOf ∈ q_tbl := q_in 709 (by decide +kernel) rfl
theorem tl_X7_42 : Cond.fieldLink RX7 42 "IdealBench$Ring" "n" "I" ∈ q_tbl := q_in 119 (by decide +kernel) rfl
theorem tl_X7_29 : Cond.methodLink RX7 29 yX1_isGreat ∈ q_tbl := q_in 698 (by decide +kernel) rfl
theorem tl_X7_34 : Cond.methodLink RX7 34 yX7_insert ∈ q_tbl := q_in 699 (by decide +kernel) rfl
theorem tl_X7_38 : Cond.methodLink RX7 38 yX7_nextBehind ∈ q_tbl := q_in 704 (by decide +kernel) rfl
theorem tl_X8_42 : Cond.fieldLink RX8 42 "IdealBench" "shelf" "LIdealBench$Shelf;" ∈ q_tbl := q_in 311 (by decide +kernel) rfl
theorem tl_X8_84 : Cond.methodLink RX8 84 yX6_at ∈ q_tbl := q_in 344 (by decide +kernel) rfl
theorem tl_X8_18 : Cond.fieldLink RX8 18 "IdealBench" "ring" "LIdealBench$Ring;" ∈ q_tbl := q_in 307 (by decide +kernel) rfl
theorem tl_X8_80 : Cond.methodLink RX8 80 yX5_sortTerms ∈ q_tbl := q_in 336 (by decide +kernel) rfl
theorem tl_X8_60 : Cond.fieldLink RX8 60 "IdealBench" "basis" "LIdealBench$Basis;" ∈ q_tbl := q_in 313 (by decide +kernel) rfl
theorem tl_X8_73 : Cond.fieldLink RX8 73 "IdealBench$Basis" "size" "I" ∈ q_tbl := q_in 244 (by decide +kernel) rfl
theorem tl_X8_77 : Cond.fieldLink RX8 77 "IdealBench$Ring" "orde\x72" "I" ∈ q_tbl := q_in 122 (by decide +kernel) rfl
theorem tl_X8_25 : Cond.fieldLink RX8 25 "IdealBench" "draft" "LIdealBench$Poly;" ∈ q_tbl := q_in 308 (by decide +kernel) rfl
theorem tl_X8_88 : Cond.methodLink RX8 88 yX5_mayBeExponent ∈ q_tbl := q_in 352 (by decide +kernel) rfl
theorem tl_X8_36 : Cond.fieldLink RX8 36 "IdealBench" "result" "LIdealBench$Poly;" ∈ q_tbl := q_in 310 (by decide +kernel) rfl
theorem tl_X8_29 : Cond.fieldLink RX8 29 "IdealBench" "unit" "LIdealBench$Poly;" ∈ q_tbl := q_in 309 (by decide +kernel) rfl
theorem tl_X8_91 : Cond.methodLink RX8 91 yX5_restOf ∈ q_tbl := q_in 360 (by decide +kernel) rfl
theorem tl_X8_95 : Cond.methodLink RX8 95 yX1_of ∈ q_tbl := q_in 367 (by decide +kernel) rfl
theorem tl_X8_101 : Cond.methodLink RX8 101 yX5_addMultiple ∈ q_tbl := q_in 370 (by decide +kernel) rfl
theorem tl_X8_105 : Cond.methodLink RX8 105 yX3_copyOf ∈ q_tbl := q_in 384 (by decide +kernel) rfl
theorem tl_X8_108 : Cond.fieldLink RX8 108 "IdealBench$Poly" "size" "I" ∈ q_tbl := q_in 104 (by decide +kernel) rfl
theorem tl_X8_109 : Cond.methodLink RX8 109 yX6_isFull ∈ q_tbl := q_in 397 (by decide +kernel) rfl
theorem tl_X8_113 : Cond.methodLink RX8 113 yX6_put ∈ q_tbl := q_in 401 (by decide +kernel) rfl
theorem tl_X8_117 : Cond.methodLink RX8 117 yX6_free ∈ q_tbl := q_in 410 (by decide +kernel) rfl
theorem tl_X8_267 : Cond.methodLink RX8 267 yX0_at ∈ q_tbl := q_in 423 (by decide +kernel) rfl
theorem tl_X8_121 : Cond.methodLink RX8 121 yX8_polyAt ∈ q_tbl := q_in 419 (by decide +kernel) rfl
theorem tl_X8_124 : Cond.fieldLink RX8 124 "IdealBench$Poly" "numbers" "[I" ∈ q_tbl := q_in 94 (by decide +kernel) rfl
theorem tl_X8_128 : Cond.methodLink RX8 128 yX5_hasVariable ∈ q_tbl := q_in 435 (by decide +kernel) rfl
theorem tl_X8_131 : Cond.fieldLink RX8 131 "IdealBench$Poly" "monos" "[I" ∈ q_tbl := q_in 100 (by decide +kernel) rfl
theorem tl_X8_134 : Cond.methodLink RX8 134 yX1_exponentOf ∈ q_tbl := q_in 436 (by decide +kernel) rfl
theorem tl_X8_138 : Cond.methodLink RX8 138 yX8_putResult ∈ q_tbl := q_in 443 (by decide +kernel) rfl
theorem tl_X8_141 : Cond.methodLink RX8 141 yX5_multiply ∈ q_tbl := q_in 451 (by decide +kernel) rfl
theorem tl_X8_145 : Cond.methodLink RX8 145 yX5_derive ∈ q_tbl := q_in 470 (by decide +kernel) rfl
theorem tl_X8_149 : Cond.methodLink RX8 149 yX5_makeS ∈ q_tbl := q_in 482 (by decide +kernel) rfl
theorem tl_X8_152 : Cond.methodLink RX8 152 yX5_setPoint ∈ q_tbl := q_in 511 (by decide +kernel) rfl
theorem tl_X8_155 : Cond.methodLink RX8 155 yX5_valueAtPoint ∈ q_tbl := q_in 515 (by decide +kernel) rfl
theorem tl_X8_158 : Cond.methodLink RX8 158 yX5_comparePolys ∈ q_tbl := q_in 523 (by decide +kernel) rfl
theorem tl_X8_51 : Cond.fieldLink RX8 51 "IdealBench" "reduce\x72" "LIdealBench$Reducer;" ∈ q_tbl := q_in 312 (by decide +kernel) rfl
theorem tl_X8_162 : Cond.fieldLink RX8 162 "IdealBench$Reduce\x72" "fuel" "I" ∈ q_tbl := q_in 184 (by decide +kernel) rfl
theorem tl_X8_165 : Cond.fieldLink RX8 165 "IdealBench$Basis" "way" "I" ∈ q_tbl := q_in 248 (by decide +kernel) rfl
theorem tl_X8_168 : Cond.fieldLink RX8 168 "IdealBench$Basis" "rules" "I" ∈ q_tbl := q_in 250 (by decide +kernel) rfl
theorem tl_X8_171 : Cond.methodLink RX8 171 yX0_isFull ∈ q_tbl := q_in 549 (by decide +kernel) rfl
theorem tl_X8_172 : Cond.fieldLink RX8 172 "IdealBench$Basis" "isTidy" "Z" ∈ q_tbl := q_in 246 (by decide +kernel) rfl
theorem tl_X8_176 : Cond.methodLink RX8 176 yX0_take ∈ q_tbl := q_in 553 (by decide +kernel) rfl
theorem tl_X8_179 : Cond.methodLink RX8 179 yX0_empty ∈ q_tbl := q_in 571 (by decide +kernel) rfl
theorem tl_X8_186 : Cond.fieldLink RX8 186 "IdealBench$Basis" "pairs" "LIdealBench$Pairs;" ∈ q_tbl := q_in 237 (by decide +kernel) rfl
theorem tl_X8_190 : Cond.fieldLink RX8 190 "IdealBench$Pairs" "size" "I" ∈ q_tbl := q_in 224 (by decide +kernel) rfl
theorem tl_X8_193 : Cond.methodLink RX8 193 yX0_workNext ∈ q_tbl := q_in 583 (by decide +kernel) rfl
theorem tl_X8_183 : Cond.methodLink RX8 183 yX4_begin ∈ q_tbl := q_in 579 (by decide +kernel) rfl
theorem tl_X8_196 : Cond.methodLink RX8 196 yX0_makeTidy ∈ q_tbl := q_in 655 (by decide +kernel) rfl
theorem tl_X8_199 : Cond.fieldLink RX8 199 "IdealBench$Basis" "rows" "[LIdealBench$Poly;" ∈ q_tbl := q_in 239 (by decide +kernel) rfl
theorem tl_X8_203 : Cond.methodLink RX8 203 yX4_leave ∈ q_tbl := q_in 677 (by decide +kernel) rfl
theorem tl_X8_207 : Cond.fieldLink RX8 207 "IdealBench$Reduce\x72" "\x72" "LIdealBench$Poly;" ∈ q_tbl := q_in 182 (by decide +kernel) rfl
theorem tl_X8_210 : Cond.fieldLink RX8 210 "IdealBench$Pairs" "firsts" "[I" ∈ q_tbl := q_in 218 (by decide +kernel) rfl
theorem tl_X8_213 : Cond.fieldLink RX8 213 "IdealBench$Pairs" "seconds" "[I" ∈ q_tbl := q_in 221 (by decide +kernel) rfl
theorem tl_X8_69 : Cond.fieldLink RX8 69 "IdealBench" "stai\x72" "LIdealBench$Stair;" ∈ q_tbl := q_in 314 (by decide +kernel) rfl
theorem tl_X8_216 : Cond.methodLink RX8 216 yX7_find ∈ q_tbl := q_in 690 (by decide +kernel) rfl
theorem tl_X8_219 : Cond.fieldLink RX8 219 "IdealBench$Stai\x72" "monos" "[I" ∈ q_tbl := q_in 299 (by decide +kernel) rfl
theorem tl_X8_220 : Cond.fieldLink RX8 220 "IdealBench$Ring" "n" "I" ∈ q_tbl := q_in 120 (by decide +kernel) rfl
theorem tl_X8_223 : Cond.methodLink RX8 223 yX0_countWithoutFirst ∈ q_tbl := q_in 718 (by decide +kernel) rfl
theorem tl_X8_229 : Cond.methodLink RX8 229 yX5_setPointNumber ∈ q_tbl := q_in 734 (by decide +kernel) rfl
theorem tl_X8_232 : Cond.methodLink RX8 232 yX0_isZeroAtPoint ∈ q_tbl := q_in 739 (by decide +kernel) rfl
theorem tl_X8_226 : Cond.methodLink RX8 226 yX5_pointsUpTo ∈ q_tbl := q_in 730 (by decide +kernel) rfl
theorem tl_X8_235 : Cond.fieldLink RX8 235 "IdealBench$Ring" "p" "I" ∈ q_tbl := q_in 117 (by decide +kernel) rfl
theorem tl_X8_238 : Cond.fieldLink RX8 238 "IdealBench$Basis" "passedCoprime" "I" ∈ q_tbl := q_in 252 (by decide +kernel) rfl
theorem tl_X8_241 : Cond.fieldLink RX8 241 "IdealBench$Basis" "passedChain" "I" ∈ q_tbl := q_in 254 (by decide +kernel) rfl
theorem tl_X8_244 : Cond.fieldLink RX8 244 "IdealBench$Basis" "leftSomething" "I" ∈ q_tbl := q_in 256 (by decide +kernel) rfl
theorem tl_X8_247 : Cond.fieldLink RX8 247 "IdealBench$Basis" "leftNothing" "I" ∈ q_tbl := q_in 258 (by decide +kernel) rfl
theorem tl_X8_250 : Cond.fieldLink RX8 250 "IdealBench$Reduce\x72" "madeInAll" "I" ∈ q_tbl := q_in 188 (by decide +kernel) rfl
theorem tl_X8_253 : Cond.fieldLink RX8 253 "IdealBench$Shelf" "held" "I" ∈ q_tbl := q_in 160 (by decide +kernel) rfl
theorem tl_X8_256 : Cond.fieldLink RX8 256 "IdealBench$Reduce\x72" "made" "I" ∈ q_tbl := q_in 186 (by decide +kernel) rfl
theorem tl_X8_265 : Cond.constantLong RX8 265 (31) ∈ q_tbl := q_in 757 (by decide +kernel) rfl
theorem tl_X8_261 : Cond.methodLink RX8 261 yX8_digestOf ∈ q_tbl := q_in 753 (by decide +kernel) rfl
theorem tl_X8_259 : Cond.constantLong RX8 259 (17) ∈ q_tbl := q_in 752 (by decide +kernel) rfl
theorem tl_X9_78 : Cond.methodLink RX9 78 yX9_in ∈ q_tbl := q_in 770 (by decide +kernel) rfl
theorem tl_X9_72 : Cond.fieldLink RX9 72 "IdealBenchModel" "p" "I" ∈ q_tbl := q_in 773 (by decide +kernel) rfl
theorem tl_X9_82 : Cond.methodLink RX9 82 yX9_lexed ∈ q_tbl := q_in 908 (by decide +kernel) rfl
theorem tl_X9_7 : Cond.fieldLink RX9 7 "IdealBenchModel" "orde\x72" "I" ∈ q_tbl := q_in 775 (by decide +kernel) rfl
theorem tl_X9_86 : Cond.methodLink RX9 86 yX9_reversed ∈ q_tbl := q_in 911 (by decide +kernel) rfl
theorem tl_X9_90 : Cond.fieldLink RX9 90 "IdealBenchModel" "row" "I" ∈ q_tbl := q_in 793 (by decide +kernel) rfl
theorem tl_X9_35 : Cond.fieldLink RX9 35 "IdealBenchModel" "rowExponents" "[I" ∈ q_tbl := q_in 795 (by decide +kernel) rfl
theorem tl_X9_38 : Cond.fieldLink RX9 38 "IdealBenchModel" "one" "[I" ∈ q_tbl := q_in 796 (by decide +kernel) rfl
theorem tl_X9_32 : Cond.fieldLink RX9 32 "IdealBenchModel" "rowNumbe\x72" "[I" ∈ q_tbl := q_in 794 (by decide +kernel) rfl
theorem tl_X9_93 : Cond.methodLink RX9 93 yX9_stand ∈ q_tbl := q_in 904 (by decide +kernel) rfl
theorem tl_X9_17 : Cond.fieldLink RX9 17 "IdealBenchModel" "numbers" "[I" ∈ q_tbl := q_in 777 (by decide +kernel) rfl
theorem tl_X9_96 : Cond.methodLink RX9 96 yX9_add ∈ q_tbl := q_in 900 (by decide +kernel) rfl
theorem tl_X9_20 : Cond.fieldLink RX9 20 "IdealBenchModel" "exponents" "[I" ∈ q_tbl := q_in 778 (by decide +kernel) rfl
theorem tl_X9_41 : Cond.fieldLink RX9 41 "IdealBenchModel" "by" "[I" ∈ q_tbl := q_in 797 (by decide +kernel) rfl
theorem tl_X9_13 : Cond.fieldLink RX9 13 "IdealBenchModel" "many" "[I" ∈ q_tbl := q_in 776 (by decide +kernel) rfl
theorem tl_X9_100 : Cond.methodLink RX9 100 yX9_fetch ∈ q_tbl := q_in 922 (by decide +kernel) rfl
theorem tl_X9_103 : Cond.methodLink RX9 103 yX9_lay ∈ q_tbl := q_in 914 (by decide +kernel) rfl
theorem tl_X9_107 : Cond.fieldLink RX9 107 "IdealBenchModel" "basis" "I" ∈ q_tbl := q_in 779 (by decide +kernel) rfl
theorem tl_X9_110 : Cond.methodLink RX9 110 yX9_clean ∈ q_tbl := q_in 930 (by decide +kernel) rfl
theorem tl_X9_116 : Cond.methodLink RX9 116 yX9_addTimes ∈ q_tbl := q_in 896 (by decide +kernel) rfl
theorem tl_X9_113 : Cond.methodLink RX9 113 yX9_byOne ∈ q_tbl := q_in 892 (by decide +kernel) rfl
theorem tl_X9_120 : Cond.methodLink RX9 120 yX9_rest ∈ q_tbl := q_in 926 (by decide +kernel) rfl
theorem tl_X9_75 : Cond.fieldLink RX9 75 "IdealBenchModel" "n" "I" ∈ q_tbl := q_in 774 (by decide +kernel) rfl
theorem tl_X9_124 : Cond.methodLink RX9 124 yX9_free ∈ q_tbl := q_in 938 (by decide +kernel) rfl
theorem tl_X9_128 : Cond.methodLink RX9 128 yX9_copy ∈ q_tbl := q_in 942 (by decide +kernel) rfl
theorem tl_X9_131 : Cond.methodLink RX9 131 yX9_placeOf ∈ q_tbl := q_in 954 (by decide +kernel) rfl
theorem tl_X9_135 : Cond.methodLink RX9 135 yX9_shelve ∈ q_tbl := q_in 970 (by decide +kernel) rfl
theorem tl_X9_44 : Cond.fieldLink RX9 44 "IdealBenchModel" "least" "[I" ∈ q_tbl := q_in 798 (by decide +kernel) rfl
theorem tl_X9_141 : Cond.methodLink RX9 141 yX9_inverse ∈ q_tbl := q_in 994 (by decide +kernel) rfl
theorem tl_X9_138 : Cond.methodLink RX9 138 yX9_leastOf ∈ q_tbl := q_in 990 (by decide +kernel) rfl
theorem tl_X9_144 : Cond.methodLink RX9 144 yX9_makeS ∈ q_tbl := q_in 986 (by decide +kernel) rfl
theorem tl_X9_47 : Cond.fieldLink RX9 47 "IdealBenchModel" "point" "[I" ∈ q_tbl := q_in 799 (by decide +kernel) rfl
theorem tl_X9_148 : Cond.methodLink RX9 148 yX9_valueAt ∈ q_tbl := q_in 1002 (by decide +kernel) rfl
theorem tl_X9_151 : Cond.fieldLink RX9 151 "IdealBenchModel" "places" "I" ∈ q_tbl := q_in 800 (by decide +kernel) rfl
theorem tl_X9_50 : Cond.fieldLink RX9 50 "IdealBenchModel" "place" "[I" ∈ q_tbl := q_in 801 (by decide +kernel) rfl
theorem tl_X9_154 : Cond.methodLink RX9 154 yX9_divides ∈ q_tbl := q_in 1058 (by decide +kernel) rfl
theorem tl_X9_158 : Cond.fieldLink RX9 158 "IdealBenchModel" "used" "I" ∈ q_tbl := q_in 802 (by decide +kernel) rfl
theorem tl_X9_29 : Cond.fieldLink RX9 29 "IdealBenchModel" "fuel" "I" ∈ q_tbl := q_in 783 (by decide +kernel) rfl
theorem tl_X9_161 : Cond.fieldLink RX9 161 "IdealBenchModel" "reductions" "I" ∈ q_tbl := q_in 791 (by decide +kernel) rfl
theorem tl_X9_164 : Cond.fieldLink RX9 164 "IdealBenchModel" "rest" "I" ∈ q_tbl := q_in 803 (by decide +kernel) rfl
theorem tl_X9_56 : Cond.fieldLink RX9 56 "IdealBenchModel" "restExponents" "[I" ∈ q_tbl := q_in 805 (by decide +kernel) rfl
theorem tl_X9_53 : Cond.fieldLink RX9 53 "IdealBenchModel" "restNumbe\x72" "[I" ∈ q_tbl := q_in 804 (by decide +kernel) rfl
theorem tl_X9_166 : Cond.methodLink RX9 166 yX9_reducer ∈ q_tbl := q_in 1073 (by decide +kernel) rfl
theorem tl_X9_172 : Cond.methodLink RX9 172 yX9_reduce ∈ q_tbl := q_in 1081 (by decide +kernel) rfl
theorem tl_X9_169 : Cond.methodLink RX9 169 yX9_goOver ∈ q_tbl := q_in 1077 (by decide +kernel) rfl
theorem tl_X9_175 : Cond.fieldLink RX9 175 "IdealBenchModel" "way" "I" ∈ q_tbl := q_in 784 (by decide +kernel) rfl
theorem tl_X9_178 : Cond.fieldLink RX9 178 "IdealBenchModel" "rules" "I" ∈ q_tbl := q_in 785 (by decide +kernel) rfl
theorem tl_X9_23 : Cond.fieldLink RX9 23 "IdealBenchModel" "pairI" "[I" ∈ q_tbl := q_in 781 (by decide +kernel) rfl
theorem tl_X9_181 : Cond.fieldLink RX9 181 "IdealBenchModel" "pairs" "I" ∈ q_tbl := q_in 780 (by decide +kernel) rfl
theorem tl_X9_26 : Cond.fieldLink RX9 26 "IdealBenchModel" "pairJ" "[I" ∈ q_tbl := q_in 782 (by decide +kernel) rfl
theorem tl_X9_184 : Cond.methodLink RX9 184 yX9_come ∈ q_tbl := q_in 1026 (by decide +kernel) rfl
theorem tl_X9_187 : Cond.fieldLink RX9 187 "IdealBenchModel" "isTidy" "Z" ∈ q_tbl := q_in 786 (by decide +kernel) rfl
theorem tl_X9_59 : Cond.fieldLink RX9 59 "IdealBenchModel" "best" "[I" ∈ q_tbl := q_in 806 (by decide +kernel) rfl
theorem tl_X9_191 : Cond.methodLink RX9 191 yX9_waits ∈ q_tbl := q_in 1061 (by decide +kernel) rfl
theorem tl_X9_200 : Cond.methodLink RX9 200 yX9_goes ∈ q_tbl := q_in 1050 (by decide +kernel) rfl
theorem tl_X9_218 : Cond.fieldLink RX9 218 "IdealBenchModel" "leftNothing" "I" ∈ q_tbl := q_in 790 (by decide +kernel) rfl
theorem tl_X9_215 : Cond.fieldLink RX9 215 "IdealBenchModel" "leftSome" "I" ∈ q_tbl := q_in 789 (by decide +kernel) rfl
theorem tl_X9_209 : Cond.methodLink RX9 209 yX9_byBasis ∈ q_tbl := q_in 1065 (by decide +kernel) rfl
theorem tl_X9_212 : Cond.methodLink RX9 212 yX9_leave ∈ q_tbl := q_in 1069 (by decide +kernel) rfl
theorem tl_X9_203 : Cond.methodLink RX9 203 yX9_isChained ∈ q_tbl := q_in 1054 (by decide +kernel) rfl
theorem tl_X9_206 : Cond.fieldLink RX9 206 "IdealBenchModel" "passedChain" "I" ∈ q_tbl := q_in 788 (by decide +kernel) rfl
theorem tl_X9_194 : Cond.methodLink RX9 194 yX9_areCoprime ∈ q_tbl := q_in 1046 (by decide +kernel) rfl
theorem tl_X9_197 : Cond.fieldLink RX9 197 "IdealBenchModel" "passedCoprime" "I" ∈ q_tbl := q_in 787 (by decide +kernel) rfl
theorem tl_X9_224 : Cond.methodLink RX9 224 yX9_nextPair ∈ q_tbl := q_in 1038 (by decide +kernel) rfl
theorem tl_X9_227 : Cond.methodLink RX9 227 yX9_workOf ∈ q_tbl := q_in 1042 (by decide +kernel) rfl
theorem tl_X9_221 : Cond.fieldLink RX9 221 "IdealBenchModel" "latest" "I" ∈ q_tbl := q_in 792 (by decide +kernel) rfl
theorem tl_X9_230 : Cond.fieldLink RX9 230 "IdealBenchModel" "tidied" "I" ∈ q_tbl := q_in 807 (by decide +kernel) rfl
theorem tl_X9_233 : Cond.methodLink RX9 233 yX9_isGone ∈ q_tbl := q_in 1093 (by decide +kernel) rfl
theorem tl_X9_239 : Cond.methodLink RX9 239 yX9_tidyOne ∈ q_tbl := q_in 1097 (by decide +kernel) rfl
theorem tl_X9_236 : Cond.methodLink RX9 236 yX9_sort ∈ q_tbl := q_in 1089 (by decide +kernel) rfl
theorem tl_X9_242 : Cond.fieldLink RX9 242 "IdealBenchModel" "stood" "I" ∈ q_tbl := q_in 808 (by decide +kernel) rfl
theorem tl_X9_62 : Cond.fieldLink RX9 62 "IdealBenchModel" "stoodExponents" "[I" ∈ q_tbl := q_in 809 (by decide +kernel) rfl
theorem tl_X9_65 : Cond.fieldLink RX9 65 "IdealBenchModel" "ends" "[I" ∈ q_tbl := q_in 810 (by decide +kernel) rfl
theorem tl_X9_251 : Cond.methodLink RX9 251 yX9_doesStand ∈ q_tbl := q_in 1129 (by decide +kernel) rfl
theorem tl_X9_255 : Cond.methodLink RX9 255 yX9_layStanding ∈ q_tbl := q_in 1133 (by decide +kernel) rfl
theorem tl_X9_248 : Cond.methodLink RX9 248 yX9_alone ∈ q_tbl := q_in 1125 (by decide +kernel) rfl
theorem tl_X9_245 : Cond.methodLink RX9 245 yX9_isOne ∈ q_tbl := q_in 1121 (by decide +kernel) rfl
theorem tl_X9_258 : Cond.methodLink RX9 258 yX9_findStanding ∈ q_tbl := q_in 1117 (by decide +kernel) rfl
theorem tl_X9_261 : Cond.constantLong RX9 261 (31) ∈ q_tbl := q_in 1162 (by decide +kernel) rfl
theorem tl_X9_265 : Cond.methodLink RX9 265 yX9_digested ∈ q_tbl := q_in 1158 (by decide +kernel) rfl
theorem tl_X9_263 : Cond.constantLong RX9 263 (17) ∈ q_tbl := q_in 1157 (by decide +kernel) rfl
theorem my_J9_floorMod_7cf53 : q_S yJ9_floorMod_7cf53 cJ9_floorMod_7cf53 3 (some .int) 2 := ⟨⟨q_in 366 (by decide +kernel) rfl, q_in 65 (by decide +kernel) rfl, by decide +kernel⟩, q_in 365 (by decide +kernel) rfl⟩
theorem my_J9_max_7cf53 : q_S yJ9_max_7cf53 cJ9_max_7cf53 2 (some .int) 2 := ⟨⟨q_in 496 (by decide +kernel) rfl, q_in 65 (by decide +kernel) rfl, by decide +kernel⟩, q_in 495 (by decide +kernel) rfl⟩
theorem my_J9_min_7cf53 : q_S yJ9_min_7cf53 cJ9_min_7cf53 2 (some .int) 2 := ⟨⟨q_in 529 (by decide +kernel) rfl, q_in 65 (by decide +kernel) rfl, by decide +kernel⟩, q_in 528 (by decide +kernel) rfl⟩
theorem my_J6_compare_7cf53 : q_S yJ6_compare_7cf53 cJ6_compare_7cf53 2 (some .int) 2 := ⟨⟨q_in 532 (by decide +kernel) rfl, q_in 68 (by decide +kernel) rfl, by decide +kernel⟩, q_in 531 (by decide +kernel) rfl⟩
theorem my_J7_fill_53178 : q_S yJ7_fill_53178 cJ7_fill_53178 4 none 2 := ⟨⟨q_in 457 (by decide +kernel) rfl, q_in 67 (by decide +kernel) rfl, by decide +kernel⟩, q_in 456 (by decide +kernel) rfl⟩
theorem my_X1_of : q_S yX1_of cX1_of 4 (some .int) 4 := ⟨⟨q_in 369 (by decide +kernel) rfl, q_in 66 (by decide +kernel) rfl, by decide +kernel⟩, q_in 368 (by decide +kernel) rfl⟩
theorem my_X1_variable : q_S yX1_variable cX1_variable 1 (some .int) 1 := ⟨⟨q_in 477 (by decide +kernel) rfl, q_in 66 (by decide +kernel) rfl, by decide +kernel⟩, q_in 476 (by decide +kernel) rfl⟩
theorem my_X1_exponentOf : q_S yX1_exponentOf cX1_exponentOf 2 (some .int) 2 := ⟨⟨q_in 438 (by decide +kernel) rfl, q_in 66 (by decide +kernel) rfl, by decide +kernel⟩, q_in 437 (by decide +kernel) rfl⟩
theorem my_X1_isGreat : q_S yX1_isGreat cX1_isGreat 1 (some .boolean) 1 := ⟨⟨q_in 379 (by decide +kernel) rfl, q_in 66 (by decide +kernel) rfl, by decide +kernel⟩, q_in 378 (by decide +kernel) rfl⟩
theorem my_X1_divides : q_S yX1_divides cX1_divides 2 (some .boolean) 2 := ⟨⟨q_in 609 (by decide +kernel) rfl, q_in 66 (by decide +kernel) rfl, by decide +kernel⟩, q_in 608 (by decide +kernel) rfl⟩
theorem my_X1_leastMultiple : q_S yX1_leastMultiple cX1_leastMultiple 4 (some .int) 2 := ⟨⟨q_in 492 (by decide +kernel) rfl, q_in 66 (by decide +kernel) rfl, by decide +kernel⟩, q_in 491 (by decide +kernel) rfl⟩
theorem my_X3_push : q_V yX3_push cX3_push 3 (some .boolean) 2 := ⟨⟨q_in 147 (by decide +kernel) rfl, q_in 58 (by decide +kernel) rfl, by decide +kernel⟩, q_in 145 (by decide +kernel) rfl, q_in 146 (by decide +kernel) rfl⟩
theorem my_X3_copyFrom : q_V yX3_copyFrom cX3_copyFrom 5 none 2 := ⟨⟨q_in 391 (by decide +kernel) rfl, q_in 58 (by decide +kernel) rfl, by decide +kernel⟩, q_in 389 (by decide +kernel) rfl, q_in 390 (by decide +kernel) rfl⟩
theorem my_X3_copyOf : q_V yX3_copyOf cX3_copyOf 2 none 1 := ⟨⟨q_in 387 (by decide +kernel) rfl, q_in 58 (by decide +kernel) rfl, by decide +kernel⟩, q_in 385 (by decide +kernel) rfl, q_in 386 (by decide +kernel) rfl⟩
theorem my_X3_dropHead : q_V yX3_dropHead cX3_dropHead 1 none 0 := ⟨⟨q_in 640 (by decide +kernel) rfl, q_in 58 (by decide +kernel) rfl, by decide +kernel⟩, q_in 638 (by decide +kernel) rfl, q_in 639 (by decide +kernel) rfl⟩
theorem my_X3_head : q_V yX3_head cX3_head 1 (some .int) 0 := ⟨⟨q_in 489 (by decide +kernel) rfl, q_in 58 (by decide +kernel) rfl, by decide +kernel⟩, q_in 487 (by decide +kernel) rfl, q_in 488 (by decide +kernel) rfl⟩
theorem my_X2_comeWith : q_V yX2_comeWith cX2_comeWith 3 none 1 := ⟨⟨q_in 566 (by decide +kernel) rfl, q_in 62 (by decide +kernel) rfl, by decide +kernel⟩, q_in 564 (by decide +kernel) rfl, q_in 565 (by decide +kernel) rfl⟩
theorem my_X2_remove : q_V yX2_remove cX2_remove 3 none 1 := ⟨⟨q_in 650 (by decide +kernel) rfl, q_in 62 (by decide +kernel) rfl, by decide +kernel⟩, q_in 648 (by decide +kernel) rfl, q_in 649 (by decide +kernel) rfl⟩
theorem my_X2_waits : q_V yX2_waits cX2_waits 6 (some .boolean) 2 := ⟨⟨q_in 613 (by decide +kernel) rfl, q_in 62 (by decide +kernel) rfl, by decide +kernel⟩, q_in 611 (by decide +kernel) rfl, q_in 612 (by decide +kernel) rfl⟩
theorem my_X5_hasVariable : q_V yX5_hasVariable cX5_hasVariable 2 (some .boolean) 1 := ⟨⟨q_in 359 (by decide +kernel) rfl, q_in 57 (by decide +kernel) rfl, by decide +kernel⟩, q_in 357 (by decide +kernel) rfl, q_in 358 (by decide +kernel) rfl⟩
theorem my_X5_mayBeExponent : q_V yX5_mayBeExponent cX5_mayBeExponent 3 (some .boolean) 2 := ⟨⟨q_in 355 (by decide +kernel) rfl, q_in 57 (by decide +kernel) rfl, by decide +kernel⟩, q_in 353 (by decide +kernel) rfl, q_in 354 (by decide +kernel) rfl⟩
theorem my_X5_restOf : q_V yX5_restOf cX5_restOf 2 (some .int) 1 := ⟨⟨q_in 363 (by decide +kernel) rfl, q_in 57 (by decide +kernel) rfl, by decide +kernel⟩, q_in 361 (by decide +kernel) rfl, q_in 362 (by decide +kernel) rfl⟩
theorem my_X5_power : q_V yX5_power cX5_power 6 (some .int) 2 := ⟨⟨q_in 505 (by decide +kernel) rfl, q_in 57 (by decide +kernel) rfl, by decide +kernel⟩, q_in 503 (by decide +kernel) rfl, q_in 504 (by decide +kernel) rfl⟩
theorem my_X5_inverse : q_V yX5_inverse cX5_inverse 2 (some .int) 1 := ⟨⟨q_in 501 (by decide +kernel) rfl, q_in 57 (by decide +kernel) rfl, by decide +kernel⟩, q_in 499 (by decide +kernel) rfl, q_in 500 (by decide +kernel) rfl⟩
theorem my_X5_rank : q_V yX5_rank cX5_rank 8 (some .int) 1 := ⟨⟨q_in 343 (by decide +kernel) rfl, q_in 57 (by decide +kernel) rfl, by decide +kernel⟩, q_in 341 (by decide +kernel) rfl, q_in 342 (by decide +kernel) rfl⟩
theorem my_X5_sortTerms : q_V yX5_sortTerms cX5_sortTerms 6 none 1 := ⟨⟨q_in 339 (by decide +kernel) rfl, q_in 57 (by decide +kernel) rfl, by decide +kernel⟩, q_in 337 (by decide +kernel) rfl, q_in 338 (by decide +kernel) rfl⟩
theorem my_X5_comparePolys : q_V yX5_comparePolys cX5_comparePolys 5 (some .int) 2 := ⟨⟨q_in 526 (by decide +kernel) rfl, q_in 57 (by decide +kernel) rfl, by decide +kernel⟩, q_in 524 (by decide +kernel) rfl, q_in 525 (by decide +kernel) rfl⟩
theorem my_X5_isMultipleGreat : q_S yX5_isMultipleGreat cX5_isMultipleGreat 3 (some .boolean) 2 := ⟨⟨q_in 376 (by decide +kernel) rfl, q_in 57 (by decide +kernel) rfl, by decide +kernel⟩, q_in 375 (by decide +kernel) rfl⟩
theorem my_X5_addMultiple : q_V yX5_addMultiple cX5_addMultiple 13 (some .int) 5 := ⟨⟨q_in 373 (by decide +kernel) rfl, q_in 57 (by decide +kernel) rfl, by decide +kernel⟩, q_in 371 (by decide +kernel) rfl, q_in 372 (by decide +kernel) rfl⟩
theorem my_X5_greatestToMeet : q_V yX5_greatestToMeet cX5_greatestToMeet 6 (some .int) 2 := ⟨⟨q_in 461 (by decide +kernel) rfl, q_in 57 (by decide +kernel) rfl, by decide +kernel⟩, q_in 460 (by decide +kernel) rfl, q_in 2 (by decide +kernel) rfl⟩
theorem my_X5_takeProducts : q_V yX5_takeProducts cX5_takeProducts 7 (some .int) 3 := ⟨⟨q_in 465 (by decide +kernel) rfl, q_in 57 (by decide +kernel) rfl, by decide +kernel⟩, q_in 464 (by decide +kernel) rfl, q_in 3 (by decide +kernel) rfl⟩
theorem my_X5_multiply : q_V yX5_multiply cX5_multiply 7 (some .int) 3 := ⟨⟨q_in 454 (by decide +kernel) rfl, q_in 57 (by decide +kernel) rfl, by decide +kernel⟩, q_in 452 (by decide +kernel) rfl, q_in 453 (by decide +kernel) rfl⟩
theorem my_X5_derive : q_V yX5_derive cX5_derive 7 (some .int) 3 := ⟨⟨q_in 473 (by decide +kernel) rfl, q_in 57 (by decide +kernel) rfl, by decide +kernel⟩, q_in 471 (by decide +kernel) rfl, q_in 472 (by decide +kernel) rfl⟩
theorem my_X5_makeS : q_V yX5_makeS cX5_makeS 6 (some .int) 3 := ⟨⟨q_in 485 (by decide +kernel) rfl, q_in 57 (by decide +kernel) rfl, by decide +kernel⟩, q_in 483 (by decide +kernel) rfl, q_in 484 (by decide +kernel) rfl⟩
theorem my_X5_makeMonic : q_V yX5_makeMonic cX5_makeMonic 4 none 1 := ⟨⟨q_in 562 (by decide +kernel) rfl, q_in 57 (by decide +kernel) rfl, by decide +kernel⟩, q_in 560 (by decide +kernel) rfl, q_in 561 (by decide +kernel) rfl⟩
theorem my_X5_setPoint : q_V yX5_setPoint cX5_setPoint 3 none 2 := ⟨⟨q_in 514 (by decide +kernel) rfl, q_in 57 (by decide +kernel) rfl, by decide +kernel⟩, q_in 512 (by decide +kernel) rfl, q_in 513 (by decide +kernel) rfl⟩
theorem my_X5_setPointNumber : q_V yX5_setPointNumber cX5_setPointNumber 4 none 1 := ⟨⟨q_in 737 (by decide +kernel) rfl, q_in 57 (by decide +kernel) rfl, by decide +kernel⟩, q_in 735 (by decide +kernel) rfl, q_in 736 (by decide +kernel) rfl⟩
theorem my_X5_pointsUpTo : q_V yX5_pointsUpTo cX5_pointsUpTo 4 (some .int) 1 := ⟨⟨q_in 733 (by decide +kernel) rfl, q_in 57 (by decide +kernel) rfl, by decide +kernel⟩, q_in 731 (by decide +kernel) rfl, q_in 732 (by decide +kernel) rfl⟩
theorem my_X5_valueAtPoint : q_V yX5_valueAtPoint cX5_valueAtPoint 6 (some .int) 1 := ⟨⟨q_in 518 (by decide +kernel) rfl, q_in 57 (by decide +kernel) rfl, by decide +kernel⟩, q_in 516 (by decide +kernel) rfl, q_in 517 (by decide +kernel) rfl⟩
theorem my_X6_at : q_V yX6_at cX6_at 2 (some (.object "IdealBench$Poly")) 1 := ⟨⟨q_in 347 (by decide +kernel) rfl, q_in 59 (by decide +kernel) rfl, by decide +kernel⟩, q_in 345 (by decide +kernel) rfl, q_in 346 (by decide +kernel) rfl⟩
theorem my_X6_isFull : q_V yX6_isFull cX6_isFull 1 (some .boolean) 0 := ⟨⟨q_in 400 (by decide +kernel) rfl, q_in 59 (by decide +kernel) rfl, by decide +kernel⟩, q_in 398 (by decide +kernel) rfl, q_in 399 (by decide +kernel) rfl⟩
theorem my_X6_put : q_V yX6_put cX6_put 3 (some .int) 1 := ⟨⟨q_in 404 (by decide +kernel) rfl, q_in 59 (by decide +kernel) rfl, by decide +kernel⟩, q_in 402 (by decide +kernel) rfl, q_in 403 (by decide +kernel) rfl⟩
theorem my_X6_free : q_V yX6_free cX6_free 2 none 1 := ⟨⟨q_in 413 (by decide +kernel) rfl, q_in 59 (by decide +kernel) rfl, by decide +kernel⟩, q_in 411 (by decide +kernel) rfl, q_in 412 (by decide +kernel) rfl⟩
theorem my_X4_begin : q_V yX4_begin cX4_begin 1 none 0 := ⟨⟨q_in 582 (by decide +kernel) rfl, q_in 60 (by decide +kernel) rfl, by decide +kernel⟩, q_in 580 (by decide +kernel) rfl, q_in 581 (by decide +kernel) rfl⟩
theorem my_X4_firstDividing : q_V yX4_firstDividing cX4_firstDividing 5 (some .int) 3 := ⟨⟨q_in 629 (by decide +kernel) rfl, q_in 60 (by decide +kernel) rfl, by decide +kernel⟩, q_in 628 (by decide +kernel) rfl, q_in 9 (by decide +kernel) rfl⟩
theorem my_X4_moveHead : q_V yX4_moveHead cX4_moveHead 1 (some .int) 0 := ⟨⟨q_in 635 (by decide +kernel) rfl, q_in 60 (by decide +kernel) rfl, by decide +kernel⟩, q_in 634 (by decide +kernel) rfl, q_in 10 (by decide +kernel) rfl⟩
theorem my_X4_lessenBy : q_V yX4_lessenBy cX4_lessenBy 4 (some .int) 1 := ⟨⟨q_in 644 (by decide +kernel) rfl, q_in 60 (by decide +kernel) rfl, by decide +kernel⟩, q_in 643 (by decide +kernel) rfl, q_in 11 (by decide +kernel) rfl⟩
theorem my_X4_leave : q_V yX4_leave cX4_leave 8 (some .int) 4 := ⟨⟨q_in 624 (by decide +kernel) rfl, q_in 60 (by decide +kernel) rfl, by decide +kernel⟩, q_in 622 (by decide +kernel) rfl, q_in 623 (by decide +kernel) rfl⟩
theorem my_X0_at : q_V yX0_at cX0_at 2 (some (.object "IdealBench$Poly")) 1 := ⟨⟨q_in 426 (by decide +kernel) rfl, q_in 61 (by decide +kernel) rfl, by decide +kernel⟩, q_in 424 (by decide +kernel) rfl, q_in 425 (by decide +kernel) rfl⟩
theorem my_X0_isFull : q_V yX0_isFull cX0_isFull 1 (some .boolean) 0 := ⟨⟨q_in 552 (by decide +kernel) rfl, q_in 61 (by decide +kernel) rfl, by decide +kernel⟩, q_in 550 (by decide +kernel) rfl, q_in 551 (by decide +kernel) rfl⟩
theorem my_X0_empty : q_V yX0_empty cX0_empty 2 (some .int) 0 := ⟨⟨q_in 574 (by decide +kernel) rfl, q_in 61 (by decide +kernel) rfl, by decide +kernel⟩, q_in 572 (by decide +kernel) rfl, q_in 573 (by decide +kernel) rfl⟩
theorem my_X0_take : q_V yX0_take cX0_take 3 (some .int) 1 := ⟨⟨q_in 556 (by decide +kernel) rfl, q_in 61 (by decide +kernel) rfl, by decide +kernel⟩, q_in 554 (by decide +kernel) rfl, q_in 555 (by decide +kernel) rfl⟩
theorem my_X0_multipleOf : q_V yX0_multipleOf cX0_multipleOf 2 (some .int) 1 := ⟨⟨q_in 595 (by decide +kernel) rfl, q_in 61 (by decide +kernel) rfl, by decide +kernel⟩, q_in 594 (by decide +kernel) rfl, q_in 5 (by decide +kernel) rfl⟩
theorem my_X0_nextPair : q_V yX0_nextPair cX0_nextPair 3 (some .int) 0 := ⟨⟨q_in 591 (by decide +kernel) rfl, q_in 61 (by decide +kernel) rfl, by decide +kernel⟩, q_in 590 (by decide +kernel) rfl, q_in 4 (by decide +kernel) rfl⟩
theorem my_X0_isCoprime : q_V yX0_isCoprime cX0_isCoprime 2 (some .boolean) 1 := ⟨⟨q_in 602 (by decide +kernel) rfl, q_in 61 (by decide +kernel) rfl, by decide +kernel⟩, q_in 601 (by decide +kernel) rfl, q_in 6 (by decide +kernel) rfl⟩
theorem my_X0_isChained : q_V yX0_isChained cX0_isChained 6 (some .boolean) 1 := ⟨⟨q_in 606 (by decide +kernel) rfl, q_in 61 (by decide +kernel) rfl, by decide +kernel⟩, q_in 605 (by decide +kernel) rfl, q_in 7 (by decide +kernel) rfl⟩
theorem my_X0_reduceS : q_V yX0_reduceS cX0_reduceS 3 (some .int) 1 := ⟨⟨q_in 619 (by decide +kernel) rfl, q_in 61 (by decide +kernel) rfl, by decide +kernel⟩, q_in 618 (by decide +kernel) rfl, q_in 8 (by decide +kernel) rfl⟩
theorem my_X0_workNext : q_V yX0_workNext cX0_workNext 3 (some .int) 0 := ⟨⟨q_in 586 (by decide +kernel) rfl, q_in 61 (by decide +kernel) rfl, by decide +kernel⟩, q_in 584 (by decide +kernel) rfl, q_in 585 (by decide +kernel) rfl⟩
theorem my_X0_isNeedless : q_V yX0_isNeedless cX0_isNeedless 5 (some .boolean) 1 := ⟨⟨q_in 666 (by decide +kernel) rfl, q_in 61 (by decide +kernel) rfl, by decide +kernel⟩, q_in 665 (by decide +kernel) rfl, q_in 13 (by decide +kernel) rfl⟩
theorem my_X0_sortThoseThatStay : q_V yX0_sortThoseThatStay cX0_sortThoseThatStay 4 (some .int) 0 := ⟨⟨q_in 662 (by decide +kernel) rfl, q_in 61 (by decide +kernel) rfl, by decide +kernel⟩, q_in 661 (by decide +kernel) rfl, q_in 12 (by decide +kernel) rfl⟩
theorem my_X0_reduceTail : q_V yX0_reduceTail cX0_reduceTail 6 (some .int) 2 := ⟨⟨q_in 670 (by decide +kernel) rfl, q_in 61 (by decide +kernel) rfl, by decide +kernel⟩, q_in 669 (by decide +kernel) rfl, q_in 14 (by decide +kernel) rfl⟩
theorem my_X0_makeTidy : q_V yX0_makeTidy cX0_makeTidy 4 (some .int) 0 := ⟨⟨q_in 658 (by decide +kernel) rfl, q_in 61 (by decide +kernel) rfl, by decide +kernel⟩, q_in 656 (by decide +kernel) rfl, q_in 657 (by decide +kernel) rfl⟩
theorem my_X0_hasOneOfFirst : q_S yX0_hasOneOfFirst cX0_hasOneOfFirst 4 (some .boolean) 2 := ⟨⟨q_in 724 (by decide +kernel) rfl, q_in 61 (by decide +kernel) rfl, by decide +kernel⟩, q_in 723 (by decide +kernel) rfl⟩
theorem my_X0_countWithoutFirst : q_V yX0_countWithoutFirst cX0_countWithoutFirst 4 (some .int) 1 := ⟨⟨q_in 721 (by decide +kernel) rfl, q_in 61 (by decide +kernel) rfl, by decide +kernel⟩, q_in 719 (by decide +kernel) rfl, q_in 720 (by decide +kernel) rfl⟩
theorem my_X0_isZeroAtPoint : q_V yX0_isZeroAtPoint cX0_isZeroAtPoint 2 (some .boolean) 0 := ⟨⟨q_in 742 (by decide +kernel) rfl, q_in 61 (by decide +kernel) rfl, by decide +kernel⟩, q_in 740 (by decide +kernel) rfl, q_in 741 (by decide +kernel) rfl⟩
theorem my_X0_hasHeadDividing : q_V yX0_hasHeadDividing cX0_hasHeadDividing 3 (some .boolean) 1 := ⟨⟨q_in 697 (by decide +kernel) rfl, q_in 61 (by decide +kernel) rfl, by decide +kernel⟩, q_in 695 (by decide +kernel) rfl, q_in 696 (by decide +kernel) rfl⟩
theorem my_X7_insert : q_V yX7_insert cX7_insert 5 none 2 := ⟨⟨q_in 702 (by decide +kernel) rfl, q_in 63 (by decide +kernel) rfl, by decide +kernel⟩, q_in 701 (by decide +kernel) rfl, q_in 15 (by decide +kernel) rfl⟩
theorem my_X7_nextBehind : q_V yX7_nextBehind cX7_nextBehind 4 (some .int) 1 := ⟨⟨q_in 707 (by decide +kernel) rfl, q_in 63 (by decide +kernel) rfl, by decide +kernel⟩, q_in 706 (by decide +kernel) rfl, q_in 16 (by decide +kernel) rfl⟩
theorem my_X7_find : q_V yX7_find cX7_find 3 (some .int) 0 := ⟨⟨q_in 693 (by decide +kernel) rfl, q_in 63 (by decide +kernel) rfl, by decide +kernel⟩, q_in 691 (by decide +kernel) rfl, q_in 692 (by decide +kernel) rfl⟩
theorem my_X8_isPrimeInRange : q_S yX8_isPrimeInRange cX8_isPrimeInRange 2 (some .boolean) 1 := ⟨⟨q_in 81 (by decide +kernel) rfl, q_in 56 (by decide +kernel) rfl, by decide +kernel⟩, q_in 80 (by decide +kernel) rfl⟩
theorem my_X8_order : q_V yX8_order cX8_order 5 (some .int) 1 := ⟨⟨q_in 335 (by decide +kernel) rfl, q_in 56 (by decide +kernel) rfl, by decide +kernel⟩, q_in 333 (by decide +kernel) rfl, q_in 334 (by decide +kernel) rfl⟩
theorem my_X8_term : q_V yX8_term cX8_term 7 (some .int) 5 := ⟨⟨q_in 351 (by decide +kernel) rfl, q_in 56 (by decide +kernel) rfl, by decide +kernel⟩, q_in 349 (by decide +kernel) rfl, q_in 350 (by decide +kernel) rfl⟩
theorem my_X8_keep : q_V yX8_keep cX8_keep 2 (some .int) 0 := ⟨⟨q_in 396 (by decide +kernel) rfl, q_in 56 (by decide +kernel) rfl, by decide +kernel⟩, q_in 394 (by decide +kernel) rfl, q_in 395 (by decide +kernel) rfl⟩
theorem my_X8_drop : q_V yX8_drop cX8_drop 3 (some .int) 1 := ⟨⟨q_in 409 (by decide +kernel) rfl, q_in 56 (by decide +kernel) rfl, by decide +kernel⟩, q_in 407 (by decide +kernel) rfl, q_in 408 (by decide +kernel) rfl⟩
theorem my_X8_polyAt : q_V yX8_polyAt cX8_polyAt 2 (some (.object "IdealBench$Poly")) 1 := ⟨⟨q_in 422 (by decide +kernel) rfl, q_in 56 (by decide +kernel) rfl, by decide +kernel⟩, q_in 421 (by decide +kernel) rfl, q_in 0 (by decide +kernel) rfl⟩
theorem my_X8_terms : q_V yX8_terms cX8_terms 3 (some .int) 1 := ⟨⟨q_in 418 (by decide +kernel) rfl, q_in 56 (by decide +kernel) rfl, by decide +kernel⟩, q_in 416 (by decide +kernel) rfl, q_in 417 (by decide +kernel) rfl⟩
theorem my_X8_number : q_V yX8_number cX8_number 4 (some .int) 2 := ⟨⟨q_in 430 (by decide +kernel) rfl, q_in 56 (by decide +kernel) rfl, by decide +kernel⟩, q_in 428 (by decide +kernel) rfl, q_in 429 (by decide +kernel) rfl⟩
theorem my_X8_exponent : q_V yX8_exponent cX8_exponent 5 (some .int) 3 := ⟨⟨q_in 434 (by decide +kernel) rfl, q_in 56 (by decide +kernel) rfl, by decide +kernel⟩, q_in 432 (by decide +kernel) rfl, q_in 433 (by decide +kernel) rfl⟩
theorem my_X8_putResult : q_V yX8_putResult cX8_putResult 2 (some .int) 1 := ⟨⟨q_in 446 (by decide +kernel) rfl, q_in 56 (by decide +kernel) rfl, by decide +kernel⟩, q_in 445 (by decide +kernel) rfl, q_in 1 (by decide +kernel) rfl⟩
theorem my_X8_sum : q_V yX8_sum cX8_sum 6 (some .int) 3 := ⟨⟨q_in 442 (by decide +kernel) rfl, q_in 56 (by decide +kernel) rfl, by decide +kernel⟩, q_in 440 (by decide +kernel) rfl, q_in 441 (by decide +kernel) rfl⟩
theorem my_X8_product : q_V yX8_product cX8_product 5 (some .int) 2 := ⟨⟨q_in 450 (by decide +kernel) rfl, q_in 56 (by decide +kernel) rfl, by decide +kernel⟩, q_in 448 (by decide +kernel) rfl, q_in 449 (by decide +kernel) rfl⟩
theorem my_X8_derived : q_V yX8_derived cX8_derived 4 (some .int) 2 := ⟨⟨q_in 469 (by decide +kernel) rfl, q_in 56 (by decide +kernel) rfl, by decide +kernel⟩, q_in 467 (by decide +kernel) rfl, q_in 468 (by decide +kernel) rfl⟩
theorem my_X8_spair : q_V yX8_spair cX8_spair 5 (some .int) 2 := ⟨⟨q_in 481 (by decide +kernel) rfl, q_in 56 (by decide +kernel) rfl, by decide +kernel⟩, q_in 479 (by decide +kernel) rfl, q_in 480 (by decide +kernel) rfl⟩
theorem my_X8_value : q_V yX8_value cX8_value 7 (some .int) 5 := ⟨⟨q_in 510 (by decide +kernel) rfl, q_in 56 (by decide +kernel) rfl, by decide +kernel⟩, q_in 508 (by decide +kernel) rfl, q_in 509 (by decide +kernel) rfl⟩
theorem my_X8_compare : q_V yX8_compare cX8_compare 5 (some .int) 2 := ⟨⟨q_in 522 (by decide +kernel) rfl, q_in 56 (by decide +kernel) rfl, by decide +kernel⟩, q_in 520 (by decide +kernel) rfl, q_in 521 (by decide +kernel) rfl⟩
theorem my_X8_fuel : q_V yX8_fuel cX8_fuel 3 (some .int) 1 := ⟨⟨q_in 536 (by decide +kernel) rfl, q_in 56 (by decide +kernel) rfl, by decide +kernel⟩, q_in 534 (by decide +kernel) rfl, q_in 535 (by decide +kernel) rfl⟩
theorem my_X8_way : q_V yX8_way cX8_way 3 (some .int) 1 := ⟨⟨q_in 540 (by decide +kernel) rfl, q_in 56 (by decide +kernel) rfl, by decide +kernel⟩, q_in 538 (by decide +kernel) rfl, q_in 539 (by decide +kernel) rfl⟩
theorem my_X8_rules : q_V yX8_rules cX8_rules 3 (some .int) 1 := ⟨⟨q_in 544 (by decide +kernel) rfl, q_in 56 (by decide +kernel) rfl, by decide +kernel⟩, q_in 542 (by decide +kernel) rfl, q_in 543 (by decide +kernel) rfl⟩
theorem my_X8_enter : q_V yX8_enter cX8_enter 3 (some .int) 1 := ⟨⟨q_in 548 (by decide +kernel) rfl, q_in 56 (by decide +kernel) rfl, by decide +kernel⟩, q_in 546 (by decide +kernel) rfl, q_in 547 (by decide +kernel) rfl⟩
theorem my_X8_clear : q_V yX8_clear cX8_clear 1 (some .int) 0 := ⟨⟨q_in 570 (by decide +kernel) rfl, q_in 56 (by decide +kernel) rfl, by decide +kernel⟩, q_in 568 (by decide +kernel) rfl, q_in 569 (by decide +kernel) rfl⟩
theorem my_X8_work : q_V yX8_work cX8_work 4 (some .int) 1 := ⟨⟨q_in 578 (by decide +kernel) rfl, q_in 56 (by decide +kernel) rfl, by decide +kernel⟩, q_in 576 (by decide +kernel) rfl, q_in 577 (by decide +kernel) rfl⟩
theorem my_X8_tidy : q_V yX8_tidy cX8_tidy 1 (some .int) 0 := ⟨⟨q_in 654 (by decide +kernel) rfl, q_in 56 (by decide +kernel) rfl, by decide +kernel⟩, q_in 652 (by decide +kernel) rfl, q_in 653 (by decide +kernel) rfl⟩
theorem my_X8_left : q_V yX8_left cX8_left 4 (some .int) 1 := ⟨⟨q_in 676 (by decide +kernel) rfl, q_in 56 (by decide +kernel) rfl, by decide +kernel⟩, q_in 674 (by decide +kernel) rfl, q_in 675 (by decide +kernel) rfl⟩
theorem my_X8_member : q_V yX8_member cX8_member 4 (some .int) 1 := ⟨⟨q_in 681 (by decide +kernel) rfl, q_in 56 (by decide +kernel) rfl, by decide +kernel⟩, q_in 679 (by decide +kernel) rfl, q_in 680 (by decide +kernel) rfl⟩
theorem my_X8_pair : q_V yX8_pair cX8_pair 3 (some .int) 1 := ⟨⟨q_in 685 (by decide +kernel) rfl, q_in 56 (by decide +kernel) rfl, by decide +kernel⟩, q_in 683 (by decide +kernel) rfl, q_in 684 (by decide +kernel) rfl⟩
theorem my_X8_standing : q_V yX8_standing cX8_standing 1 (some .int) 0 := ⟨⟨q_in 689 (by decide +kernel) rfl, q_in 56 (by decide +kernel) rfl, by decide +kernel⟩, q_in 687 (by decide +kernel) rfl, q_in 688 (by decide +kernel) rfl⟩
theorem my_X8_stands : q_V yX8_stands cX8_stands 4 (some .int) 2 := ⟨⟨q_in 713 (by decide +kernel) rfl, q_in 56 (by decide +kernel) rfl, by decide +kernel⟩, q_in 711 (by decide +kernel) rfl, q_in 712 (by decide +kernel) rfl⟩
theorem my_X8_without : q_V yX8_without cX8_without 2 (some .int) 1 := ⟨⟨q_in 717 (by decide +kernel) rfl, q_in 56 (by decide +kernel) rfl, by decide +kernel⟩, q_in 715 (by decide +kernel) rfl, q_in 716 (by decide +kernel) rfl⟩
theorem my_X8_zeros : q_V yX8_zeros cX8_zeros 4 (some .int) 0 := ⟨⟨q_in 729 (by decide +kernel) rfl, q_in 56 (by decide +kernel) rfl, by decide +kernel⟩, q_in 727 (by decide +kernel) rfl, q_in 728 (by decide +kernel) rfl⟩
theorem my_X8_count : q_V yX8_count cX8_count 2 (some .int) 1 := ⟨⟨q_in 747 (by decide +kernel) rfl, q_in 56 (by decide +kernel) rfl, by decide +kernel⟩, q_in 745 (by decide +kernel) rfl, q_in 746 (by decide +kernel) rfl⟩
theorem my_X8_digestOf : q_V yX8_digestOf cX8_digestOf 8 (some .long) 2 := ⟨⟨q_in 756 (by decide +kernel) rfl, q_in 56 (by decide +kernel) rfl, by decide +kernel⟩, q_in 755 (by decide +kernel) rfl, q_in 17 (by decide +kernel) rfl⟩
theorem my_X8_digest : q_V yX8_digest cX8_digest 5 (some .long) 0 := ⟨⟨q_in 751 (by decide +kernel) rfl, q_in 56 (by decide +kernel) rfl, by decide +kernel⟩, q_in 749 (by decide +kernel) rfl, q_in 750 (by decide +kernel) rfl⟩
theorem my_X9_in : q_S yX9_in cX9_in 3 (some .boolean) 3 := ⟨⟨q_in 772 (by decide +kernel) rfl, q_in 64 (by decide +kernel) rfl, by decide +kernel⟩, q_in 771 (by decide +kernel) rfl⟩
theorem my_X9_isPrime : q_S yX9_isPrime cX9_isPrime 2 (some .boolean) 1 := ⟨⟨q_in 769 (by decide +kernel) rfl, q_in 64 (by decide +kernel) rfl, by decide +kernel⟩, q_in 768 (by decide +kernel) rfl⟩
theorem my_X9_rest : q_V yX9_rest cX9_rest 4 (some .int) 1 := ⟨⟨q_in 929 (by decide +kernel) rfl, q_in 64 (by decide +kernel) rfl, by decide +kernel⟩, q_in 928 (by decide +kernel) rfl, q_in 24 (by decide +kernel) rfl⟩
theorem my_X9_inverse : q_V yX9_inverse cX9_inverse 3 (some .int) 1 := ⟨⟨q_in 997 (by decide +kernel) rfl, q_in 64 (by decide +kernel) rfl, by decide +kernel⟩, q_in 996 (by decide +kernel) rfl, q_in 32 (by decide +kernel) rfl⟩
theorem my_X9_reversed : q_S yX9_reversed cX9_reversed 8 (some .int) 6 := ⟨⟨q_in 913 (by decide +kernel) rfl, q_in 64 (by decide +kernel) rfl, by decide +kernel⟩, q_in 912 (by decide +kernel) rfl⟩
theorem my_X9_lexed : q_S yX9_lexed cX9_lexed 5 (some .int) 4 := ⟨⟨q_in 910 (by decide +kernel) rfl, q_in 64 (by decide +kernel) rfl, by decide +kernel⟩, q_in 909 (by decide +kernel) rfl⟩
theorem my_X9_stand : q_V yX9_stand cX9_stand 7 (some .int) 4 := ⟨⟨q_in 907 (by decide +kernel) rfl, q_in 64 (by decide +kernel) rfl, by decide +kernel⟩, q_in 906 (by decide +kernel) rfl, q_in 21 (by decide +kernel) rfl⟩
theorem my_X9_divides : q_S yX9_divides cX9_divides 6 (some .boolean) 4 := ⟨⟨q_in 1060 (by decide +kernel) rfl, q_in 64 (by decide +kernel) rfl, by decide +kernel⟩, q_in 1059 (by decide +kernel) rfl⟩
theorem my_X9_add : q_V yX9_add cX9_add 6 none 1 := ⟨⟨q_in 903 (by decide +kernel) rfl, q_in 64 (by decide +kernel) rfl, by decide +kernel⟩, q_in 902 (by decide +kernel) rfl, q_in 20 (by decide +kernel) rfl⟩
theorem my_X9_addTimes : q_V yX9_addTimes cX9_addTimes 5 (some .boolean) 2 := ⟨⟨q_in 899 (by decide +kernel) rfl, q_in 64 (by decide +kernel) rfl, by decide +kernel⟩, q_in 898 (by decide +kernel) rfl, q_in 19 (by decide +kernel) rfl⟩
theorem my_X9_byOne : q_V yX9_byOne cX9_byOne 2 none 0 := ⟨⟨q_in 895 (by decide +kernel) rfl, q_in 64 (by decide +kernel) rfl, by decide +kernel⟩, q_in 894 (by decide +kernel) rfl, q_in 18 (by decide +kernel) rfl⟩
theorem my_X9_clean : q_V yX9_clean cX9_clean 4 none 0 := ⟨⟨q_in 933 (by decide +kernel) rfl, q_in 64 (by decide +kernel) rfl, by decide +kernel⟩, q_in 932 (by decide +kernel) rfl, q_in 25 (by decide +kernel) rfl⟩
theorem my_X9_lay : q_V yX9_lay cX9_lay 5 none 2 := ⟨⟨q_in 917 (by decide +kernel) rfl, q_in 64 (by decide +kernel) rfl, by decide +kernel⟩, q_in 916 (by decide +kernel) rfl, q_in 22 (by decide +kernel) rfl⟩
theorem my_X9_fetch : q_V yX9_fetch cX9_fetch 4 none 1 := ⟨⟨q_in 925 (by decide +kernel) rfl, q_in 64 (by decide +kernel) rfl, by decide +kernel⟩, q_in 924 (by decide +kernel) rfl, q_in 23 (by decide +kernel) rfl⟩
theorem my_X9_copy : q_V yX9_copy cX9_copy 3 none 2 := ⟨⟨q_in 945 (by decide +kernel) rfl, q_in 64 (by decide +kernel) rfl, by decide +kernel⟩, q_in 944 (by decide +kernel) rfl, q_in 27 (by decide +kernel) rfl⟩
theorem my_X9_placeOf : q_V yX9_placeOf cX9_placeOf 2 (some .int) 1 := ⟨⟨q_in 957 (by decide +kernel) rfl, q_in 64 (by decide +kernel) rfl, by decide +kernel⟩, q_in 956 (by decide +kernel) rfl, q_in 28 (by decide +kernel) rfl⟩
theorem my_X9_free : q_V yX9_free cX9_free 2 (some .int) 0 := ⟨⟨q_in 941 (by decide +kernel) rfl, q_in 64 (by decide +kernel) rfl, by decide +kernel⟩, q_in 940 (by decide +kernel) rfl, q_in 26 (by decide +kernel) rfl⟩
theorem my_X9_shelve : q_V yX9_shelve cX9_shelve 2 (some .int) 1 := ⟨⟨q_in 973 (by decide +kernel) rfl, q_in 64 (by decide +kernel) rfl, by decide +kernel⟩, q_in 972 (by decide +kernel) rfl, q_in 29 (by decide +kernel) rfl⟩
theorem my_X9_order : q_V yX9_order cX9_order 5 (some .int) 1 := ⟨⟨q_in 891 (by decide +kernel) rfl, q_in 64 (by decide +kernel) rfl, by decide +kernel⟩, q_in 889 (by decide +kernel) rfl, q_in 890 (by decide +kernel) rfl⟩
theorem my_X9_term : q_V yX9_term cX9_term 7 (some .int) 5 := ⟨⟨q_in 921 (by decide +kernel) rfl, q_in 64 (by decide +kernel) rfl, by decide +kernel⟩, q_in 919 (by decide +kernel) rfl, q_in 920 (by decide +kernel) rfl⟩
theorem my_X9_keep : q_V yX9_keep cX9_keep 2 (some .int) 0 := ⟨⟨q_in 937 (by decide +kernel) rfl, q_in 64 (by decide +kernel) rfl, by decide +kernel⟩, q_in 935 (by decide +kernel) rfl, q_in 936 (by decide +kernel) rfl⟩
theorem my_X9_drop : q_V yX9_drop cX9_drop 3 (some .int) 1 := ⟨⟨q_in 949 (by decide +kernel) rfl, q_in 64 (by decide +kernel) rfl, by decide +kernel⟩, q_in 947 (by decide +kernel) rfl, q_in 948 (by decide +kernel) rfl⟩
theorem my_X9_terms : q_V yX9_terms cX9_terms 3 (some .int) 1 := ⟨⟨q_in 953 (by decide +kernel) rfl, q_in 64 (by decide +kernel) rfl, by decide +kernel⟩, q_in 951 (by decide +kernel) rfl, q_in 952 (by decide +kernel) rfl⟩
theorem my_X9_number : q_V yX9_number cX9_number 4 (some .int) 2 := ⟨⟨q_in 961 (by decide +kernel) rfl, q_in 64 (by decide +kernel) rfl, by decide +kernel⟩, q_in 959 (by decide +kernel) rfl, q_in 960 (by decide +kernel) rfl⟩
theorem my_X9_exponent : q_V yX9_exponent cX9_exponent 5 (some .int) 3 := ⟨⟨q_in 965 (by decide +kernel) rfl, q_in 64 (by decide +kernel) rfl, by decide +kernel⟩, q_in 963 (by decide +kernel) rfl, q_in 964 (by decide +kernel) rfl⟩
theorem my_X9_sum : q_V yX9_sum cX9_sum 8 (some .int) 3 := ⟨⟨q_in 969 (by decide +kernel) rfl, q_in 64 (by decide +kernel) rfl, by decide +kernel⟩, q_in 967 (by decide +kernel) rfl, q_in 968 (by decide +kernel) rfl⟩
theorem my_X9_product : q_V yX9_product cX9_product 8 (some .int) 2 := ⟨⟨q_in 977 (by decide +kernel) rfl, q_in 64 (by decide +kernel) rfl, by decide +kernel⟩, q_in 975 (by decide +kernel) rfl, q_in 976 (by decide +kernel) rfl⟩
theorem my_X9_derived : q_V yX9_derived cX9_derived 9 (some .int) 2 := ⟨⟨q_in 981 (by decide +kernel) rfl, q_in 64 (by decide +kernel) rfl, by decide +kernel⟩, q_in 979 (by decide +kernel) rfl, q_in 980 (by decide +kernel) rfl⟩
theorem my_X9_leastOf : q_V yX9_leastOf cX9_leastOf 6 none 2 := ⟨⟨q_in 993 (by decide +kernel) rfl, q_in 64 (by decide +kernel) rfl, by decide +kernel⟩, q_in 992 (by decide +kernel) rfl, q_in 31 (by decide +kernel) rfl⟩
theorem my_X9_makeS : q_V yX9_makeS cX9_makeS 6 (some .int) 2 := ⟨⟨q_in 989 (by decide +kernel) rfl, q_in 64 (by decide +kernel) rfl, by decide +kernel⟩, q_in 988 (by decide +kernel) rfl, q_in 30 (by decide +kernel) rfl⟩
theorem my_X9_spair : q_V yX9_spair cX9_spair 7 (some .int) 2 := ⟨⟨q_in 985 (by decide +kernel) rfl, q_in 64 (by decide +kernel) rfl, by decide +kernel⟩, q_in 983 (by decide +kernel) rfl, q_in 984 (by decide +kernel) rfl⟩
theorem my_X9_valueAt : q_V yX9_valueAt cX9_valueAt 7 (some .int) 1 := ⟨⟨q_in 1005 (by decide +kernel) rfl, q_in 64 (by decide +kernel) rfl, by decide +kernel⟩, q_in 1004 (by decide +kernel) rfl, q_in 33 (by decide +kernel) rfl⟩
theorem my_X9_value : q_V yX9_value cX9_value 7 (some .int) 5 := ⟨⟨q_in 1001 (by decide +kernel) rfl, q_in 64 (by decide +kernel) rfl, by decide +kernel⟩, q_in 999 (by decide +kernel) rfl, q_in 1000 (by decide +kernel) rfl⟩
theorem my_X9_compare : q_V yX9_compare cX9_compare 9 (some .int) 2 := ⟨⟨q_in 1009 (by decide +kernel) rfl, q_in 64 (by decide +kernel) rfl, by decide +kernel⟩, q_in 1007 (by decide +kernel) rfl, q_in 1008 (by decide +kernel) rfl⟩
theorem my_X9_reducer : q_V yX9_reducer cX9_reducer 2 (some .int) 0 := ⟨⟨q_in 1076 (by decide +kernel) rfl, q_in 64 (by decide +kernel) rfl, by decide +kernel⟩, q_in 1075 (by decide +kernel) rfl, q_in 43 (by decide +kernel) rfl⟩
theorem my_X9_reduce : q_V yX9_reduce cX9_reduce 3 (some .int) 1 := ⟨⟨q_in 1084 (by decide +kernel) rfl, q_in 64 (by decide +kernel) rfl, by decide +kernel⟩, q_in 1083 (by decide +kernel) rfl, q_in 45 (by decide +kernel) rfl⟩
theorem my_X9_goOver : q_V yX9_goOver cX9_goOver 3 (some .int) 0 := ⟨⟨q_in 1080 (by decide +kernel) rfl, q_in 64 (by decide +kernel) rfl, by decide +kernel⟩, q_in 1079 (by decide +kernel) rfl, q_in 44 (by decide +kernel) rfl⟩
theorem my_X9_leave : q_V yX9_leave cX9_leave 3 (some .int) 0 := ⟨⟨q_in 1072 (by decide +kernel) rfl, q_in 64 (by decide +kernel) rfl, by decide +kernel⟩, q_in 1071 (by decide +kernel) rfl, q_in 42 (by decide +kernel) rfl⟩
theorem my_X9_byBasis : q_V yX9_byBasis cX9_byBasis 2 none 0 := ⟨⟨q_in 1068 (by decide +kernel) rfl, q_in 64 (by decide +kernel) rfl, by decide +kernel⟩, q_in 1067 (by decide +kernel) rfl, q_in 41 (by decide +kernel) rfl⟩
theorem my_X9_fuel : q_V yX9_fuel cX9_fuel 3 (some .int) 1 := ⟨⟨q_in 1013 (by decide +kernel) rfl, q_in 64 (by decide +kernel) rfl, by decide +kernel⟩, q_in 1011 (by decide +kernel) rfl, q_in 1012 (by decide +kernel) rfl⟩
theorem my_X9_way : q_V yX9_way cX9_way 3 (some .int) 1 := ⟨⟨q_in 1017 (by decide +kernel) rfl, q_in 64 (by decide +kernel) rfl, by decide +kernel⟩, q_in 1015 (by decide +kernel) rfl, q_in 1016 (by decide +kernel) rfl⟩
theorem my_X9_rules : q_V yX9_rules cX9_rules 3 (some .int) 1 := ⟨⟨q_in 1021 (by decide +kernel) rfl, q_in 64 (by decide +kernel) rfl, by decide +kernel⟩, q_in 1019 (by decide +kernel) rfl, q_in 1020 (by decide +kernel) rfl⟩
theorem my_X9_come : q_V yX9_come cX9_come 2 none 0 := ⟨⟨q_in 1029 (by decide +kernel) rfl, q_in 64 (by decide +kernel) rfl, by decide +kernel⟩, q_in 1028 (by decide +kernel) rfl, q_in 34 (by decide +kernel) rfl⟩
theorem my_X9_enter : q_V yX9_enter cX9_enter 3 (some .int) 1 := ⟨⟨q_in 1025 (by decide +kernel) rfl, q_in 64 (by decide +kernel) rfl, by decide +kernel⟩, q_in 1023 (by decide +kernel) rfl, q_in 1024 (by decide +kernel) rfl⟩
theorem my_X9_clear : q_V yX9_clear cX9_clear 2 (some .int) 0 := ⟨⟨q_in 1033 (by decide +kernel) rfl, q_in 64 (by decide +kernel) rfl, by decide +kernel⟩, q_in 1031 (by decide +kernel) rfl, q_in 1032 (by decide +kernel) rfl⟩
theorem my_X9_nextPair : q_V yX9_nextPair cX9_nextPair 4 (some .int) 0 := ⟨⟨q_in 1041 (by decide +kernel) rfl, q_in 64 (by decide +kernel) rfl, by decide +kernel⟩, q_in 1040 (by decide +kernel) rfl, q_in 35 (by decide +kernel) rfl⟩
theorem my_X9_waits : q_V yX9_waits cX9_waits 4 (some .boolean) 2 := ⟨⟨q_in 1064 (by decide +kernel) rfl, q_in 64 (by decide +kernel) rfl, by decide +kernel⟩, q_in 1063 (by decide +kernel) rfl, q_in 40 (by decide +kernel) rfl⟩
theorem my_X9_areCoprime : q_V yX9_areCoprime cX9_areCoprime 5 (some .boolean) 2 := ⟨⟨q_in 1049 (by decide +kernel) rfl, q_in 64 (by decide +kernel) rfl, by decide +kernel⟩, q_in 1048 (by decide +kernel) rfl, q_in 37 (by decide +kernel) rfl⟩
theorem my_X9_isChained : q_V yX9_isChained cX9_isChained 4 (some .boolean) 2 := ⟨⟨q_in 1057 (by decide +kernel) rfl, q_in 64 (by decide +kernel) rfl, by decide +kernel⟩, q_in 1056 (by decide +kernel) rfl, q_in 39 (by decide +kernel) rfl⟩
theorem my_X9_goes : q_V yX9_goes cX9_goes 3 none 1 := ⟨⟨q_in 1053 (by decide +kernel) rfl, q_in 64 (by decide +kernel) rfl, by decide +kernel⟩, q_in 1052 (by decide +kernel) rfl, q_in 38 (by decide +kernel) rfl⟩
theorem my_X9_workOf : q_V yX9_workOf cX9_workOf 5 (some .int) 1 := ⟨⟨q_in 1045 (by decide +kernel) rfl, q_in 64 (by decide +kernel) rfl, by decide +kernel⟩, q_in 1044 (by decide +kernel) rfl, q_in 36 (by decide +kernel) rfl⟩
theorem my_X9_work : q_V yX9_work cX9_work 4 (some .int) 1 := ⟨⟨q_in 1037 (by decide +kernel) rfl, q_in 64 (by decide +kernel) rfl, by decide +kernel⟩, q_in 1035 (by decide +kernel) rfl, q_in 1036 (by decide +kernel) rfl⟩
theorem my_X9_isGone : q_V yX9_isGone cX9_isGone 5 (some .boolean) 1 := ⟨⟨q_in 1096 (by decide +kernel) rfl, q_in 64 (by decide +kernel) rfl, by decide +kernel⟩, q_in 1095 (by decide +kernel) rfl, q_in 47 (by decide +kernel) rfl⟩
theorem my_X9_sort : q_V yX9_sort cX9_sort 3 none 0 := ⟨⟨q_in 1092 (by decide +kernel) rfl, q_in 64 (by decide +kernel) rfl, by decide +kernel⟩, q_in 1091 (by decide +kernel) rfl, q_in 46 (by decide +kernel) rfl⟩
theorem my_X9_tidyOne : q_V yX9_tidyOne cX9_tidyOne 6 (some .int) 1 := ⟨⟨q_in 1100 (by decide +kernel) rfl, q_in 64 (by decide +kernel) rfl, by decide +kernel⟩, q_in 1099 (by decide +kernel) rfl, q_in 48 (by decide +kernel) rfl⟩
theorem my_X9_tidy : q_V yX9_tidy cX9_tidy 3 (some .int) 0 := ⟨⟨q_in 1088 (by decide +kernel) rfl, q_in 64 (by decide +kernel) rfl, by decide +kernel⟩, q_in 1086 (by decide +kernel) rfl, q_in 1087 (by decide +kernel) rfl⟩
theorem my_X9_left : q_V yX9_left cX9_left 5 (some .int) 1 := ⟨⟨q_in 1104 (by decide +kernel) rfl, q_in 64 (by decide +kernel) rfl, by decide +kernel⟩, q_in 1102 (by decide +kernel) rfl, q_in 1103 (by decide +kernel) rfl⟩
theorem my_X9_member : q_V yX9_member cX9_member 4 (some .int) 1 := ⟨⟨q_in 1108 (by decide +kernel) rfl, q_in 64 (by decide +kernel) rfl, by decide +kernel⟩, q_in 1106 (by decide +kernel) rfl, q_in 1107 (by decide +kernel) rfl⟩
theorem my_X9_pair : q_V yX9_pair cX9_pair 2 (some .int) 1 := ⟨⟨q_in 1112 (by decide +kernel) rfl, q_in 64 (by decide +kernel) rfl, by decide +kernel⟩, q_in 1110 (by decide +kernel) rfl, q_in 1111 (by decide +kernel) rfl⟩
theorem my_X9_isOne : q_V yX9_isOne cX9_isOne 4 (some .boolean) 1 := ⟨⟨q_in 1124 (by decide +kernel) rfl, q_in 64 (by decide +kernel) rfl, by decide +kernel⟩, q_in 1123 (by decide +kernel) rfl, q_in 50 (by decide +kernel) rfl⟩
theorem my_X9_alone : q_V yX9_alone cX9_alone 7 (some .int) 1 := ⟨⟨q_in 1128 (by decide +kernel) rfl, q_in 64 (by decide +kernel) rfl, by decide +kernel⟩, q_in 1127 (by decide +kernel) rfl, q_in 51 (by decide +kernel) rfl⟩
theorem my_X9_doesStand : q_V yX9_doesStand cX9_doesStand 2 (some .boolean) 0 := ⟨⟨q_in 1132 (by decide +kernel) rfl, q_in 64 (by decide +kernel) rfl, by decide +kernel⟩, q_in 1131 (by decide +kernel) rfl, q_in 52 (by decide +kernel) rfl⟩
theorem my_X9_layStanding : q_V yX9_layStanding cX9_layStanding 3 none 0 := ⟨⟨q_in 1136 (by decide +kernel) rfl, q_in 64 (by decide +kernel) rfl, by decide +kernel⟩, q_in 1135 (by decide +kernel) rfl, q_in 53 (by decide +kernel) rfl⟩
theorem my_X9_findStanding : q_V yX9_findStanding cX9_findStanding 2 (some .int) 0 := ⟨⟨q_in 1120 (by decide +kernel) rfl, q_in 64 (by decide +kernel) rfl, by decide +kernel⟩, q_in 1119 (by decide +kernel) rfl, q_in 49 (by decide +kernel) rfl⟩
theorem my_X9_standing : q_V yX9_standing cX9_standing 1 (some .int) 0 := ⟨⟨q_in 1116 (by decide +kernel) rfl, q_in 64 (by decide +kernel) rfl, by decide +kernel⟩, q_in 1114 (by decide +kernel) rfl, q_in 1115 (by decide +kernel) rfl⟩
theorem my_X9_stands : q_V yX9_stands cX9_stands 4 (some .int) 2 := ⟨⟨q_in 1140 (by decide +kernel) rfl, q_in 64 (by decide +kernel) rfl, by decide +kernel⟩, q_in 1138 (by decide +kernel) rfl, q_in 1139 (by decide +kernel) rfl⟩
theorem my_X9_without : q_V yX9_without cX9_without 7 (some .int) 1 := ⟨⟨q_in 1144 (by decide +kernel) rfl, q_in 64 (by decide +kernel) rfl, by decide +kernel⟩, q_in 1142 (by decide +kernel) rfl, q_in 1143 (by decide +kernel) rfl⟩
theorem my_X9_zeros : q_V yX9_zeros cX9_zeros 7 (some .int) 0 := ⟨⟨q_in 1148 (by decide +kernel) rfl, q_in 64 (by decide +kernel) rfl, by decide +kernel⟩, q_in 1146 (by decide +kernel) rfl, q_in 1147 (by decide +kernel) rfl⟩
theorem my_X9_count : q_V yX9_count cX9_count 4 (some .int) 1 := ⟨⟨q_in 1152 (by decide +kernel) rfl, q_in 64 (by decide +kernel) rfl, by decide +kernel⟩, q_in 1150 (by decide +kernel) rfl, q_in 1151 (by decide +kernel) rfl⟩
theorem my_X9_digested : q_V yX9_digested cX9_digested 8 (some .long) 2 := ⟨⟨q_in 1161 (by decide +kernel) rfl, q_in 64 (by decide +kernel) rfl, by decide +kernel⟩, q_in 1160 (by decide +kernel) rfl, q_in 54 (by decide +kernel) rfl⟩
theorem my_X9_digest : q_V yX9_digest cX9_digest 4 (some .long) 0 := ⟨⟨q_in 1156 (by decide +kernel) rfl, q_in 64 (by decide +kernel) rfl, by decide +kernel⟩, q_in 1154 (by decide +kernel) rfl, q_in 1155 (by decide +kernel) rfl⟩
theorem my_L_cell : q_S yL_cell cL_cell 2 (some .int) 2 := ⟨⟨q_in 760 (by decide +kernel) rfl, q_in 55 (by decide +kernel) rfl, by decide +kernel⟩, q_in 759 (by decide +kernel) rfl⟩
section GF
variable {p : Program} {l : Launch} {e : Env} {R : Room} {s : State} {m : MethodId} {args : Array Value} {below : List Frame} {meth : Method} {c : Code} {H : Heap} {locs : List Loc} {cells slots : Nat} {Q : State → Prop}
variable {cc : ByteArray} {pc nL : Nat} {ls : Array Slot} {rest : List Value} {G : Cx} {S : St} {H0 : Heap} {own : String} {index : Nat}

theorem gf_X3_size (X : CallFix p m c cc nL s args q_tbl own) (hK : q_K G s) (hP : q_P G S H) {q : Nat} (hq : isP q) (hlink : Cond.fieldLink own index "IdealBench$Poly" "size" "I" ∈ q_tbl) (hdg : decode cc pc = .ok (.getfield index, 3))
    (kk : W p l e R s m args below meth c H locs cells slots Q (F0 m (pc + 3) ls (.int (S q 2) :: rest))) : W p l e R s m args below meth c H locs cells slots Q (F0 m pc ls (.ref (G.1 + q) :: rest)) :=
  q_get X hK hP q 2 2 (C := RX3) (T := TX3) (N := 3) rfl in_X3 hq (by decide) hlink rfl rfl hdg kk
theorem gf_X3_numbers (X : CallFix p m c cc nL s args q_tbl own) (hK : q_K G s) (hP : q_P G S H) {q : Nat} (hq : isP q) (hlink : Cond.fieldLink own index "IdealBench$Poly" "numbers" "[I" ∈ q_tbl) (hdg : decode cc pc = .ok (.getfield index, 3))
    (kk : W p l e R s m args below meth c H locs cells slots Q (F0 m (pc + 3) ls (.ref (G.1 + (q + 1)) :: rest))) : W p l e R s m args below meth c H locs cells slots Q (F0 m pc ls (.ref (G.1 + q) :: rest)) :=
  q_get X hK hP q 2 0 (C := RX3) (T := TX3) (N := 3) rfl in_X3 hq (by decide) hlink rfl rfl hdg kk
theorem gf_X3_monos (X : CallFix p m c cc nL s args q_tbl own) (hK : q_K G s) (hP : q_P G S H) {q : Nat} (hq : isP q) (hlink : Cond.fieldLink own index "IdealBench$Poly" "monos" "[I" ∈ q_tbl) (hdg : decode cc pc = .ok (.getfield index, 3))
    (kk : W p l e R s m args below meth c H locs cells slots Q (F0 m (pc + 3) ls (.ref (G.1 + (q + 2)) :: rest))) : W p l e R s m args below meth c H locs cells slots Q (F0 m pc ls (.ref (G.1 + q) :: rest)) :=
  q_get X hK hP q 2 1 (C := RX3) (T := TX3) (N := 3) rfl in_X3 hq (by decide) hlink rfl rfl hdg kk
theorem pf_X3_size (X : CallFix p m c cc nL s args q_tbl own) (hK : q_K G s) (hP : q_P G S H) (hS : va_S (fr_ G) H0 H locs) {q : Nat} (hq : isP q) {x : Int32} (hlink : Cond.fieldLink own index "IdealBench$Poly" "size" "I" ∈ q_tbl) (hdg : decode cc pc = .ok (.putfield index, 3))
    (kk : ∀ (S1 : St) (H1 : Heap) (locs1 : List Loc), S1 = su S q 2 x → q_P G S1 H1 → va_S (fr_ G) H0 H1 locs1 → W p l e R s m args below meth c H1 locs1 cells slots Q (F0 m (pc + 3) ls rest)) : W p l e R s m args below meth c H locs cells slots Q (F0 m pc ls (.int x :: .ref (G.1 + q) :: rest)) :=
  q_put X hK hP hS q 2 2 (C := RX3) (T := TX3) (N := 3) rfl in_X3 tyX3 tyX3_ok nmX3 hq (by decide) hlink rfl rfl (ty := .int) (by decide +kernel) rfl rfl (by simp [objF, su, upd]) (by simp [objF]) hdg kk
theorem gf_X2_size (X : CallFix p m c cc nL s args q_tbl own) (hK : q_K G s) (hP : q_P G S H) (hlink : Cond.fieldLink own index "IdealBench$Pairs" "size" "I" ∈ q_tbl) (hdg : decode cc pc = .ok (.getfield index, 3))
    (kk : W p l e R s m args below meth c H locs cells slots Q (F0 m (pc + 3) ls (.int (S 105 2) :: rest))) : W p l e R s m args below meth c H locs cells slots Q (F0 m pc ls (.ref (G.1 + 105) :: rest)) :=
  q_get X hK hP 105 1 2 (C := RX2) (T := TX2) (N := 3) rfl in_X2 kz_105 (by decide) hlink rfl rfl hdg kk
theorem gf_X2_firsts (X : CallFix p m c cc nL s args q_tbl own) (hK : q_K G s) (hP : q_P G S H) (hlink : Cond.fieldLink own index "IdealBench$Pairs" "firsts" "[I" ∈ q_tbl) (hdg : decode cc pc = .ok (.getfield index, 3))
    (kk : W p l e R s m args below meth c H locs cells slots Q (F0 m (pc + 3) ls (.ref (G.1 + 106) :: rest))) : W p l e R s m args below meth c H locs cells slots Q (F0 m pc ls (.ref (G.1 + 105) :: rest)) :=
  q_get X hK hP 105 1 0 (C := RX2) (T := TX2) (N := 3) rfl in_X2 kz_105 (by decide) hlink rfl rfl hdg kk
theorem gf_X2_seconds (X : CallFix p m c cc nL s args q_tbl own) (hK : q_K G s) (hP : q_P G S H) (hlink : Cond.fieldLink own index "IdealBench$Pairs" "seconds" "[I" ∈ q_tbl) (hdg : decode cc pc = .ok (.getfield index, 3))
    (kk : W p l e R s m args below meth c H locs cells slots Q (F0 m (pc + 3) ls (.ref (G.1 + 107) :: rest))) : W p l e R s m args below meth c H locs cells slots Q (F0 m pc ls (.ref (G.1 + 105) :: rest)) :=
  q_get X hK hP 105 1 1 (C := RX2) (T := TX2) (N := 3) rfl in_X2 kz_105 (by decide) hlink rfl rfl hdg kk
theorem pf_X2_size (X : CallFix p m c cc nL s args q_tbl own) (hK : q_K G s) (hP : q_P G S H) (hS : va_S (fr_ G) H0 H locs) {x : Int32} (hlink : Cond.fieldLink own index "IdealBench$Pairs" "size" "I" ∈ q_tbl) (hdg : decode cc pc = .ok (.putfield index, 3))
    (kk : ∀ (S1 : St) (H1 : Heap) (locs1 : List Loc), S1 = su S 105 2 x → q_P G S1 H1 → va_S (fr_ G) H0 H1 locs1 → W p l e R s m args below meth c H1 locs1 cells slots Q (F0 m (pc + 3) ls rest)) : W p l e R s m args below meth c H locs cells slots Q (F0 m pc ls (.int x :: .ref (G.1 + 105) :: rest)) :=
  q_put X hK hP hS 105 1 2 (C := RX2) (T := TX2) (N := 3) rfl in_X2 tyX2 tyX2_ok nmX2 kz_105 (by decide) hlink rfl rfl (ty := .int) (by decide +kernel) rfl rfl (by simp [objF, su, upd]) (by simp [objF]) hdg kk
theorem gf_X5_n (X : CallFix p m c cc nL s args q_tbl own) (hK : q_K G s) (hP : q_P G S H) (hlink : Cond.fieldLink own index "IdealBench$Ring" "n" "I" ∈ q_tbl) (hdg : decode cc pc = .ok (.getfield index, 3))
    (kk : W p l e R s m args below meth c H locs cells slots Q (F0 m (pc + 3) ls (.int (S 1 1) :: rest))) : W p l e R s m args below meth c H locs cells slots Q (F0 m pc ls (.ref (G.1 + 1) :: rest)) :=
  q_get X hK hP 1 4 1 (C := RX5) (T := TX5) (N := 7) rfl in_X5 kz_1 (by decide) hlink rfl rfl hdg kk
theorem gf_X5_p (X : CallFix p m c cc nL s args q_tbl own) (hK : q_K G s) (hP : q_P G S H) (hlink : Cond.fieldLink own index "IdealBench$Ring" "p" "I" ∈ q_tbl) (hdg : decode cc pc = .ok (.getfield index, 3))
    (kk : W p l e R s m args below meth c H locs cells slots Q (F0 m (pc + 3) ls (.int (S 1 0) :: rest))) : W p l e R s m args below meth c H locs cells slots Q (F0 m pc ls (.ref (G.1 + 1) :: rest)) :=
  q_get X hK hP 1 4 0 (C := RX5) (T := TX5) (N := 7) rfl in_X5 kz_1 (by decide) hlink rfl rfl hdg kk
theorem gf_X5_order (X : CallFix p m c cc nL s args q_tbl own) (hK : q_K G s) (hP : q_P G S H) (hlink : Cond.fieldLink own index "IdealBench$Ring" "orde\x72" "I" ∈ q_tbl) (hdg : decode cc pc = .ok (.getfield index, 3))
    (kk : W p l e R s m args below meth c H locs cells slots Q (F0 m (pc + 3) ls (.int (S 1 2) :: rest))) : W p l e R s m args below meth c H locs cells slots Q (F0 m pc ls (.ref (G.1 + 1) :: rest)) :=
  q_get X hK hP 1 4 2 (C := RX5) (T := TX5) (N := 7) rfl in_X5 kz_1 (by decide) hlink rfl rfl hdg kk
theorem gf_X5_meets (X : CallFix p m c cc nL s args q_tbl own) (hK : q_K G s) (hP : q_P G S H) (hlink : Cond.fieldLink own index "IdealBench$Ring" "meets" "[I" ∈ q_tbl) (hdg : decode cc pc = .ok (.getfield index, 3))
    (kk : W p l e R s m args below meth c H locs cells slots Q (F0 m (pc + 3) ls (.ref (G.1 + 3) :: rest))) : W p l e R s m args below meth c H locs cells slots Q (F0 m pc ls (.ref (G.1 + 1) :: rest)) :=
  q_get X hK hP 1 4 4 (C := RX5) (T := TX5) (N := 7) rfl in_X5 kz_1 (by decide) hlink rfl rfl hdg kk
theorem gf_X5_firstMultiple (X : CallFix p m c cc nL s args q_tbl own) (hK : q_K G s) (hP : q_P G S H) (hlink : Cond.fieldLink own index "IdealBench$Ring" "firstMultiple" "LIdealBench$Poly;" ∈ q_tbl) (hdg : decode cc pc = .ok (.getfield index, 3))
    (kk : W p l e R s m args below meth c H locs cells slots Q (F0 m (pc + 3) ls (.ref (G.1 + 7) :: rest))) : W p l e R s m args below meth c H locs cells slots Q (F0 m pc ls (.ref (G.1 + 1) :: rest)) :=
  q_get X hK hP 1 4 6 (C := RX5) (T := TX5) (N := 7) rfl in_X5 kz_1 (by decide) hlink rfl rfl hdg kk
theorem gf_X5_nought (X : CallFix p m c cc nL s args q_tbl own) (hK : q_K G s) (hP : q_P G S H) (hlink : Cond.fieldLink own index "IdealBench$Ring" "nought" "LIdealBench$Poly;" ∈ q_tbl) (hdg : decode cc pc = .ok (.getfield index, 3))
    (kk : W p l e R s m args below meth c H locs cells slots Q (F0 m (pc + 3) ls (.ref (G.1 + 4) :: rest))) : W p l e R s m args below meth c H locs cells slots Q (F0 m pc ls (.ref (G.1 + 1) :: rest)) :=
  q_get X hK hP 1 4 5 (C := RX5) (T := TX5) (N := 7) rfl in_X5 kz_1 (by decide) hlink rfl rfl hdg kk
theorem gf_X5_point (X : CallFix p m c cc nL s args q_tbl own) (hK : q_K G s) (hP : q_P G S H) (hlink : Cond.fieldLink own index "IdealBench$Ring" "point" "[I" ∈ q_tbl) (hdg : decode cc pc = .ok (.getfield index, 3))
    (kk : W p l e R s m args below meth c H locs cells slots Q (F0 m (pc + 3) ls (.ref (G.1 + 2) :: rest))) : W p l e R s m args below meth c H locs cells slots Q (F0 m pc ls (.ref (G.1 + 1) :: rest)) :=
  q_get X hK hP 1 4 3 (C := RX5) (T := TX5) (N := 7) rfl in_X5 kz_1 (by decide) hlink rfl rfl hdg kk
theorem gf_X6_holds (X : CallFix p m c cc nL s args q_tbl own) (hK : q_K G s) (hP : q_P G S H) (hlink : Cond.fieldLink own index "IdealBench$Shelf" "holds" "[Z" ∈ q_tbl) (hdg : decode cc pc = .ok (.getfield index, 3))
    (kk : W p l e R s m args below meth c H locs cells slots Q (F0 m (pc + 3) ls (.ref (G.1 + 21) :: rest))) : W p l e R s m args below meth c H locs cells slots Q (F0 m pc ls (.ref (G.1 + 19) :: rest)) :=
  q_get X hK hP 19 5 1 (C := RX6) (T := TX6) (N := 3) rfl in_X6 kz_19 (by decide) hlink rfl rfl hdg kk
theorem gf_X6_polys (X : CallFix p m c cc nL s args q_tbl own) (hK : q_K G s) (hP : q_P G S H) (hlink : Cond.fieldLink own index "IdealBench$Shelf" "polys" "[LIdealBench$Poly;" ∈ q_tbl) (hdg : decode cc pc = .ok (.getfield index, 3))
    (kk : W p l e R s m args below meth c H locs cells slots Q (F0 m (pc + 3) ls (.ref (G.1 + 20) :: rest))) : W p l e R s m args below meth c H locs cells slots Q (F0 m pc ls (.ref (G.1 + 19) :: rest)) :=
  q_get X hK hP 19 5 0 (C := RX6) (T := TX6) (N := 3) rfl in_X6 kz_19 (by decide) hlink rfl rfl hdg kk
theorem gf_X6_held (X : CallFix p m c cc nL s args q_tbl own) (hK : q_K G s) (hP : q_P G S H) (hlink : Cond.fieldLink own index "IdealBench$Shelf" "held" "I" ∈ q_tbl) (hdg : decode cc pc = .ok (.getfield index, 3))
    (kk : W p l e R s m args below meth c H locs cells slots Q (F0 m (pc + 3) ls (.int (S 19 2) :: rest))) : W p l e R s m args below meth c H locs cells slots Q (F0 m pc ls (.ref (G.1 + 19) :: rest)) :=
  q_get X hK hP 19 5 2 (C := RX6) (T := TX6) (N := 3) rfl in_X6 kz_19 (by decide) hlink rfl rfl hdg kk
theorem pf_X6_held (X : CallFix p m c cc nL s args q_tbl own) (hK : q_K G s) (hP : q_P G S H) (hS : va_S (fr_ G) H0 H locs) {x : Int32} (hlink : Cond.fieldLink own index "IdealBench$Shelf" "held" "I" ∈ q_tbl) (hdg : decode cc pc = .ok (.putfield index, 3))
    (kk : ∀ (S1 : St) (H1 : Heap) (locs1 : List Loc), S1 = su S 19 2 x → q_P G S1 H1 → va_S (fr_ G) H0 H1 locs1 → W p l e R s m args below meth c H1 locs1 cells slots Q (F0 m (pc + 3) ls rest)) : W p l e R s m args below meth c H locs cells slots Q (F0 m pc ls (.int x :: .ref (G.1 + 19) :: rest)) :=
  q_put X hK hP hS 19 5 2 (C := RX6) (T := TX6) (N := 3) rfl in_X6 tyX6 tyX6_ok nmX6 kz_19 (by decide) hlink rfl rfl (ty := .int) (by decide +kernel) rfl rfl (by simp [objF, su, upd]) (by simp [objF]) hdg kk
theorem pf_X4_made (X : CallFix p m c cc nL s args q_tbl own) (hK : q_K G s) (hP : q_P G S H) (hS : va_S (fr_ G) H0 H locs) {x : Int32} (hlink : Cond.fieldLink own index "IdealBench$Reduce\x72" "made" "I" ∈ q_tbl) (hdg : decode cc pc = .ok (.putfield index, 3))
    (kk : ∀ (S1 : St) (H1 : Heap) (locs1 : List Loc), S1 = su S 94 5 x → q_P G S1 H1 → va_S (fr_ G) H0 H1 locs1 → W p l e R s m args below meth c H1 locs1 cells slots Q (F0 m (pc + 3) ls rest)) : W p l e R s m args below meth c H locs cells slots Q (F0 m pc ls (.int x :: .ref (G.1 + 94) :: rest)) :=
  q_put X hK hP hS 94 3 5 (C := RX4) (T := TX4) (N := 7) rfl in_X4 tyX4 tyX4_ok nmX4 kz_94 (by decide) hlink rfl rfl (ty := .int) (by decide +kernel) rfl rfl (by simp [objF, su, upd]) (by simp [objF]) hdg kk
theorem gf_X4_h (X : CallFix p m c cc nL s args q_tbl own) (hK : q_K G s) (hP : q_P G S H) (hlink : Cond.fieldLink own index "IdealBench$Reduce\x72" "h" "LIdealBench$Poly;" ∈ q_tbl) (hdg : decode cc pc = .ok (.getfield index, 3))
    (kk : W p l e R s m args below meth c H locs cells slots Q (F0 m (pc + 3) ls (.ref (G.1 + q_rf (S 94 1)) :: rest))) : W p l e R s m args below meth c H locs cells slots Q (F0 m pc ls (.ref (G.1 + 94) :: rest)) :=
  q_get X hK hP 94 3 1 (C := RX4) (T := TX4) (N := 7) rfl in_X4 kz_94 (by decide) hlink rfl rfl hdg kk
theorem gf_X4_r (X : CallFix p m c cc nL s args q_tbl own) (hK : q_K G s) (hP : q_P G S H) (hlink : Cond.fieldLink own index "IdealBench$Reduce\x72" "\x72" "LIdealBench$Poly;" ∈ q_tbl) (hdg : decode cc pc = .ok (.getfield index, 3))
    (kk : W p l e R s m args below meth c H locs cells slots Q (F0 m (pc + 3) ls (.ref (G.1 + 101) :: rest))) : W p l e R s m args below meth c H locs cells slots Q (F0 m pc ls (.ref (G.1 + 94) :: rest)) :=
  q_get X hK hP 94 3 3 (C := RX4) (T := TX4) (N := 7) rfl in_X4 kz_94 (by decide) hlink rfl rfl hdg kk
theorem gf_X4_made (X : CallFix p m c cc nL s args q_tbl own) (hK : q_K G s) (hP : q_P G S H) (hlink : Cond.fieldLink own index "IdealBench$Reduce\x72" "made" "I" ∈ q_tbl) (hdg : decode cc pc = .ok (.getfield index, 3))
    (kk : W p l e R s m args below meth c H locs cells slots Q (F0 m (pc + 3) ls (.int (S 94 5) :: rest))) : W p l e R s m args below meth c H locs cells slots Q (F0 m pc ls (.ref (G.1 + 94) :: rest)) :=
  q_get X hK hP 94 3 5 (C := RX4) (T := TX4) (N := 7) rfl in_X4 kz_94 (by decide) hlink rfl rfl hdg kk
theorem gf_X4_fuel (X : CallFix p m c cc nL s args q_tbl own) (hK : q_K G s) (hP : q_P G S H) (hlink : Cond.fieldLink own index "IdealBench$Reduce\x72" "fuel" "I" ∈ q_tbl) (hdg : decode cc pc = .ok (.getfield index, 3))
    (kk : W p l e R s m args below meth c H locs cells slots Q (F0 m (pc + 3) ls (.int (S 94 4) :: rest))) : W p l e R s m args below meth c H locs cells slots Q (F0 m pc ls (.ref (G.1 + 94) :: rest)) :=
  q_get X hK hP 94 3 4 (C := RX4) (T := TX4) (N := 7) rfl in_X4 kz_94 (by decide) hlink rfl rfl hdg kk
theorem gf_X4_madeInAll (X : CallFix p m c cc nL s args q_tbl own) (hK : q_K G s) (hP : q_P G S H) (hlink : Cond.fieldLink own index "IdealBench$Reduce\x72" "madeInAll" "I" ∈ q_tbl) (hdg : decode cc pc = .ok (.getfield index, 3))
    (kk : W p l e R s m args below meth c H locs cells slots Q (F0 m (pc + 3) ls (.int (S 94 6) :: rest))) : W p l e R s m args below meth c H locs cells slots Q (F0 m pc ls (.ref (G.1 + 94) :: rest)) :=
  q_get X hK hP 94 3 6 (C := RX4) (T := TX4) (N := 7) rfl in_X4 kz_94 (by decide) hlink rfl rfl hdg kk
theorem pf_X4_madeInAll (X : CallFix p m c cc nL s args q_tbl own) (hK : q_K G s) (hP : q_P G S H) (hS : va_S (fr_ G) H0 H locs) {x : Int32} (hlink : Cond.fieldLink own index "IdealBench$Reduce\x72" "madeInAll" "I" ∈ q_tbl) (hdg : decode cc pc = .ok (.putfield index, 3))
    (kk : ∀ (S1 : St) (H1 : Heap) (locs1 : List Loc), S1 = su S 94 6 x → q_P G S1 H1 → va_S (fr_ G) H0 H1 locs1 → W p l e R s m args below meth c H1 locs1 cells slots Q (F0 m (pc + 3) ls rest)) : W p l e R s m args below meth c H locs cells slots Q (F0 m pc ls (.int x :: .ref (G.1 + 94) :: rest)) :=
  q_put X hK hP hS 94 3 6 (C := RX4) (T := TX4) (N := 7) rfl in_X4 tyX4 tyX4_ok nmX4 kz_94 (by decide) hlink rfl rfl (ty := .int) (by decide +kernel) rfl rfl (by simp [objF, su, upd]) (by simp [objF]) hdg kk
theorem gf_X4_ring (X : CallFix p m c cc nL s args q_tbl own) (hK : q_K G s) (hP : q_P G S H) (hlink : Cond.fieldLink own index "IdealBench$Reduce\x72" "ring" "LIdealBench$Ring;" ∈ q_tbl) (hdg : decode cc pc = .ok (.getfield index, 3))
    (kk : W p l e R s m args below meth c H locs cells slots Q (F0 m (pc + 3) ls (.ref (G.1 + 1) :: rest))) : W p l e R s m args below meth c H locs cells slots Q (F0 m pc ls (.ref (G.1 + 94) :: rest)) :=
  q_get X hK hP 94 3 0 (C := RX4) (T := TX4) (N := 7) rfl in_X4 kz_94 (by decide) hlink rfl rfl hdg kk
theorem gf_X4_lessened (X : CallFix p m c cc nL s args q_tbl own) (hK : q_K G s) (hP : q_P G S H) (hlink : Cond.fieldLink own index "IdealBench$Reduce\x72" "lessened" "LIdealBench$Poly;" ∈ q_tbl) (hdg : decode cc pc = .ok (.getfield index, 3))
    (kk : W p l e R s m args below meth c H locs cells slots Q (F0 m (pc + 3) ls (.ref (G.1 + q_rf (S 94 2)) :: rest))) : W p l e R s m args below meth c H locs cells slots Q (F0 m pc ls (.ref (G.1 + 94) :: rest)) :=
  q_get X hK hP 94 3 2 (C := RX4) (T := TX4) (N := 7) rfl in_X4 kz_94 (by decide) hlink rfl rfl hdg kk
theorem pf_X4_h (X : CallFix p m c cc nL s args q_tbl own) (hK : q_K G s) (hP : q_P G S H) (hS : va_S (fr_ G) H0 H locs) {b : Nat} (hb : isP b) (hlink : Cond.fieldLink own index "IdealBench$Reduce\x72" "h" "LIdealBench$Poly;" ∈ q_tbl) (hdg : decode cc pc = .ok (.putfield index, 3))
    (kk : ∀ (S1 : St) (H1 : Heap) (locs1 : List Loc), S1 = su S 94 1 (nI b) → q_P G S1 H1 → va_S (fr_ G) H0 H1 locs1 → W p l e R s m args below meth c H1 locs1 cells slots Q (F0 m (pc + 3) ls rest)) : W p l e R s m args below meth c H locs cells slots Q (F0 m pc ls (.ref (G.1 + b) :: .ref (G.1 + 94) :: rest)) :=
  q_put X hK hP hS 94 3 1 (C := RX4) (T := TX4) (N := 7) rfl in_X4 tyX4 tyX4_ok nmX4 kz_94 (by decide) hlink rfl rfl (ty := (.object "IdealBench$Poly")) (by decide +kernel) rfl rfl (by simp [objF, su, upd, q_rf, nI_clamp (Nat.lt_trans hb.1 (by decide : 242 < 2 ^ 31))]) (by simp [objF]) hdg kk
theorem pf_X4_lessened (X : CallFix p m c cc nL s args q_tbl own) (hK : q_K G s) (hP : q_P G S H) (hS : va_S (fr_ G) H0 H locs) {b : Nat} (hb : isP b) (hlink : Cond.fieldLink own index "IdealBench$Reduce\x72" "lessened" "LIdealBench$Poly;" ∈ q_tbl) (hdg : decode cc pc = .ok (.putfield index, 3))
    (kk : ∀ (S1 : St) (H1 : Heap) (locs1 : List Loc), S1 = su S 94 2 (nI b) → q_P G S1 H1 → va_S (fr_ G) H0 H1 locs1 → W p l e R s m args below meth c H1 locs1 cells slots Q (F0 m (pc + 3) ls rest)) : W p l e R s m args below meth c H locs cells slots Q (F0 m pc ls (.ref (G.1 + b) :: .ref (G.1 + 94) :: rest)) :=
  q_put X hK hP hS 94 3 2 (C := RX4) (T := TX4) (N := 7) rfl in_X4 tyX4 tyX4_ok nmX4 kz_94 (by decide) hlink rfl rfl (ty := (.object "IdealBench$Poly")) (by decide +kernel) rfl rfl (by simp [objF, su, upd, q_rf, nI_clamp (Nat.lt_trans hb.1 (by decide : 242 < 2 ^ 31))]) (by simp [objF]) hdg kk
theorem gf_X0_size (X : CallFix p m c cc nL s args q_tbl own) (hK : q_K G s) (hP : q_P G S H) (hlink : Cond.fieldLink own index "IdealBench$Basis" "size" "I" ∈ q_tbl) (hdg : decode cc pc = .ok (.getfield index, 3))
    (kk : W p l e R s m args below meth c H locs cells slots Q (F0 m (pc + 3) ls (.int (S 104 7) :: rest))) : W p l e R s m args below meth c H locs cells slots Q (F0 m pc ls (.ref (G.1 + 104) :: rest)) :=
  q_get X hK hP 104 0 7 (C := RX0) (T := TX0) (N := 15) rfl in_X0 kz_104 (by decide) hlink rfl rfl hdg kk
theorem gf_X0_rows (X : CallFix p m c cc nL s args q_tbl own) (hK : q_K G s) (hP : q_P G S H) (hlink : Cond.fieldLink own index "IdealBench$Basis" "rows" "[LIdealBench$Poly;" ∈ q_tbl) (hdg : decode cc pc = .ok (.getfield index, 3))
    (kk : W p l e R s m args below meth c H locs cells slots Q (F0 m (pc + 3) ls (.ref (G.1 + q_rf (S 104 3)) :: rest))) : W p l e R s m args below meth c H locs cells slots Q (F0 m pc ls (.ref (G.1 + 104) :: rest)) :=
  q_get X hK hP 104 0 3 (C := RX0) (T := TX0) (N := 15) rfl in_X0 kz_104 (by decide) hlink rfl rfl hdg kk
theorem pf_X0_size (X : CallFix p m c cc nL s args q_tbl own) (hK : q_K G s) (hP : q_P G S H) (hS : va_S (fr_ G) H0 H locs) {x : Int32} (hlink : Cond.fieldLink own index "IdealBench$Basis" "size" "I" ∈ q_tbl) (hdg : decode cc pc = .ok (.putfield index, 3))
    (kk : ∀ (S1 : St) (H1 : Heap) (locs1 : List Loc), S1 = su S 104 7 x → q_P G S1 H1 → va_S (fr_ G) H0 H1 locs1 → W p l e R s m args below meth c H1 locs1 cells slots Q (F0 m (pc + 3) ls rest)) : W p l e R s m args below meth c H locs cells slots Q (F0 m pc ls (.int x :: .ref (G.1 + 104) :: rest)) :=
  q_put X hK hP hS 104 0 7 (C := RX0) (T := TX0) (N := 15) rfl in_X0 tyX0 tyX0_ok nmX0 kz_104 (by decide) hlink rfl rfl (ty := .int) (by decide +kernel) rfl rfl (by simp [objF, su, upd]) (by simp [objF]) hdg kk
theorem gf_X0_pairs (X : CallFix p m c cc nL s args q_tbl own) (hK : q_K G s) (hP : q_P G S H) (hlink : Cond.fieldLink own index "IdealBench$Basis" "pairs" "LIdealBench$Pairs;" ∈ q_tbl) (hdg : decode cc pc = .ok (.getfield index, 3))
    (kk : W p l e R s m args below meth c H locs cells slots Q (F0 m (pc + 3) ls (.ref (G.1 + 105) :: rest))) : W p l e R s m args below meth c H locs cells slots Q (F0 m pc ls (.ref (G.1 + 104) :: rest)) :=
  q_get X hK hP 104 0 2 (C := RX0) (T := TX0) (N := 15) rfl in_X0 kz_104 (by decide) hlink rfl rfl hdg kk
theorem pf_X0_isTidy (X : CallFix p m c cc nL s args q_tbl own) (hK : q_K G s) (hP : q_P G S H) (hS : va_S (fr_ G) H0 H locs) {x : Int32} (hn : narrow .boolean (.int x) = .int x ∧ fits .boolean (.int x) = true) (hlink : Cond.fieldLink own index "IdealBench$Basis" "isTidy" "Z" ∈ q_tbl) (hdg : decode cc pc = .ok (.putfield index, 3))
    (kk : ∀ (S1 : St) (H1 : Heap) (locs1 : List Loc), S1 = su S 104 8 x → q_P G S1 H1 → va_S (fr_ G) H0 H1 locs1 → W p l e R s m args below meth c H1 locs1 cells slots Q (F0 m (pc + 3) ls rest)) : W p l e R s m args below meth c H locs cells slots Q (F0 m pc ls (.int x :: .ref (G.1 + 104) :: rest)) :=
  q_put X hK hP hS 104 0 8 (C := RX0) (T := TX0) (N := 15) rfl in_X0 tyX0 tyX0_ok nmX0 kz_104 (by decide) hlink rfl rfl (ty := .boolean) (by decide +kernel) hn.1 hn.2 (by simp [objF, su, upd]) (by simp [objF]) hdg kk
theorem gf_X0_ring (X : CallFix p m c cc nL s args q_tbl own) (hK : q_K G s) (hP : q_P G S H) (hlink : Cond.fieldLink own index "IdealBench$Basis" "ring" "LIdealBench$Ring;" ∈ q_tbl) (hdg : decode cc pc = .ok (.getfield index, 3))
    (kk : W p l e R s m args below meth c H locs cells slots Q (F0 m (pc + 3) ls (.ref (G.1 + 1) :: rest))) : W p l e R s m args below meth c H locs cells slots Q (F0 m pc ls (.ref (G.1 + 104) :: rest)) :=
  q_get X hK hP 104 0 0 (C := RX0) (T := TX0) (N := 15) rfl in_X0 kz_104 (by decide) hlink rfl rfl hdg kk
theorem gf_X0_way (X : CallFix p m c cc nL s args q_tbl own) (hK : q_K G s) (hP : q_P G S H) (hlink : Cond.fieldLink own index "IdealBench$Basis" "way" "I" ∈ q_tbl) (hdg : decode cc pc = .ok (.getfield index, 3))
    (kk : W p l e R s m args below meth c H locs cells slots Q (F0 m (pc + 3) ls (.int (S 104 9) :: rest))) : W p l e R s m args below meth c H locs cells slots Q (F0 m pc ls (.ref (G.1 + 104) :: rest)) :=
  q_get X hK hP 104 0 9 (C := RX0) (T := TX0) (N := 15) rfl in_X0 kz_104 (by decide) hlink rfl rfl hdg kk
theorem gf_X0_reducer (X : CallFix p m c cc nL s args q_tbl own) (hK : q_K G s) (hP : q_P G S H) (hlink : Cond.fieldLink own index "IdealBench$Basis" "reduce\x72" "LIdealBench$Reducer;" ∈ q_tbl) (hdg : decode cc pc = .ok (.getfield index, 3))
    (kk : W p l e R s m args below meth c H locs cells slots Q (F0 m (pc + 3) ls (.ref (G.1 + 94) :: rest))) : W p l e R s m args below meth c H locs cells slots Q (F0 m pc ls (.ref (G.1 + 104) :: rest)) :=
  q_get X hK hP 104 0 1 (C := RX0) (T := TX0) (N := 15) rfl in_X0 kz_104 (by decide) hlink rfl rfl hdg kk
theorem gf_X0_leftSomething (X : CallFix p m c cc nL s args q_tbl own) (hK : q_K G s) (hP : q_P G S H) (hlink : Cond.fieldLink own index "IdealBench$Basis" "leftSomething" "I" ∈ q_tbl) (hdg : decode cc pc = .ok (.getfield index, 3))
    (kk : W p l e R s m args below meth c H locs cells slots Q (F0 m (pc + 3) ls (.int (S 104 13) :: rest))) : W p l e R s m args below meth c H locs cells slots Q (F0 m pc ls (.ref (G.1 + 104) :: rest)) :=
  q_get X hK hP 104 0 13 (C := RX0) (T := TX0) (N := 15) rfl in_X0 kz_104 (by decide) hlink rfl rfl hdg kk
theorem pf_X0_leftSomething (X : CallFix p m c cc nL s args q_tbl own) (hK : q_K G s) (hP : q_P G S H) (hS : va_S (fr_ G) H0 H locs) {x : Int32} (hlink : Cond.fieldLink own index "IdealBench$Basis" "leftSomething" "I" ∈ q_tbl) (hdg : decode cc pc = .ok (.putfield index, 3))
    (kk : ∀ (S1 : St) (H1 : Heap) (locs1 : List Loc), S1 = su S 104 13 x → q_P G S1 H1 → va_S (fr_ G) H0 H1 locs1 → W p l e R s m args below meth c H1 locs1 cells slots Q (F0 m (pc + 3) ls rest)) : W p l e R s m args below meth c H locs cells slots Q (F0 m pc ls (.int x :: .ref (G.1 + 104) :: rest)) :=
  q_put X hK hP hS 104 0 13 (C := RX0) (T := TX0) (N := 15) rfl in_X0 tyX0 tyX0_ok nmX0 kz_104 (by decide) hlink rfl rfl (ty := .int) (by decide +kernel) rfl rfl (by simp [objF, su, upd]) (by simp [objF]) hdg kk
theorem gf_X0_leftNothing (X : CallFix p m c cc nL s args q_tbl own) (hK : q_K G s) (hP : q_P G S H) (hlink : Cond.fieldLink own index "IdealBench$Basis" "leftNothing" "I" ∈ q_tbl) (hdg : decode cc pc = .ok (.getfield index, 3))
    (kk : W p l e R s m args below meth c H locs cells slots Q (F0 m (pc + 3) ls (.int (S 104 14) :: rest))) : W p l e R s m args below meth c H locs cells slots Q (F0 m pc ls (.ref (G.1 + 104) :: rest)) :=
  q_get X hK hP 104 0 14 (C := RX0) (T := TX0) (N := 15) rfl in_X0 kz_104 (by decide) hlink rfl rfl hdg kk
theorem pf_X0_leftNothing (X : CallFix p m c cc nL s args q_tbl own) (hK : q_K G s) (hP : q_P G S H) (hS : va_S (fr_ G) H0 H locs) {x : Int32} (hlink : Cond.fieldLink own index "IdealBench$Basis" "leftNothing" "I" ∈ q_tbl) (hdg : decode cc pc = .ok (.putfield index, 3))
    (kk : ∀ (S1 : St) (H1 : Heap) (locs1 : List Loc), S1 = su S 104 14 x → q_P G S1 H1 → va_S (fr_ G) H0 H1 locs1 → W p l e R s m args below meth c H1 locs1 cells slots Q (F0 m (pc + 3) ls rest)) : W p l e R s m args below meth c H locs cells slots Q (F0 m pc ls (.int x :: .ref (G.1 + 104) :: rest)) :=
  q_put X hK hP hS 104 0 14 (C := RX0) (T := TX0) (N := 15) rfl in_X0 tyX0 tyX0_ok nmX0 kz_104 (by decide) hlink rfl rfl (ty := .int) (by decide +kernel) rfl rfl (by simp [objF, su, upd]) (by simp [objF]) hdg kk
theorem gf_X0_begun (X : CallFix p m c cc nL s args q_tbl own) (hK : q_K G s) (hP : q_P G S H) (hlink : Cond.fieldLink own index "IdealBench$Basis" "begun" "LIdealBench$Poly;" ∈ q_tbl) (hdg : decode cc pc = .ok (.getfield index, 3))
    (kk : W p l e R s m args below meth c H locs cells slots Q (F0 m (pc + 3) ls (.ref (G.1 + 111) :: rest))) : W p l e R s m args below meth c H locs cells slots Q (F0 m pc ls (.ref (G.1 + 104) :: rest)) :=
  q_get X hK hP 104 0 6 (C := RX0) (T := TX0) (N := 15) rfl in_X0 kz_104 (by decide) hlink rfl rfl hdg kk
theorem gf_X0_rules (X : CallFix p m c cc nL s args q_tbl own) (hK : q_K G s) (hP : q_P G S H) (hlink : Cond.fieldLink own index "IdealBench$Basis" "rules" "I" ∈ q_tbl) (hdg : decode cc pc = .ok (.getfield index, 3))
    (kk : W p l e R s m args below meth c H locs cells slots Q (F0 m (pc + 3) ls (.int (S 104 10) :: rest))) : W p l e R s m args below meth c H locs cells slots Q (F0 m pc ls (.ref (G.1 + 104) :: rest)) :=
  q_get X hK hP 104 0 10 (C := RX0) (T := TX0) (N := 15) rfl in_X0 kz_104 (by decide) hlink rfl rfl hdg kk
theorem gf_X0_passedChain (X : CallFix p m c cc nL s args q_tbl own) (hK : q_K G s) (hP : q_P G S H) (hlink : Cond.fieldLink own index "IdealBench$Basis" "passedChain" "I" ∈ q_tbl) (hdg : decode cc pc = .ok (.getfield index, 3))
    (kk : W p l e R s m args below meth c H locs cells slots Q (F0 m (pc + 3) ls (.int (S 104 12) :: rest))) : W p l e R s m args below meth c H locs cells slots Q (F0 m pc ls (.ref (G.1 + 104) :: rest)) :=
  q_get X hK hP 104 0 12 (C := RX0) (T := TX0) (N := 15) rfl in_X0 kz_104 (by decide) hlink rfl rfl hdg kk
theorem pf_X0_passedChain (X : CallFix p m c cc nL s args q_tbl own) (hK : q_K G s) (hP : q_P G S H) (hS : va_S (fr_ G) H0 H locs) {x : Int32} (hlink : Cond.fieldLink own index "IdealBench$Basis" "passedChain" "I" ∈ q_tbl) (hdg : decode cc pc = .ok (.putfield index, 3))
    (kk : ∀ (S1 : St) (H1 : Heap) (locs1 : List Loc), S1 = su S 104 12 x → q_P G S1 H1 → va_S (fr_ G) H0 H1 locs1 → W p l e R s m args below meth c H1 locs1 cells slots Q (F0 m (pc + 3) ls rest)) : W p l e R s m args below meth c H locs cells slots Q (F0 m pc ls (.int x :: .ref (G.1 + 104) :: rest)) :=
  q_put X hK hP hS 104 0 12 (C := RX0) (T := TX0) (N := 15) rfl in_X0 tyX0 tyX0_ok nmX0 kz_104 (by decide) hlink rfl rfl (ty := .int) (by decide +kernel) rfl rfl (by simp [objF, su, upd]) (by simp [objF]) hdg kk
theorem gf_X0_passedCoprime (X : CallFix p m c cc nL s args q_tbl own) (hK : q_K G s) (hP : q_P G S H) (hlink : Cond.fieldLink own index "IdealBench$Basis" "passedCoprime" "I" ∈ q_tbl) (hdg : decode cc pc = .ok (.getfield index, 3))
    (kk : W p l e R s m args below meth c H locs cells slots Q (F0 m (pc + 3) ls (.int (S 104 11) :: rest))) : W p l e R s m args below meth c H locs cells slots Q (F0 m pc ls (.ref (G.1 + 104) :: rest)) :=
  q_get X hK hP 104 0 11 (C := RX0) (T := TX0) (N := 15) rfl in_X0 kz_104 (by decide) hlink rfl rfl hdg kk
theorem pf_X0_passedCoprime (X : CallFix p m c cc nL s args q_tbl own) (hK : q_K G s) (hP : q_P G S H) (hS : va_S (fr_ G) H0 H locs) {x : Int32} (hlink : Cond.fieldLink own index "IdealBench$Basis" "passedCoprime" "I" ∈ q_tbl) (hdg : decode cc pc = .ok (.putfield index, 3))
    (kk : ∀ (S1 : St) (H1 : Heap) (locs1 : List Loc), S1 = su S 104 11 x → q_P G S1 H1 → va_S (fr_ G) H0 H1 locs1 → W p l e R s m args below meth c H1 locs1 cells slots Q (F0 m (pc + 3) ls rest)) : W p l e R s m args below meth c H locs cells slots Q (F0 m pc ls (.int x :: .ref (G.1 + 104) :: rest)) :=
  q_put X hK hP hS 104 0 11 (C := RX0) (T := TX0) (N := 15) rfl in_X0 tyX0 tyX0_ok nmX0 kz_104 (by decide) hlink rfl rfl (ty := .int) (by decide +kernel) rfl rfl (by simp [objF, su, upd]) (by simp [objF]) hdg kk
theorem gf_X0_stay (X : CallFix p m c cc nL s args q_tbl own) (hK : q_K G s) (hP : q_P G S H) (hlink : Cond.fieldLink own index "IdealBench$Basis" "stay" "[I" ∈ q_tbl) (hdg : decode cc pc = .ok (.getfield index, 3))
    (kk : W p l e R s m args below meth c H locs cells slots Q (F0 m (pc + 3) ls (.ref (G.1 + 110) :: rest))) : W p l e R s m args below meth c H locs cells slots Q (F0 m pc ls (.ref (G.1 + 104) :: rest)) :=
  q_get X hK hP 104 0 5 (C := RX0) (T := TX0) (N := 15) rfl in_X0 kz_104 (by decide) hlink rfl rfl hdg kk
theorem gf_X0_spare (X : CallFix p m c cc nL s args q_tbl own) (hK : q_K G s) (hP : q_P G S H) (hlink : Cond.fieldLink own index "IdealBench$Basis" "spare" "[LIdealBench$Poly;" ∈ q_tbl) (hdg : decode cc pc = .ok (.getfield index, 3))
    (kk : W p l e R s m args below meth c H locs cells slots Q (F0 m (pc + 3) ls (.ref (G.1 + q_rf (S 104 4)) :: rest))) : W p l e R s m args below meth c H locs cells slots Q (F0 m pc ls (.ref (G.1 + 104) :: rest)) :=
  q_get X hK hP 104 0 4 (C := RX0) (T := TX0) (N := 15) rfl in_X0 kz_104 (by decide) hlink rfl rfl hdg kk
theorem pf_X0_rows (X : CallFix p m c cc nL s args q_tbl own) (hK : q_K G s) (hP : q_P G S H) (hS : va_S (fr_ G) H0 H locs) {b : Nat} (hb : isR b) (hlink : Cond.fieldLink own index "IdealBench$Basis" "rows" "[LIdealBench$Poly;" ∈ q_tbl) (hdg : decode cc pc = .ok (.putfield index, 3))
    (kk : ∀ (S1 : St) (H1 : Heap) (locs1 : List Loc), S1 = su S 104 3 (nI b) → q_P G S1 H1 → va_S (fr_ G) H0 H1 locs1 → W p l e R s m args below meth c H1 locs1 cells slots Q (F0 m (pc + 3) ls rest)) : W p l e R s m args below meth c H locs cells slots Q (F0 m pc ls (.ref (G.1 + b) :: .ref (G.1 + 104) :: rest)) :=
  q_put X hK hP hS 104 0 3 (C := RX0) (T := TX0) (N := 15) rfl in_X0 tyX0 tyX0_ok nmX0 kz_104 (by decide) hlink rfl rfl (ty := (.array (.object "IdealBench$Poly"))) (by decide +kernel) rfl rfl (by simp [objF, su, upd, q_rf, nI_clamp (Nat.lt_trans (isR_kd hb).1 (by decide : 242 < 2 ^ 31))]) (by simp [objF]) hdg kk
theorem pf_X0_spare (X : CallFix p m c cc nL s args q_tbl own) (hK : q_K G s) (hP : q_P G S H) (hS : va_S (fr_ G) H0 H locs) {b : Nat} (hb : isR b) (hlink : Cond.fieldLink own index "IdealBench$Basis" "spare" "[LIdealBench$Poly;" ∈ q_tbl) (hdg : decode cc pc = .ok (.putfield index, 3))
    (kk : ∀ (S1 : St) (H1 : Heap) (locs1 : List Loc), S1 = su S 104 4 (nI b) → q_P G S1 H1 → va_S (fr_ G) H0 H1 locs1 → W p l e R s m args below meth c H1 locs1 cells slots Q (F0 m (pc + 3) ls rest)) : W p l e R s m args below meth c H locs cells slots Q (F0 m pc ls (.ref (G.1 + b) :: .ref (G.1 + 104) :: rest)) :=
  q_put X hK hP hS 104 0 4 (C := RX0) (T := TX0) (N := 15) rfl in_X0 tyX0 tyX0_ok nmX0 kz_104 (by decide) hlink rfl rfl (ty := (.array (.object "IdealBench$Poly"))) (by decide +kernel) rfl rfl (by simp [objF, su, upd, q_rf, nI_clamp (Nat.lt_trans (isR_kd hb).1 (by decide : 242 < 2 ^ 31))]) (by simp [objF]) hdg kk
theorem gf_X7_monos (X : CallFix p m c cc nL s args q_tbl own) (hK : q_K G s) (hP : q_P G S H) (hlink : Cond.fieldLink own index "IdealBench$Stai\x72" "monos" "[I" ∈ q_tbl) (hdg : decode cc pc = .ok (.getfield index, 3))
    (kk : W p l e R s m args below meth c H locs cells slots Q (F0 m (pc + 3) ls (.ref (G.1 + 223) :: rest))) : W p l e R s m args below meth c H locs cells slots Q (F0 m pc ls (.ref (G.1 + 222) :: rest)) :=
  q_get X hK hP 222 6 2 (C := RX7) (T := TX7) (N := 3) rfl in_X7 kz_222 (by decide) hlink rfl rfl hdg kk
theorem gf_X7_ring (X : CallFix p m c cc nL s args q_tbl own) (hK : q_K G s) (hP : q_P G S H) (hlink : Cond.fieldLink own index "IdealBench$Stai\x72" "ring" "LIdealBench$Ring;" ∈ q_tbl) (hdg : decode cc pc = .ok (.getfield index, 3))
    (kk : W p l e R s m args below meth c H locs cells slots Q (F0 m (pc + 3) ls (.ref (G.1 + 1) :: rest))) : W p l e R s m args below meth c H locs cells slots Q (F0 m pc ls (.ref (G.1 + 222) :: rest)) :=
  q_get X hK hP 222 6 0 (C := RX7) (T := TX7) (N := 3) rfl in_X7 kz_222 (by decide) hlink rfl rfl hdg kk
theorem gf_X7_basis (X : CallFix p m c cc nL s args q_tbl own) (hK : q_K G s) (hP : q_P G S H) (hlink : Cond.fieldLink own index "IdealBench$Stai\x72" "basis" "LIdealBench$Basis;" ∈ q_tbl) (hdg : decode cc pc = .ok (.getfield index, 3))
    (kk : W p l e R s m args below meth c H locs cells slots Q (F0 m (pc + 3) ls (.ref (G.1 + 104) :: rest))) : W p l e R s m args below meth c H locs cells slots Q (F0 m pc ls (.ref (G.1 + 222) :: rest)) :=
  q_get X hK hP 222 6 1 (C := RX7) (T := TX7) (N := 3) rfl in_X7 kz_222 (by decide) hlink rfl rfl hdg kk
theorem gf_X8_shelf (X : CallFix p m c cc nL s args q_tbl own) (hK : q_K G s) (hP : q_P G S H) (hlink : Cond.fieldLink own index "IdealBench" "shelf" "LIdealBench$Shelf;" ∈ q_tbl) (hdg : decode cc pc = .ok (.getfield index, 3))
    (kk : W p l e R s m args below meth c H locs cells slots Q (F0 m (pc + 3) ls (.ref (G.1 + 19) :: rest))) : W p l e R s m args below meth c H locs cells slots Q (F0 m pc ls (.ref (G.1 + 0) :: rest)) :=
  q_get X hK hP 0 7 4 (C := RX8) (T := TX8) (N := 8) rfl in_X8 kz_0 (by decide) hlink rfl rfl hdg kk
theorem gf_X8_ring (X : CallFix p m c cc nL s args q_tbl own) (hK : q_K G s) (hP : q_P G S H) (hlink : Cond.fieldLink own index "IdealBench" "ring" "LIdealBench$Ring;" ∈ q_tbl) (hdg : decode cc pc = .ok (.getfield index, 3))
    (kk : W p l e R s m args below meth c H locs cells slots Q (F0 m (pc + 3) ls (.ref (G.1 + 1) :: rest))) : W p l e R s m args below meth c H locs cells slots Q (F0 m pc ls (.ref (G.1 + 0) :: rest)) :=
  q_get X hK hP 0 7 0 (C := RX8) (T := TX8) (N := 8) rfl in_X8 kz_0 (by decide) hlink rfl rfl hdg kk
theorem gf_X8_basis (X : CallFix p m c cc nL s args q_tbl own) (hK : q_K G s) (hP : q_P G S H) (hlink : Cond.fieldLink own index "IdealBench" "basis" "LIdealBench$Basis;" ∈ q_tbl) (hdg : decode cc pc = .ok (.getfield index, 3))
    (kk : W p l e R s m args below meth c H locs cells slots Q (F0 m (pc + 3) ls (.ref (G.1 + 104) :: rest))) : W p l e R s m args below meth c H locs cells slots Q (F0 m pc ls (.ref (G.1 + 0) :: rest)) :=
  q_get X hK hP 0 7 6 (C := RX8) (T := TX8) (N := 8) rfl in_X8 kz_0 (by decide) hlink rfl rfl hdg kk
theorem pf_X5_order (X : CallFix p m c cc nL s args q_tbl own) (hK : q_K G s) (hP : q_P G S H) (hS : va_S (fr_ G) H0 H locs) {x : Int32} (hlink : Cond.fieldLink own index "IdealBench$Ring" "orde\x72" "I" ∈ q_tbl) (hdg : decode cc pc = .ok (.putfield index, 3))
    (kk : ∀ (S1 : St) (H1 : Heap) (locs1 : List Loc), S1 = su S 1 2 x → q_P G S1 H1 → va_S (fr_ G) H0 H1 locs1 → W p l e R s m args below meth c H1 locs1 cells slots Q (F0 m (pc + 3) ls rest)) : W p l e R s m args below meth c H locs cells slots Q (F0 m pc ls (.int x :: .ref (G.1 + 1) :: rest)) :=
  q_put X hK hP hS 1 4 2 (C := RX5) (T := TX5) (N := 7) rfl in_X5 tyX5 tyX5_ok nmX5 kz_1 (by decide) hlink rfl rfl (ty := .int) (by decide +kernel) rfl rfl (by simp [objF, su, upd]) (by simp [objF]) hdg kk
theorem gf_X8_draft (X : CallFix p m c cc nL s args q_tbl own) (hK : q_K G s) (hP : q_P G S H) (hlink : Cond.fieldLink own index "IdealBench" "draft" "LIdealBench$Poly;" ∈ q_tbl) (hdg : decode cc pc = .ok (.getfield index, 3))
    (kk : W p l e R s m args below meth c H locs cells slots Q (F0 m (pc + 3) ls (.ref (G.1 + 10) :: rest))) : W p l e R s m args below meth c H locs cells slots Q (F0 m pc ls (.ref (G.1 + 0) :: rest)) :=
  q_get X hK hP 0 7 1 (C := RX8) (T := TX8) (N := 8) rfl in_X8 kz_0 (by decide) hlink rfl rfl hdg kk
theorem gf_X8_result (X : CallFix p m c cc nL s args q_tbl own) (hK : q_K G s) (hP : q_P G S H) (hlink : Cond.fieldLink own index "IdealBench" "result" "LIdealBench$Poly;" ∈ q_tbl) (hdg : decode cc pc = .ok (.getfield index, 3))
    (kk : W p l e R s m args below meth c H locs cells slots Q (F0 m (pc + 3) ls (.ref (G.1 + 16) :: rest))) : W p l e R s m args below meth c H locs cells slots Q (F0 m pc ls (.ref (G.1 + 0) :: rest)) :=
  q_get X hK hP 0 7 3 (C := RX8) (T := TX8) (N := 8) rfl in_X8 kz_0 (by decide) hlink rfl rfl hdg kk
theorem gf_X8_unit (X : CallFix p m c cc nL s args q_tbl own) (hK : q_K G s) (hP : q_P G S H) (hlink : Cond.fieldLink own index "IdealBench" "unit" "LIdealBench$Poly;" ∈ q_tbl) (hdg : decode cc pc = .ok (.getfield index, 3))
    (kk : W p l e R s m args below meth c H locs cells slots Q (F0 m (pc + 3) ls (.ref (G.1 + 13) :: rest))) : W p l e R s m args below meth c H locs cells slots Q (F0 m pc ls (.ref (G.1 + 0) :: rest)) :=
  q_get X hK hP 0 7 2 (C := RX8) (T := TX8) (N := 8) rfl in_X8 kz_0 (by decide) hlink rfl rfl hdg kk
theorem gf_X8_reducer (X : CallFix p m c cc nL s args q_tbl own) (hK : q_K G s) (hP : q_P G S H) (hlink : Cond.fieldLink own index "IdealBench" "reduce\x72" "LIdealBench$Reducer;" ∈ q_tbl) (hdg : decode cc pc = .ok (.getfield index, 3))
    (kk : W p l e R s m args below meth c H locs cells slots Q (F0 m (pc + 3) ls (.ref (G.1 + 94) :: rest))) : W p l e R s m args below meth c H locs cells slots Q (F0 m pc ls (.ref (G.1 + 0) :: rest)) :=
  q_get X hK hP 0 7 5 (C := RX8) (T := TX8) (N := 8) rfl in_X8 kz_0 (by decide) hlink rfl rfl hdg kk
theorem pf_X4_fuel (X : CallFix p m c cc nL s args q_tbl own) (hK : q_K G s) (hP : q_P G S H) (hS : va_S (fr_ G) H0 H locs) {x : Int32} (hlink : Cond.fieldLink own index "IdealBench$Reduce\x72" "fuel" "I" ∈ q_tbl) (hdg : decode cc pc = .ok (.putfield index, 3))
    (kk : ∀ (S1 : St) (H1 : Heap) (locs1 : List Loc), S1 = su S 94 4 x → q_P G S1 H1 → va_S (fr_ G) H0 H1 locs1 → W p l e R s m args below meth c H1 locs1 cells slots Q (F0 m (pc + 3) ls rest)) : W p l e R s m args below meth c H locs cells slots Q (F0 m pc ls (.int x :: .ref (G.1 + 94) :: rest)) :=
  q_put X hK hP hS 94 3 4 (C := RX4) (T := TX4) (N := 7) rfl in_X4 tyX4 tyX4_ok nmX4 kz_94 (by decide) hlink rfl rfl (ty := .int) (by decide +kernel) rfl rfl (by simp [objF, su, upd]) (by simp [objF]) hdg kk
theorem pf_X0_way (X : CallFix p m c cc nL s args q_tbl own) (hK : q_K G s) (hP : q_P G S H) (hS : va_S (fr_ G) H0 H locs) {x : Int32} (hlink : Cond.fieldLink own index "IdealBench$Basis" "way" "I" ∈ q_tbl) (hdg : decode cc pc = .ok (.putfield index, 3))
    (kk : ∀ (S1 : St) (H1 : Heap) (locs1 : List Loc), S1 = su S 104 9 x → q_P G S1 H1 → va_S (fr_ G) H0 H1 locs1 → W p l e R s m args below meth c H1 locs1 cells slots Q (F0 m (pc + 3) ls rest)) : W p l e R s m args below meth c H locs cells slots Q (F0 m pc ls (.int x :: .ref (G.1 + 104) :: rest)) :=
  q_put X hK hP hS 104 0 9 (C := RX0) (T := TX0) (N := 15) rfl in_X0 tyX0 tyX0_ok nmX0 kz_104 (by decide) hlink rfl rfl (ty := .int) (by decide +kernel) rfl rfl (by simp [objF, su, upd]) (by simp [objF]) hdg kk
theorem pf_X0_rules (X : CallFix p m c cc nL s args q_tbl own) (hK : q_K G s) (hP : q_P G S H) (hS : va_S (fr_ G) H0 H locs) {x : Int32} (hlink : Cond.fieldLink own index "IdealBench$Basis" "rules" "I" ∈ q_tbl) (hdg : decode cc pc = .ok (.putfield index, 3))
    (kk : ∀ (S1 : St) (H1 : Heap) (locs1 : List Loc), S1 = su S 104 10 x → q_P G S1 H1 → va_S (fr_ G) H0 H1 locs1 → W p l e R s m args below meth c H1 locs1 cells slots Q (F0 m (pc + 3) ls rest)) : W p l e R s m args below meth c H locs cells slots Q (F0 m pc ls (.int x :: .ref (G.1 + 104) :: rest)) :=
  q_put X hK hP hS 104 0 10 (C := RX0) (T := TX0) (N := 15) rfl in_X0 tyX0 tyX0_ok nmX0 kz_104 (by decide) hlink rfl rfl (ty := .int) (by decide +kernel) rfl rfl (by simp [objF, su, upd]) (by simp [objF]) hdg kk
theorem gf_X0_isTidy (X : CallFix p m c cc nL s args q_tbl own) (hK : q_K G s) (hP : q_P G S H) (hlink : Cond.fieldLink own index "IdealBench$Basis" "isTidy" "Z" ∈ q_tbl) (hdg : decode cc pc = .ok (.getfield index, 3))
    (kk : W p l e R s m args below meth c H locs cells slots Q (F0 m (pc + 3) ls (.int (S 104 8) :: rest))) : W p l e R s m args below meth c H locs cells slots Q (F0 m pc ls (.ref (G.1 + 104) :: rest)) :=
  q_get X hK hP 104 0 8 (C := RX0) (T := TX0) (N := 15) rfl in_X0 kz_104 (by decide) hlink rfl rfl hdg kk
theorem gf_X8_stair (X : CallFix p m c cc nL s args q_tbl own) (hK : q_K G s) (hP : q_P G S H) (hlink : Cond.fieldLink own index "IdealBench" "stai\x72" "LIdealBench$Stair;" ∈ q_tbl) (hdg : decode cc pc = .ok (.getfield index, 3))
    (kk : W p l e R s m args below meth c H locs cells slots Q (F0 m (pc + 3) ls (.ref (G.1 + 222) :: rest))) : W p l e R s m args below meth c H locs cells slots Q (F0 m pc ls (.ref (G.1 + 0) :: rest)) :=
  q_get X hK hP 0 7 7 (C := RX8) (T := TX8) (N := 8) rfl in_X8 kz_0 (by decide) hlink rfl rfl hdg kk
theorem gf_X9_p (X : CallFix p m c cc nL s args q_tbl own) (hK : q_K G s) (hP : q_P G S H) (hlink : Cond.fieldLink own index "IdealBenchModel" "p" "I" ∈ q_tbl) (hdg : decode cc pc = .ok (.getfield index, 3))
    (kk : W p l e R s m args below meth c H locs cells slots Q (F0 m (pc + 3) ls (.int (S 224 0) :: rest))) : W p l e R s m args below meth c H locs cells slots Q (F0 m pc ls (.ref (G.1 + 224) :: rest)) :=
  q_get X hK hP 224 8 0 (C := RX9) (T := TX9) (N := 38) rfl in_X9 kz_224 (by decide) hlink rfl rfl hdg kk
theorem gf_X9_order (X : CallFix p m c cc nL s args q_tbl own) (hK : q_K G s) (hP : q_P G S H) (hlink : Cond.fieldLink own index "IdealBenchModel" "orde\x72" "I" ∈ q_tbl) (hdg : decode cc pc = .ok (.getfield index, 3))
    (kk : W p l e R s m args below meth c H locs cells slots Q (F0 m (pc + 3) ls (.int (S 224 2) :: rest))) : W p l e R s m args below meth c H locs cells slots Q (F0 m pc ls (.ref (G.1 + 224) :: rest)) :=
  q_get X hK hP 224 8 2 (C := RX9) (T := TX9) (N := 38) rfl in_X9 kz_224 (by decide) hlink rfl rfl hdg kk
theorem gf_X9_row (X : CallFix p m c cc nL s args q_tbl own) (hK : q_K G s) (hP : q_P G S H) (hlink : Cond.fieldLink own index "IdealBenchModel" "row" "I" ∈ q_tbl) (hdg : decode cc pc = .ok (.getfield index, 3))
    (kk : W p l e R s m args below meth c H locs cells slots Q (F0 m (pc + 3) ls (.int (S 224 20) :: rest))) : W p l e R s m args below meth c H locs cells slots Q (F0 m pc ls (.ref (G.1 + 224) :: rest)) :=
  q_get X hK hP 224 8 20 (C := RX9) (T := TX9) (N := 38) rfl in_X9 kz_224 (by decide) hlink rfl rfl hdg kk
theorem pf_X9_row (X : CallFix p m c cc nL s args q_tbl own) (hK : q_K G s) (hP : q_P G S H) (hS : va_S (fr_ G) H0 H locs) {x : Int32} (hlink : Cond.fieldLink own index "IdealBenchModel" "row" "I" ∈ q_tbl) (hdg : decode cc pc = .ok (.putfield index, 3))
    (kk : ∀ (S1 : St) (H1 : Heap) (locs1 : List Loc), S1 = su S 224 20 x → q_P G S1 H1 → va_S (fr_ G) H0 H1 locs1 → W p l e R s m args below meth c H1 locs1 cells slots Q (F0 m (pc + 3) ls rest)) : W p l e R s m args below meth c H locs cells slots Q (F0 m pc ls (.int x :: .ref (G.1 + 224) :: rest)) :=
  q_put X hK hP hS 224 8 20 (C := RX9) (T := TX9) (N := 38) rfl in_X9 tyX9 tyX9_ok nmX9 kz_224 (by decide) hlink rfl rfl (ty := .int) (by decide +kernel) rfl rfl (by simp [objF, su, upd]) (by simp [objF]) hdg kk
theorem gf_X9_rowExponents (X : CallFix p m c cc nL s args q_tbl own) (hK : q_K G s) (hP : q_P G S H) (hlink : Cond.fieldLink own index "IdealBenchModel" "rowExponents" "[I" ∈ q_tbl) (hdg : decode cc pc = .ok (.getfield index, 3))
    (kk : W p l e R s m args below meth c H locs cells slots Q (F0 m (pc + 3) ls (.ref (G.1 + 231) :: rest))) : W p l e R s m args below meth c H locs cells slots Q (F0 m pc ls (.ref (G.1 + 224) :: rest)) :=
  q_get X hK hP 224 8 22 (C := RX9) (T := TX9) (N := 38) rfl in_X9 kz_224 (by decide) hlink rfl rfl hdg kk
theorem gf_X9_one (X : CallFix p m c cc nL s args q_tbl own) (hK : q_K G s) (hP : q_P G S H) (hlink : Cond.fieldLink own index "IdealBenchModel" "one" "[I" ∈ q_tbl) (hdg : decode cc pc = .ok (.getfield index, 3))
    (kk : W p l e R s m args below meth c H locs cells slots Q (F0 m (pc + 3) ls (.ref (G.1 + 232) :: rest))) : W p l e R s m args below meth c H locs cells slots Q (F0 m pc ls (.ref (G.1 + 224) :: rest)) :=
  q_get X hK hP 224 8 23 (C := RX9) (T := TX9) (N := 38) rfl in_X9 kz_224 (by decide) hlink rfl rfl hdg kk
theorem gf_X9_rowNumber (X : CallFix p m c cc nL s args q_tbl own) (hK : q_K G s) (hP : q_P G S H) (hlink : Cond.fieldLink own index "IdealBenchModel" "rowNumbe\x72" "[I" ∈ q_tbl) (hdg : decode cc pc = .ok (.getfield index, 3))
    (kk : W p l e R s m args below meth c H locs cells slots Q (F0 m (pc + 3) ls (.ref (G.1 + 230) :: rest))) : W p l e R s m args below meth c H locs cells slots Q (F0 m pc ls (.ref (G.1 + 224) :: rest)) :=
  q_get X hK hP 224 8 21 (C := RX9) (T := TX9) (N := 38) rfl in_X9 kz_224 (by decide) hlink rfl rfl hdg kk
theorem gf_X9_numbers (X : CallFix p m c cc nL s args q_tbl own) (hK : q_K G s) (hP : q_P G S H) (hlink : Cond.fieldLink own index "IdealBenchModel" "numbers" "[I" ∈ q_tbl) (hdg : decode cc pc = .ok (.getfield index, 3))
    (kk : W p l e R s m args below meth c H locs cells slots Q (F0 m (pc + 3) ls (.ref (G.1 + 226) :: rest))) : W p l e R s m args below meth c H locs cells slots Q (F0 m pc ls (.ref (G.1 + 224) :: rest)) :=
  q_get X hK hP 224 8 4 (C := RX9) (T := TX9) (N := 38) rfl in_X9 kz_224 (by decide) hlink rfl rfl hdg kk
theorem gf_X9_exponents (X : CallFix p m c cc nL s args q_tbl own) (hK : q_K G s) (hP : q_P G S H) (hlink : Cond.fieldLink own index "IdealBenchModel" "exponents" "[I" ∈ q_tbl) (hdg : decode cc pc = .ok (.getfield index, 3))
    (kk : W p l e R s m args below meth c H locs cells slots Q (F0 m (pc + 3) ls (.ref (G.1 + 227) :: rest))) : W p l e R s m args below meth c H locs cells slots Q (F0 m pc ls (.ref (G.1 + 224) :: rest)) :=
  q_get X hK hP 224 8 5 (C := RX9) (T := TX9) (N := 38) rfl in_X9 kz_224 (by decide) hlink rfl rfl hdg kk
theorem gf_X9_by (X : CallFix p m c cc nL s args q_tbl own) (hK : q_K G s) (hP : q_P G S H) (hlink : Cond.fieldLink own index "IdealBenchModel" "by" "[I" ∈ q_tbl) (hdg : decode cc pc = .ok (.getfield index, 3))
    (kk : W p l e R s m args below meth c H locs cells slots Q (F0 m (pc + 3) ls (.ref (G.1 + 233) :: rest))) : W p l e R s m args below meth c H locs cells slots Q (F0 m pc ls (.ref (G.1 + 224) :: rest)) :=
  q_get X hK hP 224 8 24 (C := RX9) (T := TX9) (N := 38) rfl in_X9 kz_224 (by decide) hlink rfl rfl hdg kk
theorem gf_X9_many (X : CallFix p m c cc nL s args q_tbl own) (hK : q_K G s) (hP : q_P G S H) (hlink : Cond.fieldLink own index "IdealBenchModel" "many" "[I" ∈ q_tbl) (hdg : decode cc pc = .ok (.getfield index, 3))
    (kk : W p l e R s m args below meth c H locs cells slots Q (F0 m (pc + 3) ls (.ref (G.1 + 225) :: rest))) : W p l e R s m args below meth c H locs cells slots Q (F0 m pc ls (.ref (G.1 + 224) :: rest)) :=
  q_get X hK hP 224 8 3 (C := RX9) (T := TX9) (N := 38) rfl in_X9 kz_224 (by decide) hlink rfl rfl hdg kk
theorem gf_X9_basis (X : CallFix p m c cc nL s args q_tbl own) (hK : q_K G s) (hP : q_P G S H) (hlink : Cond.fieldLink own index "IdealBenchModel" "basis" "I" ∈ q_tbl) (hdg : decode cc pc = .ok (.getfield index, 3))
    (kk : W p l e R s m args below meth c H locs cells slots Q (F0 m (pc + 3) ls (.int (S 224 6) :: rest))) : W p l e R s m args below meth c H locs cells slots Q (F0 m pc ls (.ref (G.1 + 224) :: rest)) :=
  q_get X hK hP 224 8 6 (C := RX9) (T := TX9) (N := 38) rfl in_X9 kz_224 (by decide) hlink rfl rfl hdg kk
theorem pf_X9_order (X : CallFix p m c cc nL s args q_tbl own) (hK : q_K G s) (hP : q_P G S H) (hS : va_S (fr_ G) H0 H locs) {x : Int32} (hlink : Cond.fieldLink own index "IdealBenchModel" "orde\x72" "I" ∈ q_tbl) (hdg : decode cc pc = .ok (.putfield index, 3))
    (kk : ∀ (S1 : St) (H1 : Heap) (locs1 : List Loc), S1 = su S 224 2 x → q_P G S1 H1 → va_S (fr_ G) H0 H1 locs1 → W p l e R s m args below meth c H1 locs1 cells slots Q (F0 m (pc + 3) ls rest)) : W p l e R s m args below meth c H locs cells slots Q (F0 m pc ls (.int x :: .ref (G.1 + 224) :: rest)) :=
  q_put X hK hP hS 224 8 2 (C := RX9) (T := TX9) (N := 38) rfl in_X9 tyX9 tyX9_ok nmX9 kz_224 (by decide) hlink rfl rfl (ty := .int) (by decide +kernel) rfl rfl (by simp [objF, su, upd]) (by simp [objF]) hdg kk
theorem gf_X9_n (X : CallFix p m c cc nL s args q_tbl own) (hK : q_K G s) (hP : q_P G S H) (hlink : Cond.fieldLink own index "IdealBenchModel" "n" "I" ∈ q_tbl) (hdg : decode cc pc = .ok (.getfield index, 3))
    (kk : W p l e R s m args below meth c H locs cells slots Q (F0 m (pc + 3) ls (.int (S 224 1) :: rest))) : W p l e R s m args below meth c H locs cells slots Q (F0 m pc ls (.ref (G.1 + 224) :: rest)) :=
  q_get X hK hP 224 8 1 (C := RX9) (T := TX9) (N := 38) rfl in_X9 kz_224 (by decide) hlink rfl rfl hdg kk
theorem gf_X9_least (X : CallFix p m c cc nL s args q_tbl own) (hK : q_K G s) (hP : q_P G S H) (hlink : Cond.fieldLink own index "IdealBenchModel" "least" "[I" ∈ q_tbl) (hdg : decode cc pc = .ok (.getfield index, 3))
    (kk : W p l e R s m args below meth c H locs cells slots Q (F0 m (pc + 3) ls (.ref (G.1 + 234) :: rest))) : W p l e R s m args below meth c H locs cells slots Q (F0 m pc ls (.ref (G.1 + 224) :: rest)) :=
  q_get X hK hP 224 8 25 (C := RX9) (T := TX9) (N := 38) rfl in_X9 kz_224 (by decide) hlink rfl rfl hdg kk
theorem gf_X9_point (X : CallFix p m c cc nL s args q_tbl own) (hK : q_K G s) (hP : q_P G S H) (hlink : Cond.fieldLink own index "IdealBenchModel" "point" "[I" ∈ q_tbl) (hdg : decode cc pc = .ok (.getfield index, 3))
    (kk : W p l e R s m args below meth c H locs cells slots Q (F0 m (pc + 3) ls (.ref (G.1 + 235) :: rest))) : W p l e R s m args below meth c H locs cells slots Q (F0 m pc ls (.ref (G.1 + 224) :: rest)) :=
  q_get X hK hP 224 8 26 (C := RX9) (T := TX9) (N := 38) rfl in_X9 kz_224 (by decide) hlink rfl rfl hdg kk
theorem gf_X9_places (X : CallFix p m c cc nL s args q_tbl own) (hK : q_K G s) (hP : q_P G S H) (hlink : Cond.fieldLink own index "IdealBenchModel" "places" "I" ∈ q_tbl) (hdg : decode cc pc = .ok (.getfield index, 3))
    (kk : W p l e R s m args below meth c H locs cells slots Q (F0 m (pc + 3) ls (.int (S 224 27) :: rest))) : W p l e R s m args below meth c H locs cells slots Q (F0 m pc ls (.ref (G.1 + 224) :: rest)) :=
  q_get X hK hP 224 8 27 (C := RX9) (T := TX9) (N := 38) rfl in_X9 kz_224 (by decide) hlink rfl rfl hdg kk
theorem gf_X9_place (X : CallFix p m c cc nL s args q_tbl own) (hK : q_K G s) (hP : q_P G S H) (hlink : Cond.fieldLink own index "IdealBenchModel" "place" "[I" ∈ q_tbl) (hdg : decode cc pc = .ok (.getfield index, 3))
    (kk : W p l e R s m args below meth c H locs cells slots Q (F0 m (pc + 3) ls (.ref (G.1 + 236) :: rest))) : W p l e R s m args below meth c H locs cells slots Q (F0 m pc ls (.ref (G.1 + 224) :: rest)) :=
  q_get X hK hP 224 8 28 (C := RX9) (T := TX9) (N := 38) rfl in_X9 kz_224 (by decide) hlink rfl rfl hdg kk
theorem gf_X9_used (X : CallFix p m c cc nL s args q_tbl own) (hK : q_K G s) (hP : q_P G S H) (hlink : Cond.fieldLink own index "IdealBenchModel" "used" "I" ∈ q_tbl) (hdg : decode cc pc = .ok (.getfield index, 3))
    (kk : W p l e R s m args below meth c H locs cells slots Q (F0 m (pc + 3) ls (.int (S 224 29) :: rest))) : W p l e R s m args below meth c H locs cells slots Q (F0 m pc ls (.ref (G.1 + 224) :: rest)) :=
  q_get X hK hP 224 8 29 (C := RX9) (T := TX9) (N := 38) rfl in_X9 kz_224 (by decide) hlink rfl rfl hdg kk
theorem gf_X9_fuel (X : CallFix p m c cc nL s args q_tbl own) (hK : q_K G s) (hP : q_P G S H) (hlink : Cond.fieldLink own index "IdealBenchModel" "fuel" "I" ∈ q_tbl) (hdg : decode cc pc = .ok (.getfield index, 3))
    (kk : W p l e R s m args below meth c H locs cells slots Q (F0 m (pc + 3) ls (.int (S 224 10) :: rest))) : W p l e R s m args below meth c H locs cells slots Q (F0 m pc ls (.ref (G.1 + 224) :: rest)) :=
  q_get X hK hP 224 8 10 (C := RX9) (T := TX9) (N := 38) rfl in_X9 kz_224 (by decide) hlink rfl rfl hdg kk
theorem pf_X9_used (X : CallFix p m c cc nL s args q_tbl own) (hK : q_K G s) (hP : q_P G S H) (hS : va_S (fr_ G) H0 H locs) {x : Int32} (hlink : Cond.fieldLink own index "IdealBenchModel" "used" "I" ∈ q_tbl) (hdg : decode cc pc = .ok (.putfield index, 3))
    (kk : ∀ (S1 : St) (H1 : Heap) (locs1 : List Loc), S1 = su S 224 29 x → q_P G S1 H1 → va_S (fr_ G) H0 H1 locs1 → W p l e R s m args below meth c H1 locs1 cells slots Q (F0 m (pc + 3) ls rest)) : W p l e R s m args below meth c H locs cells slots Q (F0 m pc ls (.int x :: .ref (G.1 + 224) :: rest)) :=
  q_put X hK hP hS 224 8 29 (C := RX9) (T := TX9) (N := 38) rfl in_X9 tyX9 tyX9_ok nmX9 kz_224 (by decide) hlink rfl rfl (ty := .int) (by decide +kernel) rfl rfl (by simp [objF, su, upd]) (by simp [objF]) hdg kk
theorem gf_X9_reductions (X : CallFix p m c cc nL s args q_tbl own) (hK : q_K G s) (hP : q_P G S H) (hlink : Cond.fieldLink own index "IdealBenchModel" "reductions" "I" ∈ q_tbl) (hdg : decode cc pc = .ok (.getfield index, 3))
    (kk : W p l e R s m args below meth c H locs cells slots Q (F0 m (pc + 3) ls (.int (S 224 18) :: rest))) : W p l e R s m args below meth c H locs cells slots Q (F0 m pc ls (.ref (G.1 + 224) :: rest)) :=
  q_get X hK hP 224 8 18 (C := RX9) (T := TX9) (N := 38) rfl in_X9 kz_224 (by decide) hlink rfl rfl hdg kk
theorem pf_X9_reductions (X : CallFix p m c cc nL s args q_tbl own) (hK : q_K G s) (hP : q_P G S H) (hS : va_S (fr_ G) H0 H locs) {x : Int32} (hlink : Cond.fieldLink own index "IdealBenchModel" "reductions" "I" ∈ q_tbl) (hdg : decode cc pc = .ok (.putfield index, 3))
    (kk : ∀ (S1 : St) (H1 : Heap) (locs1 : List Loc), S1 = su S 224 18 x → q_P G S1 H1 → va_S (fr_ G) H0 H1 locs1 → W p l e R s m args below meth c H1 locs1 cells slots Q (F0 m (pc + 3) ls rest)) : W p l e R s m args below meth c H locs cells slots Q (F0 m pc ls (.int x :: .ref (G.1 + 224) :: rest)) :=
  q_put X hK hP hS 224 8 18 (C := RX9) (T := TX9) (N := 38) rfl in_X9 tyX9 tyX9_ok nmX9 kz_224 (by decide) hlink rfl rfl (ty := .int) (by decide +kernel) rfl rfl (by simp [objF, su, upd]) (by simp [objF]) hdg kk
theorem gf_X9_rest (X : CallFix p m c cc nL s args q_tbl own) (hK : q_K G s) (hP : q_P G S H) (hlink : Cond.fieldLink own index "IdealBenchModel" "rest" "I" ∈ q_tbl) (hdg : decode cc pc = .ok (.getfield index, 3))
    (kk : W p l e R s m args below meth c H locs cells slots Q (F0 m (pc + 3) ls (.int (S 224 30) :: rest))) : W p l e R s m args below meth c H locs cells slots Q (F0 m pc ls (.ref (G.1 + 224) :: rest)) :=
  q_get X hK hP 224 8 30 (C := RX9) (T := TX9) (N := 38) rfl in_X9 kz_224 (by decide) hlink rfl rfl hdg kk
theorem pf_X9_rest (X : CallFix p m c cc nL s args q_tbl own) (hK : q_K G s) (hP : q_P G S H) (hS : va_S (fr_ G) H0 H locs) {x : Int32} (hlink : Cond.fieldLink own index "IdealBenchModel" "rest" "I" ∈ q_tbl) (hdg : decode cc pc = .ok (.putfield index, 3))
    (kk : ∀ (S1 : St) (H1 : Heap) (locs1 : List Loc), S1 = su S 224 30 x → q_P G S1 H1 → va_S (fr_ G) H0 H1 locs1 → W p l e R s m args below meth c H1 locs1 cells slots Q (F0 m (pc + 3) ls rest)) : W p l e R s m args below meth c H locs cells slots Q (F0 m pc ls (.int x :: .ref (G.1 + 224) :: rest)) :=
  q_put X hK hP hS 224 8 30 (C := RX9) (T := TX9) (N := 38) rfl in_X9 tyX9 tyX9_ok nmX9 kz_224 (by decide) hlink rfl rfl (ty := .int) (by decide +kernel) rfl rfl (by simp [objF, su, upd]) (by simp [objF]) hdg kk
theorem gf_X9_restExponents (X : CallFix p m c cc nL s args q_tbl own) (hK : q_K G s) (hP : q_P G S H) (hlink : Cond.fieldLink own index "IdealBenchModel" "restExponents" "[I" ∈ q_tbl) (hdg : decode cc pc = .ok (.getfield index, 3))
    (kk : W p l e R s m args below meth c H locs cells slots Q (F0 m (pc + 3) ls (.ref (G.1 + 238) :: rest))) : W p l e R s m args below meth c H locs cells slots Q (F0 m pc ls (.ref (G.1 + 224) :: rest)) :=
  q_get X hK hP 224 8 32 (C := RX9) (T := TX9) (N := 38) rfl in_X9 kz_224 (by decide) hlink rfl rfl hdg kk
theorem gf_X9_restNumber (X : CallFix p m c cc nL s args q_tbl own) (hK : q_K G s) (hP : q_P G S H) (hlink : Cond.fieldLink own index "IdealBenchModel" "restNumbe\x72" "[I" ∈ q_tbl) (hdg : decode cc pc = .ok (.getfield index, 3))
    (kk : W p l e R s m args below meth c H locs cells slots Q (F0 m (pc + 3) ls (.ref (G.1 + 237) :: rest))) : W p l e R s m args below meth c H locs cells slots Q (F0 m pc ls (.ref (G.1 + 224) :: rest)) :=
  q_get X hK hP 224 8 31 (C := RX9) (T := TX9) (N := 38) rfl in_X9 kz_224 (by decide) hlink rfl rfl hdg kk
theorem pf_X9_places (X : CallFix p m c cc nL s args q_tbl own) (hK : q_K G s) (hP : q_P G S H) (hS : va_S (fr_ G) H0 H locs) {x : Int32} (hlink : Cond.fieldLink own index "IdealBenchModel" "places" "I" ∈ q_tbl) (hdg : decode cc pc = .ok (.putfield index, 3))
    (kk : ∀ (S1 : St) (H1 : Heap) (locs1 : List Loc), S1 = su S 224 27 x → q_P G S1 H1 → va_S (fr_ G) H0 H1 locs1 → W p l e R s m args below meth c H1 locs1 cells slots Q (F0 m (pc + 3) ls rest)) : W p l e R s m args below meth c H locs cells slots Q (F0 m pc ls (.int x :: .ref (G.1 + 224) :: rest)) :=
  q_put X hK hP hS 224 8 27 (C := RX9) (T := TX9) (N := 38) rfl in_X9 tyX9 tyX9_ok nmX9 kz_224 (by decide) hlink rfl rfl (ty := .int) (by decide +kernel) rfl rfl (by simp [objF, su, upd]) (by simp [objF]) hdg kk
theorem pf_X9_fuel (X : CallFix p m c cc nL s args q_tbl own) (hK : q_K G s) (hP : q_P G S H) (hS : va_S (fr_ G) H0 H locs) {x : Int32} (hlink : Cond.fieldLink own index "IdealBenchModel" "fuel" "I" ∈ q_tbl) (hdg : decode cc pc = .ok (.putfield index, 3))
    (kk : ∀ (S1 : St) (H1 : Heap) (locs1 : List Loc), S1 = su S 224 10 x → q_P G S1 H1 → va_S (fr_ G) H0 H1 locs1 → W p l e R s m args below meth c H1 locs1 cells slots Q (F0 m (pc + 3) ls rest)) : W p l e R s m args below meth c H locs cells slots Q (F0 m pc ls (.int x :: .ref (G.1 + 224) :: rest)) :=
  q_put X hK hP hS 224 8 10 (C := RX9) (T := TX9) (N := 38) rfl in_X9 tyX9 tyX9_ok nmX9 kz_224 (by decide) hlink rfl rfl (ty := .int) (by decide +kernel) rfl rfl (by simp [objF, su, upd]) (by simp [objF]) hdg kk
theorem gf_X9_way (X : CallFix p m c cc nL s args q_tbl own) (hK : q_K G s) (hP : q_P G S H) (hlink : Cond.fieldLink own index "IdealBenchModel" "way" "I" ∈ q_tbl) (hdg : decode cc pc = .ok (.getfield index, 3))
    (kk : W p l e R s m args below meth c H locs cells slots Q (F0 m (pc + 3) ls (.int (S 224 11) :: rest))) : W p l e R s m args below meth c H locs cells slots Q (F0 m pc ls (.ref (G.1 + 224) :: rest)) :=
  q_get X hK hP 224 8 11 (C := RX9) (T := TX9) (N := 38) rfl in_X9 kz_224 (by decide) hlink rfl rfl hdg kk
theorem pf_X9_way (X : CallFix p m c cc nL s args q_tbl own) (hK : q_K G s) (hP : q_P G S H) (hS : va_S (fr_ G) H0 H locs) {x : Int32} (hlink : Cond.fieldLink own index "IdealBenchModel" "way" "I" ∈ q_tbl) (hdg : decode cc pc = .ok (.putfield index, 3))
    (kk : ∀ (S1 : St) (H1 : Heap) (locs1 : List Loc), S1 = su S 224 11 x → q_P G S1 H1 → va_S (fr_ G) H0 H1 locs1 → W p l e R s m args below meth c H1 locs1 cells slots Q (F0 m (pc + 3) ls rest)) : W p l e R s m args below meth c H locs cells slots Q (F0 m pc ls (.int x :: .ref (G.1 + 224) :: rest)) :=
  q_put X hK hP hS 224 8 11 (C := RX9) (T := TX9) (N := 38) rfl in_X9 tyX9 tyX9_ok nmX9 kz_224 (by decide) hlink rfl rfl (ty := .int) (by decide +kernel) rfl rfl (by simp [objF, su, upd]) (by simp [objF]) hdg kk
theorem gf_X9_rules (X : CallFix p m c cc nL s args q_tbl own) (hK : q_K G s) (hP : q_P G S H) (hlink : Cond.fieldLink own index "IdealBenchModel" "rules" "I" ∈ q_tbl) (hdg : decode cc pc = .ok (.getfield index, 3))
    (kk : W p l e R s m args below meth c H locs cells slots Q (F0 m (pc + 3) ls (.int (S 224 12) :: rest))) : W p l e R s m args below meth c H locs cells slots Q (F0 m pc ls (.ref (G.1 + 224) :: rest)) :=
  q_get X hK hP 224 8 12 (C := RX9) (T := TX9) (N := 38) rfl in_X9 kz_224 (by decide) hlink rfl rfl hdg kk
theorem pf_X9_rules (X : CallFix p m c cc nL s args q_tbl own) (hK : q_K G s) (hP : q_P G S H) (hS : va_S (fr_ G) H0 H locs) {x : Int32} (hlink : Cond.fieldLink own index "IdealBenchModel" "rules" "I" ∈ q_tbl) (hdg : decode cc pc = .ok (.putfield index, 3))
    (kk : ∀ (S1 : St) (H1 : Heap) (locs1 : List Loc), S1 = su S 224 12 x → q_P G S1 H1 → va_S (fr_ G) H0 H1 locs1 → W p l e R s m args below meth c H1 locs1 cells slots Q (F0 m (pc + 3) ls rest)) : W p l e R s m args below meth c H locs cells slots Q (F0 m pc ls (.int x :: .ref (G.1 + 224) :: rest)) :=
  q_put X hK hP hS 224 8 12 (C := RX9) (T := TX9) (N := 38) rfl in_X9 tyX9 tyX9_ok nmX9 kz_224 (by decide) hlink rfl rfl (ty := .int) (by decide +kernel) rfl rfl (by simp [objF, su, upd]) (by simp [objF]) hdg kk
theorem pf_X9_basis (X : CallFix p m c cc nL s args q_tbl own) (hK : q_K G s) (hP : q_P G S H) (hS : va_S (fr_ G) H0 H locs) {x : Int32} (hlink : Cond.fieldLink own index "IdealBenchModel" "basis" "I" ∈ q_tbl) (hdg : decode cc pc = .ok (.putfield index, 3))
    (kk : ∀ (S1 : St) (H1 : Heap) (locs1 : List Loc), S1 = su S 224 6 x → q_P G S1 H1 → va_S (fr_ G) H0 H1 locs1 → W p l e R s m args below meth c H1 locs1 cells slots Q (F0 m (pc + 3) ls rest)) : W p l e R s m args below meth c H locs cells slots Q (F0 m pc ls (.int x :: .ref (G.1 + 224) :: rest)) :=
  q_put X hK hP hS 224 8 6 (C := RX9) (T := TX9) (N := 38) rfl in_X9 tyX9 tyX9_ok nmX9 kz_224 (by decide) hlink rfl rfl (ty := .int) (by decide +kernel) rfl rfl (by simp [objF, su, upd]) (by simp [objF]) hdg kk
theorem gf_X9_pairI (X : CallFix p m c cc nL s args q_tbl own) (hK : q_K G s) (hP : q_P G S H) (hlink : Cond.fieldLink own index "IdealBenchModel" "pairI" "[I" ∈ q_tbl) (hdg : decode cc pc = .ok (.getfield index, 3))
    (kk : W p l e R s m args below meth c H locs cells slots Q (F0 m (pc + 3) ls (.ref (G.1 + 228) :: rest))) : W p l e R s m args below meth c H locs cells slots Q (F0 m pc ls (.ref (G.1 + 224) :: rest)) :=
  q_get X hK hP 224 8 8 (C := RX9) (T := TX9) (N := 38) rfl in_X9 kz_224 (by decide) hlink rfl rfl hdg kk
theorem gf_X9_pairs (X : CallFix p m c cc nL s args q_tbl own) (hK : q_K G s) (hP : q_P G S H) (hlink : Cond.fieldLink own index "IdealBenchModel" "pairs" "I" ∈ q_tbl) (hdg : decode cc pc = .ok (.getfield index, 3))
    (kk : W p l e R s m args below meth c H locs cells slots Q (F0 m (pc + 3) ls (.int (S 224 7) :: rest))) : W p l e R s m args below meth c H locs cells slots Q (F0 m pc ls (.ref (G.1 + 224) :: rest)) :=
  q_get X hK hP 224 8 7 (C := RX9) (T := TX9) (N := 38) rfl in_X9 kz_224 (by decide) hlink rfl rfl hdg kk
theorem gf_X9_pairJ (X : CallFix p m c cc nL s args q_tbl own) (hK : q_K G s) (hP : q_P G S H) (hlink : Cond.fieldLink own index "IdealBenchModel" "pairJ" "[I" ∈ q_tbl) (hdg : decode cc pc = .ok (.getfield index, 3))
    (kk : W p l e R s m args below meth c H locs cells slots Q (F0 m (pc + 3) ls (.ref (G.1 + 229) :: rest))) : W p l e R s m args below meth c H locs cells slots Q (F0 m pc ls (.ref (G.1 + 224) :: rest)) :=
  q_get X hK hP 224 8 9 (C := RX9) (T := TX9) (N := 38) rfl in_X9 kz_224 (by decide) hlink rfl rfl hdg kk
theorem pf_X9_pairs (X : CallFix p m c cc nL s args q_tbl own) (hK : q_K G s) (hP : q_P G S H) (hS : va_S (fr_ G) H0 H locs) {x : Int32} (hlink : Cond.fieldLink own index "IdealBenchModel" "pairs" "I" ∈ q_tbl) (hdg : decode cc pc = .ok (.putfield index, 3))
    (kk : ∀ (S1 : St) (H1 : Heap) (locs1 : List Loc), S1 = su S 224 7 x → q_P G S1 H1 → va_S (fr_ G) H0 H1 locs1 → W p l e R s m args below meth c H1 locs1 cells slots Q (F0 m (pc + 3) ls rest)) : W p l e R s m args below meth c H locs cells slots Q (F0 m pc ls (.int x :: .ref (G.1 + 224) :: rest)) :=
  q_put X hK hP hS 224 8 7 (C := RX9) (T := TX9) (N := 38) rfl in_X9 tyX9 tyX9_ok nmX9 kz_224 (by decide) hlink rfl rfl (ty := .int) (by decide +kernel) rfl rfl (by simp [objF, su, upd]) (by simp [objF]) hdg kk
theorem pf_X9_isTidy (X : CallFix p m c cc nL s args q_tbl own) (hK : q_K G s) (hP : q_P G S H) (hS : va_S (fr_ G) H0 H locs) {x : Int32} (hn : narrow .boolean (.int x) = .int x ∧ fits .boolean (.int x) = true) (hlink : Cond.fieldLink own index "IdealBenchModel" "isTidy" "Z" ∈ q_tbl) (hdg : decode cc pc = .ok (.putfield index, 3))
    (kk : ∀ (S1 : St) (H1 : Heap) (locs1 : List Loc), S1 = su S 224 13 x → q_P G S1 H1 → va_S (fr_ G) H0 H1 locs1 → W p l e R s m args below meth c H1 locs1 cells slots Q (F0 m (pc + 3) ls rest)) : W p l e R s m args below meth c H locs cells slots Q (F0 m pc ls (.int x :: .ref (G.1 + 224) :: rest)) :=
  q_put X hK hP hS 224 8 13 (C := RX9) (T := TX9) (N := 38) rfl in_X9 tyX9 tyX9_ok nmX9 kz_224 (by decide) hlink rfl rfl (ty := .boolean) (by decide +kernel) hn.1 hn.2 (by simp [objF, su, upd]) (by simp [objF]) hdg kk
theorem gf_X9_best (X : CallFix p m c cc nL s args q_tbl own) (hK : q_K G s) (hP : q_P G S H) (hlink : Cond.fieldLink own index "IdealBenchModel" "best" "[I" ∈ q_tbl) (hdg : decode cc pc = .ok (.getfield index, 3))
    (kk : W p l e R s m args below meth c H locs cells slots Q (F0 m (pc + 3) ls (.ref (G.1 + 239) :: rest))) : W p l e R s m args below meth c H locs cells slots Q (F0 m pc ls (.ref (G.1 + 224) :: rest)) :=
  q_get X hK hP 224 8 33 (C := RX9) (T := TX9) (N := 38) rfl in_X9 kz_224 (by decide) hlink rfl rfl hdg kk
theorem gf_X9_leftNothing (X : CallFix p m c cc nL s args q_tbl own) (hK : q_K G s) (hP : q_P G S H) (hlink : Cond.fieldLink own index "IdealBenchModel" "leftNothing" "I" ∈ q_tbl) (hdg : decode cc pc = .ok (.getfield index, 3))
    (kk : W p l e R s m args below meth c H locs cells slots Q (F0 m (pc + 3) ls (.int (S 224 17) :: rest))) : W p l e R s m args below meth c H locs cells slots Q (F0 m pc ls (.ref (G.1 + 224) :: rest)) :=
  q_get X hK hP 224 8 17 (C := RX9) (T := TX9) (N := 38) rfl in_X9 kz_224 (by decide) hlink rfl rfl hdg kk
theorem pf_X9_leftNothing (X : CallFix p m c cc nL s args q_tbl own) (hK : q_K G s) (hP : q_P G S H) (hS : va_S (fr_ G) H0 H locs) {x : Int32} (hlink : Cond.fieldLink own index "IdealBenchModel" "leftNothing" "I" ∈ q_tbl) (hdg : decode cc pc = .ok (.putfield index, 3))
    (kk : ∀ (S1 : St) (H1 : Heap) (locs1 : List Loc), S1 = su S 224 17 x → q_P G S1 H1 → va_S (fr_ G) H0 H1 locs1 → W p l e R s m args below meth c H1 locs1 cells slots Q (F0 m (pc + 3) ls rest)) : W p l e R s m args below meth c H locs cells slots Q (F0 m pc ls (.int x :: .ref (G.1 + 224) :: rest)) :=
  q_put X hK hP hS 224 8 17 (C := RX9) (T := TX9) (N := 38) rfl in_X9 tyX9 tyX9_ok nmX9 kz_224 (by decide) hlink rfl rfl (ty := .int) (by decide +kernel) rfl rfl (by simp [objF, su, upd]) (by simp [objF]) hdg kk
theorem gf_X9_leftSome (X : CallFix p m c cc nL s args q_tbl own) (hK : q_K G s) (hP : q_P G S H) (hlink : Cond.fieldLink own index "IdealBenchModel" "leftSome" "I" ∈ q_tbl) (hdg : decode cc pc = .ok (.getfield index, 3))
    (kk : W p l e R s m args below meth c H locs cells slots Q (F0 m (pc + 3) ls (.int (S 224 16) :: rest))) : W p l e R s m args below meth c H locs cells slots Q (F0 m pc ls (.ref (G.1 + 224) :: rest)) :=
  q_get X hK hP 224 8 16 (C := RX9) (T := TX9) (N := 38) rfl in_X9 kz_224 (by decide) hlink rfl rfl hdg kk
theorem pf_X9_leftSome (X : CallFix p m c cc nL s args q_tbl own) (hK : q_K G s) (hP : q_P G S H) (hS : va_S (fr_ G) H0 H locs) {x : Int32} (hlink : Cond.fieldLink own index "IdealBenchModel" "leftSome" "I" ∈ q_tbl) (hdg : decode cc pc = .ok (.putfield index, 3))
    (kk : ∀ (S1 : St) (H1 : Heap) (locs1 : List Loc), S1 = su S 224 16 x → q_P G S1 H1 → va_S (fr_ G) H0 H1 locs1 → W p l e R s m args below meth c H1 locs1 cells slots Q (F0 m (pc + 3) ls rest)) : W p l e R s m args below meth c H locs cells slots Q (F0 m pc ls (.int x :: .ref (G.1 + 224) :: rest)) :=
  q_put X hK hP hS 224 8 16 (C := RX9) (T := TX9) (N := 38) rfl in_X9 tyX9 tyX9_ok nmX9 kz_224 (by decide) hlink rfl rfl (ty := .int) (by decide +kernel) rfl rfl (by simp [objF, su, upd]) (by simp [objF]) hdg kk
theorem gf_X9_passedChain (X : CallFix p m c cc nL s args q_tbl own) (hK : q_K G s) (hP : q_P G S H) (hlink : Cond.fieldLink own index "IdealBenchModel" "passedChain" "I" ∈ q_tbl) (hdg : decode cc pc = .ok (.getfield index, 3))
    (kk : W p l e R s m args below meth c H locs cells slots Q (F0 m (pc + 3) ls (.int (S 224 15) :: rest))) : W p l e R s m args below meth c H locs cells slots Q (F0 m pc ls (.ref (G.1 + 224) :: rest)) :=
  q_get X hK hP 224 8 15 (C := RX9) (T := TX9) (N := 38) rfl in_X9 kz_224 (by decide) hlink rfl rfl hdg kk
theorem pf_X9_passedChain (X : CallFix p m c cc nL s args q_tbl own) (hK : q_K G s) (hP : q_P G S H) (hS : va_S (fr_ G) H0 H locs) {x : Int32} (hlink : Cond.fieldLink own index "IdealBenchModel" "passedChain" "I" ∈ q_tbl) (hdg : decode cc pc = .ok (.putfield index, 3))
    (kk : ∀ (S1 : St) (H1 : Heap) (locs1 : List Loc), S1 = su S 224 15 x → q_P G S1 H1 → va_S (fr_ G) H0 H1 locs1 → W p l e R s m args below meth c H1 locs1 cells slots Q (F0 m (pc + 3) ls rest)) : W p l e R s m args below meth c H locs cells slots Q (F0 m pc ls (.int x :: .ref (G.1 + 224) :: rest)) :=
  q_put X hK hP hS 224 8 15 (C := RX9) (T := TX9) (N := 38) rfl in_X9 tyX9 tyX9_ok nmX9 kz_224 (by decide) hlink rfl rfl (ty := .int) (by decide +kernel) rfl rfl (by simp [objF, su, upd]) (by simp [objF]) hdg kk
theorem gf_X9_passedCoprime (X : CallFix p m c cc nL s args q_tbl own) (hK : q_K G s) (hP : q_P G S H) (hlink : Cond.fieldLink own index "IdealBenchModel" "passedCoprime" "I" ∈ q_tbl) (hdg : decode cc pc = .ok (.getfield index, 3))
    (kk : W p l e R s m args below meth c H locs cells slots Q (F0 m (pc + 3) ls (.int (S 224 14) :: rest))) : W p l e R s m args below meth c H locs cells slots Q (F0 m pc ls (.ref (G.1 + 224) :: rest)) :=
  q_get X hK hP 224 8 14 (C := RX9) (T := TX9) (N := 38) rfl in_X9 kz_224 (by decide) hlink rfl rfl hdg kk
theorem pf_X9_passedCoprime (X : CallFix p m c cc nL s args q_tbl own) (hK : q_K G s) (hP : q_P G S H) (hS : va_S (fr_ G) H0 H locs) {x : Int32} (hlink : Cond.fieldLink own index "IdealBenchModel" "passedCoprime" "I" ∈ q_tbl) (hdg : decode cc pc = .ok (.putfield index, 3))
    (kk : ∀ (S1 : St) (H1 : Heap) (locs1 : List Loc), S1 = su S 224 14 x → q_P G S1 H1 → va_S (fr_ G) H0 H1 locs1 → W p l e R s m args below meth c H1 locs1 cells slots Q (F0 m (pc + 3) ls rest)) : W p l e R s m args below meth c H locs cells slots Q (F0 m pc ls (.int x :: .ref (G.1 + 224) :: rest)) :=
  q_put X hK hP hS 224 8 14 (C := RX9) (T := TX9) (N := 38) rfl in_X9 tyX9 tyX9_ok nmX9 kz_224 (by decide) hlink rfl rfl (ty := .int) (by decide +kernel) rfl rfl (by simp [objF, su, upd]) (by simp [objF]) hdg kk
theorem pf_X9_latest (X : CallFix p m c cc nL s args q_tbl own) (hK : q_K G s) (hP : q_P G S H) (hS : va_S (fr_ G) H0 H locs) {x : Int32} (hlink : Cond.fieldLink own index "IdealBenchModel" "latest" "I" ∈ q_tbl) (hdg : decode cc pc = .ok (.putfield index, 3))
    (kk : ∀ (S1 : St) (H1 : Heap) (locs1 : List Loc), S1 = su S 224 19 x → q_P G S1 H1 → va_S (fr_ G) H0 H1 locs1 → W p l e R s m args below meth c H1 locs1 cells slots Q (F0 m (pc + 3) ls rest)) : W p l e R s m args below meth c H locs cells slots Q (F0 m pc ls (.int x :: .ref (G.1 + 224) :: rest)) :=
  q_put X hK hP hS 224 8 19 (C := RX9) (T := TX9) (N := 38) rfl in_X9 tyX9 tyX9_ok nmX9 kz_224 (by decide) hlink rfl rfl (ty := .int) (by decide +kernel) rfl rfl (by simp [objF, su, upd]) (by simp [objF]) hdg kk
theorem gf_X9_tidied (X : CallFix p m c cc nL s args q_tbl own) (hK : q_K G s) (hP : q_P G S H) (hlink : Cond.fieldLink own index "IdealBenchModel" "tidied" "I" ∈ q_tbl) (hdg : decode cc pc = .ok (.getfield index, 3))
    (kk : W p l e R s m args below meth c H locs cells slots Q (F0 m (pc + 3) ls (.int (S 224 34) :: rest))) : W p l e R s m args below meth c H locs cells slots Q (F0 m pc ls (.ref (G.1 + 224) :: rest)) :=
  q_get X hK hP 224 8 34 (C := RX9) (T := TX9) (N := 38) rfl in_X9 kz_224 (by decide) hlink rfl rfl hdg kk
theorem pf_X9_tidied (X : CallFix p m c cc nL s args q_tbl own) (hK : q_K G s) (hP : q_P G S H) (hS : va_S (fr_ G) H0 H locs) {x : Int32} (hlink : Cond.fieldLink own index "IdealBenchModel" "tidied" "I" ∈ q_tbl) (hdg : decode cc pc = .ok (.putfield index, 3))
    (kk : ∀ (S1 : St) (H1 : Heap) (locs1 : List Loc), S1 = su S 224 34 x → q_P G S1 H1 → va_S (fr_ G) H0 H1 locs1 → W p l e R s m args below meth c H1 locs1 cells slots Q (F0 m (pc + 3) ls rest)) : W p l e R s m args below meth c H locs cells slots Q (F0 m pc ls (.int x :: .ref (G.1 + 224) :: rest)) :=
  q_put X hK hP hS 224 8 34 (C := RX9) (T := TX9) (N := 38) rfl in_X9 tyX9 tyX9_ok nmX9 kz_224 (by decide) hlink rfl rfl (ty := .int) (by decide +kernel) rfl rfl (by simp [objF, su, upd]) (by simp [objF]) hdg kk
theorem gf_X9_isTidy (X : CallFix p m c cc nL s args q_tbl own) (hK : q_K G s) (hP : q_P G S H) (hlink : Cond.fieldLink own index "IdealBenchModel" "isTidy" "Z" ∈ q_tbl) (hdg : decode cc pc = .ok (.getfield index, 3))
    (kk : W p l e R s m args below meth c H locs cells slots Q (F0 m (pc + 3) ls (.int (S 224 13) :: rest))) : W p l e R s m args below meth c H locs cells slots Q (F0 m pc ls (.ref (G.1 + 224) :: rest)) :=
  q_get X hK hP 224 8 13 (C := RX9) (T := TX9) (N := 38) rfl in_X9 kz_224 (by decide) hlink rfl rfl hdg kk
theorem gf_X9_stood (X : CallFix p m c cc nL s args q_tbl own) (hK : q_K G s) (hP : q_P G S H) (hlink : Cond.fieldLink own index "IdealBenchModel" "stood" "I" ∈ q_tbl) (hdg : decode cc pc = .ok (.getfield index, 3))
    (kk : W p l e R s m args below meth c H locs cells slots Q (F0 m (pc + 3) ls (.int (S 224 35) :: rest))) : W p l e R s m args below meth c H locs cells slots Q (F0 m pc ls (.ref (G.1 + 224) :: rest)) :=
  q_get X hK hP 224 8 35 (C := RX9) (T := TX9) (N := 38) rfl in_X9 kz_224 (by decide) hlink rfl rfl hdg kk
theorem pf_X9_stood (X : CallFix p m c cc nL s args q_tbl own) (hK : q_K G s) (hP : q_P G S H) (hS : va_S (fr_ G) H0 H locs) {x : Int32} (hlink : Cond.fieldLink own index "IdealBenchModel" "stood" "I" ∈ q_tbl) (hdg : decode cc pc = .ok (.putfield index, 3))
    (kk : ∀ (S1 : St) (H1 : Heap) (locs1 : List Loc), S1 = su S 224 35 x → q_P G S1 H1 → va_S (fr_ G) H0 H1 locs1 → W p l e R s m args below meth c H1 locs1 cells slots Q (F0 m (pc + 3) ls rest)) : W p l e R s m args below meth c H locs cells slots Q (F0 m pc ls (.int x :: .ref (G.1 + 224) :: rest)) :=
  q_put X hK hP hS 224 8 35 (C := RX9) (T := TX9) (N := 38) rfl in_X9 tyX9 tyX9_ok nmX9 kz_224 (by decide) hlink rfl rfl (ty := .int) (by decide +kernel) rfl rfl (by simp [objF, su, upd]) (by simp [objF]) hdg kk
theorem gf_X9_stoodExponents (X : CallFix p m c cc nL s args q_tbl own) (hK : q_K G s) (hP : q_P G S H) (hlink : Cond.fieldLink own index "IdealBenchModel" "stoodExponents" "[I" ∈ q_tbl) (hdg : decode cc pc = .ok (.getfield index, 3))
    (kk : W p l e R s m args below meth c H locs cells slots Q (F0 m (pc + 3) ls (.ref (G.1 + 240) :: rest))) : W p l e R s m args below meth c H locs cells slots Q (F0 m pc ls (.ref (G.1 + 224) :: rest)) :=
  q_get X hK hP 224 8 36 (C := RX9) (T := TX9) (N := 38) rfl in_X9 kz_224 (by decide) hlink rfl rfl hdg kk
theorem gf_X9_ends (X : CallFix p m c cc nL s args q_tbl own) (hK : q_K G s) (hP : q_P G S H) (hlink : Cond.fieldLink own index "IdealBenchModel" "ends" "[I" ∈ q_tbl) (hdg : decode cc pc = .ok (.getfield index, 3))
    (kk : W p l e R s m args below meth c H locs cells slots Q (F0 m (pc + 3) ls (.ref (G.1 + 241) :: rest))) : W p l e R s m args below meth c H locs cells slots Q (F0 m pc ls (.ref (G.1 + 224) :: rest)) :=
  q_get X hK hP 224 8 37 (C := RX9) (T := TX9) (N := 38) rfl in_X9 kz_224 (by decide) hlink rfl rfl hdg kk
theorem gf_X9_latest (X : CallFix p m c cc nL s args q_tbl own) (hK : q_K G s) (hP : q_P G S H) (hlink : Cond.fieldLink own index "IdealBenchModel" "latest" "I" ∈ q_tbl) (hdg : decode cc pc = .ok (.getfield index, 3))
    (kk : W p l e R s m args below meth c H locs cells slots Q (F0 m (pc + 3) ls (.int (S 224 19) :: rest))) : W p l e R s m args below meth c H locs cells slots Q (F0 m pc ls (.ref (G.1 + 224) :: rest)) :=
  q_get X hK hP 224 8 19 (C := RX9) (T := TX9) (N := 38) rfl in_X9 kz_224 (by decide) hlink rfl rfl hdg kk
end GF
