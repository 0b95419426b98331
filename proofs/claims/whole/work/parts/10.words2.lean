/-! words of the makers -/
theorem tl_X8_11 : Cond.methodLink RX8 11 yX8_isPrimeInRange ∈ q_tbl := q_in 79 (by decide +kernel) rfl
theorem tl_X8_15 : Cond.methodLink RX8 15 yX5_init ∈ q_tbl := q_in 82 (by decide +kernel) rfl
theorem tl_X8_32 : Cond.methodLink RX8 32 yX3_push ∈ q_tbl := q_in 144 (by decide +kernel) rfl
theorem tl_X8_41 : Cond.methodLink RX8 41 yX6_init ∈ q_tbl := q_in 150 (by decide +kernel) rfl
theorem tl_X8_48 : Cond.methodLink RX8 48 yX4_init ∈ q_tbl := q_in 171 (by decide +kernel) rfl
theorem tl_X8_57 : Cond.methodLink RX8 57 yX0_init ∈ q_tbl := q_in 206 (by decide +kernel) rfl
theorem tl_X8_66 : Cond.methodLink RX8 66 yX7_init ∈ q_tbl := q_in 292 (by decide +kernel) rfl
theorem tl_X9_68 : Cond.methodLink RX9 68 yX9_isPrime ∈ q_tbl := q_in 767 (by decide +kernel) rfl
theorem to_X3 : Cond.methodLink RX3 3 Lib.objectInit ∈ q_tbl := q_in 91 (by decide +kernel) rfl
theorem to_X2 : Cond.methodLink RX2 3 Lib.objectInit ∈ q_tbl := q_in 215 (by decide +kernel) rfl
theorem to_X5 : Cond.methodLink RX5 3 Lib.objectInit ∈ q_tbl := q_in 85 (by decide +kernel) rfl
theorem tl_X5_22 : Cond.classLink RX5 22 RX3 ∈ q_tbl := q_in 86 (by decide +kernel) rfl
theorem ti_X3 : Cond.instantiable RX3 3 ∈ q_tbl := q_in 87 (by decide +kernel) rfl
theorem tz_X3 : Cond.initialized RX3 ∈ q_tbl := q_in 58 (by decide +kernel) rfl
theorem to_X6 : Cond.methodLink RX6 3 Lib.objectInit ∈ q_tbl := q_in 153 (by decide +kernel) rfl
theorem tl_X6_9 : Cond.classLink RX6 9 RX3 ∈ q_tbl := q_in 154 (by decide +kernel) rfl
theorem to_X4 : Cond.methodLink RX4 3 Lib.objectInit ∈ q_tbl := q_in 174 (by decide +kernel) rfl
theorem tl_X4_9 : Cond.classLink RX4 9 RX3 ∈ q_tbl := q_in 175 (by decide +kernel) rfl
theorem to_X0 : Cond.methodLink RX0 3 Lib.objectInit ∈ q_tbl := q_in 209 (by decide +kernel) rfl
theorem tl_X0_9 : Cond.classLink RX0 9 RX2 ∈ q_tbl := q_in 210 (by decide +kernel) rfl
theorem ti_X2 : Cond.instantiable RX2 3 ∈ q_tbl := q_in 211 (by decide +kernel) rfl
theorem tz_X2 : Cond.initialized RX2 ∈ q_tbl := q_in 62 (by decide +kernel) rfl
theorem tl_X0_18 : Cond.classLink RX0 18 RX3 ∈ q_tbl := q_in 232 (by decide +kernel) rfl
theorem to_X7 : Cond.methodLink RX7 3 Lib.objectInit ∈ q_tbl := q_in 295 (by decide +kernel) rfl
theorem to_X8 : Cond.methodLink RX8 3 Lib.objectInit ∈ q_tbl := q_in 74 (by decide +kernel) rfl
theorem tl_X8_9 : Cond.classLink RX8 9 RX5 ∈ q_tbl := q_in 77 (by decide +kernel) rfl
theorem ti_X5 : Cond.instantiable RX5 7 ∈ q_tbl := q_in 78 (by decide +kernel) rfl
theorem tz_X5 : Cond.initialized RX5 ∈ q_tbl := q_in 57 (by decide +kernel) rfl
theorem tl_X8_22 : Cond.classLink RX8 22 RX3 ∈ q_tbl := q_in 142 (by decide +kernel) rfl
theorem tl_X8_39 : Cond.classLink RX8 39 RX6 ∈ q_tbl := q_in 148 (by decide +kernel) rfl
theorem ti_X6 : Cond.instantiable RX6 3 ∈ q_tbl := q_in 149 (by decide +kernel) rfl
theorem tz_X6 : Cond.initialized RX6 ∈ q_tbl := q_in 59 (by decide +kernel) rfl
theorem tl_X8_46 : Cond.classLink RX8 46 RX4 ∈ q_tbl := q_in 169 (by decide +kernel) rfl
theorem ti_X4 : Cond.instantiable RX4 7 ∈ q_tbl := q_in 170 (by decide +kernel) rfl
theorem tz_X4 : Cond.initialized RX4 ∈ q_tbl := q_in 60 (by decide +kernel) rfl
theorem tl_X8_55 : Cond.classLink RX8 55 RX0 ∈ q_tbl := q_in 204 (by decide +kernel) rfl
theorem ti_X0 : Cond.instantiable RX0 15 ∈ q_tbl := q_in 205 (by decide +kernel) rfl
theorem tz_X0 : Cond.initialized RX0 ∈ q_tbl := q_in 61 (by decide +kernel) rfl
theorem tl_X8_64 : Cond.classLink RX8 64 RX7 ∈ q_tbl := q_in 290 (by decide +kernel) rfl
theorem ti_X7 : Cond.instantiable RX7 3 ∈ q_tbl := q_in 291 (by decide +kernel) rfl
theorem tz_X7 : Cond.initialized RX7 ∈ q_tbl := q_in 63 (by decide +kernel) rfl
theorem to_X9 : Cond.methodLink RX9 1 Lib.objectInit ∈ q_tbl := q_in 766 (by decide +kernel) rfl
theorem ta_0 : Cond.arrayClass .int ∈ q_tbl := q_in 114 (by decide +kernel) rfl
theorem ta_1 : Cond.arrayClass .boolean ∈ q_tbl := q_in 168 (by decide +kernel) rfl
theorem toi : Cond.instanceMethod Lib.objectInit ∈ q_tbl := q_in 75 (by decide +kernel) rfl
theorem toc : Cond.code Lib.objectInit ⟨#[0xb1]⟩ 1 none ∈ q_tbl := q_in 76 (by decide +kernel) rfl
theorem hfr_0 (G : Cx) (S : St) (E : Nat) : ∀ j, j < 15 → defaultValue (tyX0 j) = vp_V (objF2 G (sn S E fresh_0) E 0) j := by
  have e : objF2 G (sn S E fresh_0) E 0 = [.null, .null, .null, .null, .null, .null, .null, .int 0, .int 0, .int 0, .int 0, .int 0, .int 0, .int 0, .int 0] := by simp [objF2, sn, fresh_0, q_or_m1, va_rf]
  rw [e]
  exact fun j hj => (show ∀ j, j < 15 → defaultValue (tyX0 j) = vp_V [.null, .null, .null, .null, .null, .null, .null, .int 0, .int 0, .int 0, .int 0, .int 0, .int 0, .int 0, .int 0] j by decide +kernel) j hj
theorem hfr_1 (G : Cx) (S : St) (E : Nat) : ∀ j, j < 3 → defaultValue (tyX2 j) = vp_V (objF2 G (sn S E fresh_1) E 1) j := by
  have e : objF2 G (sn S E fresh_1) E 1 = [.null, .null, .int 0] := by simp [objF2, sn, fresh_1, q_or_m1, va_rf]
  rw [e]
  exact fun j hj => (show ∀ j, j < 3 → defaultValue (tyX2 j) = vp_V [.null, .null, .int 0] j by decide +kernel) j hj
theorem hfr_2 (G : Cx) (S : St) (E : Nat) : ∀ j, j < 3 → defaultValue (tyX3 j) = vp_V (objF2 G (sn S E fresh_2) E 2) j := by
  have e : objF2 G (sn S E fresh_2) E 2 = [.null, .null, .int 0] := by simp [objF2, sn, fresh_2, q_or_m1, va_rf]
  rw [e]
  exact fun j hj => (show ∀ j, j < 3 → defaultValue (tyX3 j) = vp_V [.null, .null, .int 0] j by decide +kernel) j hj
theorem hfr_3 (G : Cx) (S : St) (E : Nat) : ∀ j, j < 7 → defaultValue (tyX4 j) = vp_V (objF2 G (sn S E fresh_3) E 3) j := by
  have e : objF2 G (sn S E fresh_3) E 3 = [.null, .null, .null, .null, .int 0, .int 0, .int 0] := by simp [objF2, sn, fresh_3, q_or_m1, va_rf]
  rw [e]
  exact fun j hj => (show ∀ j, j < 7 → defaultValue (tyX4 j) = vp_V [.null, .null, .null, .null, .int 0, .int 0, .int 0] j by decide +kernel) j hj
theorem hfr_4 (G : Cx) (S : St) (E : Nat) : ∀ j, j < 7 → defaultValue (tyX5 j) = vp_V (objF2 G (sn S E fresh_4) E 4) j := by
  have e : objF2 G (sn S E fresh_4) E 4 = [.int 0, .int 0, .int 0, .null, .null, .null, .null] := by simp [objF2, sn, fresh_4, q_or_m1, va_rf]
  rw [e]
  exact fun j hj => (show ∀ j, j < 7 → defaultValue (tyX5 j) = vp_V [.int 0, .int 0, .int 0, .null, .null, .null, .null] j by decide +kernel) j hj
theorem hfr_5 (G : Cx) (S : St) (E : Nat) : ∀ j, j < 3 → defaultValue (tyX6 j) = vp_V (objF2 G (sn S E fresh_5) E 5) j := by
  have e : objF2 G (sn S E fresh_5) E 5 = [.null, .null, .int 0] := by simp [objF2, sn, fresh_5, q_or_m1, va_rf]
  rw [e]
  exact fun j hj => (show ∀ j, j < 3 → defaultValue (tyX6 j) = vp_V [.null, .null, .int 0] j by decide +kernel) j hj
theorem hfr_6 (G : Cx) (S : St) (E : Nat) : ∀ j, j < 3 → defaultValue (tyX7 j) = vp_V (objF2 G (sn S E fresh_6) E 6) j := by
  have e : objF2 G (sn S E fresh_6) E 6 = [.null, .null, .null] := by simp [objF2, sn, fresh_6, q_or_m1, va_rf]
  rw [e]
  exact fun j hj => (show ∀ j, j < 3 → defaultValue (tyX7 j) = vp_V [.null, .null, .null] j by decide +kernel) j hj
theorem hfr_7 (G : Cx) (S : St) (E : Nat) : ∀ j, j < 8 → defaultValue (tyX8 j) = vp_V (objF2 G (sn S E fresh_7) E 7) j := by
  have e : objF2 G (sn S E fresh_7) E 7 = [.null, .null, .null, .null, .null, .null, .null, .null] := by simp [objF2, sn, fresh_7, q_or_m1, va_rf]
  rw [e]
  exact fun j hj => (show ∀ j, j < 8 → defaultValue (tyX8 j) = vp_V [.null, .null, .null, .null, .null, .null, .null, .null] j by decide +kernel) j hj
theorem hfr_8 (G : Cx) (S : St) (E : Nat) : ∀ j, j < 38 → defaultValue (tyX9 j) = vp_V (objF2 G (sn S E fresh_8) E 8) j := by
  have e : objF2 G (sn S E fresh_8) E 8 = [.int 0, .int 0, .int 0, .null, .null, .null, .int 0, .int 0, .null, .null, .int 0, .int 0, .int 0, .int 0, .int 0, .int 0, .int 0, .int 0, .int 0, .int 0, .int 0, .null, .null, .null, .null, .null, .null, .int 0, .null, .int 0, .int 0, .null, .null, .null, .int 0, .int 0, .null, .null] := by simp [objF2, sn, fresh_8, q_or_m1, va_rf]
  rw [e]
  exact fun j hj => (show ∀ j, j < 38 → defaultValue (tyX9 j) = vp_V [.int 0, .int 0, .int 0, .null, .null, .null, .int 0, .int 0, .null, .null, .int 0, .int 0, .int 0, .int 0, .int 0, .int 0, .int 0, .int 0, .int 0, .int 0, .int 0, .null, .null, .null, .null, .null, .null, .int 0, .null, .int 0, .int 0, .null, .null, .null, .int 0, .int 0, .null, .null] j by decide +kernel) j hj
theorem mi_X3_init : q_I yX3_init cX3_init 1 0 := ⟨⟨q_in 90 (by decide +kernel) rfl, q_in 58 (by decide +kernel) rfl, by decide +kernel⟩, rfl, q_in 89 (by decide +kernel) rfl⟩
theorem mi_X2_init : q_I yX2_init cX2_init 1 0 := ⟨⟨q_in 214 (by decide +kernel) rfl, q_in 62 (by decide +kernel) rfl, by decide +kernel⟩, rfl, q_in 213 (by decide +kernel) rfl⟩
theorem mi_X5_init : q_I yX5_init cX5_init 3 2 := ⟨⟨q_in 84 (by decide +kernel) rfl, q_in 57 (by decide +kernel) rfl, by decide +kernel⟩, rfl, q_in 83 (by decide +kernel) rfl⟩
theorem mi_X6_init : q_I yX6_init cX6_init 2 0 := ⟨⟨q_in 152 (by decide +kernel) rfl, q_in 59 (by decide +kernel) rfl, by decide +kernel⟩, rfl, q_in 151 (by decide +kernel) rfl⟩
theorem mi_X4_init : q_I yX4_init cX4_init 2 1 := ⟨⟨q_in 173 (by decide +kernel) rfl, q_in 60 (by decide +kernel) rfl, by decide +kernel⟩, rfl, q_in 172 (by decide +kernel) rfl⟩
theorem mi_X0_init : q_I yX0_init cX0_init 4 2 := ⟨⟨q_in 208 (by decide +kernel) rfl, q_in 61 (by decide +kernel) rfl, by decide +kernel⟩, rfl, q_in 207 (by decide +kernel) rfl⟩
theorem mi_X7_init : q_I yX7_init cX7_init 3 2 := ⟨⟨q_in 294 (by decide +kernel) rfl, q_in 63 (by decide +kernel) rfl, by decide +kernel⟩, rfl, q_in 293 (by decide +kernel) rfl⟩
theorem mi_X8_init : q_I yX8_init cX8_init 3 2 := ⟨⟨q_in 73 (by decide +kernel) rfl, q_in 56 (by decide +kernel) rfl, by decide +kernel⟩, rfl, q_in 72 (by decide +kernel) rfl⟩
theorem mi_X9_init : q_I yX9_init cX9_init 4 2 := ⟨⟨q_in 765 (by decide +kernel) rfl, q_in 64 (by decide +kernel) rfl, by decide +kernel⟩, rfl, q_in 764 (by decide +kernel) rfl⟩
