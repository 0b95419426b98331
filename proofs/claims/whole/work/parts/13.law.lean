-- ===== end of PART A; then your names; then what follows =====
/-! THE CLAIM OUT OF ONE WALK OF THE LAW'S BODY. Your part is whole_start (and what it stands on); all else here is the same for every law, but numbers. -/
def R_law : String := "IdealBenchLaw"
def lw_P (b : Addr) (xs : List Int32) (args : Array Value) (s : State) : Prop := args = #[.ref b] ∧ s.IntsAt b xs ∧ xs.length ≤ 3074 ∧ (Jvm.Cond.and given_1 narrow_1).before args s = true
def lw_Q (_ : Array Value) (s : State) (o : Outcome) (t : State) : Prop := o = .returned (some (.int 1)) ∧ Framed s o t [] 600000 7302250
def lw_Z (below : List Frame) (a : Array Value) (s : State) : State → Prop := fun t => ∃ o, t.status = .running ∧ Ended t below o ∧ lw_Q a s o t
/-- the law's own end, with 1 on the stack, nothing written that was there before, its room as the claim has it -/
theorem lw_ret {p : Program} {l : Launch} {e : Env} {s : State} {m : MethodId} {below : List Frame} {meth : Method} {c : Code} {b : Nat} (hx : p.tables.exec = Jvm.exec) (hb : c.code = code) (hr : meth.sig.returnType = ret) (hlocks : meth.locks = false) {pc : Nat} {H : Heap} {ls : Array Slot} (hdg : decode code pc = .ok (.ireturn, 1)) : W p l e room_1 s m #[Value.ref b] below meth c H [] 600000 7302250 (lw_Z below #[Value.ref b] s) (F0 m pc ls [.int 1]) := by
  intro T hT X
  obtain ⟨fs, hret, hrun, hended, hW, hframe⟩ := X.leave (v := some (.int 1)) (hlocks := hlocks) (fun h => by rw [hr] at h; cases h)
  have hmeth' : T.vm.method? m = some meth := X.method'
  refine ⟨T.setFrames fs, ?_, .returned (some (.int 1)), hrun, hended, rfl, ⟨_, rfl⟩, hW, hframe⟩
  jvm_step X.here [X.here.top, hx, hb, hdg, hmeth', hr, ret, narrow_b1]
  (try refine ⟨rfl, ?_⟩); (try refine ⟨rfl, ?_⟩)
  first | (intro acts; rw [hret _ acts rfl rfl rfl]) | rw [hret _ _ rfl rfl rfl]
  exact Steps.refl _
/-- what holds at the law's entry: the machine, the code, the tables' words (any of lw_tbl by 'hts w (by decide +kernel)'), the script of L ints xs at the cell b, what the Statement gives of the start (any of its parts by flat_of_before) -/
def lw_At (p : Program) (s : State) (m : MethodId) (meth : Method) (c : Code) (b L : Nat) (xs : Nat → Int32) : Prop :=
  p.tables.exec = Jvm.exec ∧ c.code = code ∧ meth.sig.returnType = ret ∧ c.maxLocals = 4 ∧ s.vm.findClass R_law = some m.cls ∧ (∀ w ∈ lw_tbl, w.before #[Value.ref b] s = true) ∧ va_X b L xs s s.heap ∧ b < s.heap.size ∧ meth.locks = false ∧ (Jvm.Cond.and given_1 narrow_1).before #[Value.ref b] s = true
theorem tl_L_21 : Cond.methodLink RL 21 yX8_order ∈ q_tbl := q_in 332 (by decide +kernel) rfl
theorem tl_L_25 : Cond.methodLink RL 25 yX9_order ∈ q_tbl := q_in 888 (by decide +kernel) rfl
theorem tl_L_26 : Cond.methodLink RL 26 yX8_term ∈ q_tbl := q_in 348 (by decide +kernel) rfl
theorem tl_L_30 : Cond.methodLink RL 30 yX9_term ∈ q_tbl := q_in 918 (by decide +kernel) rfl
theorem tl_L_31 : Cond.methodLink RL 31 yX8_keep ∈ q_tbl := q_in 393 (by decide +kernel) rfl
theorem tl_L_35 : Cond.methodLink RL 35 yX9_keep ∈ q_tbl := q_in 934 (by decide +kernel) rfl
theorem tl_L_36 : Cond.methodLink RL 36 yX8_drop ∈ q_tbl := q_in 406 (by decide +kernel) rfl
theorem tl_L_39 : Cond.methodLink RL 39 yX9_drop ∈ q_tbl := q_in 946 (by decide +kernel) rfl
theorem tl_L_40 : Cond.methodLink RL 40 yX8_terms ∈ q_tbl := q_in 415 (by decide +kernel) rfl
theorem tl_L_43 : Cond.methodLink RL 43 yX9_terms ∈ q_tbl := q_in 950 (by decide +kernel) rfl
theorem tl_L_44 : Cond.methodLink RL 44 yX8_number ∈ q_tbl := q_in 427 (by decide +kernel) rfl
theorem tl_L_48 : Cond.methodLink RL 48 yX9_number ∈ q_tbl := q_in 958 (by decide +kernel) rfl
theorem tl_L_49 : Cond.methodLink RL 49 yX8_exponent ∈ q_tbl := q_in 431 (by decide +kernel) rfl
theorem tl_L_53 : Cond.methodLink RL 53 yX9_exponent ∈ q_tbl := q_in 962 (by decide +kernel) rfl
theorem tl_L_54 : Cond.methodLink RL 54 yX8_sum ∈ q_tbl := q_in 439 (by decide +kernel) rfl
theorem tl_L_57 : Cond.methodLink RL 57 yX9_sum ∈ q_tbl := q_in 966 (by decide +kernel) rfl
theorem tl_L_58 : Cond.methodLink RL 58 yX8_product ∈ q_tbl := q_in 447 (by decide +kernel) rfl
theorem tl_L_61 : Cond.methodLink RL 61 yX9_product ∈ q_tbl := q_in 974 (by decide +kernel) rfl
theorem tl_L_62 : Cond.methodLink RL 62 yX8_derived ∈ q_tbl := q_in 466 (by decide +kernel) rfl
theorem tl_L_65 : Cond.methodLink RL 65 yX9_derived ∈ q_tbl := q_in 978 (by decide +kernel) rfl
theorem tl_L_66 : Cond.methodLink RL 66 yX8_spair ∈ q_tbl := q_in 478 (by decide +kernel) rfl
theorem tl_L_69 : Cond.methodLink RL 69 yX9_spair ∈ q_tbl := q_in 982 (by decide +kernel) rfl
theorem tl_L_70 : Cond.methodLink RL 70 yX8_value ∈ q_tbl := q_in 507 (by decide +kernel) rfl
theorem tl_L_73 : Cond.methodLink RL 73 yX9_value ∈ q_tbl := q_in 998 (by decide +kernel) rfl
theorem tl_L_74 : Cond.methodLink RL 74 yX8_compare ∈ q_tbl := q_in 519 (by decide +kernel) rfl
theorem tl_L_77 : Cond.methodLink RL 77 yX9_compare ∈ q_tbl := q_in 1006 (by decide +kernel) rfl
theorem tl_L_78 : Cond.methodLink RL 78 yX8_fuel ∈ q_tbl := q_in 533 (by decide +kernel) rfl
theorem tl_L_81 : Cond.methodLink RL 81 yX9_fuel ∈ q_tbl := q_in 1010 (by decide +kernel) rfl
theorem tl_L_82 : Cond.methodLink RL 82 yX8_way ∈ q_tbl := q_in 537 (by decide +kernel) rfl
theorem tl_L_85 : Cond.methodLink RL 85 yX9_way ∈ q_tbl := q_in 1014 (by decide +kernel) rfl
theorem tl_L_86 : Cond.methodLink RL 86 yX8_rules ∈ q_tbl := q_in 541 (by decide +kernel) rfl
theorem tl_L_89 : Cond.methodLink RL 89 yX9_rules ∈ q_tbl := q_in 1018 (by decide +kernel) rfl
theorem tl_L_90 : Cond.methodLink RL 90 yX8_enter ∈ q_tbl := q_in 545 (by decide +kernel) rfl
theorem tl_L_93 : Cond.methodLink RL 93 yX9_enter ∈ q_tbl := q_in 1022 (by decide +kernel) rfl
theorem tl_L_94 : Cond.methodLink RL 94 yX8_clear ∈ q_tbl := q_in 567 (by decide +kernel) rfl
theorem tl_L_97 : Cond.methodLink RL 97 yX9_clear ∈ q_tbl := q_in 1030 (by decide +kernel) rfl
theorem tl_L_98 : Cond.methodLink RL 98 yX8_work ∈ q_tbl := q_in 575 (by decide +kernel) rfl
theorem tl_L_101 : Cond.methodLink RL 101 yX9_work ∈ q_tbl := q_in 1034 (by decide +kernel) rfl
theorem tl_L_102 : Cond.methodLink RL 102 yX8_tidy ∈ q_tbl := q_in 651 (by decide +kernel) rfl
theorem tl_L_105 : Cond.methodLink RL 105 yX9_tidy ∈ q_tbl := q_in 1085 (by decide +kernel) rfl
theorem tl_L_106 : Cond.methodLink RL 106 yX8_left ∈ q_tbl := q_in 673 (by decide +kernel) rfl
theorem tl_L_109 : Cond.methodLink RL 109 yX9_left ∈ q_tbl := q_in 1101 (by decide +kernel) rfl
theorem tl_L_110 : Cond.methodLink RL 110 yX8_member ∈ q_tbl := q_in 678 (by decide +kernel) rfl
theorem tl_L_113 : Cond.methodLink RL 113 yX9_member ∈ q_tbl := q_in 1105 (by decide +kernel) rfl
theorem tl_L_114 : Cond.methodLink RL 114 yX8_pair ∈ q_tbl := q_in 682 (by decide +kernel) rfl
theorem tl_L_117 : Cond.methodLink RL 117 yX9_pair ∈ q_tbl := q_in 1109 (by decide +kernel) rfl
theorem tl_L_118 : Cond.methodLink RL 118 yX8_standing ∈ q_tbl := q_in 686 (by decide +kernel) rfl
theorem tl_L_121 : Cond.methodLink RL 121 yX9_standing ∈ q_tbl := q_in 1113 (by decide +kernel) rfl
theorem tl_L_122 : Cond.methodLink RL 122 yX8_stands ∈ q_tbl := q_in 710 (by decide +kernel) rfl
theorem tl_L_125 : Cond.methodLink RL 125 yX9_stands ∈ q_tbl := q_in 1137 (by decide +kernel) rfl
theorem tl_L_126 : Cond.methodLink RL 126 yX8_without ∈ q_tbl := q_in 714 (by decide +kernel) rfl
theorem tl_L_129 : Cond.methodLink RL 129 yX9_without ∈ q_tbl := q_in 1141 (by decide +kernel) rfl
theorem tl_L_130 : Cond.methodLink RL 130 yX8_zeros ∈ q_tbl := q_in 726 (by decide +kernel) rfl
theorem tl_L_133 : Cond.methodLink RL 133 yX9_zeros ∈ q_tbl := q_in 1145 (by decide +kernel) rfl
theorem tl_L_134 : Cond.methodLink RL 134 yX8_count ∈ q_tbl := q_in 744 (by decide +kernel) rfl
theorem tl_L_137 : Cond.methodLink RL 137 yX9_count ∈ q_tbl := q_in 1149 (by decide +kernel) rfl
theorem tl_L_138 : Cond.methodLink RL 138 yX8_digest ∈ q_tbl := q_in 748 (by decide +kernel) rfl
theorem tl_L_142 : Cond.methodLink RL 142 yX9_digest ∈ q_tbl := q_in 1153 (by decide +kernel) rfl
/-- what the pure part owes: each call answers alike, and keeps PI -/
def law_ok (PI : St → Prop) : Prop :=
  (∀ (x1 : Int32) (S : St), PI S → w_X8_order x1 S (fun r1 S1 => w_X9_order x1 S1 (fun r2 S2 => r1 = r2 ∧ PI S2))) ∧
  (∀ (x1 x2 x3 x4 x5 : Int32) (S : St), PI S → w_X8_term x1 x2 x3 x4 x5 S (fun r1 S1 => w_X9_term x1 x2 x3 x4 x5 S1 (fun r2 S2 => r1 = r2 ∧ PI S2))) ∧
  (∀ (S : St), PI S → w_X8_keep S (fun r1 S1 => w_X9_keep S1 (fun r2 S2 => r1 = r2 ∧ PI S2))) ∧
  (∀ (x1 : Int32) (S : St), PI S → w_X8_drop x1 S (fun r1 S1 => w_X9_drop x1 S1 (fun r2 S2 => r1 = r2 ∧ PI S2))) ∧
  (∀ (x1 : Int32) (S : St), PI S → w_X8_terms x1 S (fun r1 S1 => w_X9_terms x1 S1 (fun r2 S2 => r1 = r2 ∧ PI S2))) ∧
  (∀ (x1 x2 : Int32) (S : St), PI S → w_X8_number x1 x2 S (fun r1 S1 => w_X9_number x1 x2 S1 (fun r2 S2 => r1 = r2 ∧ PI S2))) ∧
  (∀ (x1 x2 x3 : Int32) (S : St), PI S → w_X8_exponent x1 x2 x3 S (fun r1 S1 => w_X9_exponent x1 x2 x3 S1 (fun r2 S2 => r1 = r2 ∧ PI S2))) ∧
  (∀ (x1 x2 x3 : Int32) (S : St), PI S → w_X8_sum x1 x2 x3 S (fun r1 S1 => w_X9_sum x1 x2 x3 S1 (fun r2 S2 => r1 = r2 ∧ PI S2))) ∧
  (∀ (x1 x2 : Int32) (S : St), PI S → w_X8_product x1 x2 S (fun r1 S1 => w_X9_product x1 x2 S1 (fun r2 S2 => r1 = r2 ∧ PI S2))) ∧
  (∀ (x1 x2 : Int32) (S : St), PI S → w_X8_derived x1 x2 S (fun r1 S1 => w_X9_derived x1 x2 S1 (fun r2 S2 => r1 = r2 ∧ PI S2))) ∧
  (∀ (x1 x2 : Int32) (S : St), PI S → w_X8_spair x1 x2 S (fun r1 S1 => w_X9_spair x1 x2 S1 (fun r2 S2 => r1 = r2 ∧ PI S2))) ∧
  (∀ (x1 x2 x3 x4 x5 : Int32) (S : St), PI S → w_X8_value x1 x2 x3 x4 x5 S (fun r1 S1 => w_X9_value x1 x2 x3 x4 x5 S1 (fun r2 S2 => r1 = r2 ∧ PI S2))) ∧
  (∀ (x1 x2 : Int32) (S : St), PI S → w_X8_compare x1 x2 S (fun r1 S1 => w_X9_compare x1 x2 S1 (fun r2 S2 => r1 = r2 ∧ PI S2))) ∧
  (∀ (x1 : Int32) (S : St), PI S → w_X8_fuel x1 S (fun r1 S1 => w_X9_fuel x1 S1 (fun r2 S2 => r1 = r2 ∧ PI S2))) ∧
  (∀ (x1 : Int32) (S : St), PI S → w_X8_way x1 S (fun r1 S1 => w_X9_way x1 S1 (fun r2 S2 => r1 = r2 ∧ PI S2))) ∧
  (∀ (x1 : Int32) (S : St), PI S → w_X8_rules x1 S (fun r1 S1 => w_X9_rules x1 S1 (fun r2 S2 => r1 = r2 ∧ PI S2))) ∧
  (∀ (x1 : Int32) (S : St), PI S → w_X8_enter x1 S (fun r1 S1 => w_X9_enter x1 S1 (fun r2 S2 => r1 = r2 ∧ PI S2))) ∧
  (∀ (S : St), PI S → w_X8_clear S (fun r1 S1 => w_X9_clear S1 (fun r2 S2 => r1 = r2 ∧ PI S2))) ∧
  (∀ (x1 : Int32) (S : St), PI S → w_X8_work x1 S (fun r1 S1 => w_X9_work x1 S1 (fun r2 S2 => r1 = r2 ∧ PI S2))) ∧
  (∀ (S : St), PI S → w_X8_tidy S (fun r1 S1 => w_X9_tidy S1 (fun r2 S2 => r1 = r2 ∧ PI S2))) ∧
  (∀ (x1 : Int32) (S : St), PI S → w_X8_left x1 S (fun r1 S1 => w_X9_left x1 S1 (fun r2 S2 => r1 = r2 ∧ PI S2))) ∧
  (∀ (x1 : Int32) (S : St), PI S → w_X8_member x1 S (fun r1 S1 => w_X9_member x1 S1 (fun r2 S2 => r1 = r2 ∧ PI S2))) ∧
  (∀ (x1 : Int32) (S : St), PI S → w_X8_pair x1 S (fun r1 S1 => w_X9_pair x1 S1 (fun r2 S2 => r1 = r2 ∧ PI S2))) ∧
  (∀ (S : St), PI S → w_X8_standing S (fun r1 S1 => w_X9_standing S1 (fun r2 S2 => r1 = r2 ∧ PI S2))) ∧
  (∀ (x1 x2 : Int32) (S : St), PI S → w_X8_stands x1 x2 S (fun r1 S1 => w_X9_stands x1 x2 S1 (fun r2 S2 => r1 = r2 ∧ PI S2))) ∧
  (∀ (x1 : Int32) (S : St), PI S → w_X8_without x1 S (fun r1 S1 => w_X9_without x1 S1 (fun r2 S2 => r1 = r2 ∧ PI S2))) ∧
  (∀ (S : St), PI S → w_X8_zeros S (fun r1 S1 => w_X9_zeros S1 (fun r2 S2 => r1 = r2 ∧ PI S2))) ∧
  (∀ (x1 : Int32) (S : St), PI S → w_X8_count x1 S (fun r1 S1 => w_X9_count x1 S1 (fun r2 S2 => r1 = r2 ∧ PI S2))) ∧
  (∀ (S : St), PI S → w_X8_digest S (fun r1 S1 => w_X9_digest S1 (fun r2 S2 => r1 = r2 ∧ PI S2)))
theorem q_sw28 {x : Int32} (h : ¬ (x.toInt < 0 ∨ (28 : Int) < x.toInt)) : x = 0 ∨ x = 1 ∨ x = 2 ∨ x = 3 ∨ x = 4 ∨ x = 5 ∨ x = 6 ∨ x = 7 ∨ x = 8 ∨ x = 9 ∨ x = 10 ∨ x = 11 ∨ x = 12 ∨ x = 13 ∨ x = 14 ∨ x = 15 ∨ x = 16 ∨ x = 17 ∨ x = 18 ∨ x = 19 ∨ x = 20 ∨ x = 21 ∨ x = 22 ∨ x = 23 ∨ x = 24 ∨ x = 25 ∨ x = 26 ∨ x = 27 ∨ x = 28 := by
  obtain ⟨k, hk, rfl⟩ := q_swk (n := 28) (by decide) h
  rcases (show k = 0 ∨ k = 1 ∨ k = 2 ∨ k = 3 ∨ k = 4 ∨ k = 5 ∨ k = 6 ∨ k = 7 ∨ k = 8 ∨ k = 9 ∨ k = 10 ∨ k = 11 ∨ k = 12 ∨ k = 13 ∨ k = 14 ∨ k = 15 ∨ k = 16 ∨ k = 17 ∨ k = 18 ∨ k = 19 ∨ k = 20 ∨ k = 21 ∨ k = 22 ∨ k = 23 ∨ k = 24 ∨ k = 25 ∨ k = 26 ∨ k = 27 ∨ k = 28 by omega) with rfl | rfl | rfl | rfl | rfl | rfl | rfl | rfl | rfl | rfl | rfl | rfl | rfl | rfl | rfl | rfl | rfl | rfl | rfl | rfl | rfl | rfl | rfl | rfl | rfl | rfl | rfl | rfl | rfl <;> decide
theorem lg_cmp_self (x : Int64) : lg_cmp x x = 0 := by simp [lg_cmp]
theorem law_X {p : Program} {s : State} {m : MethodId} {meth : Method} {c : Code} {b L : Nat} {xs : Nat → Int32} (C0 : lw_At p s m meth c b L xs) : CallFix p m c cL_law 4 s #[Value.ref b] q_tbl RL :=
  ⟨C0.1, C0.2.1, C0.2.2.2.1, C0.2.2.2.2.1, fun w hw => C0.2.2.2.2.2.1 w (q_sub hw)⟩
set_option maxHeartbeats 4000000 in
set_option maxRecDepth 100000 in
theorem law_case_0 {p : Program} {e : Env} {s : State} {m : MethodId} {below : List Frame} {meth : Method} {c : Code} (l : Launch) {G : Cx} {b L : Nat} {xs : Nat → Int32} (hL : L ≤ 3074) (C0 : lw_At p s m meth c b L xs) (hG : G.1 = s.heap.size) (hK : q_K G s) (PI : St → Prop) (hop : ∀ (x1 : Int32) (S : St), PI S → w_X8_order x1 S (fun r1 S1 => w_X9_order x1 S1 (fun r2 S2 => r1 = r2 ∧ PI S2))) (x3 : Int32) (hin : ∀ k : Nat, k < 6 → vp_in (x3 + Int32.ofNat k) L) (S : St) (H : Heap) (locs : List Loc) (ls : Array Slot) (hPI : PI S) (hP : q_P G S H) (hS : va_S (fr_ G) s.heap H locs) (hl : lv_has ls 4 [(3, .int x3), (2, .ref (G.1 + 224)), (1, .ref (G.1 + 0)), (0, .ref b)])
    (hend : ∀ (S : St) (H : Heap) (locs : List Loc), PI S → q_P G S H → va_S (fr_ G) s.heap H locs → W p l e room_1 s m #[Value.ref b] below meth c H locs 600000 7302250 (lw_Z below #[Value.ref b] s) (F0 m 972 ls [])) : W p l e room_1 s m #[Value.ref b] below meth c H locs 600000 7302250 (lw_Z below #[Value.ref b] s) (F0 m 184 ls []) := by
  have X := law_X C0
  have hX := C0.2.2.2.2.2.2.1
  have hbl := C0.2.2.2.2.2.2.2.1
  have hbA : ¬ fr_ G b := by show ¬ G.1 ≤ b; rw [hG]; exact Nat.not_le.mpr hbl
  refine lv_aload_n X.1 X.2.1 dL_law_184 rfl (lv_at hl 2 rfl) ?_
  refine lv_aload_n X.1 X.2.1 dL_law_185 rfl (lv_at hl 3 rfl) ?_
  refine lv_iload_n X.1 X.2.1 dL_law_186 rfl (lv_at hl 0 rfl) ?_
  refine lv_iconst (v := 1) X.1 X.2.1 dL_law_187 (by decide) ?_
  refine lv_iadd X.1 X.2.1 dL_law_188 ?_
  refine va_sld X.1 X.2.1 hX hbl hbA hS (hin 1 (by decide)) dL_law_189 ?_
  have h := hop (xs (x3 + 1).toNatClampNeg) S hPI
  refine q_callV (rest := []) (b := 0) X hK hP hS (c_X8_order l G (xs (x3 + 1).toNatClampNeg) S _ h) my_X8_order tl_L_21 dL_law_190 kz_0 rfl rfl rfl ⟨Nat.le_of_ble_eq_true rfl, Nat.le_of_ble_eq_true rfl⟩ hl.1 rfl (Nat.le_of_ble_eq_true rfl) ⟨Nat.le_of_ble_eq_true rfl, Nat.le_of_ble_eq_true rfl⟩ (fun r1 S1 H locs h hP hS => ?_)
  refine W.eq (g2 := F0 m 193 ls [.int r1]) rfl ?_
  refine lv_aload_n X.1 X.2.1 dL_law_193 rfl (lv_at hl 1 rfl) ?_
  refine lv_aload_n X.1 X.2.1 dL_law_194 rfl (lv_at hl 3 rfl) ?_
  refine lv_iload_n X.1 X.2.1 dL_law_195 rfl (lv_at hl 0 rfl) ?_
  refine lv_iconst (v := 1) X.1 X.2.1 dL_law_196 (by decide) ?_
  refine lv_iadd X.1 X.2.1 dL_law_197 ?_
  refine va_sld X.1 X.2.1 hX hbl hbA hS (hin 1 (by decide)) dL_law_198 ?_
  refine q_callV (rest := [.int r1]) (b := 224) X hK hP hS (c_X9_order l G (xs (x3 + 1).toNatClampNeg) S1 _ h) my_X9_order tl_L_25 dL_law_199 kz_224 rfl rfl rfl ⟨Nat.le_of_ble_eq_true rfl, Nat.le_of_ble_eq_true rfl⟩ hl.1 rfl (Nat.le_of_ble_eq_true rfl) ⟨Nat.le_of_ble_eq_true rfl, Nat.le_of_ble_eq_true rfl⟩ (fun r2 S2 H locs h hP hS => ?_)
  refine W.eq (g2 := F0 m 202 ls [.int r2, .int r1]) rfl ?_
  obtain ⟨rfl, hPI⟩ := h
  refine lv_icmp_eq (tgt := 972) X.1 X.2.1 dL_law_202 (by decide) (fun _ => ?_) (fun c => absurd rfl c)
  exact hend S2 H locs hPI hP hS
set_option maxHeartbeats 4000000 in
set_option maxRecDepth 100000 in
theorem law_case_1 {p : Program} {e : Env} {s : State} {m : MethodId} {below : List Frame} {meth : Method} {c : Code} (l : Launch) {G : Cx} {b L : Nat} {xs : Nat → Int32} (hL : L ≤ 3074) (C0 : lw_At p s m meth c b L xs) (hG : G.1 = s.heap.size) (hK : q_K G s) (PI : St → Prop) (hop : ∀ (x1 x2 x3 x4 x5 : Int32) (S : St), PI S → w_X8_term x1 x2 x3 x4 x5 S (fun r1 S1 => w_X9_term x1 x2 x3 x4 x5 S1 (fun r2 S2 => r1 = r2 ∧ PI S2))) (x3 : Int32) (hin : ∀ k : Nat, k < 6 → vp_in (x3 + Int32.ofNat k) L) (S : St) (H : Heap) (locs : List Loc) (ls : Array Slot) (hPI : PI S) (hP : q_P G S H) (hS : va_S (fr_ G) s.heap H locs) (hl : lv_has ls 4 [(3, .int x3), (2, .ref (G.1 + 224)), (1, .ref (G.1 + 0)), (0, .ref b)])
    (hend : ∀ (S : St) (H : Heap) (locs : List Loc), PI S → q_P G S H → va_S (fr_ G) s.heap H locs → W p l e room_1 s m #[Value.ref b] below meth c H locs 600000 7302250 (lw_Z below #[Value.ref b] s) (F0 m 972 ls [])) : W p l e room_1 s m #[Value.ref b] below meth c H locs 600000 7302250 (lw_Z below #[Value.ref b] s) (F0 m 207 ls []) := by
  have X := law_X C0
  have hX := C0.2.2.2.2.2.2.1
  have hbl := C0.2.2.2.2.2.2.2.1
  have hbA : ¬ fr_ G b := by show ¬ G.1 ≤ b; rw [hG]; exact Nat.not_le.mpr hbl
  refine lv_aload_n X.1 X.2.1 dL_law_207 rfl (lv_at hl 2 rfl) ?_
  refine lv_aload_n X.1 X.2.1 dL_law_208 rfl (lv_at hl 3 rfl) ?_
  refine lv_iload_n X.1 X.2.1 dL_law_209 rfl (lv_at hl 0 rfl) ?_
  refine lv_iconst (v := 1) X.1 X.2.1 dL_law_210 (by decide) ?_
  refine lv_iadd X.1 X.2.1 dL_law_211 ?_
  refine va_sld X.1 X.2.1 hX hbl hbA hS (hin 1 (by decide)) dL_law_212 ?_
  refine lv_aload_n X.1 X.2.1 dL_law_213 rfl (lv_at hl 3 rfl) ?_
  refine lv_iload_n X.1 X.2.1 dL_law_214 rfl (lv_at hl 0 rfl) ?_
  refine lv_iconst (v := 2) X.1 X.2.1 dL_law_215 (by decide) ?_
  refine lv_iadd X.1 X.2.1 dL_law_216 ?_
  refine va_sld X.1 X.2.1 hX hbl hbA hS (hin 2 (by decide)) dL_law_217 ?_
  refine lv_aload_n X.1 X.2.1 dL_law_218 rfl (lv_at hl 3 rfl) ?_
  refine lv_iload_n X.1 X.2.1 dL_law_219 rfl (lv_at hl 0 rfl) ?_
  refine lv_iconst (v := 3) X.1 X.2.1 dL_law_220 (by decide) ?_
  refine lv_iadd X.1 X.2.1 dL_law_221 ?_
  refine va_sld X.1 X.2.1 hX hbl hbA hS (hin 3 (by decide)) dL_law_222 ?_
  refine lv_aload_n X.1 X.2.1 dL_law_223 rfl (lv_at hl 3 rfl) ?_
  refine lv_iload_n X.1 X.2.1 dL_law_224 rfl (lv_at hl 0 rfl) ?_
  refine lv_iconst (v := 4) X.1 X.2.1 dL_law_225 (by decide) ?_
  refine lv_iadd X.1 X.2.1 dL_law_226 ?_
  refine va_sld X.1 X.2.1 hX hbl hbA hS (hin 4 (by decide)) dL_law_227 ?_
  refine lv_aload_n X.1 X.2.1 dL_law_228 rfl (lv_at hl 3 rfl) ?_
  refine lv_iload_n X.1 X.2.1 dL_law_229 rfl (lv_at hl 0 rfl) ?_
  refine lv_iconst (v := 5) X.1 X.2.1 dL_law_230 (by decide) ?_
  refine lv_iadd X.1 X.2.1 dL_law_231 ?_
  refine va_sld X.1 X.2.1 hX hbl hbA hS (hin 5 (by decide)) dL_law_232 ?_
  have h := hop (xs (x3 + 1).toNatClampNeg) (xs (x3 + 2).toNatClampNeg) (xs (x3 + 3).toNatClampNeg) (xs (x3 + 4).toNatClampNeg) (xs (x3 + 5).toNatClampNeg) S hPI
  refine q_callV (rest := []) (b := 0) X hK hP hS (c_X8_term l G (xs (x3 + 1).toNatClampNeg) (xs (x3 + 2).toNatClampNeg) (xs (x3 + 3).toNatClampNeg) (xs (x3 + 4).toNatClampNeg) (xs (x3 + 5).toNatClampNeg) S _ h) my_X8_term tl_L_26 dL_law_233 kz_0 rfl rfl rfl ⟨Nat.le_of_ble_eq_true rfl, Nat.le_of_ble_eq_true rfl⟩ hl.1 rfl (Nat.le_of_ble_eq_true rfl) ⟨Nat.le_of_ble_eq_true rfl, Nat.le_of_ble_eq_true rfl⟩ (fun r1 S1 H locs h hP hS => ?_)
  refine W.eq (g2 := F0 m 236 ls [.int r1]) rfl ?_
  refine lv_aload_n X.1 X.2.1 dL_law_236 rfl (lv_at hl 1 rfl) ?_
  refine lv_aload_n X.1 X.2.1 dL_law_237 rfl (lv_at hl 3 rfl) ?_
  refine lv_iload_n X.1 X.2.1 dL_law_238 rfl (lv_at hl 0 rfl) ?_
  refine lv_iconst (v := 1) X.1 X.2.1 dL_law_239 (by decide) ?_
  refine lv_iadd X.1 X.2.1 dL_law_240 ?_
  refine va_sld X.1 X.2.1 hX hbl hbA hS (hin 1 (by decide)) dL_law_241 ?_
  refine lv_aload_n X.1 X.2.1 dL_law_242 rfl (lv_at hl 3 rfl) ?_
  refine lv_iload_n X.1 X.2.1 dL_law_243 rfl (lv_at hl 0 rfl) ?_
  refine lv_iconst (v := 2) X.1 X.2.1 dL_law_244 (by decide) ?_
  refine lv_iadd X.1 X.2.1 dL_law_245 ?_
  refine va_sld X.1 X.2.1 hX hbl hbA hS (hin 2 (by decide)) dL_law_246 ?_
  refine lv_aload_n X.1 X.2.1 dL_law_247 rfl (lv_at hl 3 rfl) ?_
  refine lv_iload_n X.1 X.2.1 dL_law_248 rfl (lv_at hl 0 rfl) ?_
  refine lv_iconst (v := 3) X.1 X.2.1 dL_law_249 (by decide) ?_
  refine lv_iadd X.1 X.2.1 dL_law_250 ?_
  refine va_sld X.1 X.2.1 hX hbl hbA hS (hin 3 (by decide)) dL_law_251 ?_
  refine lv_aload_n X.1 X.2.1 dL_law_252 rfl (lv_at hl 3 rfl) ?_
  refine lv_iload_n X.1 X.2.1 dL_law_253 rfl (lv_at hl 0 rfl) ?_
  refine lv_iconst (v := 4) X.1 X.2.1 dL_law_254 (by decide) ?_
  refine lv_iadd X.1 X.2.1 dL_law_255 ?_
  refine va_sld X.1 X.2.1 hX hbl hbA hS (hin 4 (by decide)) dL_law_256 ?_
  refine lv_aload_n X.1 X.2.1 dL_law_257 rfl (lv_at hl 3 rfl) ?_
  refine lv_iload_n X.1 X.2.1 dL_law_258 rfl (lv_at hl 0 rfl) ?_
  refine lv_iconst (v := 5) X.1 X.2.1 dL_law_259 (by decide) ?_
  refine lv_iadd X.1 X.2.1 dL_law_260 ?_
  refine va_sld X.1 X.2.1 hX hbl hbA hS (hin 5 (by decide)) dL_law_261 ?_
  refine q_callV (rest := [.int r1]) (b := 224) X hK hP hS (c_X9_term l G (xs (x3 + 1).toNatClampNeg) (xs (x3 + 2).toNatClampNeg) (xs (x3 + 3).toNatClampNeg) (xs (x3 + 4).toNatClampNeg) (xs (x3 + 5).toNatClampNeg) S1 _ h) my_X9_term tl_L_30 dL_law_262 kz_224 rfl rfl rfl ⟨Nat.le_of_ble_eq_true rfl, Nat.le_of_ble_eq_true rfl⟩ hl.1 rfl (Nat.le_of_ble_eq_true rfl) ⟨Nat.le_of_ble_eq_true rfl, Nat.le_of_ble_eq_true rfl⟩ (fun r2 S2 H locs h hP hS => ?_)
  refine W.eq (g2 := F0 m 265 ls [.int r2, .int r1]) rfl ?_
  obtain ⟨rfl, hPI⟩ := h
  refine lv_icmp_eq (tgt := 972) X.1 X.2.1 dL_law_265 (by decide) (fun _ => ?_) (fun c => absurd rfl c)
  exact hend S2 H locs hPI hP hS
set_option maxHeartbeats 4000000 in
set_option maxRecDepth 100000 in
theorem law_case_2 {p : Program} {e : Env} {s : State} {m : MethodId} {below : List Frame} {meth : Method} {c : Code} (l : Launch) {G : Cx} {b L : Nat} {xs : Nat → Int32} (hL : L ≤ 3074) (C0 : lw_At p s m meth c b L xs) (hG : G.1 = s.heap.size) (hK : q_K G s) (PI : St → Prop) (hop : ∀ (S : St), PI S → w_X8_keep S (fun r1 S1 => w_X9_keep S1 (fun r2 S2 => r1 = r2 ∧ PI S2))) (x3 : Int32) (hin : ∀ k : Nat, k < 6 → vp_in (x3 + Int32.ofNat k) L) (S : St) (H : Heap) (locs : List Loc) (ls : Array Slot) (hPI : PI S) (hP : q_P G S H) (hS : va_S (fr_ G) s.heap H locs) (hl : lv_has ls 4 [(3, .int x3), (2, .ref (G.1 + 224)), (1, .ref (G.1 + 0)), (0, .ref b)])
    (hend : ∀ (S : St) (H : Heap) (locs : List Loc), PI S → q_P G S H → va_S (fr_ G) s.heap H locs → W p l e room_1 s m #[Value.ref b] below meth c H locs 600000 7302250 (lw_Z below #[Value.ref b] s) (F0 m 972 ls [])) : W p l e room_1 s m #[Value.ref b] below meth c H locs 600000 7302250 (lw_Z below #[Value.ref b] s) (F0 m 270 ls []) := by
  have X := law_X C0
  have hX := C0.2.2.2.2.2.2.1
  have hbl := C0.2.2.2.2.2.2.2.1
  have hbA : ¬ fr_ G b := by show ¬ G.1 ≤ b; rw [hG]; exact Nat.not_le.mpr hbl
  refine lv_aload_n X.1 X.2.1 dL_law_270 rfl (lv_at hl 2 rfl) ?_
  have h := hop S hPI
  refine q_callV (rest := []) (b := 0) X hK hP hS (c_X8_keep l G S _ h) my_X8_keep tl_L_31 dL_law_271 kz_0 rfl rfl rfl ⟨Nat.le_of_ble_eq_true rfl, Nat.le_of_ble_eq_true rfl⟩ hl.1 rfl (Nat.le_of_ble_eq_true rfl) ⟨Nat.le_of_ble_eq_true rfl, Nat.le_of_ble_eq_true rfl⟩ (fun r1 S1 H locs h hP hS => ?_)
  refine W.eq (g2 := F0 m 274 ls [.int r1]) rfl ?_
  refine lv_aload_n X.1 X.2.1 dL_law_274 rfl (lv_at hl 1 rfl) ?_
  refine q_callV (rest := [.int r1]) (b := 224) X hK hP hS (c_X9_keep l G S1 _ h) my_X9_keep tl_L_35 dL_law_275 kz_224 rfl rfl rfl ⟨Nat.le_of_ble_eq_true rfl, Nat.le_of_ble_eq_true rfl⟩ hl.1 rfl (Nat.le_of_ble_eq_true rfl) ⟨Nat.le_of_ble_eq_true rfl, Nat.le_of_ble_eq_true rfl⟩ (fun r2 S2 H locs h hP hS => ?_)
  refine W.eq (g2 := F0 m 278 ls [.int r2, .int r1]) rfl ?_
  obtain ⟨rfl, hPI⟩ := h
  refine lv_icmp_eq (tgt := 972) X.1 X.2.1 dL_law_278 (by decide) (fun _ => ?_) (fun c => absurd rfl c)
  exact hend S2 H locs hPI hP hS
set_option maxHeartbeats 4000000 in
set_option maxRecDepth 100000 in
theorem law_case_3 {p : Program} {e : Env} {s : State} {m : MethodId} {below : List Frame} {meth : Method} {c : Code} (l : Launch) {G : Cx} {b L : Nat} {xs : Nat → Int32} (hL : L ≤ 3074) (C0 : lw_At p s m meth c b L xs) (hG : G.1 = s.heap.size) (hK : q_K G s) (PI : St → Prop) (hop : ∀ (x1 : Int32) (S : St), PI S → w_X8_drop x1 S (fun r1 S1 => w_X9_drop x1 S1 (fun r2 S2 => r1 = r2 ∧ PI S2))) (x3 : Int32) (hin : ∀ k : Nat, k < 6 → vp_in (x3 + Int32.ofNat k) L) (S : St) (H : Heap) (locs : List Loc) (ls : Array Slot) (hPI : PI S) (hP : q_P G S H) (hS : va_S (fr_ G) s.heap H locs) (hl : lv_has ls 4 [(3, .int x3), (2, .ref (G.1 + 224)), (1, .ref (G.1 + 0)), (0, .ref b)])
    (hend : ∀ (S : St) (H : Heap) (locs : List Loc), PI S → q_P G S H → va_S (fr_ G) s.heap H locs → W p l e room_1 s m #[Value.ref b] below meth c H locs 600000 7302250 (lw_Z below #[Value.ref b] s) (F0 m 972 ls [])) : W p l e room_1 s m #[Value.ref b] below meth c H locs 600000 7302250 (lw_Z below #[Value.ref b] s) (F0 m 283 ls []) := by
  have X := law_X C0
  have hX := C0.2.2.2.2.2.2.1
  have hbl := C0.2.2.2.2.2.2.2.1
  have hbA : ¬ fr_ G b := by show ¬ G.1 ≤ b; rw [hG]; exact Nat.not_le.mpr hbl
  refine lv_aload_n X.1 X.2.1 dL_law_283 rfl (lv_at hl 2 rfl) ?_
  refine lv_aload_n X.1 X.2.1 dL_law_284 rfl (lv_at hl 3 rfl) ?_
  refine lv_iload_n X.1 X.2.1 dL_law_285 rfl (lv_at hl 0 rfl) ?_
  refine lv_iconst (v := 1) X.1 X.2.1 dL_law_286 (by decide) ?_
  refine lv_iadd X.1 X.2.1 dL_law_287 ?_
  refine va_sld X.1 X.2.1 hX hbl hbA hS (hin 1 (by decide)) dL_law_288 ?_
  have h := hop (xs (x3 + 1).toNatClampNeg) S hPI
  refine q_callV (rest := []) (b := 0) X hK hP hS (c_X8_drop l G (xs (x3 + 1).toNatClampNeg) S _ h) my_X8_drop tl_L_36 dL_law_289 kz_0 rfl rfl rfl ⟨Nat.le_of_ble_eq_true rfl, Nat.le_of_ble_eq_true rfl⟩ hl.1 rfl (Nat.le_of_ble_eq_true rfl) ⟨Nat.le_of_ble_eq_true rfl, Nat.le_of_ble_eq_true rfl⟩ (fun r1 S1 H locs h hP hS => ?_)
  refine W.eq (g2 := F0 m 292 ls [.int r1]) rfl ?_
  refine lv_aload_n X.1 X.2.1 dL_law_292 rfl (lv_at hl 1 rfl) ?_
  refine lv_aload_n X.1 X.2.1 dL_law_293 rfl (lv_at hl 3 rfl) ?_
  refine lv_iload_n X.1 X.2.1 dL_law_294 rfl (lv_at hl 0 rfl) ?_
  refine lv_iconst (v := 1) X.1 X.2.1 dL_law_295 (by decide) ?_
  refine lv_iadd X.1 X.2.1 dL_law_296 ?_
  refine va_sld X.1 X.2.1 hX hbl hbA hS (hin 1 (by decide)) dL_law_297 ?_
  refine q_callV (rest := [.int r1]) (b := 224) X hK hP hS (c_X9_drop l G (xs (x3 + 1).toNatClampNeg) S1 _ h) my_X9_drop tl_L_39 dL_law_298 kz_224 rfl rfl rfl ⟨Nat.le_of_ble_eq_true rfl, Nat.le_of_ble_eq_true rfl⟩ hl.1 rfl (Nat.le_of_ble_eq_true rfl) ⟨Nat.le_of_ble_eq_true rfl, Nat.le_of_ble_eq_true rfl⟩ (fun r2 S2 H locs h hP hS => ?_)
  refine W.eq (g2 := F0 m 301 ls [.int r2, .int r1]) rfl ?_
  obtain ⟨rfl, hPI⟩ := h
  refine lv_icmp_eq (tgt := 972) X.1 X.2.1 dL_law_301 (by decide) (fun _ => ?_) (fun c => absurd rfl c)
  exact hend S2 H locs hPI hP hS
set_option maxHeartbeats 4000000 in
set_option maxRecDepth 100000 in
theorem law_case_4 {p : Program} {e : Env} {s : State} {m : MethodId} {below : List Frame} {meth : Method} {c : Code} (l : Launch) {G : Cx} {b L : Nat} {xs : Nat → Int32} (hL : L ≤ 3074) (C0 : lw_At p s m meth c b L xs) (hG : G.1 = s.heap.size) (hK : q_K G s) (PI : St → Prop) (hop : ∀ (x1 : Int32) (S : St), PI S → w_X8_terms x1 S (fun r1 S1 => w_X9_terms x1 S1 (fun r2 S2 => r1 = r2 ∧ PI S2))) (x3 : Int32) (hin : ∀ k : Nat, k < 6 → vp_in (x3 + Int32.ofNat k) L) (S : St) (H : Heap) (locs : List Loc) (ls : Array Slot) (hPI : PI S) (hP : q_P G S H) (hS : va_S (fr_ G) s.heap H locs) (hl : lv_has ls 4 [(3, .int x3), (2, .ref (G.1 + 224)), (1, .ref (G.1 + 0)), (0, .ref b)])
    (hend : ∀ (S : St) (H : Heap) (locs : List Loc), PI S → q_P G S H → va_S (fr_ G) s.heap H locs → W p l e room_1 s m #[Value.ref b] below meth c H locs 600000 7302250 (lw_Z below #[Value.ref b] s) (F0 m 972 ls [])) : W p l e room_1 s m #[Value.ref b] below meth c H locs 600000 7302250 (lw_Z below #[Value.ref b] s) (F0 m 306 ls []) := by
  have X := law_X C0
  have hX := C0.2.2.2.2.2.2.1
  have hbl := C0.2.2.2.2.2.2.2.1
  have hbA : ¬ fr_ G b := by show ¬ G.1 ≤ b; rw [hG]; exact Nat.not_le.mpr hbl
  refine lv_aload_n X.1 X.2.1 dL_law_306 rfl (lv_at hl 2 rfl) ?_
  refine lv_aload_n X.1 X.2.1 dL_law_307 rfl (lv_at hl 3 rfl) ?_
  refine lv_iload_n X.1 X.2.1 dL_law_308 rfl (lv_at hl 0 rfl) ?_
  refine lv_iconst (v := 1) X.1 X.2.1 dL_law_309 (by decide) ?_
  refine lv_iadd X.1 X.2.1 dL_law_310 ?_
  refine va_sld X.1 X.2.1 hX hbl hbA hS (hin 1 (by decide)) dL_law_311 ?_
  have h := hop (xs (x3 + 1).toNatClampNeg) S hPI
  refine q_callV (rest := []) (b := 0) X hK hP hS (c_X8_terms l G (xs (x3 + 1).toNatClampNeg) S _ h) my_X8_terms tl_L_40 dL_law_312 kz_0 rfl rfl rfl ⟨Nat.le_of_ble_eq_true rfl, Nat.le_of_ble_eq_true rfl⟩ hl.1 rfl (Nat.le_of_ble_eq_true rfl) ⟨Nat.le_of_ble_eq_true rfl, Nat.le_of_ble_eq_true rfl⟩ (fun r1 S1 H locs h hP hS => ?_)
  refine W.eq (g2 := F0 m 315 ls [.int r1]) rfl ?_
  refine lv_aload_n X.1 X.2.1 dL_law_315 rfl (lv_at hl 1 rfl) ?_
  refine lv_aload_n X.1 X.2.1 dL_law_316 rfl (lv_at hl 3 rfl) ?_
  refine lv_iload_n X.1 X.2.1 dL_law_317 rfl (lv_at hl 0 rfl) ?_
  refine lv_iconst (v := 1) X.1 X.2.1 dL_law_318 (by decide) ?_
  refine lv_iadd X.1 X.2.1 dL_law_319 ?_
  refine va_sld X.1 X.2.1 hX hbl hbA hS (hin 1 (by decide)) dL_law_320 ?_
  refine q_callV (rest := [.int r1]) (b := 224) X hK hP hS (c_X9_terms l G (xs (x3 + 1).toNatClampNeg) S1 _ h) my_X9_terms tl_L_43 dL_law_321 kz_224 rfl rfl rfl ⟨Nat.le_of_ble_eq_true rfl, Nat.le_of_ble_eq_true rfl⟩ hl.1 rfl (Nat.le_of_ble_eq_true rfl) ⟨Nat.le_of_ble_eq_true rfl, Nat.le_of_ble_eq_true rfl⟩ (fun r2 S2 H locs h hP hS => ?_)
  refine W.eq (g2 := F0 m 324 ls [.int r2, .int r1]) rfl ?_
  obtain ⟨rfl, hPI⟩ := h
  refine lv_icmp_eq (tgt := 972) X.1 X.2.1 dL_law_324 (by decide) (fun _ => ?_) (fun c => absurd rfl c)
  exact hend S2 H locs hPI hP hS
set_option maxHeartbeats 4000000 in
set_option maxRecDepth 100000 in
theorem law_case_5 {p : Program} {e : Env} {s : State} {m : MethodId} {below : List Frame} {meth : Method} {c : Code} (l : Launch) {G : Cx} {b L : Nat} {xs : Nat → Int32} (hL : L ≤ 3074) (C0 : lw_At p s m meth c b L xs) (hG : G.1 = s.heap.size) (hK : q_K G s) (PI : St → Prop) (hop : ∀ (x1 x2 : Int32) (S : St), PI S → w_X8_number x1 x2 S (fun r1 S1 => w_X9_number x1 x2 S1 (fun r2 S2 => r1 = r2 ∧ PI S2))) (x3 : Int32) (hin : ∀ k : Nat, k < 6 → vp_in (x3 + Int32.ofNat k) L) (S : St) (H : Heap) (locs : List Loc) (ls : Array Slot) (hPI : PI S) (hP : q_P G S H) (hS : va_S (fr_ G) s.heap H locs) (hl : lv_has ls 4 [(3, .int x3), (2, .ref (G.1 + 224)), (1, .ref (G.1 + 0)), (0, .ref b)])
    (hend : ∀ (S : St) (H : Heap) (locs : List Loc), PI S → q_P G S H → va_S (fr_ G) s.heap H locs → W p l e room_1 s m #[Value.ref b] below meth c H locs 600000 7302250 (lw_Z below #[Value.ref b] s) (F0 m 972 ls [])) : W p l e room_1 s m #[Value.ref b] below meth c H locs 600000 7302250 (lw_Z below #[Value.ref b] s) (F0 m 329 ls []) := by
  have X := law_X C0
  have hX := C0.2.2.2.2.2.2.1
  have hbl := C0.2.2.2.2.2.2.2.1
  have hbA : ¬ fr_ G b := by show ¬ G.1 ≤ b; rw [hG]; exact Nat.not_le.mpr hbl
  refine lv_aload_n X.1 X.2.1 dL_law_329 rfl (lv_at hl 2 rfl) ?_
  refine lv_aload_n X.1 X.2.1 dL_law_330 rfl (lv_at hl 3 rfl) ?_
  refine lv_iload_n X.1 X.2.1 dL_law_331 rfl (lv_at hl 0 rfl) ?_
  refine lv_iconst (v := 1) X.1 X.2.1 dL_law_332 (by decide) ?_
  refine lv_iadd X.1 X.2.1 dL_law_333 ?_
  refine va_sld X.1 X.2.1 hX hbl hbA hS (hin 1 (by decide)) dL_law_334 ?_
  refine lv_aload_n X.1 X.2.1 dL_law_335 rfl (lv_at hl 3 rfl) ?_
  refine lv_iload_n X.1 X.2.1 dL_law_336 rfl (lv_at hl 0 rfl) ?_
  refine lv_iconst (v := 2) X.1 X.2.1 dL_law_337 (by decide) ?_
  refine lv_iadd X.1 X.2.1 dL_law_338 ?_
  refine va_sld X.1 X.2.1 hX hbl hbA hS (hin 2 (by decide)) dL_law_339 ?_
  have h := hop (xs (x3 + 1).toNatClampNeg) (xs (x3 + 2).toNatClampNeg) S hPI
  refine q_callV (rest := []) (b := 0) X hK hP hS (c_X8_number l G (xs (x3 + 1).toNatClampNeg) (xs (x3 + 2).toNatClampNeg) S _ h) my_X8_number tl_L_44 dL_law_340 kz_0 rfl rfl rfl ⟨Nat.le_of_ble_eq_true rfl, Nat.le_of_ble_eq_true rfl⟩ hl.1 rfl (Nat.le_of_ble_eq_true rfl) ⟨Nat.le_of_ble_eq_true rfl, Nat.le_of_ble_eq_true rfl⟩ (fun r1 S1 H locs h hP hS => ?_)
  refine W.eq (g2 := F0 m 343 ls [.int r1]) rfl ?_
  refine lv_aload_n X.1 X.2.1 dL_law_343 rfl (lv_at hl 1 rfl) ?_
  refine lv_aload_n X.1 X.2.1 dL_law_344 rfl (lv_at hl 3 rfl) ?_
  refine lv_iload_n X.1 X.2.1 dL_law_345 rfl (lv_at hl 0 rfl) ?_
  refine lv_iconst (v := 1) X.1 X.2.1 dL_law_346 (by decide) ?_
  refine lv_iadd X.1 X.2.1 dL_law_347 ?_
  refine va_sld X.1 X.2.1 hX hbl hbA hS (hin 1 (by decide)) dL_law_348 ?_
  refine lv_aload_n X.1 X.2.1 dL_law_349 rfl (lv_at hl 3 rfl) ?_
  refine lv_iload_n X.1 X.2.1 dL_law_350 rfl (lv_at hl 0 rfl) ?_
  refine lv_iconst (v := 2) X.1 X.2.1 dL_law_351 (by decide) ?_
  refine lv_iadd X.1 X.2.1 dL_law_352 ?_
  refine va_sld X.1 X.2.1 hX hbl hbA hS (hin 2 (by decide)) dL_law_353 ?_
  refine q_callV (rest := [.int r1]) (b := 224) X hK hP hS (c_X9_number l G (xs (x3 + 1).toNatClampNeg) (xs (x3 + 2).toNatClampNeg) S1 _ h) my_X9_number tl_L_48 dL_law_354 kz_224 rfl rfl rfl ⟨Nat.le_of_ble_eq_true rfl, Nat.le_of_ble_eq_true rfl⟩ hl.1 rfl (Nat.le_of_ble_eq_true rfl) ⟨Nat.le_of_ble_eq_true rfl, Nat.le_of_ble_eq_true rfl⟩ (fun r2 S2 H locs h hP hS => ?_)
  refine W.eq (g2 := F0 m 357 ls [.int r2, .int r1]) rfl ?_
  obtain ⟨rfl, hPI⟩ := h
  refine lv_icmp_eq (tgt := 972) X.1 X.2.1 dL_law_357 (by decide) (fun _ => ?_) (fun c => absurd rfl c)
  exact hend S2 H locs hPI hP hS
set_option maxHeartbeats 4000000 in
set_option maxRecDepth 100000 in
theorem law_case_6 {p : Program} {e : Env} {s : State} {m : MethodId} {below : List Frame} {meth : Method} {c : Code} (l : Launch) {G : Cx} {b L : Nat} {xs : Nat → Int32} (hL : L ≤ 3074) (C0 : lw_At p s m meth c b L xs) (hG : G.1 = s.heap.size) (hK : q_K G s) (PI : St → Prop) (hop : ∀ (x1 x2 x3 : Int32) (S : St), PI S → w_X8_exponent x1 x2 x3 S (fun r1 S1 => w_X9_exponent x1 x2 x3 S1 (fun r2 S2 => r1 = r2 ∧ PI S2))) (x3 : Int32) (hin : ∀ k : Nat, k < 6 → vp_in (x3 + Int32.ofNat k) L) (S : St) (H : Heap) (locs : List Loc) (ls : Array Slot) (hPI : PI S) (hP : q_P G S H) (hS : va_S (fr_ G) s.heap H locs) (hl : lv_has ls 4 [(3, .int x3), (2, .ref (G.1 + 224)), (1, .ref (G.1 + 0)), (0, .ref b)])
    (hend : ∀ (S : St) (H : Heap) (locs : List Loc), PI S → q_P G S H → va_S (fr_ G) s.heap H locs → W p l e room_1 s m #[Value.ref b] below meth c H locs 600000 7302250 (lw_Z below #[Value.ref b] s) (F0 m 972 ls [])) : W p l e room_1 s m #[Value.ref b] below meth c H locs 600000 7302250 (lw_Z below #[Value.ref b] s) (F0 m 362 ls []) := by
  have X := law_X C0
  have hX := C0.2.2.2.2.2.2.1
  have hbl := C0.2.2.2.2.2.2.2.1
  have hbA : ¬ fr_ G b := by show ¬ G.1 ≤ b; rw [hG]; exact Nat.not_le.mpr hbl
  refine lv_aload_n X.1 X.2.1 dL_law_362 rfl (lv_at hl 2 rfl) ?_
  refine lv_aload_n X.1 X.2.1 dL_law_363 rfl (lv_at hl 3 rfl) ?_
  refine lv_iload_n X.1 X.2.1 dL_law_364 rfl (lv_at hl 0 rfl) ?_
  refine lv_iconst (v := 1) X.1 X.2.1 dL_law_365 (by decide) ?_
  refine lv_iadd X.1 X.2.1 dL_law_366 ?_
  refine va_sld X.1 X.2.1 hX hbl hbA hS (hin 1 (by decide)) dL_law_367 ?_
  refine lv_aload_n X.1 X.2.1 dL_law_368 rfl (lv_at hl 3 rfl) ?_
  refine lv_iload_n X.1 X.2.1 dL_law_369 rfl (lv_at hl 0 rfl) ?_
  refine lv_iconst (v := 2) X.1 X.2.1 dL_law_370 (by decide) ?_
  refine lv_iadd X.1 X.2.1 dL_law_371 ?_
  refine va_sld X.1 X.2.1 hX hbl hbA hS (hin 2 (by decide)) dL_law_372 ?_
  refine lv_aload_n X.1 X.2.1 dL_law_373 rfl (lv_at hl 3 rfl) ?_
  refine lv_iload_n X.1 X.2.1 dL_law_374 rfl (lv_at hl 0 rfl) ?_
  refine lv_iconst (v := 3) X.1 X.2.1 dL_law_375 (by decide) ?_
  refine lv_iadd X.1 X.2.1 dL_law_376 ?_
  refine va_sld X.1 X.2.1 hX hbl hbA hS (hin 3 (by decide)) dL_law_377 ?_
  have h := hop (xs (x3 + 1).toNatClampNeg) (xs (x3 + 2).toNatClampNeg) (xs (x3 + 3).toNatClampNeg) S hPI
  refine q_callV (rest := []) (b := 0) X hK hP hS (c_X8_exponent l G (xs (x3 + 1).toNatClampNeg) (xs (x3 + 2).toNatClampNeg) (xs (x3 + 3).toNatClampNeg) S _ h) my_X8_exponent tl_L_49 dL_law_378 kz_0 rfl rfl rfl ⟨Nat.le_of_ble_eq_true rfl, Nat.le_of_ble_eq_true rfl⟩ hl.1 rfl (Nat.le_of_ble_eq_true rfl) ⟨Nat.le_of_ble_eq_true rfl, Nat.le_of_ble_eq_true rfl⟩ (fun r1 S1 H locs h hP hS => ?_)
  refine W.eq (g2 := F0 m 381 ls [.int r1]) rfl ?_
  refine lv_aload_n X.1 X.2.1 dL_law_381 rfl (lv_at hl 1 rfl) ?_
  refine lv_aload_n X.1 X.2.1 dL_law_382 rfl (lv_at hl 3 rfl) ?_
  refine lv_iload_n X.1 X.2.1 dL_law_383 rfl (lv_at hl 0 rfl) ?_
  refine lv_iconst (v := 1) X.1 X.2.1 dL_law_384 (by decide) ?_
  refine lv_iadd X.1 X.2.1 dL_law_385 ?_
  refine va_sld X.1 X.2.1 hX hbl hbA hS (hin 1 (by decide)) dL_law_386 ?_
  refine lv_aload_n X.1 X.2.1 dL_law_387 rfl (lv_at hl 3 rfl) ?_
  refine lv_iload_n X.1 X.2.1 dL_law_388 rfl (lv_at hl 0 rfl) ?_
  refine lv_iconst (v := 2) X.1 X.2.1 dL_law_389 (by decide) ?_
  refine lv_iadd X.1 X.2.1 dL_law_390 ?_
  refine va_sld X.1 X.2.1 hX hbl hbA hS (hin 2 (by decide)) dL_law_391 ?_
  refine lv_aload_n X.1 X.2.1 dL_law_392 rfl (lv_at hl 3 rfl) ?_
  refine lv_iload_n X.1 X.2.1 dL_law_393 rfl (lv_at hl 0 rfl) ?_
  refine lv_iconst (v := 3) X.1 X.2.1 dL_law_394 (by decide) ?_
  refine lv_iadd X.1 X.2.1 dL_law_395 ?_
  refine va_sld X.1 X.2.1 hX hbl hbA hS (hin 3 (by decide)) dL_law_396 ?_
  refine q_callV (rest := [.int r1]) (b := 224) X hK hP hS (c_X9_exponent l G (xs (x3 + 1).toNatClampNeg) (xs (x3 + 2).toNatClampNeg) (xs (x3 + 3).toNatClampNeg) S1 _ h) my_X9_exponent tl_L_53 dL_law_397 kz_224 rfl rfl rfl ⟨Nat.le_of_ble_eq_true rfl, Nat.le_of_ble_eq_true rfl⟩ hl.1 rfl (Nat.le_of_ble_eq_true rfl) ⟨Nat.le_of_ble_eq_true rfl, Nat.le_of_ble_eq_true rfl⟩ (fun r2 S2 H locs h hP hS => ?_)
  refine W.eq (g2 := F0 m 400 ls [.int r2, .int r1]) rfl ?_
  obtain ⟨rfl, hPI⟩ := h
  refine lv_icmp_eq (tgt := 972) X.1 X.2.1 dL_law_400 (by decide) (fun _ => ?_) (fun c => absurd rfl c)
  exact hend S2 H locs hPI hP hS
set_option maxHeartbeats 4000000 in
set_option maxRecDepth 100000 in
theorem law_case_7 {p : Program} {e : Env} {s : State} {m : MethodId} {below : List Frame} {meth : Method} {c : Code} (l : Launch) {G : Cx} {b L : Nat} {xs : Nat → Int32} (hL : L ≤ 3074) (C0 : lw_At p s m meth c b L xs) (hG : G.1 = s.heap.size) (hK : q_K G s) (PI : St → Prop) (hop : ∀ (x1 x2 x3 : Int32) (S : St), PI S → w_X8_sum x1 x2 x3 S (fun r1 S1 => w_X9_sum x1 x2 x3 S1 (fun r2 S2 => r1 = r2 ∧ PI S2))) (x3 : Int32) (hin : ∀ k : Nat, k < 6 → vp_in (x3 + Int32.ofNat k) L) (S : St) (H : Heap) (locs : List Loc) (ls : Array Slot) (hPI : PI S) (hP : q_P G S H) (hS : va_S (fr_ G) s.heap H locs) (hl : lv_has ls 4 [(3, .int x3), (2, .ref (G.1 + 224)), (1, .ref (G.1 + 0)), (0, .ref b)])
    (hend : ∀ (S : St) (H : Heap) (locs : List Loc), PI S → q_P G S H → va_S (fr_ G) s.heap H locs → W p l e room_1 s m #[Value.ref b] below meth c H locs 600000 7302250 (lw_Z below #[Value.ref b] s) (F0 m 972 ls [])) : W p l e room_1 s m #[Value.ref b] below meth c H locs 600000 7302250 (lw_Z below #[Value.ref b] s) (F0 m 405 ls []) := by
  have X := law_X C0
  have hX := C0.2.2.2.2.2.2.1
  have hbl := C0.2.2.2.2.2.2.2.1
  have hbA : ¬ fr_ G b := by show ¬ G.1 ≤ b; rw [hG]; exact Nat.not_le.mpr hbl
  refine lv_aload_n X.1 X.2.1 dL_law_405 rfl (lv_at hl 2 rfl) ?_
  refine lv_aload_n X.1 X.2.1 dL_law_406 rfl (lv_at hl 3 rfl) ?_
  refine lv_iload_n X.1 X.2.1 dL_law_407 rfl (lv_at hl 0 rfl) ?_
  refine lv_iconst (v := 1) X.1 X.2.1 dL_law_408 (by decide) ?_
  refine lv_iadd X.1 X.2.1 dL_law_409 ?_
  refine va_sld X.1 X.2.1 hX hbl hbA hS (hin 1 (by decide)) dL_law_410 ?_
  refine lv_aload_n X.1 X.2.1 dL_law_411 rfl (lv_at hl 3 rfl) ?_
  refine lv_iload_n X.1 X.2.1 dL_law_412 rfl (lv_at hl 0 rfl) ?_
  refine lv_iconst (v := 2) X.1 X.2.1 dL_law_413 (by decide) ?_
  refine lv_iadd X.1 X.2.1 dL_law_414 ?_
  refine va_sld X.1 X.2.1 hX hbl hbA hS (hin 2 (by decide)) dL_law_415 ?_
  refine lv_aload_n X.1 X.2.1 dL_law_416 rfl (lv_at hl 3 rfl) ?_
  refine lv_iload_n X.1 X.2.1 dL_law_417 rfl (lv_at hl 0 rfl) ?_
  refine lv_iconst (v := 3) X.1 X.2.1 dL_law_418 (by decide) ?_
  refine lv_iadd X.1 X.2.1 dL_law_419 ?_
  refine va_sld X.1 X.2.1 hX hbl hbA hS (hin 3 (by decide)) dL_law_420 ?_
  have h := hop (xs (x3 + 1).toNatClampNeg) (xs (x3 + 2).toNatClampNeg) (xs (x3 + 3).toNatClampNeg) S hPI
  refine q_callV (rest := []) (b := 0) X hK hP hS (c_X8_sum l G (xs (x3 + 1).toNatClampNeg) (xs (x3 + 2).toNatClampNeg) (xs (x3 + 3).toNatClampNeg) S _ h) my_X8_sum tl_L_54 dL_law_421 kz_0 rfl rfl rfl ⟨Nat.le_of_ble_eq_true rfl, Nat.le_of_ble_eq_true rfl⟩ hl.1 rfl (Nat.le_of_ble_eq_true rfl) ⟨Nat.le_of_ble_eq_true rfl, Nat.le_of_ble_eq_true rfl⟩ (fun r1 S1 H locs h hP hS => ?_)
  refine W.eq (g2 := F0 m 424 ls [.int r1]) rfl ?_
  refine lv_aload_n X.1 X.2.1 dL_law_424 rfl (lv_at hl 1 rfl) ?_
  refine lv_aload_n X.1 X.2.1 dL_law_425 rfl (lv_at hl 3 rfl) ?_
  refine lv_iload_n X.1 X.2.1 dL_law_426 rfl (lv_at hl 0 rfl) ?_
  refine lv_iconst (v := 1) X.1 X.2.1 dL_law_427 (by decide) ?_
  refine lv_iadd X.1 X.2.1 dL_law_428 ?_
  refine va_sld X.1 X.2.1 hX hbl hbA hS (hin 1 (by decide)) dL_law_429 ?_
  refine lv_aload_n X.1 X.2.1 dL_law_430 rfl (lv_at hl 3 rfl) ?_
  refine lv_iload_n X.1 X.2.1 dL_law_431 rfl (lv_at hl 0 rfl) ?_
  refine lv_iconst (v := 2) X.1 X.2.1 dL_law_432 (by decide) ?_
  refine lv_iadd X.1 X.2.1 dL_law_433 ?_
  refine va_sld X.1 X.2.1 hX hbl hbA hS (hin 2 (by decide)) dL_law_434 ?_
  refine lv_aload_n X.1 X.2.1 dL_law_435 rfl (lv_at hl 3 rfl) ?_
  refine lv_iload_n X.1 X.2.1 dL_law_436 rfl (lv_at hl 0 rfl) ?_
  refine lv_iconst (v := 3) X.1 X.2.1 dL_law_437 (by decide) ?_
  refine lv_iadd X.1 X.2.1 dL_law_438 ?_
  refine va_sld X.1 X.2.1 hX hbl hbA hS (hin 3 (by decide)) dL_law_439 ?_
  refine q_callV (rest := [.int r1]) (b := 224) X hK hP hS (c_X9_sum l G (xs (x3 + 1).toNatClampNeg) (xs (x3 + 2).toNatClampNeg) (xs (x3 + 3).toNatClampNeg) S1 _ h) my_X9_sum tl_L_57 dL_law_440 kz_224 rfl rfl rfl ⟨Nat.le_of_ble_eq_true rfl, Nat.le_of_ble_eq_true rfl⟩ hl.1 rfl (Nat.le_of_ble_eq_true rfl) ⟨Nat.le_of_ble_eq_true rfl, Nat.le_of_ble_eq_true rfl⟩ (fun r2 S2 H locs h hP hS => ?_)
  refine W.eq (g2 := F0 m 443 ls [.int r2, .int r1]) rfl ?_
  obtain ⟨rfl, hPI⟩ := h
  refine lv_icmp_eq (tgt := 972) X.1 X.2.1 dL_law_443 (by decide) (fun _ => ?_) (fun c => absurd rfl c)
  exact hend S2 H locs hPI hP hS
set_option maxHeartbeats 4000000 in
set_option maxRecDepth 100000 in
theorem law_case_8 {p : Program} {e : Env} {s : State} {m : MethodId} {below : List Frame} {meth : Method} {c : Code} (l : Launch) {G : Cx} {b L : Nat} {xs : Nat → Int32} (hL : L ≤ 3074) (C0 : lw_At p s m meth c b L xs) (hG : G.1 = s.heap.size) (hK : q_K G s) (PI : St → Prop) (hop : ∀ (x1 x2 : Int32) (S : St), PI S → w_X8_product x1 x2 S (fun r1 S1 => w_X9_product x1 x2 S1 (fun r2 S2 => r1 = r2 ∧ PI S2))) (x3 : Int32) (hin : ∀ k : Nat, k < 6 → vp_in (x3 + Int32.ofNat k) L) (S : St) (H : Heap) (locs : List Loc) (ls : Array Slot) (hPI : PI S) (hP : q_P G S H) (hS : va_S (fr_ G) s.heap H locs) (hl : lv_has ls 4 [(3, .int x3), (2, .ref (G.1 + 224)), (1, .ref (G.1 + 0)), (0, .ref b)])
    (hend : ∀ (S : St) (H : Heap) (locs : List Loc), PI S → q_P G S H → va_S (fr_ G) s.heap H locs → W p l e room_1 s m #[Value.ref b] below meth c H locs 600000 7302250 (lw_Z below #[Value.ref b] s) (F0 m 972 ls [])) : W p l e room_1 s m #[Value.ref b] below meth c H locs 600000 7302250 (lw_Z below #[Value.ref b] s) (F0 m 448 ls []) := by
  have X := law_X C0
  have hX := C0.2.2.2.2.2.2.1
  have hbl := C0.2.2.2.2.2.2.2.1
  have hbA : ¬ fr_ G b := by show ¬ G.1 ≤ b; rw [hG]; exact Nat.not_le.mpr hbl
  refine lv_aload_n X.1 X.2.1 dL_law_448 rfl (lv_at hl 2 rfl) ?_
  refine lv_aload_n X.1 X.2.1 dL_law_449 rfl (lv_at hl 3 rfl) ?_
  refine lv_iload_n X.1 X.2.1 dL_law_450 rfl (lv_at hl 0 rfl) ?_
  refine lv_iconst (v := 1) X.1 X.2.1 dL_law_451 (by decide) ?_
  refine lv_iadd X.1 X.2.1 dL_law_452 ?_
  refine va_sld X.1 X.2.1 hX hbl hbA hS (hin 1 (by decide)) dL_law_453 ?_
  refine lv_aload_n X.1 X.2.1 dL_law_454 rfl (lv_at hl 3 rfl) ?_
  refine lv_iload_n X.1 X.2.1 dL_law_455 rfl (lv_at hl 0 rfl) ?_
  refine lv_iconst (v := 2) X.1 X.2.1 dL_law_456 (by decide) ?_
  refine lv_iadd X.1 X.2.1 dL_law_457 ?_
  refine va_sld X.1 X.2.1 hX hbl hbA hS (hin 2 (by decide)) dL_law_458 ?_
  have h := hop (xs (x3 + 1).toNatClampNeg) (xs (x3 + 2).toNatClampNeg) S hPI
  refine q_callV (rest := []) (b := 0) X hK hP hS (c_X8_product l G (xs (x3 + 1).toNatClampNeg) (xs (x3 + 2).toNatClampNeg) S _ h) my_X8_product tl_L_58 dL_law_459 kz_0 rfl rfl rfl ⟨Nat.le_of_ble_eq_true rfl, Nat.le_of_ble_eq_true rfl⟩ hl.1 rfl (Nat.le_of_ble_eq_true rfl) ⟨Nat.le_of_ble_eq_true rfl, Nat.le_of_ble_eq_true rfl⟩ (fun r1 S1 H locs h hP hS => ?_)
  refine W.eq (g2 := F0 m 462 ls [.int r1]) rfl ?_
  refine lv_aload_n X.1 X.2.1 dL_law_462 rfl (lv_at hl 1 rfl) ?_
  refine lv_aload_n X.1 X.2.1 dL_law_463 rfl (lv_at hl 3 rfl) ?_
  refine lv_iload_n X.1 X.2.1 dL_law_464 rfl (lv_at hl 0 rfl) ?_
  refine lv_iconst (v := 1) X.1 X.2.1 dL_law_465 (by decide) ?_
  refine lv_iadd X.1 X.2.1 dL_law_466 ?_
  refine va_sld X.1 X.2.1 hX hbl hbA hS (hin 1 (by decide)) dL_law_467 ?_
  refine lv_aload_n X.1 X.2.1 dL_law_468 rfl (lv_at hl 3 rfl) ?_
  refine lv_iload_n X.1 X.2.1 dL_law_469 rfl (lv_at hl 0 rfl) ?_
  refine lv_iconst (v := 2) X.1 X.2.1 dL_law_470 (by decide) ?_
  refine lv_iadd X.1 X.2.1 dL_law_471 ?_
  refine va_sld X.1 X.2.1 hX hbl hbA hS (hin 2 (by decide)) dL_law_472 ?_
  refine q_callV (rest := [.int r1]) (b := 224) X hK hP hS (c_X9_product l G (xs (x3 + 1).toNatClampNeg) (xs (x3 + 2).toNatClampNeg) S1 _ h) my_X9_product tl_L_61 dL_law_473 kz_224 rfl rfl rfl ⟨Nat.le_of_ble_eq_true rfl, Nat.le_of_ble_eq_true rfl⟩ hl.1 rfl (Nat.le_of_ble_eq_true rfl) ⟨Nat.le_of_ble_eq_true rfl, Nat.le_of_ble_eq_true rfl⟩ (fun r2 S2 H locs h hP hS => ?_)
  refine W.eq (g2 := F0 m 476 ls [.int r2, .int r1]) rfl ?_
  obtain ⟨rfl, hPI⟩ := h
  refine lv_icmp_eq (tgt := 972) X.1 X.2.1 dL_law_476 (by decide) (fun _ => ?_) (fun c => absurd rfl c)
  exact hend S2 H locs hPI hP hS
set_option maxHeartbeats 4000000 in
set_option maxRecDepth 100000 in
theorem law_case_9 {p : Program} {e : Env} {s : State} {m : MethodId} {below : List Frame} {meth : Method} {c : Code} (l : Launch) {G : Cx} {b L : Nat} {xs : Nat → Int32} (hL : L ≤ 3074) (C0 : lw_At p s m meth c b L xs) (hG : G.1 = s.heap.size) (hK : q_K G s) (PI : St → Prop) (hop : ∀ (x1 x2 : Int32) (S : St), PI S → w_X8_derived x1 x2 S (fun r1 S1 => w_X9_derived x1 x2 S1 (fun r2 S2 => r1 = r2 ∧ PI S2))) (x3 : Int32) (hin : ∀ k : Nat, k < 6 → vp_in (x3 + Int32.ofNat k) L) (S : St) (H : Heap) (locs : List Loc) (ls : Array Slot) (hPI : PI S) (hP : q_P G S H) (hS : va_S (fr_ G) s.heap H locs) (hl : lv_has ls 4 [(3, .int x3), (2, .ref (G.1 + 224)), (1, .ref (G.1 + 0)), (0, .ref b)])
    (hend : ∀ (S : St) (H : Heap) (locs : List Loc), PI S → q_P G S H → va_S (fr_ G) s.heap H locs → W p l e room_1 s m #[Value.ref b] below meth c H locs 600000 7302250 (lw_Z below #[Value.ref b] s) (F0 m 972 ls [])) : W p l e room_1 s m #[Value.ref b] below meth c H locs 600000 7302250 (lw_Z below #[Value.ref b] s) (F0 m 481 ls []) := by
  have X := law_X C0
  have hX := C0.2.2.2.2.2.2.1
  have hbl := C0.2.2.2.2.2.2.2.1
  have hbA : ¬ fr_ G b := by show ¬ G.1 ≤ b; rw [hG]; exact Nat.not_le.mpr hbl
  refine lv_aload_n X.1 X.2.1 dL_law_481 rfl (lv_at hl 2 rfl) ?_
  refine lv_aload_n X.1 X.2.1 dL_law_482 rfl (lv_at hl 3 rfl) ?_
  refine lv_iload_n X.1 X.2.1 dL_law_483 rfl (lv_at hl 0 rfl) ?_
  refine lv_iconst (v := 1) X.1 X.2.1 dL_law_484 (by decide) ?_
  refine lv_iadd X.1 X.2.1 dL_law_485 ?_
  refine va_sld X.1 X.2.1 hX hbl hbA hS (hin 1 (by decide)) dL_law_486 ?_
  refine lv_aload_n X.1 X.2.1 dL_law_487 rfl (lv_at hl 3 rfl) ?_
  refine lv_iload_n X.1 X.2.1 dL_law_488 rfl (lv_at hl 0 rfl) ?_
  refine lv_iconst (v := 2) X.1 X.2.1 dL_law_489 (by decide) ?_
  refine lv_iadd X.1 X.2.1 dL_law_490 ?_
  refine va_sld X.1 X.2.1 hX hbl hbA hS (hin 2 (by decide)) dL_law_491 ?_
  have h := hop (xs (x3 + 1).toNatClampNeg) (xs (x3 + 2).toNatClampNeg) S hPI
  refine q_callV (rest := []) (b := 0) X hK hP hS (c_X8_derived l G (xs (x3 + 1).toNatClampNeg) (xs (x3 + 2).toNatClampNeg) S _ h) my_X8_derived tl_L_62 dL_law_492 kz_0 rfl rfl rfl ⟨Nat.le_of_ble_eq_true rfl, Nat.le_of_ble_eq_true rfl⟩ hl.1 rfl (Nat.le_of_ble_eq_true rfl) ⟨Nat.le_of_ble_eq_true rfl, Nat.le_of_ble_eq_true rfl⟩ (fun r1 S1 H locs h hP hS => ?_)
  refine W.eq (g2 := F0 m 495 ls [.int r1]) rfl ?_
  refine lv_aload_n X.1 X.2.1 dL_law_495 rfl (lv_at hl 1 rfl) ?_
  refine lv_aload_n X.1 X.2.1 dL_law_496 rfl (lv_at hl 3 rfl) ?_
  refine lv_iload_n X.1 X.2.1 dL_law_497 rfl (lv_at hl 0 rfl) ?_
  refine lv_iconst (v := 1) X.1 X.2.1 dL_law_498 (by decide) ?_
  refine lv_iadd X.1 X.2.1 dL_law_499 ?_
  refine va_sld X.1 X.2.1 hX hbl hbA hS (hin 1 (by decide)) dL_law_500 ?_
  refine lv_aload_n X.1 X.2.1 dL_law_501 rfl (lv_at hl 3 rfl) ?_
  refine lv_iload_n X.1 X.2.1 dL_law_502 rfl (lv_at hl 0 rfl) ?_
  refine lv_iconst (v := 2) X.1 X.2.1 dL_law_503 (by decide) ?_
  refine lv_iadd X.1 X.2.1 dL_law_504 ?_
  refine va_sld X.1 X.2.1 hX hbl hbA hS (hin 2 (by decide)) dL_law_505 ?_
  refine q_callV (rest := [.int r1]) (b := 224) X hK hP hS (c_X9_derived l G (xs (x3 + 1).toNatClampNeg) (xs (x3 + 2).toNatClampNeg) S1 _ h) my_X9_derived tl_L_65 dL_law_506 kz_224 rfl rfl rfl ⟨Nat.le_of_ble_eq_true rfl, Nat.le_of_ble_eq_true rfl⟩ hl.1 rfl (Nat.le_of_ble_eq_true rfl) ⟨Nat.le_of_ble_eq_true rfl, Nat.le_of_ble_eq_true rfl⟩ (fun r2 S2 H locs h hP hS => ?_)
  refine W.eq (g2 := F0 m 509 ls [.int r2, .int r1]) rfl ?_
  obtain ⟨rfl, hPI⟩ := h
  refine lv_icmp_eq (tgt := 972) X.1 X.2.1 dL_law_509 (by decide) (fun _ => ?_) (fun c => absurd rfl c)
  exact hend S2 H locs hPI hP hS
set_option maxHeartbeats 4000000 in
set_option maxRecDepth 100000 in
theorem law_case_10 {p : Program} {e : Env} {s : State} {m : MethodId} {below : List Frame} {meth : Method} {c : Code} (l : Launch) {G : Cx} {b L : Nat} {xs : Nat → Int32} (hL : L ≤ 3074) (C0 : lw_At p s m meth c b L xs) (hG : G.1 = s.heap.size) (hK : q_K G s) (PI : St → Prop) (hop : ∀ (x1 x2 : Int32) (S : St), PI S → w_X8_spair x1 x2 S (fun r1 S1 => w_X9_spair x1 x2 S1 (fun r2 S2 => r1 = r2 ∧ PI S2))) (x3 : Int32) (hin : ∀ k : Nat, k < 6 → vp_in (x3 + Int32.ofNat k) L) (S : St) (H : Heap) (locs : List Loc) (ls : Array Slot) (hPI : PI S) (hP : q_P G S H) (hS : va_S (fr_ G) s.heap H locs) (hl : lv_has ls 4 [(3, .int x3), (2, .ref (G.1 + 224)), (1, .ref (G.1 + 0)), (0, .ref b)])
    (hend : ∀ (S : St) (H : Heap) (locs : List Loc), PI S → q_P G S H → va_S (fr_ G) s.heap H locs → W p l e room_1 s m #[Value.ref b] below meth c H locs 600000 7302250 (lw_Z below #[Value.ref b] s) (F0 m 972 ls [])) : W p l e room_1 s m #[Value.ref b] below meth c H locs 600000 7302250 (lw_Z below #[Value.ref b] s) (F0 m 514 ls []) := by
  have X := law_X C0
  have hX := C0.2.2.2.2.2.2.1
  have hbl := C0.2.2.2.2.2.2.2.1
  have hbA : ¬ fr_ G b := by show ¬ G.1 ≤ b; rw [hG]; exact Nat.not_le.mpr hbl
  refine lv_aload_n X.1 X.2.1 dL_law_514 rfl (lv_at hl 2 rfl) ?_
  refine lv_aload_n X.1 X.2.1 dL_law_515 rfl (lv_at hl 3 rfl) ?_
  refine lv_iload_n X.1 X.2.1 dL_law_516 rfl (lv_at hl 0 rfl) ?_
  refine lv_iconst (v := 1) X.1 X.2.1 dL_law_517 (by decide) ?_
  refine lv_iadd X.1 X.2.1 dL_law_518 ?_
  refine va_sld X.1 X.2.1 hX hbl hbA hS (hin 1 (by decide)) dL_law_519 ?_
  refine lv_aload_n X.1 X.2.1 dL_law_520 rfl (lv_at hl 3 rfl) ?_
  refine lv_iload_n X.1 X.2.1 dL_law_521 rfl (lv_at hl 0 rfl) ?_
  refine lv_iconst (v := 2) X.1 X.2.1 dL_law_522 (by decide) ?_
  refine lv_iadd X.1 X.2.1 dL_law_523 ?_
  refine va_sld X.1 X.2.1 hX hbl hbA hS (hin 2 (by decide)) dL_law_524 ?_
  have h := hop (xs (x3 + 1).toNatClampNeg) (xs (x3 + 2).toNatClampNeg) S hPI
  refine q_callV (rest := []) (b := 0) X hK hP hS (c_X8_spair l G (xs (x3 + 1).toNatClampNeg) (xs (x3 + 2).toNatClampNeg) S _ h) my_X8_spair tl_L_66 dL_law_525 kz_0 rfl rfl rfl ⟨Nat.le_of_ble_eq_true rfl, Nat.le_of_ble_eq_true rfl⟩ hl.1 rfl (Nat.le_of_ble_eq_true rfl) ⟨Nat.le_of_ble_eq_true rfl, Nat.le_of_ble_eq_true rfl⟩ (fun r1 S1 H locs h hP hS => ?_)
  refine W.eq (g2 := F0 m 528 ls [.int r1]) rfl ?_
  refine lv_aload_n X.1 X.2.1 dL_law_528 rfl (lv_at hl 1 rfl) ?_
  refine lv_aload_n X.1 X.2.1 dL_law_529 rfl (lv_at hl 3 rfl) ?_
  refine lv_iload_n X.1 X.2.1 dL_law_530 rfl (lv_at hl 0 rfl) ?_
  refine lv_iconst (v := 1) X.1 X.2.1 dL_law_531 (by decide) ?_
  refine lv_iadd X.1 X.2.1 dL_law_532 ?_
  refine va_sld X.1 X.2.1 hX hbl hbA hS (hin 1 (by decide)) dL_law_533 ?_
  refine lv_aload_n X.1 X.2.1 dL_law_534 rfl (lv_at hl 3 rfl) ?_
  refine lv_iload_n X.1 X.2.1 dL_law_535 rfl (lv_at hl 0 rfl) ?_
  refine lv_iconst (v := 2) X.1 X.2.1 dL_law_536 (by decide) ?_
  refine lv_iadd X.1 X.2.1 dL_law_537 ?_
  refine va_sld X.1 X.2.1 hX hbl hbA hS (hin 2 (by decide)) dL_law_538 ?_
  refine q_callV (rest := [.int r1]) (b := 224) X hK hP hS (c_X9_spair l G (xs (x3 + 1).toNatClampNeg) (xs (x3 + 2).toNatClampNeg) S1 _ h) my_X9_spair tl_L_69 dL_law_539 kz_224 rfl rfl rfl ⟨Nat.le_of_ble_eq_true rfl, Nat.le_of_ble_eq_true rfl⟩ hl.1 rfl (Nat.le_of_ble_eq_true rfl) ⟨Nat.le_of_ble_eq_true rfl, Nat.le_of_ble_eq_true rfl⟩ (fun r2 S2 H locs h hP hS => ?_)
  refine W.eq (g2 := F0 m 542 ls [.int r2, .int r1]) rfl ?_
  obtain ⟨rfl, hPI⟩ := h
  refine lv_icmp_eq (tgt := 972) X.1 X.2.1 dL_law_542 (by decide) (fun _ => ?_) (fun c => absurd rfl c)
  exact hend S2 H locs hPI hP hS
set_option maxHeartbeats 4000000 in
set_option maxRecDepth 100000 in
theorem law_case_11 {p : Program} {e : Env} {s : State} {m : MethodId} {below : List Frame} {meth : Method} {c : Code} (l : Launch) {G : Cx} {b L : Nat} {xs : Nat → Int32} (hL : L ≤ 3074) (C0 : lw_At p s m meth c b L xs) (hG : G.1 = s.heap.size) (hK : q_K G s) (PI : St → Prop) (hop : ∀ (x1 x2 x3 x4 x5 : Int32) (S : St), PI S → w_X8_value x1 x2 x3 x4 x5 S (fun r1 S1 => w_X9_value x1 x2 x3 x4 x5 S1 (fun r2 S2 => r1 = r2 ∧ PI S2))) (x3 : Int32) (hin : ∀ k : Nat, k < 6 → vp_in (x3 + Int32.ofNat k) L) (S : St) (H : Heap) (locs : List Loc) (ls : Array Slot) (hPI : PI S) (hP : q_P G S H) (hS : va_S (fr_ G) s.heap H locs) (hl : lv_has ls 4 [(3, .int x3), (2, .ref (G.1 + 224)), (1, .ref (G.1 + 0)), (0, .ref b)])
    (hend : ∀ (S : St) (H : Heap) (locs : List Loc), PI S → q_P G S H → va_S (fr_ G) s.heap H locs → W p l e room_1 s m #[Value.ref b] below meth c H locs 600000 7302250 (lw_Z below #[Value.ref b] s) (F0 m 972 ls [])) : W p l e room_1 s m #[Value.ref b] below meth c H locs 600000 7302250 (lw_Z below #[Value.ref b] s) (F0 m 547 ls []) := by
  have X := law_X C0
  have hX := C0.2.2.2.2.2.2.1
  have hbl := C0.2.2.2.2.2.2.2.1
  have hbA : ¬ fr_ G b := by show ¬ G.1 ≤ b; rw [hG]; exact Nat.not_le.mpr hbl
  refine lv_aload_n X.1 X.2.1 dL_law_547 rfl (lv_at hl 2 rfl) ?_
  refine lv_aload_n X.1 X.2.1 dL_law_548 rfl (lv_at hl 3 rfl) ?_
  refine lv_iload_n X.1 X.2.1 dL_law_549 rfl (lv_at hl 0 rfl) ?_
  refine lv_iconst (v := 1) X.1 X.2.1 dL_law_550 (by decide) ?_
  refine lv_iadd X.1 X.2.1 dL_law_551 ?_
  refine va_sld X.1 X.2.1 hX hbl hbA hS (hin 1 (by decide)) dL_law_552 ?_
  refine lv_aload_n X.1 X.2.1 dL_law_553 rfl (lv_at hl 3 rfl) ?_
  refine lv_iload_n X.1 X.2.1 dL_law_554 rfl (lv_at hl 0 rfl) ?_
  refine lv_iconst (v := 2) X.1 X.2.1 dL_law_555 (by decide) ?_
  refine lv_iadd X.1 X.2.1 dL_law_556 ?_
  refine va_sld X.1 X.2.1 hX hbl hbA hS (hin 2 (by decide)) dL_law_557 ?_
  refine lv_aload_n X.1 X.2.1 dL_law_558 rfl (lv_at hl 3 rfl) ?_
  refine lv_iload_n X.1 X.2.1 dL_law_559 rfl (lv_at hl 0 rfl) ?_
  refine lv_iconst (v := 3) X.1 X.2.1 dL_law_560 (by decide) ?_
  refine lv_iadd X.1 X.2.1 dL_law_561 ?_
  refine va_sld X.1 X.2.1 hX hbl hbA hS (hin 3 (by decide)) dL_law_562 ?_
  refine lv_aload_n X.1 X.2.1 dL_law_563 rfl (lv_at hl 3 rfl) ?_
  refine lv_iload_n X.1 X.2.1 dL_law_564 rfl (lv_at hl 0 rfl) ?_
  refine lv_iconst (v := 4) X.1 X.2.1 dL_law_565 (by decide) ?_
  refine lv_iadd X.1 X.2.1 dL_law_566 ?_
  refine va_sld X.1 X.2.1 hX hbl hbA hS (hin 4 (by decide)) dL_law_567 ?_
  refine lv_aload_n X.1 X.2.1 dL_law_568 rfl (lv_at hl 3 rfl) ?_
  refine lv_iload_n X.1 X.2.1 dL_law_569 rfl (lv_at hl 0 rfl) ?_
  refine lv_iconst (v := 5) X.1 X.2.1 dL_law_570 (by decide) ?_
  refine lv_iadd X.1 X.2.1 dL_law_571 ?_
  refine va_sld X.1 X.2.1 hX hbl hbA hS (hin 5 (by decide)) dL_law_572 ?_
  have h := hop (xs (x3 + 1).toNatClampNeg) (xs (x3 + 2).toNatClampNeg) (xs (x3 + 3).toNatClampNeg) (xs (x3 + 4).toNatClampNeg) (xs (x3 + 5).toNatClampNeg) S hPI
  refine q_callV (rest := []) (b := 0) X hK hP hS (c_X8_value l G (xs (x3 + 1).toNatClampNeg) (xs (x3 + 2).toNatClampNeg) (xs (x3 + 3).toNatClampNeg) (xs (x3 + 4).toNatClampNeg) (xs (x3 + 5).toNatClampNeg) S _ h) my_X8_value tl_L_70 dL_law_573 kz_0 rfl rfl rfl ⟨Nat.le_of_ble_eq_true rfl, Nat.le_of_ble_eq_true rfl⟩ hl.1 rfl (Nat.le_of_ble_eq_true rfl) ⟨Nat.le_of_ble_eq_true rfl, Nat.le_of_ble_eq_true rfl⟩ (fun r1 S1 H locs h hP hS => ?_)
  refine W.eq (g2 := F0 m 576 ls [.int r1]) rfl ?_
  refine lv_aload_n X.1 X.2.1 dL_law_576 rfl (lv_at hl 1 rfl) ?_
  refine lv_aload_n X.1 X.2.1 dL_law_577 rfl (lv_at hl 3 rfl) ?_
  refine lv_iload_n X.1 X.2.1 dL_law_578 rfl (lv_at hl 0 rfl) ?_
  refine lv_iconst (v := 1) X.1 X.2.1 dL_law_579 (by decide) ?_
  refine lv_iadd X.1 X.2.1 dL_law_580 ?_
  refine va_sld X.1 X.2.1 hX hbl hbA hS (hin 1 (by decide)) dL_law_581 ?_
  refine lv_aload_n X.1 X.2.1 dL_law_582 rfl (lv_at hl 3 rfl) ?_
  refine lv_iload_n X.1 X.2.1 dL_law_583 rfl (lv_at hl 0 rfl) ?_
  refine lv_iconst (v := 2) X.1 X.2.1 dL_law_584 (by decide) ?_
  refine lv_iadd X.1 X.2.1 dL_law_585 ?_
  refine va_sld X.1 X.2.1 hX hbl hbA hS (hin 2 (by decide)) dL_law_586 ?_
  refine lv_aload_n X.1 X.2.1 dL_law_587 rfl (lv_at hl 3 rfl) ?_
  refine lv_iload_n X.1 X.2.1 dL_law_588 rfl (lv_at hl 0 rfl) ?_
  refine lv_iconst (v := 3) X.1 X.2.1 dL_law_589 (by decide) ?_
  refine lv_iadd X.1 X.2.1 dL_law_590 ?_
  refine va_sld X.1 X.2.1 hX hbl hbA hS (hin 3 (by decide)) dL_law_591 ?_
  refine lv_aload_n X.1 X.2.1 dL_law_592 rfl (lv_at hl 3 rfl) ?_
  refine lv_iload_n X.1 X.2.1 dL_law_593 rfl (lv_at hl 0 rfl) ?_
  refine lv_iconst (v := 4) X.1 X.2.1 dL_law_594 (by decide) ?_
  refine lv_iadd X.1 X.2.1 dL_law_595 ?_
  refine va_sld X.1 X.2.1 hX hbl hbA hS (hin 4 (by decide)) dL_law_596 ?_
  refine lv_aload_n X.1 X.2.1 dL_law_597 rfl (lv_at hl 3 rfl) ?_
  refine lv_iload_n X.1 X.2.1 dL_law_598 rfl (lv_at hl 0 rfl) ?_
  refine lv_iconst (v := 5) X.1 X.2.1 dL_law_599 (by decide) ?_
  refine lv_iadd X.1 X.2.1 dL_law_600 ?_
  refine va_sld X.1 X.2.1 hX hbl hbA hS (hin 5 (by decide)) dL_law_601 ?_
  refine q_callV (rest := [.int r1]) (b := 224) X hK hP hS (c_X9_value l G (xs (x3 + 1).toNatClampNeg) (xs (x3 + 2).toNatClampNeg) (xs (x3 + 3).toNatClampNeg) (xs (x3 + 4).toNatClampNeg) (xs (x3 + 5).toNatClampNeg) S1 _ h) my_X9_value tl_L_73 dL_law_602 kz_224 rfl rfl rfl ⟨Nat.le_of_ble_eq_true rfl, Nat.le_of_ble_eq_true rfl⟩ hl.1 rfl (Nat.le_of_ble_eq_true rfl) ⟨Nat.le_of_ble_eq_true rfl, Nat.le_of_ble_eq_true rfl⟩ (fun r2 S2 H locs h hP hS => ?_)
  refine W.eq (g2 := F0 m 605 ls [.int r2, .int r1]) rfl ?_
  obtain ⟨rfl, hPI⟩ := h
  refine lv_icmp_eq (tgt := 972) X.1 X.2.1 dL_law_605 (by decide) (fun _ => ?_) (fun c => absurd rfl c)
  exact hend S2 H locs hPI hP hS
set_option maxHeartbeats 4000000 in
set_option maxRecDepth 100000 in
theorem law_case_12 {p : Program} {e : Env} {s : State} {m : MethodId} {below : List Frame} {meth : Method} {c : Code} (l : Launch) {G : Cx} {b L : Nat} {xs : Nat → Int32} (hL : L ≤ 3074) (C0 : lw_At p s m meth c b L xs) (hG : G.1 = s.heap.size) (hK : q_K G s) (PI : St → Prop) (hop : ∀ (x1 x2 : Int32) (S : St), PI S → w_X8_compare x1 x2 S (fun r1 S1 => w_X9_compare x1 x2 S1 (fun r2 S2 => r1 = r2 ∧ PI S2))) (x3 : Int32) (hin : ∀ k : Nat, k < 6 → vp_in (x3 + Int32.ofNat k) L) (S : St) (H : Heap) (locs : List Loc) (ls : Array Slot) (hPI : PI S) (hP : q_P G S H) (hS : va_S (fr_ G) s.heap H locs) (hl : lv_has ls 4 [(3, .int x3), (2, .ref (G.1 + 224)), (1, .ref (G.1 + 0)), (0, .ref b)])
    (hend : ∀ (S : St) (H : Heap) (locs : List Loc), PI S → q_P G S H → va_S (fr_ G) s.heap H locs → W p l e room_1 s m #[Value.ref b] below meth c H locs 600000 7302250 (lw_Z below #[Value.ref b] s) (F0 m 972 ls [])) : W p l e room_1 s m #[Value.ref b] below meth c H locs 600000 7302250 (lw_Z below #[Value.ref b] s) (F0 m 610 ls []) := by
  have X := law_X C0
  have hX := C0.2.2.2.2.2.2.1
  have hbl := C0.2.2.2.2.2.2.2.1
  have hbA : ¬ fr_ G b := by show ¬ G.1 ≤ b; rw [hG]; exact Nat.not_le.mpr hbl
  refine lv_aload_n X.1 X.2.1 dL_law_610 rfl (lv_at hl 2 rfl) ?_
  refine lv_aload_n X.1 X.2.1 dL_law_611 rfl (lv_at hl 3 rfl) ?_
  refine lv_iload_n X.1 X.2.1 dL_law_612 rfl (lv_at hl 0 rfl) ?_
  refine lv_iconst (v := 1) X.1 X.2.1 dL_law_613 (by decide) ?_
  refine lv_iadd X.1 X.2.1 dL_law_614 ?_
  refine va_sld X.1 X.2.1 hX hbl hbA hS (hin 1 (by decide)) dL_law_615 ?_
  refine lv_aload_n X.1 X.2.1 dL_law_616 rfl (lv_at hl 3 rfl) ?_
  refine lv_iload_n X.1 X.2.1 dL_law_617 rfl (lv_at hl 0 rfl) ?_
  refine lv_iconst (v := 2) X.1 X.2.1 dL_law_618 (by decide) ?_
  refine lv_iadd X.1 X.2.1 dL_law_619 ?_
  refine va_sld X.1 X.2.1 hX hbl hbA hS (hin 2 (by decide)) dL_law_620 ?_
  have h := hop (xs (x3 + 1).toNatClampNeg) (xs (x3 + 2).toNatClampNeg) S hPI
  refine q_callV (rest := []) (b := 0) X hK hP hS (c_X8_compare l G (xs (x3 + 1).toNatClampNeg) (xs (x3 + 2).toNatClampNeg) S _ h) my_X8_compare tl_L_74 dL_law_621 kz_0 rfl rfl rfl ⟨Nat.le_of_ble_eq_true rfl, Nat.le_of_ble_eq_true rfl⟩ hl.1 rfl (Nat.le_of_ble_eq_true rfl) ⟨Nat.le_of_ble_eq_true rfl, Nat.le_of_ble_eq_true rfl⟩ (fun r1 S1 H locs h hP hS => ?_)
  refine W.eq (g2 := F0 m 624 ls [.int r1]) rfl ?_
  refine lv_aload_n X.1 X.2.1 dL_law_624 rfl (lv_at hl 1 rfl) ?_
  refine lv_aload_n X.1 X.2.1 dL_law_625 rfl (lv_at hl 3 rfl) ?_
  refine lv_iload_n X.1 X.2.1 dL_law_626 rfl (lv_at hl 0 rfl) ?_
  refine lv_iconst (v := 1) X.1 X.2.1 dL_law_627 (by decide) ?_
  refine lv_iadd X.1 X.2.1 dL_law_628 ?_
  refine va_sld X.1 X.2.1 hX hbl hbA hS (hin 1 (by decide)) dL_law_629 ?_
  refine lv_aload_n X.1 X.2.1 dL_law_630 rfl (lv_at hl 3 rfl) ?_
  refine lv_iload_n X.1 X.2.1 dL_law_631 rfl (lv_at hl 0 rfl) ?_
  refine lv_iconst (v := 2) X.1 X.2.1 dL_law_632 (by decide) ?_
  refine lv_iadd X.1 X.2.1 dL_law_633 ?_
  refine va_sld X.1 X.2.1 hX hbl hbA hS (hin 2 (by decide)) dL_law_634 ?_
  refine q_callV (rest := [.int r1]) (b := 224) X hK hP hS (c_X9_compare l G (xs (x3 + 1).toNatClampNeg) (xs (x3 + 2).toNatClampNeg) S1 _ h) my_X9_compare tl_L_77 dL_law_635 kz_224 rfl rfl rfl ⟨Nat.le_of_ble_eq_true rfl, Nat.le_of_ble_eq_true rfl⟩ hl.1 rfl (Nat.le_of_ble_eq_true rfl) ⟨Nat.le_of_ble_eq_true rfl, Nat.le_of_ble_eq_true rfl⟩ (fun r2 S2 H locs h hP hS => ?_)
  refine W.eq (g2 := F0 m 638 ls [.int r2, .int r1]) rfl ?_
  obtain ⟨rfl, hPI⟩ := h
  refine lv_icmp_eq (tgt := 972) X.1 X.2.1 dL_law_638 (by decide) (fun _ => ?_) (fun c => absurd rfl c)
  exact hend S2 H locs hPI hP hS
set_option maxHeartbeats 4000000 in
set_option maxRecDepth 100000 in
theorem law_case_13 {p : Program} {e : Env} {s : State} {m : MethodId} {below : List Frame} {meth : Method} {c : Code} (l : Launch) {G : Cx} {b L : Nat} {xs : Nat → Int32} (hL : L ≤ 3074) (C0 : lw_At p s m meth c b L xs) (hG : G.1 = s.heap.size) (hK : q_K G s) (PI : St → Prop) (hop : ∀ (x1 : Int32) (S : St), PI S → w_X8_fuel x1 S (fun r1 S1 => w_X9_fuel x1 S1 (fun r2 S2 => r1 = r2 ∧ PI S2))) (x3 : Int32) (hin : ∀ k : Nat, k < 6 → vp_in (x3 + Int32.ofNat k) L) (S : St) (H : Heap) (locs : List Loc) (ls : Array Slot) (hPI : PI S) (hP : q_P G S H) (hS : va_S (fr_ G) s.heap H locs) (hl : lv_has ls 4 [(3, .int x3), (2, .ref (G.1 + 224)), (1, .ref (G.1 + 0)), (0, .ref b)])
    (hend : ∀ (S : St) (H : Heap) (locs : List Loc), PI S → q_P G S H → va_S (fr_ G) s.heap H locs → W p l e room_1 s m #[Value.ref b] below meth c H locs 600000 7302250 (lw_Z below #[Value.ref b] s) (F0 m 972 ls [])) : W p l e room_1 s m #[Value.ref b] below meth c H locs 600000 7302250 (lw_Z below #[Value.ref b] s) (F0 m 643 ls []) := by
  have X := law_X C0
  have hX := C0.2.2.2.2.2.2.1
  have hbl := C0.2.2.2.2.2.2.2.1
  have hbA : ¬ fr_ G b := by show ¬ G.1 ≤ b; rw [hG]; exact Nat.not_le.mpr hbl
  refine lv_aload_n X.1 X.2.1 dL_law_643 rfl (lv_at hl 2 rfl) ?_
  refine lv_aload_n X.1 X.2.1 dL_law_644 rfl (lv_at hl 3 rfl) ?_
  refine lv_iload_n X.1 X.2.1 dL_law_645 rfl (lv_at hl 0 rfl) ?_
  refine lv_iconst (v := 1) X.1 X.2.1 dL_law_646 (by decide) ?_
  refine lv_iadd X.1 X.2.1 dL_law_647 ?_
  refine va_sld X.1 X.2.1 hX hbl hbA hS (hin 1 (by decide)) dL_law_648 ?_
  have h := hop (xs (x3 + 1).toNatClampNeg) S hPI
  refine q_callV (rest := []) (b := 0) X hK hP hS (c_X8_fuel l G (xs (x3 + 1).toNatClampNeg) S _ h) my_X8_fuel tl_L_78 dL_law_649 kz_0 rfl rfl rfl ⟨Nat.le_of_ble_eq_true rfl, Nat.le_of_ble_eq_true rfl⟩ hl.1 rfl (Nat.le_of_ble_eq_true rfl) ⟨Nat.le_of_ble_eq_true rfl, Nat.le_of_ble_eq_true rfl⟩ (fun r1 S1 H locs h hP hS => ?_)
  refine W.eq (g2 := F0 m 652 ls [.int r1]) rfl ?_
  refine lv_aload_n X.1 X.2.1 dL_law_652 rfl (lv_at hl 1 rfl) ?_
  refine lv_aload_n X.1 X.2.1 dL_law_653 rfl (lv_at hl 3 rfl) ?_
  refine lv_iload_n X.1 X.2.1 dL_law_654 rfl (lv_at hl 0 rfl) ?_
  refine lv_iconst (v := 1) X.1 X.2.1 dL_law_655 (by decide) ?_
  refine lv_iadd X.1 X.2.1 dL_law_656 ?_
  refine va_sld X.1 X.2.1 hX hbl hbA hS (hin 1 (by decide)) dL_law_657 ?_
  refine q_callV (rest := [.int r1]) (b := 224) X hK hP hS (c_X9_fuel l G (xs (x3 + 1).toNatClampNeg) S1 _ h) my_X9_fuel tl_L_81 dL_law_658 kz_224 rfl rfl rfl ⟨Nat.le_of_ble_eq_true rfl, Nat.le_of_ble_eq_true rfl⟩ hl.1 rfl (Nat.le_of_ble_eq_true rfl) ⟨Nat.le_of_ble_eq_true rfl, Nat.le_of_ble_eq_true rfl⟩ (fun r2 S2 H locs h hP hS => ?_)
  refine W.eq (g2 := F0 m 661 ls [.int r2, .int r1]) rfl ?_
  obtain ⟨rfl, hPI⟩ := h
  refine lv_icmp_eq (tgt := 972) X.1 X.2.1 dL_law_661 (by decide) (fun _ => ?_) (fun c => absurd rfl c)
  exact hend S2 H locs hPI hP hS
set_option maxHeartbeats 4000000 in
set_option maxRecDepth 100000 in
theorem law_case_14 {p : Program} {e : Env} {s : State} {m : MethodId} {below : List Frame} {meth : Method} {c : Code} (l : Launch) {G : Cx} {b L : Nat} {xs : Nat → Int32} (hL : L ≤ 3074) (C0 : lw_At p s m meth c b L xs) (hG : G.1 = s.heap.size) (hK : q_K G s) (PI : St → Prop) (hop : ∀ (x1 : Int32) (S : St), PI S → w_X8_way x1 S (fun r1 S1 => w_X9_way x1 S1 (fun r2 S2 => r1 = r2 ∧ PI S2))) (x3 : Int32) (hin : ∀ k : Nat, k < 6 → vp_in (x3 + Int32.ofNat k) L) (S : St) (H : Heap) (locs : List Loc) (ls : Array Slot) (hPI : PI S) (hP : q_P G S H) (hS : va_S (fr_ G) s.heap H locs) (hl : lv_has ls 4 [(3, .int x3), (2, .ref (G.1 + 224)), (1, .ref (G.1 + 0)), (0, .ref b)])
    (hend : ∀ (S : St) (H : Heap) (locs : List Loc), PI S → q_P G S H → va_S (fr_ G) s.heap H locs → W p l e room_1 s m #[Value.ref b] below meth c H locs 600000 7302250 (lw_Z below #[Value.ref b] s) (F0 m 972 ls [])) : W p l e room_1 s m #[Value.ref b] below meth c H locs 600000 7302250 (lw_Z below #[Value.ref b] s) (F0 m 666 ls []) := by
  have X := law_X C0
  have hX := C0.2.2.2.2.2.2.1
  have hbl := C0.2.2.2.2.2.2.2.1
  have hbA : ¬ fr_ G b := by show ¬ G.1 ≤ b; rw [hG]; exact Nat.not_le.mpr hbl
  refine lv_aload_n X.1 X.2.1 dL_law_666 rfl (lv_at hl 2 rfl) ?_
  refine lv_aload_n X.1 X.2.1 dL_law_667 rfl (lv_at hl 3 rfl) ?_
  refine lv_iload_n X.1 X.2.1 dL_law_668 rfl (lv_at hl 0 rfl) ?_
  refine lv_iconst (v := 1) X.1 X.2.1 dL_law_669 (by decide) ?_
  refine lv_iadd X.1 X.2.1 dL_law_670 ?_
  refine va_sld X.1 X.2.1 hX hbl hbA hS (hin 1 (by decide)) dL_law_671 ?_
  have h := hop (xs (x3 + 1).toNatClampNeg) S hPI
  refine q_callV (rest := []) (b := 0) X hK hP hS (c_X8_way l G (xs (x3 + 1).toNatClampNeg) S _ h) my_X8_way tl_L_82 dL_law_672 kz_0 rfl rfl rfl ⟨Nat.le_of_ble_eq_true rfl, Nat.le_of_ble_eq_true rfl⟩ hl.1 rfl (Nat.le_of_ble_eq_true rfl) ⟨Nat.le_of_ble_eq_true rfl, Nat.le_of_ble_eq_true rfl⟩ (fun r1 S1 H locs h hP hS => ?_)
  refine W.eq (g2 := F0 m 675 ls [.int r1]) rfl ?_
  refine lv_aload_n X.1 X.2.1 dL_law_675 rfl (lv_at hl 1 rfl) ?_
  refine lv_aload_n X.1 X.2.1 dL_law_676 rfl (lv_at hl 3 rfl) ?_
  refine lv_iload_n X.1 X.2.1 dL_law_677 rfl (lv_at hl 0 rfl) ?_
  refine lv_iconst (v := 1) X.1 X.2.1 dL_law_678 (by decide) ?_
  refine lv_iadd X.1 X.2.1 dL_law_679 ?_
  refine va_sld X.1 X.2.1 hX hbl hbA hS (hin 1 (by decide)) dL_law_680 ?_
  refine q_callV (rest := [.int r1]) (b := 224) X hK hP hS (c_X9_way l G (xs (x3 + 1).toNatClampNeg) S1 _ h) my_X9_way tl_L_85 dL_law_681 kz_224 rfl rfl rfl ⟨Nat.le_of_ble_eq_true rfl, Nat.le_of_ble_eq_true rfl⟩ hl.1 rfl (Nat.le_of_ble_eq_true rfl) ⟨Nat.le_of_ble_eq_true rfl, Nat.le_of_ble_eq_true rfl⟩ (fun r2 S2 H locs h hP hS => ?_)
  refine W.eq (g2 := F0 m 684 ls [.int r2, .int r1]) rfl ?_
  obtain ⟨rfl, hPI⟩ := h
  refine lv_icmp_eq (tgt := 972) X.1 X.2.1 dL_law_684 (by decide) (fun _ => ?_) (fun c => absurd rfl c)
  exact hend S2 H locs hPI hP hS
set_option maxHeartbeats 4000000 in
set_option maxRecDepth 100000 in
theorem law_case_15 {p : Program} {e : Env} {s : State} {m : MethodId} {below : List Frame} {meth : Method} {c : Code} (l : Launch) {G : Cx} {b L : Nat} {xs : Nat → Int32} (hL : L ≤ 3074) (C0 : lw_At p s m meth c b L xs) (hG : G.1 = s.heap.size) (hK : q_K G s) (PI : St → Prop) (hop : ∀ (x1 : Int32) (S : St), PI S → w_X8_rules x1 S (fun r1 S1 => w_X9_rules x1 S1 (fun r2 S2 => r1 = r2 ∧ PI S2))) (x3 : Int32) (hin : ∀ k : Nat, k < 6 → vp_in (x3 + Int32.ofNat k) L) (S : St) (H : Heap) (locs : List Loc) (ls : Array Slot) (hPI : PI S) (hP : q_P G S H) (hS : va_S (fr_ G) s.heap H locs) (hl : lv_has ls 4 [(3, .int x3), (2, .ref (G.1 + 224)), (1, .ref (G.1 + 0)), (0, .ref b)])
    (hend : ∀ (S : St) (H : Heap) (locs : List Loc), PI S → q_P G S H → va_S (fr_ G) s.heap H locs → W p l e room_1 s m #[Value.ref b] below meth c H locs 600000 7302250 (lw_Z below #[Value.ref b] s) (F0 m 972 ls [])) : W p l e room_1 s m #[Value.ref b] below meth c H locs 600000 7302250 (lw_Z below #[Value.ref b] s) (F0 m 689 ls []) := by
  have X := law_X C0
  have hX := C0.2.2.2.2.2.2.1
  have hbl := C0.2.2.2.2.2.2.2.1
  have hbA : ¬ fr_ G b := by show ¬ G.1 ≤ b; rw [hG]; exact Nat.not_le.mpr hbl
  refine lv_aload_n X.1 X.2.1 dL_law_689 rfl (lv_at hl 2 rfl) ?_
  refine lv_aload_n X.1 X.2.1 dL_law_690 rfl (lv_at hl 3 rfl) ?_
  refine lv_iload_n X.1 X.2.1 dL_law_691 rfl (lv_at hl 0 rfl) ?_
  refine lv_iconst (v := 1) X.1 X.2.1 dL_law_692 (by decide) ?_
  refine lv_iadd X.1 X.2.1 dL_law_693 ?_
  refine va_sld X.1 X.2.1 hX hbl hbA hS (hin 1 (by decide)) dL_law_694 ?_
  have h := hop (xs (x3 + 1).toNatClampNeg) S hPI
  refine q_callV (rest := []) (b := 0) X hK hP hS (c_X8_rules l G (xs (x3 + 1).toNatClampNeg) S _ h) my_X8_rules tl_L_86 dL_law_695 kz_0 rfl rfl rfl ⟨Nat.le_of_ble_eq_true rfl, Nat.le_of_ble_eq_true rfl⟩ hl.1 rfl (Nat.le_of_ble_eq_true rfl) ⟨Nat.le_of_ble_eq_true rfl, Nat.le_of_ble_eq_true rfl⟩ (fun r1 S1 H locs h hP hS => ?_)
  refine W.eq (g2 := F0 m 698 ls [.int r1]) rfl ?_
  refine lv_aload_n X.1 X.2.1 dL_law_698 rfl (lv_at hl 1 rfl) ?_
  refine lv_aload_n X.1 X.2.1 dL_law_699 rfl (lv_at hl 3 rfl) ?_
  refine lv_iload_n X.1 X.2.1 dL_law_700 rfl (lv_at hl 0 rfl) ?_
  refine lv_iconst (v := 1) X.1 X.2.1 dL_law_701 (by decide) ?_
  refine lv_iadd X.1 X.2.1 dL_law_702 ?_
  refine va_sld X.1 X.2.1 hX hbl hbA hS (hin 1 (by decide)) dL_law_703 ?_
  refine q_callV (rest := [.int r1]) (b := 224) X hK hP hS (c_X9_rules l G (xs (x3 + 1).toNatClampNeg) S1 _ h) my_X9_rules tl_L_89 dL_law_704 kz_224 rfl rfl rfl ⟨Nat.le_of_ble_eq_true rfl, Nat.le_of_ble_eq_true rfl⟩ hl.1 rfl (Nat.le_of_ble_eq_true rfl) ⟨Nat.le_of_ble_eq_true rfl, Nat.le_of_ble_eq_true rfl⟩ (fun r2 S2 H locs h hP hS => ?_)
  refine W.eq (g2 := F0 m 707 ls [.int r2, .int r1]) rfl ?_
  obtain ⟨rfl, hPI⟩ := h
  refine lv_icmp_eq (tgt := 972) X.1 X.2.1 dL_law_707 (by decide) (fun _ => ?_) (fun c => absurd rfl c)
  exact hend S2 H locs hPI hP hS
set_option maxHeartbeats 4000000 in
set_option maxRecDepth 100000 in
theorem law_case_16 {p : Program} {e : Env} {s : State} {m : MethodId} {below : List Frame} {meth : Method} {c : Code} (l : Launch) {G : Cx} {b L : Nat} {xs : Nat → Int32} (hL : L ≤ 3074) (C0 : lw_At p s m meth c b L xs) (hG : G.1 = s.heap.size) (hK : q_K G s) (PI : St → Prop) (hop : ∀ (x1 : Int32) (S : St), PI S → w_X8_enter x1 S (fun r1 S1 => w_X9_enter x1 S1 (fun r2 S2 => r1 = r2 ∧ PI S2))) (x3 : Int32) (hin : ∀ k : Nat, k < 6 → vp_in (x3 + Int32.ofNat k) L) (S : St) (H : Heap) (locs : List Loc) (ls : Array Slot) (hPI : PI S) (hP : q_P G S H) (hS : va_S (fr_ G) s.heap H locs) (hl : lv_has ls 4 [(3, .int x3), (2, .ref (G.1 + 224)), (1, .ref (G.1 + 0)), (0, .ref b)])
    (hend : ∀ (S : St) (H : Heap) (locs : List Loc), PI S → q_P G S H → va_S (fr_ G) s.heap H locs → W p l e room_1 s m #[Value.ref b] below meth c H locs 600000 7302250 (lw_Z below #[Value.ref b] s) (F0 m 972 ls [])) : W p l e room_1 s m #[Value.ref b] below meth c H locs 600000 7302250 (lw_Z below #[Value.ref b] s) (F0 m 712 ls []) := by
  have X := law_X C0
  have hX := C0.2.2.2.2.2.2.1
  have hbl := C0.2.2.2.2.2.2.2.1
  have hbA : ¬ fr_ G b := by show ¬ G.1 ≤ b; rw [hG]; exact Nat.not_le.mpr hbl
  refine lv_aload_n X.1 X.2.1 dL_law_712 rfl (lv_at hl 2 rfl) ?_
  refine lv_aload_n X.1 X.2.1 dL_law_713 rfl (lv_at hl 3 rfl) ?_
  refine lv_iload_n X.1 X.2.1 dL_law_714 rfl (lv_at hl 0 rfl) ?_
  refine lv_iconst (v := 1) X.1 X.2.1 dL_law_715 (by decide) ?_
  refine lv_iadd X.1 X.2.1 dL_law_716 ?_
  refine va_sld X.1 X.2.1 hX hbl hbA hS (hin 1 (by decide)) dL_law_717 ?_
  have h := hop (xs (x3 + 1).toNatClampNeg) S hPI
  refine q_callV (rest := []) (b := 0) X hK hP hS (c_X8_enter l G (xs (x3 + 1).toNatClampNeg) S _ h) my_X8_enter tl_L_90 dL_law_718 kz_0 rfl rfl rfl ⟨Nat.le_of_ble_eq_true rfl, Nat.le_of_ble_eq_true rfl⟩ hl.1 rfl (Nat.le_of_ble_eq_true rfl) ⟨Nat.le_of_ble_eq_true rfl, Nat.le_of_ble_eq_true rfl⟩ (fun r1 S1 H locs h hP hS => ?_)
  refine W.eq (g2 := F0 m 721 ls [.int r1]) rfl ?_
  refine lv_aload_n X.1 X.2.1 dL_law_721 rfl (lv_at hl 1 rfl) ?_
  refine lv_aload_n X.1 X.2.1 dL_law_722 rfl (lv_at hl 3 rfl) ?_
  refine lv_iload_n X.1 X.2.1 dL_law_723 rfl (lv_at hl 0 rfl) ?_
  refine lv_iconst (v := 1) X.1 X.2.1 dL_law_724 (by decide) ?_
  refine lv_iadd X.1 X.2.1 dL_law_725 ?_
  refine va_sld X.1 X.2.1 hX hbl hbA hS (hin 1 (by decide)) dL_law_726 ?_
  refine q_callV (rest := [.int r1]) (b := 224) X hK hP hS (c_X9_enter l G (xs (x3 + 1).toNatClampNeg) S1 _ h) my_X9_enter tl_L_93 dL_law_727 kz_224 rfl rfl rfl ⟨Nat.le_of_ble_eq_true rfl, Nat.le_of_ble_eq_true rfl⟩ hl.1 rfl (Nat.le_of_ble_eq_true rfl) ⟨Nat.le_of_ble_eq_true rfl, Nat.le_of_ble_eq_true rfl⟩ (fun r2 S2 H locs h hP hS => ?_)
  refine W.eq (g2 := F0 m 730 ls [.int r2, .int r1]) rfl ?_
  obtain ⟨rfl, hPI⟩ := h
  refine lv_icmp_eq (tgt := 972) X.1 X.2.1 dL_law_730 (by decide) (fun _ => ?_) (fun c => absurd rfl c)
  exact hend S2 H locs hPI hP hS
set_option maxHeartbeats 4000000 in
set_option maxRecDepth 100000 in
theorem law_case_17 {p : Program} {e : Env} {s : State} {m : MethodId} {below : List Frame} {meth : Method} {c : Code} (l : Launch) {G : Cx} {b L : Nat} {xs : Nat → Int32} (hL : L ≤ 3074) (C0 : lw_At p s m meth c b L xs) (hG : G.1 = s.heap.size) (hK : q_K G s) (PI : St → Prop) (hop : ∀ (S : St), PI S → w_X8_clear S (fun r1 S1 => w_X9_clear S1 (fun r2 S2 => r1 = r2 ∧ PI S2))) (x3 : Int32) (hin : ∀ k : Nat, k < 6 → vp_in (x3 + Int32.ofNat k) L) (S : St) (H : Heap) (locs : List Loc) (ls : Array Slot) (hPI : PI S) (hP : q_P G S H) (hS : va_S (fr_ G) s.heap H locs) (hl : lv_has ls 4 [(3, .int x3), (2, .ref (G.1 + 224)), (1, .ref (G.1 + 0)), (0, .ref b)])
    (hend : ∀ (S : St) (H : Heap) (locs : List Loc), PI S → q_P G S H → va_S (fr_ G) s.heap H locs → W p l e room_1 s m #[Value.ref b] below meth c H locs 600000 7302250 (lw_Z below #[Value.ref b] s) (F0 m 972 ls [])) : W p l e room_1 s m #[Value.ref b] below meth c H locs 600000 7302250 (lw_Z below #[Value.ref b] s) (F0 m 735 ls []) := by
  have X := law_X C0
  have hX := C0.2.2.2.2.2.2.1
  have hbl := C0.2.2.2.2.2.2.2.1
  have hbA : ¬ fr_ G b := by show ¬ G.1 ≤ b; rw [hG]; exact Nat.not_le.mpr hbl
  refine lv_aload_n X.1 X.2.1 dL_law_735 rfl (lv_at hl 2 rfl) ?_
  have h := hop S hPI
  refine q_callV (rest := []) (b := 0) X hK hP hS (c_X8_clear l G S _ h) my_X8_clear tl_L_94 dL_law_736 kz_0 rfl rfl rfl ⟨Nat.le_of_ble_eq_true rfl, Nat.le_of_ble_eq_true rfl⟩ hl.1 rfl (Nat.le_of_ble_eq_true rfl) ⟨Nat.le_of_ble_eq_true rfl, Nat.le_of_ble_eq_true rfl⟩ (fun r1 S1 H locs h hP hS => ?_)
  refine W.eq (g2 := F0 m 739 ls [.int r1]) rfl ?_
  refine lv_aload_n X.1 X.2.1 dL_law_739 rfl (lv_at hl 1 rfl) ?_
  refine q_callV (rest := [.int r1]) (b := 224) X hK hP hS (c_X9_clear l G S1 _ h) my_X9_clear tl_L_97 dL_law_740 kz_224 rfl rfl rfl ⟨Nat.le_of_ble_eq_true rfl, Nat.le_of_ble_eq_true rfl⟩ hl.1 rfl (Nat.le_of_ble_eq_true rfl) ⟨Nat.le_of_ble_eq_true rfl, Nat.le_of_ble_eq_true rfl⟩ (fun r2 S2 H locs h hP hS => ?_)
  refine W.eq (g2 := F0 m 743 ls [.int r2, .int r1]) rfl ?_
  obtain ⟨rfl, hPI⟩ := h
  refine lv_icmp_eq (tgt := 972) X.1 X.2.1 dL_law_743 (by decide) (fun _ => ?_) (fun c => absurd rfl c)
  exact hend S2 H locs hPI hP hS
set_option maxHeartbeats 4000000 in
set_option maxRecDepth 100000 in
theorem law_case_18 {p : Program} {e : Env} {s : State} {m : MethodId} {below : List Frame} {meth : Method} {c : Code} (l : Launch) {G : Cx} {b L : Nat} {xs : Nat → Int32} (hL : L ≤ 3074) (C0 : lw_At p s m meth c b L xs) (hG : G.1 = s.heap.size) (hK : q_K G s) (PI : St → Prop) (hop : ∀ (x1 : Int32) (S : St), PI S → w_X8_work x1 S (fun r1 S1 => w_X9_work x1 S1 (fun r2 S2 => r1 = r2 ∧ PI S2))) (x3 : Int32) (hin : ∀ k : Nat, k < 6 → vp_in (x3 + Int32.ofNat k) L) (S : St) (H : Heap) (locs : List Loc) (ls : Array Slot) (hPI : PI S) (hP : q_P G S H) (hS : va_S (fr_ G) s.heap H locs) (hl : lv_has ls 4 [(3, .int x3), (2, .ref (G.1 + 224)), (1, .ref (G.1 + 0)), (0, .ref b)])
    (hend : ∀ (S : St) (H : Heap) (locs : List Loc), PI S → q_P G S H → va_S (fr_ G) s.heap H locs → W p l e room_1 s m #[Value.ref b] below meth c H locs 600000 7302250 (lw_Z below #[Value.ref b] s) (F0 m 972 ls [])) : W p l e room_1 s m #[Value.ref b] below meth c H locs 600000 7302250 (lw_Z below #[Value.ref b] s) (F0 m 748 ls []) := by
  have X := law_X C0
  have hX := C0.2.2.2.2.2.2.1
  have hbl := C0.2.2.2.2.2.2.2.1
  have hbA : ¬ fr_ G b := by show ¬ G.1 ≤ b; rw [hG]; exact Nat.not_le.mpr hbl
  refine lv_aload_n X.1 X.2.1 dL_law_748 rfl (lv_at hl 2 rfl) ?_
  refine lv_aload_n X.1 X.2.1 dL_law_749 rfl (lv_at hl 3 rfl) ?_
  refine lv_iload_n X.1 X.2.1 dL_law_750 rfl (lv_at hl 0 rfl) ?_
  refine lv_iconst (v := 1) X.1 X.2.1 dL_law_751 (by decide) ?_
  refine lv_iadd X.1 X.2.1 dL_law_752 ?_
  refine va_sld X.1 X.2.1 hX hbl hbA hS (hin 1 (by decide)) dL_law_753 ?_
  have h := hop (xs (x3 + 1).toNatClampNeg) S hPI
  refine q_callV (rest := []) (b := 0) X hK hP hS (c_X8_work l G (xs (x3 + 1).toNatClampNeg) S _ h) my_X8_work tl_L_98 dL_law_754 kz_0 rfl rfl rfl ⟨Nat.le_of_ble_eq_true rfl, Nat.le_of_ble_eq_true rfl⟩ hl.1 rfl (Nat.le_of_ble_eq_true rfl) ⟨Nat.le_of_ble_eq_true rfl, Nat.le_of_ble_eq_true rfl⟩ (fun r1 S1 H locs h hP hS => ?_)
  refine W.eq (g2 := F0 m 757 ls [.int r1]) rfl ?_
  refine lv_aload_n X.1 X.2.1 dL_law_757 rfl (lv_at hl 1 rfl) ?_
  refine lv_aload_n X.1 X.2.1 dL_law_758 rfl (lv_at hl 3 rfl) ?_
  refine lv_iload_n X.1 X.2.1 dL_law_759 rfl (lv_at hl 0 rfl) ?_
  refine lv_iconst (v := 1) X.1 X.2.1 dL_law_760 (by decide) ?_
  refine lv_iadd X.1 X.2.1 dL_law_761 ?_
  refine va_sld X.1 X.2.1 hX hbl hbA hS (hin 1 (by decide)) dL_law_762 ?_
  refine q_callV (rest := [.int r1]) (b := 224) X hK hP hS (c_X9_work l G (xs (x3 + 1).toNatClampNeg) S1 _ h) my_X9_work tl_L_101 dL_law_763 kz_224 rfl rfl rfl ⟨Nat.le_of_ble_eq_true rfl, Nat.le_of_ble_eq_true rfl⟩ hl.1 rfl (Nat.le_of_ble_eq_true rfl) ⟨Nat.le_of_ble_eq_true rfl, Nat.le_of_ble_eq_true rfl⟩ (fun r2 S2 H locs h hP hS => ?_)
  refine W.eq (g2 := F0 m 766 ls [.int r2, .int r1]) rfl ?_
  obtain ⟨rfl, hPI⟩ := h
  refine lv_icmp_eq (tgt := 972) X.1 X.2.1 dL_law_766 (by decide) (fun _ => ?_) (fun c => absurd rfl c)
  exact hend S2 H locs hPI hP hS
set_option maxHeartbeats 4000000 in
set_option maxRecDepth 100000 in
theorem law_case_19 {p : Program} {e : Env} {s : State} {m : MethodId} {below : List Frame} {meth : Method} {c : Code} (l : Launch) {G : Cx} {b L : Nat} {xs : Nat → Int32} (hL : L ≤ 3074) (C0 : lw_At p s m meth c b L xs) (hG : G.1 = s.heap.size) (hK : q_K G s) (PI : St → Prop) (hop : ∀ (S : St), PI S → w_X8_tidy S (fun r1 S1 => w_X9_tidy S1 (fun r2 S2 => r1 = r2 ∧ PI S2))) (x3 : Int32) (hin : ∀ k : Nat, k < 6 → vp_in (x3 + Int32.ofNat k) L) (S : St) (H : Heap) (locs : List Loc) (ls : Array Slot) (hPI : PI S) (hP : q_P G S H) (hS : va_S (fr_ G) s.heap H locs) (hl : lv_has ls 4 [(3, .int x3), (2, .ref (G.1 + 224)), (1, .ref (G.1 + 0)), (0, .ref b)])
    (hend : ∀ (S : St) (H : Heap) (locs : List Loc), PI S → q_P G S H → va_S (fr_ G) s.heap H locs → W p l e room_1 s m #[Value.ref b] below meth c H locs 600000 7302250 (lw_Z below #[Value.ref b] s) (F0 m 972 ls [])) : W p l e room_1 s m #[Value.ref b] below meth c H locs 600000 7302250 (lw_Z below #[Value.ref b] s) (F0 m 771 ls []) := by
  have X := law_X C0
  have hX := C0.2.2.2.2.2.2.1
  have hbl := C0.2.2.2.2.2.2.2.1
  have hbA : ¬ fr_ G b := by show ¬ G.1 ≤ b; rw [hG]; exact Nat.not_le.mpr hbl
  refine lv_aload_n X.1 X.2.1 dL_law_771 rfl (lv_at hl 2 rfl) ?_
  have h := hop S hPI
  refine q_callV (rest := []) (b := 0) X hK hP hS (c_X8_tidy l G S _ h) my_X8_tidy tl_L_102 dL_law_772 kz_0 rfl rfl rfl ⟨Nat.le_of_ble_eq_true rfl, Nat.le_of_ble_eq_true rfl⟩ hl.1 rfl (Nat.le_of_ble_eq_true rfl) ⟨Nat.le_of_ble_eq_true rfl, Nat.le_of_ble_eq_true rfl⟩ (fun r1 S1 H locs h hP hS => ?_)
  refine W.eq (g2 := F0 m 775 ls [.int r1]) rfl ?_
  refine lv_aload_n X.1 X.2.1 dL_law_775 rfl (lv_at hl 1 rfl) ?_
  refine q_callV (rest := [.int r1]) (b := 224) X hK hP hS (c_X9_tidy l G S1 _ h) my_X9_tidy tl_L_105 dL_law_776 kz_224 rfl rfl rfl ⟨Nat.le_of_ble_eq_true rfl, Nat.le_of_ble_eq_true rfl⟩ hl.1 rfl (Nat.le_of_ble_eq_true rfl) ⟨Nat.le_of_ble_eq_true rfl, Nat.le_of_ble_eq_true rfl⟩ (fun r2 S2 H locs h hP hS => ?_)
  refine W.eq (g2 := F0 m 779 ls [.int r2, .int r1]) rfl ?_
  obtain ⟨rfl, hPI⟩ := h
  refine lv_icmp_eq (tgt := 972) X.1 X.2.1 dL_law_779 (by decide) (fun _ => ?_) (fun c => absurd rfl c)
  exact hend S2 H locs hPI hP hS
set_option maxHeartbeats 4000000 in
set_option maxRecDepth 100000 in
theorem law_case_20 {p : Program} {e : Env} {s : State} {m : MethodId} {below : List Frame} {meth : Method} {c : Code} (l : Launch) {G : Cx} {b L : Nat} {xs : Nat → Int32} (hL : L ≤ 3074) (C0 : lw_At p s m meth c b L xs) (hG : G.1 = s.heap.size) (hK : q_K G s) (PI : St → Prop) (hop : ∀ (x1 : Int32) (S : St), PI S → w_X8_left x1 S (fun r1 S1 => w_X9_left x1 S1 (fun r2 S2 => r1 = r2 ∧ PI S2))) (x3 : Int32) (hin : ∀ k : Nat, k < 6 → vp_in (x3 + Int32.ofNat k) L) (S : St) (H : Heap) (locs : List Loc) (ls : Array Slot) (hPI : PI S) (hP : q_P G S H) (hS : va_S (fr_ G) s.heap H locs) (hl : lv_has ls 4 [(3, .int x3), (2, .ref (G.1 + 224)), (1, .ref (G.1 + 0)), (0, .ref b)])
    (hend : ∀ (S : St) (H : Heap) (locs : List Loc), PI S → q_P G S H → va_S (fr_ G) s.heap H locs → W p l e room_1 s m #[Value.ref b] below meth c H locs 600000 7302250 (lw_Z below #[Value.ref b] s) (F0 m 972 ls [])) : W p l e room_1 s m #[Value.ref b] below meth c H locs 600000 7302250 (lw_Z below #[Value.ref b] s) (F0 m 784 ls []) := by
  have X := law_X C0
  have hX := C0.2.2.2.2.2.2.1
  have hbl := C0.2.2.2.2.2.2.2.1
  have hbA : ¬ fr_ G b := by show ¬ G.1 ≤ b; rw [hG]; exact Nat.not_le.mpr hbl
  refine lv_aload_n X.1 X.2.1 dL_law_784 rfl (lv_at hl 2 rfl) ?_
  refine lv_aload_n X.1 X.2.1 dL_law_785 rfl (lv_at hl 3 rfl) ?_
  refine lv_iload_n X.1 X.2.1 dL_law_786 rfl (lv_at hl 0 rfl) ?_
  refine lv_iconst (v := 1) X.1 X.2.1 dL_law_787 (by decide) ?_
  refine lv_iadd X.1 X.2.1 dL_law_788 ?_
  refine va_sld X.1 X.2.1 hX hbl hbA hS (hin 1 (by decide)) dL_law_789 ?_
  have h := hop (xs (x3 + 1).toNatClampNeg) S hPI
  refine q_callV (rest := []) (b := 0) X hK hP hS (c_X8_left l G (xs (x3 + 1).toNatClampNeg) S _ h) my_X8_left tl_L_106 dL_law_790 kz_0 rfl rfl rfl ⟨Nat.le_of_ble_eq_true rfl, Nat.le_of_ble_eq_true rfl⟩ hl.1 rfl (Nat.le_of_ble_eq_true rfl) ⟨Nat.le_of_ble_eq_true rfl, Nat.le_of_ble_eq_true rfl⟩ (fun r1 S1 H locs h hP hS => ?_)
  refine W.eq (g2 := F0 m 793 ls [.int r1]) rfl ?_
  refine lv_aload_n X.1 X.2.1 dL_law_793 rfl (lv_at hl 1 rfl) ?_
  refine lv_aload_n X.1 X.2.1 dL_law_794 rfl (lv_at hl 3 rfl) ?_
  refine lv_iload_n X.1 X.2.1 dL_law_795 rfl (lv_at hl 0 rfl) ?_
  refine lv_iconst (v := 1) X.1 X.2.1 dL_law_796 (by decide) ?_
  refine lv_iadd X.1 X.2.1 dL_law_797 ?_
  refine va_sld X.1 X.2.1 hX hbl hbA hS (hin 1 (by decide)) dL_law_798 ?_
  refine q_callV (rest := [.int r1]) (b := 224) X hK hP hS (c_X9_left l G (xs (x3 + 1).toNatClampNeg) S1 _ h) my_X9_left tl_L_109 dL_law_799 kz_224 rfl rfl rfl ⟨Nat.le_of_ble_eq_true rfl, Nat.le_of_ble_eq_true rfl⟩ hl.1 rfl (Nat.le_of_ble_eq_true rfl) ⟨Nat.le_of_ble_eq_true rfl, Nat.le_of_ble_eq_true rfl⟩ (fun r2 S2 H locs h hP hS => ?_)
  refine W.eq (g2 := F0 m 802 ls [.int r2, .int r1]) rfl ?_
  obtain ⟨rfl, hPI⟩ := h
  refine lv_icmp_eq (tgt := 972) X.1 X.2.1 dL_law_802 (by decide) (fun _ => ?_) (fun c => absurd rfl c)
  exact hend S2 H locs hPI hP hS
set_option maxHeartbeats 4000000 in
set_option maxRecDepth 100000 in
theorem law_case_21 {p : Program} {e : Env} {s : State} {m : MethodId} {below : List Frame} {meth : Method} {c : Code} (l : Launch) {G : Cx} {b L : Nat} {xs : Nat → Int32} (hL : L ≤ 3074) (C0 : lw_At p s m meth c b L xs) (hG : G.1 = s.heap.size) (hK : q_K G s) (PI : St → Prop) (hop : ∀ (x1 : Int32) (S : St), PI S → w_X8_member x1 S (fun r1 S1 => w_X9_member x1 S1 (fun r2 S2 => r1 = r2 ∧ PI S2))) (x3 : Int32) (hin : ∀ k : Nat, k < 6 → vp_in (x3 + Int32.ofNat k) L) (S : St) (H : Heap) (locs : List Loc) (ls : Array Slot) (hPI : PI S) (hP : q_P G S H) (hS : va_S (fr_ G) s.heap H locs) (hl : lv_has ls 4 [(3, .int x3), (2, .ref (G.1 + 224)), (1, .ref (G.1 + 0)), (0, .ref b)])
    (hend : ∀ (S : St) (H : Heap) (locs : List Loc), PI S → q_P G S H → va_S (fr_ G) s.heap H locs → W p l e room_1 s m #[Value.ref b] below meth c H locs 600000 7302250 (lw_Z below #[Value.ref b] s) (F0 m 972 ls [])) : W p l e room_1 s m #[Value.ref b] below meth c H locs 600000 7302250 (lw_Z below #[Value.ref b] s) (F0 m 807 ls []) := by
  have X := law_X C0
  have hX := C0.2.2.2.2.2.2.1
  have hbl := C0.2.2.2.2.2.2.2.1
  have hbA : ¬ fr_ G b := by show ¬ G.1 ≤ b; rw [hG]; exact Nat.not_le.mpr hbl
  refine lv_aload_n X.1 X.2.1 dL_law_807 rfl (lv_at hl 2 rfl) ?_
  refine lv_aload_n X.1 X.2.1 dL_law_808 rfl (lv_at hl 3 rfl) ?_
  refine lv_iload_n X.1 X.2.1 dL_law_809 rfl (lv_at hl 0 rfl) ?_
  refine lv_iconst (v := 1) X.1 X.2.1 dL_law_810 (by decide) ?_
  refine lv_iadd X.1 X.2.1 dL_law_811 ?_
  refine va_sld X.1 X.2.1 hX hbl hbA hS (hin 1 (by decide)) dL_law_812 ?_
  have h := hop (xs (x3 + 1).toNatClampNeg) S hPI
  refine q_callV (rest := []) (b := 0) X hK hP hS (c_X8_member l G (xs (x3 + 1).toNatClampNeg) S _ h) my_X8_member tl_L_110 dL_law_813 kz_0 rfl rfl rfl ⟨Nat.le_of_ble_eq_true rfl, Nat.le_of_ble_eq_true rfl⟩ hl.1 rfl (Nat.le_of_ble_eq_true rfl) ⟨Nat.le_of_ble_eq_true rfl, Nat.le_of_ble_eq_true rfl⟩ (fun r1 S1 H locs h hP hS => ?_)
  refine W.eq (g2 := F0 m 816 ls [.int r1]) rfl ?_
  refine lv_aload_n X.1 X.2.1 dL_law_816 rfl (lv_at hl 1 rfl) ?_
  refine lv_aload_n X.1 X.2.1 dL_law_817 rfl (lv_at hl 3 rfl) ?_
  refine lv_iload_n X.1 X.2.1 dL_law_818 rfl (lv_at hl 0 rfl) ?_
  refine lv_iconst (v := 1) X.1 X.2.1 dL_law_819 (by decide) ?_
  refine lv_iadd X.1 X.2.1 dL_law_820 ?_
  refine va_sld X.1 X.2.1 hX hbl hbA hS (hin 1 (by decide)) dL_law_821 ?_
  refine q_callV (rest := [.int r1]) (b := 224) X hK hP hS (c_X9_member l G (xs (x3 + 1).toNatClampNeg) S1 _ h) my_X9_member tl_L_113 dL_law_822 kz_224 rfl rfl rfl ⟨Nat.le_of_ble_eq_true rfl, Nat.le_of_ble_eq_true rfl⟩ hl.1 rfl (Nat.le_of_ble_eq_true rfl) ⟨Nat.le_of_ble_eq_true rfl, Nat.le_of_ble_eq_true rfl⟩ (fun r2 S2 H locs h hP hS => ?_)
  refine W.eq (g2 := F0 m 825 ls [.int r2, .int r1]) rfl ?_
  obtain ⟨rfl, hPI⟩ := h
  refine lv_icmp_eq (tgt := 972) X.1 X.2.1 dL_law_825 (by decide) (fun _ => ?_) (fun c => absurd rfl c)
  exact hend S2 H locs hPI hP hS
set_option maxHeartbeats 4000000 in
set_option maxRecDepth 100000 in
theorem law_case_22 {p : Program} {e : Env} {s : State} {m : MethodId} {below : List Frame} {meth : Method} {c : Code} (l : Launch) {G : Cx} {b L : Nat} {xs : Nat → Int32} (hL : L ≤ 3074) (C0 : lw_At p s m meth c b L xs) (hG : G.1 = s.heap.size) (hK : q_K G s) (PI : St → Prop) (hop : ∀ (x1 : Int32) (S : St), PI S → w_X8_pair x1 S (fun r1 S1 => w_X9_pair x1 S1 (fun r2 S2 => r1 = r2 ∧ PI S2))) (x3 : Int32) (hin : ∀ k : Nat, k < 6 → vp_in (x3 + Int32.ofNat k) L) (S : St) (H : Heap) (locs : List Loc) (ls : Array Slot) (hPI : PI S) (hP : q_P G S H) (hS : va_S (fr_ G) s.heap H locs) (hl : lv_has ls 4 [(3, .int x3), (2, .ref (G.1 + 224)), (1, .ref (G.1 + 0)), (0, .ref b)])
    (hend : ∀ (S : St) (H : Heap) (locs : List Loc), PI S → q_P G S H → va_S (fr_ G) s.heap H locs → W p l e room_1 s m #[Value.ref b] below meth c H locs 600000 7302250 (lw_Z below #[Value.ref b] s) (F0 m 972 ls [])) : W p l e room_1 s m #[Value.ref b] below meth c H locs 600000 7302250 (lw_Z below #[Value.ref b] s) (F0 m 830 ls []) := by
  have X := law_X C0
  have hX := C0.2.2.2.2.2.2.1
  have hbl := C0.2.2.2.2.2.2.2.1
  have hbA : ¬ fr_ G b := by show ¬ G.1 ≤ b; rw [hG]; exact Nat.not_le.mpr hbl
  refine lv_aload_n X.1 X.2.1 dL_law_830 rfl (lv_at hl 2 rfl) ?_
  refine lv_aload_n X.1 X.2.1 dL_law_831 rfl (lv_at hl 3 rfl) ?_
  refine lv_iload_n X.1 X.2.1 dL_law_832 rfl (lv_at hl 0 rfl) ?_
  refine lv_iconst (v := 1) X.1 X.2.1 dL_law_833 (by decide) ?_
  refine lv_iadd X.1 X.2.1 dL_law_834 ?_
  refine va_sld X.1 X.2.1 hX hbl hbA hS (hin 1 (by decide)) dL_law_835 ?_
  have h := hop (xs (x3 + 1).toNatClampNeg) S hPI
  refine q_callV (rest := []) (b := 0) X hK hP hS (c_X8_pair l G (xs (x3 + 1).toNatClampNeg) S _ h) my_X8_pair tl_L_114 dL_law_836 kz_0 rfl rfl rfl ⟨Nat.le_of_ble_eq_true rfl, Nat.le_of_ble_eq_true rfl⟩ hl.1 rfl (Nat.le_of_ble_eq_true rfl) ⟨Nat.le_of_ble_eq_true rfl, Nat.le_of_ble_eq_true rfl⟩ (fun r1 S1 H locs h hP hS => ?_)
  refine W.eq (g2 := F0 m 839 ls [.int r1]) rfl ?_
  refine lv_aload_n X.1 X.2.1 dL_law_839 rfl (lv_at hl 1 rfl) ?_
  refine lv_aload_n X.1 X.2.1 dL_law_840 rfl (lv_at hl 3 rfl) ?_
  refine lv_iload_n X.1 X.2.1 dL_law_841 rfl (lv_at hl 0 rfl) ?_
  refine lv_iconst (v := 1) X.1 X.2.1 dL_law_842 (by decide) ?_
  refine lv_iadd X.1 X.2.1 dL_law_843 ?_
  refine va_sld X.1 X.2.1 hX hbl hbA hS (hin 1 (by decide)) dL_law_844 ?_
  refine q_callV (rest := [.int r1]) (b := 224) X hK hP hS (c_X9_pair l G (xs (x3 + 1).toNatClampNeg) S1 _ h) my_X9_pair tl_L_117 dL_law_845 kz_224 rfl rfl rfl ⟨Nat.le_of_ble_eq_true rfl, Nat.le_of_ble_eq_true rfl⟩ hl.1 rfl (Nat.le_of_ble_eq_true rfl) ⟨Nat.le_of_ble_eq_true rfl, Nat.le_of_ble_eq_true rfl⟩ (fun r2 S2 H locs h hP hS => ?_)
  refine W.eq (g2 := F0 m 848 ls [.int r2, .int r1]) rfl ?_
  obtain ⟨rfl, hPI⟩ := h
  refine lv_icmp_eq (tgt := 972) X.1 X.2.1 dL_law_848 (by decide) (fun _ => ?_) (fun c => absurd rfl c)
  exact hend S2 H locs hPI hP hS
set_option maxHeartbeats 4000000 in
set_option maxRecDepth 100000 in
theorem law_case_23 {p : Program} {e : Env} {s : State} {m : MethodId} {below : List Frame} {meth : Method} {c : Code} (l : Launch) {G : Cx} {b L : Nat} {xs : Nat → Int32} (hL : L ≤ 3074) (C0 : lw_At p s m meth c b L xs) (hG : G.1 = s.heap.size) (hK : q_K G s) (PI : St → Prop) (hop : ∀ (S : St), PI S → w_X8_standing S (fun r1 S1 => w_X9_standing S1 (fun r2 S2 => r1 = r2 ∧ PI S2))) (x3 : Int32) (hin : ∀ k : Nat, k < 6 → vp_in (x3 + Int32.ofNat k) L) (S : St) (H : Heap) (locs : List Loc) (ls : Array Slot) (hPI : PI S) (hP : q_P G S H) (hS : va_S (fr_ G) s.heap H locs) (hl : lv_has ls 4 [(3, .int x3), (2, .ref (G.1 + 224)), (1, .ref (G.1 + 0)), (0, .ref b)])
    (hend : ∀ (S : St) (H : Heap) (locs : List Loc), PI S → q_P G S H → va_S (fr_ G) s.heap H locs → W p l e room_1 s m #[Value.ref b] below meth c H locs 600000 7302250 (lw_Z below #[Value.ref b] s) (F0 m 972 ls [])) : W p l e room_1 s m #[Value.ref b] below meth c H locs 600000 7302250 (lw_Z below #[Value.ref b] s) (F0 m 853 ls []) := by
  have X := law_X C0
  have hX := C0.2.2.2.2.2.2.1
  have hbl := C0.2.2.2.2.2.2.2.1
  have hbA : ¬ fr_ G b := by show ¬ G.1 ≤ b; rw [hG]; exact Nat.not_le.mpr hbl
  refine lv_aload_n X.1 X.2.1 dL_law_853 rfl (lv_at hl 2 rfl) ?_
  have h := hop S hPI
  refine q_callV (rest := []) (b := 0) X hK hP hS (c_X8_standing l G S _ h) my_X8_standing tl_L_118 dL_law_854 kz_0 rfl rfl rfl ⟨Nat.le_of_ble_eq_true rfl, Nat.le_of_ble_eq_true rfl⟩ hl.1 rfl (Nat.le_of_ble_eq_true rfl) ⟨Nat.le_of_ble_eq_true rfl, Nat.le_of_ble_eq_true rfl⟩ (fun r1 S1 H locs h hP hS => ?_)
  refine W.eq (g2 := F0 m 857 ls [.int r1]) rfl ?_
  refine lv_aload_n X.1 X.2.1 dL_law_857 rfl (lv_at hl 1 rfl) ?_
  refine q_callV (rest := [.int r1]) (b := 224) X hK hP hS (c_X9_standing l G S1 _ h) my_X9_standing tl_L_121 dL_law_858 kz_224 rfl rfl rfl ⟨Nat.le_of_ble_eq_true rfl, Nat.le_of_ble_eq_true rfl⟩ hl.1 rfl (Nat.le_of_ble_eq_true rfl) ⟨Nat.le_of_ble_eq_true rfl, Nat.le_of_ble_eq_true rfl⟩ (fun r2 S2 H locs h hP hS => ?_)
  refine W.eq (g2 := F0 m 861 ls [.int r2, .int r1]) rfl ?_
  obtain ⟨rfl, hPI⟩ := h
  refine lv_icmp_eq (tgt := 972) X.1 X.2.1 dL_law_861 (by decide) (fun _ => ?_) (fun c => absurd rfl c)
  exact hend S2 H locs hPI hP hS
set_option maxHeartbeats 4000000 in
set_option maxRecDepth 100000 in
theorem law_case_24 {p : Program} {e : Env} {s : State} {m : MethodId} {below : List Frame} {meth : Method} {c : Code} (l : Launch) {G : Cx} {b L : Nat} {xs : Nat → Int32} (hL : L ≤ 3074) (C0 : lw_At p s m meth c b L xs) (hG : G.1 = s.heap.size) (hK : q_K G s) (PI : St → Prop) (hop : ∀ (x1 x2 : Int32) (S : St), PI S → w_X8_stands x1 x2 S (fun r1 S1 => w_X9_stands x1 x2 S1 (fun r2 S2 => r1 = r2 ∧ PI S2))) (x3 : Int32) (hin : ∀ k : Nat, k < 6 → vp_in (x3 + Int32.ofNat k) L) (S : St) (H : Heap) (locs : List Loc) (ls : Array Slot) (hPI : PI S) (hP : q_P G S H) (hS : va_S (fr_ G) s.heap H locs) (hl : lv_has ls 4 [(3, .int x3), (2, .ref (G.1 + 224)), (1, .ref (G.1 + 0)), (0, .ref b)])
    (hend : ∀ (S : St) (H : Heap) (locs : List Loc), PI S → q_P G S H → va_S (fr_ G) s.heap H locs → W p l e room_1 s m #[Value.ref b] below meth c H locs 600000 7302250 (lw_Z below #[Value.ref b] s) (F0 m 972 ls [])) : W p l e room_1 s m #[Value.ref b] below meth c H locs 600000 7302250 (lw_Z below #[Value.ref b] s) (F0 m 866 ls []) := by
  have X := law_X C0
  have hX := C0.2.2.2.2.2.2.1
  have hbl := C0.2.2.2.2.2.2.2.1
  have hbA : ¬ fr_ G b := by show ¬ G.1 ≤ b; rw [hG]; exact Nat.not_le.mpr hbl
  refine lv_aload_n X.1 X.2.1 dL_law_866 rfl (lv_at hl 2 rfl) ?_
  refine lv_aload_n X.1 X.2.1 dL_law_867 rfl (lv_at hl 3 rfl) ?_
  refine lv_iload_n X.1 X.2.1 dL_law_868 rfl (lv_at hl 0 rfl) ?_
  refine lv_iconst (v := 1) X.1 X.2.1 dL_law_869 (by decide) ?_
  refine lv_iadd X.1 X.2.1 dL_law_870 ?_
  refine va_sld X.1 X.2.1 hX hbl hbA hS (hin 1 (by decide)) dL_law_871 ?_
  refine lv_aload_n X.1 X.2.1 dL_law_872 rfl (lv_at hl 3 rfl) ?_
  refine lv_iload_n X.1 X.2.1 dL_law_873 rfl (lv_at hl 0 rfl) ?_
  refine lv_iconst (v := 2) X.1 X.2.1 dL_law_874 (by decide) ?_
  refine lv_iadd X.1 X.2.1 dL_law_875 ?_
  refine va_sld X.1 X.2.1 hX hbl hbA hS (hin 2 (by decide)) dL_law_876 ?_
  have h := hop (xs (x3 + 1).toNatClampNeg) (xs (x3 + 2).toNatClampNeg) S hPI
  refine q_callV (rest := []) (b := 0) X hK hP hS (c_X8_stands l G (xs (x3 + 1).toNatClampNeg) (xs (x3 + 2).toNatClampNeg) S _ h) my_X8_stands tl_L_122 dL_law_877 kz_0 rfl rfl rfl ⟨Nat.le_of_ble_eq_true rfl, Nat.le_of_ble_eq_true rfl⟩ hl.1 rfl (Nat.le_of_ble_eq_true rfl) ⟨Nat.le_of_ble_eq_true rfl, Nat.le_of_ble_eq_true rfl⟩ (fun r1 S1 H locs h hP hS => ?_)
  refine W.eq (g2 := F0 m 880 ls [.int r1]) rfl ?_
  refine lv_aload_n X.1 X.2.1 dL_law_880 rfl (lv_at hl 1 rfl) ?_
  refine lv_aload_n X.1 X.2.1 dL_law_881 rfl (lv_at hl 3 rfl) ?_
  refine lv_iload_n X.1 X.2.1 dL_law_882 rfl (lv_at hl 0 rfl) ?_
  refine lv_iconst (v := 1) X.1 X.2.1 dL_law_883 (by decide) ?_
  refine lv_iadd X.1 X.2.1 dL_law_884 ?_
  refine va_sld X.1 X.2.1 hX hbl hbA hS (hin 1 (by decide)) dL_law_885 ?_
  refine lv_aload_n X.1 X.2.1 dL_law_886 rfl (lv_at hl 3 rfl) ?_
  refine lv_iload_n X.1 X.2.1 dL_law_887 rfl (lv_at hl 0 rfl) ?_
  refine lv_iconst (v := 2) X.1 X.2.1 dL_law_888 (by decide) ?_
  refine lv_iadd X.1 X.2.1 dL_law_889 ?_
  refine va_sld X.1 X.2.1 hX hbl hbA hS (hin 2 (by decide)) dL_law_890 ?_
  refine q_callV (rest := [.int r1]) (b := 224) X hK hP hS (c_X9_stands l G (xs (x3 + 1).toNatClampNeg) (xs (x3 + 2).toNatClampNeg) S1 _ h) my_X9_stands tl_L_125 dL_law_891 kz_224 rfl rfl rfl ⟨Nat.le_of_ble_eq_true rfl, Nat.le_of_ble_eq_true rfl⟩ hl.1 rfl (Nat.le_of_ble_eq_true rfl) ⟨Nat.le_of_ble_eq_true rfl, Nat.le_of_ble_eq_true rfl⟩ (fun r2 S2 H locs h hP hS => ?_)
  refine W.eq (g2 := F0 m 894 ls [.int r2, .int r1]) rfl ?_
  obtain ⟨rfl, hPI⟩ := h
  refine lv_icmp_eq (tgt := 972) X.1 X.2.1 dL_law_894 (by decide) (fun _ => ?_) (fun c => absurd rfl c)
  exact hend S2 H locs hPI hP hS
set_option maxHeartbeats 4000000 in
set_option maxRecDepth 100000 in
theorem law_case_25 {p : Program} {e : Env} {s : State} {m : MethodId} {below : List Frame} {meth : Method} {c : Code} (l : Launch) {G : Cx} {b L : Nat} {xs : Nat → Int32} (hL : L ≤ 3074) (C0 : lw_At p s m meth c b L xs) (hG : G.1 = s.heap.size) (hK : q_K G s) (PI : St → Prop) (hop : ∀ (x1 : Int32) (S : St), PI S → w_X8_without x1 S (fun r1 S1 => w_X9_without x1 S1 (fun r2 S2 => r1 = r2 ∧ PI S2))) (x3 : Int32) (hin : ∀ k : Nat, k < 6 → vp_in (x3 + Int32.ofNat k) L) (S : St) (H : Heap) (locs : List Loc) (ls : Array Slot) (hPI : PI S) (hP : q_P G S H) (hS : va_S (fr_ G) s.heap H locs) (hl : lv_has ls 4 [(3, .int x3), (2, .ref (G.1 + 224)), (1, .ref (G.1 + 0)), (0, .ref b)])
    (hend : ∀ (S : St) (H : Heap) (locs : List Loc), PI S → q_P G S H → va_S (fr_ G) s.heap H locs → W p l e room_1 s m #[Value.ref b] below meth c H locs 600000 7302250 (lw_Z below #[Value.ref b] s) (F0 m 972 ls [])) : W p l e room_1 s m #[Value.ref b] below meth c H locs 600000 7302250 (lw_Z below #[Value.ref b] s) (F0 m 899 ls []) := by
  have X := law_X C0
  have hX := C0.2.2.2.2.2.2.1
  have hbl := C0.2.2.2.2.2.2.2.1
  have hbA : ¬ fr_ G b := by show ¬ G.1 ≤ b; rw [hG]; exact Nat.not_le.mpr hbl
  refine lv_aload_n X.1 X.2.1 dL_law_899 rfl (lv_at hl 2 rfl) ?_
  refine lv_aload_n X.1 X.2.1 dL_law_900 rfl (lv_at hl 3 rfl) ?_
  refine lv_iload_n X.1 X.2.1 dL_law_901 rfl (lv_at hl 0 rfl) ?_
  refine lv_iconst (v := 1) X.1 X.2.1 dL_law_902 (by decide) ?_
  refine lv_iadd X.1 X.2.1 dL_law_903 ?_
  refine va_sld X.1 X.2.1 hX hbl hbA hS (hin 1 (by decide)) dL_law_904 ?_
  have h := hop (xs (x3 + 1).toNatClampNeg) S hPI
  refine q_callV (rest := []) (b := 0) X hK hP hS (c_X8_without l G (xs (x3 + 1).toNatClampNeg) S _ h) my_X8_without tl_L_126 dL_law_905 kz_0 rfl rfl rfl ⟨Nat.le_of_ble_eq_true rfl, Nat.le_of_ble_eq_true rfl⟩ hl.1 rfl (Nat.le_of_ble_eq_true rfl) ⟨Nat.le_of_ble_eq_true rfl, Nat.le_of_ble_eq_true rfl⟩ (fun r1 S1 H locs h hP hS => ?_)
  refine W.eq (g2 := F0 m 908 ls [.int r1]) rfl ?_
  refine lv_aload_n X.1 X.2.1 dL_law_908 rfl (lv_at hl 1 rfl) ?_
  refine lv_aload_n X.1 X.2.1 dL_law_909 rfl (lv_at hl 3 rfl) ?_
  refine lv_iload_n X.1 X.2.1 dL_law_910 rfl (lv_at hl 0 rfl) ?_
  refine lv_iconst (v := 1) X.1 X.2.1 dL_law_911 (by decide) ?_
  refine lv_iadd X.1 X.2.1 dL_law_912 ?_
  refine va_sld X.1 X.2.1 hX hbl hbA hS (hin 1 (by decide)) dL_law_913 ?_
  refine q_callV (rest := [.int r1]) (b := 224) X hK hP hS (c_X9_without l G (xs (x3 + 1).toNatClampNeg) S1 _ h) my_X9_without tl_L_129 dL_law_914 kz_224 rfl rfl rfl ⟨Nat.le_of_ble_eq_true rfl, Nat.le_of_ble_eq_true rfl⟩ hl.1 rfl (Nat.le_of_ble_eq_true rfl) ⟨Nat.le_of_ble_eq_true rfl, Nat.le_of_ble_eq_true rfl⟩ (fun r2 S2 H locs h hP hS => ?_)
  refine W.eq (g2 := F0 m 917 ls [.int r2, .int r1]) rfl ?_
  obtain ⟨rfl, hPI⟩ := h
  refine lv_icmp_eq (tgt := 972) X.1 X.2.1 dL_law_917 (by decide) (fun _ => ?_) (fun c => absurd rfl c)
  exact hend S2 H locs hPI hP hS
set_option maxHeartbeats 4000000 in
set_option maxRecDepth 100000 in
theorem law_case_26 {p : Program} {e : Env} {s : State} {m : MethodId} {below : List Frame} {meth : Method} {c : Code} (l : Launch) {G : Cx} {b L : Nat} {xs : Nat → Int32} (hL : L ≤ 3074) (C0 : lw_At p s m meth c b L xs) (hG : G.1 = s.heap.size) (hK : q_K G s) (PI : St → Prop) (hop : ∀ (S : St), PI S → w_X8_zeros S (fun r1 S1 => w_X9_zeros S1 (fun r2 S2 => r1 = r2 ∧ PI S2))) (x3 : Int32) (hin : ∀ k : Nat, k < 6 → vp_in (x3 + Int32.ofNat k) L) (S : St) (H : Heap) (locs : List Loc) (ls : Array Slot) (hPI : PI S) (hP : q_P G S H) (hS : va_S (fr_ G) s.heap H locs) (hl : lv_has ls 4 [(3, .int x3), (2, .ref (G.1 + 224)), (1, .ref (G.1 + 0)), (0, .ref b)])
    (hend : ∀ (S : St) (H : Heap) (locs : List Loc), PI S → q_P G S H → va_S (fr_ G) s.heap H locs → W p l e room_1 s m #[Value.ref b] below meth c H locs 600000 7302250 (lw_Z below #[Value.ref b] s) (F0 m 972 ls [])) : W p l e room_1 s m #[Value.ref b] below meth c H locs 600000 7302250 (lw_Z below #[Value.ref b] s) (F0 m 922 ls []) := by
  have X := law_X C0
  have hX := C0.2.2.2.2.2.2.1
  have hbl := C0.2.2.2.2.2.2.2.1
  have hbA : ¬ fr_ G b := by show ¬ G.1 ≤ b; rw [hG]; exact Nat.not_le.mpr hbl
  refine lv_aload_n X.1 X.2.1 dL_law_922 rfl (lv_at hl 2 rfl) ?_
  have h := hop S hPI
  refine q_callV (rest := []) (b := 0) X hK hP hS (c_X8_zeros l G S _ h) my_X8_zeros tl_L_130 dL_law_923 kz_0 rfl rfl rfl ⟨Nat.le_of_ble_eq_true rfl, Nat.le_of_ble_eq_true rfl⟩ hl.1 rfl (Nat.le_of_ble_eq_true rfl) ⟨Nat.le_of_ble_eq_true rfl, Nat.le_of_ble_eq_true rfl⟩ (fun r1 S1 H locs h hP hS => ?_)
  refine W.eq (g2 := F0 m 926 ls [.int r1]) rfl ?_
  refine lv_aload_n X.1 X.2.1 dL_law_926 rfl (lv_at hl 1 rfl) ?_
  refine q_callV (rest := [.int r1]) (b := 224) X hK hP hS (c_X9_zeros l G S1 _ h) my_X9_zeros tl_L_133 dL_law_927 kz_224 rfl rfl rfl ⟨Nat.le_of_ble_eq_true rfl, Nat.le_of_ble_eq_true rfl⟩ hl.1 rfl (Nat.le_of_ble_eq_true rfl) ⟨Nat.le_of_ble_eq_true rfl, Nat.le_of_ble_eq_true rfl⟩ (fun r2 S2 H locs h hP hS => ?_)
  refine W.eq (g2 := F0 m 930 ls [.int r2, .int r1]) rfl ?_
  obtain ⟨rfl, hPI⟩ := h
  refine lv_icmp_eq (tgt := 972) X.1 X.2.1 dL_law_930 (by decide) (fun _ => ?_) (fun c => absurd rfl c)
  exact hend S2 H locs hPI hP hS
set_option maxHeartbeats 4000000 in
set_option maxRecDepth 100000 in
theorem law_case_27 {p : Program} {e : Env} {s : State} {m : MethodId} {below : List Frame} {meth : Method} {c : Code} (l : Launch) {G : Cx} {b L : Nat} {xs : Nat → Int32} (hL : L ≤ 3074) (C0 : lw_At p s m meth c b L xs) (hG : G.1 = s.heap.size) (hK : q_K G s) (PI : St → Prop) (hop : ∀ (x1 : Int32) (S : St), PI S → w_X8_count x1 S (fun r1 S1 => w_X9_count x1 S1 (fun r2 S2 => r1 = r2 ∧ PI S2))) (x3 : Int32) (hin : ∀ k : Nat, k < 6 → vp_in (x3 + Int32.ofNat k) L) (S : St) (H : Heap) (locs : List Loc) (ls : Array Slot) (hPI : PI S) (hP : q_P G S H) (hS : va_S (fr_ G) s.heap H locs) (hl : lv_has ls 4 [(3, .int x3), (2, .ref (G.1 + 224)), (1, .ref (G.1 + 0)), (0, .ref b)])
    (hend : ∀ (S : St) (H : Heap) (locs : List Loc), PI S → q_P G S H → va_S (fr_ G) s.heap H locs → W p l e room_1 s m #[Value.ref b] below meth c H locs 600000 7302250 (lw_Z below #[Value.ref b] s) (F0 m 972 ls [])) : W p l e room_1 s m #[Value.ref b] below meth c H locs 600000 7302250 (lw_Z below #[Value.ref b] s) (F0 m 935 ls []) := by
  have X := law_X C0
  have hX := C0.2.2.2.2.2.2.1
  have hbl := C0.2.2.2.2.2.2.2.1
  have hbA : ¬ fr_ G b := by show ¬ G.1 ≤ b; rw [hG]; exact Nat.not_le.mpr hbl
  refine lv_aload_n X.1 X.2.1 dL_law_935 rfl (lv_at hl 2 rfl) ?_
  refine lv_aload_n X.1 X.2.1 dL_law_936 rfl (lv_at hl 3 rfl) ?_
  refine lv_iload_n X.1 X.2.1 dL_law_937 rfl (lv_at hl 0 rfl) ?_
  refine lv_iconst (v := 1) X.1 X.2.1 dL_law_938 (by decide) ?_
  refine lv_iadd X.1 X.2.1 dL_law_939 ?_
  refine va_sld X.1 X.2.1 hX hbl hbA hS (hin 1 (by decide)) dL_law_940 ?_
  have h := hop (xs (x3 + 1).toNatClampNeg) S hPI
  refine q_callV (rest := []) (b := 0) X hK hP hS (c_X8_count l G (xs (x3 + 1).toNatClampNeg) S _ h) my_X8_count tl_L_134 dL_law_941 kz_0 rfl rfl rfl ⟨Nat.le_of_ble_eq_true rfl, Nat.le_of_ble_eq_true rfl⟩ hl.1 rfl (Nat.le_of_ble_eq_true rfl) ⟨Nat.le_of_ble_eq_true rfl, Nat.le_of_ble_eq_true rfl⟩ (fun r1 S1 H locs h hP hS => ?_)
  refine W.eq (g2 := F0 m 944 ls [.int r1]) rfl ?_
  refine lv_aload_n X.1 X.2.1 dL_law_944 rfl (lv_at hl 1 rfl) ?_
  refine lv_aload_n X.1 X.2.1 dL_law_945 rfl (lv_at hl 3 rfl) ?_
  refine lv_iload_n X.1 X.2.1 dL_law_946 rfl (lv_at hl 0 rfl) ?_
  refine lv_iconst (v := 1) X.1 X.2.1 dL_law_947 (by decide) ?_
  refine lv_iadd X.1 X.2.1 dL_law_948 ?_
  refine va_sld X.1 X.2.1 hX hbl hbA hS (hin 1 (by decide)) dL_law_949 ?_
  refine q_callV (rest := [.int r1]) (b := 224) X hK hP hS (c_X9_count l G (xs (x3 + 1).toNatClampNeg) S1 _ h) my_X9_count tl_L_137 dL_law_950 kz_224 rfl rfl rfl ⟨Nat.le_of_ble_eq_true rfl, Nat.le_of_ble_eq_true rfl⟩ hl.1 rfl (Nat.le_of_ble_eq_true rfl) ⟨Nat.le_of_ble_eq_true rfl, Nat.le_of_ble_eq_true rfl⟩ (fun r2 S2 H locs h hP hS => ?_)
  refine W.eq (g2 := F0 m 953 ls [.int r2, .int r1]) rfl ?_
  obtain ⟨rfl, hPI⟩ := h
  refine lv_icmp_eq (tgt := 972) X.1 X.2.1 dL_law_953 (by decide) (fun _ => ?_) (fun c => absurd rfl c)
  exact hend S2 H locs hPI hP hS
set_option maxHeartbeats 4000000 in
set_option maxRecDepth 100000 in
theorem law_case_28 {p : Program} {e : Env} {s : State} {m : MethodId} {below : List Frame} {meth : Method} {c : Code} (l : Launch) {G : Cx} {b L : Nat} {xs : Nat → Int32} (hL : L ≤ 3074) (C0 : lw_At p s m meth c b L xs) (hG : G.1 = s.heap.size) (hK : q_K G s) (PI : St → Prop) (hop : ∀ (S : St), PI S → w_X8_digest S (fun r1 S1 => w_X9_digest S1 (fun r2 S2 => r1 = r2 ∧ PI S2))) (x3 : Int32) (hin : ∀ k : Nat, k < 6 → vp_in (x3 + Int32.ofNat k) L) (S : St) (H : Heap) (locs : List Loc) (ls : Array Slot) (hPI : PI S) (hP : q_P G S H) (hS : va_S (fr_ G) s.heap H locs) (hl : lv_has ls 4 [(3, .int x3), (2, .ref (G.1 + 224)), (1, .ref (G.1 + 0)), (0, .ref b)])
    (hend : ∀ (S : St) (H : Heap) (locs : List Loc), PI S → q_P G S H → va_S (fr_ G) s.heap H locs → W p l e room_1 s m #[Value.ref b] below meth c H locs 600000 7302250 (lw_Z below #[Value.ref b] s) (F0 m 972 ls [])) : W p l e room_1 s m #[Value.ref b] below meth c H locs 600000 7302250 (lw_Z below #[Value.ref b] s) (F0 m 958 ls []) := by
  have X := law_X C0
  have hX := C0.2.2.2.2.2.2.1
  have hbl := C0.2.2.2.2.2.2.2.1
  have hbA : ¬ fr_ G b := by show ¬ G.1 ≤ b; rw [hG]; exact Nat.not_le.mpr hbl
  refine lv_aload_n X.1 X.2.1 dL_law_958 rfl (lv_at hl 2 rfl) ?_
  have h := hop S hPI
  refine q_callV (rest := []) (b := 0) X hK hP hS (c_X8_digest l G S _ h) my_X8_digest tl_L_138 dL_law_959 kz_0 rfl rfl rfl ⟨Nat.le_of_ble_eq_true rfl, Nat.le_of_ble_eq_true rfl⟩ hl.1 rfl (Nat.le_of_ble_eq_true rfl) ⟨Nat.le_of_ble_eq_true rfl, Nat.le_of_ble_eq_true rfl⟩ (fun r1 S1 H locs h hP hS => ?_)
  refine W.eq (g2 := F0 m 962 ls [.long r1]) rfl ?_
  refine lv_aload_n X.1 X.2.1 dL_law_962 rfl (lv_at hl 1 rfl) ?_
  refine q_callV (rest := [.long r1]) (b := 224) X hK hP hS (c_X9_digest l G S1 _ h) my_X9_digest tl_L_142 dL_law_963 kz_224 rfl rfl rfl ⟨Nat.le_of_ble_eq_true rfl, Nat.le_of_ble_eq_true rfl⟩ hl.1 rfl (Nat.le_of_ble_eq_true rfl) ⟨Nat.le_of_ble_eq_true rfl, Nat.le_of_ble_eq_true rfl⟩ (fun r2 S2 H locs h hP hS => ?_)
  refine W.eq (g2 := F0 m 966 ls [.long r2, .long r1]) rfl ?_
  obtain ⟨rfl, hPI⟩ := h
  refine W.lcmp X.1 X.2.1 dL_law_966 ?_
  refine lv_if_eq (tgt := 972) X.1 X.2.1 dL_law_967 (by decide) (fun _ => ?_) (fun c => absurd (lg_cmp_self _) c)
  exact hend S2 H locs hPI hP hS
set_option maxHeartbeats 4000000 in
set_option maxRecDepth 100000 in
theorem law_body {p : Program} {e : Env} {s : State} {m : MethodId} {below : List Frame} {meth : Method} {c : Code} (l : Launch) {G : Cx} {b L : Nat} {xs : Nat → Int32} (hL : L ≤ 3074) (C0 : lw_At p s m meth c b L xs) (hG : G.1 = s.heap.size) (hK : q_K G s) (PI : St → Prop) (hop : law_ok PI) (i : Nat) (x3 : Int32) (hx3 : x3 = nI i) (hi : i ≤ 4000) (S : St) (H : Heap) (locs : List Loc) (ls : Array Slot) (hPI : PI S) (hP : q_P G S H) (hS : va_S (fr_ G) s.heap H locs) (hl : lv_has ls 4 [(3, .int x3), (2, .ref (G.1 + 224)), (1, .ref (G.1 + 0)), (0, .ref b)])
    (hnext : i + 6 ≤ L → ∀ (x3 : Int32) (S : St) (H : Heap) (locs : List Loc) (ls : Array Slot), x3 = nI (i + 6) → PI S → q_P G S H → va_S (fr_ G) s.heap H locs → lv_has ls 4 [(3, .int x3), (2, .ref (G.1 + 224)), (1, .ref (G.1 + 0)), (0, .ref b)] → W p l e room_1 s m #[Value.ref b] below meth c H locs 600000 7302250 (lw_Z below #[Value.ref b] s) (F0 m 38 ls [])) : W p l e room_1 s m #[Value.ref b] below meth c H locs 600000 7302250 (lw_Z below #[Value.ref b] s) (F0 m 38 ls []) := by
  have X := law_X C0
  have hX := C0.2.2.2.2.2.2.1
  have hbl := C0.2.2.2.2.2.2.2.1
  have hbA : ¬ fr_ G b := by show ¬ G.1 ≤ b; rw [hG]; exact Nat.not_le.mpr hbl
  refine lv_iload_n X.1 X.2.1 dL_law_38 rfl (lv_at hl 0 rfl) ?_
  refine lv_aload_n X.1 X.2.1 dL_law_39 rfl (lv_at hl 3 rfl) ?_
  refine va_slen X.1 X.2.1 hX hbl hbA hS dL_law_40 ?_
  refine lv_bipush (v := 6) X.1 X.2.1 dL_law_41 (by decide) ?_
  refine lv_isub X.1 X.2.1 dL_law_43 ?_
  have e6 : (nI L - 6).toInt = (L : Int) - 6 := pk_sub_toInt (a := L) (b := 6) (by omega) (by decide)
  have ei : (nI i).toInt = (i : Int) := nI_toInt (by omega)
  refine lv_icmp_gt (tgt := 978) X.1 X.2.1 dL_law_44 (by decide) (fun c_1 => ?_) (fun c_1 => ?_)
  · refine lv_iconst (v := 1) X.1 X.2.1 dL_law_978 (by decide) ?_
    refine va_forget (fun q hq => by have := hS.2.2 q hq; rw [← hG]; exact this) ?_
    exact lw_ret X.1 X.2.1 C0.2.2.1 C0.2.2.2.2.2.2.2.2.1 dL_law_979
  · have hi6 : i + 6 ≤ L := by
      have h1 : ¬ (nI L - 6 < x3) := c_1
      rw [hx3, Int32.lt_iff_toInt_lt, e6, ei] at h1
      omega
    have hin : ∀ k : Nat, k < 6 → vp_in (x3 + Int32.ofNat k) L := fun k hk => by
      rw [hx3]
      show vp_in (nI i + nI k) L
      rw [nI_add]
      exact vp_in_nI (by omega) (by omega)
    have hin0 : vp_in x3 L := by rw [hx3]; exact vp_in_nI (by omega) (by omega)
    have hend : ∀ (S : St) (H : Heap) (locs : List Loc), PI S → q_P G S H → va_S (fr_ G) s.heap H locs → W p l e room_1 s m #[Value.ref b] below meth c H locs 600000 7302250 (lw_Z below #[Value.ref b] s) (F0 m 972 ls []) := by
      intro S H locs hPI hP hS
      obtain ⟨x3_1, e3_1⟩ : ∃ y : Int32, y = x3 + 6 := ⟨_, rfl⟩
      refine lv_iinc (v := x3_1) (lv' := [(3, .int x3_1), (2, .ref (G.1 + 224)), (1, .ref (G.1 + 0)), (0, .ref b)]) X.1 X.2.1 dL_law_972 hl (k := 0) rfl (by rw [e3_1]; first | rfl | decide) (by decide) rfl (fun ls hl => ?_)
      refine lv_goto (tgt := 38) X.1 X.2.1 dL_law_975 (by decide) ?_
      exact hnext hi6 x3_1 S H locs ls (by rw [e3_1, hx3]; exact nI_add i 6) hPI hP hS hl
    refine lv_aload_n X.1 X.2.1 dL_law_47 rfl (lv_at hl 3 rfl) ?_
    refine lv_iload_n X.1 X.2.1 dL_law_48 rfl (lv_at hl 0 rfl) ?_
    refine va_sld X.1 X.2.1 hX hbl hbA hS hin0 dL_law_49 ?_
    refine lv_bipush (v := 31) X.1 X.2.1 dL_law_50 (by decide) ?_
    refine lv_iand X.1 X.2.1 dL_law_52 ?_
    refine lv_topi (fun y ey => ?_)
    by_cases c_2 : y.toInt < 0 ∨ 28 < y.toInt
    · refine lv_tableOut (tgt := 972) X.1 X.2.1 dL_law_53 c_2 (by decide) ?_
      exact hend S H locs hPI hP hS
    · rcases q_sw28 c_2 with c_2 | c_2 | c_2 | c_2 | c_2 | c_2 | c_2 | c_2 | c_2 | c_2 | c_2 | c_2 | c_2 | c_2 | c_2 | c_2 | c_2 | c_2 | c_2 | c_2 | c_2 | c_2 | c_2 | c_2 | c_2 | c_2 | c_2 | c_2 | c_2
      · refine lv_tableIn (off := 131) (tgt := 184) X.1 X.2.1 dL_law_53 (by rw [c_2]; decide) (by rw [c_2]; decide) (by rw [c_2]; rfl) (by decide) ?_
        exact law_case_0 l hL C0 hG hK PI hop.1 x3 hin S H locs ls hPI hP hS hl hend
      · refine lv_tableIn (off := 154) (tgt := 207) X.1 X.2.1 dL_law_53 (by rw [c_2]; decide) (by rw [c_2]; decide) (by rw [c_2]; rfl) (by decide) ?_
        exact law_case_1 l hL C0 hG hK PI hop.2.1 x3 hin S H locs ls hPI hP hS hl hend
      · refine lv_tableIn (off := 217) (tgt := 270) X.1 X.2.1 dL_law_53 (by rw [c_2]; decide) (by rw [c_2]; decide) (by rw [c_2]; rfl) (by decide) ?_
        exact law_case_2 l hL C0 hG hK PI hop.2.2.1 x3 hin S H locs ls hPI hP hS hl hend
      · refine lv_tableIn (off := 230) (tgt := 283) X.1 X.2.1 dL_law_53 (by rw [c_2]; decide) (by rw [c_2]; decide) (by rw [c_2]; rfl) (by decide) ?_
        exact law_case_3 l hL C0 hG hK PI hop.2.2.2.1 x3 hin S H locs ls hPI hP hS hl hend
      · refine lv_tableIn (off := 253) (tgt := 306) X.1 X.2.1 dL_law_53 (by rw [c_2]; decide) (by rw [c_2]; decide) (by rw [c_2]; rfl) (by decide) ?_
        exact law_case_4 l hL C0 hG hK PI hop.2.2.2.2.1 x3 hin S H locs ls hPI hP hS hl hend
      · refine lv_tableIn (off := 276) (tgt := 329) X.1 X.2.1 dL_law_53 (by rw [c_2]; decide) (by rw [c_2]; decide) (by rw [c_2]; rfl) (by decide) ?_
        exact law_case_5 l hL C0 hG hK PI hop.2.2.2.2.2.1 x3 hin S H locs ls hPI hP hS hl hend
      · refine lv_tableIn (off := 309) (tgt := 362) X.1 X.2.1 dL_law_53 (by rw [c_2]; decide) (by rw [c_2]; decide) (by rw [c_2]; rfl) (by decide) ?_
        exact law_case_6 l hL C0 hG hK PI hop.2.2.2.2.2.2.1 x3 hin S H locs ls hPI hP hS hl hend
      · refine lv_tableIn (off := 352) (tgt := 405) X.1 X.2.1 dL_law_53 (by rw [c_2]; decide) (by rw [c_2]; decide) (by rw [c_2]; rfl) (by decide) ?_
        exact law_case_7 l hL C0 hG hK PI hop.2.2.2.2.2.2.2.1 x3 hin S H locs ls hPI hP hS hl hend
      · refine lv_tableIn (off := 395) (tgt := 448) X.1 X.2.1 dL_law_53 (by rw [c_2]; decide) (by rw [c_2]; decide) (by rw [c_2]; rfl) (by decide) ?_
        exact law_case_8 l hL C0 hG hK PI hop.2.2.2.2.2.2.2.2.1 x3 hin S H locs ls hPI hP hS hl hend
      · refine lv_tableIn (off := 428) (tgt := 481) X.1 X.2.1 dL_law_53 (by rw [c_2]; decide) (by rw [c_2]; decide) (by rw [c_2]; rfl) (by decide) ?_
        exact law_case_9 l hL C0 hG hK PI hop.2.2.2.2.2.2.2.2.2.1 x3 hin S H locs ls hPI hP hS hl hend
      · refine lv_tableIn (off := 461) (tgt := 514) X.1 X.2.1 dL_law_53 (by rw [c_2]; decide) (by rw [c_2]; decide) (by rw [c_2]; rfl) (by decide) ?_
        exact law_case_10 l hL C0 hG hK PI hop.2.2.2.2.2.2.2.2.2.2.1 x3 hin S H locs ls hPI hP hS hl hend
      · refine lv_tableIn (off := 494) (tgt := 547) X.1 X.2.1 dL_law_53 (by rw [c_2]; decide) (by rw [c_2]; decide) (by rw [c_2]; rfl) (by decide) ?_
        exact law_case_11 l hL C0 hG hK PI hop.2.2.2.2.2.2.2.2.2.2.2.1 x3 hin S H locs ls hPI hP hS hl hend
      · refine lv_tableIn (off := 557) (tgt := 610) X.1 X.2.1 dL_law_53 (by rw [c_2]; decide) (by rw [c_2]; decide) (by rw [c_2]; rfl) (by decide) ?_
        exact law_case_12 l hL C0 hG hK PI hop.2.2.2.2.2.2.2.2.2.2.2.2.1 x3 hin S H locs ls hPI hP hS hl hend
      · refine lv_tableIn (off := 590) (tgt := 643) X.1 X.2.1 dL_law_53 (by rw [c_2]; decide) (by rw [c_2]; decide) (by rw [c_2]; rfl) (by decide) ?_
        exact law_case_13 l hL C0 hG hK PI hop.2.2.2.2.2.2.2.2.2.2.2.2.2.1 x3 hin S H locs ls hPI hP hS hl hend
      · refine lv_tableIn (off := 613) (tgt := 666) X.1 X.2.1 dL_law_53 (by rw [c_2]; decide) (by rw [c_2]; decide) (by rw [c_2]; rfl) (by decide) ?_
        exact law_case_14 l hL C0 hG hK PI hop.2.2.2.2.2.2.2.2.2.2.2.2.2.2.1 x3 hin S H locs ls hPI hP hS hl hend
      · refine lv_tableIn (off := 636) (tgt := 689) X.1 X.2.1 dL_law_53 (by rw [c_2]; decide) (by rw [c_2]; decide) (by rw [c_2]; rfl) (by decide) ?_
        exact law_case_15 l hL C0 hG hK PI hop.2.2.2.2.2.2.2.2.2.2.2.2.2.2.2.1 x3 hin S H locs ls hPI hP hS hl hend
      · refine lv_tableIn (off := 659) (tgt := 712) X.1 X.2.1 dL_law_53 (by rw [c_2]; decide) (by rw [c_2]; decide) (by rw [c_2]; rfl) (by decide) ?_
        exact law_case_16 l hL C0 hG hK PI hop.2.2.2.2.2.2.2.2.2.2.2.2.2.2.2.2.1 x3 hin S H locs ls hPI hP hS hl hend
      · refine lv_tableIn (off := 682) (tgt := 735) X.1 X.2.1 dL_law_53 (by rw [c_2]; decide) (by rw [c_2]; decide) (by rw [c_2]; rfl) (by decide) ?_
        exact law_case_17 l hL C0 hG hK PI hop.2.2.2.2.2.2.2.2.2.2.2.2.2.2.2.2.2.1 x3 hin S H locs ls hPI hP hS hl hend
      · refine lv_tableIn (off := 695) (tgt := 748) X.1 X.2.1 dL_law_53 (by rw [c_2]; decide) (by rw [c_2]; decide) (by rw [c_2]; rfl) (by decide) ?_
        exact law_case_18 l hL C0 hG hK PI hop.2.2.2.2.2.2.2.2.2.2.2.2.2.2.2.2.2.2.1 x3 hin S H locs ls hPI hP hS hl hend
      · refine lv_tableIn (off := 718) (tgt := 771) X.1 X.2.1 dL_law_53 (by rw [c_2]; decide) (by rw [c_2]; decide) (by rw [c_2]; rfl) (by decide) ?_
        exact law_case_19 l hL C0 hG hK PI hop.2.2.2.2.2.2.2.2.2.2.2.2.2.2.2.2.2.2.2.1 x3 hin S H locs ls hPI hP hS hl hend
      · refine lv_tableIn (off := 731) (tgt := 784) X.1 X.2.1 dL_law_53 (by rw [c_2]; decide) (by rw [c_2]; decide) (by rw [c_2]; rfl) (by decide) ?_
        exact law_case_20 l hL C0 hG hK PI hop.2.2.2.2.2.2.2.2.2.2.2.2.2.2.2.2.2.2.2.2.1 x3 hin S H locs ls hPI hP hS hl hend
      · refine lv_tableIn (off := 754) (tgt := 807) X.1 X.2.1 dL_law_53 (by rw [c_2]; decide) (by rw [c_2]; decide) (by rw [c_2]; rfl) (by decide) ?_
        exact law_case_21 l hL C0 hG hK PI hop.2.2.2.2.2.2.2.2.2.2.2.2.2.2.2.2.2.2.2.2.2.1 x3 hin S H locs ls hPI hP hS hl hend
      · refine lv_tableIn (off := 777) (tgt := 830) X.1 X.2.1 dL_law_53 (by rw [c_2]; decide) (by rw [c_2]; decide) (by rw [c_2]; rfl) (by decide) ?_
        exact law_case_22 l hL C0 hG hK PI hop.2.2.2.2.2.2.2.2.2.2.2.2.2.2.2.2.2.2.2.2.2.2.1 x3 hin S H locs ls hPI hP hS hl hend
      · refine lv_tableIn (off := 800) (tgt := 853) X.1 X.2.1 dL_law_53 (by rw [c_2]; decide) (by rw [c_2]; decide) (by rw [c_2]; rfl) (by decide) ?_
        exact law_case_23 l hL C0 hG hK PI hop.2.2.2.2.2.2.2.2.2.2.2.2.2.2.2.2.2.2.2.2.2.2.2.1 x3 hin S H locs ls hPI hP hS hl hend
      · refine lv_tableIn (off := 813) (tgt := 866) X.1 X.2.1 dL_law_53 (by rw [c_2]; decide) (by rw [c_2]; decide) (by rw [c_2]; rfl) (by decide) ?_
        exact law_case_24 l hL C0 hG hK PI hop.2.2.2.2.2.2.2.2.2.2.2.2.2.2.2.2.2.2.2.2.2.2.2.2.1 x3 hin S H locs ls hPI hP hS hl hend
      · refine lv_tableIn (off := 846) (tgt := 899) X.1 X.2.1 dL_law_53 (by rw [c_2]; decide) (by rw [c_2]; decide) (by rw [c_2]; rfl) (by decide) ?_
        exact law_case_25 l hL C0 hG hK PI hop.2.2.2.2.2.2.2.2.2.2.2.2.2.2.2.2.2.2.2.2.2.2.2.2.2.1 x3 hin S H locs ls hPI hP hS hl hend
      · refine lv_tableIn (off := 869) (tgt := 922) X.1 X.2.1 dL_law_53 (by rw [c_2]; decide) (by rw [c_2]; decide) (by rw [c_2]; rfl) (by decide) ?_
        exact law_case_26 l hL C0 hG hK PI hop.2.2.2.2.2.2.2.2.2.2.2.2.2.2.2.2.2.2.2.2.2.2.2.2.2.2.1 x3 hin S H locs ls hPI hP hS hl hend
      · refine lv_tableIn (off := 882) (tgt := 935) X.1 X.2.1 dL_law_53 (by rw [c_2]; decide) (by rw [c_2]; decide) (by rw [c_2]; rfl) (by decide) ?_
        exact law_case_27 l hL C0 hG hK PI hop.2.2.2.2.2.2.2.2.2.2.2.2.2.2.2.2.2.2.2.2.2.2.2.2.2.2.2.1 x3 hin S H locs ls hPI hP hS hl hend
      · refine lv_tableIn (off := 905) (tgt := 958) X.1 X.2.1 dL_law_53 (by rw [c_2]; decide) (by rw [c_2]; decide) (by rw [c_2]; rfl) (by decide) ?_
        exact law_case_28 l hL C0 hG hK PI hop.2.2.2.2.2.2.2.2.2.2.2.2.2.2.2.2.2.2.2.2.2.2.2.2.2.2.2.2 x3 hin S H locs ls hPI hP hS hl hend
theorem law_loop {p : Program} {e : Env} {s : State} {m : MethodId} {below : List Frame} {meth : Method} {c : Code} (l : Launch) {G : Cx} {b L : Nat} {xs : Nat → Int32} (hL : L ≤ 3074) (C0 : lw_At p s m meth c b L xs) (hG : G.1 = s.heap.size) (hK : q_K G s) (PI : St → Prop) (hop : law_ok PI) : ∀ (f i : Nat), L + 1 ≤ i + f → i ≤ 3980 → ∀ (x3 : Int32) (S : St) (H : Heap) (locs : List Loc) (ls : Array Slot), x3 = nI i → PI S → q_P G S H → va_S (fr_ G) s.heap H locs → lv_has ls 4 [(3, .int x3), (2, .ref (G.1 + 224)), (1, .ref (G.1 + 0)), (0, .ref b)] → W p l e room_1 s m #[Value.ref b] below meth c H locs 600000 7302250 (lw_Z below #[Value.ref b] s) (F0 m 38 ls []) := by
  intro f
  induction f with
  | zero => intro i h1 h2 x3 S H locs ls hx hPI hP hS hl; exact law_body l hL C0 hG hK PI hop i x3 hx (by omega) S H locs ls hPI hP hS hl (fun h => absurd h (by omega))
  | succ f ih => intro i h1 h2 x3 S H locs ls hx hPI hP hS hl; exact law_body l hL C0 hG hK PI hop i x3 hx (by omega) S H locs ls hPI hP hS hl (fun h => ih (i + 6) (by omega) (by omega))
