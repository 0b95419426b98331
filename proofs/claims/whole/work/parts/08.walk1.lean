set_option maxHeartbeats 4000000 in
set_option maxRecDepth 100000 in
theorem c_J9_floorMod_7cf53 (l : Launch) (G : Cx) (x0 : Int32) (x1 : Int32) (S : St) (K : Int32 → St → Prop) (h : w_J9_floorMod_7cf53 x0 x1 S K) : q_Met l yJ9_floorMod_7cf53 cJ9_floorMod_7cf53 3 (some .int) 0 0 G [.int x0, .int x1] v_i S K := by
  refine q_enter (by decide +kernel) (Nat.le_of_ble_eq_true rfl) (fun p e s m args below meth c ls X hK hP hr hlocks hl => ?_)
  have hS : va_S (fr_ G) s.heap s.heap [] := va_S.rf
  have hl : lv_has ls 3 [(0, .int x0), (1, .int x1)] := hl
  have B18 : ∀ (x2 : Int32) (S : St) (ls : Array Slot), lv_has ls 3 [(2, .int x2)] → w_J9_floorMod_7cf53_18 x0 x1 K x2 S → q_W p l e (k2_rm 0 0) s m args below meth c 0 0 (MQ below (q_Qc G K v_i) args s 0 0 (fr_ G)) G 18 ls [] S := by
    intro x2 S ls hl h H locs hP hS
    refine lv_iload_n X.1 X.2.1 dJ9_floorMod_7cf53_18 rfl (lv_at hl 0 rfl) ?_
    exact q_iret X hr hlocks hP hS rfl h dJ9_floorMod_7cf53_19
  refine lv_iload_n X.1 X.2.1 dJ9_floorMod_7cf53_0 rfl (lv_at hl 0 rfl) ?_
  refine lv_iload_n X.1 X.2.1 dJ9_floorMod_7cf53_1 rfl (lv_at hl 1 rfl) ?_
  obtain ⟨o_1, h⟩ := h
  refine lv_irem X.1 X.2.1 dJ9_floorMod_7cf53_2 o_1 ?_
  refine lv_topi (fun x2_2 e2_2 => ?_)
  have h := h x2_2 e2_2
  refine lv_istore_n (lv' := [(2, .int x2_2), (0, .int x0), (1, .int x1)]) X.1 X.2.1 dJ9_floorMod_7cf53_3 rfl hl (by decide) rfl (fun ls hl => ?_)
  refine lv_iload_n X.1 X.2.1 dJ9_floorMod_7cf53_4 rfl (lv_at hl 1 rfl) ?_
  refine lv_iload_n X.1 X.2.1 dJ9_floorMod_7cf53_5 rfl (lv_at hl 2 rfl) ?_
  refine lv_ixor X.1 X.2.1 dJ9_floorMod_7cf53_6 ?_
  refine lv_if_ge (tgt := 18) X.1 X.2.1 dJ9_floorMod_7cf53_7 (by decide) (fun c_3 => ?_) (fun c_3 => ?_)
  · have h := h.1 c_3
    exact B18 x2_2 S _ (lv_sub hl [0] rfl) h _ _ hP hS
  · have h := h.2 c_3
    refine lv_iload_n X.1 X.2.1 dJ9_floorMod_7cf53_10 rfl (lv_at hl 0 rfl) ?_
    refine lv_if_eq (tgt := 18) X.1 X.2.1 dJ9_floorMod_7cf53_11 (by decide) (fun c_4 => ?_) (fun c_4 => ?_)
    · have h := h.1 c_4
      exact B18 x2_2 S _ (lv_sub hl [0] rfl) h _ _ hP hS
    · have h := h.2 c_4
      refine lv_iload_n X.1 X.2.1 dJ9_floorMod_7cf53_14 rfl (lv_at hl 0 rfl) ?_
      refine lv_iload_n X.1 X.2.1 dJ9_floorMod_7cf53_15 rfl (lv_at hl 2 rfl) ?_
      refine lv_iadd X.1 X.2.1 dJ9_floorMod_7cf53_16 ?_
      exact q_iret X hr hlocks hP hS rfl h dJ9_floorMod_7cf53_17

set_option maxHeartbeats 4000000 in
set_option maxRecDepth 100000 in
theorem c_J9_max_7cf53 (l : Launch) (G : Cx) (x0 : Int32) (x1 : Int32) (S : St) (K : Int32 → St → Prop) (h : w_J9_max_7cf53 x0 x1 S K) : q_Met l yJ9_max_7cf53 cJ9_max_7cf53 2 (some .int) 0 0 G [.int x0, .int x1] v_i S K := by
  refine q_enter (by decide +kernel) (Nat.le_of_ble_eq_true rfl) (fun p e s m args below meth c ls X hK hP hr hlocks hl => ?_)
  have hS : va_S (fr_ G) s.heap s.heap [] := va_S.rf
  have hl : lv_has ls 2 [(0, .int x0), (1, .int x1)] := hl
  refine lv_iload_n X.1 X.2.1 dJ9_max_7cf53_0 rfl (lv_at hl 0 rfl) ?_
  refine lv_iload_n X.1 X.2.1 dJ9_max_7cf53_1 rfl (lv_at hl 1 rfl) ?_
  refine lv_icmp_lt (tgt := 9) X.1 X.2.1 dJ9_max_7cf53_2 (by decide) (fun c_1 => ?_) (fun c_1 => ?_)
  · have h := h.1 c_1
    refine lv_iload_n X.1 X.2.1 dJ9_max_7cf53_9 rfl (lv_at hl 1 rfl) ?_
    exact q_iret X hr hlocks hP hS rfl h dJ9_max_7cf53_10
  · have h := h.2 c_1
    refine lv_iload_n X.1 X.2.1 dJ9_max_7cf53_5 rfl (lv_at hl 0 rfl) ?_
    refine lv_goto (tgt := 10) X.1 X.2.1 dJ9_max_7cf53_6 (by decide) ?_
    exact q_iret X hr hlocks hP hS rfl h dJ9_max_7cf53_10

set_option maxHeartbeats 4000000 in
set_option maxRecDepth 100000 in
theorem c_J9_min_7cf53 (l : Launch) (G : Cx) (x0 : Int32) (x1 : Int32) (S : St) (K : Int32 → St → Prop) (h : w_J9_min_7cf53 x0 x1 S K) : q_Met l yJ9_min_7cf53 cJ9_min_7cf53 2 (some .int) 0 0 G [.int x0, .int x1] v_i S K := by
  refine q_enter (by decide +kernel) (Nat.le_of_ble_eq_true rfl) (fun p e s m args below meth c ls X hK hP hr hlocks hl => ?_)
  have hS : va_S (fr_ G) s.heap s.heap [] := va_S.rf
  have hl : lv_has ls 2 [(0, .int x0), (1, .int x1)] := hl
  refine lv_iload_n X.1 X.2.1 dJ9_min_7cf53_0 rfl (lv_at hl 0 rfl) ?_
  refine lv_iload_n X.1 X.2.1 dJ9_min_7cf53_1 rfl (lv_at hl 1 rfl) ?_
  refine lv_icmp_gt (tgt := 9) X.1 X.2.1 dJ9_min_7cf53_2 (by decide) (fun c_1 => ?_) (fun c_1 => ?_)
  · have h := h.1 c_1
    refine lv_iload_n X.1 X.2.1 dJ9_min_7cf53_9 rfl (lv_at hl 1 rfl) ?_
    exact q_iret X hr hlocks hP hS rfl h dJ9_min_7cf53_10
  · have h := h.2 c_1
    refine lv_iload_n X.1 X.2.1 dJ9_min_7cf53_5 rfl (lv_at hl 0 rfl) ?_
    refine lv_goto (tgt := 10) X.1 X.2.1 dJ9_min_7cf53_6 (by decide) ?_
    exact q_iret X hr hlocks hP hS rfl h dJ9_min_7cf53_10

set_option maxHeartbeats 4000000 in
set_option maxRecDepth 100000 in
theorem c_J6_compare_7cf53 (l : Launch) (G : Cx) (x0 : Int32) (x1 : Int32) (S : St) (K : Int32 → St → Prop) (h : w_J6_compare_7cf53 x0 x1 S K) : q_Met l yJ6_compare_7cf53 cJ6_compare_7cf53 2 (some .int) 0 0 G [.int x0, .int x1] v_i S K := by
  refine q_enter (by decide +kernel) (Nat.le_of_ble_eq_true rfl) (fun p e s m args below meth c ls X hK hP hr hlocks hl => ?_)
  have hS : va_S (fr_ G) s.heap s.heap [] := va_S.rf
  have hl : lv_has ls 2 [(0, .int x0), (1, .int x1)] := hl
  refine lv_iload_n X.1 X.2.1 dJ6_compare_7cf53_0 rfl (lv_at hl 0 rfl) ?_
  refine lv_iload_n X.1 X.2.1 dJ6_compare_7cf53_1 rfl (lv_at hl 1 rfl) ?_
  refine lv_icmp_ge (tgt := 9) X.1 X.2.1 dJ6_compare_7cf53_2 (by decide) (fun c_1 => ?_) (fun c_1 => ?_)
  · have h := h.1 c_1
    refine lv_iload_n X.1 X.2.1 dJ6_compare_7cf53_9 rfl (lv_at hl 0 rfl) ?_
    refine lv_iload_n X.1 X.2.1 dJ6_compare_7cf53_10 rfl (lv_at hl 1 rfl) ?_
    refine lv_icmp_ne (tgt := 18) X.1 X.2.1 dJ6_compare_7cf53_11 (by decide) (fun c_2 => ?_) (fun c_2 => ?_)
    · have h := h.1 c_2
      refine lv_iconst (v := 1) X.1 X.2.1 dJ6_compare_7cf53_18 (by decide) ?_
      exact q_iret X hr hlocks hP hS rfl h dJ6_compare_7cf53_19
    · have h := h.2 c_2
      refine lv_iconst (v := 0) X.1 X.2.1 dJ6_compare_7cf53_14 (by decide) ?_
      refine lv_goto (tgt := 19) X.1 X.2.1 dJ6_compare_7cf53_15 (by decide) ?_
      exact q_iret X hr hlocks hP hS rfl h dJ6_compare_7cf53_19
  · have h := h.2 c_1
    refine lv_iconst (v := (-1)) X.1 X.2.1 dJ6_compare_7cf53_5 (by decide) ?_
    refine lv_goto (tgt := 19) X.1 X.2.1 dJ6_compare_7cf53_6 (by decide) ?_
    exact q_iret X hr hlocks hP hS rfl h dJ6_compare_7cf53_19

set_option maxHeartbeats 4000000 in
set_option maxRecDepth 100000 in
theorem c_J7_fill_53178 (l : Launch) (G : Cx) (q0 : Nat) (x1 : Int32) (S : St) (K : Unit → St → Prop) (hq0 : isI q0) (h : w_J7_fill_53178 q0 x1 S K) : q_Met l yJ7_fill_53178 cJ7_fill_53178 4 none 0 0 G [.ref (G.1 + q0), .int x1] v_v S K := by
  refine q_enter (by decide +kernel) (Nat.le_of_ble_eq_true rfl) (fun p e s m args below meth c ls X hK hP hr hlocks hl => ?_)
  have hS : va_S (fr_ G) s.heap s.heap [] := va_S.rf
  have hl : lv_has ls 4 [(0, .ref (G.1 + q0)), (1, .int x1)] := hl
  have B5 : ∀ (x3 : Int32) (f : Nat) (x2 : Int32) (S : St) (ls : Array Slot), lv_has ls 4 [(0, .ref (G.1 + q0)), (1, .int x1), (2, .int x2), (3, .int x3)] → q_it (fun _ _ => False) (w_J7_fill_53178_5 q0 x1 K x3) f x2 S → q_W p l e (k2_rm 0 0) s m args below meth c 0 0 (MQ below (q_Qc G K v_v) args s 0 0 (fr_ G)) G 5 ls [] S := by
    intro x3 f
    induction f with
    | zero => intro x2 S ls hl h; exact False.elim h
    | succ f hk5 =>
      intro x2 S ls hl h H locs hP hS
      have h : w_J7_fill_53178_5 q0 x1 K x3 (q_it (fun _ _ => False) (w_J7_fill_53178_5 q0 x1 K x3) f) x2 S := h
      generalize q_it (fun _ _ => False) (w_J7_fill_53178_5 q0 x1 K x3) f = k5 at h hk5
      refine lv_iload_n X.1 X.2.1 dJ7_fill_53178_5 rfl (lv_at hl 2 rfl) ?_
      refine lv_iload_n X.1 X.2.1 dJ7_fill_53178_6 rfl (lv_at hl 3 rfl) ?_
      refine lv_icmp_ge (tgt := 20) X.1 X.2.1 dJ7_fill_53178_7 (by decide) (fun c_1 => ?_) (fun c_1 => ?_)
      · have h := h.1 c_1
        exact q_vret X hr hlocks hP hS h dJ7_fill_53178_20
      · have h := h.2 c_1
        refine lv_aload_n X.1 X.2.1 dJ7_fill_53178_10 rfl (lv_at hl 0 rfl) ?_
        refine lv_iload_n X.1 X.2.1 dJ7_fill_53178_11 rfl (lv_at hl 2 rfl) ?_
        refine lv_iload_n X.1 X.2.1 dJ7_fill_53178_12 rfl (lv_at hl 1 rfl) ?_
        obtain ⟨o_2, h⟩ := h
        refine q_iast X hK hP hS ⟨hq0.1, isI_kd hq0⟩ o_2 dJ7_fill_53178_13 (fun S_3 H locs eS_3 hP hS => ?_)
        have h := h S_3 eS_3
        obtain ⟨x2_4, e2_4⟩ : ∃ y : Int32, y = x2 + 1 := ⟨_, rfl⟩
        have h := h x2_4 e2_4
        refine lv_iinc (v := x2_4) (lv' := [(2, .int x2_4), (0, .ref (G.1 + q0)), (1, .int x1), (3, .int x3)]) X.1 X.2.1 dJ7_fill_53178_14 hl (k := 2) rfl (by rw [e2_4]; first | rfl | decide) (by decide) rfl (fun ls hl => ?_)
        refine lv_goto (tgt := 5) X.1 X.2.1 dJ7_fill_53178_17 (by decide) ?_
        exact hk5 x2_4 S_3 _ (lv_sub hl [1, 2, 0, 3] rfl) h _ _ hP hS
  refine lv_iconst (v := 0) X.1 X.2.1 dJ7_fill_53178_0 (by decide) ?_
  refine lv_istore_n (lv' := [(2, .int 0), (0, .ref (G.1 + q0)), (1, .int x1)]) X.1 X.2.1 dJ7_fill_53178_1 rfl hl (by decide) rfl (fun ls hl => ?_)
  refine lv_aload_n X.1 X.2.1 dJ7_fill_53178_2 rfl (lv_at hl 1 rfl) ?_
  refine q_alen X hK hP ⟨hq0.1, isI_kd hq0⟩ dJ7_fill_53178_3 ?_
  refine lv_topi (fun x3_1 e3_1 => ?_)
  have h := h x3_1 e3_1
  refine lv_istore_n (lv' := [(3, .int x3_1), (2, .int 0), (0, .ref (G.1 + q0)), (1, .int x1)]) X.1 X.2.1 dJ7_fill_53178_4 rfl hl (by decide) rfl (fun ls hl => ?_)
  obtain ⟨f_2, h⟩ := h
  exact B5 x3_1 f_2 0 S _ (lv_sub hl [2, 3, 1, 0] rfl) h _ _ hP hS

set_option maxHeartbeats 4000000 in
set_option maxRecDepth 100000 in
theorem c_X1_of (l : Launch) (G : Cx) (x0 : Int32) (x1 : Int32) (x2 : Int32) (x3 : Int32) (S : St) (K : Int32 → St → Prop) (h : w_X1_of x0 x1 x2 x3 S K) : q_Met l yX1_of cX1_of 4 (some .int) 0 0 G [.int x0, .int x1, .int x2, .int x3] v_i S K := by
  refine q_enter (by decide +kernel) (Nat.le_of_ble_eq_true rfl) (fun p e s m args below meth c ls X hK hP hr hlocks hl => ?_)
  have hS : va_S (fr_ G) s.heap s.heap [] := va_S.rf
  have hl : lv_has ls 4 [(0, .int x0), (1, .int x1), (2, .int x2), (3, .int x3)] := hl
  refine lv_iload_n X.1 X.2.1 dX1_of_0 rfl (lv_at hl 0 rfl) ?_
  refine lv_iload_n X.1 X.2.1 dX1_of_1 rfl (lv_at hl 1 rfl) ?_
  refine lv_bipush (v := 8) X.1 X.2.1 dX1_of_2 (by decide) ?_
  refine lv_ishl X.1 X.2.1 dX1_of_4 ?_
  refine lv_ior X.1 X.2.1 dX1_of_5 ?_
  refine lv_iload_n X.1 X.2.1 dX1_of_6 rfl (lv_at hl 2 rfl) ?_
  refine lv_bipush (v := 16) X.1 X.2.1 dX1_of_7 (by decide) ?_
  refine lv_ishl X.1 X.2.1 dX1_of_9 ?_
  refine lv_ior X.1 X.2.1 dX1_of_10 ?_
  refine lv_iload_n X.1 X.2.1 dX1_of_11 rfl (lv_at hl 3 rfl) ?_
  refine lv_bipush (v := 24) X.1 X.2.1 dX1_of_12 (by decide) ?_
  refine lv_ishl X.1 X.2.1 dX1_of_14 ?_
  refine lv_ior X.1 X.2.1 dX1_of_15 ?_
  exact q_iret X hr hlocks hP hS rfl h dX1_of_16

set_option maxHeartbeats 4000000 in
set_option maxRecDepth 100000 in
theorem c_X1_variable (l : Launch) (G : Cx) (x0 : Int32) (S : St) (K : Int32 → St → Prop) (h : w_X1_variable x0 S K) : q_Met l yX1_variable cX1_variable 1 (some .int) 0 0 G [.int x0] v_i S K := by
  refine q_enter (by decide +kernel) (Nat.le_of_ble_eq_true rfl) (fun p e s m args below meth c ls X hK hP hr hlocks hl => ?_)
  have hS : va_S (fr_ G) s.heap s.heap [] := va_S.rf
  have hl : lv_has ls 1 [(0, .int x0)] := hl
  refine lv_iconst (v := 1) X.1 X.2.1 dX1_variable_0 (by decide) ?_
  refine lv_bipush (v := 8) X.1 X.2.1 dX1_variable_1 (by decide) ?_
  refine lv_iload_n X.1 X.2.1 dX1_variable_3 rfl (lv_at hl 0 rfl) ?_
  refine lv_imul X.1 X.2.1 dX1_variable_4 ?_
  refine lv_ishl X.1 X.2.1 dX1_variable_5 ?_
  exact q_iret X hr hlocks hP hS rfl h dX1_variable_6

set_option maxHeartbeats 4000000 in
set_option maxRecDepth 100000 in
theorem c_X1_exponentOf (l : Launch) (G : Cx) (x0 : Int32) (x1 : Int32) (S : St) (K : Int32 → St → Prop) (h : w_X1_exponentOf x0 x1 S K) : q_Met l yX1_exponentOf cX1_exponentOf 2 (some .int) 0 0 G [.int x0, .int x1] v_i S K := by
  refine q_enter (by decide +kernel) (Nat.le_of_ble_eq_true rfl) (fun p e s m args below meth c ls X hK hP hr hlocks hl => ?_)
  have hS : va_S (fr_ G) s.heap s.heap [] := va_S.rf
  have hl : lv_has ls 2 [(0, .int x0), (1, .int x1)] := hl
  refine lv_iload_n X.1 X.2.1 dX1_exponentOf_0 rfl (lv_at hl 0 rfl) ?_
  refine lv_bipush (v := 8) X.1 X.2.1 dX1_exponentOf_1 (by decide) ?_
  refine lv_iload_n X.1 X.2.1 dX1_exponentOf_3 rfl (lv_at hl 1 rfl) ?_
  refine lv_imul X.1 X.2.1 dX1_exponentOf_4 ?_
  refine lv_iushr X.1 X.2.1 dX1_exponentOf_5 rfl ?_
  refine lv_sipush (v := 255) X.1 X.2.1 dX1_exponentOf_6 (by decide) ?_
  refine lv_iand X.1 X.2.1 dX1_exponentOf_9 ?_
  exact q_iret X hr hlocks hP hS rfl h dX1_exponentOf_10

set_option maxHeartbeats 4000000 in
set_option maxRecDepth 100000 in
theorem c_X1_isGreat (l : Launch) (G : Cx) (x0 : Int32) (S : St) (K : Int32 → St → Prop) (h : w_X1_isGreat x0 S K) : q_Met l yX1_isGreat cX1_isGreat 1 (some .boolean) 0 0 G [.int x0] v_i S K := by
  refine q_enter (by decide +kernel) (Nat.le_of_ble_eq_true rfl) (fun p e s m args below meth c ls X hK hP hr hlocks hl => ?_)
  have hS : va_S (fr_ G) s.heap s.heap [] := va_S.rf
  have hl : lv_has ls 1 [(0, .int x0)] := hl
  refine lv_iload_n X.1 X.2.1 dX1_isGreat_0 rfl (lv_at hl 0 rfl) ?_
  refine lv_ldc X.1 X.2.1 X.2.2.2.1 (X.2.2.2.2 _ tl_X1_11) dX1_isGreat_1 ?_
  refine lv_iadd X.1 X.2.1 dX1_isGreat_3 ?_
  refine lv_ldc X.1 X.2.1 X.2.2.2.1 (X.2.2.2.2 _ tl_X1_12) dX1_isGreat_4 ?_
  refine lv_iand X.1 X.2.1 dX1_isGreat_6 ?_
  refine lv_if_eq (tgt := 14) X.1 X.2.1 dX1_isGreat_7 (by decide) (fun c_1 => ?_) (fun c_1 => ?_)
  · have h := h.1 c_1
    refine lv_iconst (v := 0) X.1 X.2.1 dX1_isGreat_14 (by decide) ?_
    exact q_iret X hr hlocks hP hS rfl h dX1_isGreat_15
  · have h := h.2 c_1
    refine lv_iconst (v := 1) X.1 X.2.1 dX1_isGreat_10 (by decide) ?_
    refine lv_goto (tgt := 15) X.1 X.2.1 dX1_isGreat_11 (by decide) ?_
    exact q_iret X hr hlocks hP hS rfl h dX1_isGreat_15

set_option maxHeartbeats 4000000 in
set_option maxRecDepth 100000 in
theorem c_X1_divides (l : Launch) (G : Cx) (x0 : Int32) (x1 : Int32) (S : St) (K : Int32 → St → Prop) (h : w_X1_divides x0 x1 S K) : q_Met l yX1_divides cX1_divides 2 (some .boolean) 0 0 G [.int x0, .int x1] v_i S K := by
  refine q_enter (by decide +kernel) (Nat.le_of_ble_eq_true rfl) (fun p e s m args below meth c ls X hK hP hr hlocks hl => ?_)
  have hS : va_S (fr_ G) s.heap s.heap [] := va_S.rf
  have hl : lv_has ls 2 [(0, .int x0), (1, .int x1)] := hl
  refine lv_iload_n X.1 X.2.1 dX1_divides_0 rfl (lv_at hl 1 rfl) ?_
  refine lv_ldc X.1 X.2.1 X.2.2.2.1 (X.2.2.2.2 _ tl_X1_12) dX1_divides_1 ?_
  refine lv_ior X.1 X.2.1 dX1_divides_3 ?_
  refine lv_iload_n X.1 X.2.1 dX1_divides_4 rfl (lv_at hl 0 rfl) ?_
  refine lv_isub X.1 X.2.1 dX1_divides_5 ?_
  refine lv_ldc X.1 X.2.1 X.2.2.2.1 (X.2.2.2.2 _ tl_X1_12) dX1_divides_6 ?_
  refine lv_iand X.1 X.2.1 dX1_divides_8 ?_
  refine lv_ldc X.1 X.2.1 X.2.2.2.1 (X.2.2.2.2 _ tl_X1_12) dX1_divides_9 ?_
  refine lv_icmp_ne (tgt := 18) X.1 X.2.1 dX1_divides_11 (by decide) (fun c_1 => ?_) (fun c_1 => ?_)
  · have h := h.1 c_1
    refine lv_iconst (v := 0) X.1 X.2.1 dX1_divides_18 (by decide) ?_
    exact q_iret X hr hlocks hP hS rfl h dX1_divides_19
  · have h := h.2 c_1
    refine lv_iconst (v := 1) X.1 X.2.1 dX1_divides_14 (by decide) ?_
    refine lv_goto (tgt := 19) X.1 X.2.1 dX1_divides_15 (by decide) ?_
    exact q_iret X hr hlocks hP hS rfl h dX1_divides_19

set_option maxHeartbeats 4000000 in
set_option maxRecDepth 100000 in
theorem c_X1_leastMultiple (l : Launch) (G : Cx) (x0 : Int32) (x1 : Int32) (S : St) (K : Int32 → St → Prop) (h : w_X1_leastMultiple x0 x1 S K) : q_Met l yX1_leastMultiple cX1_leastMultiple 4 (some .int) 1 21 G [.int x0, .int x1] v_i S K := by
  refine q_enter (by decide +kernel) (Nat.le_of_ble_eq_true rfl) (fun p e s m args below meth c ls X hK hP hr hlocks hl => ?_)
  have hS : va_S (fr_ G) s.heap s.heap [] := va_S.rf
  have hl : lv_has ls 4 [(0, .int x0), (1, .int x1)] := hl
  have B4 : ∀ (f : Nat) (x2 : Int32) (x3 : Int32) (S : St) (ls : Array Slot), lv_has ls 4 [(0, .int x0), (1, .int x1), (2, .int x2), (3, .int x3)] → q_it (fun _ _ _ => False) (w_X1_leastMultiple_4 x0 x1 K) f x2 x3 S → q_W p l e (k2_rm 1 21) s m args below meth c 0 0 (MQ below (q_Qc G K v_i) args s 0 0 (fr_ G)) G 4 ls [] S := by
    intro f
    induction f with
    | zero => intro x2 x3 S ls hl h; exact False.elim h
    | succ f hk4 =>
      intro x2 x3 S ls hl h H locs hP hS
      have h : w_X1_leastMultiple_4 x0 x1 K (q_it (fun _ _ _ => False) (w_X1_leastMultiple_4 x0 x1 K) f) x2 x3 S := h
      generalize q_it (fun _ _ _ => False) (w_X1_leastMultiple_4 x0 x1 K) f = k4 at h hk4
      refine lv_iload_n X.1 X.2.1 dX1_leastMultiple_4 rfl (lv_at hl 3 rfl) ?_
      refine lv_iconst (v := 4) X.1 X.2.1 dX1_leastMultiple_5 (by decide) ?_
      refine lv_icmp_ge (tgt := 36) X.1 X.2.1 dX1_leastMultiple_6 (by decide) (fun c_1 => ?_) (fun c_1 => ?_)
      · have h := h.1 c_1
        refine lv_iload_n X.1 X.2.1 dX1_leastMultiple_36 rfl (lv_at hl 2 rfl) ?_
        exact q_iret X hr hlocks hP hS rfl h dX1_leastMultiple_37
      · have h := h.2 c_1
        refine lv_iload_n X.1 X.2.1 dX1_leastMultiple_9 rfl (lv_at hl 2 rfl) ?_
        refine lv_iload_n X.1 X.2.1 dX1_leastMultiple_10 rfl (lv_at hl 0 rfl) ?_
        refine lv_iload_n X.1 X.2.1 dX1_leastMultiple_11 rfl (lv_at hl 3 rfl) ?_
        refine q_callS (rest := [.int x2]) X hK hP hS (c_X1_exponentOf l G x0 x3 S _ h) my_X1_exponentOf tl_X1_13 dX1_leastMultiple_12 rfl ⟨Nat.le_of_ble_eq_true rfl, Nat.le_of_ble_eq_true rfl⟩ hl.1 rfl (Nat.le_of_ble_eq_true rfl) ⟨Nat.le_of_ble_eq_true rfl, Nat.le_of_ble_eq_true rfl⟩ (fun r_3 S_2 H locs h hP hS => ?_)
        refine W.eq (g2 := F0 m 15 ls [.int r_3, .int x2]) rfl ?_
        refine lv_iload_n X.1 X.2.1 dX1_leastMultiple_15 rfl (lv_at hl 1 rfl) ?_
        refine lv_iload_n X.1 X.2.1 dX1_leastMultiple_16 rfl (lv_at hl 3 rfl) ?_
        refine q_callS (rest := [.int r_3, .int x2]) X hK hP hS (c_X1_exponentOf l G x1 x3 S_2 _ h) my_X1_exponentOf tl_X1_13 dX1_leastMultiple_17 rfl ⟨Nat.le_of_ble_eq_true rfl, Nat.le_of_ble_eq_true rfl⟩ hl.1 rfl (Nat.le_of_ble_eq_true rfl) ⟨Nat.le_of_ble_eq_true rfl, Nat.le_of_ble_eq_true rfl⟩ (fun r_5 S_4 H locs h hP hS => ?_)
        refine W.eq (g2 := F0 m 20 ls [.int r_5, .int r_3, .int x2]) rfl ?_
        refine q_callS (rest := [.int x2]) X hK hP hS (c_J9_max_7cf53 l G r_3 r_5 S_4 _ h) my_J9_max_7cf53 tl_X1_17 dX1_leastMultiple_20 rfl ⟨Nat.le_of_ble_eq_true rfl, Nat.le_of_ble_eq_true rfl⟩ hl.1 rfl (Nat.le_of_ble_eq_true rfl) ⟨Nat.le_of_ble_eq_true rfl, Nat.le_of_ble_eq_true rfl⟩ (fun r_7 S_6 H locs h hP hS => ?_)
        refine W.eq (g2 := F0 m 23 ls [.int r_7, .int x2]) rfl ?_
        refine lv_iload_n X.1 X.2.1 dX1_leastMultiple_23 rfl (lv_at hl 3 rfl) ?_
        refine q_callS (rest := [.int r_7, .int x2]) X hK hP hS (c_X1_variable l G x3 S_6 _ h) my_X1_variable tl_X1_22 dX1_leastMultiple_24 rfl ⟨Nat.le_of_ble_eq_true rfl, Nat.le_of_ble_eq_true rfl⟩ hl.1 rfl (Nat.le_of_ble_eq_true rfl) ⟨Nat.le_of_ble_eq_true rfl, Nat.le_of_ble_eq_true rfl⟩ (fun r_9 S_8 H locs h hP hS => ?_)
        refine W.eq (g2 := F0 m 27 ls [.int r_9, .int r_7, .int x2]) rfl ?_
        refine lv_imul X.1 X.2.1 dX1_leastMultiple_27 ?_
        refine lv_iadd X.1 X.2.1 dX1_leastMultiple_28 ?_
        refine lv_topi (fun x2_10 e2_10 => ?_)
        have h := h x2_10 e2_10
        refine lv_istore_n (lv' := [(2, .int x2_10), (0, .int x0), (1, .int x1), (3, .int x3)]) X.1 X.2.1 dX1_leastMultiple_29 rfl hl (by decide) rfl (fun ls hl => ?_)
        obtain ⟨x3_11, e3_11⟩ : ∃ y : Int32, y = x3 + 1 := ⟨_, rfl⟩
        have h := h x3_11 e3_11
        refine lv_iinc (v := x3_11) (lv' := [(3, .int x3_11), (2, .int x2_10), (0, .int x0), (1, .int x1)]) X.1 X.2.1 dX1_leastMultiple_30 hl (k := 3) rfl (by rw [e3_11]; first | rfl | decide) (by decide) rfl (fun ls hl => ?_)
        refine lv_goto (tgt := 4) X.1 X.2.1 dX1_leastMultiple_33 (by decide) ?_
        exact hk4 x2_10 x3_11 S_8 _ (lv_sub hl [2, 3, 1, 0] rfl) h _ _ hP hS
  refine lv_iconst (v := 0) X.1 X.2.1 dX1_leastMultiple_0 (by decide) ?_
  refine lv_istore_n (lv' := [(2, .int 0), (0, .int x0), (1, .int x1)]) X.1 X.2.1 dX1_leastMultiple_1 rfl hl (by decide) rfl (fun ls hl => ?_)
  refine lv_iconst (v := 0) X.1 X.2.1 dX1_leastMultiple_2 (by decide) ?_
  refine lv_istore_n (lv' := [(3, .int 0), (2, .int 0), (0, .int x0), (1, .int x1)]) X.1 X.2.1 dX1_leastMultiple_3 rfl hl (by decide) rfl (fun ls hl => ?_)
  obtain ⟨f_1, h⟩ := h
  exact B4 f_1 0 0 S _ (lv_sub hl [2, 3, 1, 0] rfl) h _ _ hP hS

set_option maxHeartbeats 4000000 in
set_option maxRecDepth 100000 in
theorem c_X3_push (l : Launch) (G : Cx) (q0 : Nat) (x1 : Int32) (x2 : Int32) (S : St) (K : Int32 → St → Prop) (hq0 : isP q0) (h : w_X3_push q0 x1 x2 S K) : q_Met l yX3_push cX3_push 3 (some .boolean) 0 0 G [.ref (G.1 + q0), .int x1, .int x2] v_i S K := by
  refine q_enter (by decide +kernel) (Nat.le_of_ble_eq_true rfl) (fun p e s m args below meth c ls X hK hP hr hlocks hl => ?_)
  have hS : va_S (fr_ G) s.heap s.heap [] := va_S.rf
  have hl : lv_has ls 3 [(0, .ref (G.1 + q0)), (1, .int x1), (2, .int x2)] := hl
  refine lv_aload_n X.1 X.2.1 dX3_push_0 rfl (lv_at hl 0 rfl) ?_
  refine gf_X3_size X hK hP hq0 tl_X3_18 dX3_push_1 ?_
  refine lv_bipush (v := 40) X.1 X.2.1 dX3_push_4 (by decide) ?_
  refine lv_icmp_lt (tgt := 11) X.1 X.2.1 dX3_push_6 (by decide) (fun c_1 => ?_) (fun c_1 => ?_)
  · have h := h.1 c_1
    refine lv_aload_n X.1 X.2.1 dX3_push_11 rfl (lv_at hl 0 rfl) ?_
    refine gf_X3_numbers X hK hP hq0 tl_X3_9 dX3_push_12 ?_
    refine lv_aload_n X.1 X.2.1 dX3_push_15 rfl (lv_at hl 0 rfl) ?_
    refine gf_X3_size X hK hP hq0 tl_X3_18 dX3_push_16 ?_
    refine lv_iload_n X.1 X.2.1 dX3_push_19 rfl (lv_at hl 1 rfl) ?_
    obtain ⟨o_2, h⟩ := h
    refine q_iast X hK hP hS (isP_1 hq0) o_2 dX3_push_20 (fun S_3 H locs eS_3 hP hS => ?_)
    have h := h S_3 eS_3
    refine lv_aload_n X.1 X.2.1 dX3_push_21 rfl (lv_at hl 0 rfl) ?_
    refine gf_X3_monos X hK hP hq0 tl_X3_15 dX3_push_22 ?_
    refine lv_aload_n X.1 X.2.1 dX3_push_25 rfl (lv_at hl 0 rfl) ?_
    refine gf_X3_size X hK hP hq0 tl_X3_18 dX3_push_26 ?_
    refine lv_iload_n X.1 X.2.1 dX3_push_29 rfl (lv_at hl 2 rfl) ?_
    obtain ⟨o_4, h⟩ := h
    refine q_iast X hK hP hS (isP_2 hq0) o_4 dX3_push_30 (fun S_5 H locs eS_5 hP hS => ?_)
    have h := h S_5 eS_5
    refine lv_aload_n X.1 X.2.1 dX3_push_31 rfl (lv_at hl 0 rfl) ?_
    refine lv_dup X.1 X.2.1 dX3_push_32 rfl ?_
    refine gf_X3_size X hK hP hq0 tl_X3_18 dX3_push_33 ?_
    refine lv_iconst (v := 1) X.1 X.2.1 dX3_push_36 (by decide) ?_
    refine lv_iadd X.1 X.2.1 dX3_push_37 ?_
    refine pf_X3_size X hK hP hS hq0 tl_X3_18 dX3_push_38 (fun S_6 H locs eS_6 hP hS => ?_)
    have h := h S_6 eS_6
    refine lv_iconst (v := 1) X.1 X.2.1 dX3_push_41 (by decide) ?_
    exact q_iret X hr hlocks hP hS rfl h dX3_push_42
  · have h := h.2 c_1
    refine lv_iconst (v := 0) X.1 X.2.1 dX3_push_9 (by decide) ?_
    exact q_iret X hr hlocks hP hS rfl h dX3_push_10

set_option maxHeartbeats 4000000 in
set_option maxRecDepth 100000 in
theorem c_X3_copyFrom (l : Launch) (G : Cx) (q0 : Nat) (q1 : Nat) (x2 : Int32) (S : St) (K : Unit → St → Prop) (hq0 : isP q0) (hq1 : isP q1) (h : w_X3_copyFrom q0 q1 x2 S K) : q_Met l yX3_copyFrom cX3_copyFrom 5 none 1 22 G [.ref (G.1 + q0), .ref (G.1 + q1), .int x2] v_v S K := by
  refine q_enter (by decide +kernel) (Nat.le_of_ble_eq_true rfl) (fun p e s m args below meth c ls X hK hP hr hlocks hl => ?_)
  have hS : va_S (fr_ G) s.heap s.heap [] := va_S.rf
  have hl : lv_has ls 5 [(0, .ref (G.1 + q0)), (1, .ref (G.1 + q1)), (2, .int x2)] := hl
  have B13 : ∀ (x3 : Int32) (f : Nat) (x4 : Int32) (S : St) (ls : Array Slot), lv_has ls 5 [(0, .ref (G.1 + q0)), (1, .ref (G.1 + q1)), (3, .int x3), (4, .int x4)] → q_it (fun _ _ => False) (w_X3_copyFrom_13 q0 q1 x2 K x3) f x4 S → q_W p l e (k2_rm 1 22) s m args below meth c 0 0 (MQ below (q_Qc G K v_v) args s 0 0 (fr_ G)) G 13 ls [] S := by
    intro x3 f
    induction f with
    | zero => intro x4 S ls hl h; exact False.elim h
    | succ f hk13 =>
      intro x4 S ls hl h H locs hP hS
      have h : w_X3_copyFrom_13 q0 q1 x2 K x3 (q_it (fun _ _ => False) (w_X3_copyFrom_13 q0 q1 x2 K x3) f) x4 S := h
      generalize q_it (fun _ _ => False) (w_X3_copyFrom_13 q0 q1 x2 K x3) f = k13 at h hk13
      refine lv_iload X.1 X.2.1 dX3_copyFrom_13 (lv_at hl 3 rfl) ?_
      refine lv_iload_n X.1 X.2.1 dX3_copyFrom_15 rfl (lv_at hl 2 rfl) ?_
      refine lv_icmp_ge (tgt := 44) X.1 X.2.1 dX3_copyFrom_16 (by decide) (fun c_1 => ?_) (fun c_1 => ?_)
      · have h := h.1 c_1
        exact q_vret X hr hlocks hP hS h dX3_copyFrom_44
      · have h := h.2 c_1
        refine lv_aload_n X.1 X.2.1 dX3_copyFrom_19 rfl (lv_at hl 0 rfl) ?_
        refine lv_aload_n X.1 X.2.1 dX3_copyFrom_20 rfl (lv_at hl 1 rfl) ?_
        refine gf_X3_numbers X hK hP hq1 tl_X3_9 dX3_copyFrom_21 ?_
        refine lv_iload X.1 X.2.1 dX3_copyFrom_24 (lv_at hl 3 rfl) ?_
        obtain ⟨o_2, h⟩ := h
        refine q_iald X hK hP (isP_1 hq1) o_2 dX3_copyFrom_26 ?_
        refine lv_aload_n X.1 X.2.1 dX3_copyFrom_27 rfl (lv_at hl 1 rfl) ?_
        refine gf_X3_monos X hK hP hq1 tl_X3_15 dX3_copyFrom_28 ?_
        refine lv_iload X.1 X.2.1 dX3_copyFrom_31 (lv_at hl 3 rfl) ?_
        refine q_iald X hK hP (isP_2 hq1) o_2 dX3_copyFrom_33 ?_
        refine q_callV (rest := []) (b := q0) X hK hP hS (c_X3_push l G q0 (S (q1 + 1) (q_rf x4)) (S (q1 + 2) (q_rf x4)) S _ hq0 h) my_X3_push tl_X3_26 dX3_copyFrom_34 hq0 rfl rfl rfl ⟨Nat.le_of_ble_eq_true rfl, Nat.le_of_ble_eq_true rfl⟩ hl.1 rfl (Nat.le_of_ble_eq_true rfl) ⟨Nat.le_of_ble_eq_true rfl, Nat.le_of_ble_eq_true rfl⟩ (fun r_4 S_3 H locs h hP hS => ?_)
        refine W.eq (g2 := F0 m 37 ls [.int r_4]) rfl ?_
        refine lv_pop X.1 X.2.1 dX3_copyFrom_37 rfl ?_
        obtain ⟨x4_5, e4_5⟩ : ∃ y : Int32, y = x4 + 1 := ⟨_, rfl⟩
        have h := h x4_5 e4_5
        refine lv_iinc (v := x4_5) (lv' := [(4, .int x4_5), (0, .ref (G.1 + q0)), (1, .ref (G.1 + q1)), (3, .int x3)]) X.1 X.2.1 dX3_copyFrom_38 hl (k := 3) rfl (by rw [e4_5]; first | rfl | decide) (by decide) rfl (fun ls hl => ?_)
        refine lv_goto (tgt := 13) X.1 X.2.1 dX3_copyFrom_41 (by decide) ?_
        exact hk13 x4_5 S_3 _ (lv_sub hl [1, 2, 3, 0] rfl) h _ _ hP hS
  refine lv_aload_n X.1 X.2.1 dX3_copyFrom_0 rfl (lv_at hl 1 rfl) ?_
  refine gf_X3_size X hK hP hq1 tl_X3_18 dX3_copyFrom_1 ?_
  refine lv_topi (fun x3_1 e3_1 => ?_)
  have h := h x3_1 e3_1
  refine lv_istore_n (lv' := [(3, .int x3_1), (0, .ref (G.1 + q0)), (1, .ref (G.1 + q1)), (2, .int x2)]) X.1 X.2.1 dX3_copyFrom_4 rfl hl (by decide) rfl (fun ls hl => ?_)
  refine lv_aload_n X.1 X.2.1 dX3_copyFrom_5 rfl (lv_at hl 1 rfl) ?_
  refine lv_iconst (v := 0) X.1 X.2.1 dX3_copyFrom_6 (by decide) ?_
  refine pf_X3_size X hK hP hS hq0 tl_X3_18 dX3_copyFrom_7 (fun S_2 H locs eS_2 hP hS => ?_)
  have h := h S_2 eS_2
  refine lv_iload_n X.1 X.2.1 dX3_copyFrom_10 rfl (lv_at hl 3 rfl) ?_
  refine lv_istore (lv' := [(4, .int x2), (3, .int x3_1), (0, .ref (G.1 + q0)), (1, .ref (G.1 + q1)), (2, .int x2)]) X.1 X.2.1 dX3_copyFrom_11 hl (by decide) rfl (fun ls hl => ?_)
  obtain ⟨f_3, h⟩ := h
  exact B13 x3_1 f_3 x2 S_2 _ (lv_sub hl [2, 3, 1, 0] rfl) h _ _ hP hS

set_option maxHeartbeats 4000000 in
set_option maxRecDepth 100000 in
theorem c_X3_copyOf (l : Launch) (G : Cx) (q0 : Nat) (q1 : Nat) (S : St) (K : Unit → St → Prop) (hq0 : isP q0) (hq1 : isP q1) (h : w_X3_copyOf q0 q1 S K) : q_Met l yX3_copyOf cX3_copyOf 2 none 2 46 G [.ref (G.1 + q0), .ref (G.1 + q1)] v_v S K := by
  refine q_enter (by decide +kernel) (Nat.le_of_ble_eq_true rfl) (fun p e s m args below meth c ls X hK hP hr hlocks hl => ?_)
  have hS : va_S (fr_ G) s.heap s.heap [] := va_S.rf
  have hl : lv_has ls 2 [(0, .ref (G.1 + q0)), (1, .ref (G.1 + q1))] := hl
  refine lv_aload_n X.1 X.2.1 dX3_copyOf_0 rfl (lv_at hl 0 rfl) ?_
  refine lv_aload_n X.1 X.2.1 dX3_copyOf_1 rfl (lv_at hl 1 rfl) ?_
  refine lv_iconst (v := 0) X.1 X.2.1 dX3_copyOf_2 (by decide) ?_
  refine q_callV (rest := []) (b := q0) X hK hP hS (c_X3_copyFrom l G q0 q1 0 S _ hq0 hq1 h) my_X3_copyFrom tl_X3_22 dX3_copyOf_3 hq0 rfl rfl rfl ⟨Nat.le_of_ble_eq_true rfl, Nat.le_of_ble_eq_true rfl⟩ hl.1 rfl (Nat.le_of_ble_eq_true rfl) ⟨Nat.le_of_ble_eq_true rfl, Nat.le_of_ble_eq_true rfl⟩ (fun r_2 S_1 H locs h hP hS => ?_)
  refine W.eq (g2 := F0 m 6 ls []) rfl ?_
  exact q_vret X hr hlocks hP hS h dX3_copyOf_6

set_option maxHeartbeats 4000000 in
set_option maxRecDepth 100000 in
theorem c_X3_dropHead (l : Launch) (G : Cx) (q0 : Nat) (S : St) (K : Unit → St → Prop) (hq0 : isP q0) (h : w_X3_dropHead q0 S K) : q_Met l yX3_dropHead cX3_dropHead 1 none 2 46 G [.ref (G.1 + q0)] v_v S K := by
  refine q_enter (by decide +kernel) (Nat.le_of_ble_eq_true rfl) (fun p e s m args below meth c ls X hK hP hr hlocks hl => ?_)
  have hS : va_S (fr_ G) s.heap s.heap [] := va_S.rf
  have hl : lv_has ls 1 [(0, .ref (G.1 + q0))] := hl
  refine lv_aload_n X.1 X.2.1 dX3_dropHead_0 rfl (lv_at hl 0 rfl) ?_
  refine lv_aload_n X.1 X.2.1 dX3_dropHead_1 rfl (lv_at hl 0 rfl) ?_
  refine lv_iconst (v := 1) X.1 X.2.1 dX3_dropHead_2 (by decide) ?_
  refine q_callV (rest := []) (b := q0) X hK hP hS (c_X3_copyFrom l G q0 q0 1 S _ hq0 hq0 h) my_X3_copyFrom tl_X3_22 dX3_dropHead_3 hq0 rfl rfl rfl ⟨Nat.le_of_ble_eq_true rfl, Nat.le_of_ble_eq_true rfl⟩ hl.1 rfl (Nat.le_of_ble_eq_true rfl) ⟨Nat.le_of_ble_eq_true rfl, Nat.le_of_ble_eq_true rfl⟩ (fun r_2 S_1 H locs h hP hS => ?_)
  refine W.eq (g2 := F0 m 6 ls []) rfl ?_
  exact q_vret X hr hlocks hP hS h dX3_dropHead_6

set_option maxHeartbeats 4000000 in
set_option maxRecDepth 100000 in
theorem c_X3_head (l : Launch) (G : Cx) (q0 : Nat) (S : St) (K : Int32 → St → Prop) (hq0 : isP q0) (h : w_X3_head q0 S K) : q_Met l yX3_head cX3_head 1 (some .int) 0 0 G [.ref (G.1 + q0)] v_i S K := by
  refine q_enter (by decide +kernel) (Nat.le_of_ble_eq_true rfl) (fun p e s m args below meth c ls X hK hP hr hlocks hl => ?_)
  have hS : va_S (fr_ G) s.heap s.heap [] := va_S.rf
  have hl : lv_has ls 1 [(0, .ref (G.1 + q0))] := hl
  refine lv_aload_n X.1 X.2.1 dX3_head_0 rfl (lv_at hl 0 rfl) ?_
  refine gf_X3_size X hK hP hq0 tl_X3_18 dX3_head_1 ?_
  refine lv_if_le (tgt := 16) X.1 X.2.1 dX3_head_4 (by decide) (fun c_1 => ?_) (fun c_1 => ?_)
  · have h := h.1 c_1
    refine lv_iconst (v := 0) X.1 X.2.1 dX3_head_16 (by decide) ?_
    exact q_iret X hr hlocks hP hS rfl h dX3_head_17
  · have h := h.2 c_1
    refine lv_aload_n X.1 X.2.1 dX3_head_7 rfl (lv_at hl 0 rfl) ?_
    refine gf_X3_monos X hK hP hq0 tl_X3_15 dX3_head_8 ?_
    refine lv_iconst (v := 0) X.1 X.2.1 dX3_head_11 (by decide) ?_
    refine q_iald X hK hP (isP_2 hq0) (q_vin (by decide)) dX3_head_12 ?_
    refine lv_goto (tgt := 17) X.1 X.2.1 dX3_head_13 (by decide) ?_
    exact q_iret X hr hlocks hP hS rfl h dX3_head_17

set_option maxHeartbeats 4000000 in
set_option maxRecDepth 100000 in
theorem c_X2_comeWith (l : Launch) (G : Cx) (x1 : Int32) (S : St) (K : Unit → St → Prop) (h : w_X2_comeWith x1 S K) : q_Met l yX2_comeWith cX2_comeWith 3 none 0 0 G [.ref (G.1 + 105), .int x1] v_v S K := by
  refine q_enter (by decide +kernel) (Nat.le_of_ble_eq_true rfl) (fun p e s m args below meth c ls X hK hP hr hlocks hl => ?_)
  have hS : va_S (fr_ G) s.heap s.heap [] := va_S.rf
  have hl : lv_has ls 3 [(0, .ref (G.1 + 105)), (1, .int x1)] := hl
  have B2 : ∀ (f : Nat) (x2 : Int32) (S : St) (ls : Array Slot), lv_has ls 3 [(0, .ref (G.1 + 105)), (1, .int x1), (2, .int x2)] → q_it (fun _ _ => False) (w_X2_comeWith_2 x1 K) f x2 S → q_W p l e (k2_rm 0 0) s m args below meth c 0 0 (MQ below (q_Qc G K v_v) args s 0 0 (fr_ G)) G 2 ls [] S := by
    intro f
    induction f with
    | zero => intro x2 S ls hl h; exact False.elim h
    | succ f hk2 =>
      intro x2 S ls hl h H locs hP hS
      have h : w_X2_comeWith_2 x1 K (q_it (fun _ _ => False) (w_X2_comeWith_2 x1 K) f) x2 S := h
      generalize q_it (fun _ _ => False) (w_X2_comeWith_2 x1 K) f = k2 at h hk2
      refine lv_iload_n X.1 X.2.1 dX2_comeWith_2 rfl (lv_at hl 2 rfl) ?_
      refine lv_iload_n X.1 X.2.1 dX2_comeWith_3 rfl (lv_at hl 1 rfl) ?_
      refine lv_icmp_ge (tgt := 53) X.1 X.2.1 dX2_comeWith_4 (by decide) (fun c_1 => ?_) (fun c_1 => ?_)
      · have h := h.1 c_1
        exact q_vret X hr hlocks hP hS h dX2_comeWith_53
      · have h := h.2 c_1
        refine lv_aload_n X.1 X.2.1 dX2_comeWith_7 rfl (lv_at hl 0 rfl) ?_
        refine gf_X2_size X hK hP tl_X2_18 dX2_comeWith_8 ?_
        refine lv_sipush (v := 153) X.1 X.2.1 dX2_comeWith_11 (by decide) ?_
        refine lv_icmp_ge (tgt := 53) X.1 X.2.1 dX2_comeWith_14 (by decide) (fun c_2 => ?_) (fun c_2 => ?_)
        · have h := h.1 c_2
          exact q_vret X hr hlocks hP hS h dX2_comeWith_53
        · have h := h.2 c_2
          refine lv_aload_n X.1 X.2.1 dX2_comeWith_17 rfl (lv_at hl 0 rfl) ?_
          refine gf_X2_firsts X hK hP tl_X2_9 dX2_comeWith_18 ?_
          refine lv_aload_n X.1 X.2.1 dX2_comeWith_21 rfl (lv_at hl 0 rfl) ?_
          refine gf_X2_size X hK hP tl_X2_18 dX2_comeWith_22 ?_
          refine lv_iload_n X.1 X.2.1 dX2_comeWith_25 rfl (lv_at hl 2 rfl) ?_
          obtain ⟨o_3, h⟩ := h
          refine q_iast X hK hP hS kz_106 o_3 dX2_comeWith_26 (fun S_4 H locs eS_4 hP hS => ?_)
          have h := h S_4 eS_4
          refine lv_aload_n X.1 X.2.1 dX2_comeWith_27 rfl (lv_at hl 0 rfl) ?_
          refine gf_X2_seconds X hK hP tl_X2_15 dX2_comeWith_28 ?_
          refine lv_aload_n X.1 X.2.1 dX2_comeWith_31 rfl (lv_at hl 0 rfl) ?_
          refine gf_X2_size X hK hP tl_X2_18 dX2_comeWith_32 ?_
          refine lv_iload_n X.1 X.2.1 dX2_comeWith_35 rfl (lv_at hl 1 rfl) ?_
          obtain ⟨o_5, h⟩ := h
          refine q_iast X hK hP hS kz_107 o_5 dX2_comeWith_36 (fun S_6 H locs eS_6 hP hS => ?_)
          have h := h S_6 eS_6
          refine lv_aload_n X.1 X.2.1 dX2_comeWith_37 rfl (lv_at hl 0 rfl) ?_
          refine lv_dup X.1 X.2.1 dX2_comeWith_38 rfl ?_
          refine gf_X2_size X hK hP tl_X2_18 dX2_comeWith_39 ?_
          refine lv_iconst (v := 1) X.1 X.2.1 dX2_comeWith_42 (by decide) ?_
          refine lv_iadd X.1 X.2.1 dX2_comeWith_43 ?_
          refine pf_X2_size X hK hP hS tl_X2_18 dX2_comeWith_44 (fun S_7 H locs eS_7 hP hS => ?_)
          have h := h S_7 eS_7
          obtain ⟨x2_8, e2_8⟩ : ∃ y : Int32, y = x2 + 1 := ⟨_, rfl⟩
          have h := h x2_8 e2_8
          refine lv_iinc (v := x2_8) (lv' := [(2, .int x2_8), (0, .ref (G.1 + 105)), (1, .int x1)]) X.1 X.2.1 dX2_comeWith_47 hl (k := 2) rfl (by rw [e2_8]; first | rfl | decide) (by decide) rfl (fun ls hl => ?_)
          refine lv_goto (tgt := 2) X.1 X.2.1 dX2_comeWith_50 (by decide) ?_
          exact hk2 x2_8 S_7 _ (lv_sub hl [1, 2, 0] rfl) h _ _ hP hS
  refine lv_iconst (v := 0) X.1 X.2.1 dX2_comeWith_0 (by decide) ?_
  refine lv_istore_n (lv' := [(2, .int 0), (0, .ref (G.1 + 105)), (1, .int x1)]) X.1 X.2.1 dX2_comeWith_1 rfl hl (by decide) rfl (fun ls hl => ?_)
  obtain ⟨f_1, h⟩ := h
  exact B2 f_1 0 S _ (lv_sub hl [1, 2, 0] rfl) h _ _ hP hS

set_option maxHeartbeats 4000000 in
set_option maxRecDepth 100000 in
theorem c_X2_remove (l : Launch) (G : Cx) (x1 : Int32) (S : St) (K : Unit → St → Prop) (h : w_X2_remove x1 S K) : q_Met l yX2_remove cX2_remove 3 none 0 0 G [.ref (G.1 + 105), .int x1] v_v S K := by
  refine q_enter (by decide +kernel) (Nat.le_of_ble_eq_true rfl) (fun p e s m args below meth c ls X hK hP hr hlocks hl => ?_)
  have hS : va_S (fr_ G) s.heap s.heap [] := va_S.rf
  have hl : lv_has ls 3 [(0, .ref (G.1 + 105)), (1, .int x1)] := hl
  have B2 : ∀ (f : Nat) (x2 : Int32) (S : St) (ls : Array Slot), lv_has ls 3 [(0, .ref (G.1 + 105)), (2, .int x2)] → q_it (fun _ _ => False) (w_X2_remove_2 x1 K) f x2 S → q_W p l e (k2_rm 0 0) s m args below meth c 0 0 (MQ below (q_Qc G K v_v) args s 0 0 (fr_ G)) G 2 ls [] S := by
    intro f
    induction f with
    | zero => intro x2 S ls hl h; exact False.elim h
    | succ f hk2 =>
      intro x2 S ls hl h H locs hP hS
      have h : w_X2_remove_2 x1 K (q_it (fun _ _ => False) (w_X2_remove_2 x1 K) f) x2 S := h
      generalize q_it (fun _ _ => False) (w_X2_remove_2 x1 K) f = k2 at h hk2
      refine lv_iload_n X.1 X.2.1 dX2_remove_2 rfl (lv_at hl 1 rfl) ?_
      refine lv_aload_n X.1 X.2.1 dX2_remove_3 rfl (lv_at hl 0 rfl) ?_
      refine gf_X2_size X hK hP tl_X2_18 dX2_remove_4 ?_
      refine lv_iconst (v := 1) X.1 X.2.1 dX2_remove_7 (by decide) ?_
      refine lv_isub X.1 X.2.1 dX2_remove_8 ?_
      refine lv_icmp_ge (tgt := 46) X.1 X.2.1 dX2_remove_9 (by decide) (fun c_1 => ?_) (fun c_1 => ?_)
      · have h := h.1 c_1
        refine lv_aload_n X.1 X.2.1 dX2_remove_46 rfl (lv_at hl 0 rfl) ?_
        refine lv_dup X.1 X.2.1 dX2_remove_47 rfl ?_
        refine gf_X2_size X hK hP tl_X2_18 dX2_remove_48 ?_
        refine lv_iconst (v := 1) X.1 X.2.1 dX2_remove_51 (by decide) ?_
        refine lv_isub X.1 X.2.1 dX2_remove_52 ?_
        refine pf_X2_size X hK hP hS tl_X2_18 dX2_remove_53 (fun S_2 H locs eS_2 hP hS => ?_)
        have h := h S_2 eS_2
        exact q_vret X hr hlocks hP hS h dX2_remove_56
      · have h := h.2 c_1
        refine lv_aload_n X.1 X.2.1 dX2_remove_12 rfl (lv_at hl 0 rfl) ?_
        refine gf_X2_firsts X hK hP tl_X2_9 dX2_remove_13 ?_
        refine lv_iload_n X.1 X.2.1 dX2_remove_16 rfl (lv_at hl 1 rfl) ?_
        refine lv_aload_n X.1 X.2.1 dX2_remove_17 rfl (lv_at hl 0 rfl) ?_
        refine gf_X2_firsts X hK hP tl_X2_9 dX2_remove_18 ?_
        refine lv_iload_n X.1 X.2.1 dX2_remove_21 rfl (lv_at hl 1 rfl) ?_
        refine lv_iconst (v := 1) X.1 X.2.1 dX2_remove_22 (by decide) ?_
        refine lv_iadd X.1 X.2.1 dX2_remove_23 ?_
        obtain ⟨o_3, h⟩ := h
        refine q_iald X hK hP kz_106 o_3 dX2_remove_24 ?_
        obtain ⟨o_4, h⟩ := h
        refine q_iast X hK hP hS kz_106 o_4 dX2_remove_25 (fun S_5 H locs eS_5 hP hS => ?_)
        have h := h S_5 eS_5
        refine lv_aload_n X.1 X.2.1 dX2_remove_26 rfl (lv_at hl 0 rfl) ?_
        refine gf_X2_seconds X hK hP tl_X2_15 dX2_remove_27 ?_
        refine lv_iload_n X.1 X.2.1 dX2_remove_30 rfl (lv_at hl 1 rfl) ?_
        refine lv_aload_n X.1 X.2.1 dX2_remove_31 rfl (lv_at hl 0 rfl) ?_
        refine gf_X2_seconds X hK hP tl_X2_15 dX2_remove_32 ?_
        refine lv_iload_n X.1 X.2.1 dX2_remove_35 rfl (lv_at hl 1 rfl) ?_
        refine lv_iconst (v := 1) X.1 X.2.1 dX2_remove_36 (by decide) ?_
        refine lv_iadd X.1 X.2.1 dX2_remove_37 ?_
        refine q_iald X hK hP kz_107 o_3 dX2_remove_38 ?_
        refine q_iast X hK hP hS kz_107 o_4 dX2_remove_39 (fun S_6 H locs eS_6 hP hS => ?_)
        have h := h S_6 eS_6
        obtain ⟨x2_7, e2_7⟩ : ∃ y : Int32, y = x2 + 1 := ⟨_, rfl⟩
        have h := h x2_7 e2_7
        refine lv_iinc (v := x2_7) (lv' := [(2, .int x2_7), (0, .ref (G.1 + 105))]) X.1 X.2.1 dX2_remove_40 hl (k := 1) rfl (by rw [e2_7]; first | rfl | decide) (by decide) rfl (fun ls hl => ?_)
        refine lv_goto (tgt := 2) X.1 X.2.1 dX2_remove_43 (by decide) ?_
        exact hk2 x2_7 S_6 _ (lv_sub hl [1, 0] rfl) h _ _ hP hS
  refine lv_iload_n X.1 X.2.1 dX2_remove_0 rfl (lv_at hl 1 rfl) ?_
  refine lv_istore_n (lv' := [(2, .int x1), (0, .ref (G.1 + 105)), (1, .int x1)]) X.1 X.2.1 dX2_remove_1 rfl hl (by decide) rfl (fun ls hl => ?_)
  obtain ⟨f_1, h⟩ := h
  exact B2 f_1 x1 S _ (lv_sub hl [1, 0] rfl) h _ _ hP hS

set_option maxHeartbeats 4000000 in
set_option maxRecDepth 100000 in
theorem c_X2_waits (l : Launch) (G : Cx) (x1 : Int32) (x2 : Int32) (S : St) (K : Int32 → St → Prop) (h : w_X2_waits x1 x2 S K) : q_Met l yX2_waits cX2_waits 6 (some .boolean) 1 21 G [.ref (G.1 + 105), .int x1, .int x2] v_i S K := by
  refine q_enter (by decide +kernel) (Nat.le_of_ble_eq_true rfl) (fun p e s m args below meth c ls X hK hP hr hlocks hl => ?_)
  have hS : va_S (fr_ G) s.heap s.heap [] := va_S.rf
  have hl : lv_has ls 6 [(0, .ref (G.1 + 105)), (1, .int x1), (2, .int x2)] := hl
  have B50 : ∀ (x3 : Int32) (x4 : Int32) (x5 : Int32) (k16 : Int32 → St → Prop) (hk16 : ∀ (x5 : Int32) (S : St) (ls : Array Slot), lv_has ls 6 [(0, .ref (G.1 + 105)), (3, .int x3), (4, .int x4), (5, .int x5)] → k16 x5 S → q_W p l e (k2_rm 1 21) s m args below meth c 0 0 (MQ below (q_Qc G K v_i) args s 0 0 (fr_ G)) G 16 ls [] S) (S : St) (ls : Array Slot), lv_has ls 6 [(0, .ref (G.1 + 105)), (3, .int x3), (4, .int x4), (5, .int x5)] → w_X2_waits_50 x1 x2 K k16 x3 x4 x5 S → q_W p l e (k2_rm 1 21) s m args below meth c 0 0 (MQ below (q_Qc G K v_i) args s 0 0 (fr_ G)) G 50 ls [] S := by
    intro x3 x4 x5 k16 hk16 S ls hl h H locs hP hS
    obtain ⟨x5_1, e5_1⟩ : ∃ y : Int32, y = x5 + 1 := ⟨_, rfl⟩
    have h := h x5_1 e5_1
    refine lv_iinc (v := x5_1) (lv' := [(5, .int x5_1), (0, .ref (G.1 + 105)), (3, .int x3), (4, .int x4)]) X.1 X.2.1 dX2_waits_50 hl (k := 3) rfl (by rw [e5_1]; first | rfl | decide) (by decide) rfl (fun ls hl => ?_)
    refine lv_goto (tgt := 16) X.1 X.2.1 dX2_waits_53 (by decide) ?_
    exact hk16 x5_1 S _ (lv_sub hl [1, 2, 3, 0] rfl) h _ _ hP hS
  have B16 : ∀ (x3 : Int32) (x4 : Int32) (f : Nat) (x5 : Int32) (S : St) (ls : Array Slot), lv_has ls 6 [(0, .ref (G.1 + 105)), (3, .int x3), (4, .int x4), (5, .int x5)] → q_it (fun _ _ => False) (w_X2_waits_16 x1 x2 K x3 x4) f x5 S → q_W p l e (k2_rm 1 21) s m args below meth c 0 0 (MQ below (q_Qc G K v_i) args s 0 0 (fr_ G)) G 16 ls [] S := by
    intro x3 x4 f
    induction f with
    | zero => intro x5 S ls hl h; exact False.elim h
    | succ f hk16 =>
      intro x5 S ls hl h H locs hP hS
      have h : w_X2_waits_16 x1 x2 K x3 x4 (q_it (fun _ _ => False) (w_X2_waits_16 x1 x2 K x3 x4) f) x5 S := h
      generalize q_it (fun _ _ => False) (w_X2_waits_16 x1 x2 K x3 x4) f = k16 at h hk16
      refine lv_iload X.1 X.2.1 dX2_waits_16 (lv_at hl 3 rfl) ?_
      refine lv_aload_n X.1 X.2.1 dX2_waits_18 rfl (lv_at hl 0 rfl) ?_
      refine gf_X2_size X hK hP tl_X2_18 dX2_waits_19 ?_
      refine lv_icmp_ge (tgt := 56) X.1 X.2.1 dX2_waits_22 (by decide) (fun c_1 => ?_) (fun c_1 => ?_)
      · have h := h.1 c_1
        refine lv_iconst (v := 0) X.1 X.2.1 dX2_waits_56 (by decide) ?_
        exact q_iret X hr hlocks hP hS rfl h dX2_waits_57
      · have h := h.2 c_1
        refine lv_aload_n X.1 X.2.1 dX2_waits_25 rfl (lv_at hl 0 rfl) ?_
        refine gf_X2_firsts X hK hP tl_X2_9 dX2_waits_26 ?_
        refine lv_iload X.1 X.2.1 dX2_waits_29 (lv_at hl 3 rfl) ?_
        obtain ⟨o_2, h⟩ := h
        refine q_iald X hK hP kz_106 o_2 dX2_waits_31 ?_
        refine lv_iload_n X.1 X.2.1 dX2_waits_32 rfl (lv_at hl 1 rfl) ?_
        refine lv_icmp_ne (tgt := 50) X.1 X.2.1 dX2_waits_33 (by decide) (fun c_3 => ?_) (fun c_3 => ?_)
        · have h := h.1 c_3
          exact B50 x3 x4 x5 k16 hk16 S _ (lv_sub hl [0, 1, 2, 3] rfl) h _ _ hP hS
        · have h := h.2 c_3
          refine lv_aload_n X.1 X.2.1 dX2_waits_36 rfl (lv_at hl 0 rfl) ?_
          refine gf_X2_seconds X hK hP tl_X2_15 dX2_waits_37 ?_
          refine lv_iload X.1 X.2.1 dX2_waits_40 (lv_at hl 3 rfl) ?_
          refine q_iald X hK hP kz_107 o_2 dX2_waits_42 ?_
          refine lv_iload X.1 X.2.1 dX2_waits_43 (lv_at hl 2 rfl) ?_
          refine lv_icmp_ne (tgt := 50) X.1 X.2.1 dX2_waits_45 (by decide) (fun c_4 => ?_) (fun c_4 => ?_)
          · have h := h.1 c_4
            exact B50 x3 x4 x5 k16 hk16 S _ (lv_sub hl [0, 1, 2, 3] rfl) h _ _ hP hS
          · have h := h.2 c_4
            refine lv_iconst (v := 1) X.1 X.2.1 dX2_waits_48 (by decide) ?_
            exact q_iret X hr hlocks hP hS rfl h dX2_waits_49
  refine lv_iload_n X.1 X.2.1 dX2_waits_0 rfl (lv_at hl 1 rfl) ?_
  refine lv_iload_n X.1 X.2.1 dX2_waits_1 rfl (lv_at hl 2 rfl) ?_
  refine q_callS (rest := []) X hK hP hS (c_J9_min_7cf53 l G x1 x2 S _ h) my_J9_min_7cf53 tl_X2_22 dX2_waits_2 rfl ⟨Nat.le_of_ble_eq_true rfl, Nat.le_of_ble_eq_true rfl⟩ hl.1 rfl (Nat.le_of_ble_eq_true rfl) ⟨Nat.le_of_ble_eq_true rfl, Nat.le_of_ble_eq_true rfl⟩ (fun r_2 S_1 H locs h hP hS => ?_)
  refine W.eq (g2 := F0 m 5 ls [.int r_2]) rfl ?_
  refine lv_istore_n (lv' := [(3, .int r_2), (0, .ref (G.1 + 105)), (1, .int x1), (2, .int x2)]) X.1 X.2.1 dX2_waits_5 rfl hl (by decide) rfl (fun ls hl => ?_)
  refine lv_iload_n X.1 X.2.1 dX2_waits_6 rfl (lv_at hl 2 rfl) ?_
  refine lv_iload_n X.1 X.2.1 dX2_waits_7 rfl (lv_at hl 3 rfl) ?_
  refine q_callS (rest := []) X hK hP hS (c_J9_max_7cf53 l G x1 x2 S_1 _ h) my_J9_max_7cf53 tl_X2_28 dX2_waits_8 rfl ⟨Nat.le_of_ble_eq_true rfl, Nat.le_of_ble_eq_true rfl⟩ hl.1 rfl (Nat.le_of_ble_eq_true rfl) ⟨Nat.le_of_ble_eq_true rfl, Nat.le_of_ble_eq_true rfl⟩ (fun r_4 S_3 H locs h hP hS => ?_)
  refine W.eq (g2 := F0 m 11 ls [.int r_4]) rfl ?_
  refine lv_istore (lv' := [(4, .int r_4), (3, .int r_2), (0, .ref (G.1 + 105)), (1, .int x1), (2, .int x2)]) X.1 X.2.1 dX2_waits_11 hl (by decide) rfl (fun ls hl => ?_)
  refine lv_iconst (v := 0) X.1 X.2.1 dX2_waits_13 (by decide) ?_
  refine lv_istore (lv' := [(5, .int 0), (4, .int r_4), (3, .int r_2), (0, .ref (G.1 + 105)), (1, .int x1), (2, .int x2)]) X.1 X.2.1 dX2_waits_14 hl (by decide) rfl (fun ls hl => ?_)
  obtain ⟨f_5, h⟩ := h
  exact B16 r_2 r_4 f_5 0 S_3 _ (lv_sub hl [3, 2, 1, 0] rfl) h _ _ hP hS
