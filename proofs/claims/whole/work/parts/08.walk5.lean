set_option maxHeartbeats 4000000 in
set_option maxRecDepth 100000 in
theorem c_X9_in (l : Launch) (G : Cx) (x0 : Int32) (x1 : Int32) (x2 : Int32) (S : St) (K : Int32 → St → Prop) (h : w_X9_in x0 x1 x2 S K) : q_Met l yX9_in cX9_in 3 (some .boolean) 0 0 G [.int x0, .int x1, .int x2] v_i S K := by
  refine q_enter (by decide +kernel) (Nat.le_of_ble_eq_true rfl) (fun p e s m args below meth c ls X hK hP hr hlocks hl => ?_)
  have hS : va_S (fr_ G) s.heap s.heap [] := va_S.rf
  have hl : lv_has ls 3 [(0, .int x0), (1, .int x1), (2, .int x2)] := hl
  have B14 : ∀ (S : St) (ls : Array Slot), lv_has ls 3 [] → w_X9_in_14 x0 x1 x2 K S → q_W p l e (k2_rm 0 0) s m args below meth c 0 0 (MQ below (q_Qc G K v_i) args s 0 0 (fr_ G)) G 14 ls [] S := by
    intro S ls hl h H locs hP hS
    refine lv_iconst (v := 0) X.1 X.2.1 dX9_in_14 (by decide) ?_
    exact q_iret X hr hlocks hP hS rfl h dX9_in_15
  refine lv_iload_n X.1 X.2.1 dX9_in_0 rfl (lv_at hl 0 rfl) ?_
  refine lv_iload_n X.1 X.2.1 dX9_in_1 rfl (lv_at hl 1 rfl) ?_
  refine lv_icmp_lt (tgt := 14) X.1 X.2.1 dX9_in_2 (by decide) (fun c_1 => ?_) (fun c_1 => ?_)
  · have h := h.1 c_1
    exact B14 S _ (lv_sub hl [] rfl) h _ _ hP hS
  · have h := h.2 c_1
    refine lv_iload_n X.1 X.2.1 dX9_in_5 rfl (lv_at hl 0 rfl) ?_
    refine lv_iload_n X.1 X.2.1 dX9_in_6 rfl (lv_at hl 2 rfl) ?_
    refine lv_icmp_gt (tgt := 14) X.1 X.2.1 dX9_in_7 (by decide) (fun c_2 => ?_) (fun c_2 => ?_)
    · have h := h.1 c_2
      exact B14 S _ (lv_sub hl [] rfl) h _ _ hP hS
    · have h := h.2 c_2
      refine lv_iconst (v := 1) X.1 X.2.1 dX9_in_10 (by decide) ?_
      refine lv_goto (tgt := 15) X.1 X.2.1 dX9_in_11 (by decide) ?_
      exact q_iret X hr hlocks hP hS rfl h dX9_in_15

set_option maxHeartbeats 4000000 in
set_option maxRecDepth 100000 in
theorem c_X9_isPrime (l : Launch) (G : Cx) (x0 : Int32) (S : St) (K : Int32 → St → Prop) (h : w_X9_isPrime x0 S K) : q_Met l yX9_isPrime cX9_isPrime 2 (some .boolean) 1 22 G [.int x0] v_i S K := by
  refine q_enter (by decide +kernel) (Nat.le_of_ble_eq_true rfl) (fun p e s m args below meth c ls X hK hP hr hlocks hl => ?_)
  have hS : va_S (fr_ G) s.heap s.heap [] := va_S.rf
  have hl : lv_has ls 2 [(0, .int x0)] := hl
  have B15 : ∀ (f : Nat) (x1 : Int32) (S : St) (ls : Array Slot), lv_has ls 2 [(0, .int x0), (1, .int x1)] → q_it (fun _ _ => False) (w_X9_isPrime_15 x0 K) f x1 S → q_W p l e (k2_rm 1 22) s m args below meth c 0 0 (MQ below (q_Qc G K v_i) args s 0 0 (fr_ G)) G 15 ls [] S := by
    intro f
    induction f with
    | zero => intro x1 S ls hl h; exact False.elim h
    | succ f hk15 =>
      intro x1 S ls hl h H locs hP hS
      have h : w_X9_isPrime_15 x0 K (q_it (fun _ _ => False) (w_X9_isPrime_15 x0 K) f) x1 S := h
      generalize q_it (fun _ _ => False) (w_X9_isPrime_15 x0 K) f = k15 at h hk15
      refine lv_iload_n X.1 X.2.1 dX9_isPrime_15 rfl (lv_at hl 1 rfl) ?_
      refine lv_iload_n X.1 X.2.1 dX9_isPrime_16 rfl (lv_at hl 1 rfl) ?_
      refine lv_imul X.1 X.2.1 dX9_isPrime_17 ?_
      refine lv_iload_n X.1 X.2.1 dX9_isPrime_18 rfl (lv_at hl 0 rfl) ?_
      refine lv_icmp_gt (tgt := 36) X.1 X.2.1 dX9_isPrime_19 (by decide) (fun c_1 => ?_) (fun c_1 => ?_)
      · have h := h.1 c_1
        refine lv_iconst (v := 1) X.1 X.2.1 dX9_isPrime_36 (by decide) ?_
        exact q_iret X hr hlocks hP hS rfl h dX9_isPrime_37
      · have h := h.2 c_1
        refine lv_iload_n X.1 X.2.1 dX9_isPrime_22 rfl (lv_at hl 0 rfl) ?_
        refine lv_iload_n X.1 X.2.1 dX9_isPrime_23 rfl (lv_at hl 1 rfl) ?_
        obtain ⟨o_2, h⟩ := h
        refine lv_irem X.1 X.2.1 dX9_isPrime_24 o_2 ?_
        refine lv_if_ne (tgt := 30) X.1 X.2.1 dX9_isPrime_25 (by decide) (fun c_3 => ?_) (fun c_3 => ?_)
        · have h := h.1 c_3
          obtain ⟨x1_4, e1_4⟩ : ∃ y : Int32, y = x1 + 1 := ⟨_, rfl⟩
          have h := h x1_4 e1_4
          refine lv_iinc (v := x1_4) (lv' := [(1, .int x1_4), (0, .int x0)]) X.1 X.2.1 dX9_isPrime_30 hl (k := 1) rfl (by rw [e1_4]; first | rfl | decide) (by decide) rfl (fun ls hl => ?_)
          refine lv_goto (tgt := 15) X.1 X.2.1 dX9_isPrime_33 (by decide) ?_
          exact hk15 x1_4 S _ (lv_sub hl [1, 0] rfl) h _ _ hP hS
        · have h := h.2 c_3
          refine lv_iconst (v := 0) X.1 X.2.1 dX9_isPrime_28 (by decide) ?_
          exact q_iret X hr hlocks hP hS rfl h dX9_isPrime_29
  refine lv_iload_n X.1 X.2.1 dX9_isPrime_0 rfl (lv_at hl 0 rfl) ?_
  refine lv_iconst (v := 2) X.1 X.2.1 dX9_isPrime_1 (by decide) ?_
  refine lv_sipush (v := 251) X.1 X.2.1 dX9_isPrime_2 (by decide) ?_
  refine q_callS (rest := []) X hK hP hS (c_X9_in l G x0 2 251 S _ h) my_X9_in tl_X9_78 dX9_isPrime_5 rfl ⟨Nat.le_of_ble_eq_true rfl, Nat.le_of_ble_eq_true rfl⟩ hl.1 rfl (Nat.le_of_ble_eq_true rfl) ⟨Nat.le_of_ble_eq_true rfl, Nat.le_of_ble_eq_true rfl⟩ (fun r_2 S_1 H locs h hP hS => ?_)
  refine W.eq (g2 := F0 m 8 ls [.int r_2]) rfl ?_
  refine lv_if_ne (tgt := 13) X.1 X.2.1 dX9_isPrime_8 (by decide) (fun c_3 => ?_) (fun c_3 => ?_)
  · have h := h.1 c_3
    refine lv_iconst (v := 2) X.1 X.2.1 dX9_isPrime_13 (by decide) ?_
    refine lv_istore_n (lv' := [(1, .int 2), (0, .int x0)]) X.1 X.2.1 dX9_isPrime_14 rfl hl (by decide) rfl (fun ls hl => ?_)
    obtain ⟨f_4, h⟩ := h
    exact B15 f_4 2 S_1 _ (lv_sub hl [1, 0] rfl) h _ _ hP hS
  · have h := h.2 c_3
    refine lv_iconst (v := 0) X.1 X.2.1 dX9_isPrime_11 (by decide) ?_
    exact q_iret X hr hlocks hP hS rfl h dX9_isPrime_12

set_option maxHeartbeats 4000000 in
set_option maxRecDepth 100000 in
theorem c_X9_rest (l : Launch) (G : Cx) (y1 : Int64) (S : St) (K : Int32 → St → Prop) (h : w_X9_rest y1 S K) : q_Met l yX9_rest cX9_rest 4 (some .int) 0 0 G [.ref (G.1 + 224), .long y1] v_i S K := by
  refine q_enter (by decide +kernel) (Nat.le_of_ble_eq_true rfl) (fun p e s m args below meth c ls X hK hP hr hlocks hl => ?_)
  have hS : va_S (fr_ G) s.heap s.heap [] := va_S.rf
  have hl : lv_has ls 4 [(0, .ref (G.1 + 224)), (1, .long y1)] := hl
  refine lv_lload_n X.1 X.2.1 dX9_rest_0 rfl (lv_at hl 1 rfl) ?_
  refine lv_aload_n X.1 X.2.1 dX9_rest_1 rfl (lv_at hl 0 rfl) ?_
  refine gf_X9_p X hK hP tl_X9_72 dX9_rest_2 ?_
  refine lv_i2l X.1 X.2.1 dX9_rest_5 rfl ?_
  obtain ⟨o_1, h⟩ := h
  refine lv_lrem X.1 X.2.1 dX9_rest_6 o_1 ?_
  refine lv_l2i X.1 X.2.1 dX9_rest_7 rfl ?_
  refine lv_topi (fun x3_2 e3_2 => ?_)
  have h := h x3_2 e3_2
  refine lv_istore_n (lv' := [(3, .int x3_2), (0, .ref (G.1 + 224)), (1, .long y1)]) X.1 X.2.1 dX9_rest_8 rfl hl (by decide) rfl (fun ls hl => ?_)
  refine lv_iload_n X.1 X.2.1 dX9_rest_9 rfl (lv_at hl 0 rfl) ?_
  refine lv_if_ge (tgt := 22) X.1 X.2.1 dX9_rest_10 (by decide) (fun c_3 => ?_) (fun c_3 => ?_)
  · have h := h.1 c_3
    refine lv_iload_n X.1 X.2.1 dX9_rest_22 rfl (lv_at hl 0 rfl) ?_
    exact q_iret X hr hlocks hP hS rfl h dX9_rest_23
  · have h := h.2 c_3
    refine lv_iload_n X.1 X.2.1 dX9_rest_13 rfl (lv_at hl 0 rfl) ?_
    refine lv_aload_n X.1 X.2.1 dX9_rest_14 rfl (lv_at hl 1 rfl) ?_
    refine gf_X9_p X hK hP tl_X9_72 dX9_rest_15 ?_
    refine lv_iadd X.1 X.2.1 dX9_rest_18 ?_
    refine lv_goto (tgt := 23) X.1 X.2.1 dX9_rest_19 (by decide) ?_
    exact q_iret X hr hlocks hP hS rfl h dX9_rest_23

set_option maxHeartbeats 4000000 in
set_option maxRecDepth 100000 in
theorem c_X9_inverse (l : Launch) (G : Cx) (x1 : Int32) (S : St) (K : Int32 → St → Prop) (h : w_X9_inverse x1 S K) : q_Met l yX9_inverse cX9_inverse 3 (some .int) 0 0 G [.ref (G.1 + 224), .int x1] v_i S K := by
  refine q_enter (by decide +kernel) (Nat.le_of_ble_eq_true rfl) (fun p e s m args below meth c ls X hK hP hr hlocks hl => ?_)
  have hS : va_S (fr_ G) s.heap s.heap [] := va_S.rf
  have hl : lv_has ls 3 [(0, .ref (G.1 + 224)), (1, .int x1)] := hl
  have B2 : ∀ (f : Nat) (x2 : Int32) (S : St) (ls : Array Slot), lv_has ls 3 [(0, .ref (G.1 + 224)), (1, .int x1), (2, .int x2)] → q_it (fun _ _ => False) (w_X9_inverse_2 x1 K) f x2 S → q_W p l e (k2_rm 0 0) s m args below meth c 0 0 (MQ below (q_Qc G K v_i) args s 0 0 (fr_ G)) G 2 ls [] S := by
    intro f
    induction f with
    | zero => intro x2 S ls hl h; exact False.elim h
    | succ f hk2 =>
      intro x2 S ls hl h H locs hP hS
      have h : w_X9_inverse_2 x1 K (q_it (fun _ _ => False) (w_X9_inverse_2 x1 K) f) x2 S := h
      generalize q_it (fun _ _ => False) (w_X9_inverse_2 x1 K) f = k2 at h hk2
      refine lv_iload_n X.1 X.2.1 dX9_inverse_2 rfl (lv_at hl 2 rfl) ?_
      refine lv_iload_n X.1 X.2.1 dX9_inverse_3 rfl (lv_at hl 1 rfl) ?_
      refine lv_imul X.1 X.2.1 dX9_inverse_4 ?_
      refine lv_aload_n X.1 X.2.1 dX9_inverse_5 rfl (lv_at hl 0 rfl) ?_
      refine gf_X9_p X hK hP tl_X9_72 dX9_inverse_6 ?_
      obtain ⟨o_1, h⟩ := h
      refine lv_irem X.1 X.2.1 dX9_inverse_9 o_1 ?_
      refine lv_iconst (v := 1) X.1 X.2.1 dX9_inverse_10 (by decide) ?_
      refine lv_icmp_eq (tgt := 20) X.1 X.2.1 dX9_inverse_11 (by decide) (fun c_2 => ?_) (fun c_2 => ?_)
      · have h := h.1 c_2
        refine lv_iload_n X.1 X.2.1 dX9_inverse_20 rfl (lv_at hl 2 rfl) ?_
        exact q_iret X hr hlocks hP hS rfl h dX9_inverse_21
      · have h := h.2 c_2
        obtain ⟨x2_3, e2_3⟩ : ∃ y : Int32, y = x2 + 1 := ⟨_, rfl⟩
        have h := h x2_3 e2_3
        refine lv_iinc (v := x2_3) (lv' := [(2, .int x2_3), (0, .ref (G.1 + 224)), (1, .int x1)]) X.1 X.2.1 dX9_inverse_14 hl (k := 2) rfl (by rw [e2_3]; first | rfl | decide) (by decide) rfl (fun ls hl => ?_)
        refine lv_goto (tgt := 2) X.1 X.2.1 dX9_inverse_17 (by decide) ?_
        exact hk2 x2_3 S _ (lv_sub hl [1, 2, 0] rfl) h _ _ hP hS
  refine lv_iconst (v := 1) X.1 X.2.1 dX9_inverse_0 (by decide) ?_
  refine lv_istore_n (lv' := [(2, .int 1), (0, .ref (G.1 + 224)), (1, .int x1)]) X.1 X.2.1 dX9_inverse_1 rfl hl (by decide) rfl (fun ls hl => ?_)
  obtain ⟨f_1, h⟩ := h
  exact B2 f_1 1 S _ (lv_sub hl [1, 2, 0] rfl) h _ _ hP hS

set_option maxHeartbeats 4000000 in
set_option maxRecDepth 100000 in
theorem c_X9_reversed (l : Launch) (G : Cx) (q0 : Nat) (x1 : Int32) (q2 : Nat) (x3 : Int32) (x4 : Int32) (x5 : Int32) (S : St) (K : Int32 → St → Prop) (hq0 : isI q0) (hq2 : isI q2) (h : w_X9_reversed q0 x1 q2 x3 x4 x5 S K) : q_Met l yX9_reversed cX9_reversed 8 (some .int) 0 0 G [.ref (G.1 + q0), .int x1, .ref (G.1 + q2), .int x3, .int x4, .int x5] v_i S K := by
  refine q_enter (by decide +kernel) (Nat.le_of_ble_eq_true rfl) (fun p e s m args below meth c ls X hK hP hr hlocks hl => ?_)
  have hS : va_S (fr_ G) s.heap s.heap [] := va_S.rf
  have hl : lv_has ls 8 [(0, .ref (G.1 + q0)), (1, .int x1), (2, .ref (G.1 + q2)), (3, .int x3), (4, .int x4), (5, .int x5)] := hl
  have B60 : ∀ (f : Nat) (x7 : Int32) (S : St) (ls : Array Slot), lv_has ls 8 [(0, .ref (G.1 + q0)), (1, .int x1), (2, .ref (G.1 + q2)), (3, .int x3), (4, .int x4), (7, .int x7)] → q_it (fun _ _ => False) (w_X9_reversed_60 q0 x1 q2 x3 x4 x5 K) f x7 S → q_W p l e (k2_rm 0 0) s m args below meth c 0 0 (MQ below (q_Qc G K v_i) args s 0 0 (fr_ G)) G 60 ls [] S := by
    intro f
    induction f with
    | zero => intro x7 S ls hl h; exact False.elim h
    | succ f hk60 =>
      intro x7 S ls hl h H locs hP hS
      have h : w_X9_reversed_60 q0 x1 q2 x3 x4 x5 K (q_it (fun _ _ => False) (w_X9_reversed_60 q0 x1 q2 x3 x4 x5 K) f) x7 S := h
      generalize q_it (fun _ _ => False) (w_X9_reversed_60 q0 x1 q2 x3 x4 x5 K) f = k60 at h hk60
      refine lv_iload X.1 X.2.1 dX9_reversed_60 (lv_at hl 5 rfl) ?_
      refine lv_iload X.1 X.2.1 dX9_reversed_62 (lv_at hl 4 rfl) ?_
      refine lv_icmp_lt (tgt := 109) X.1 X.2.1 dX9_reversed_64 (by decide) (fun c_1 => ?_) (fun c_1 => ?_)
      · have h := h.1 c_1
        refine lv_iconst (v := 0) X.1 X.2.1 dX9_reversed_109 (by decide) ?_
        exact q_iret X hr hlocks hP hS rfl h dX9_reversed_110
      · have h := h.2 c_1
        refine lv_aload_n X.1 X.2.1 dX9_reversed_67 rfl (lv_at hl 0 rfl) ?_
        refine lv_iload_n X.1 X.2.1 dX9_reversed_68 rfl (lv_at hl 1 rfl) ?_
        refine lv_iload X.1 X.2.1 dX9_reversed_69 (lv_at hl 5 rfl) ?_
        refine lv_iadd X.1 X.2.1 dX9_reversed_71 ?_
        obtain ⟨o_2, h⟩ := h
        refine q_iald X hK hP ⟨hq0.1, isI_kd hq0⟩ o_2 dX9_reversed_72 ?_
        refine lv_aload_n X.1 X.2.1 dX9_reversed_73 rfl (lv_at hl 2 rfl) ?_
        refine lv_iload_n X.1 X.2.1 dX9_reversed_74 rfl (lv_at hl 3 rfl) ?_
        refine lv_iload X.1 X.2.1 dX9_reversed_75 (lv_at hl 5 rfl) ?_
        refine lv_iadd X.1 X.2.1 dX9_reversed_77 ?_
        obtain ⟨o_3, h⟩ := h
        refine q_iald X hK hP ⟨hq2.1, isI_kd hq2⟩ o_3 dX9_reversed_78 ?_
        refine lv_icmp_eq (tgt := 103) X.1 X.2.1 dX9_reversed_79 (by decide) (fun c_4 => ?_) (fun c_4 => ?_)
        · have h := h.1 c_4
          obtain ⟨x7_5, e7_5⟩ : ∃ y : Int32, y = x7 + (-1) := ⟨_, rfl⟩
          have h := h x7_5 e7_5
          refine lv_iinc (v := x7_5) (lv' := [(7, .int x7_5), (0, .ref (G.1 + q0)), (1, .int x1), (2, .ref (G.1 + q2)), (3, .int x3), (4, .int x4)]) X.1 X.2.1 dX9_reversed_103 hl (k := 5) rfl (by rw [e7_5]; first | rfl | decide) (by decide) rfl (fun ls hl => ?_)
          refine lv_goto (tgt := 60) X.1 X.2.1 dX9_reversed_106 (by decide) ?_
          exact hk60 x7_5 S _ (lv_sub hl [1, 2, 3, 4, 5, 0] rfl) h _ _ hP hS
        · have h := h.2 c_4
          refine lv_aload_n X.1 X.2.1 dX9_reversed_82 rfl (lv_at hl 0 rfl) ?_
          refine lv_iload_n X.1 X.2.1 dX9_reversed_83 rfl (lv_at hl 1 rfl) ?_
          refine lv_iload X.1 X.2.1 dX9_reversed_84 (lv_at hl 5 rfl) ?_
          refine lv_iadd X.1 X.2.1 dX9_reversed_86 ?_
          refine q_iald X hK hP ⟨hq0.1, isI_kd hq0⟩ o_2 dX9_reversed_87 ?_
          refine lv_aload_n X.1 X.2.1 dX9_reversed_88 rfl (lv_at hl 2 rfl) ?_
          refine lv_iload_n X.1 X.2.1 dX9_reversed_89 rfl (lv_at hl 3 rfl) ?_
          refine lv_iload X.1 X.2.1 dX9_reversed_90 (lv_at hl 5 rfl) ?_
          refine lv_iadd X.1 X.2.1 dX9_reversed_92 ?_
          refine q_iald X hK hP ⟨hq2.1, isI_kd hq2⟩ o_3 dX9_reversed_93 ?_
          refine lv_icmp_ge (tgt := 101) X.1 X.2.1 dX9_reversed_94 (by decide) (fun c_6 => ?_) (fun c_6 => ?_)
          · have h := h.1 c_6
            refine lv_iconst (v := (-1)) X.1 X.2.1 dX9_reversed_101 (by decide) ?_
            exact q_iret X hr hlocks hP hS rfl h dX9_reversed_102
          · have h := h.2 c_6
            refine lv_iconst (v := 1) X.1 X.2.1 dX9_reversed_97 (by decide) ?_
            refine lv_goto (tgt := 102) X.1 X.2.1 dX9_reversed_98 (by decide) ?_
            exact q_iret X hr hlocks hP hS rfl h dX9_reversed_102
  have B7 : ∀ (f : Nat) (x6 : Int32) (x7 : Int32) (S : St) (ls : Array Slot), lv_has ls 8 [(0, .ref (G.1 + q0)), (1, .int x1), (2, .ref (G.1 + q2)), (3, .int x3), (4, .int x4), (5, .int x5), (6, .int x6), (7, .int x7)] → q_it (fun _ _ _ => False) (w_X9_reversed_7 q0 x1 q2 x3 x4 x5 K) f x6 x7 S → q_W p l e (k2_rm 0 0) s m args below meth c 0 0 (MQ below (q_Qc G K v_i) args s 0 0 (fr_ G)) G 7 ls [] S := by
    intro f
    induction f with
    | zero => intro x6 x7 S ls hl h; exact False.elim h
    | succ f hk7 =>
      intro x6 x7 S ls hl h H locs hP hS
      have h : w_X9_reversed_7 q0 x1 q2 x3 x4 x5 K (q_it (fun _ _ _ => False) (w_X9_reversed_7 q0 x1 q2 x3 x4 x5 K) f) x6 x7 S := h
      generalize q_it (fun _ _ _ => False) (w_X9_reversed_7 q0 x1 q2 x3 x4 x5 K) f = k7 at h hk7
      refine lv_iload X.1 X.2.1 dX9_reversed_7 (lv_at hl 7 rfl) ?_
      refine lv_iload X.1 X.2.1 dX9_reversed_9 (lv_at hl 5 rfl) ?_
      refine lv_icmp_ge (tgt := 38) X.1 X.2.1 dX9_reversed_11 (by decide) (fun c_1 => ?_) (fun c_1 => ?_)
      · have h := h.1 c_1
        refine lv_iload X.1 X.2.1 dX9_reversed_38 (lv_at hl 6 rfl) ?_
        refine lv_if_eq (tgt := 54) X.1 X.2.1 dX9_reversed_40 (by decide) (fun c_2 => ?_) (fun c_2 => ?_)
        · have h := h.1 c_2
          refine lv_iload X.1 X.2.1 dX9_reversed_54 (lv_at hl 5 rfl) ?_
          refine lv_iconst (v := 1) X.1 X.2.1 dX9_reversed_56 (by decide) ?_
          refine lv_isub X.1 X.2.1 dX9_reversed_57 ?_
          refine lv_topi (fun x7_3 e7_3 => ?_)
          have h := h x7_3 e7_3
          refine lv_istore (lv' := [(7, .int x7_3), (0, .ref (G.1 + q0)), (1, .int x1), (2, .ref (G.1 + q2)), (3, .int x3), (4, .int x4), (5, .int x5), (6, .int x6)]) X.1 X.2.1 dX9_reversed_58 hl (by decide) rfl (fun ls hl => ?_)
          obtain ⟨f_4, h⟩ := h
          exact B60 f_4 x7_3 S _ (lv_sub hl [1, 2, 3, 4, 5, 0] rfl) h _ _ hP hS
        · have h := h.2 c_2
          refine lv_iload X.1 X.2.1 dX9_reversed_43 (lv_at hl 6 rfl) ?_
          refine lv_if_ge (tgt := 52) X.1 X.2.1 dX9_reversed_45 (by decide) (fun c_5 => ?_) (fun c_5 => ?_)
          · have h := h.1 c_5
            refine lv_iconst (v := 1) X.1 X.2.1 dX9_reversed_52 (by decide) ?_
            exact q_iret X hr hlocks hP hS rfl h dX9_reversed_53
          · have h := h.2 c_5
            refine lv_iconst (v := (-1)) X.1 X.2.1 dX9_reversed_48 (by decide) ?_
            refine lv_goto (tgt := 53) X.1 X.2.1 dX9_reversed_49 (by decide) ?_
            exact q_iret X hr hlocks hP hS rfl h dX9_reversed_53
      · have h := h.2 c_1
        refine lv_iload X.1 X.2.1 dX9_reversed_14 (lv_at hl 6 rfl) ?_
        refine lv_aload_n X.1 X.2.1 dX9_reversed_16 rfl (lv_at hl 0 rfl) ?_
        refine lv_iload_n X.1 X.2.1 dX9_reversed_17 rfl (lv_at hl 1 rfl) ?_
        refine lv_iload X.1 X.2.1 dX9_reversed_18 (lv_at hl 7 rfl) ?_
        refine lv_iadd X.1 X.2.1 dX9_reversed_20 ?_
        obtain ⟨o_6, h⟩ := h
        refine q_iald X hK hP ⟨hq0.1, isI_kd hq0⟩ o_6 dX9_reversed_21 ?_
        refine lv_aload_n X.1 X.2.1 dX9_reversed_22 rfl (lv_at hl 2 rfl) ?_
        refine lv_iload_n X.1 X.2.1 dX9_reversed_23 rfl (lv_at hl 3 rfl) ?_
        refine lv_iload X.1 X.2.1 dX9_reversed_24 (lv_at hl 7 rfl) ?_
        refine lv_iadd X.1 X.2.1 dX9_reversed_26 ?_
        obtain ⟨o_7, h⟩ := h
        refine q_iald X hK hP ⟨hq2.1, isI_kd hq2⟩ o_7 dX9_reversed_27 ?_
        refine lv_isub X.1 X.2.1 dX9_reversed_28 ?_
        refine lv_iadd X.1 X.2.1 dX9_reversed_29 ?_
        refine lv_topi (fun x6_8 e6_8 => ?_)
        have h := h x6_8 e6_8
        refine lv_istore (lv' := [(6, .int x6_8), (0, .ref (G.1 + q0)), (1, .int x1), (2, .ref (G.1 + q2)), (3, .int x3), (4, .int x4), (5, .int x5), (7, .int x7)]) X.1 X.2.1 dX9_reversed_30 hl (by decide) rfl (fun ls hl => ?_)
        obtain ⟨x7_9, e7_9⟩ : ∃ y : Int32, y = x7 + 1 := ⟨_, rfl⟩
        have h := h x7_9 e7_9
        refine lv_iinc (v := x7_9) (lv' := [(7, .int x7_9), (6, .int x6_8), (0, .ref (G.1 + q0)), (1, .int x1), (2, .ref (G.1 + q2)), (3, .int x3), (4, .int x4), (5, .int x5)]) X.1 X.2.1 dX9_reversed_32 hl (k := 7) rfl (by rw [e7_9]; first | rfl | decide) (by decide) rfl (fun ls hl => ?_)
        refine lv_goto (tgt := 7) X.1 X.2.1 dX9_reversed_35 (by decide) ?_
        exact hk7 x6_8 x7_9 S _ (lv_sub hl [2, 3, 4, 5, 6, 7, 1, 0] rfl) h _ _ hP hS
  refine lv_iconst (v := 0) X.1 X.2.1 dX9_reversed_0 (by decide) ?_
  refine lv_istore (lv' := [(6, .int 0), (0, .ref (G.1 + q0)), (1, .int x1), (2, .ref (G.1 + q2)), (3, .int x3), (4, .int x4), (5, .int x5)]) X.1 X.2.1 dX9_reversed_1 hl (by decide) rfl (fun ls hl => ?_)
  refine lv_iload X.1 X.2.1 dX9_reversed_3 (lv_at hl 5 rfl) ?_
  refine lv_istore (lv' := [(7, .int x4), (6, .int 0), (0, .ref (G.1 + q0)), (1, .int x1), (2, .ref (G.1 + q2)), (3, .int x3), (4, .int x4), (5, .int x5)]) X.1 X.2.1 dX9_reversed_5 hl (by decide) rfl (fun ls hl => ?_)
  obtain ⟨f_1, h⟩ := h
  exact B7 f_1 0 x4 S _ (lv_sub hl [2, 3, 4, 5, 6, 7, 1, 0] rfl) h _ _ hP hS

set_option maxHeartbeats 4000000 in
set_option maxRecDepth 100000 in
theorem c_X9_lexed (l : Launch) (G : Cx) (q0 : Nat) (x1 : Int32) (q2 : Nat) (x3 : Int32) (S : St) (K : Int32 → St → Prop) (hq0 : isI q0) (hq2 : isI q2) (h : w_X9_lexed q0 x1 q2 x3 S K) : q_Met l yX9_lexed cX9_lexed 5 (some .int) 0 0 G [.ref (G.1 + q0), .int x1, .ref (G.1 + q2), .int x3] v_i S K := by
  refine q_enter (by decide +kernel) (Nat.le_of_ble_eq_true rfl) (fun p e s m args below meth c ls X hK hP hr hlocks hl => ?_)
  have hS : va_S (fr_ G) s.heap s.heap [] := va_S.rf
  have hl : lv_has ls 5 [(0, .ref (G.1 + q0)), (1, .int x1), (2, .ref (G.1 + q2)), (3, .int x3)] := hl
  have B3 : ∀ (f : Nat) (x4 : Int32) (S : St) (ls : Array Slot), lv_has ls 5 [(0, .ref (G.1 + q0)), (1, .int x1), (2, .ref (G.1 + q2)), (3, .int x3), (4, .int x4)] → q_it (fun _ _ => False) (w_X9_lexed_3 q0 x1 q2 x3 K) f x4 S → q_W p l e (k2_rm 0 0) s m args below meth c 0 0 (MQ below (q_Qc G K v_i) args s 0 0 (fr_ G)) G 3 ls [] S := by
    intro f
    induction f with
    | zero => intro x4 S ls hl h; exact False.elim h
    | succ f hk3 =>
      intro x4 S ls hl h H locs hP hS
      have h : w_X9_lexed_3 q0 x1 q2 x3 K (q_it (fun _ _ => False) (w_X9_lexed_3 q0 x1 q2 x3 K) f) x4 S := h
      generalize q_it (fun _ _ => False) (w_X9_lexed_3 q0 x1 q2 x3 K) f = k3 at h hk3
      refine lv_iload X.1 X.2.1 dX9_lexed_3 (lv_at hl 4 rfl) ?_
      refine lv_iconst (v := 4) X.1 X.2.1 dX9_lexed_5 (by decide) ?_
      refine lv_icmp_ge (tgt := 51) X.1 X.2.1 dX9_lexed_6 (by decide) (fun c_1 => ?_) (fun c_1 => ?_)
      · have h := h.1 c_1
        refine lv_iconst (v := 0) X.1 X.2.1 dX9_lexed_51 (by decide) ?_
        exact q_iret X hr hlocks hP hS rfl h dX9_lexed_52
      · have h := h.2 c_1
        refine lv_aload_n X.1 X.2.1 dX9_lexed_9 rfl (lv_at hl 0 rfl) ?_
        refine lv_iload_n X.1 X.2.1 dX9_lexed_10 rfl (lv_at hl 1 rfl) ?_
        refine lv_iload X.1 X.2.1 dX9_lexed_11 (lv_at hl 4 rfl) ?_
        refine lv_iadd X.1 X.2.1 dX9_lexed_13 ?_
        obtain ⟨o_2, h⟩ := h
        refine q_iald X hK hP ⟨hq0.1, isI_kd hq0⟩ o_2 dX9_lexed_14 ?_
        refine lv_aload_n X.1 X.2.1 dX9_lexed_15 rfl (lv_at hl 2 rfl) ?_
        refine lv_iload_n X.1 X.2.1 dX9_lexed_16 rfl (lv_at hl 3 rfl) ?_
        refine lv_iload X.1 X.2.1 dX9_lexed_17 (lv_at hl 4 rfl) ?_
        refine lv_iadd X.1 X.2.1 dX9_lexed_19 ?_
        obtain ⟨o_3, h⟩ := h
        refine q_iald X hK hP ⟨hq2.1, isI_kd hq2⟩ o_3 dX9_lexed_20 ?_
        refine lv_icmp_eq (tgt := 45) X.1 X.2.1 dX9_lexed_21 (by decide) (fun c_4 => ?_) (fun c_4 => ?_)
        · have h := h.1 c_4
          obtain ⟨x4_5, e4_5⟩ : ∃ y : Int32, y = x4 + 1 := ⟨_, rfl⟩
          have h := h x4_5 e4_5
          refine lv_iinc (v := x4_5) (lv' := [(4, .int x4_5), (0, .ref (G.1 + q0)), (1, .int x1), (2, .ref (G.1 + q2)), (3, .int x3)]) X.1 X.2.1 dX9_lexed_45 hl (k := 4) rfl (by rw [e4_5]; first | rfl | decide) (by decide) rfl (fun ls hl => ?_)
          refine lv_goto (tgt := 3) X.1 X.2.1 dX9_lexed_48 (by decide) ?_
          exact hk3 x4_5 S _ (lv_sub hl [1, 2, 3, 4, 0] rfl) h _ _ hP hS
        · have h := h.2 c_4
          refine lv_aload_n X.1 X.2.1 dX9_lexed_24 rfl (lv_at hl 0 rfl) ?_
          refine lv_iload_n X.1 X.2.1 dX9_lexed_25 rfl (lv_at hl 1 rfl) ?_
          refine lv_iload X.1 X.2.1 dX9_lexed_26 (lv_at hl 4 rfl) ?_
          refine lv_iadd X.1 X.2.1 dX9_lexed_28 ?_
          refine q_iald X hK hP ⟨hq0.1, isI_kd hq0⟩ o_2 dX9_lexed_29 ?_
          refine lv_aload_n X.1 X.2.1 dX9_lexed_30 rfl (lv_at hl 2 rfl) ?_
          refine lv_iload_n X.1 X.2.1 dX9_lexed_31 rfl (lv_at hl 3 rfl) ?_
          refine lv_iload X.1 X.2.1 dX9_lexed_32 (lv_at hl 4 rfl) ?_
          refine lv_iadd X.1 X.2.1 dX9_lexed_34 ?_
          refine q_iald X hK hP ⟨hq2.1, isI_kd hq2⟩ o_3 dX9_lexed_35 ?_
          refine lv_icmp_ge (tgt := 43) X.1 X.2.1 dX9_lexed_36 (by decide) (fun c_6 => ?_) (fun c_6 => ?_)
          · have h := h.1 c_6
            refine lv_iconst (v := 1) X.1 X.2.1 dX9_lexed_43 (by decide) ?_
            exact q_iret X hr hlocks hP hS rfl h dX9_lexed_44
          · have h := h.2 c_6
            refine lv_iconst (v := (-1)) X.1 X.2.1 dX9_lexed_39 (by decide) ?_
            refine lv_goto (tgt := 44) X.1 X.2.1 dX9_lexed_40 (by decide) ?_
            exact q_iret X hr hlocks hP hS rfl h dX9_lexed_44
  refine lv_iconst (v := 0) X.1 X.2.1 dX9_lexed_0 (by decide) ?_
  refine lv_istore (lv' := [(4, .int 0), (0, .ref (G.1 + q0)), (1, .int x1), (2, .ref (G.1 + q2)), (3, .int x3)]) X.1 X.2.1 dX9_lexed_1 hl (by decide) rfl (fun ls hl => ?_)
  obtain ⟨f_1, h⟩ := h
  exact B3 f_1 0 S _ (lv_sub hl [1, 2, 3, 4, 0] rfl) h _ _ hP hS

set_option maxHeartbeats 4000000 in
set_option maxRecDepth 100000 in
theorem c_X9_stand (l : Launch) (G : Cx) (q1 : Nat) (x2 : Int32) (q3 : Nat) (x4 : Int32) (S : St) (K : Int32 → St → Prop) (hq1 : isI q1) (hq3 : isI q3) (h : w_X9_stand q1 x2 q3 x4 S K) : q_Met l yX9_stand cX9_stand 7 (some .int) 1 27 G [.ref (G.1 + 224), .ref (G.1 + q1), .int x2, .ref (G.1 + q3), .int x4] v_i S K := by
  refine q_enter (by decide +kernel) (Nat.le_of_ble_eq_true rfl) (fun p e s m args below meth c ls X hK hP hr hlocks hl => ?_)
  have hS : va_S (fr_ G) s.heap s.heap [] := va_S.rf
  have hl : lv_has ls 7 [(0, .ref (G.1 + 224)), (1, .ref (G.1 + q1)), (2, .int x2), (3, .ref (G.1 + q3)), (4, .int x4)] := hl
  have B49 : ∀ (f : Nat) (x5 : Int32) (x6 : Int32) (S : St) (ls : Array Slot), lv_has ls 7 [(1, .ref (G.1 + q1)), (2, .int x2), (3, .ref (G.1 + q3)), (4, .int x4), (5, .int x5), (6, .int x6)] → q_it (fun _ _ _ => False) (w_X9_stand_49 q1 x2 q3 x4 K) f x5 x6 S → q_W p l e (k2_rm 1 27) s m args below meth c 0 0 (MQ below (q_Qc G K v_i) args s 0 0 (fr_ G)) G 49 ls [] S := by
    intro f
    induction f with
    | zero => intro x5 x6 S ls hl h; exact False.elim h
    | succ f hk49 =>
      intro x5 x6 S ls hl h H locs hP hS
      have h : w_X9_stand_49 q1 x2 q3 x4 K (q_it (fun _ _ _ => False) (w_X9_stand_49 q1 x2 q3 x4 K) f) x5 x6 S := h
      generalize q_it (fun _ _ _ => False) (w_X9_stand_49 q1 x2 q3 x4 K) f = k49 at h hk49
      refine lv_iload X.1 X.2.1 dX9_stand_49 (lv_at hl 5 rfl) ?_
      refine lv_iconst (v := 4) X.1 X.2.1 dX9_stand_51 (by decide) ?_
      refine lv_icmp_ge (tgt := 80) X.1 X.2.1 dX9_stand_52 (by decide) (fun c_1 => ?_) (fun c_1 => ?_)
      · have h := h.1 c_1
        refine lv_iload X.1 X.2.1 dX9_stand_80 (lv_at hl 4 rfl) ?_
        refine lv_if_eq (tgt := 98) X.1 X.2.1 dX9_stand_82 (by decide) (fun c_2 => ?_) (fun c_2 => ?_)
        · have h := h.1 c_2
          refine lv_aload_n X.1 X.2.1 dX9_stand_98 rfl (lv_at hl 0 rfl) ?_
          refine lv_iload_n X.1 X.2.1 dX9_stand_99 rfl (lv_at hl 1 rfl) ?_
          refine lv_aload_n X.1 X.2.1 dX9_stand_100 rfl (lv_at hl 2 rfl) ?_
          refine lv_iload X.1 X.2.1 dX9_stand_101 (lv_at hl 3 rfl) ?_
          refine q_callS (rest := []) X hK hP hS (c_X9_lexed l G q1 x2 q3 x4 S _ hq1 hq3 h) my_X9_lexed tl_X9_82 dX9_stand_103 rfl ⟨Nat.le_of_ble_eq_true rfl, Nat.le_of_ble_eq_true rfl⟩ hl.1 rfl (Nat.le_of_ble_eq_true rfl) ⟨Nat.le_of_ble_eq_true rfl, Nat.le_of_ble_eq_true rfl⟩ (fun r_4 S_3 H locs h hP hS => ?_)
          refine W.eq (g2 := F0 m 106 ls [.int r_4]) rfl ?_
          exact q_iret X hr hlocks hP hS rfl h dX9_stand_106
        · have h := h.2 c_2
          refine lv_iload X.1 X.2.1 dX9_stand_85 (lv_at hl 4 rfl) ?_
          refine lv_if_ge (tgt := 94) X.1 X.2.1 dX9_stand_87 (by decide) (fun c_5 => ?_) (fun c_5 => ?_)
          · have h := h.1 c_5
            refine lv_iconst (v := 1) X.1 X.2.1 dX9_stand_94 (by decide) ?_
            refine lv_goto (tgt := 106) X.1 X.2.1 dX9_stand_95 (by decide) ?_
            exact q_iret X hr hlocks hP hS rfl h dX9_stand_106
          · have h := h.2 c_5
            refine lv_iconst (v := (-1)) X.1 X.2.1 dX9_stand_90 (by decide) ?_
            refine lv_goto (tgt := 106) X.1 X.2.1 dX9_stand_91 (by decide) ?_
            exact q_iret X hr hlocks hP hS rfl h dX9_stand_106
      · have h := h.2 c_1
        refine lv_iload X.1 X.2.1 dX9_stand_55 (lv_at hl 4 rfl) ?_
        refine lv_aload_n X.1 X.2.1 dX9_stand_57 rfl (lv_at hl 0 rfl) ?_
        refine lv_iload_n X.1 X.2.1 dX9_stand_58 rfl (lv_at hl 1 rfl) ?_
        refine lv_iload X.1 X.2.1 dX9_stand_59 (lv_at hl 5 rfl) ?_
        refine lv_iadd X.1 X.2.1 dX9_stand_61 ?_
        obtain ⟨o_6, h⟩ := h
        refine q_iald X hK hP ⟨hq1.1, isI_kd hq1⟩ o_6 dX9_stand_62 ?_
        refine lv_aload_n X.1 X.2.1 dX9_stand_63 rfl (lv_at hl 2 rfl) ?_
        refine lv_iload X.1 X.2.1 dX9_stand_64 (lv_at hl 3 rfl) ?_
        refine lv_iload X.1 X.2.1 dX9_stand_66 (lv_at hl 5 rfl) ?_
        refine lv_iadd X.1 X.2.1 dX9_stand_68 ?_
        obtain ⟨o_7, h⟩ := h
        refine q_iald X hK hP ⟨hq3.1, isI_kd hq3⟩ o_7 dX9_stand_69 ?_
        refine lv_isub X.1 X.2.1 dX9_stand_70 ?_
        refine lv_iadd X.1 X.2.1 dX9_stand_71 ?_
        refine lv_topi (fun x5_8 e5_8 => ?_)
        have h := h x5_8 e5_8
        refine lv_istore (lv' := [(5, .int x5_8), (1, .ref (G.1 + q1)), (2, .int x2), (3, .ref (G.1 + q3)), (4, .int x4), (6, .int x6)]) X.1 X.2.1 dX9_stand_72 hl (by decide) rfl (fun ls hl => ?_)
        obtain ⟨x6_9, e6_9⟩ : ∃ y : Int32, y = x6 + 1 := ⟨_, rfl⟩
        have h := h x6_9 e6_9
        refine lv_iinc (v := x6_9) (lv' := [(6, .int x6_9), (5, .int x5_8), (1, .ref (G.1 + q1)), (2, .int x2), (3, .ref (G.1 + q3)), (4, .int x4)]) X.1 X.2.1 dX9_stand_74 hl (k := 5) rfl (by rw [e6_9]; first | rfl | decide) (by decide) rfl (fun ls hl => ?_)
        refine lv_goto (tgt := 49) X.1 X.2.1 dX9_stand_77 (by decide) ?_
        exact hk49 x5_8 x6_9 S _ (lv_sub hl [2, 3, 4, 5, 1, 0] rfl) h _ _ hP hS
  refine lv_aload_n X.1 X.2.1 dX9_stand_0 rfl (lv_at hl 0 rfl) ?_
  refine gf_X9_order X hK hP tl_X9_7 dX9_stand_1 ?_
  refine lv_if_ne (tgt := 16) X.1 X.2.1 dX9_stand_4 (by decide) (fun c_1 => ?_) (fun c_1 => ?_)
  · have h := h.1 c_1
    refine lv_aload_n X.1 X.2.1 dX9_stand_16 rfl (lv_at hl 0 rfl) ?_
    refine gf_X9_order X hK hP tl_X9_7 dX9_stand_17 ?_
    refine lv_iconst (v := 2) X.1 X.2.1 dX9_stand_20 (by decide) ?_
    refine lv_icmp_ne (tgt := 35) X.1 X.2.1 dX9_stand_21 (by decide) (fun c_2 => ?_) (fun c_2 => ?_)
    · have h := h.1 c_2
      refine lv_aload_n X.1 X.2.1 dX9_stand_35 rfl (lv_at hl 0 rfl) ?_
      refine gf_X9_order X hK hP tl_X9_7 dX9_stand_36 ?_
      refine lv_iconst (v := 1) X.1 X.2.1 dX9_stand_39 (by decide) ?_
      refine lv_icmp_ne (tgt := 107) X.1 X.2.1 dX9_stand_40 (by decide) (fun c_3 => ?_) (fun c_3 => ?_)
      · have h := h.1 c_3
        refine lv_aload_n X.1 X.2.1 dX9_stand_107 rfl (lv_at hl 1 rfl) ?_
        refine lv_iload_n X.1 X.2.1 dX9_stand_108 rfl (lv_at hl 2 rfl) ?_
        refine lv_aload_n X.1 X.2.1 dX9_stand_109 rfl (lv_at hl 3 rfl) ?_
        refine lv_iload X.1 X.2.1 dX9_stand_110 (lv_at hl 4 rfl) ?_
        refine lv_iconst (v := 0) X.1 X.2.1 dX9_stand_112 (by decide) ?_
        refine lv_iconst (v := 2) X.1 X.2.1 dX9_stand_113 (by decide) ?_
        refine q_callS (rest := []) X hK hP hS (c_X9_reversed l G q1 x2 q3 x4 0 2 S _ hq1 hq3 h) my_X9_reversed tl_X9_86 dX9_stand_114 rfl ⟨Nat.le_of_ble_eq_true rfl, Nat.le_of_ble_eq_true rfl⟩ hl.1 rfl (Nat.le_of_ble_eq_true rfl) ⟨Nat.le_of_ble_eq_true rfl, Nat.le_of_ble_eq_true rfl⟩ (fun r_5 S_4 H locs h hP hS => ?_)
        refine W.eq (g2 := F0 m 117 ls [.int r_5]) rfl ?_
        refine lv_istore (lv' := [(5, .int r_5), (0, .ref (G.1 + 224)), (1, .ref (G.1 + q1)), (2, .int x2), (3, .ref (G.1 + q3)), (4, .int x4)]) X.1 X.2.1 dX9_stand_117 hl (by decide) rfl (fun ls hl => ?_)
        refine lv_iload X.1 X.2.1 dX9_stand_119 (lv_at hl 0 rfl) ?_
        refine lv_if_eq (tgt := 129) X.1 X.2.1 dX9_stand_121 (by decide) (fun c_6 => ?_) (fun c_6 => ?_)
        · have h := h.1 c_6
          refine lv_aload_n X.1 X.2.1 dX9_stand_129 rfl (lv_at hl 2 rfl) ?_
          refine lv_iload_n X.1 X.2.1 dX9_stand_130 rfl (lv_at hl 3 rfl) ?_
          refine lv_aload_n X.1 X.2.1 dX9_stand_131 rfl (lv_at hl 4 rfl) ?_
          refine lv_iload X.1 X.2.1 dX9_stand_132 (lv_at hl 5 rfl) ?_
          refine lv_iconst (v := 2) X.1 X.2.1 dX9_stand_134 (by decide) ?_
          refine lv_iconst (v := 4) X.1 X.2.1 dX9_stand_135 (by decide) ?_
          refine q_callS (rest := []) X hK hP hS (c_X9_reversed l G q1 x2 q3 x4 2 4 S_4 _ hq1 hq3 h) my_X9_reversed tl_X9_86 dX9_stand_136 rfl ⟨Nat.le_of_ble_eq_true rfl, Nat.le_of_ble_eq_true rfl⟩ hl.1 rfl (Nat.le_of_ble_eq_true rfl) ⟨Nat.le_of_ble_eq_true rfl, Nat.le_of_ble_eq_true rfl⟩ (fun r_8 S_7 H locs h hP hS => ?_)
          refine W.eq (g2 := F0 m 139 ls [.int r_8]) rfl ?_
          exact q_iret X hr hlocks hP hS rfl h dX9_stand_139
        · have h := h.2 c_6
          refine lv_iload X.1 X.2.1 dX9_stand_124 (lv_at hl 0 rfl) ?_
          refine lv_goto (tgt := 139) X.1 X.2.1 dX9_stand_126 (by decide) ?_
          exact q_iret X hr hlocks hP hS rfl h dX9_stand_139
      · have h := h.2 c_3
        refine lv_iconst (v := 0) X.1 X.2.1 dX9_stand_43 (by decide) ?_
        refine lv_istore (lv' := [(5, .int 0), (0, .ref (G.1 + 224)), (1, .ref (G.1 + q1)), (2, .int x2), (3, .ref (G.1 + q3)), (4, .int x4)]) X.1 X.2.1 dX9_stand_44 hl (by decide) rfl (fun ls hl => ?_)
        refine lv_iconst (v := 0) X.1 X.2.1 dX9_stand_46 (by decide) ?_
        refine lv_istore (lv' := [(6, .int 0), (5, .int 0), (0, .ref (G.1 + 224)), (1, .ref (G.1 + q1)), (2, .int x2), (3, .ref (G.1 + q3)), (4, .int x4)]) X.1 X.2.1 dX9_stand_47 hl (by decide) rfl (fun ls hl => ?_)
        obtain ⟨f_9, h⟩ := h
        exact B49 f_9 0 0 S _ (lv_sub hl [3, 4, 5, 6, 1, 0] rfl) h _ _ hP hS
    · have h := h.2 c_2
      refine lv_aload_n X.1 X.2.1 dX9_stand_24 rfl (lv_at hl 1 rfl) ?_
      refine lv_iload_n X.1 X.2.1 dX9_stand_25 rfl (lv_at hl 2 rfl) ?_
      refine lv_aload_n X.1 X.2.1 dX9_stand_26 rfl (lv_at hl 3 rfl) ?_
      refine lv_iload X.1 X.2.1 dX9_stand_27 (lv_at hl 4 rfl) ?_
      refine lv_iconst (v := 0) X.1 X.2.1 dX9_stand_29 (by decide) ?_
      refine lv_iconst (v := 4) X.1 X.2.1 dX9_stand_30 (by decide) ?_
      refine q_callS (rest := []) X hK hP hS (c_X9_reversed l G q1 x2 q3 x4 0 4 S _ hq1 hq3 h) my_X9_reversed tl_X9_86 dX9_stand_31 rfl ⟨Nat.le_of_ble_eq_true rfl, Nat.le_of_ble_eq_true rfl⟩ hl.1 rfl (Nat.le_of_ble_eq_true rfl) ⟨Nat.le_of_ble_eq_true rfl, Nat.le_of_ble_eq_true rfl⟩ (fun r_11 S_10 H locs h hP hS => ?_)
      refine W.eq (g2 := F0 m 34 ls [.int r_11]) rfl ?_
      exact q_iret X hr hlocks hP hS rfl h dX9_stand_34
  · have h := h.2 c_1
    refine lv_aload_n X.1 X.2.1 dX9_stand_7 rfl (lv_at hl 1 rfl) ?_
    refine lv_iload_n X.1 X.2.1 dX9_stand_8 rfl (lv_at hl 2 rfl) ?_
    refine lv_aload_n X.1 X.2.1 dX9_stand_9 rfl (lv_at hl 3 rfl) ?_
    refine lv_iload X.1 X.2.1 dX9_stand_10 (lv_at hl 4 rfl) ?_
    refine q_callS (rest := []) X hK hP hS (c_X9_lexed l G q1 x2 q3 x4 S _ hq1 hq3 h) my_X9_lexed tl_X9_82 dX9_stand_12 rfl ⟨Nat.le_of_ble_eq_true rfl, Nat.le_of_ble_eq_true rfl⟩ hl.1 rfl (Nat.le_of_ble_eq_true rfl) ⟨Nat.le_of_ble_eq_true rfl, Nat.le_of_ble_eq_true rfl⟩ (fun r_13 S_12 H locs h hP hS => ?_)
    refine W.eq (g2 := F0 m 15 ls [.int r_13]) rfl ?_
    exact q_iret X hr hlocks hP hS rfl h dX9_stand_15

set_option maxHeartbeats 4000000 in
set_option maxRecDepth 100000 in
theorem c_X9_divides (l : Launch) (G : Cx) (q0 : Nat) (x1 : Int32) (q2 : Nat) (x3 : Int32) (S : St) (K : Int32 → St → Prop) (hq0 : isI q0) (hq2 : isI q2) (h : w_X9_divides q0 x1 q2 x3 S K) : q_Met l yX9_divides cX9_divides 6 (some .boolean) 0 0 G [.ref (G.1 + q0), .int x1, .ref (G.1 + q2), .int x3] v_i S K := by
  refine q_enter (by decide +kernel) (Nat.le_of_ble_eq_true rfl) (fun p e s m args below meth c ls X hK hP hr hlocks hl => ?_)
  have hS : va_S (fr_ G) s.heap s.heap [] := va_S.rf
  have hl : lv_has ls 6 [(0, .ref (G.1 + q0)), (1, .int x1), (2, .ref (G.1 + q2)), (3, .int x3)] := hl
  have B34 : ∀ (x5 : Int32) (z0 : Int32) (z1 : Int32) (k6 : Int32 → Int32 → St → Prop) (hk6 : ∀ (x4 : Int32) (x5 : Int32) (S : St) (ls : Array Slot), lv_has ls 6 [(0, .ref (G.1 + q0)), (1, .int x1), (2, .ref (G.1 + q2)), (3, .int x3), (4, .int x4), (5, .int x5)] → k6 x4 x5 S → q_W p l e (k2_rm 0 0) s m args below meth c 0 0 (MQ below (q_Qc G K v_i) args s 0 0 (fr_ G)) G 6 ls [] S) (S : St) (ls : Array Slot), lv_has ls 6 [(0, .ref (G.1 + q0)), (1, .int x1), (2, .ref (G.1 + q2)), (3, .int x3), (5, .int x5)] → w_X9_divides_34 q0 x1 q2 x3 K k6 x5 z0 z1 S → q_W p l e (k2_rm 0 0) s m args below meth c 0 0 (MQ below (q_Qc G K v_i) args s 0 0 (fr_ G)) G 34 ls [.int z1, .int z0] S := by
    intro x5 z0 z1 k6 hk6 S ls hl h H locs hP hS
    refine lv_iand X.1 X.2.1 dX9_divides_34 ?_
    refine lv_topi (fun x4_1 e4_1 => ?_)
    have h := h x4_1 e4_1
    refine lv_istore (lv' := [(4, .int x4_1), (0, .ref (G.1 + q0)), (1, .int x1), (2, .ref (G.1 + q2)), (3, .int x3), (5, .int x5)]) X.1 X.2.1 dX9_divides_35 hl (by decide) rfl (fun ls hl => ?_)
    obtain ⟨x5_2, e5_2⟩ : ∃ y : Int32, y = x5 + 1 := ⟨_, rfl⟩
    have h := h x5_2 e5_2
    refine lv_iinc (v := x5_2) (lv' := [(5, .int x5_2), (4, .int x4_1), (0, .ref (G.1 + q0)), (1, .int x1), (2, .ref (G.1 + q2)), (3, .int x3)]) X.1 X.2.1 dX9_divides_37 hl (k := 5) rfl (by rw [e5_2]; first | rfl | decide) (by decide) rfl (fun ls hl => ?_)
    refine lv_goto (tgt := 6) X.1 X.2.1 dX9_divides_40 (by decide) ?_
    exact hk6 x4_1 x5_2 S _ (lv_sub hl [2, 3, 4, 5, 1, 0] rfl) h _ _ hP hS
  have B6 : ∀ (f : Nat) (x4 : Int32) (x5 : Int32) (S : St) (ls : Array Slot), lv_has ls 6 [(0, .ref (G.1 + q0)), (1, .int x1), (2, .ref (G.1 + q2)), (3, .int x3), (4, .int x4), (5, .int x5)] → q_it (fun _ _ _ => False) (w_X9_divides_6 q0 x1 q2 x3 K) f x4 x5 S → q_W p l e (k2_rm 0 0) s m args below meth c 0 0 (MQ below (q_Qc G K v_i) args s 0 0 (fr_ G)) G 6 ls [] S := by
    intro f
    induction f with
    | zero => intro x4 x5 S ls hl h; exact False.elim h
    | succ f hk6 =>
      intro x4 x5 S ls hl h H locs hP hS
      have h : w_X9_divides_6 q0 x1 q2 x3 K (q_it (fun _ _ _ => False) (w_X9_divides_6 q0 x1 q2 x3 K) f) x4 x5 S := h
      generalize q_it (fun _ _ _ => False) (w_X9_divides_6 q0 x1 q2 x3 K) f = k6 at h hk6
      refine lv_iload X.1 X.2.1 dX9_divides_6 (lv_at hl 5 rfl) ?_
      refine lv_iconst (v := 4) X.1 X.2.1 dX9_divides_8 (by decide) ?_
      refine lv_icmp_ge (tgt := 43) X.1 X.2.1 dX9_divides_9 (by decide) (fun c_1 => ?_) (fun c_1 => ?_)
      · have h := h.1 c_1
        refine lv_iload X.1 X.2.1 dX9_divides_43 (lv_at hl 4 rfl) ?_
        obtain ⟨o_2, h⟩ := h
        exact q_iret X hr hlocks hP hS o_2 h dX9_divides_45
      · have h := h.2 c_1
        refine lv_iload X.1 X.2.1 dX9_divides_12 (lv_at hl 4 rfl) ?_
        refine lv_aload_n X.1 X.2.1 dX9_divides_14 rfl (lv_at hl 0 rfl) ?_
        refine lv_iload_n X.1 X.2.1 dX9_divides_15 rfl (lv_at hl 1 rfl) ?_
        refine lv_iload X.1 X.2.1 dX9_divides_16 (lv_at hl 5 rfl) ?_
        refine lv_iadd X.1 X.2.1 dX9_divides_18 ?_
        obtain ⟨o_3, h⟩ := h
        refine q_iald X hK hP ⟨hq0.1, isI_kd hq0⟩ o_3 dX9_divides_19 ?_
        refine lv_aload_n X.1 X.2.1 dX9_divides_20 rfl (lv_at hl 2 rfl) ?_
        refine lv_iload_n X.1 X.2.1 dX9_divides_21 rfl (lv_at hl 3 rfl) ?_
        refine lv_iload X.1 X.2.1 dX9_divides_22 (lv_at hl 5 rfl) ?_
        refine lv_iadd X.1 X.2.1 dX9_divides_24 ?_
        obtain ⟨o_4, h⟩ := h
        refine q_iald X hK hP ⟨hq2.1, isI_kd hq2⟩ o_4 dX9_divides_25 ?_
        refine lv_icmp_gt (tgt := 33) X.1 X.2.1 dX9_divides_26 (by decide) (fun c_5 => ?_) (fun c_5 => ?_)
        · have h := h.1 c_5
          refine lv_iconst (v := 0) X.1 X.2.1 dX9_divides_33 (by decide) ?_
          exact B34 x5 x4 0 k6 hk6 S _ (lv_sub hl [0, 1, 2, 3, 5] rfl) h _ _ hP hS
        · have h := h.2 c_5
          refine lv_iconst (v := 1) X.1 X.2.1 dX9_divides_29 (by decide) ?_
          refine lv_goto (tgt := 34) X.1 X.2.1 dX9_divides_30 (by decide) ?_
          exact B34 x5 x4 1 k6 hk6 S _ (lv_sub hl [0, 1, 2, 3, 5] rfl) h _ _ hP hS
  refine lv_iconst (v := 1) X.1 X.2.1 dX9_divides_0 (by decide) ?_
  refine lv_istore (lv' := [(4, .int 1), (0, .ref (G.1 + q0)), (1, .int x1), (2, .ref (G.1 + q2)), (3, .int x3)]) X.1 X.2.1 dX9_divides_1 hl (by decide) rfl (fun ls hl => ?_)
  refine lv_iconst (v := 0) X.1 X.2.1 dX9_divides_3 (by decide) ?_
  refine lv_istore (lv' := [(5, .int 0), (4, .int 1), (0, .ref (G.1 + q0)), (1, .int x1), (2, .ref (G.1 + q2)), (3, .int x3)]) X.1 X.2.1 dX9_divides_4 hl (by decide) rfl (fun ls hl => ?_)
  obtain ⟨f_1, h⟩ := h
  exact B6 f_1 1 0 S _ (lv_sub hl [2, 3, 4, 5, 1, 0] rfl) h _ _ hP hS

set_option maxHeartbeats 4000000 in
set_option maxRecDepth 100000 in
theorem c_X9_add (l : Launch) (G : Cx) (x1 : Int32) (S : St) (K : Unit → St → Prop) (h : w_X9_add x1 S K) : q_Met l yX9_add cX9_add 6 none 2 53 G [.ref (G.1 + 224), .int x1] v_v S K := by
  refine q_enter (by decide +kernel) (Nat.le_of_ble_eq_true rfl) (fun p e s m args below meth c ls X hK hP hr hlocks hl => ?_)
  have hS : va_S (fr_ G) s.heap s.heap [] := va_S.rf
  have hl : lv_has ls 6 [(0, .ref (G.1 + 224)), (1, .int x1)] := hl
  have B165 : ∀ (x2 : Int32) (f : Nat) (x4 : Int32) (S : St) (ls : Array Slot), lv_has ls 6 [(0, .ref (G.1 + 224)), (2, .int x2), (4, .int x4)] → q_it (fun _ _ => False) (w_X9_add_165 x1 K x2) f x4 S → q_W p l e (k2_rm 2 53) s m args below meth c 0 0 (MQ below (q_Qc G K v_v) args s 0 0 (fr_ G)) G 165 ls [] S := by
    intro x2 f
    induction f with
    | zero => intro x4 S ls hl h; exact False.elim h
    | succ f hk165 =>
      intro x4 S ls hl h H locs hP hS
      have h : w_X9_add_165 x1 K x2 (q_it (fun _ _ => False) (w_X9_add_165 x1 K x2) f) x4 S := h
      generalize q_it (fun _ _ => False) (w_X9_add_165 x1 K x2) f = k165 at h hk165
      refine lv_iload X.1 X.2.1 dX9_add_165 (lv_at hl 2 rfl) ?_
      refine lv_iconst (v := 4) X.1 X.2.1 dX9_add_167 (by decide) ?_
      refine lv_icmp_ge (tgt := 195) X.1 X.2.1 dX9_add_168 (by decide) (fun c_1 => ?_) (fun c_1 => ?_)
      · have h := h.1 c_1
        refine lv_aload_n X.1 X.2.1 dX9_add_195 rfl (lv_at hl 0 rfl) ?_
        refine lv_dup X.1 X.2.1 dX9_add_196 rfl ?_
        refine gf_X9_row X hK hP tl_X9_90 dX9_add_197 ?_
        refine lv_iconst (v := 1) X.1 X.2.1 dX9_add_200 (by decide) ?_
        refine lv_iadd X.1 X.2.1 dX9_add_201 ?_
        refine pf_X9_row X hK hP hS tl_X9_90 dX9_add_202 (fun S_2 H locs eS_2 hP hS => ?_)
        have h := h S_2 eS_2
        exact q_vret X hr hlocks hP hS h dX9_add_205
      · have h := h.2 c_1
        refine lv_aload_n X.1 X.2.1 dX9_add_171 rfl (lv_at hl 0 rfl) ?_
        refine gf_X9_rowExponents X hK hP tl_X9_35 dX9_add_172 ?_
        refine lv_iconst (v := 4) X.1 X.2.1 dX9_add_175 (by decide) ?_
        refine lv_iload_n X.1 X.2.1 dX9_add_176 rfl (lv_at hl 1 rfl) ?_
        refine lv_imul X.1 X.2.1 dX9_add_177 ?_
        refine lv_iload X.1 X.2.1 dX9_add_178 (lv_at hl 2 rfl) ?_
        refine lv_iadd X.1 X.2.1 dX9_add_180 ?_
        refine lv_aload_n X.1 X.2.1 dX9_add_181 rfl (lv_at hl 0 rfl) ?_
        refine gf_X9_one X hK hP tl_X9_38 dX9_add_182 ?_
        refine lv_iload X.1 X.2.1 dX9_add_185 (lv_at hl 2 rfl) ?_
        obtain ⟨o_3, h⟩ := h
        refine q_iald X hK hP kz_232 o_3 dX9_add_187 ?_
        obtain ⟨o_4, h⟩ := h
        refine q_iast X hK hP hS kz_231 o_4 dX9_add_188 (fun S_5 H locs eS_5 hP hS => ?_)
        have h := h S_5 eS_5
        obtain ⟨x4_6, e4_6⟩ : ∃ y : Int32, y = x4 + 1 := ⟨_, rfl⟩
        have h := h x4_6 e4_6
        refine lv_iinc (v := x4_6) (lv' := [(4, .int x4_6), (0, .ref (G.1 + 224)), (2, .int x2)]) X.1 X.2.1 dX9_add_189 hl (k := 2) rfl (by rw [e4_6]; first | rfl | decide) (by decide) rfl (fun ls hl => ?_)
        refine lv_goto (tgt := 165) X.1 X.2.1 dX9_add_192 (by decide) ?_
        exact hk165 x4_6 S_5 _ (lv_sub hl [1, 2, 0] rfl) h _ _ hP hS
  have B111 : ∀ (x2 : Int32) (x4 : Int32) (k86 : Int32 → St → Prop) (hk86 : ∀ (x4 : Int32) (S : St) (ls : Array Slot), lv_has ls 6 [(0, .ref (G.1 + 224)), (1, .int x1), (2, .int x2), (4, .int x4)] → k86 x4 S → q_W p l e (k2_rm 2 53) s m args below meth c 0 0 (MQ below (q_Qc G K v_v) args s 0 0 (fr_ G)) G 86 ls [] S) (f : Nat) (x5 : Int32) (S : St) (ls : Array Slot), lv_has ls 6 [(0, .ref (G.1 + 224)), (1, .int x1), (2, .int x2), (4, .int x4), (5, .int x5)] → q_it (fun _ _ => False) (w_X9_add_111 x1 K k86 x2 x4) f x5 S → q_W p l e (k2_rm 2 53) s m args below meth c 0 0 (MQ below (q_Qc G K v_v) args s 0 0 (fr_ G)) G 111 ls [] S := by
    intro x2 x4 k86 hk86 f
    induction f with
    | zero => intro x5 S ls hl h; exact False.elim h
    | succ f hk111 =>
      intro x5 S ls hl h H locs hP hS
      have h : w_X9_add_111 x1 K k86 x2 x4 (q_it (fun _ _ => False) (w_X9_add_111 x1 K k86 x2 x4) f) x5 S := h
      generalize q_it (fun _ _ => False) (w_X9_add_111 x1 K k86 x2 x4) f = k111 at h hk111
      refine lv_iload X.1 X.2.1 dX9_add_111 (lv_at hl 4 rfl) ?_
      refine lv_iconst (v := 4) X.1 X.2.1 dX9_add_113 (by decide) ?_
      refine lv_icmp_ge (tgt := 149) X.1 X.2.1 dX9_add_114 (by decide) (fun c_1 => ?_) (fun c_1 => ?_)
      · have h := h.1 c_1
        obtain ⟨x4_2, e4_2⟩ : ∃ y : Int32, y = x4 + (-1) := ⟨_, rfl⟩
        have h := h x4_2 e4_2
        refine lv_iinc (v := x4_2) (lv' := [(4, .int x4_2), (0, .ref (G.1 + 224)), (1, .int x1), (2, .int x2), (5, .int x5)]) X.1 X.2.1 dX9_add_149 hl (k := 3) rfl (by rw [e4_2]; first | rfl | decide) (by decide) rfl (fun ls hl => ?_)
        refine lv_goto (tgt := 86) X.1 X.2.1 dX9_add_152 (by decide) ?_
        exact hk86 x4_2 S _ (lv_sub hl [1, 2, 3, 0] rfl) h _ _ hP hS
      · have h := h.2 c_1
        refine lv_aload_n X.1 X.2.1 dX9_add_117 rfl (lv_at hl 0 rfl) ?_
        refine gf_X9_rowExponents X hK hP tl_X9_35 dX9_add_118 ?_
        refine lv_iconst (v := 4) X.1 X.2.1 dX9_add_121 (by decide) ?_
        refine lv_iload X.1 X.2.1 dX9_add_122 (lv_at hl 3 rfl) ?_
        refine lv_imul X.1 X.2.1 dX9_add_124 ?_
        refine lv_iload X.1 X.2.1 dX9_add_125 (lv_at hl 4 rfl) ?_
        refine lv_iadd X.1 X.2.1 dX9_add_127 ?_
        refine lv_aload_n X.1 X.2.1 dX9_add_128 rfl (lv_at hl 0 rfl) ?_
        refine gf_X9_rowExponents X hK hP tl_X9_35 dX9_add_129 ?_
        refine lv_iconst (v := 4) X.1 X.2.1 dX9_add_132 (by decide) ?_
        refine lv_iload X.1 X.2.1 dX9_add_133 (lv_at hl 3 rfl) ?_
        refine lv_imul X.1 X.2.1 dX9_add_135 ?_
        refine lv_iconst (v := 4) X.1 X.2.1 dX9_add_136 (by decide) ?_
        refine lv_isub X.1 X.2.1 dX9_add_137 ?_
        refine lv_iload X.1 X.2.1 dX9_add_138 (lv_at hl 4 rfl) ?_
        refine lv_iadd X.1 X.2.1 dX9_add_140 ?_
        obtain ⟨o_3, h⟩ := h
        refine q_iald X hK hP kz_231 o_3 dX9_add_141 ?_
        obtain ⟨o_4, h⟩ := h
        refine q_iast X hK hP hS kz_231 o_4 dX9_add_142 (fun S_5 H locs eS_5 hP hS => ?_)
        have h := h S_5 eS_5
        obtain ⟨x5_6, e5_6⟩ : ∃ y : Int32, y = x5 + 1 := ⟨_, rfl⟩
        have h := h x5_6 e5_6
        refine lv_iinc (v := x5_6) (lv' := [(5, .int x5_6), (0, .ref (G.1 + 224)), (1, .int x1), (2, .int x2), (4, .int x4)]) X.1 X.2.1 dX9_add_143 hl (k := 4) rfl (by rw [e5_6]; first | rfl | decide) (by decide) rfl (fun ls hl => ?_)
        refine lv_goto (tgt := 111) X.1 X.2.1 dX9_add_146 (by decide) ?_
        exact hk111 x5_6 S_5 _ (lv_sub hl [1, 2, 3, 4, 0] rfl) h _ _ hP hS
  have B86 : ∀ (x2 : Int32) (f : Nat) (x4 : Int32) (S : St) (ls : Array Slot), lv_has ls 6 [(0, .ref (G.1 + 224)), (1, .int x1), (2, .int x2), (4, .int x4)] → q_it (fun _ _ => False) (w_X9_add_86 x1 K x2) f x4 S → q_W p l e (k2_rm 2 53) s m args below meth c 0 0 (MQ below (q_Qc G K v_v) args s 0 0 (fr_ G)) G 86 ls [] S := by
    intro x2 f
    induction f with
    | zero => intro x4 S ls hl h; exact False.elim h
    | succ f hk86 =>
      intro x4 S ls hl h H locs hP hS
      have h : w_X9_add_86 x1 K x2 (q_it (fun _ _ => False) (w_X9_add_86 x1 K x2) f) x4 S := h
      generalize q_it (fun _ _ => False) (w_X9_add_86 x1 K x2) f = k86 at h hk86
      refine lv_iload X.1 X.2.1 dX9_add_86 (lv_at hl 3 rfl) ?_
      refine lv_iload_n X.1 X.2.1 dX9_add_88 rfl (lv_at hl 2 rfl) ?_
      refine lv_icmp_le (tgt := 155) X.1 X.2.1 dX9_add_89 (by decide) (fun c_1 => ?_) (fun c_1 => ?_)
      · have h := h.1 c_1
        refine lv_aload_n X.1 X.2.1 dX9_add_155 rfl (lv_at hl 0 rfl) ?_
        refine gf_X9_rowNumber X hK hP tl_X9_32 dX9_add_156 ?_
        refine lv_iload_n X.1 X.2.1 dX9_add_159 rfl (lv_at hl 2 rfl) ?_
        refine lv_iload_n X.1 X.2.1 dX9_add_160 rfl (lv_at hl 1 rfl) ?_
        obtain ⟨o_2, h⟩ := h
        refine q_iast X hK hP hS kz_230 o_2 dX9_add_161 (fun S_3 H locs eS_3 hP hS => ?_)
        have h := h S_3 eS_3
        refine lv_iconst (v := 0) X.1 X.2.1 dX9_add_162 (by decide) ?_
        refine lv_istore (lv' := [(4, .int 0), (0, .ref (G.1 + 224)), (1, .int x1), (2, .int x2)]) X.1 X.2.1 dX9_add_163 hl (by decide) rfl (fun ls hl => ?_)
        obtain ⟨f_4, h⟩ := h
        exact B165 x2 f_4 0 S_3 _ (lv_sub hl [1, 3, 0] rfl) h _ _ hP hS
      · have h := h.2 c_1
        refine lv_aload_n X.1 X.2.1 dX9_add_92 rfl (lv_at hl 0 rfl) ?_
        refine gf_X9_rowNumber X hK hP tl_X9_32 dX9_add_93 ?_
        refine lv_iload X.1 X.2.1 dX9_add_96 (lv_at hl 3 rfl) ?_
        refine lv_aload_n X.1 X.2.1 dX9_add_98 rfl (lv_at hl 0 rfl) ?_
        refine gf_X9_rowNumber X hK hP tl_X9_32 dX9_add_99 ?_
        refine lv_iload X.1 X.2.1 dX9_add_102 (lv_at hl 3 rfl) ?_
        refine lv_iconst (v := 1) X.1 X.2.1 dX9_add_104 (by decide) ?_
        refine lv_isub X.1 X.2.1 dX9_add_105 ?_
        obtain ⟨o_5, h⟩ := h
        refine q_iald X hK hP kz_230 o_5 dX9_add_106 ?_
        obtain ⟨o_6, h⟩ := h
        refine q_iast X hK hP hS kz_230 o_6 dX9_add_107 (fun S_7 H locs eS_7 hP hS => ?_)
        have h := h S_7 eS_7
        refine lv_iconst (v := 0) X.1 X.2.1 dX9_add_108 (by decide) ?_
        refine lv_istore (lv' := [(5, .int 0), (0, .ref (G.1 + 224)), (1, .int x1), (2, .int x2), (4, .int x4)]) X.1 X.2.1 dX9_add_109 hl (by decide) rfl (fun ls hl => ?_)
        obtain ⟨f_8, h⟩ := h
        exact B111 x2 x4 k86 hk86 f_8 0 S_7 _ (lv_sub hl [1, 2, 3, 4, 0] rfl) h _ _ hP hS
  have B80 : ∀ (x2 : Int32) (S : St) (ls : Array Slot), lv_has ls 6 [(0, .ref (G.1 + 224)), (1, .int x1), (2, .int x2)] → w_X9_add_80 x1 K x2 S → q_W p l e (k2_rm 2 53) s m args below meth c 0 0 (MQ below (q_Qc G K v_v) args s 0 0 (fr_ G)) G 80 ls [] S := by
    intro x2 S ls hl h H locs hP hS
    refine lv_aload_n X.1 X.2.1 dX9_add_80 rfl (lv_at hl 0 rfl) ?_
    refine gf_X9_row X hK hP tl_X9_90 dX9_add_81 ?_
    refine lv_topi (fun x4_1 e4_1 => ?_)
    have h := h x4_1 e4_1
    refine lv_istore (lv' := [(4, .int x4_1), (0, .ref (G.1 + 224)), (1, .int x1), (2, .int x2)]) X.1 X.2.1 dX9_add_84 hl (by decide) rfl (fun ls hl => ?_)
    obtain ⟨f_2, h⟩ := h
    exact B86 x2 f_2 x4_1 S _ (lv_sub hl [1, 2, 3, 0] rfl) h _ _ hP hS
  have B48 : ∀ (x2 : Int32) (x3 : Int32) (S : St) (ls : Array Slot), lv_has ls 6 [(0, .ref (G.1 + 224)), (1, .int x1), (2, .int x2), (3, .int x3)] → w_X9_add_48 x1 K x2 x3 S → q_W p l e (k2_rm 2 53) s m args below meth c 0 0 (MQ below (q_Qc G K v_v) args s 0 0 (fr_ G)) G 48 ls [] S := by
    intro x2 x3 S ls hl h H locs hP hS
    refine lv_iload_n X.1 X.2.1 dX9_add_48 rfl (lv_at hl 2 rfl) ?_
    refine lv_aload_n X.1 X.2.1 dX9_add_49 rfl (lv_at hl 0 rfl) ?_
    refine gf_X9_row X hK hP tl_X9_90 dX9_add_50 ?_
    refine lv_icmp_ge (tgt := 80) X.1 X.2.1 dX9_add_53 (by decide) (fun c_1 => ?_) (fun c_1 => ?_)
    · have h := h.1 c_1
      exact B80 x2 S _ (lv_sub hl [0, 1, 2] rfl) h _ _ hP hS
    · have h := h.2 c_1
      refine lv_iload_n X.1 X.2.1 dX9_add_56 rfl (lv_at hl 3 rfl) ?_
      refine lv_if_ne (tgt := 80) X.1 X.2.1 dX9_add_57 (by decide) (fun c_2 => ?_) (fun c_2 => ?_)
      · have h := h.1 c_2
        exact B80 x2 S _ (lv_sub hl [0, 1, 2] rfl) h _ _ hP hS
      · have h := h.2 c_2
        refine lv_aload_n X.1 X.2.1 dX9_add_60 rfl (lv_at hl 0 rfl) ?_
        refine gf_X9_rowNumber X hK hP tl_X9_32 dX9_add_61 ?_
        refine lv_iload_n X.1 X.2.1 dX9_add_64 rfl (lv_at hl 2 rfl) ?_
        refine lv_aload_n X.1 X.2.1 dX9_add_65 rfl (lv_at hl 0 rfl) ?_
        refine gf_X9_rowNumber X hK hP tl_X9_32 dX9_add_66 ?_
        refine lv_iload_n X.1 X.2.1 dX9_add_69 rfl (lv_at hl 2 rfl) ?_
        obtain ⟨o_3, h⟩ := h
        refine q_iald X hK hP kz_230 o_3 dX9_add_70 ?_
        refine lv_iload_n X.1 X.2.1 dX9_add_71 rfl (lv_at hl 1 rfl) ?_
        refine lv_iadd X.1 X.2.1 dX9_add_72 ?_
        refine lv_aload_n X.1 X.2.1 dX9_add_73 rfl (lv_at hl 0 rfl) ?_
        refine gf_X9_p X hK hP tl_X9_72 dX9_add_74 ?_
        obtain ⟨o_4, h⟩ := h
        refine lv_irem X.1 X.2.1 dX9_add_77 o_4 ?_
        refine q_iast X hK hP hS kz_230 o_3 dX9_add_78 (fun S_5 H locs eS_5 hP hS => ?_)
        have h := h S_5 eS_5
        exact q_vret X hr hlocks hP hS h dX9_add_79
  have B43 : ∀ (x3 : Int32) (z0 : Int32) (z1 : Int32) (k4 : Int32 → Int32 → St → Prop) (hk4 : ∀ (x2 : Int32) (x3 : Int32) (S : St) (ls : Array Slot), lv_has ls 6 [(0, .ref (G.1 + 224)), (1, .int x1), (2, .int x2), (3, .int x3)] → k4 x2 x3 S → q_W p l e (k2_rm 2 53) s m args below meth c 0 0 (MQ below (q_Qc G K v_v) args s 0 0 (fr_ G)) G 4 ls [] S) (S : St) (ls : Array Slot), lv_has ls 6 [(0, .ref (G.1 + 224)), (1, .int x1), (3, .int x3)] → w_X9_add_43 x1 K k4 x3 z0 z1 S → q_W p l e (k2_rm 2 53) s m args below meth c 0 0 (MQ below (q_Qc G K v_v) args s 0 0 (fr_ G)) G 43 ls [.int z1, .int z0] S := by
    intro x3 z0 z1 k4 hk4 S ls hl h H locs hP hS
    refine lv_iadd X.1 X.2.1 dX9_add_43 ?_
    refine lv_topi (fun x2_1 e2_1 => ?_)
    have h := h x2_1 e2_1
    refine lv_istore_n (lv' := [(2, .int x2_1), (0, .ref (G.1 + 224)), (1, .int x1), (3, .int x3)]) X.1 X.2.1 dX9_add_44 rfl hl (by decide) rfl (fun ls hl => ?_)
    refine lv_goto (tgt := 4) X.1 X.2.1 dX9_add_45 (by decide) ?_
    exact hk4 x2_1 x3 S _ (lv_sub hl [1, 2, 0, 3] rfl) h _ _ hP hS
  have B4 : ∀ (f : Nat) (x2 : Int32) (x3 : Int32) (S : St) (ls : Array Slot), lv_has ls 6 [(0, .ref (G.1 + 224)), (1, .int x1), (2, .int x2), (3, .int x3)] → q_it (fun _ _ _ => False) (w_X9_add_4 x1 K) f x2 x3 S → q_W p l e (k2_rm 2 53) s m args below meth c 0 0 (MQ below (q_Qc G K v_v) args s 0 0 (fr_ G)) G 4 ls [] S := by
    intro f
    induction f with
    | zero => intro x2 x3 S ls hl h; exact False.elim h
    | succ f hk4 =>
      intro x2 x3 S ls hl h H locs hP hS
      have h : w_X9_add_4 x1 K (q_it (fun _ _ _ => False) (w_X9_add_4 x1 K) f) x2 x3 S := h
      generalize q_it (fun _ _ _ => False) (w_X9_add_4 x1 K) f = k4 at h hk4
      refine lv_iload_n X.1 X.2.1 dX9_add_4 rfl (lv_at hl 2 rfl) ?_
      refine lv_aload_n X.1 X.2.1 dX9_add_5 rfl (lv_at hl 0 rfl) ?_
      refine gf_X9_row X hK hP tl_X9_90 dX9_add_6 ?_
      refine lv_icmp_ge (tgt := 48) X.1 X.2.1 dX9_add_9 (by decide) (fun c_1 => ?_) (fun c_1 => ?_)
      · have h := h.1 c_1
        exact B48 x2 x3 S _ (lv_sub hl [0, 1, 2, 3] rfl) h _ _ hP hS
      · have h := h.2 c_1
        refine lv_iload_n X.1 X.2.1 dX9_add_12 rfl (lv_at hl 3 rfl) ?_
        refine lv_if_le (tgt := 48) X.1 X.2.1 dX9_add_13 (by decide) (fun c_2 => ?_) (fun c_2 => ?_)
        · have h := h.1 c_2
          exact B48 x2 x3 S _ (lv_sub hl [0, 1, 2, 3] rfl) h _ _ hP hS
        · have h := h.2 c_2
          refine lv_aload_n X.1 X.2.1 dX9_add_16 rfl (lv_at hl 0 rfl) ?_
          refine lv_aload_n X.1 X.2.1 dX9_add_17 rfl (lv_at hl 0 rfl) ?_
          refine gf_X9_rowExponents X hK hP tl_X9_35 dX9_add_18 ?_
          refine lv_iconst (v := 4) X.1 X.2.1 dX9_add_21 (by decide) ?_
          refine lv_iload_n X.1 X.2.1 dX9_add_22 rfl (lv_at hl 2 rfl) ?_
          refine lv_imul X.1 X.2.1 dX9_add_23 ?_
          refine lv_aload_n X.1 X.2.1 dX9_add_24 rfl (lv_at hl 0 rfl) ?_
          refine gf_X9_one X hK hP tl_X9_38 dX9_add_25 ?_
          refine lv_iconst (v := 0) X.1 X.2.1 dX9_add_28 (by decide) ?_
          refine q_callV (rest := []) (b := 224) X hK hP hS (c_X9_stand l G 231 (4 * x2) 232 0 S _ ⟨kz_231.1, rfl⟩ ⟨kz_232.1, rfl⟩ h) my_X9_stand tl_X9_93 dX9_add_29 kz_224 rfl rfl rfl ⟨Nat.le_of_ble_eq_true rfl, Nat.le_of_ble_eq_true rfl⟩ hl.1 rfl (Nat.le_of_ble_eq_true rfl) ⟨Nat.le_of_ble_eq_true rfl, Nat.le_of_ble_eq_true rfl⟩ (fun r_4 S_3 H locs h hP hS => ?_)
          refine W.eq (g2 := F0 m 32 ls [.int r_4]) rfl ?_
          refine lv_istore_n (lv' := [(3, .int r_4), (0, .ref (G.1 + 224)), (1, .int x1), (2, .int x2)]) X.1 X.2.1 dX9_add_32 rfl hl (by decide) rfl (fun ls hl => ?_)
          refine lv_iload_n X.1 X.2.1 dX9_add_33 rfl (lv_at hl 3 rfl) ?_
          refine lv_iload_n X.1 X.2.1 dX9_add_34 rfl (lv_at hl 0 rfl) ?_
          refine lv_if_le (tgt := 42) X.1 X.2.1 dX9_add_35 (by decide) (fun c_5 => ?_) (fun c_5 => ?_)
          · have h := h.1 c_5
            refine lv_iconst (v := 0) X.1 X.2.1 dX9_add_42 (by decide) ?_
            exact B43 r_4 x2 0 k4 hk4 S_3 _ (lv_sub hl [1, 2, 0] rfl) h _ _ hP hS
          · have h := h.2 c_5
            refine lv_iconst (v := 1) X.1 X.2.1 dX9_add_38 (by decide) ?_
            refine lv_goto (tgt := 43) X.1 X.2.1 dX9_add_39 (by decide) ?_
            exact B43 r_4 x2 1 k4 hk4 S_3 _ (lv_sub hl [1, 2, 0] rfl) h _ _ hP hS
  refine lv_iconst (v := 0) X.1 X.2.1 dX9_add_0 (by decide) ?_
  refine lv_istore_n (lv' := [(2, .int 0), (0, .ref (G.1 + 224)), (1, .int x1)]) X.1 X.2.1 dX9_add_1 rfl hl (by decide) rfl (fun ls hl => ?_)
  refine lv_iconst (v := 1) X.1 X.2.1 dX9_add_2 (by decide) ?_
  refine lv_istore_n (lv' := [(3, .int 1), (2, .int 0), (0, .ref (G.1 + 224)), (1, .int x1)]) X.1 X.2.1 dX9_add_3 rfl hl (by decide) rfl (fun ls hl => ?_)
  obtain ⟨f_1, h⟩ := h
  exact B4 f_1 0 1 S _ (lv_sub hl [2, 3, 1, 0] rfl) h _ _ hP hS

set_option maxHeartbeats 4000000 in
set_option maxRecDepth 100000 in
theorem c_X9_addTimes (l : Launch) (G : Cx) (x1 : Int32) (x2 : Int32) (S : St) (K : Int32 → St → Prop) (h : w_X9_addTimes x1 x2 S K) : q_Met l yX9_addTimes cX9_addTimes 5 (some .boolean) 3 78 G [.ref (G.1 + 224), .int x1, .int x2] v_i S K := by
  refine q_enter (by decide +kernel) (Nat.le_of_ble_eq_true rfl) (fun p e s m args below meth c ls X hK hP hr hlocks hl => ?_)
  have hS : va_S (fr_ G) s.heap s.heap [] := va_S.rf
  have hl : lv_has ls 5 [(0, .ref (G.1 + 224)), (1, .int x1), (2, .int x2)] := hl
  have B156 : ∀ (S : St) (ls : Array Slot), lv_has ls 5 [] → w_X9_addTimes_156 x1 x2 K S → q_W p l e (k2_rm 3 78) s m args below meth c 0 0 (MQ below (q_Qc G K v_i) args s 0 0 (fr_ G)) G 156 ls [] S := by
    intro S ls hl h H locs hP hS
    refine lv_iconst (v := 1) X.1 X.2.1 dX9_addTimes_156 (by decide) ?_
    exact q_iret X hr hlocks hP hS rfl h dX9_addTimes_157
  have B84 : ∀ (x3 : Int32) (k67 : Int32 → St → Prop) (hk67 : ∀ (x3 : Int32) (S : St) (ls : Array Slot), lv_has ls 5 [(0, .ref (G.1 + 224)), (1, .int x1), (2, .int x2), (3, .int x3)] → k67 x3 S → q_W p l e (k2_rm 3 78) s m args below meth c 0 0 (MQ below (q_Qc G K v_i) args s 0 0 (fr_ G)) G 67 ls [] S) (f : Nat) (x4 : Int32) (S : St) (ls : Array Slot), lv_has ls 5 [(0, .ref (G.1 + 224)), (1, .int x1), (2, .int x2), (3, .int x3), (4, .int x4)] → q_it (fun _ _ => False) (w_X9_addTimes_84 x1 x2 K k67 x3) f x4 S → q_W p l e (k2_rm 3 78) s m args below meth c 0 0 (MQ below (q_Qc G K v_i) args s 0 0 (fr_ G)) G 84 ls [] S := by
    intro x3 k67 hk67 f
    induction f with
    | zero => intro x4 S ls hl h; exact False.elim h
    | succ f hk84 =>
      intro x4 S ls hl h H locs hP hS
      have h : w_X9_addTimes_84 x1 x2 K k67 x3 (q_it (fun _ _ => False) (w_X9_addTimes_84 x1 x2 K k67 x3) f) x4 S := h
      generalize q_it (fun _ _ => False) (w_X9_addTimes_84 x1 x2 K k67 x3) f = k84 at h hk84
      refine lv_iload X.1 X.2.1 dX9_addTimes_84 (lv_at hl 4 rfl) ?_
      refine lv_iconst (v := 4) X.1 X.2.1 dX9_addTimes_86 (by decide) ?_
      refine lv_icmp_ge (tgt := 128) X.1 X.2.1 dX9_addTimes_87 (by decide) (fun c_1 => ?_) (fun c_1 => ?_)
      · have h := h.1 c_1
        refine lv_aload_n X.1 X.2.1 dX9_addTimes_128 rfl (lv_at hl 0 rfl) ?_
        refine lv_aload_n X.1 X.2.1 dX9_addTimes_129 rfl (lv_at hl 0 rfl) ?_
        refine gf_X9_numbers X hK hP tl_X9_17 dX9_addTimes_130 ?_
        refine lv_bipush (v := 40) X.1 X.2.1 dX9_addTimes_133 (by decide) ?_
        refine lv_iload_n X.1 X.2.1 dX9_addTimes_135 rfl (lv_at hl 1 rfl) ?_
        refine lv_imul X.1 X.2.1 dX9_addTimes_136 ?_
        refine lv_iload_n X.1 X.2.1 dX9_addTimes_137 rfl (lv_at hl 3 rfl) ?_
        refine lv_iadd X.1 X.2.1 dX9_addTimes_138 ?_
        obtain ⟨o_2, h⟩ := h
        refine q_iald X hK hP kz_226 o_2 dX9_addTimes_139 ?_
        refine lv_iload_n X.1 X.2.1 dX9_addTimes_140 rfl (lv_at hl 2 rfl) ?_
        refine lv_imul X.1 X.2.1 dX9_addTimes_141 ?_
        refine lv_aload_n X.1 X.2.1 dX9_addTimes_142 rfl (lv_at hl 0 rfl) ?_
        refine gf_X9_p X hK hP tl_X9_72 dX9_addTimes_143 ?_
        obtain ⟨o_3, h⟩ := h
        refine lv_irem X.1 X.2.1 dX9_addTimes_146 o_3 ?_
        refine q_callV (rest := []) (b := 224) X hK hP hS (c_X9_add l G (((S 226 (q_rf ((40 * x1) + x3))) * x2) - ((S 226 (q_rf ((40 * x1) + x3))) * x2) / (S 224 0) * (S 224 0)) S _ h) my_X9_add tl_X9_96 dX9_addTimes_147 kz_224 rfl rfl rfl ⟨Nat.le_of_ble_eq_true rfl, Nat.le_of_ble_eq_true rfl⟩ hl.1 rfl (Nat.le_of_ble_eq_true rfl) ⟨Nat.le_of_ble_eq_true rfl, Nat.le_of_ble_eq_true rfl⟩ (fun r_5 S_4 H locs h hP hS => ?_)
        refine W.eq (g2 := F0 m 150 ls []) rfl ?_
        obtain ⟨x3_6, e3_6⟩ : ∃ y : Int32, y = x3 + 1 := ⟨_, rfl⟩
        have h := h x3_6 e3_6
        refine lv_iinc (v := x3_6) (lv' := [(3, .int x3_6), (0, .ref (G.1 + 224)), (1, .int x1), (2, .int x2), (4, .int x4)]) X.1 X.2.1 dX9_addTimes_150 hl (k := 3) rfl (by rw [e3_6]; first | rfl | decide) (by decide) rfl (fun ls hl => ?_)
        refine lv_goto (tgt := 67) X.1 X.2.1 dX9_addTimes_153 (by decide) ?_
        exact hk67 x3_6 S_4 _ (lv_sub hl [1, 2, 3, 0] rfl) h _ _ hP hS
      · have h := h.2 c_1
        refine lv_aload_n X.1 X.2.1 dX9_addTimes_90 rfl (lv_at hl 0 rfl) ?_
        refine gf_X9_one X hK hP tl_X9_38 dX9_addTimes_91 ?_
        refine lv_iload X.1 X.2.1 dX9_addTimes_94 (lv_at hl 4 rfl) ?_
        refine lv_aload_n X.1 X.2.1 dX9_addTimes_96 rfl (lv_at hl 0 rfl) ?_
        refine gf_X9_exponents X hK hP tl_X9_20 dX9_addTimes_97 ?_
        refine lv_sipush (v := 160) X.1 X.2.1 dX9_addTimes_100 (by decide) ?_
        refine lv_iload_n X.1 X.2.1 dX9_addTimes_103 rfl (lv_at hl 1 rfl) ?_
        refine lv_imul X.1 X.2.1 dX9_addTimes_104 ?_
        refine lv_iconst (v := 4) X.1 X.2.1 dX9_addTimes_105 (by decide) ?_
        refine lv_iload_n X.1 X.2.1 dX9_addTimes_106 rfl (lv_at hl 3 rfl) ?_
        refine lv_imul X.1 X.2.1 dX9_addTimes_107 ?_
        refine lv_iadd X.1 X.2.1 dX9_addTimes_108 ?_
        refine lv_iload X.1 X.2.1 dX9_addTimes_109 (lv_at hl 4 rfl) ?_
        refine lv_iadd X.1 X.2.1 dX9_addTimes_111 ?_
        obtain ⟨o_7, h⟩ := h
        refine q_iald X hK hP kz_227 o_7 dX9_addTimes_112 ?_
        refine lv_aload_n X.1 X.2.1 dX9_addTimes_113 rfl (lv_at hl 0 rfl) ?_
        refine gf_X9_by X hK hP tl_X9_41 dX9_addTimes_114 ?_
        refine lv_iload X.1 X.2.1 dX9_addTimes_117 (lv_at hl 4 rfl) ?_
        obtain ⟨o_8, h⟩ := h
        refine q_iald X hK hP kz_233 o_8 dX9_addTimes_119 ?_
        refine lv_iadd X.1 X.2.1 dX9_addTimes_120 ?_
        refine q_iast X hK hP hS kz_232 o_8 dX9_addTimes_121 (fun S_9 H locs eS_9 hP hS => ?_)
        have h := h S_9 eS_9
        obtain ⟨x4_10, e4_10⟩ : ∃ y : Int32, y = x4 + 1 := ⟨_, rfl⟩
        have h := h x4_10 e4_10
        refine lv_iinc (v := x4_10) (lv' := [(4, .int x4_10), (0, .ref (G.1 + 224)), (1, .int x1), (2, .int x2), (3, .int x3)]) X.1 X.2.1 dX9_addTimes_122 hl (k := 4) rfl (by rw [e4_10]; first | rfl | decide) (by decide) rfl (fun ls hl => ?_)
        refine lv_goto (tgt := 84) X.1 X.2.1 dX9_addTimes_125 (by decide) ?_
        exact hk84 x4_10 S_9 _ (lv_sub hl [1, 2, 3, 4, 0] rfl) h _ _ hP hS
  have B67 : ∀ (f : Nat) (x3 : Int32) (S : St) (ls : Array Slot), lv_has ls 5 [(0, .ref (G.1 + 224)), (1, .int x1), (2, .int x2), (3, .int x3)] → q_it (fun _ _ => False) (w_X9_addTimes_67 x1 x2 K) f x3 S → q_W p l e (k2_rm 3 78) s m args below meth c 0 0 (MQ below (q_Qc G K v_i) args s 0 0 (fr_ G)) G 67 ls [] S := by
    intro f
    induction f with
    | zero => intro x3 S ls hl h; exact False.elim h
    | succ f hk67 =>
      intro x3 S ls hl h H locs hP hS
      have h : w_X9_addTimes_67 x1 x2 K (q_it (fun _ _ => False) (w_X9_addTimes_67 x1 x2 K) f) x3 S := h
      generalize q_it (fun _ _ => False) (w_X9_addTimes_67 x1 x2 K) f = k67 at h hk67
      refine lv_iload_n X.1 X.2.1 dX9_addTimes_67 rfl (lv_at hl 3 rfl) ?_
      refine lv_aload_n X.1 X.2.1 dX9_addTimes_68 rfl (lv_at hl 0 rfl) ?_
      refine gf_X9_many X hK hP tl_X9_13 dX9_addTimes_69 ?_
      refine lv_iload_n X.1 X.2.1 dX9_addTimes_72 rfl (lv_at hl 1 rfl) ?_
      obtain ⟨o_1, h⟩ := h
      refine q_iald X hK hP kz_225 o_1 dX9_addTimes_73 ?_
      refine lv_icmp_ge (tgt := 156) X.1 X.2.1 dX9_addTimes_74 (by decide) (fun c_2 => ?_) (fun c_2 => ?_)
      · have h := h.1 c_2
        exact B156 S _ (lv_sub hl [] rfl) h _ _ hP hS
      · have h := h.2 c_2
        refine lv_iload_n X.1 X.2.1 dX9_addTimes_77 rfl (lv_at hl 2 rfl) ?_
        refine lv_if_eq (tgt := 156) X.1 X.2.1 dX9_addTimes_78 (by decide) (fun c_3 => ?_) (fun c_3 => ?_)
        · have h := h.1 c_3
          exact B156 S _ (lv_sub hl [] rfl) h _ _ hP hS
        · have h := h.2 c_3
          refine lv_iconst (v := 0) X.1 X.2.1 dX9_addTimes_81 (by decide) ?_
          refine lv_istore (lv' := [(4, .int 0), (0, .ref (G.1 + 224)), (1, .int x1), (2, .int x2), (3, .int x3)]) X.1 X.2.1 dX9_addTimes_82 hl (by decide) rfl (fun ls hl => ?_)
          obtain ⟨f_4, h⟩ := h
          exact B84 x3 k67 hk67 f_4 0 S _ (lv_sub hl [1, 2, 3, 4, 0] rfl) h _ _ hP hS
  have B15 : ∀ (x3 : Int32) (k2 : Int32 → St → Prop) (hk2 : ∀ (x3 : Int32) (S : St) (ls : Array Slot), lv_has ls 5 [(0, .ref (G.1 + 224)), (1, .int x1), (2, .int x2), (3, .int x3)] → k2 x3 S → q_W p l e (k2_rm 3 78) s m args below meth c 0 0 (MQ below (q_Qc G K v_i) args s 0 0 (fr_ G)) G 2 ls [] S) (f : Nat) (x4 : Int32) (S : St) (ls : Array Slot), lv_has ls 5 [(0, .ref (G.1 + 224)), (1, .int x1), (2, .int x2), (3, .int x3), (4, .int x4)] → q_it (fun _ _ => False) (w_X9_addTimes_15 x1 x2 K k2 x3) f x4 S → q_W p l e (k2_rm 3 78) s m args below meth c 0 0 (MQ below (q_Qc G K v_i) args s 0 0 (fr_ G)) G 15 ls [] S := by
    intro x3 k2 hk2 f
    induction f with
    | zero => intro x4 S ls hl h; exact False.elim h
    | succ f hk15 =>
      intro x4 S ls hl h H locs hP hS
      have h : w_X9_addTimes_15 x1 x2 K k2 x3 (q_it (fun _ _ => False) (w_X9_addTimes_15 x1 x2 K k2 x3) f) x4 S := h
      generalize q_it (fun _ _ => False) (w_X9_addTimes_15 x1 x2 K k2 x3) f = k15 at h hk15
      refine lv_iload X.1 X.2.1 dX9_addTimes_15 (lv_at hl 4 rfl) ?_
      refine lv_iconst (v := 4) X.1 X.2.1 dX9_addTimes_17 (by decide) ?_
      refine lv_icmp_ge (tgt := 59) X.1 X.2.1 dX9_addTimes_18 (by decide) (fun c_1 => ?_) (fun c_1 => ?_)
      · have h := h.1 c_1
        obtain ⟨x3_2, e3_2⟩ : ∃ y : Int32, y = x3 + 1 := ⟨_, rfl⟩
        have h := h x3_2 e3_2
        refine lv_iinc (v := x3_2) (lv' := [(3, .int x3_2), (0, .ref (G.1 + 224)), (1, .int x1), (2, .int x2), (4, .int x4)]) X.1 X.2.1 dX9_addTimes_59 hl (k := 3) rfl (by rw [e3_2]; first | rfl | decide) (by decide) rfl (fun ls hl => ?_)
        refine lv_goto (tgt := 2) X.1 X.2.1 dX9_addTimes_62 (by decide) ?_
        exact hk2 x3_2 S _ (lv_sub hl [1, 2, 3, 0] rfl) h _ _ hP hS
      · have h := h.2 c_1
        refine lv_aload_n X.1 X.2.1 dX9_addTimes_21 rfl (lv_at hl 0 rfl) ?_
        refine gf_X9_exponents X hK hP tl_X9_20 dX9_addTimes_22 ?_
        refine lv_sipush (v := 160) X.1 X.2.1 dX9_addTimes_25 (by decide) ?_
        refine lv_iload_n X.1 X.2.1 dX9_addTimes_28 rfl (lv_at hl 1 rfl) ?_
        refine lv_imul X.1 X.2.1 dX9_addTimes_29 ?_
        refine lv_iconst (v := 4) X.1 X.2.1 dX9_addTimes_30 (by decide) ?_
        refine lv_iload_n X.1 X.2.1 dX9_addTimes_31 rfl (lv_at hl 3 rfl) ?_
        refine lv_imul X.1 X.2.1 dX9_addTimes_32 ?_
        refine lv_iadd X.1 X.2.1 dX9_addTimes_33 ?_
        refine lv_iload X.1 X.2.1 dX9_addTimes_34 (lv_at hl 4 rfl) ?_
        refine lv_iadd X.1 X.2.1 dX9_addTimes_36 ?_
        obtain ⟨o_3, h⟩ := h
        refine q_iald X hK hP kz_227 o_3 dX9_addTimes_37 ?_
        refine lv_aload_n X.1 X.2.1 dX9_addTimes_38 rfl (lv_at hl 0 rfl) ?_
        refine gf_X9_by X hK hP tl_X9_41 dX9_addTimes_39 ?_
        refine lv_iload X.1 X.2.1 dX9_addTimes_42 (lv_at hl 4 rfl) ?_
        obtain ⟨o_4, h⟩ := h
        refine q_iald X hK hP kz_233 o_4 dX9_addTimes_44 ?_
        refine lv_iadd X.1 X.2.1 dX9_addTimes_45 ?_
        refine lv_bipush (v := 30) X.1 X.2.1 dX9_addTimes_46 (by decide) ?_
        refine lv_icmp_le (tgt := 53) X.1 X.2.1 dX9_addTimes_48 (by decide) (fun c_5 => ?_) (fun c_5 => ?_)
        · have h := h.1 c_5
          obtain ⟨x4_6, e4_6⟩ : ∃ y : Int32, y = x4 + 1 := ⟨_, rfl⟩
          have h := h x4_6 e4_6
          refine lv_iinc (v := x4_6) (lv' := [(4, .int x4_6), (0, .ref (G.1 + 224)), (1, .int x1), (2, .int x2), (3, .int x3)]) X.1 X.2.1 dX9_addTimes_53 hl (k := 4) rfl (by rw [e4_6]; first | rfl | decide) (by decide) rfl (fun ls hl => ?_)
          refine lv_goto (tgt := 15) X.1 X.2.1 dX9_addTimes_56 (by decide) ?_
          exact hk15 x4_6 S _ (lv_sub hl [1, 2, 3, 4, 0] rfl) h _ _ hP hS
        · have h := h.2 c_5
          refine lv_iconst (v := 0) X.1 X.2.1 dX9_addTimes_51 (by decide) ?_
          exact q_iret X hr hlocks hP hS rfl h dX9_addTimes_52
  have B2 : ∀ (f : Nat) (x3 : Int32) (S : St) (ls : Array Slot), lv_has ls 5 [(0, .ref (G.1 + 224)), (1, .int x1), (2, .int x2), (3, .int x3)] → q_it (fun _ _ => False) (w_X9_addTimes_2 x1 x2 K) f x3 S → q_W p l e (k2_rm 3 78) s m args below meth c 0 0 (MQ below (q_Qc G K v_i) args s 0 0 (fr_ G)) G 2 ls [] S := by
    intro f
    induction f with
    | zero => intro x3 S ls hl h; exact False.elim h
    | succ f hk2 =>
      intro x3 S ls hl h H locs hP hS
      have h : w_X9_addTimes_2 x1 x2 K (q_it (fun _ _ => False) (w_X9_addTimes_2 x1 x2 K) f) x3 S := h
      generalize q_it (fun _ _ => False) (w_X9_addTimes_2 x1 x2 K) f = k2 at h hk2
      refine lv_iload_n X.1 X.2.1 dX9_addTimes_2 rfl (lv_at hl 3 rfl) ?_
      refine lv_aload_n X.1 X.2.1 dX9_addTimes_3 rfl (lv_at hl 0 rfl) ?_
      refine gf_X9_many X hK hP tl_X9_13 dX9_addTimes_4 ?_
      refine lv_iload_n X.1 X.2.1 dX9_addTimes_7 rfl (lv_at hl 1 rfl) ?_
      obtain ⟨o_1, h⟩ := h
      refine q_iald X hK hP kz_225 o_1 dX9_addTimes_8 ?_
      refine lv_icmp_ge (tgt := 65) X.1 X.2.1 dX9_addTimes_9 (by decide) (fun c_2 => ?_) (fun c_2 => ?_)
      · have h := h.1 c_2
        refine lv_iconst (v := 0) X.1 X.2.1 dX9_addTimes_65 (by decide) ?_
        refine lv_istore_n (lv' := [(3, .int 0), (0, .ref (G.1 + 224)), (1, .int x1), (2, .int x2)]) X.1 X.2.1 dX9_addTimes_66 rfl hl (by decide) rfl (fun ls hl => ?_)
        obtain ⟨f_3, h⟩ := h
        exact B67 f_3 0 S _ (lv_sub hl [1, 2, 3, 0] rfl) h _ _ hP hS
      · have h := h.2 c_2
        refine lv_iconst (v := 0) X.1 X.2.1 dX9_addTimes_12 (by decide) ?_
        refine lv_istore (lv' := [(4, .int 0), (0, .ref (G.1 + 224)), (1, .int x1), (2, .int x2), (3, .int x3)]) X.1 X.2.1 dX9_addTimes_13 hl (by decide) rfl (fun ls hl => ?_)
        obtain ⟨f_4, h⟩ := h
        exact B15 x3 k2 hk2 f_4 0 S _ (lv_sub hl [1, 2, 3, 4, 0] rfl) h _ _ hP hS
  refine lv_iconst (v := 0) X.1 X.2.1 dX9_addTimes_0 (by decide) ?_
  refine lv_istore_n (lv' := [(3, .int 0), (0, .ref (G.1 + 224)), (1, .int x1), (2, .int x2)]) X.1 X.2.1 dX9_addTimes_1 rfl hl (by decide) rfl (fun ls hl => ?_)
  obtain ⟨f_1, h⟩ := h
  exact B2 f_1 0 S _ (lv_sub hl [1, 2, 3, 0] rfl) h _ _ hP hS

set_option maxHeartbeats 4000000 in
set_option maxRecDepth 100000 in
theorem c_X9_byOne (l : Launch) (G : Cx) (S : St) (K : Unit → St → Prop) (h : w_X9_byOne S K) : q_Met l yX9_byOne cX9_byOne 2 none 0 0 G [.ref (G.1 + 224)] v_v S K := by
  refine q_enter (by decide +kernel) (Nat.le_of_ble_eq_true rfl) (fun p e s m args below meth c ls X hK hP hr hlocks hl => ?_)
  have hS : va_S (fr_ G) s.heap s.heap [] := va_S.rf
  have hl : lv_has ls 2 [(0, .ref (G.1 + 224))] := hl
  have B2 : ∀ (f : Nat) (x1 : Int32) (S : St) (ls : Array Slot), lv_has ls 2 [(0, .ref (G.1 + 224)), (1, .int x1)] → q_it (fun _ _ => False) (w_X9_byOne_2 K) f x1 S → q_W p l e (k2_rm 0 0) s m args below meth c 0 0 (MQ below (q_Qc G K v_v) args s 0 0 (fr_ G)) G 2 ls [] S := by
    intro f
    induction f with
    | zero => intro x1 S ls hl h; exact False.elim h
    | succ f hk2 =>
      intro x1 S ls hl h H locs hP hS
      have h : w_X9_byOne_2 K (q_it (fun _ _ => False) (w_X9_byOne_2 K) f) x1 S := h
      generalize q_it (fun _ _ => False) (w_X9_byOne_2 K) f = k2 at h hk2
      refine lv_iload_n X.1 X.2.1 dX9_byOne_2 rfl (lv_at hl 1 rfl) ?_
      refine lv_iconst (v := 4) X.1 X.2.1 dX9_byOne_3 (by decide) ?_
      refine lv_icmp_ge (tgt := 20) X.1 X.2.1 dX9_byOne_4 (by decide) (fun c_1 => ?_) (fun c_1 => ?_)
      · have h := h.1 c_1
        exact q_vret X hr hlocks hP hS h dX9_byOne_20
      · have h := h.2 c_1
        refine lv_aload_n X.1 X.2.1 dX9_byOne_7 rfl (lv_at hl 0 rfl) ?_
        refine gf_X9_by X hK hP tl_X9_41 dX9_byOne_8 ?_
        refine lv_iload_n X.1 X.2.1 dX9_byOne_11 rfl (lv_at hl 1 rfl) ?_
        refine lv_iconst (v := 0) X.1 X.2.1 dX9_byOne_12 (by decide) ?_
        obtain ⟨o_2, h⟩ := h
        refine q_iast X hK hP hS kz_233 o_2 dX9_byOne_13 (fun S_3 H locs eS_3 hP hS => ?_)
        have h := h S_3 eS_3
        obtain ⟨x1_4, e1_4⟩ : ∃ y : Int32, y = x1 + 1 := ⟨_, rfl⟩
        have h := h x1_4 e1_4
        refine lv_iinc (v := x1_4) (lv' := [(1, .int x1_4), (0, .ref (G.1 + 224))]) X.1 X.2.1 dX9_byOne_14 hl (k := 1) rfl (by rw [e1_4]; first | rfl | decide) (by decide) rfl (fun ls hl => ?_)
        refine lv_goto (tgt := 2) X.1 X.2.1 dX9_byOne_17 (by decide) ?_
        exact hk2 x1_4 S_3 _ (lv_sub hl [1, 0] rfl) h _ _ hP hS
  refine lv_iconst (v := 0) X.1 X.2.1 dX9_byOne_0 (by decide) ?_
  refine lv_istore_n (lv' := [(1, .int 0), (0, .ref (G.1 + 224))]) X.1 X.2.1 dX9_byOne_1 rfl hl (by decide) rfl (fun ls hl => ?_)
  obtain ⟨f_1, h⟩ := h
  exact B2 f_1 0 S _ (lv_sub hl [1, 0] rfl) h _ _ hP hS

set_option maxHeartbeats 4000000 in
set_option maxRecDepth 100000 in
theorem c_X9_clean (l : Launch) (G : Cx) (S : St) (K : Unit → St → Prop) (h : w_X9_clean S K) : q_Met l yX9_clean cX9_clean 4 none 0 0 G [.ref (G.1 + 224)] v_v S K := by
  refine q_enter (by decide +kernel) (Nat.le_of_ble_eq_true rfl) (fun p e s m args below meth c ls X hK hP hr hlocks hl => ?_)
  have hS : va_S (fr_ G) s.heap s.heap [] := va_S.rf
  have hl : lv_has ls 4 [(0, .ref (G.1 + 224))] := hl
  have B69 : ∀ (x1 : Int32) (x2 : Int32) (k4 : Int32 → Int32 → St → Prop) (hk4 : ∀ (x1 : Int32) (x2 : Int32) (S : St) (ls : Array Slot), lv_has ls 4 [(0, .ref (G.1 + 224)), (1, .int x1), (2, .int x2)] → k4 x1 x2 S → q_W p l e (k2_rm 0 0) s m args below meth c 0 0 (MQ below (q_Qc G K v_v) args s 0 0 (fr_ G)) G 4 ls [] S) (S : St) (ls : Array Slot), lv_has ls 4 [(0, .ref (G.1 + 224)), (1, .int x1), (2, .int x2)] → w_X9_clean_69 K k4 x1 x2 S → q_W p l e (k2_rm 0 0) s m args below meth c 0 0 (MQ below (q_Qc G K v_v) args s 0 0 (fr_ G)) G 69 ls [] S := by
    intro x1 x2 k4 hk4 S ls hl h H locs hP hS
    obtain ⟨x2_1, e2_1⟩ : ∃ y : Int32, y = x2 + 1 := ⟨_, rfl⟩
    have h := h x2_1 e2_1
    refine lv_iinc (v := x2_1) (lv' := [(2, .int x2_1), (0, .ref (G.1 + 224)), (1, .int x1)]) X.1 X.2.1 dX9_clean_69 hl (k := 2) rfl (by rw [e2_1]; first | rfl | decide) (by decide) rfl (fun ls hl => ?_)
    refine lv_goto (tgt := 4) X.1 X.2.1 dX9_clean_72 (by decide) ?_
    exact hk4 x1 x2_1 S _ (lv_sub hl [1, 2, 0] rfl) h _ _ hP hS
  have B35 : ∀ (x1 : Int32) (x2 : Int32) (k4 : Int32 → Int32 → St → Prop) (hk4 : ∀ (x1 : Int32) (x2 : Int32) (S : St) (ls : Array Slot), lv_has ls 4 [(0, .ref (G.1 + 224)), (1, .int x1), (2, .int x2)] → k4 x1 x2 S → q_W p l e (k2_rm 0 0) s m args below meth c 0 0 (MQ below (q_Qc G K v_v) args s 0 0 (fr_ G)) G 4 ls [] S) (f : Nat) (x3 : Int32) (S : St) (ls : Array Slot), lv_has ls 4 [(0, .ref (G.1 + 224)), (1, .int x1), (2, .int x2), (3, .int x3)] → q_it (fun _ _ => False) (w_X9_clean_35 K k4 x1 x2) f x3 S → q_W p l e (k2_rm 0 0) s m args below meth c 0 0 (MQ below (q_Qc G K v_v) args s 0 0 (fr_ G)) G 35 ls [] S := by
    intro x1 x2 k4 hk4 f
    induction f with
    | zero => intro x3 S ls hl h; exact False.elim h
    | succ f hk35 =>
      intro x3 S ls hl h H locs hP hS
      have h : w_X9_clean_35 K k4 x1 x2 (q_it (fun _ _ => False) (w_X9_clean_35 K k4 x1 x2) f) x3 S := h
      generalize q_it (fun _ _ => False) (w_X9_clean_35 K k4 x1 x2) f = k35 at h hk35
      refine lv_iload_n X.1 X.2.1 dX9_clean_35 rfl (lv_at hl 3 rfl) ?_
      refine lv_iconst (v := 4) X.1 X.2.1 dX9_clean_36 (by decide) ?_
      refine lv_icmp_ge (tgt := 66) X.1 X.2.1 dX9_clean_37 (by decide) (fun c_1 => ?_) (fun c_1 => ?_)
      · have h := h.1 c_1
        obtain ⟨x1_2, e1_2⟩ : ∃ y : Int32, y = x1 + 1 := ⟨_, rfl⟩
        have h := h x1_2 e1_2
        refine lv_iinc (v := x1_2) (lv' := [(1, .int x1_2), (0, .ref (G.1 + 224)), (2, .int x2), (3, .int x3)]) X.1 X.2.1 dX9_clean_66 hl (k := 1) rfl (by rw [e1_2]; first | rfl | decide) (by decide) rfl (fun ls hl => ?_)
        exact B69 x1_2 x2 k4 hk4 S _ (lv_sub hl [1, 0, 2] rfl) h _ _ hP hS
      · have h := h.2 c_1
        refine lv_aload_n X.1 X.2.1 dX9_clean_40 rfl (lv_at hl 0 rfl) ?_
        refine gf_X9_rowExponents X hK hP tl_X9_35 dX9_clean_41 ?_
        refine lv_iconst (v := 4) X.1 X.2.1 dX9_clean_44 (by decide) ?_
        refine lv_iload_n X.1 X.2.1 dX9_clean_45 rfl (lv_at hl 1 rfl) ?_
        refine lv_imul X.1 X.2.1 dX9_clean_46 ?_
        refine lv_iload_n X.1 X.2.1 dX9_clean_47 rfl (lv_at hl 3 rfl) ?_
        refine lv_iadd X.1 X.2.1 dX9_clean_48 ?_
        refine lv_aload_n X.1 X.2.1 dX9_clean_49 rfl (lv_at hl 0 rfl) ?_
        refine gf_X9_rowExponents X hK hP tl_X9_35 dX9_clean_50 ?_
        refine lv_iconst (v := 4) X.1 X.2.1 dX9_clean_53 (by decide) ?_
        refine lv_iload_n X.1 X.2.1 dX9_clean_54 rfl (lv_at hl 2 rfl) ?_
        refine lv_imul X.1 X.2.1 dX9_clean_55 ?_
        refine lv_iload_n X.1 X.2.1 dX9_clean_56 rfl (lv_at hl 3 rfl) ?_
        refine lv_iadd X.1 X.2.1 dX9_clean_57 ?_
        obtain ⟨o_3, h⟩ := h
        refine q_iald X hK hP kz_231 o_3 dX9_clean_58 ?_
        obtain ⟨o_4, h⟩ := h
        refine q_iast X hK hP hS kz_231 o_4 dX9_clean_59 (fun S_5 H locs eS_5 hP hS => ?_)
        have h := h S_5 eS_5
        obtain ⟨x3_6, e3_6⟩ : ∃ y : Int32, y = x3 + 1 := ⟨_, rfl⟩
        have h := h x3_6 e3_6
        refine lv_iinc (v := x3_6) (lv' := [(3, .int x3_6), (0, .ref (G.1 + 224)), (1, .int x1), (2, .int x2)]) X.1 X.2.1 dX9_clean_60 hl (k := 3) rfl (by rw [e3_6]; first | rfl | decide) (by decide) rfl (fun ls hl => ?_)
        refine lv_goto (tgt := 35) X.1 X.2.1 dX9_clean_63 (by decide) ?_
        exact hk35 x3_6 S_5 _ (lv_sub hl [1, 2, 3, 0] rfl) h _ _ hP hS
  have B4 : ∀ (f : Nat) (x1 : Int32) (x2 : Int32) (S : St) (ls : Array Slot), lv_has ls 4 [(0, .ref (G.1 + 224)), (1, .int x1), (2, .int x2)] → q_it (fun _ _ _ => False) (w_X9_clean_4 K) f x1 x2 S → q_W p l e (k2_rm 0 0) s m args below meth c 0 0 (MQ below (q_Qc G K v_v) args s 0 0 (fr_ G)) G 4 ls [] S := by
    intro f
    induction f with
    | zero => intro x1 x2 S ls hl h; exact False.elim h
    | succ f hk4 =>
      intro x1 x2 S ls hl h H locs hP hS
      have h : w_X9_clean_4 K (q_it (fun _ _ _ => False) (w_X9_clean_4 K) f) x1 x2 S := h
      generalize q_it (fun _ _ _ => False) (w_X9_clean_4 K) f = k4 at h hk4
      refine lv_iload_n X.1 X.2.1 dX9_clean_4 rfl (lv_at hl 2 rfl) ?_
      refine lv_aload_n X.1 X.2.1 dX9_clean_5 rfl (lv_at hl 0 rfl) ?_
      refine gf_X9_row X hK hP tl_X9_90 dX9_clean_6 ?_
      refine lv_icmp_ge (tgt := 75) X.1 X.2.1 dX9_clean_9 (by decide) (fun c_1 => ?_) (fun c_1 => ?_)
      · have h := h.1 c_1
        refine lv_aload_n X.1 X.2.1 dX9_clean_75 rfl (lv_at hl 0 rfl) ?_
        refine lv_iload_n X.1 X.2.1 dX9_clean_76 rfl (lv_at hl 1 rfl) ?_
        refine pf_X9_row X hK hP hS tl_X9_90 dX9_clean_77 (fun S_2 H locs eS_2 hP hS => ?_)
        have h := h S_2 eS_2
        exact q_vret X hr hlocks hP hS h dX9_clean_80
      · have h := h.2 c_1
        refine lv_aload_n X.1 X.2.1 dX9_clean_12 rfl (lv_at hl 0 rfl) ?_
        refine gf_X9_rowNumber X hK hP tl_X9_32 dX9_clean_13 ?_
        refine lv_iload_n X.1 X.2.1 dX9_clean_16 rfl (lv_at hl 2 rfl) ?_
        obtain ⟨o_3, h⟩ := h
        refine q_iald X hK hP kz_230 o_3 dX9_clean_17 ?_
        refine lv_if_eq (tgt := 69) X.1 X.2.1 dX9_clean_18 (by decide) (fun c_4 => ?_) (fun c_4 => ?_)
        · have h := h.1 c_4
          exact B69 x1 x2 k4 hk4 S _ (lv_sub hl [0, 1, 2] rfl) h _ _ hP hS
        · have h := h.2 c_4
          refine lv_aload_n X.1 X.2.1 dX9_clean_21 rfl (lv_at hl 0 rfl) ?_
          refine gf_X9_rowNumber X hK hP tl_X9_32 dX9_clean_22 ?_
          refine lv_iload_n X.1 X.2.1 dX9_clean_25 rfl (lv_at hl 1 rfl) ?_
          refine lv_aload_n X.1 X.2.1 dX9_clean_26 rfl (lv_at hl 0 rfl) ?_
          refine gf_X9_rowNumber X hK hP tl_X9_32 dX9_clean_27 ?_
          refine lv_iload_n X.1 X.2.1 dX9_clean_30 rfl (lv_at hl 2 rfl) ?_
          refine q_iald X hK hP kz_230 o_3 dX9_clean_31 ?_
          obtain ⟨o_5, h⟩ := h
          refine q_iast X hK hP hS kz_230 o_5 dX9_clean_32 (fun S_6 H locs eS_6 hP hS => ?_)
          have h := h S_6 eS_6
          refine lv_iconst (v := 0) X.1 X.2.1 dX9_clean_33 (by decide) ?_
          refine lv_istore_n (lv' := [(3, .int 0), (0, .ref (G.1 + 224)), (1, .int x1), (2, .int x2)]) X.1 X.2.1 dX9_clean_34 rfl hl (by decide) rfl (fun ls hl => ?_)
          obtain ⟨f_7, h⟩ := h
          exact B35 x1 x2 k4 hk4 f_7 0 S_6 _ (lv_sub hl [1, 2, 3, 0] rfl) h _ _ hP hS
  refine lv_iconst (v := 0) X.1 X.2.1 dX9_clean_0 (by decide) ?_
  refine lv_istore_n (lv' := [(1, .int 0), (0, .ref (G.1 + 224))]) X.1 X.2.1 dX9_clean_1 rfl hl (by decide) rfl (fun ls hl => ?_)
  refine lv_iconst (v := 0) X.1 X.2.1 dX9_clean_2 (by decide) ?_
  refine lv_istore_n (lv' := [(2, .int 0), (1, .int 0), (0, .ref (G.1 + 224))]) X.1 X.2.1 dX9_clean_3 rfl hl (by decide) rfl (fun ls hl => ?_)
  obtain ⟨f_1, h⟩ := h
  exact B4 f_1 0 0 S _ (lv_sub hl [2, 1, 0] rfl) h _ _ hP hS

set_option maxHeartbeats 4000000 in
set_option maxRecDepth 100000 in
theorem c_X9_lay (l : Launch) (G : Cx) (x1 : Int32) (x2 : Int32) (S : St) (K : Unit → St → Prop) (h : w_X9_lay x1 x2 S K) : q_Met l yX9_lay cX9_lay 5 none 0 0 G [.ref (G.1 + 224), .int x1, .int x2] v_v S K := by
  refine q_enter (by decide +kernel) (Nat.le_of_ble_eq_true rfl) (fun p e s m args below meth c ls X hK hP hr hlocks hl => ?_)
  have hS : va_S (fr_ G) s.heap s.heap [] := va_S.rf
  have hl : lv_has ls 5 [(0, .ref (G.1 + 224)), (1, .int x1), (2, .int x2)] := hl
  have B47 : ∀ (x3 : Int32) (k12 : Int32 → St → Prop) (hk12 : ∀ (x3 : Int32) (S : St) (ls : Array Slot), lv_has ls 5 [(0, .ref (G.1 + 224)), (1, .int x1), (2, .int x2), (3, .int x3)] → k12 x3 S → q_W p l e (k2_rm 0 0) s m args below meth c 0 0 (MQ below (q_Qc G K v_v) args s 0 0 (fr_ G)) G 12 ls [] S) (f : Nat) (x4 : Int32) (S : St) (ls : Array Slot), lv_has ls 5 [(0, .ref (G.1 + 224)), (1, .int x1), (2, .int x2), (3, .int x3), (4, .int x4)] → q_it (fun _ _ => False) (w_X9_lay_47 x1 x2 K k12 x3) f x4 S → q_W p l e (k2_rm 0 0) s m args below meth c 0 0 (MQ below (q_Qc G K v_v) args s 0 0 (fr_ G)) G 47 ls [] S := by
    intro x3 k12 hk12 f
    induction f with
    | zero => intro x4 S ls hl h; exact False.elim h
    | succ f hk47 =>
      intro x4 S ls hl h H locs hP hS
      have h : w_X9_lay_47 x1 x2 K k12 x3 (q_it (fun _ _ => False) (w_X9_lay_47 x1 x2 K k12 x3) f) x4 S := h
      generalize q_it (fun _ _ => False) (w_X9_lay_47 x1 x2 K k12 x3) f = k47 at h hk47
      refine lv_iload X.1 X.2.1 dX9_lay_47 (lv_at hl 4 rfl) ?_
      refine lv_iconst (v := 4) X.1 X.2.1 dX9_lay_49 (by decide) ?_
      refine lv_icmp_ge (tgt := 87) X.1 X.2.1 dX9_lay_50 (by decide) (fun c_1 => ?_) (fun c_1 => ?_)
      · have h := h.1 c_1
        obtain ⟨x3_2, e3_2⟩ : ∃ y : Int32, y = x3 + 1 := ⟨_, rfl⟩
        have h := h x3_2 e3_2
        refine lv_iinc (v := x3_2) (lv' := [(3, .int x3_2), (0, .ref (G.1 + 224)), (1, .int x1), (2, .int x2), (4, .int x4)]) X.1 X.2.1 dX9_lay_87 hl (k := 3) rfl (by rw [e3_2]; first | rfl | decide) (by decide) rfl (fun ls hl => ?_)
        refine lv_goto (tgt := 12) X.1 X.2.1 dX9_lay_90 (by decide) ?_
        exact hk12 x3_2 S _ (lv_sub hl [1, 2, 3, 0] rfl) h _ _ hP hS
      · have h := h.2 c_1
        refine lv_aload_n X.1 X.2.1 dX9_lay_53 rfl (lv_at hl 0 rfl) ?_
        refine gf_X9_exponents X hK hP tl_X9_20 dX9_lay_54 ?_
        refine lv_sipush (v := 160) X.1 X.2.1 dX9_lay_57 (by decide) ?_
        refine lv_iload_n X.1 X.2.1 dX9_lay_60 rfl (lv_at hl 1 rfl) ?_
        refine lv_imul X.1 X.2.1 dX9_lay_61 ?_
        refine lv_iconst (v := 4) X.1 X.2.1 dX9_lay_62 (by decide) ?_
        refine lv_iload_n X.1 X.2.1 dX9_lay_63 rfl (lv_at hl 3 rfl) ?_
        refine lv_imul X.1 X.2.1 dX9_lay_64 ?_
        refine lv_iadd X.1 X.2.1 dX9_lay_65 ?_
        refine lv_iload X.1 X.2.1 dX9_lay_66 (lv_at hl 4 rfl) ?_
        refine lv_iadd X.1 X.2.1 dX9_lay_68 ?_
        refine lv_aload_n X.1 X.2.1 dX9_lay_69 rfl (lv_at hl 0 rfl) ?_
        refine gf_X9_rowExponents X hK hP tl_X9_35 dX9_lay_70 ?_
        refine lv_iconst (v := 4) X.1 X.2.1 dX9_lay_73 (by decide) ?_
        refine lv_iload_n X.1 X.2.1 dX9_lay_74 rfl (lv_at hl 3 rfl) ?_
        refine lv_imul X.1 X.2.1 dX9_lay_75 ?_
        refine lv_iload X.1 X.2.1 dX9_lay_76 (lv_at hl 4 rfl) ?_
        refine lv_iadd X.1 X.2.1 dX9_lay_78 ?_
        obtain ⟨o_3, h⟩ := h
        refine q_iald X hK hP kz_231 o_3 dX9_lay_79 ?_
        obtain ⟨o_4, h⟩ := h
        refine q_iast X hK hP hS kz_227 o_4 dX9_lay_80 (fun S_5 H locs eS_5 hP hS => ?_)
        have h := h S_5 eS_5
        obtain ⟨x4_6, e4_6⟩ : ∃ y : Int32, y = x4 + 1 := ⟨_, rfl⟩
        have h := h x4_6 e4_6
        refine lv_iinc (v := x4_6) (lv' := [(4, .int x4_6), (0, .ref (G.1 + 224)), (1, .int x1), (2, .int x2), (3, .int x3)]) X.1 X.2.1 dX9_lay_81 hl (k := 4) rfl (by rw [e4_6]; first | rfl | decide) (by decide) rfl (fun ls hl => ?_)
        refine lv_goto (tgt := 47) X.1 X.2.1 dX9_lay_84 (by decide) ?_
        exact hk47 x4_6 S_5 _ (lv_sub hl [1, 2, 3, 4, 0] rfl) h _ _ hP hS
  have B12 : ∀ (f : Nat) (x3 : Int32) (S : St) (ls : Array Slot), lv_has ls 5 [(0, .ref (G.1 + 224)), (1, .int x1), (2, .int x2), (3, .int x3)] → q_it (fun _ _ => False) (w_X9_lay_12 x1 x2 K) f x3 S → q_W p l e (k2_rm 0 0) s m args below meth c 0 0 (MQ below (q_Qc G K v_v) args s 0 0 (fr_ G)) G 12 ls [] S := by
    intro f
    induction f with
    | zero => intro x3 S ls hl h; exact False.elim h
    | succ f hk12 =>
      intro x3 S ls hl h H locs hP hS
      have h : w_X9_lay_12 x1 x2 K (q_it (fun _ _ => False) (w_X9_lay_12 x1 x2 K) f) x3 S := h
      generalize q_it (fun _ _ => False) (w_X9_lay_12 x1 x2 K) f = k12 at h hk12
      refine lv_iload_n X.1 X.2.1 dX9_lay_12 rfl (lv_at hl 3 rfl) ?_
      refine lv_aload_n X.1 X.2.1 dX9_lay_13 rfl (lv_at hl 0 rfl) ?_
      refine gf_X9_row X hK hP tl_X9_90 dX9_lay_14 ?_
      refine lv_icmp_ge (tgt := 93) X.1 X.2.1 dX9_lay_17 (by decide) (fun c_1 => ?_) (fun c_1 => ?_)
      · have h := h.1 c_1
        exact q_vret X hr hlocks hP hS h dX9_lay_93
      · have h := h.2 c_1
        refine lv_aload_n X.1 X.2.1 dX9_lay_20 rfl (lv_at hl 0 rfl) ?_
        refine gf_X9_numbers X hK hP tl_X9_17 dX9_lay_21 ?_
        refine lv_bipush (v := 40) X.1 X.2.1 dX9_lay_24 (by decide) ?_
        refine lv_iload_n X.1 X.2.1 dX9_lay_26 rfl (lv_at hl 1 rfl) ?_
        refine lv_imul X.1 X.2.1 dX9_lay_27 ?_
        refine lv_iload_n X.1 X.2.1 dX9_lay_28 rfl (lv_at hl 3 rfl) ?_
        refine lv_iadd X.1 X.2.1 dX9_lay_29 ?_
        refine lv_aload_n X.1 X.2.1 dX9_lay_30 rfl (lv_at hl 0 rfl) ?_
        refine gf_X9_rowNumber X hK hP tl_X9_32 dX9_lay_31 ?_
        refine lv_iload_n X.1 X.2.1 dX9_lay_34 rfl (lv_at hl 3 rfl) ?_
        obtain ⟨o_2, h⟩ := h
        refine q_iald X hK hP kz_230 o_2 dX9_lay_35 ?_
        refine lv_iload_n X.1 X.2.1 dX9_lay_36 rfl (lv_at hl 2 rfl) ?_
        refine lv_imul X.1 X.2.1 dX9_lay_37 ?_
        refine lv_aload_n X.1 X.2.1 dX9_lay_38 rfl (lv_at hl 0 rfl) ?_
        refine gf_X9_p X hK hP tl_X9_72 dX9_lay_39 ?_
        obtain ⟨o_3, h⟩ := h
        refine lv_irem X.1 X.2.1 dX9_lay_42 o_3 ?_
        obtain ⟨o_4, h⟩ := h
        refine q_iast X hK hP hS kz_226 o_4 dX9_lay_43 (fun S_5 H locs eS_5 hP hS => ?_)
        have h := h S_5 eS_5
        refine lv_iconst (v := 0) X.1 X.2.1 dX9_lay_44 (by decide) ?_
        refine lv_istore (lv' := [(4, .int 0), (0, .ref (G.1 + 224)), (1, .int x1), (2, .int x2), (3, .int x3)]) X.1 X.2.1 dX9_lay_45 hl (by decide) rfl (fun ls hl => ?_)
        obtain ⟨f_6, h⟩ := h
        exact B47 x3 k12 hk12 f_6 0 S_5 _ (lv_sub hl [1, 2, 3, 4, 0] rfl) h _ _ hP hS
  refine lv_aload_n X.1 X.2.1 dX9_lay_0 rfl (lv_at hl 0 rfl) ?_
  refine gf_X9_many X hK hP tl_X9_13 dX9_lay_1 ?_
  refine lv_iload_n X.1 X.2.1 dX9_lay_4 rfl (lv_at hl 1 rfl) ?_
  refine lv_aload_n X.1 X.2.1 dX9_lay_5 rfl (lv_at hl 0 rfl) ?_
  refine gf_X9_row X hK hP tl_X9_90 dX9_lay_6 ?_
  obtain ⟨o_1, h⟩ := h
  refine q_iast X hK hP hS kz_225 o_1 dX9_lay_9 (fun S_2 H locs eS_2 hP hS => ?_)
  have h := h S_2 eS_2
  refine lv_iconst (v := 0) X.1 X.2.1 dX9_lay_10 (by decide) ?_
  refine lv_istore_n (lv' := [(3, .int 0), (0, .ref (G.1 + 224)), (1, .int x1), (2, .int x2)]) X.1 X.2.1 dX9_lay_11 rfl hl (by decide) rfl (fun ls hl => ?_)
  obtain ⟨f_3, h⟩ := h
  exact B12 f_3 0 S_2 _ (lv_sub hl [1, 2, 3, 0] rfl) h _ _ hP hS

set_option maxHeartbeats 4000000 in
set_option maxRecDepth 100000 in
theorem c_X9_fetch (l : Launch) (G : Cx) (x1 : Int32) (S : St) (K : Unit → St → Prop) (h : w_X9_fetch x1 S K) : q_Met l yX9_fetch cX9_fetch 4 none 0 0 G [.ref (G.1 + 224), .int x1] v_v S K := by
  refine q_enter (by decide +kernel) (Nat.le_of_ble_eq_true rfl) (fun p e s m args below meth c ls X hK hP hr hlocks hl => ?_)
  have hS : va_S (fr_ G) s.heap s.heap [] := va_S.rf
  have hl : lv_has ls 4 [(0, .ref (G.1 + 224)), (1, .int x1)] := hl
  have B39 : ∀ (x2 : Int32) (k12 : Int32 → St → Prop) (hk12 : ∀ (x2 : Int32) (S : St) (ls : Array Slot), lv_has ls 4 [(0, .ref (G.1 + 224)), (1, .int x1), (2, .int x2)] → k12 x2 S → q_W p l e (k2_rm 0 0) s m args below meth c 0 0 (MQ below (q_Qc G K v_v) args s 0 0 (fr_ G)) G 12 ls [] S) (f : Nat) (x3 : Int32) (S : St) (ls : Array Slot), lv_has ls 4 [(0, .ref (G.1 + 224)), (1, .int x1), (2, .int x2), (3, .int x3)] → q_it (fun _ _ => False) (w_X9_fetch_39 x1 K k12 x2) f x3 S → q_W p l e (k2_rm 0 0) s m args below meth c 0 0 (MQ below (q_Qc G K v_v) args s 0 0 (fr_ G)) G 39 ls [] S := by
    intro x2 k12 hk12 f
    induction f with
    | zero => intro x3 S ls hl h; exact False.elim h
    | succ f hk39 =>
      intro x3 S ls hl h H locs hP hS
      have h : w_X9_fetch_39 x1 K k12 x2 (q_it (fun _ _ => False) (w_X9_fetch_39 x1 K k12 x2) f) x3 S := h
      generalize q_it (fun _ _ => False) (w_X9_fetch_39 x1 K k12 x2) f = k39 at h hk39
      refine lv_iload_n X.1 X.2.1 dX9_fetch_39 rfl (lv_at hl 3 rfl) ?_
      refine lv_iconst (v := 4) X.1 X.2.1 dX9_fetch_40 (by decide) ?_
      refine lv_icmp_ge (tgt := 76) X.1 X.2.1 dX9_fetch_41 (by decide) (fun c_1 => ?_) (fun c_1 => ?_)
      · have h := h.1 c_1
        obtain ⟨x2_2, e2_2⟩ : ∃ y : Int32, y = x2 + 1 := ⟨_, rfl⟩
        have h := h x2_2 e2_2
        refine lv_iinc (v := x2_2) (lv' := [(2, .int x2_2), (0, .ref (G.1 + 224)), (1, .int x1), (3, .int x3)]) X.1 X.2.1 dX9_fetch_76 hl (k := 2) rfl (by rw [e2_2]; first | rfl | decide) (by decide) rfl (fun ls hl => ?_)
        refine lv_goto (tgt := 12) X.1 X.2.1 dX9_fetch_79 (by decide) ?_
        exact hk12 x2_2 S _ (lv_sub hl [1, 2, 0] rfl) h _ _ hP hS
      · have h := h.2 c_1
        refine lv_aload_n X.1 X.2.1 dX9_fetch_44 rfl (lv_at hl 0 rfl) ?_
        refine gf_X9_rowExponents X hK hP tl_X9_35 dX9_fetch_45 ?_
        refine lv_iconst (v := 4) X.1 X.2.1 dX9_fetch_48 (by decide) ?_
        refine lv_iload_n X.1 X.2.1 dX9_fetch_49 rfl (lv_at hl 2 rfl) ?_
        refine lv_imul X.1 X.2.1 dX9_fetch_50 ?_
        refine lv_iload_n X.1 X.2.1 dX9_fetch_51 rfl (lv_at hl 3 rfl) ?_
        refine lv_iadd X.1 X.2.1 dX9_fetch_52 ?_
        refine lv_aload_n X.1 X.2.1 dX9_fetch_53 rfl (lv_at hl 0 rfl) ?_
        refine gf_X9_exponents X hK hP tl_X9_20 dX9_fetch_54 ?_
        refine lv_sipush (v := 160) X.1 X.2.1 dX9_fetch_57 (by decide) ?_
        refine lv_iload_n X.1 X.2.1 dX9_fetch_60 rfl (lv_at hl 1 rfl) ?_
        refine lv_imul X.1 X.2.1 dX9_fetch_61 ?_
        refine lv_iconst (v := 4) X.1 X.2.1 dX9_fetch_62 (by decide) ?_
        refine lv_iload_n X.1 X.2.1 dX9_fetch_63 rfl (lv_at hl 2 rfl) ?_
        refine lv_imul X.1 X.2.1 dX9_fetch_64 ?_
        refine lv_iadd X.1 X.2.1 dX9_fetch_65 ?_
        refine lv_iload_n X.1 X.2.1 dX9_fetch_66 rfl (lv_at hl 3 rfl) ?_
        refine lv_iadd X.1 X.2.1 dX9_fetch_67 ?_
        obtain ⟨o_3, h⟩ := h
        refine q_iald X hK hP kz_227 o_3 dX9_fetch_68 ?_
        obtain ⟨o_4, h⟩ := h
        refine q_iast X hK hP hS kz_231 o_4 dX9_fetch_69 (fun S_5 H locs eS_5 hP hS => ?_)
        have h := h S_5 eS_5
        obtain ⟨x3_6, e3_6⟩ : ∃ y : Int32, y = x3 + 1 := ⟨_, rfl⟩
        have h := h x3_6 e3_6
        refine lv_iinc (v := x3_6) (lv' := [(3, .int x3_6), (0, .ref (G.1 + 224)), (1, .int x1), (2, .int x2)]) X.1 X.2.1 dX9_fetch_70 hl (k := 3) rfl (by rw [e3_6]; first | rfl | decide) (by decide) rfl (fun ls hl => ?_)
        refine lv_goto (tgt := 39) X.1 X.2.1 dX9_fetch_73 (by decide) ?_
        exact hk39 x3_6 S_5 _ (lv_sub hl [1, 2, 3, 0] rfl) h _ _ hP hS
  have B12 : ∀ (f : Nat) (x2 : Int32) (S : St) (ls : Array Slot), lv_has ls 4 [(0, .ref (G.1 + 224)), (1, .int x1), (2, .int x2)] → q_it (fun _ _ => False) (w_X9_fetch_12 x1 K) f x2 S → q_W p l e (k2_rm 0 0) s m args below meth c 0 0 (MQ below (q_Qc G K v_v) args s 0 0 (fr_ G)) G 12 ls [] S := by
    intro f
    induction f with
    | zero => intro x2 S ls hl h; exact False.elim h
    | succ f hk12 =>
      intro x2 S ls hl h H locs hP hS
      have h : w_X9_fetch_12 x1 K (q_it (fun _ _ => False) (w_X9_fetch_12 x1 K) f) x2 S := h
      generalize q_it (fun _ _ => False) (w_X9_fetch_12 x1 K) f = k12 at h hk12
      refine lv_iload_n X.1 X.2.1 dX9_fetch_12 rfl (lv_at hl 2 rfl) ?_
      refine lv_aload_n X.1 X.2.1 dX9_fetch_13 rfl (lv_at hl 0 rfl) ?_
      refine gf_X9_row X hK hP tl_X9_90 dX9_fetch_14 ?_
      refine lv_icmp_ge (tgt := 82) X.1 X.2.1 dX9_fetch_17 (by decide) (fun c_1 => ?_) (fun c_1 => ?_)
      · have h := h.1 c_1
        exact q_vret X hr hlocks hP hS h dX9_fetch_82
      · have h := h.2 c_1
        refine lv_aload_n X.1 X.2.1 dX9_fetch_20 rfl (lv_at hl 0 rfl) ?_
        refine gf_X9_rowNumber X hK hP tl_X9_32 dX9_fetch_21 ?_
        refine lv_iload_n X.1 X.2.1 dX9_fetch_24 rfl (lv_at hl 2 rfl) ?_
        refine lv_aload_n X.1 X.2.1 dX9_fetch_25 rfl (lv_at hl 0 rfl) ?_
        refine gf_X9_numbers X hK hP tl_X9_17 dX9_fetch_26 ?_
        refine lv_bipush (v := 40) X.1 X.2.1 dX9_fetch_29 (by decide) ?_
        refine lv_iload_n X.1 X.2.1 dX9_fetch_31 rfl (lv_at hl 1 rfl) ?_
        refine lv_imul X.1 X.2.1 dX9_fetch_32 ?_
        refine lv_iload_n X.1 X.2.1 dX9_fetch_33 rfl (lv_at hl 2 rfl) ?_
        refine lv_iadd X.1 X.2.1 dX9_fetch_34 ?_
        obtain ⟨o_2, h⟩ := h
        refine q_iald X hK hP kz_226 o_2 dX9_fetch_35 ?_
        obtain ⟨o_3, h⟩ := h
        refine q_iast X hK hP hS kz_230 o_3 dX9_fetch_36 (fun S_4 H locs eS_4 hP hS => ?_)
        have h := h S_4 eS_4
        refine lv_iconst (v := 0) X.1 X.2.1 dX9_fetch_37 (by decide) ?_
        refine lv_istore_n (lv' := [(3, .int 0), (0, .ref (G.1 + 224)), (1, .int x1), (2, .int x2)]) X.1 X.2.1 dX9_fetch_38 rfl hl (by decide) rfl (fun ls hl => ?_)
        obtain ⟨f_5, h⟩ := h
        exact B39 x2 k12 hk12 f_5 0 S_4 _ (lv_sub hl [1, 2, 3, 0] rfl) h _ _ hP hS
  refine lv_aload_n X.1 X.2.1 dX9_fetch_0 rfl (lv_at hl 0 rfl) ?_
  refine lv_aload_n X.1 X.2.1 dX9_fetch_1 rfl (lv_at hl 0 rfl) ?_
  refine gf_X9_many X hK hP tl_X9_13 dX9_fetch_2 ?_
  refine lv_iload_n X.1 X.2.1 dX9_fetch_5 rfl (lv_at hl 1 rfl) ?_
  obtain ⟨o_1, h⟩ := h
  refine q_iald X hK hP kz_225 o_1 dX9_fetch_6 ?_
  refine pf_X9_row X hK hP hS tl_X9_90 dX9_fetch_7 (fun S_2 H locs eS_2 hP hS => ?_)
  have h := h S_2 eS_2
  refine lv_iconst (v := 0) X.1 X.2.1 dX9_fetch_10 (by decide) ?_
  refine lv_istore_n (lv' := [(2, .int 0), (0, .ref (G.1 + 224)), (1, .int x1)]) X.1 X.2.1 dX9_fetch_11 rfl hl (by decide) rfl (fun ls hl => ?_)
  obtain ⟨f_3, h⟩ := h
  exact B12 f_3 0 S_2 _ (lv_sub hl [1, 2, 0] rfl) h _ _ hP hS

set_option maxHeartbeats 4000000 in
set_option maxRecDepth 100000 in
theorem c_X9_copy (l : Launch) (G : Cx) (x1 : Int32) (x2 : Int32) (S : St) (K : Unit → St → Prop) (h : w_X9_copy x1 x2 S K) : q_Met l yX9_copy cX9_copy 3 none 1 24 G [.ref (G.1 + 224), .int x1, .int x2] v_v S K := by
  refine q_enter (by decide +kernel) (Nat.le_of_ble_eq_true rfl) (fun p e s m args below meth c ls X hK hP hr hlocks hl => ?_)
  have hS : va_S (fr_ G) s.heap s.heap [] := va_S.rf
  have hl : lv_has ls 3 [(0, .ref (G.1 + 224)), (1, .int x1), (2, .int x2)] := hl
  refine lv_aload_n X.1 X.2.1 dX9_copy_0 rfl (lv_at hl 0 rfl) ?_
  refine lv_iload_n X.1 X.2.1 dX9_copy_1 rfl (lv_at hl 1 rfl) ?_
  refine q_callV (rest := []) (b := 224) X hK hP hS (c_X9_fetch l G x1 S _ h) my_X9_fetch tl_X9_100 dX9_copy_2 kz_224 rfl rfl rfl ⟨Nat.le_of_ble_eq_true rfl, Nat.le_of_ble_eq_true rfl⟩ hl.1 rfl (Nat.le_of_ble_eq_true rfl) ⟨Nat.le_of_ble_eq_true rfl, Nat.le_of_ble_eq_true rfl⟩ (fun r_2 S_1 H locs h hP hS => ?_)
  refine W.eq (g2 := F0 m 5 ls []) rfl ?_
  refine lv_aload_n X.1 X.2.1 dX9_copy_5 rfl (lv_at hl 0 rfl) ?_
  refine lv_iload_n X.1 X.2.1 dX9_copy_6 rfl (lv_at hl 2 rfl) ?_
  refine lv_iconst (v := 1) X.1 X.2.1 dX9_copy_7 (by decide) ?_
  refine q_callV (rest := []) (b := 224) X hK hP hS (c_X9_lay l G x2 1 S_1 _ h) my_X9_lay tl_X9_103 dX9_copy_8 kz_224 rfl rfl rfl ⟨Nat.le_of_ble_eq_true rfl, Nat.le_of_ble_eq_true rfl⟩ hl.1 rfl (Nat.le_of_ble_eq_true rfl) ⟨Nat.le_of_ble_eq_true rfl, Nat.le_of_ble_eq_true rfl⟩ (fun r_4 S_3 H locs h hP hS => ?_)
  refine W.eq (g2 := F0 m 11 ls []) rfl ?_
  exact q_vret X hr hlocks hP hS h dX9_copy_11

set_option maxHeartbeats 4000000 in
set_option maxRecDepth 100000 in
theorem c_X9_placeOf (l : Launch) (G : Cx) (x1 : Int32) (S : St) (K : Int32 → St → Prop) (h : w_X9_placeOf x1 S K) : q_Met l yX9_placeOf cX9_placeOf 2 (some .int) 0 0 G [.ref (G.1 + 224), .int x1] v_i S K := by
  refine q_enter (by decide +kernel) (Nat.le_of_ble_eq_true rfl) (fun p e s m args below meth c ls X hK hP hr hlocks hl => ?_)
  have hS : va_S (fr_ G) s.heap s.heap [] := va_S.rf
  have hl : lv_has ls 2 [(0, .ref (G.1 + 224)), (1, .int x1)] := hl
  have B35 : ∀ (S : St) (ls : Array Slot), lv_has ls 2 [] → w_X9_placeOf_35 x1 K S → q_W p l e (k2_rm 0 0) s m args below meth c 0 0 (MQ below (q_Qc G K v_i) args s 0 0 (fr_ G)) G 35 ls [] S := by
    intro S ls hl h H locs hP hS
    refine lv_bipush (v := (-2)) X.1 X.2.1 dX9_placeOf_35 (by decide) ?_
    exact q_iret X hr hlocks hP hS rfl h dX9_placeOf_37
  refine lv_iload_n X.1 X.2.1 dX9_placeOf_0 rfl (lv_at hl 1 rfl) ?_
  refine lv_iconst (v := (-1)) X.1 X.2.1 dX9_placeOf_1 (by decide) ?_
  refine lv_icmp_ne (tgt := 7) X.1 X.2.1 dX9_placeOf_2 (by decide) (fun c_1 => ?_) (fun c_1 => ?_)
  · have h := h.1 c_1
    refine lv_iload_n X.1 X.2.1 dX9_placeOf_7 rfl (lv_at hl 1 rfl) ?_
    refine lv_if_lt (tgt := 38) X.1 X.2.1 dX9_placeOf_8 (by decide) (fun c_2 => ?_) (fun c_2 => ?_)
    · have h := h.1 c_2
      refine lv_iload_n X.1 X.2.1 dX9_placeOf_38 rfl (lv_at hl 1 rfl) ?_
      refine lv_iconst (v := (-1)) X.1 X.2.1 dX9_placeOf_39 (by decide) ?_
      refine lv_aload_n X.1 X.2.1 dX9_placeOf_40 rfl (lv_at hl 0 rfl) ?_
      refine gf_X9_basis X hK hP tl_X9_107 dX9_placeOf_41 ?_
      refine lv_isub X.1 X.2.1 dX9_placeOf_44 ?_
      refine lv_icmp_lt (tgt := 55) X.1 X.2.1 dX9_placeOf_45 (by decide) (fun c_3 => ?_) (fun c_3 => ?_)
      · have h := h.1 c_3
        refine lv_bipush (v := (-2)) X.1 X.2.1 dX9_placeOf_55 (by decide) ?_
        exact q_iret X hr hlocks hP hS rfl h dX9_placeOf_57
      · have h := h.2 c_3
        refine lv_bipush (v := 23) X.1 X.2.1 dX9_placeOf_48 (by decide) ?_
        refine lv_iload_n X.1 X.2.1 dX9_placeOf_50 rfl (lv_at hl 1 rfl) ?_
        refine lv_isub X.1 X.2.1 dX9_placeOf_51 ?_
        refine lv_goto (tgt := 57) X.1 X.2.1 dX9_placeOf_52 (by decide) ?_
        exact q_iret X hr hlocks hP hS rfl h dX9_placeOf_57
    · have h := h.2 c_2
      refine lv_iload_n X.1 X.2.1 dX9_placeOf_11 rfl (lv_at hl 1 rfl) ?_
      refine lv_bipush (v := 24) X.1 X.2.1 dX9_placeOf_12 (by decide) ?_
      refine lv_icmp_ge (tgt := 35) X.1 X.2.1 dX9_placeOf_14 (by decide) (fun c_4 => ?_) (fun c_4 => ?_)
      · have h := h.1 c_4
        exact B35 S _ (lv_sub hl [] rfl) h _ _ hP hS
      · have h := h.2 c_4
        refine lv_aload_n X.1 X.2.1 dX9_placeOf_17 rfl (lv_at hl 0 rfl) ?_
        refine gf_X9_many X hK hP tl_X9_13 dX9_placeOf_18 ?_
        refine lv_iconst (v := 1) X.1 X.2.1 dX9_placeOf_21 (by decide) ?_
        refine lv_iload_n X.1 X.2.1 dX9_placeOf_22 rfl (lv_at hl 1 rfl) ?_
        refine lv_iadd X.1 X.2.1 dX9_placeOf_23 ?_
        obtain ⟨o_5, h⟩ := h
        refine q_iald X hK hP kz_225 o_5 dX9_placeOf_24 ?_
        refine lv_iconst (v := (-1)) X.1 X.2.1 dX9_placeOf_25 (by decide) ?_
        refine lv_icmp_eq (tgt := 35) X.1 X.2.1 dX9_placeOf_26 (by decide) (fun c_6 => ?_) (fun c_6 => ?_)
        · have h := h.1 c_6
          exact B35 S _ (lv_sub hl [] rfl) h _ _ hP hS
        · have h := h.2 c_6
          refine lv_iconst (v := 1) X.1 X.2.1 dX9_placeOf_29 (by decide) ?_
          refine lv_iload_n X.1 X.2.1 dX9_placeOf_30 rfl (lv_at hl 1 rfl) ?_
          refine lv_iadd X.1 X.2.1 dX9_placeOf_31 ?_
          refine lv_goto (tgt := 37) X.1 X.2.1 dX9_placeOf_32 (by decide) ?_
          exact q_iret X hr hlocks hP hS rfl h dX9_placeOf_37
  · have h := h.2 c_1
    refine lv_iconst (v := 0) X.1 X.2.1 dX9_placeOf_5 (by decide) ?_
    exact q_iret X hr hlocks hP hS rfl h dX9_placeOf_6

set_option maxHeartbeats 4000000 in
set_option maxRecDepth 100000 in
theorem c_X9_free (l : Launch) (G : Cx) (S : St) (K : Int32 → St → Prop) (h : w_X9_free S K) : q_Met l yX9_free cX9_free 2 (some .int) 0 0 G [.ref (G.1 + 224)] v_i S K := by
  refine q_enter (by decide +kernel) (Nat.le_of_ble_eq_true rfl) (fun p e s m args below meth c ls X hK hP hr hlocks hl => ?_)
  have hS : va_S (fr_ G) s.heap s.heap [] := va_S.rf
  have hl : lv_has ls 2 [(0, .ref (G.1 + 224))] := hl
  have B24 : ∀ (x1 : Int32) (S : St) (ls : Array Slot), lv_has ls 2 [(1, .int x1)] → w_X9_free_24 K x1 S → q_W p l e (k2_rm 0 0) s m args below meth c 0 0 (MQ below (q_Qc G K v_i) args s 0 0 (fr_ G)) G 24 ls [] S := by
    intro x1 S ls hl h H locs hP hS
    refine lv_iload_n X.1 X.2.1 dX9_free_24 rfl (lv_at hl 0 rfl) ?_
    exact q_iret X hr hlocks hP hS rfl h dX9_free_25
  have B2 : ∀ (f : Nat) (x1 : Int32) (S : St) (ls : Array Slot), lv_has ls 2 [(0, .ref (G.1 + 224)), (1, .int x1)] → q_it (fun _ _ => False) (w_X9_free_2 K) f x1 S → q_W p l e (k2_rm 0 0) s m args below meth c 0 0 (MQ below (q_Qc G K v_i) args s 0 0 (fr_ G)) G 2 ls [] S := by
    intro f
    induction f with
    | zero => intro x1 S ls hl h; exact False.elim h
    | succ f hk2 =>
      intro x1 S ls hl h H locs hP hS
      have h : w_X9_free_2 K (q_it (fun _ _ => False) (w_X9_free_2 K) f) x1 S := h
      generalize q_it (fun _ _ => False) (w_X9_free_2 K) f = k2 at h hk2
      refine lv_iload_n X.1 X.2.1 dX9_free_2 rfl (lv_at hl 1 rfl) ?_
      refine lv_bipush (v := 25) X.1 X.2.1 dX9_free_3 (by decide) ?_
      refine lv_icmp_ge (tgt := 24) X.1 X.2.1 dX9_free_5 (by decide) (fun c_1 => ?_) (fun c_1 => ?_)
      · have h := h.1 c_1
        exact B24 x1 S _ (lv_sub hl [1] rfl) h _ _ hP hS
      · have h := h.2 c_1
        refine lv_aload_n X.1 X.2.1 dX9_free_8 rfl (lv_at hl 0 rfl) ?_
        refine gf_X9_many X hK hP tl_X9_13 dX9_free_9 ?_
        refine lv_iload_n X.1 X.2.1 dX9_free_12 rfl (lv_at hl 1 rfl) ?_
        obtain ⟨o_2, h⟩ := h
        refine q_iald X hK hP kz_225 o_2 dX9_free_13 ?_
        refine lv_iconst (v := (-1)) X.1 X.2.1 dX9_free_14 (by decide) ?_
        refine lv_icmp_eq (tgt := 24) X.1 X.2.1 dX9_free_15 (by decide) (fun c_3 => ?_) (fun c_3 => ?_)
        · have h := h.1 c_3
          exact B24 x1 S _ (lv_sub hl [1] rfl) h _ _ hP hS
        · have h := h.2 c_3
          obtain ⟨x1_4, e1_4⟩ : ∃ y : Int32, y = x1 + 1 := ⟨_, rfl⟩
          have h := h x1_4 e1_4
          refine lv_iinc (v := x1_4) (lv' := [(1, .int x1_4), (0, .ref (G.1 + 224))]) X.1 X.2.1 dX9_free_18 hl (k := 1) rfl (by rw [e1_4]; first | rfl | decide) (by decide) rfl (fun ls hl => ?_)
          refine lv_goto (tgt := 2) X.1 X.2.1 dX9_free_21 (by decide) ?_
          exact hk2 x1_4 S _ (lv_sub hl [1, 0] rfl) h _ _ hP hS
  refine lv_iconst (v := 1) X.1 X.2.1 dX9_free_0 (by decide) ?_
  refine lv_istore_n (lv' := [(1, .int 1), (0, .ref (G.1 + 224))]) X.1 X.2.1 dX9_free_1 rfl hl (by decide) rfl (fun ls hl => ?_)
  obtain ⟨f_1, h⟩ := h
  exact B2 f_1 1 S _ (lv_sub hl [1, 0] rfl) h _ _ hP hS

set_option maxHeartbeats 4000000 in
set_option maxRecDepth 100000 in
theorem c_X9_shelve (l : Launch) (G : Cx) (x1 : Int32) (S : St) (K : Int32 → St → Prop) (h : w_X9_shelve x1 S K) : q_Met l yX9_shelve cX9_shelve 2 (some .int) 1 24 G [.ref (G.1 + 224), .int x1] v_i S K := by
  refine q_enter (by decide +kernel) (Nat.le_of_ble_eq_true rfl) (fun p e s m args below meth c ls X hK hP hr hlocks hl => ?_)
  have hS : va_S (fr_ G) s.heap s.heap [] := va_S.rf
  have hl : lv_has ls 2 [(0, .ref (G.1 + 224)), (1, .int x1)] := hl
  refine lv_aload_n X.1 X.2.1 dX9_shelve_0 rfl (lv_at hl 0 rfl) ?_
  refine q_callV (rest := []) (b := 224) X hK hP hS (c_X9_clean l G S _ h) my_X9_clean tl_X9_110 dX9_shelve_1 kz_224 rfl rfl rfl ⟨Nat.le_of_ble_eq_true rfl, Nat.le_of_ble_eq_true rfl⟩ hl.1 rfl (Nat.le_of_ble_eq_true rfl) ⟨Nat.le_of_ble_eq_true rfl, Nat.le_of_ble_eq_true rfl⟩ (fun r_2 S_1 H locs h hP hS => ?_)
  refine W.eq (g2 := F0 m 4 ls []) rfl ?_
  refine lv_aload_n X.1 X.2.1 dX9_shelve_4 rfl (lv_at hl 0 rfl) ?_
  refine gf_X9_row X hK hP tl_X9_90 dX9_shelve_5 ?_
  refine lv_bipush (v := 40) X.1 X.2.1 dX9_shelve_8 (by decide) ?_
  refine lv_icmp_le (tgt := 16) X.1 X.2.1 dX9_shelve_10 (by decide) (fun c_3 => ?_) (fun c_3 => ?_)
  · have h := h.1 c_3
    refine lv_aload_n X.1 X.2.1 dX9_shelve_16 rfl (lv_at hl 0 rfl) ?_
    refine lv_iload_n X.1 X.2.1 dX9_shelve_17 rfl (lv_at hl 1 rfl) ?_
    refine lv_iconst (v := 1) X.1 X.2.1 dX9_shelve_18 (by decide) ?_
    refine q_callV (rest := []) (b := 224) X hK hP hS (c_X9_lay l G x1 1 S_1 _ h) my_X9_lay tl_X9_103 dX9_shelve_19 kz_224 rfl rfl rfl ⟨Nat.le_of_ble_eq_true rfl, Nat.le_of_ble_eq_true rfl⟩ hl.1 rfl (Nat.le_of_ble_eq_true rfl) ⟨Nat.le_of_ble_eq_true rfl, Nat.le_of_ble_eq_true rfl⟩ (fun r_5 S_4 H locs h hP hS => ?_)
    refine W.eq (g2 := F0 m 22 ls []) rfl ?_
    refine lv_iload_n X.1 X.2.1 dX9_shelve_22 rfl (lv_at hl 1 rfl) ?_
    refine lv_iconst (v := 1) X.1 X.2.1 dX9_shelve_23 (by decide) ?_
    refine lv_isub X.1 X.2.1 dX9_shelve_24 ?_
    exact q_iret X hr hlocks hP hS rfl h dX9_shelve_25
  · have h := h.2 c_3
    refine lv_bipush (v := (-6)) X.1 X.2.1 dX9_shelve_13 (by decide) ?_
    exact q_iret X hr hlocks hP hS rfl h dX9_shelve_15

set_option maxHeartbeats 4000000 in
set_option maxRecDepth 100000 in
theorem c_X9_order (l : Launch) (G : Cx) (x1 : Int32) (S : St) (K : Int32 → St → Prop) (h : w_X9_order x1 S K) : q_Met l yX9_order cX9_order 5 (some .int) 4 102 G [.ref (G.1 + 224), .int x1] v_i S K := by
  refine q_enter (by decide +kernel) (Nat.le_of_ble_eq_true rfl) (fun p e s m args below meth c ls X hK hP hr hlocks hl => ?_)
  have hS : va_S (fr_ G) s.heap s.heap [] := va_S.rf
  have hl : lv_has ls 5 [(0, .ref (G.1 + 224)), (1, .int x1)] := hl
  have B72 : ∀ (x2 : Int32) (x3 : Int32) (k38 : Int32 → St → Prop) (hk38 : ∀ (x3 : Int32) (S : St) (ls : Array Slot), lv_has ls 5 [(0, .ref (G.1 + 224)), (2, .int x2), (3, .int x3)] → k38 x3 S → q_W p l e (k2_rm 4 102) s m args below meth c 0 0 (MQ below (q_Qc G K v_i) args s 0 0 (fr_ G)) G 38 ls [] S) (S : St) (ls : Array Slot), lv_has ls 5 [(0, .ref (G.1 + 224)), (2, .int x2), (3, .int x3)] → w_X9_order_72 x1 K k38 x2 x3 S → q_W p l e (k2_rm 4 102) s m args below meth c 0 0 (MQ below (q_Qc G K v_i) args s 0 0 (fr_ G)) G 72 ls [] S := by
    intro x2 x3 k38 hk38 S ls hl h H locs hP hS
    obtain ⟨x3_1, e3_1⟩ : ∃ y : Int32, y = x3 + 1 := ⟨_, rfl⟩
    have h := h x3_1 e3_1
    refine lv_iinc (v := x3_1) (lv' := [(3, .int x3_1), (0, .ref (G.1 + 224)), (2, .int x2)]) X.1 X.2.1 dX9_order_72 hl (k := 2) rfl (by rw [e3_1]; first | rfl | decide) (by decide) rfl (fun ls hl => ?_)
    refine lv_goto (tgt := 38) X.1 X.2.1 dX9_order_75 (by decide) ?_
    exact hk38 x3_1 S _ (lv_sub hl [1, 2, 0] rfl) h _ _ hP hS
  have B38 : ∀ (x2 : Int32) (f : Nat) (x3 : Int32) (S : St) (ls : Array Slot), lv_has ls 5 [(0, .ref (G.1 + 224)), (2, .int x2), (3, .int x3)] → q_it (fun _ _ => False) (w_X9_order_38 x1 K x2) f x3 S → q_W p l e (k2_rm 4 102) s m args below meth c 0 0 (MQ below (q_Qc G K v_i) args s 0 0 (fr_ G)) G 38 ls [] S := by
    intro x2 f
    induction f with
    | zero => intro x3 S ls hl h; exact False.elim h
    | succ f hk38 =>
      intro x3 S ls hl h H locs hP hS
      have h : w_X9_order_38 x1 K x2 (q_it (fun _ _ => False) (w_X9_order_38 x1 K x2) f) x3 S := h
      generalize q_it (fun _ _ => False) (w_X9_order_38 x1 K x2) f = k38 at h hk38
      refine lv_iload_n X.1 X.2.1 dX9_order_38 rfl (lv_at hl 2 rfl) ?_
      refine lv_bipush (v := 25) X.1 X.2.1 dX9_order_39 (by decide) ?_
      refine lv_icmp_ge (tgt := 78) X.1 X.2.1 dX9_order_41 (by decide) (fun c_1 => ?_) (fun c_1 => ?_)
      · have h := h.1 c_1
        refine lv_iload_n X.1 X.2.1 dX9_order_78 rfl (lv_at hl 1 rfl) ?_
        exact q_iret X hr hlocks hP hS rfl h dX9_order_79
      · have h := h.2 c_1
        refine lv_aload_n X.1 X.2.1 dX9_order_44 rfl (lv_at hl 0 rfl) ?_
        refine gf_X9_many X hK hP tl_X9_13 dX9_order_45 ?_
        refine lv_iload_n X.1 X.2.1 dX9_order_48 rfl (lv_at hl 2 rfl) ?_
        obtain ⟨o_2, h⟩ := h
        refine q_iald X hK hP kz_225 o_2 dX9_order_49 ?_
        refine lv_if_le (tgt := 72) X.1 X.2.1 dX9_order_50 (by decide) (fun c_3 => ?_) (fun c_3 => ?_)
        · have h := h.1 c_3
          exact B72 x2 x3 k38 hk38 S _ (lv_sub hl [0, 1, 2] rfl) h _ _ hP hS
        · have h := h.2 c_3
          refine lv_aload_n X.1 X.2.1 dX9_order_53 rfl (lv_at hl 0 rfl) ?_
          refine lv_iconst (v := 0) X.1 X.2.1 dX9_order_54 (by decide) ?_
          refine pf_X9_row X hK hP hS tl_X9_90 dX9_order_55 (fun S_4 H locs eS_4 hP hS => ?_)
          have h := h S_4 eS_4
          refine lv_aload_n X.1 X.2.1 dX9_order_58 rfl (lv_at hl 0 rfl) ?_
          refine lv_iload_n X.1 X.2.1 dX9_order_59 rfl (lv_at hl 2 rfl) ?_
          refine lv_iconst (v := 1) X.1 X.2.1 dX9_order_60 (by decide) ?_
          refine q_callV (rest := []) (b := 224) X hK hP hS (c_X9_addTimes l G x3 1 S_4 _ h) my_X9_addTimes tl_X9_116 dX9_order_61 kz_224 rfl rfl rfl ⟨Nat.le_of_ble_eq_true rfl, Nat.le_of_ble_eq_true rfl⟩ hl.1 rfl (Nat.le_of_ble_eq_true rfl) ⟨Nat.le_of_ble_eq_true rfl, Nat.le_of_ble_eq_true rfl⟩ (fun r_6 S_5 H locs h hP hS => ?_)
          refine W.eq (g2 := F0 m 64 ls [.int r_6]) rfl ?_
          refine lv_istore (lv' := [(4, .int r_6), (0, .ref (G.1 + 224)), (2, .int x2), (3, .int x3)]) X.1 X.2.1 dX9_order_64 hl (by decide) rfl (fun ls hl => ?_)
          refine lv_aload_n X.1 X.2.1 dX9_order_66 rfl (lv_at hl 1 rfl) ?_
          refine lv_iload_n X.1 X.2.1 dX9_order_67 rfl (lv_at hl 3 rfl) ?_
          refine lv_iconst (v := 1) X.1 X.2.1 dX9_order_68 (by decide) ?_
          refine q_callV (rest := []) (b := 224) X hK hP hS (c_X9_lay l G x3 1 S_5 _ h) my_X9_lay tl_X9_103 dX9_order_69 kz_224 rfl rfl rfl ⟨Nat.le_of_ble_eq_true rfl, Nat.le_of_ble_eq_true rfl⟩ hl.1 rfl (Nat.le_of_ble_eq_true rfl) ⟨Nat.le_of_ble_eq_true rfl, Nat.le_of_ble_eq_true rfl⟩ (fun r_8 S_7 H locs h hP hS => ?_)
          refine W.eq (g2 := F0 m 72 ls []) rfl ?_
          exact B72 x2 x3 k38 hk38 S_7 _ (lv_sub hl [1, 2, 3] rfl) h _ _ hP hS
  refine lv_iload_n X.1 X.2.1 dX9_order_0 rfl (lv_at hl 1 rfl) ?_
  refine lv_iconst (v := 0) X.1 X.2.1 dX9_order_1 (by decide) ?_
  refine lv_iconst (v := 3) X.1 X.2.1 dX9_order_2 (by decide) ?_
  refine q_callS (rest := []) X hK hP hS (c_X9_in l G x1 0 3 S _ h) my_X9_in tl_X9_78 dX9_order_3 rfl ⟨Nat.le_of_ble_eq_true rfl, Nat.le_of_ble_eq_true rfl⟩ hl.1 rfl (Nat.le_of_ble_eq_true rfl) ⟨Nat.le_of_ble_eq_true rfl, Nat.le_of_ble_eq_true rfl⟩ (fun r_2 S_1 H locs h hP hS => ?_)
  refine W.eq (g2 := F0 m 6 ls [.int r_2]) rfl ?_
  refine lv_if_ne (tgt := 12) X.1 X.2.1 dX9_order_6 (by decide) (fun c_3 => ?_) (fun c_3 => ?_)
  · have h := h.1 c_3
    refine lv_aload_n X.1 X.2.1 dX9_order_12 rfl (lv_at hl 0 rfl) ?_
    refine gf_X9_basis X hK hP tl_X9_107 dX9_order_13 ?_
    refine lv_if_le (tgt := 22) X.1 X.2.1 dX9_order_16 (by decide) (fun c_4 => ?_) (fun c_4 => ?_)
    · have h := h.1 c_4
      refine lv_aload_n X.1 X.2.1 dX9_order_22 rfl (lv_at hl 0 rfl) ?_
      refine gf_X9_order X hK hP tl_X9_7 dX9_order_23 ?_
      refine lv_topi (fun x2_5 e2_5 => ?_)
      have h := h x2_5 e2_5
      refine lv_istore_n (lv' := [(2, .int x2_5), (0, .ref (G.1 + 224)), (1, .int x1)]) X.1 X.2.1 dX9_order_26 rfl hl (by decide) rfl (fun ls hl => ?_)
      refine lv_aload_n X.1 X.2.1 dX9_order_27 rfl (lv_at hl 1 rfl) ?_
      refine lv_iload_n X.1 X.2.1 dX9_order_28 rfl (lv_at hl 2 rfl) ?_
      refine pf_X9_order X hK hP hS tl_X9_7 dX9_order_29 (fun S_6 H locs eS_6 hP hS => ?_)
      have h := h S_6 eS_6
      refine lv_aload_n X.1 X.2.1 dX9_order_32 rfl (lv_at hl 1 rfl) ?_
      refine q_callV (rest := []) (b := 224) X hK hP hS (c_X9_byOne l G S_6 _ h) my_X9_byOne tl_X9_113 dX9_order_33 kz_224 rfl rfl rfl ⟨Nat.le_of_ble_eq_true rfl, Nat.le_of_ble_eq_true rfl⟩ hl.1 rfl (Nat.le_of_ble_eq_true rfl) ⟨Nat.le_of_ble_eq_true rfl, Nat.le_of_ble_eq_true rfl⟩ (fun r_8 S_7 H locs h hP hS => ?_)
      refine W.eq (g2 := F0 m 36 ls []) rfl ?_
      refine lv_iconst (v := 0) X.1 X.2.1 dX9_order_36 (by decide) ?_
      refine lv_istore_n (lv' := [(3, .int 0), (2, .int x2_5), (0, .ref (G.1 + 224)), (1, .int x1)]) X.1 X.2.1 dX9_order_37 rfl hl (by decide) rfl (fun ls hl => ?_)
      obtain ⟨f_9, h⟩ := h
      exact B38 x2_5 f_9 0 S_7 _ (lv_sub hl [2, 1, 0] rfl) h _ _ hP hS
    · have h := h.2 c_4
      refine lv_bipush (v := (-3)) X.1 X.2.1 dX9_order_19 (by decide) ?_
      exact q_iret X hr hlocks hP hS rfl h dX9_order_21
  · have h := h.2 c_3
    refine lv_bipush (v := (-2)) X.1 X.2.1 dX9_order_9 (by decide) ?_
    exact q_iret X hr hlocks hP hS rfl h dX9_order_11

set_option maxHeartbeats 4000000 in
set_option maxRecDepth 100000 in
theorem c_X9_term (l : Launch) (G : Cx) (x1 : Int32) (x2 : Int32) (x3 : Int32) (x4 : Int32) (x5 : Int32) (S : St) (K : Int32 → St → Prop) (h : w_X9_term x1 x2 x3 x4 x5 S K) : q_Met l yX9_term cX9_term 7 (some .int) 3 78 G [.ref (G.1 + 224), .int x1, .int x2, .int x3, .int x4, .int x5] v_i S K := by
  refine q_enter (by decide +kernel) (Nat.le_of_ble_eq_true rfl) (fun p e s m args below meth c ls X hK hP hr hlocks hl => ?_)
  have hS : va_S (fr_ G) s.heap s.heap [] := va_S.rf
  have hl : lv_has ls 7 [(0, .ref (G.1 + 224)), (1, .int x1), (2, .int x2), (3, .int x3), (4, .int x4), (5, .int x5)] := hl
  have B83 : ∀ (z0 : Int32) (S : St) (ls : Array Slot), lv_has ls 7 [(0, .ref (G.1 + 224)), (1, .int x1), (2, .int x2), (3, .int x3), (4, .int x4), (5, .int x5)] → w_X9_term_83 x1 x2 x3 x4 x5 K z0 S → q_W p l e (k2_rm 3 78) s m args below meth c 0 0 (MQ below (q_Qc G K v_i) args s 0 0 (fr_ G)) G 83 ls [.int z0] S := by
    intro z0 S ls hl h H locs hP hS
    refine lv_istore (lv' := [(6, .int z0), (0, .ref (G.1 + 224)), (1, .int x1), (2, .int x2), (3, .int x3), (4, .int x4), (5, .int x5)]) X.1 X.2.1 dX9_term_83 hl (by decide) rfl (fun ls hl => ?_)
    refine lv_iload X.1 X.2.1 dX9_term_85 (lv_at hl 0 rfl) ?_
    refine lv_if_ne (tgt := 93) X.1 X.2.1 dX9_term_87 (by decide) (fun c_1 => ?_) (fun c_1 => ?_)
    · have h := h.1 c_1
      refine lv_aload_n X.1 X.2.1 dX9_term_93 rfl (lv_at hl 1 rfl) ?_
      refine lv_iconst (v := 0) X.1 X.2.1 dX9_term_94 (by decide) ?_
      refine q_callV (rest := []) (b := 224) X hK hP hS (c_X9_fetch l G 0 S _ h) my_X9_fetch tl_X9_100 dX9_term_95 kz_224 rfl rfl rfl ⟨Nat.le_of_ble_eq_true rfl, Nat.le_of_ble_eq_true rfl⟩ hl.1 rfl (Nat.le_of_ble_eq_true rfl) ⟨Nat.le_of_ble_eq_true rfl, Nat.le_of_ble_eq_true rfl⟩ (fun r_3 S_2 H locs h hP hS => ?_)
      refine W.eq (g2 := F0 m 98 ls []) rfl ?_
      refine lv_aload_n X.1 X.2.1 dX9_term_98 rfl (lv_at hl 1 rfl) ?_
      refine gf_X9_one X hK hP tl_X9_38 dX9_term_99 ?_
      refine lv_iconst (v := 0) X.1 X.2.1 dX9_term_102 (by decide) ?_
      refine lv_iload_n X.1 X.2.1 dX9_term_103 rfl (lv_at hl 3 rfl) ?_
      refine q_iast X hK hP hS kz_232 (q_vin (by decide)) dX9_term_104 (fun S_4 H locs eS_4 hP hS => ?_)
      have h := h S_4 eS_4
      refine lv_aload_n X.1 X.2.1 dX9_term_105 rfl (lv_at hl 1 rfl) ?_
      refine gf_X9_one X hK hP tl_X9_38 dX9_term_106 ?_
      refine lv_iconst (v := 1) X.1 X.2.1 dX9_term_109 (by decide) ?_
      refine lv_iload_n X.1 X.2.1 dX9_term_110 rfl (lv_at hl 4 rfl) ?_
      refine q_iast X hK hP hS kz_232 (q_vin (by decide)) dX9_term_111 (fun S_5 H locs eS_5 hP hS => ?_)
      have h := h S_5 eS_5
      refine lv_aload_n X.1 X.2.1 dX9_term_112 rfl (lv_at hl 1 rfl) ?_
      refine gf_X9_one X hK hP tl_X9_38 dX9_term_113 ?_
      refine lv_iconst (v := 2) X.1 X.2.1 dX9_term_116 (by decide) ?_
      refine lv_iload X.1 X.2.1 dX9_term_117 (lv_at hl 5 rfl) ?_
      refine q_iast X hK hP hS kz_232 (q_vin (by decide)) dX9_term_119 (fun S_6 H locs eS_6 hP hS => ?_)
      have h := h S_6 eS_6
      refine lv_aload_n X.1 X.2.1 dX9_term_120 rfl (lv_at hl 1 rfl) ?_
      refine gf_X9_one X hK hP tl_X9_38 dX9_term_121 ?_
      refine lv_iconst (v := 3) X.1 X.2.1 dX9_term_124 (by decide) ?_
      refine lv_iload X.1 X.2.1 dX9_term_125 (lv_at hl 6 rfl) ?_
      refine q_iast X hK hP hS kz_232 (q_vin (by decide)) dX9_term_127 (fun S_7 H locs eS_7 hP hS => ?_)
      have h := h S_7 eS_7
      refine lv_aload_n X.1 X.2.1 dX9_term_128 rfl (lv_at hl 1 rfl) ?_
      refine lv_aload_n X.1 X.2.1 dX9_term_129 rfl (lv_at hl 1 rfl) ?_
      refine lv_iload_n X.1 X.2.1 dX9_term_130 rfl (lv_at hl 2 rfl) ?_
      refine lv_i2l X.1 X.2.1 dX9_term_131 rfl ?_
      refine q_callV (rest := [.ref (G.1 + 224)]) (b := 224) X hK hP hS (c_X9_rest l G (x1.toInt64) S_7 _ h) my_X9_rest tl_X9_120 dX9_term_132 kz_224 rfl rfl rfl ⟨Nat.le_of_ble_eq_true rfl, Nat.le_of_ble_eq_true rfl⟩ hl.1 rfl (Nat.le_of_ble_eq_true rfl) ⟨Nat.le_of_ble_eq_true rfl, Nat.le_of_ble_eq_true rfl⟩ (fun r_9 S_8 H locs h hP hS => ?_)
      refine W.eq (g2 := F0 m 135 ls [.int r_9, .ref (G.1 + 224)]) rfl ?_
      refine q_callV (rest := []) (b := 224) X hK hP hS (c_X9_add l G r_9 S_8 _ h) my_X9_add tl_X9_96 dX9_term_135 kz_224 rfl rfl rfl ⟨Nat.le_of_ble_eq_true rfl, Nat.le_of_ble_eq_true rfl⟩ hl.1 rfl (Nat.le_of_ble_eq_true rfl) ⟨Nat.le_of_ble_eq_true rfl, Nat.le_of_ble_eq_true rfl⟩ (fun r_11 S_10 H locs h hP hS => ?_)
      refine W.eq (g2 := F0 m 138 ls []) rfl ?_
      refine lv_aload_n X.1 X.2.1 dX9_term_138 rfl (lv_at hl 1 rfl) ?_
      refine q_callV (rest := []) (b := 224) X hK hP hS (c_X9_clean l G S_10 _ h) my_X9_clean tl_X9_110 dX9_term_139 kz_224 rfl rfl rfl ⟨Nat.le_of_ble_eq_true rfl, Nat.le_of_ble_eq_true rfl⟩ hl.1 rfl (Nat.le_of_ble_eq_true rfl) ⟨Nat.le_of_ble_eq_true rfl, Nat.le_of_ble_eq_true rfl⟩ (fun r_13 S_12 H locs h hP hS => ?_)
      refine W.eq (g2 := F0 m 142 ls []) rfl ?_
      refine lv_aload_n X.1 X.2.1 dX9_term_142 rfl (lv_at hl 1 rfl) ?_
      refine gf_X9_row X hK hP tl_X9_90 dX9_term_143 ?_
      refine lv_bipush (v := 40) X.1 X.2.1 dX9_term_146 (by decide) ?_
      refine lv_icmp_le (tgt := 154) X.1 X.2.1 dX9_term_148 (by decide) (fun c_14 => ?_) (fun c_14 => ?_)
      · have h := h.1 c_14
        refine lv_aload_n X.1 X.2.1 dX9_term_154 rfl (lv_at hl 1 rfl) ?_
        refine lv_iconst (v := 0) X.1 X.2.1 dX9_term_155 (by decide) ?_
        refine lv_iconst (v := 1) X.1 X.2.1 dX9_term_156 (by decide) ?_
        refine q_callV (rest := []) (b := 224) X hK hP hS (c_X9_lay l G 0 1 S_12 _ h) my_X9_lay tl_X9_103 dX9_term_157 kz_224 rfl rfl rfl ⟨Nat.le_of_ble_eq_true rfl, Nat.le_of_ble_eq_true rfl⟩ hl.1 rfl (Nat.le_of_ble_eq_true rfl) ⟨Nat.le_of_ble_eq_true rfl, Nat.le_of_ble_eq_true rfl⟩ (fun r_16 S_15 H locs h hP hS => ?_)
        refine W.eq (g2 := F0 m 160 ls []) rfl ?_
        refine lv_aload_n X.1 X.2.1 dX9_term_160 rfl (lv_at hl 1 rfl) ?_
        refine gf_X9_row X hK hP tl_X9_90 dX9_term_161 ?_
        exact q_iret X hr hlocks hP hS rfl h dX9_term_164
      · have h := h.2 c_14
        refine lv_bipush (v := (-6)) X.1 X.2.1 dX9_term_151 (by decide) ?_
        exact q_iret X hr hlocks hP hS rfl h dX9_term_153
    · have h := h.2 c_1
      refine lv_bipush (v := (-2)) X.1 X.2.1 dX9_term_90 (by decide) ?_
      exact q_iret X hr hlocks hP hS rfl h dX9_term_92
  have B82 : ∀ (S : St) (ls : Array Slot), lv_has ls 7 [(0, .ref (G.1 + 224)), (1, .int x1), (2, .int x2), (3, .int x3), (4, .int x4), (5, .int x5)] → w_X9_term_82 x1 x2 x3 x4 x5 K S → q_W p l e (k2_rm 3 78) s m args below meth c 0 0 (MQ below (q_Qc G K v_i) args s 0 0 (fr_ G)) G 82 ls [] S := by
    intro S ls hl h H locs hP hS
    refine lv_iconst (v := 0) X.1 X.2.1 dX9_term_82 (by decide) ?_
    exact B83 0 S _ (lv_sub hl [0, 1, 2, 3, 4, 5] rfl) h _ _ hP hS
  have B72 : ∀ (z0 : Int32) (z1 : Int32) (z2 : Int32) (S : St) (ls : Array Slot), lv_has ls 7 [(0, .ref (G.1 + 224)), (1, .int x1), (2, .int x2), (3, .int x3), (4, .int x4), (5, .int x5)] → w_X9_term_72 x1 x2 x3 x4 x5 K z0 z1 z2 S → q_W p l e (k2_rm 3 78) s m args below meth c 0 0 (MQ below (q_Qc G K v_i) args s 0 0 (fr_ G)) G 72 ls [.int z2, .int z1, .int z0] S := by
    intro z0 z1 z2 S ls hl h H locs hP hS
    refine q_callS (rest := []) X hK hP hS (c_X9_in l G z0 z1 z2 S _ h) my_X9_in tl_X9_78 dX9_term_72 rfl ⟨Nat.le_of_ble_eq_true rfl, Nat.le_of_ble_eq_true rfl⟩ hl.1 rfl (Nat.le_of_ble_eq_true rfl) ⟨Nat.le_of_ble_eq_true rfl, Nat.le_of_ble_eq_true rfl⟩ (fun r_2 S_1 H locs h hP hS => ?_)
    refine W.eq (g2 := F0 m 75 ls [.int r_2]) rfl ?_
    refine lv_if_eq (tgt := 82) X.1 X.2.1 dX9_term_75 (by decide) (fun c_3 => ?_) (fun c_3 => ?_)
    · have h := h.1 c_3
      exact B82 S_1 _ (lv_sub hl [0, 1, 2, 3, 4, 5] rfl) h _ _ hP hS
    · have h := h.2 c_3
      refine lv_iconst (v := 1) X.1 X.2.1 dX9_term_78 (by decide) ?_
      refine lv_goto (tgt := 83) X.1 X.2.1 dX9_term_79 (by decide) ?_
      exact B83 1 S_1 _ (lv_sub hl [0, 1, 2, 3, 4, 5] rfl) h _ _ hP hS
  have B49 : ∀ (z0 : Int32) (z1 : Int32) (z2 : Int32) (S : St) (ls : Array Slot), lv_has ls 7 [(0, .ref (G.1 + 224)), (1, .int x1), (2, .int x2), (3, .int x3), (4, .int x4), (5, .int x5)] → w_X9_term_49 x1 x2 x3 x4 x5 K z0 z1 z2 S → q_W p l e (k2_rm 3 78) s m args below meth c 0 0 (MQ below (q_Qc G K v_i) args s 0 0 (fr_ G)) G 49 ls [.int z2, .int z1, .int z0] S := by
    intro z0 z1 z2 S ls hl h H locs hP hS
    refine q_callS (rest := []) X hK hP hS (c_X9_in l G z0 z1 z2 S _ h) my_X9_in tl_X9_78 dX9_term_49 rfl ⟨Nat.le_of_ble_eq_true rfl, Nat.le_of_ble_eq_true rfl⟩ hl.1 rfl (Nat.le_of_ble_eq_true rfl) ⟨Nat.le_of_ble_eq_true rfl, Nat.le_of_ble_eq_true rfl⟩ (fun r_2 S_1 H locs h hP hS => ?_)
    refine W.eq (g2 := F0 m 52 ls [.int r_2]) rfl ?_
    refine lv_if_eq (tgt := 82) X.1 X.2.1 dX9_term_52 (by decide) (fun c_3 => ?_) (fun c_3 => ?_)
    · have h := h.1 c_3
      exact B82 S_1 _ (lv_sub hl [0, 1, 2, 3, 4, 5] rfl) h _ _ hP hS
    · have h := h.2 c_3
      refine lv_iload X.1 X.2.1 dX9_term_55 (lv_at hl 5 rfl) ?_
      refine lv_iconst (v := 0) X.1 X.2.1 dX9_term_57 (by decide) ?_
      refine lv_aload_n X.1 X.2.1 dX9_term_58 rfl (lv_at hl 0 rfl) ?_
      refine gf_X9_n X hK hP tl_X9_75 dX9_term_59 ?_
      refine lv_iconst (v := 4) X.1 X.2.1 dX9_term_62 (by decide) ?_
      refine lv_icmp_ge (tgt := 70) X.1 X.2.1 dX9_term_63 (by decide) (fun c_4 => ?_) (fun c_4 => ?_)
      · have h := h.1 c_4
        refine lv_bipush (v := 30) X.1 X.2.1 dX9_term_70 (by decide) ?_
        exact B72 x5 0 30 S_1 _ (lv_sub hl [0, 1, 2, 3, 4, 5] rfl) h _ _ hP hS
      · have h := h.2 c_4
        refine lv_iconst (v := 0) X.1 X.2.1 dX9_term_66 (by decide) ?_
        refine lv_goto (tgt := 72) X.1 X.2.1 dX9_term_67 (by decide) ?_
        exact B72 x5 0 0 S_1 _ (lv_sub hl [0, 1, 2, 3, 4, 5] rfl) h _ _ hP hS
  have B26 : ∀ (z0 : Int32) (z1 : Int32) (z2 : Int32) (S : St) (ls : Array Slot), lv_has ls 7 [(0, .ref (G.1 + 224)), (1, .int x1), (2, .int x2), (3, .int x3), (4, .int x4), (5, .int x5)] → w_X9_term_26 x1 x2 x3 x4 x5 K z0 z1 z2 S → q_W p l e (k2_rm 3 78) s m args below meth c 0 0 (MQ below (q_Qc G K v_i) args s 0 0 (fr_ G)) G 26 ls [.int z2, .int z1, .int z0] S := by
    intro z0 z1 z2 S ls hl h H locs hP hS
    refine q_callS (rest := []) X hK hP hS (c_X9_in l G z0 z1 z2 S _ h) my_X9_in tl_X9_78 dX9_term_26 rfl ⟨Nat.le_of_ble_eq_true rfl, Nat.le_of_ble_eq_true rfl⟩ hl.1 rfl (Nat.le_of_ble_eq_true rfl) ⟨Nat.le_of_ble_eq_true rfl, Nat.le_of_ble_eq_true rfl⟩ (fun r_2 S_1 H locs h hP hS => ?_)
    refine W.eq (g2 := F0 m 29 ls [.int r_2]) rfl ?_
    refine lv_if_eq (tgt := 82) X.1 X.2.1 dX9_term_29 (by decide) (fun c_3 => ?_) (fun c_3 => ?_)
    · have h := h.1 c_3
      exact B82 S_1 _ (lv_sub hl [0, 1, 2, 3, 4, 5] rfl) h _ _ hP hS
    · have h := h.2 c_3
      refine lv_iload X.1 X.2.1 dX9_term_32 (lv_at hl 4 rfl) ?_
      refine lv_iconst (v := 0) X.1 X.2.1 dX9_term_34 (by decide) ?_
      refine lv_aload_n X.1 X.2.1 dX9_term_35 rfl (lv_at hl 0 rfl) ?_
      refine gf_X9_n X hK hP tl_X9_75 dX9_term_36 ?_
      refine lv_iconst (v := 3) X.1 X.2.1 dX9_term_39 (by decide) ?_
      refine lv_icmp_ge (tgt := 47) X.1 X.2.1 dX9_term_40 (by decide) (fun c_4 => ?_) (fun c_4 => ?_)
      · have h := h.1 c_4
        refine lv_bipush (v := 30) X.1 X.2.1 dX9_term_47 (by decide) ?_
        exact B49 x4 0 30 S_1 _ (lv_sub hl [0, 1, 2, 3, 4, 5] rfl) h _ _ hP hS
      · have h := h.2 c_4
        refine lv_iconst (v := 0) X.1 X.2.1 dX9_term_43 (by decide) ?_
        refine lv_goto (tgt := 49) X.1 X.2.1 dX9_term_44 (by decide) ?_
        exact B49 x4 0 0 S_1 _ (lv_sub hl [0, 1, 2, 3, 4, 5] rfl) h _ _ hP hS
  refine lv_iload_n X.1 X.2.1 dX9_term_0 rfl (lv_at hl 2 rfl) ?_
  refine lv_iconst (v := 0) X.1 X.2.1 dX9_term_1 (by decide) ?_
  refine lv_bipush (v := 30) X.1 X.2.1 dX9_term_2 (by decide) ?_
  refine q_callS (rest := []) X hK hP hS (c_X9_in l G x2 0 30 S _ h) my_X9_in tl_X9_78 dX9_term_4 rfl ⟨Nat.le_of_ble_eq_true rfl, Nat.le_of_ble_eq_true rfl⟩ hl.1 rfl (Nat.le_of_ble_eq_true rfl) ⟨Nat.le_of_ble_eq_true rfl, Nat.le_of_ble_eq_true rfl⟩ (fun r_2 S_1 H locs h hP hS => ?_)
  refine W.eq (g2 := F0 m 7 ls [.int r_2]) rfl ?_
  refine lv_if_eq (tgt := 82) X.1 X.2.1 dX9_term_7 (by decide) (fun c_3 => ?_) (fun c_3 => ?_)
  · have h := h.1 c_3
    exact B82 S_1 _ (lv_sub hl [0, 1, 2, 3, 4, 5] rfl) h _ _ hP hS
  · have h := h.2 c_3
    refine lv_iload_n X.1 X.2.1 dX9_term_10 rfl (lv_at hl 3 rfl) ?_
    refine lv_iconst (v := 0) X.1 X.2.1 dX9_term_11 (by decide) ?_
    refine lv_aload_n X.1 X.2.1 dX9_term_12 rfl (lv_at hl 0 rfl) ?_
    refine gf_X9_n X hK hP tl_X9_75 dX9_term_13 ?_
    refine lv_iconst (v := 2) X.1 X.2.1 dX9_term_16 (by decide) ?_
    refine lv_icmp_ge (tgt := 24) X.1 X.2.1 dX9_term_17 (by decide) (fun c_4 => ?_) (fun c_4 => ?_)
    · have h := h.1 c_4
      refine lv_bipush (v := 30) X.1 X.2.1 dX9_term_24 (by decide) ?_
      exact B26 x3 0 30 S_1 _ (lv_sub hl [0, 1, 2, 3, 4, 5] rfl) h _ _ hP hS
    · have h := h.2 c_4
      refine lv_iconst (v := 0) X.1 X.2.1 dX9_term_20 (by decide) ?_
      refine lv_goto (tgt := 26) X.1 X.2.1 dX9_term_21 (by decide) ?_
      exact B26 x3 0 0 S_1 _ (lv_sub hl [0, 1, 2, 3, 4, 5] rfl) h _ _ hP hS

set_option maxHeartbeats 4000000 in
set_option maxRecDepth 100000 in
theorem c_X9_keep (l : Launch) (G : Cx) (S : St) (K : Int32 → St → Prop) (h : w_X9_keep S K) : q_Met l yX9_keep cX9_keep 2 (some .int) 2 46 G [.ref (G.1 + 224)] v_i S K := by
  refine q_enter (by decide +kernel) (Nat.le_of_ble_eq_true rfl) (fun p e s m args below meth c ls X hK hP hr hlocks hl => ?_)
  have hS : va_S (fr_ G) s.heap s.heap [] := va_S.rf
  have hl : lv_has ls 2 [(0, .ref (G.1 + 224))] := hl
  refine lv_aload_n X.1 X.2.1 dX9_keep_0 rfl (lv_at hl 0 rfl) ?_
  refine q_callV (rest := []) (b := 224) X hK hP hS (c_X9_free l G S _ h) my_X9_free tl_X9_124 dX9_keep_1 kz_224 rfl rfl rfl ⟨Nat.le_of_ble_eq_true rfl, Nat.le_of_ble_eq_true rfl⟩ hl.1 rfl (Nat.le_of_ble_eq_true rfl) ⟨Nat.le_of_ble_eq_true rfl, Nat.le_of_ble_eq_true rfl⟩ (fun r_2 S_1 H locs h hP hS => ?_)
  refine W.eq (g2 := F0 m 4 ls [.int r_2]) rfl ?_
  refine lv_istore_n (lv' := [(1, .int r_2), (0, .ref (G.1 + 224))]) X.1 X.2.1 dX9_keep_4 rfl hl (by decide) rfl (fun ls hl => ?_)
  refine lv_iload_n X.1 X.2.1 dX9_keep_5 rfl (lv_at hl 0 rfl) ?_
  refine lv_bipush (v := 25) X.1 X.2.1 dX9_keep_6 (by decide) ?_
  refine lv_icmp_ne (tgt := 14) X.1 X.2.1 dX9_keep_8 (by decide) (fun c_3 => ?_) (fun c_3 => ?_)
  · have h := h.1 c_3
    refine lv_aload_n X.1 X.2.1 dX9_keep_14 rfl (lv_at hl 1 rfl) ?_
    refine lv_iconst (v := 0) X.1 X.2.1 dX9_keep_15 (by decide) ?_
    refine lv_iload_n X.1 X.2.1 dX9_keep_16 rfl (lv_at hl 0 rfl) ?_
    refine q_callV (rest := []) (b := 224) X hK hP hS (c_X9_copy l G 0 r_2 S_1 _ h) my_X9_copy tl_X9_128 dX9_keep_17 kz_224 rfl rfl rfl ⟨Nat.le_of_ble_eq_true rfl, Nat.le_of_ble_eq_true rfl⟩ hl.1 rfl (Nat.le_of_ble_eq_true rfl) ⟨Nat.le_of_ble_eq_true rfl, Nat.le_of_ble_eq_true rfl⟩ (fun r_5 S_4 H locs h hP hS => ?_)
    refine W.eq (g2 := F0 m 20 ls []) rfl ?_
    refine lv_aload_n X.1 X.2.1 dX9_keep_20 rfl (lv_at hl 1 rfl) ?_
    refine gf_X9_many X hK hP tl_X9_13 dX9_keep_21 ?_
    refine lv_iconst (v := 0) X.1 X.2.1 dX9_keep_24 (by decide) ?_
    refine lv_iconst (v := 0) X.1 X.2.1 dX9_keep_25 (by decide) ?_
    refine q_iast X hK hP hS kz_225 (q_vin (by decide)) dX9_keep_26 (fun S_6 H locs eS_6 hP hS => ?_)
    have h := h S_6 eS_6
    refine lv_iload_n X.1 X.2.1 dX9_keep_27 rfl (lv_at hl 0 rfl) ?_
    refine lv_iconst (v := 1) X.1 X.2.1 dX9_keep_28 (by decide) ?_
    refine lv_isub X.1 X.2.1 dX9_keep_29 ?_
    exact q_iret X hr hlocks hP hS rfl h dX9_keep_30
  · have h := h.2 c_3
    refine lv_bipush (v := (-4)) X.1 X.2.1 dX9_keep_11 (by decide) ?_
    exact q_iret X hr hlocks hP hS rfl h dX9_keep_13

set_option maxHeartbeats 4000000 in
set_option maxRecDepth 100000 in
theorem c_X9_drop (l : Launch) (G : Cx) (x1 : Int32) (S : St) (K : Int32 → St → Prop) (h : w_X9_drop x1 S K) : q_Met l yX9_drop cX9_drop 3 (some .int) 1 22 G [.ref (G.1 + 224), .int x1] v_i S K := by
  refine q_enter (by decide +kernel) (Nat.le_of_ble_eq_true rfl) (fun p e s m args below meth c ls X hK hP hr hlocks hl => ?_)
  have hS : va_S (fr_ G) s.heap s.heap [] := va_S.rf
  have hl : lv_has ls 3 [(0, .ref (G.1 + 224)), (1, .int x1)] := hl
  have B22 : ∀ (S : St) (ls : Array Slot), lv_has ls 3 [] → w_X9_drop_22 x1 K S → q_W p l e (k2_rm 1 22) s m args below meth c 0 0 (MQ below (q_Qc G K v_i) args s 0 0 (fr_ G)) G 22 ls [] S := by
    intro S ls hl h H locs hP hS
    refine lv_bipush (v := (-2)) X.1 X.2.1 dX9_drop_22 (by decide) ?_
    exact q_iret X hr hlocks hP hS rfl h dX9_drop_24
  refine lv_iload_n X.1 X.2.1 dX9_drop_0 rfl (lv_at hl 1 rfl) ?_
  refine lv_iconst (v := 0) X.1 X.2.1 dX9_drop_1 (by decide) ?_
  refine lv_bipush (v := 23) X.1 X.2.1 dX9_drop_2 (by decide) ?_
  refine q_callS (rest := []) X hK hP hS (c_X9_in l G x1 0 23 S _ h) my_X9_in tl_X9_78 dX9_drop_4 rfl ⟨Nat.le_of_ble_eq_true rfl, Nat.le_of_ble_eq_true rfl⟩ hl.1 rfl (Nat.le_of_ble_eq_true rfl) ⟨Nat.le_of_ble_eq_true rfl, Nat.le_of_ble_eq_true rfl⟩ (fun r_2 S_1 H locs h hP hS => ?_)
  refine W.eq (g2 := F0 m 7 ls [.int r_2]) rfl ?_
  refine lv_if_eq (tgt := 22) X.1 X.2.1 dX9_drop_7 (by decide) (fun c_3 => ?_) (fun c_3 => ?_)
  · have h := h.1 c_3
    exact B22 S_1 _ (lv_sub hl [] rfl) h _ _ hP hS
  · have h := h.2 c_3
    refine lv_aload_n X.1 X.2.1 dX9_drop_10 rfl (lv_at hl 0 rfl) ?_
    refine gf_X9_many X hK hP tl_X9_13 dX9_drop_11 ?_
    refine lv_iconst (v := 1) X.1 X.2.1 dX9_drop_14 (by decide) ?_
    refine lv_iload_n X.1 X.2.1 dX9_drop_15 rfl (lv_at hl 1 rfl) ?_
    refine lv_iadd X.1 X.2.1 dX9_drop_16 ?_
    obtain ⟨o_4, h⟩ := h
    refine q_iald X hK hP kz_225 o_4 dX9_drop_17 ?_
    refine lv_iconst (v := (-1)) X.1 X.2.1 dX9_drop_18 (by decide) ?_
    refine lv_icmp_ne (tgt := 25) X.1 X.2.1 dX9_drop_19 (by decide) (fun c_5 => ?_) (fun c_5 => ?_)
    · have h := h.1 c_5
      refine lv_aload_n X.1 X.2.1 dX9_drop_25 rfl (lv_at hl 0 rfl) ?_
      refine gf_X9_many X hK hP tl_X9_13 dX9_drop_26 ?_
      refine lv_iconst (v := 1) X.1 X.2.1 dX9_drop_29 (by decide) ?_
      refine lv_iload_n X.1 X.2.1 dX9_drop_30 rfl (lv_at hl 1 rfl) ?_
      refine lv_iadd X.1 X.2.1 dX9_drop_31 ?_
      refine q_iald X hK hP kz_225 o_4 dX9_drop_32 ?_
      refine lv_topi (fun x2_6 e2_6 => ?_)
      have h := h x2_6 e2_6
      refine lv_istore_n (lv' := [(2, .int x2_6), (0, .ref (G.1 + 224)), (1, .int x1)]) X.1 X.2.1 dX9_drop_33 rfl hl (by decide) rfl (fun ls hl => ?_)
      refine lv_aload_n X.1 X.2.1 dX9_drop_34 rfl (lv_at hl 1 rfl) ?_
      refine gf_X9_many X hK hP tl_X9_13 dX9_drop_35 ?_
      refine lv_iconst (v := 1) X.1 X.2.1 dX9_drop_38 (by decide) ?_
      refine lv_iload_n X.1 X.2.1 dX9_drop_39 rfl (lv_at hl 2 rfl) ?_
      refine lv_iadd X.1 X.2.1 dX9_drop_40 ?_
      refine lv_iconst (v := (-1)) X.1 X.2.1 dX9_drop_41 (by decide) ?_
      refine q_iast X hK hP hS kz_225 o_4 dX9_drop_42 (fun S_7 H locs eS_7 hP hS => ?_)
      have h := h S_7 eS_7
      refine lv_iload_n X.1 X.2.1 dX9_drop_43 rfl (lv_at hl 0 rfl) ?_
      exact q_iret X hr hlocks hP hS rfl h dX9_drop_44
    · have h := h.2 c_5
      exact B22 S_1 _ (lv_sub hl [] rfl) h _ _ hP hS

set_option maxHeartbeats 4000000 in
set_option maxRecDepth 100000 in
theorem c_X9_terms (l : Launch) (G : Cx) (x1 : Int32) (S : St) (K : Int32 → St → Prop) (h : w_X9_terms x1 S K) : q_Met l yX9_terms cX9_terms 3 (some .int) 1 21 G [.ref (G.1 + 224), .int x1] v_i S K := by
  refine q_enter (by decide +kernel) (Nat.le_of_ble_eq_true rfl) (fun p e s m args below meth c ls X hK hP hr hlocks hl => ?_)
  have hS : va_S (fr_ G) s.heap s.heap [] := va_S.rf
  have hl : lv_has ls 3 [(0, .ref (G.1 + 224)), (1, .int x1)] := hl
  refine lv_aload_n X.1 X.2.1 dX9_terms_0 rfl (lv_at hl 0 rfl) ?_
  refine lv_iload_n X.1 X.2.1 dX9_terms_1 rfl (lv_at hl 1 rfl) ?_
  refine q_callV (rest := []) (b := 224) X hK hP hS (c_X9_placeOf l G x1 S _ h) my_X9_placeOf tl_X9_131 dX9_terms_2 kz_224 rfl rfl rfl ⟨Nat.le_of_ble_eq_true rfl, Nat.le_of_ble_eq_true rfl⟩ hl.1 rfl (Nat.le_of_ble_eq_true rfl) ⟨Nat.le_of_ble_eq_true rfl, Nat.le_of_ble_eq_true rfl⟩ (fun r_2 S_1 H locs h hP hS => ?_)
  refine W.eq (g2 := F0 m 5 ls [.int r_2]) rfl ?_
  refine lv_istore_n (lv' := [(2, .int r_2), (0, .ref (G.1 + 224)), (1, .int x1)]) X.1 X.2.1 dX9_terms_5 rfl hl (by decide) rfl (fun ls hl => ?_)
  refine lv_iload_n X.1 X.2.1 dX9_terms_6 rfl (lv_at hl 0 rfl) ?_
  refine lv_if_ge (tgt := 15) X.1 X.2.1 dX9_terms_7 (by decide) (fun c_3 => ?_) (fun c_3 => ?_)
  · have h := h.1 c_3
    refine lv_aload_n X.1 X.2.1 dX9_terms_15 rfl (lv_at hl 1 rfl) ?_
    refine gf_X9_many X hK hP tl_X9_13 dX9_terms_16 ?_
    refine lv_iload_n X.1 X.2.1 dX9_terms_19 rfl (lv_at hl 0 rfl) ?_
    obtain ⟨o_4, h⟩ := h
    refine q_iald X hK hP kz_225 o_4 dX9_terms_20 ?_
    exact q_iret X hr hlocks hP hS rfl h dX9_terms_21
  · have h := h.2 c_3
    refine lv_bipush (v := (-2)) X.1 X.2.1 dX9_terms_10 (by decide) ?_
    refine lv_goto (tgt := 21) X.1 X.2.1 dX9_terms_12 (by decide) ?_
    exact q_iret X hr hlocks hP hS rfl h dX9_terms_21

set_option maxHeartbeats 4000000 in
set_option maxRecDepth 100000 in
theorem c_X9_number (l : Launch) (G : Cx) (x1 : Int32) (x2 : Int32) (S : St) (K : Int32 → St → Prop) (h : w_X9_number x1 x2 S K) : q_Met l yX9_number cX9_number 4 (some .int) 1 22 G [.ref (G.1 + 224), .int x1, .int x2] v_i S K := by
  refine q_enter (by decide +kernel) (Nat.le_of_ble_eq_true rfl) (fun p e s m args below meth c ls X hK hP hr hlocks hl => ?_)
  have hS : va_S (fr_ G) s.heap s.heap [] := va_S.rf
  have hl : lv_has ls 4 [(0, .ref (G.1 + 224)), (1, .int x1), (2, .int x2)] := hl
  have B26 : ∀ (S : St) (ls : Array Slot), lv_has ls 4 [] → w_X9_number_26 x1 x2 K S → q_W p l e (k2_rm 1 22) s m args below meth c 0 0 (MQ below (q_Qc G K v_i) args s 0 0 (fr_ G)) G 26 ls [] S := by
    intro S ls hl h H locs hP hS
    refine lv_bipush (v := (-2)) X.1 X.2.1 dX9_number_26 (by decide) ?_
    refine lv_goto (tgt := 42) X.1 X.2.1 dX9_number_28 (by decide) ?_
    exact q_iret X hr hlocks hP hS rfl h dX9_number_42
  refine lv_aload_n X.1 X.2.1 dX9_number_0 rfl (lv_at hl 0 rfl) ?_
  refine lv_iload_n X.1 X.2.1 dX9_number_1 rfl (lv_at hl 1 rfl) ?_
  refine q_callV (rest := []) (b := 224) X hK hP hS (c_X9_placeOf l G x1 S _ h) my_X9_placeOf tl_X9_131 dX9_number_2 kz_224 rfl rfl rfl ⟨Nat.le_of_ble_eq_true rfl, Nat.le_of_ble_eq_true rfl⟩ hl.1 rfl (Nat.le_of_ble_eq_true rfl) ⟨Nat.le_of_ble_eq_true rfl, Nat.le_of_ble_eq_true rfl⟩ (fun r_2 S_1 H locs h hP hS => ?_)
  refine W.eq (g2 := F0 m 5 ls [.int r_2]) rfl ?_
  refine lv_istore_n (lv' := [(3, .int r_2), (0, .ref (G.1 + 224)), (1, .int x1), (2, .int x2)]) X.1 X.2.1 dX9_number_5 rfl hl (by decide) rfl (fun ls hl => ?_)
  refine lv_iload_n X.1 X.2.1 dX9_number_6 rfl (lv_at hl 0 rfl) ?_
  refine lv_if_lt (tgt := 26) X.1 X.2.1 dX9_number_7 (by decide) (fun c_3 => ?_) (fun c_3 => ?_)
  · have h := h.1 c_3
    exact B26 S_1 _ (lv_sub hl [] rfl) h _ _ hP hS
  · have h := h.2 c_3
    refine lv_iload_n X.1 X.2.1 dX9_number_10 rfl (lv_at hl 3 rfl) ?_
    refine lv_iconst (v := 0) X.1 X.2.1 dX9_number_11 (by decide) ?_
    refine lv_aload_n X.1 X.2.1 dX9_number_12 rfl (lv_at hl 1 rfl) ?_
    refine gf_X9_many X hK hP tl_X9_13 dX9_number_13 ?_
    refine lv_iload_n X.1 X.2.1 dX9_number_16 rfl (lv_at hl 0 rfl) ?_
    obtain ⟨o_4, h⟩ := h
    refine q_iald X hK hP kz_225 o_4 dX9_number_17 ?_
    refine lv_iconst (v := 1) X.1 X.2.1 dX9_number_18 (by decide) ?_
    refine lv_isub X.1 X.2.1 dX9_number_19 ?_
    refine q_callS (rest := []) X hK hP hS (c_X9_in l G x2 0 ((S_1 225 (q_rf r_2)) - 1) S_1 _ h) my_X9_in tl_X9_78 dX9_number_20 rfl ⟨Nat.le_of_ble_eq_true rfl, Nat.le_of_ble_eq_true rfl⟩ hl.1 rfl (Nat.le_of_ble_eq_true rfl) ⟨Nat.le_of_ble_eq_true rfl, Nat.le_of_ble_eq_true rfl⟩ (fun r_6 S_5 H locs h hP hS => ?_)
    refine W.eq (g2 := F0 m 23 ls [.int r_6]) rfl ?_
    refine lv_if_ne (tgt := 31) X.1 X.2.1 dX9_number_23 (by decide) (fun c_7 => ?_) (fun c_7 => ?_)
    · have h := h.1 c_7
      refine lv_aload_n X.1 X.2.1 dX9_number_31 rfl (lv_at hl 1 rfl) ?_
      refine gf_X9_numbers X hK hP tl_X9_17 dX9_number_32 ?_
      refine lv_bipush (v := 40) X.1 X.2.1 dX9_number_35 (by decide) ?_
      refine lv_iload_n X.1 X.2.1 dX9_number_37 rfl (lv_at hl 0 rfl) ?_
      refine lv_imul X.1 X.2.1 dX9_number_38 ?_
      refine lv_iload_n X.1 X.2.1 dX9_number_39 rfl (lv_at hl 3 rfl) ?_
      refine lv_iadd X.1 X.2.1 dX9_number_40 ?_
      obtain ⟨o_8, h⟩ := h
      refine q_iald X hK hP kz_226 o_8 dX9_number_41 ?_
      exact q_iret X hr hlocks hP hS rfl h dX9_number_42
    · have h := h.2 c_7
      exact B26 S_5 _ (lv_sub hl [] rfl) h _ _ hP hS

set_option maxHeartbeats 4000000 in
set_option maxRecDepth 100000 in
theorem c_X9_exponent (l : Launch) (G : Cx) (x1 : Int32) (x2 : Int32) (x3 : Int32) (S : St) (K : Int32 → St → Prop) (h : w_X9_exponent x1 x2 x3 S K) : q_Met l yX9_exponent cX9_exponent 5 (some .int) 1 22 G [.ref (G.1 + 224), .int x1, .int x2, .int x3] v_i S K := by
  refine q_enter (by decide +kernel) (Nat.le_of_ble_eq_true rfl) (fun p e s m args below meth c ls X hK hP hr hlocks hl => ?_)
  have hS : va_S (fr_ G) s.heap s.heap [] := va_S.rf
  have hl : lv_has ls 5 [(0, .ref (G.1 + 224)), (1, .int x1), (2, .int x2), (3, .int x3)] := hl
  have B43 : ∀ (S : St) (ls : Array Slot), lv_has ls 5 [] → w_X9_exponent_43 x1 x2 x3 K S → q_W p l e (k2_rm 1 22) s m args below meth c 0 0 (MQ below (q_Qc G K v_i) args s 0 0 (fr_ G)) G 43 ls [] S := by
    intro S ls hl h H locs hP hS
    refine lv_bipush (v := (-2)) X.1 X.2.1 dX9_exponent_43 (by decide) ?_
    refine lv_goto (tgt := 65) X.1 X.2.1 dX9_exponent_45 (by decide) ?_
    exact q_iret X hr hlocks hP hS rfl h dX9_exponent_65
  refine lv_aload_n X.1 X.2.1 dX9_exponent_0 rfl (lv_at hl 0 rfl) ?_
  refine lv_iload_n X.1 X.2.1 dX9_exponent_1 rfl (lv_at hl 1 rfl) ?_
  refine q_callV (rest := []) (b := 224) X hK hP hS (c_X9_placeOf l G x1 S _ h) my_X9_placeOf tl_X9_131 dX9_exponent_2 kz_224 rfl rfl rfl ⟨Nat.le_of_ble_eq_true rfl, Nat.le_of_ble_eq_true rfl⟩ hl.1 rfl (Nat.le_of_ble_eq_true rfl) ⟨Nat.le_of_ble_eq_true rfl, Nat.le_of_ble_eq_true rfl⟩ (fun r_2 S_1 H locs h hP hS => ?_)
  refine W.eq (g2 := F0 m 5 ls [.int r_2]) rfl ?_
  refine lv_istore (lv' := [(4, .int r_2), (0, .ref (G.1 + 224)), (1, .int x1), (2, .int x2), (3, .int x3)]) X.1 X.2.1 dX9_exponent_5 hl (by decide) rfl (fun ls hl => ?_)
  refine lv_iload X.1 X.2.1 dX9_exponent_7 (lv_at hl 0 rfl) ?_
  refine lv_if_lt (tgt := 43) X.1 X.2.1 dX9_exponent_9 (by decide) (fun c_3 => ?_) (fun c_3 => ?_)
  · have h := h.1 c_3
    exact B43 S_1 _ (lv_sub hl [] rfl) h _ _ hP hS
  · have h := h.2 c_3
    refine lv_iload_n X.1 X.2.1 dX9_exponent_12 rfl (lv_at hl 3 rfl) ?_
    refine lv_iconst (v := 0) X.1 X.2.1 dX9_exponent_13 (by decide) ?_
    refine lv_aload_n X.1 X.2.1 dX9_exponent_14 rfl (lv_at hl 1 rfl) ?_
    refine gf_X9_many X hK hP tl_X9_13 dX9_exponent_15 ?_
    refine lv_iload X.1 X.2.1 dX9_exponent_18 (lv_at hl 0 rfl) ?_
    obtain ⟨o_4, h⟩ := h
    refine q_iald X hK hP kz_225 o_4 dX9_exponent_20 ?_
    refine lv_iconst (v := 1) X.1 X.2.1 dX9_exponent_21 (by decide) ?_
    refine lv_isub X.1 X.2.1 dX9_exponent_22 ?_
    refine q_callS (rest := []) X hK hP hS (c_X9_in l G x2 0 ((S_1 225 (q_rf r_2)) - 1) S_1 _ h) my_X9_in tl_X9_78 dX9_exponent_23 rfl ⟨Nat.le_of_ble_eq_true rfl, Nat.le_of_ble_eq_true rfl⟩ hl.1 rfl (Nat.le_of_ble_eq_true rfl) ⟨Nat.le_of_ble_eq_true rfl, Nat.le_of_ble_eq_true rfl⟩ (fun r_6 S_5 H locs h hP hS => ?_)
    refine W.eq (g2 := F0 m 26 ls [.int r_6]) rfl ?_
    refine lv_if_eq (tgt := 43) X.1 X.2.1 dX9_exponent_26 (by decide) (fun c_7 => ?_) (fun c_7 => ?_)
    · have h := h.1 c_7
      exact B43 S_5 _ (lv_sub hl [] rfl) h _ _ hP hS
    · have h := h.2 c_7
      refine lv_iload_n X.1 X.2.1 dX9_exponent_29 rfl (lv_at hl 4 rfl) ?_
      refine lv_iconst (v := 0) X.1 X.2.1 dX9_exponent_30 (by decide) ?_
      refine lv_aload_n X.1 X.2.1 dX9_exponent_31 rfl (lv_at hl 1 rfl) ?_
      refine gf_X9_n X hK hP tl_X9_75 dX9_exponent_32 ?_
      refine lv_iconst (v := 1) X.1 X.2.1 dX9_exponent_35 (by decide) ?_
      refine lv_isub X.1 X.2.1 dX9_exponent_36 ?_
      refine q_callS (rest := []) X hK hP hS (c_X9_in l G x3 0 ((S_5 224 1) - 1) S_5 _ h) my_X9_in tl_X9_78 dX9_exponent_37 rfl ⟨Nat.le_of_ble_eq_true rfl, Nat.le_of_ble_eq_true rfl⟩ hl.1 rfl (Nat.le_of_ble_eq_true rfl) ⟨Nat.le_of_ble_eq_true rfl, Nat.le_of_ble_eq_true rfl⟩ (fun r_9 S_8 H locs h hP hS => ?_)
      refine W.eq (g2 := F0 m 40 ls [.int r_9]) rfl ?_
      refine lv_if_ne (tgt := 48) X.1 X.2.1 dX9_exponent_40 (by decide) (fun c_10 => ?_) (fun c_10 => ?_)
      · have h := h.1 c_10
        refine lv_aload_n X.1 X.2.1 dX9_exponent_48 rfl (lv_at hl 1 rfl) ?_
        refine gf_X9_exponents X hK hP tl_X9_20 dX9_exponent_49 ?_
        refine lv_sipush (v := 160) X.1 X.2.1 dX9_exponent_52 (by decide) ?_
        refine lv_iload X.1 X.2.1 dX9_exponent_55 (lv_at hl 0 rfl) ?_
        refine lv_imul X.1 X.2.1 dX9_exponent_57 ?_
        refine lv_iconst (v := 4) X.1 X.2.1 dX9_exponent_58 (by decide) ?_
        refine lv_iload_n X.1 X.2.1 dX9_exponent_59 rfl (lv_at hl 3 rfl) ?_
        refine lv_imul X.1 X.2.1 dX9_exponent_60 ?_
        refine lv_iadd X.1 X.2.1 dX9_exponent_61 ?_
        refine lv_iload_n X.1 X.2.1 dX9_exponent_62 rfl (lv_at hl 4 rfl) ?_
        refine lv_iadd X.1 X.2.1 dX9_exponent_63 ?_
        obtain ⟨o_11, h⟩ := h
        refine q_iald X hK hP kz_227 o_11 dX9_exponent_64 ?_
        exact q_iret X hr hlocks hP hS rfl h dX9_exponent_65
      · have h := h.2 c_10
        exact B43 S_8 _ (lv_sub hl [] rfl) h _ _ hP hS

set_option maxHeartbeats 4000000 in
set_option maxRecDepth 100000 in
theorem c_X9_sum (l : Launch) (G : Cx) (x1 : Int32) (x2 : Int32) (x3 : Int32) (S : St) (K : Int32 → St → Prop) (h : w_X9_sum x1 x2 x3 S K) : q_Met l yX9_sum cX9_sum 8 (some .int) 4 102 G [.ref (G.1 + 224), .int x1, .int x2, .int x3] v_i S K := by
  refine q_enter (by decide +kernel) (Nat.le_of_ble_eq_true rfl) (fun p e s m args below meth c ls X hK hP hr hlocks hl => ?_)
  have hS : va_S (fr_ G) s.heap s.heap [] := va_S.rf
  have hl : lv_has ls 8 [(0, .ref (G.1 + 224)), (1, .int x1), (2, .int x2), (3, .int x3)] := hl
  have B24 : ∀ (S : St) (ls : Array Slot), lv_has ls 8 [] → w_X9_sum_24 x1 x2 x3 K S → q_W p l e (k2_rm 4 102) s m args below meth c 0 0 (MQ below (q_Qc G K v_i) args s 0 0 (fr_ G)) G 24 ls [] S := by
    intro S ls hl h H locs hP hS
    refine lv_bipush (v := (-2)) X.1 X.2.1 dX9_sum_24 (by decide) ?_
    exact q_iret X hr hlocks hP hS rfl h dX9_sum_26
  refine lv_aload_n X.1 X.2.1 dX9_sum_0 rfl (lv_at hl 0 rfl) ?_
  refine lv_iload_n X.1 X.2.1 dX9_sum_1 rfl (lv_at hl 1 rfl) ?_
  refine q_callV (rest := []) (b := 224) X hK hP hS (c_X9_placeOf l G x1 S _ h) my_X9_placeOf tl_X9_131 dX9_sum_2 kz_224 rfl rfl rfl ⟨Nat.le_of_ble_eq_true rfl, Nat.le_of_ble_eq_true rfl⟩ hl.1 rfl (Nat.le_of_ble_eq_true rfl) ⟨Nat.le_of_ble_eq_true rfl, Nat.le_of_ble_eq_true rfl⟩ (fun r_2 S_1 H locs h hP hS => ?_)
  refine W.eq (g2 := F0 m 5 ls [.int r_2]) rfl ?_
  refine lv_istore (lv' := [(4, .int r_2), (0, .ref (G.1 + 224)), (1, .int x1), (2, .int x2), (3, .int x3)]) X.1 X.2.1 dX9_sum_5 hl (by decide) rfl (fun ls hl => ?_)
  refine lv_aload_n X.1 X.2.1 dX9_sum_7 rfl (lv_at hl 1 rfl) ?_
  refine lv_iload_n X.1 X.2.1 dX9_sum_8 rfl (lv_at hl 3 rfl) ?_
  refine q_callV (rest := []) (b := 224) X hK hP hS (c_X9_placeOf l G x2 S_1 _ h) my_X9_placeOf tl_X9_131 dX9_sum_9 kz_224 rfl rfl rfl ⟨Nat.le_of_ble_eq_true rfl, Nat.le_of_ble_eq_true rfl⟩ hl.1 rfl (Nat.le_of_ble_eq_true rfl) ⟨Nat.le_of_ble_eq_true rfl, Nat.le_of_ble_eq_true rfl⟩ (fun r_4 S_3 H locs h hP hS => ?_)
  refine W.eq (g2 := F0 m 12 ls [.int r_4]) rfl ?_
  refine lv_istore (lv' := [(5, .int r_4), (4, .int r_2), (0, .ref (G.1 + 224)), (1, .int x1), (2, .int x2), (3, .int x3)]) X.1 X.2.1 dX9_sum_12 hl (by decide) rfl (fun ls hl => ?_)
  refine lv_iload X.1 X.2.1 dX9_sum_14 (lv_at hl 1 rfl) ?_
  refine lv_if_lt (tgt := 24) X.1 X.2.1 dX9_sum_16 (by decide) (fun c_5 => ?_) (fun c_5 => ?_)
  · have h := h.1 c_5
    exact B24 S_3 _ (lv_sub hl [] rfl) h _ _ hP hS
  · have h := h.2 c_5
    refine lv_iload X.1 X.2.1 dX9_sum_19 (lv_at hl 0 rfl) ?_
    refine lv_if_ge (tgt := 27) X.1 X.2.1 dX9_sum_21 (by decide) (fun c_6 => ?_) (fun c_6 => ?_)
    · have h := h.1 c_6
      refine lv_aload_n X.1 X.2.1 dX9_sum_27 rfl (lv_at hl 2 rfl) ?_
      refine q_callV (rest := []) (b := 224) X hK hP hS (c_X9_free l G S_3 _ h) my_X9_free tl_X9_124 dX9_sum_28 kz_224 rfl rfl rfl ⟨Nat.le_of_ble_eq_true rfl, Nat.le_of_ble_eq_true rfl⟩ hl.1 rfl (Nat.le_of_ble_eq_true rfl) ⟨Nat.le_of_ble_eq_true rfl, Nat.le_of_ble_eq_true rfl⟩ (fun r_8 S_7 H locs h hP hS => ?_)
      refine W.eq (g2 := F0 m 31 ls [.int r_8]) rfl ?_
      refine lv_istore (lv' := [(6, .int r_8), (5, .int r_4), (4, .int r_2), (0, .ref (G.1 + 224)), (1, .int x1), (2, .int x2), (3, .int x3)]) X.1 X.2.1 dX9_sum_31 hl (by decide) rfl (fun ls hl => ?_)
      refine lv_iload X.1 X.2.1 dX9_sum_33 (lv_at hl 0 rfl) ?_
      refine lv_bipush (v := 25) X.1 X.2.1 dX9_sum_35 (by decide) ?_
      refine lv_icmp_ne (tgt := 43) X.1 X.2.1 dX9_sum_37 (by decide) (fun c_9 => ?_) (fun c_9 => ?_)
      · have h := h.1 c_9
        refine lv_aload_n X.1 X.2.1 dX9_sum_43 rfl (lv_at hl 3 rfl) ?_
        refine lv_iload X.1 X.2.1 dX9_sum_44 (lv_at hl 2 rfl) ?_
        refine q_callV (rest := []) (b := 224) X hK hP hS (c_X9_fetch l G r_2 S_7 _ h) my_X9_fetch tl_X9_100 dX9_sum_46 kz_224 rfl rfl rfl ⟨Nat.le_of_ble_eq_true rfl, Nat.le_of_ble_eq_true rfl⟩ hl.1 rfl (Nat.le_of_ble_eq_true rfl) ⟨Nat.le_of_ble_eq_true rfl, Nat.le_of_ble_eq_true rfl⟩ (fun r_11 S_10 H locs h hP hS => ?_)
        refine W.eq (g2 := F0 m 49 ls []) rfl ?_
        refine lv_aload_n X.1 X.2.1 dX9_sum_49 rfl (lv_at hl 3 rfl) ?_
        refine q_callV (rest := []) (b := 224) X hK hP hS (c_X9_byOne l G S_10 _ h) my_X9_byOne tl_X9_113 dX9_sum_50 kz_224 rfl rfl rfl ⟨Nat.le_of_ble_eq_true rfl, Nat.le_of_ble_eq_true rfl⟩ hl.1 rfl (Nat.le_of_ble_eq_true rfl) ⟨Nat.le_of_ble_eq_true rfl, Nat.le_of_ble_eq_true rfl⟩ (fun r_13 S_12 H locs h hP hS => ?_)
        refine W.eq (g2 := F0 m 53 ls []) rfl ?_
        refine lv_aload_n X.1 X.2.1 dX9_sum_53 rfl (lv_at hl 3 rfl) ?_
        refine lv_iload X.1 X.2.1 dX9_sum_54 (lv_at hl 1 rfl) ?_
        refine lv_aload_n X.1 X.2.1 dX9_sum_56 rfl (lv_at hl 3 rfl) ?_
        refine lv_iload_n X.1 X.2.1 dX9_sum_57 rfl (lv_at hl 6 rfl) ?_
        refine lv_i2l X.1 X.2.1 dX9_sum_58 rfl ?_
        refine q_callV (rest := [.int r_4, .ref (G.1 + 224)]) (b := 224) X hK hP hS (c_X9_rest l G (x3.toInt64) S_12 _ h) my_X9_rest tl_X9_120 dX9_sum_59 kz_224 rfl rfl rfl ⟨Nat.le_of_ble_eq_true rfl, Nat.le_of_ble_eq_true rfl⟩ hl.1 rfl (Nat.le_of_ble_eq_true rfl) ⟨Nat.le_of_ble_eq_true rfl, Nat.le_of_ble_eq_true rfl⟩ (fun r_15 S_14 H locs h hP hS => ?_)
        refine W.eq (g2 := F0 m 62 ls [.int r_15, .int r_4, .ref (G.1 + 224)]) rfl ?_
        refine q_callV (rest := []) (b := 224) X hK hP hS (c_X9_addTimes l G r_4 r_15 S_14 _ h) my_X9_addTimes tl_X9_116 dX9_sum_62 kz_224 rfl rfl rfl ⟨Nat.le_of_ble_eq_true rfl, Nat.le_of_ble_eq_true rfl⟩ hl.1 rfl (Nat.le_of_ble_eq_true rfl) ⟨Nat.le_of_ble_eq_true rfl, Nat.le_of_ble_eq_true rfl⟩ (fun r_17 S_16 H locs h hP hS => ?_)
        refine W.eq (g2 := F0 m 65 ls [.int r_17]) rfl ?_
        refine lv_istore (lv' := [(7, .int r_17), (6, .int r_8), (5, .int r_4), (4, .int r_2), (0, .ref (G.1 + 224)), (1, .int x1), (2, .int x2), (3, .int x3)]) X.1 X.2.1 dX9_sum_65 hl (by decide) rfl (fun ls hl => ?_)
        refine lv_aload_n X.1 X.2.1 dX9_sum_67 rfl (lv_at hl 4 rfl) ?_
        refine lv_iload X.1 X.2.1 dX9_sum_68 (lv_at hl 1 rfl) ?_
        refine q_callV (rest := []) (b := 224) X hK hP hS (c_X9_shelve l G r_8 S_16 _ h) my_X9_shelve tl_X9_135 dX9_sum_70 kz_224 rfl rfl rfl ⟨Nat.le_of_ble_eq_true rfl, Nat.le_of_ble_eq_true rfl⟩ hl.1 rfl (Nat.le_of_ble_eq_true rfl) ⟨Nat.le_of_ble_eq_true rfl, Nat.le_of_ble_eq_true rfl⟩ (fun r_19 S_18 H locs h hP hS => ?_)
        refine W.eq (g2 := F0 m 73 ls [.int r_19]) rfl ?_
        exact q_iret X hr hlocks hP hS rfl h dX9_sum_73
      · have h := h.2 c_9
        refine lv_bipush (v := (-4)) X.1 X.2.1 dX9_sum_40 (by decide) ?_
        exact q_iret X hr hlocks hP hS rfl h dX9_sum_42
    · have h := h.2 c_6
      exact B24 S_3 _ (lv_sub hl [] rfl) h _ _ hP hS

set_option maxHeartbeats 4000000 in
set_option maxRecDepth 100000 in
theorem c_X9_product (l : Launch) (G : Cx) (x1 : Int32) (x2 : Int32) (S : St) (K : Int32 → St → Prop) (h : w_X9_product x1 x2 S K) : q_Met l yX9_product cX9_product 8 (some .int) 4 102 G [.ref (G.1 + 224), .int x1, .int x2] v_i S K := by
  refine q_enter (by decide +kernel) (Nat.le_of_ble_eq_true rfl) (fun p e s m args below meth c ls X hK hP hr hlocks hl => ?_)
  have hS : va_S (fr_ G) s.heap s.heap [] := va_S.rf
  have hl : lv_has ls 8 [(0, .ref (G.1 + 224)), (1, .int x1), (2, .int x2)] := hl
  have B22 : ∀ (S : St) (ls : Array Slot), lv_has ls 8 [] → w_X9_product_22 x1 x2 K S → q_W p l e (k2_rm 4 102) s m args below meth c 0 0 (MQ below (q_Qc G K v_i) args s 0 0 (fr_ G)) G 22 ls [] S := by
    intro S ls hl h H locs hP hS
    refine lv_bipush (v := (-2)) X.1 X.2.1 dX9_product_22 (by decide) ?_
    exact q_iret X hr hlocks hP hS rfl h dX9_product_24
  have B63 : ∀ (x3 : Int32) (x4 : Int32) (x5 : Int32) (x6 : Int32) (k49 : Int32 → St → Prop) (hk49 : ∀ (x6 : Int32) (S : St) (ls : Array Slot), lv_has ls 8 [(0, .ref (G.1 + 224)), (3, .int x3), (4, .int x4), (5, .int x5), (6, .int x6)] → k49 x6 S → q_W p l e (k2_rm 4 102) s m args below meth c 0 0 (MQ below (q_Qc G K v_i) args s 0 0 (fr_ G)) G 49 ls [] S) (f : Nat) (x7 : Int32) (S : St) (ls : Array Slot), lv_has ls 8 [(0, .ref (G.1 + 224)), (3, .int x3), (4, .int x4), (5, .int x5), (6, .int x6), (7, .int x7)] → q_it (fun _ _ => False) (w_X9_product_63 x1 x2 K k49 x3 x4 x5 x6) f x7 S → q_W p l e (k2_rm 4 102) s m args below meth c 0 0 (MQ below (q_Qc G K v_i) args s 0 0 (fr_ G)) G 63 ls [] S := by
    intro x3 x4 x5 x6 k49 hk49 f
    induction f with
    | zero => intro x7 S ls hl h; exact False.elim h
    | succ f hk63 =>
      intro x7 S ls hl h H locs hP hS
      have h : w_X9_product_63 x1 x2 K k49 x3 x4 x5 x6 (q_it (fun _ _ => False) (w_X9_product_63 x1 x2 K k49 x3 x4 x5 x6) f) x7 S := h
      generalize q_it (fun _ _ => False) (w_X9_product_63 x1 x2 K k49 x3 x4 x5 x6) f = k63 at h hk63
      refine lv_iload X.1 X.2.1 dX9_product_63 (lv_at hl 5 rfl) ?_
      refine lv_iconst (v := 4) X.1 X.2.1 dX9_product_65 (by decide) ?_
      refine lv_icmp_ge (tgt := 100) X.1 X.2.1 dX9_product_66 (by decide) (fun c_1 => ?_) (fun c_1 => ?_)
      · have h := h.1 c_1
        refine lv_aload_n X.1 X.2.1 dX9_product_100 rfl (lv_at hl 0 rfl) ?_
        refine lv_iload X.1 X.2.1 dX9_product_101 (lv_at hl 2 rfl) ?_
        refine lv_aload_n X.1 X.2.1 dX9_product_103 rfl (lv_at hl 0 rfl) ?_
        refine gf_X9_numbers X hK hP tl_X9_17 dX9_product_104 ?_
        refine lv_bipush (v := 40) X.1 X.2.1 dX9_product_107 (by decide) ?_
        refine lv_iload_n X.1 X.2.1 dX9_product_109 rfl (lv_at hl 1 rfl) ?_
        refine lv_imul X.1 X.2.1 dX9_product_110 ?_
        refine lv_iload X.1 X.2.1 dX9_product_111 (lv_at hl 4 rfl) ?_
        refine lv_iadd X.1 X.2.1 dX9_product_113 ?_
        obtain ⟨o_2, h⟩ := h
        refine q_iald X hK hP kz_226 o_2 dX9_product_114 ?_
        refine q_callV (rest := []) (b := 224) X hK hP hS (c_X9_addTimes l G x4 (S 226 (q_rf ((40 * x3) + x6))) S _ h) my_X9_addTimes tl_X9_116 dX9_product_115 kz_224 rfl rfl rfl ⟨Nat.le_of_ble_eq_true rfl, Nat.le_of_ble_eq_true rfl⟩ hl.1 rfl (Nat.le_of_ble_eq_true rfl) ⟨Nat.le_of_ble_eq_true rfl, Nat.le_of_ble_eq_true rfl⟩ (fun r_4 S_3 H locs h hP hS => ?_)
        refine W.eq (g2 := F0 m 118 ls [.int r_4]) rfl ?_
        refine lv_if_ne (tgt := 124) X.1 X.2.1 dX9_product_118 (by decide) (fun c_5 => ?_) (fun c_5 => ?_)
        · have h := h.1 c_5
          obtain ⟨x6_6, e6_6⟩ : ∃ y : Int32, y = x6 + 1 := ⟨_, rfl⟩
          have h := h x6_6 e6_6
          refine lv_iinc (v := x6_6) (lv' := [(6, .int x6_6), (0, .ref (G.1 + 224)), (3, .int x3), (4, .int x4), (5, .int x5), (7, .int x7)]) X.1 X.2.1 dX9_product_124 hl (k := 4) rfl (by rw [e6_6]; first | rfl | decide) (by decide) rfl (fun ls hl => ?_)
          refine lv_goto (tgt := 49) X.1 X.2.1 dX9_product_127 (by decide) ?_
          exact hk49 x6_6 S_3 _ (lv_sub hl [1, 2, 3, 4, 0] rfl) h _ _ hP hS
        · have h := h.2 c_5
          refine lv_bipush (v := (-5)) X.1 X.2.1 dX9_product_121 (by decide) ?_
          exact q_iret X hr hlocks hP hS rfl h dX9_product_123
      · have h := h.2 c_1
        refine lv_aload_n X.1 X.2.1 dX9_product_69 rfl (lv_at hl 0 rfl) ?_
        refine gf_X9_by X hK hP tl_X9_41 dX9_product_70 ?_
        refine lv_iload X.1 X.2.1 dX9_product_73 (lv_at hl 5 rfl) ?_
        refine lv_aload_n X.1 X.2.1 dX9_product_75 rfl (lv_at hl 0 rfl) ?_
        refine gf_X9_exponents X hK hP tl_X9_20 dX9_product_76 ?_
        refine lv_sipush (v := 160) X.1 X.2.1 dX9_product_79 (by decide) ?_
        refine lv_iload_n X.1 X.2.1 dX9_product_82 rfl (lv_at hl 1 rfl) ?_
        refine lv_imul X.1 X.2.1 dX9_product_83 ?_
        refine lv_iconst (v := 4) X.1 X.2.1 dX9_product_84 (by decide) ?_
        refine lv_iload X.1 X.2.1 dX9_product_85 (lv_at hl 4 rfl) ?_
        refine lv_imul X.1 X.2.1 dX9_product_87 ?_
        refine lv_iadd X.1 X.2.1 dX9_product_88 ?_
        refine lv_iload X.1 X.2.1 dX9_product_89 (lv_at hl 5 rfl) ?_
        refine lv_iadd X.1 X.2.1 dX9_product_91 ?_
        obtain ⟨o_7, h⟩ := h
        refine q_iald X hK hP kz_227 o_7 dX9_product_92 ?_
        obtain ⟨o_8, h⟩ := h
        refine q_iast X hK hP hS kz_233 o_8 dX9_product_93 (fun S_9 H locs eS_9 hP hS => ?_)
        have h := h S_9 eS_9
        obtain ⟨x7_10, e7_10⟩ : ∃ y : Int32, y = x7 + 1 := ⟨_, rfl⟩
        have h := h x7_10 e7_10
        refine lv_iinc (v := x7_10) (lv' := [(7, .int x7_10), (0, .ref (G.1 + 224)), (3, .int x3), (4, .int x4), (5, .int x5), (6, .int x6)]) X.1 X.2.1 dX9_product_94 hl (k := 5) rfl (by rw [e7_10]; first | rfl | decide) (by decide) rfl (fun ls hl => ?_)
        refine lv_goto (tgt := 63) X.1 X.2.1 dX9_product_97 (by decide) ?_
        exact hk63 x7_10 S_9 _ (lv_sub hl [1, 2, 3, 4, 5, 0] rfl) h _ _ hP hS
  have B49 : ∀ (x3 : Int32) (x4 : Int32) (x5 : Int32) (f : Nat) (x6 : Int32) (S : St) (ls : Array Slot), lv_has ls 8 [(0, .ref (G.1 + 224)), (3, .int x3), (4, .int x4), (5, .int x5), (6, .int x6)] → q_it (fun _ _ => False) (w_X9_product_49 x1 x2 K x3 x4 x5) f x6 S → q_W p l e (k2_rm 4 102) s m args below meth c 0 0 (MQ below (q_Qc G K v_i) args s 0 0 (fr_ G)) G 49 ls [] S := by
    intro x3 x4 x5 f
    induction f with
    | zero => intro x6 S ls hl h; exact False.elim h
    | succ f hk49 =>
      intro x6 S ls hl h H locs hP hS
      have h : w_X9_product_49 x1 x2 K x3 x4 x5 (q_it (fun _ _ => False) (w_X9_product_49 x1 x2 K x3 x4 x5) f) x6 S := h
      generalize q_it (fun _ _ => False) (w_X9_product_49 x1 x2 K x3 x4 x5) f = k49 at h hk49
      refine lv_iload X.1 X.2.1 dX9_product_49 (lv_at hl 4 rfl) ?_
      refine lv_aload_n X.1 X.2.1 dX9_product_51 rfl (lv_at hl 0 rfl) ?_
      refine gf_X9_many X hK hP tl_X9_13 dX9_product_52 ?_
      refine lv_iload_n X.1 X.2.1 dX9_product_55 rfl (lv_at hl 1 rfl) ?_
      obtain ⟨o_1, h⟩ := h
      refine q_iald X hK hP kz_225 o_1 dX9_product_56 ?_
      refine lv_icmp_ge (tgt := 130) X.1 X.2.1 dX9_product_57 (by decide) (fun c_2 => ?_) (fun c_2 => ?_)
      · have h := h.1 c_2
        refine lv_aload_n X.1 X.2.1 dX9_product_130 rfl (lv_at hl 0 rfl) ?_
        refine lv_iload X.1 X.2.1 dX9_product_131 (lv_at hl 3 rfl) ?_
        refine q_callV (rest := []) (b := 224) X hK hP hS (c_X9_shelve l G x5 S _ h) my_X9_shelve tl_X9_135 dX9_product_133 kz_224 rfl rfl rfl ⟨Nat.le_of_ble_eq_true rfl, Nat.le_of_ble_eq_true rfl⟩ hl.1 rfl (Nat.le_of_ble_eq_true rfl) ⟨Nat.le_of_ble_eq_true rfl, Nat.le_of_ble_eq_true rfl⟩ (fun r_4 S_3 H locs h hP hS => ?_)
        refine W.eq (g2 := F0 m 136 ls [.int r_4]) rfl ?_
        exact q_iret X hr hlocks hP hS rfl h dX9_product_136
      · have h := h.2 c_2
        refine lv_iconst (v := 0) X.1 X.2.1 dX9_product_60 (by decide) ?_
        refine lv_istore (lv' := [(7, .int 0), (0, .ref (G.1 + 224)), (3, .int x3), (4, .int x4), (5, .int x5), (6, .int x6)]) X.1 X.2.1 dX9_product_61 hl (by decide) rfl (fun ls hl => ?_)
        obtain ⟨f_5, h⟩ := h
        exact B63 x3 x4 x5 x6 k49 hk49 f_5 0 S _ (lv_sub hl [1, 2, 3, 4, 5, 0] rfl) h _ _ hP hS
  refine lv_aload_n X.1 X.2.1 dX9_product_0 rfl (lv_at hl 0 rfl) ?_
  refine lv_iload_n X.1 X.2.1 dX9_product_1 rfl (lv_at hl 1 rfl) ?_
  refine q_callV (rest := []) (b := 224) X hK hP hS (c_X9_placeOf l G x1 S _ h) my_X9_placeOf tl_X9_131 dX9_product_2 kz_224 rfl rfl rfl ⟨Nat.le_of_ble_eq_true rfl, Nat.le_of_ble_eq_true rfl⟩ hl.1 rfl (Nat.le_of_ble_eq_true rfl) ⟨Nat.le_of_ble_eq_true rfl, Nat.le_of_ble_eq_true rfl⟩ (fun r_2 S_1 H locs h hP hS => ?_)
  refine W.eq (g2 := F0 m 5 ls [.int r_2]) rfl ?_
  refine lv_istore_n (lv' := [(3, .int r_2), (0, .ref (G.1 + 224)), (1, .int x1), (2, .int x2)]) X.1 X.2.1 dX9_product_5 rfl hl (by decide) rfl (fun ls hl => ?_)
  refine lv_aload_n X.1 X.2.1 dX9_product_6 rfl (lv_at hl 1 rfl) ?_
  refine lv_iload_n X.1 X.2.1 dX9_product_7 rfl (lv_at hl 3 rfl) ?_
  refine q_callV (rest := []) (b := 224) X hK hP hS (c_X9_placeOf l G x2 S_1 _ h) my_X9_placeOf tl_X9_131 dX9_product_8 kz_224 rfl rfl rfl ⟨Nat.le_of_ble_eq_true rfl, Nat.le_of_ble_eq_true rfl⟩ hl.1 rfl (Nat.le_of_ble_eq_true rfl) ⟨Nat.le_of_ble_eq_true rfl, Nat.le_of_ble_eq_true rfl⟩ (fun r_4 S_3 H locs h hP hS => ?_)
  refine W.eq (g2 := F0 m 11 ls [.int r_4]) rfl ?_
  refine lv_istore (lv' := [(4, .int r_4), (3, .int r_2), (0, .ref (G.1 + 224)), (1, .int x1), (2, .int x2)]) X.1 X.2.1 dX9_product_11 hl (by decide) rfl (fun ls hl => ?_)
  refine lv_iload_n X.1 X.2.1 dX9_product_13 rfl (lv_at hl 1 rfl) ?_
  refine lv_if_lt (tgt := 22) X.1 X.2.1 dX9_product_14 (by decide) (fun c_5 => ?_) (fun c_5 => ?_)
  · have h := h.1 c_5
    exact B22 S_3 _ (lv_sub hl [] rfl) h _ _ hP hS
  · have h := h.2 c_5
    refine lv_iload X.1 X.2.1 dX9_product_17 (lv_at hl 0 rfl) ?_
    refine lv_if_ge (tgt := 25) X.1 X.2.1 dX9_product_19 (by decide) (fun c_6 => ?_) (fun c_6 => ?_)
    · have h := h.1 c_6
      refine lv_aload_n X.1 X.2.1 dX9_product_25 rfl (lv_at hl 2 rfl) ?_
      refine q_callV (rest := []) (b := 224) X hK hP hS (c_X9_free l G S_3 _ h) my_X9_free tl_X9_124 dX9_product_26 kz_224 rfl rfl rfl ⟨Nat.le_of_ble_eq_true rfl, Nat.le_of_ble_eq_true rfl⟩ hl.1 rfl (Nat.le_of_ble_eq_true rfl) ⟨Nat.le_of_ble_eq_true rfl, Nat.le_of_ble_eq_true rfl⟩ (fun r_8 S_7 H locs h hP hS => ?_)
      refine W.eq (g2 := F0 m 29 ls [.int r_8]) rfl ?_
      refine lv_istore (lv' := [(5, .int r_8), (4, .int r_4), (3, .int r_2), (0, .ref (G.1 + 224)), (1, .int x1), (2, .int x2)]) X.1 X.2.1 dX9_product_29 hl (by decide) rfl (fun ls hl => ?_)
      refine lv_iload X.1 X.2.1 dX9_product_31 (lv_at hl 0 rfl) ?_
      refine lv_bipush (v := 25) X.1 X.2.1 dX9_product_33 (by decide) ?_
      refine lv_icmp_ne (tgt := 41) X.1 X.2.1 dX9_product_35 (by decide) (fun c_9 => ?_) (fun c_9 => ?_)
      · have h := h.1 c_9
        refine lv_aload_n X.1 X.2.1 dX9_product_41 rfl (lv_at hl 3 rfl) ?_
        refine lv_iconst (v := 0) X.1 X.2.1 dX9_product_42 (by decide) ?_
        refine pf_X9_row X hK hP hS tl_X9_90 dX9_product_43 (fun S_10 H locs eS_10 hP hS => ?_)
        have h := h S_10 eS_10
        refine lv_iconst (v := 0) X.1 X.2.1 dX9_product_46 (by decide) ?_
        refine lv_istore (lv' := [(6, .int 0), (5, .int r_8), (4, .int r_4), (3, .int r_2), (0, .ref (G.1 + 224)), (1, .int x1), (2, .int x2)]) X.1 X.2.1 dX9_product_47 hl (by decide) rfl (fun ls hl => ?_)
        obtain ⟨f_11, h⟩ := h
        exact B49 r_2 r_4 r_8 f_11 0 S_10 _ (lv_sub hl [4, 3, 2, 1, 0] rfl) h _ _ hP hS
      · have h := h.2 c_9
        refine lv_bipush (v := (-4)) X.1 X.2.1 dX9_product_38 (by decide) ?_
        exact q_iret X hr hlocks hP hS rfl h dX9_product_40
    · have h := h.2 c_6
      exact B22 S_3 _ (lv_sub hl [] rfl) h _ _ hP hS

set_option maxHeartbeats 4000000 in
set_option maxRecDepth 100000 in
theorem c_X9_derived (l : Launch) (G : Cx) (x1 : Int32) (x2 : Int32) (S : St) (K : Int32 → St → Prop) (h : w_X9_derived x1 x2 S K) : q_Met l yX9_derived cX9_derived 9 (some .int) 3 78 G [.ref (G.1 + 224), .int x1, .int x2] v_i S K := by
  refine q_enter (by decide +kernel) (Nat.le_of_ble_eq_true rfl) (fun p e s m args below meth c ls X hK hP hr hlocks hl => ?_)
  have hS : va_S (fr_ G) s.heap s.heap [] := va_S.rf
  have hl : lv_has ls 9 [(0, .ref (G.1 + 224)), (1, .int x1), (2, .int x2)] := hl
  have B24 : ∀ (S : St) (ls : Array Slot), lv_has ls 9 [] → w_X9_derived_24 x1 x2 K S → q_W p l e (k2_rm 3 78) s m args below meth c 0 0 (MQ below (q_Qc G K v_i) args s 0 0 (fr_ G)) G 24 ls [] S := by
    intro S ls hl h H locs hP hS
    refine lv_bipush (v := (-2)) X.1 X.2.1 dX9_derived_24 (by decide) ?_
    exact q_iret X hr hlocks hP hS rfl h dX9_derived_26
  have B166 : ∀ (x3 : Int32) (x4 : Int32) (x5 : Int32) (k51 : Int32 → St → Prop) (hk51 : ∀ (x5 : Int32) (S : St) (ls : Array Slot), lv_has ls 9 [(0, .ref (G.1 + 224)), (2, .int x2), (3, .int x3), (4, .int x4), (5, .int x5)] → k51 x5 S → q_W p l e (k2_rm 3 78) s m args below meth c 0 0 (MQ below (q_Qc G K v_i) args s 0 0 (fr_ G)) G 51 ls [] S) (S : St) (ls : Array Slot), lv_has ls 9 [(0, .ref (G.1 + 224)), (2, .int x2), (3, .int x3), (4, .int x4), (5, .int x5)] → w_X9_derived_166 x1 x2 K k51 x3 x4 x5 S → q_W p l e (k2_rm 3 78) s m args below meth c 0 0 (MQ below (q_Qc G K v_i) args s 0 0 (fr_ G)) G 166 ls [] S := by
    intro x3 x4 x5 k51 hk51 S ls hl h H locs hP hS
    obtain ⟨x5_1, e5_1⟩ : ∃ y : Int32, y = x5 + 1 := ⟨_, rfl⟩
    have h := h x5_1 e5_1
    refine lv_iinc (v := x5_1) (lv' := [(5, .int x5_1), (0, .ref (G.1 + 224)), (2, .int x2), (3, .int x3), (4, .int x4)]) X.1 X.2.1 dX9_derived_166 hl (k := 4) rfl (by rw [e5_1]; first | rfl | decide) (by decide) rfl (fun ls hl => ?_)
    refine lv_goto (tgt := 51) X.1 X.2.1 dX9_derived_169 (by decide) ?_
    exact hk51 x5_1 S _ (lv_sub hl [1, 2, 3, 4, 0] rfl) h _ _ hP hS
  have B152 : ∀ (x3 : Int32) (x4 : Int32) (x5 : Int32) (x7 : Int32) (x8 : Int32) (z1 : Int32) (z2 : Int32) (z3 : Int32) (k51 : Int32 → St → Prop) (hk51 : ∀ (x5 : Int32) (S : St) (ls : Array Slot), lv_has ls 9 [(0, .ref (G.1 + 224)), (2, .int x2), (3, .int x3), (4, .int x4), (5, .int x5)] → k51 x5 S → q_W p l e (k2_rm 3 78) s m args below meth c 0 0 (MQ below (q_Qc G K v_i) args s 0 0 (fr_ G)) G 51 ls [] S) (k111 : Int32 → St → Prop) (hk111 : ∀ (x8 : Int32) (S : St) (ls : Array Slot), lv_has ls 9 [(0, .ref (G.1 + 224)), (2, .int x2), (3, .int x3), (4, .int x4), (5, .int x5), (7, .int x7), (8, .int x8)] → k111 x8 S → q_W p l e (k2_rm 3 78) s m args below meth c 0 0 (MQ below (q_Qc G K v_i) args s 0 0 (fr_ G)) G 111 ls [] S) (S : St) (ls : Array Slot), lv_has ls 9 [(0, .ref (G.1 + 224)), (2, .int x2), (3, .int x3), (4, .int x4), (5, .int x5), (7, .int x7), (8, .int x8)] → w_X9_derived_152 x1 x2 K k51 k111 x3 x4 x5 x7 x8 z1 z2 z3 S → q_W p l e (k2_rm 3 78) s m args below meth c 0 0 (MQ below (q_Qc G K v_i) args s 0 0 (fr_ G)) G 152 ls [.int z3, .int z2, .int z1, .ref (G.1 + 232)] S := by
    intro x3 x4 x5 x7 x8 z1 z2 z3 k51 hk51 k111 hk111 S ls hl h H locs hP hS
    refine lv_isub X.1 X.2.1 dX9_derived_152 ?_
    obtain ⟨o_1, h⟩ := h
    refine q_iast X hK hP hS kz_232 o_1 dX9_derived_153 (fun S_2 H locs eS_2 hP hS => ?_)
    have h := h S_2 eS_2
    obtain ⟨x8_3, e8_3⟩ : ∃ y : Int32, y = x8 + 1 := ⟨_, rfl⟩
    have h := h x8_3 e8_3
    refine lv_iinc (v := x8_3) (lv' := [(8, .int x8_3), (0, .ref (G.1 + 224)), (2, .int x2), (3, .int x3), (4, .int x4), (5, .int x5), (7, .int x7)]) X.1 X.2.1 dX9_derived_154 hl (k := 6) rfl (by rw [e8_3]; first | rfl | decide) (by decide) rfl (fun ls hl => ?_)
    refine lv_goto (tgt := 111) X.1 X.2.1 dX9_derived_157 (by decide) ?_
    exact hk111 x8_3 S_2 _ (lv_sub hl [1, 2, 3, 4, 5, 6, 0] rfl) h _ _ hP hS
  have B111 : ∀ (x3 : Int32) (x4 : Int32) (x5 : Int32) (x7 : Int32) (k51 : Int32 → St → Prop) (hk51 : ∀ (x5 : Int32) (S : St) (ls : Array Slot), lv_has ls 9 [(0, .ref (G.1 + 224)), (2, .int x2), (3, .int x3), (4, .int x4), (5, .int x5)] → k51 x5 S → q_W p l e (k2_rm 3 78) s m args below meth c 0 0 (MQ below (q_Qc G K v_i) args s 0 0 (fr_ G)) G 51 ls [] S) (f : Nat) (x8 : Int32) (S : St) (ls : Array Slot), lv_has ls 9 [(0, .ref (G.1 + 224)), (2, .int x2), (3, .int x3), (4, .int x4), (5, .int x5), (7, .int x7), (8, .int x8)] → q_it (fun _ _ => False) (w_X9_derived_111 x1 x2 K k51 x3 x4 x5 x7) f x8 S → q_W p l e (k2_rm 3 78) s m args below meth c 0 0 (MQ below (q_Qc G K v_i) args s 0 0 (fr_ G)) G 111 ls [] S := by
    intro x3 x4 x5 x7 k51 hk51 f
    induction f with
    | zero => intro x8 S ls hl h; exact False.elim h
    | succ f hk111 =>
      intro x8 S ls hl h H locs hP hS
      have h : w_X9_derived_111 x1 x2 K k51 x3 x4 x5 x7 (q_it (fun _ _ => False) (w_X9_derived_111 x1 x2 K k51 x3 x4 x5 x7) f) x8 S := h
      generalize q_it (fun _ _ => False) (w_X9_derived_111 x1 x2 K k51 x3 x4 x5 x7) f = k111 at h hk111
      refine lv_iload X.1 X.2.1 dX9_derived_111 (lv_at hl 6 rfl) ?_
      refine lv_iconst (v := 4) X.1 X.2.1 dX9_derived_113 (by decide) ?_
      refine lv_icmp_ge (tgt := 160) X.1 X.2.1 dX9_derived_114 (by decide) (fun c_1 => ?_) (fun c_1 => ?_)
      · have h := h.1 c_1
        refine lv_aload_n X.1 X.2.1 dX9_derived_160 rfl (lv_at hl 0 rfl) ?_
        refine lv_iload X.1 X.2.1 dX9_derived_161 (lv_at hl 5 rfl) ?_
        refine q_callV (rest := []) (b := 224) X hK hP hS (c_X9_add l G x7 S _ h) my_X9_add tl_X9_96 dX9_derived_163 kz_224 rfl rfl rfl ⟨Nat.le_of_ble_eq_true rfl, Nat.le_of_ble_eq_true rfl⟩ hl.1 rfl (Nat.le_of_ble_eq_true rfl) ⟨Nat.le_of_ble_eq_true rfl, Nat.le_of_ble_eq_true rfl⟩ (fun r_3 S_2 H locs h hP hS => ?_)
        refine W.eq (g2 := F0 m 166 ls []) rfl ?_
        exact B166 x3 x4 x5 k51 hk51 S_2 _ (lv_sub hl [0, 1, 2, 3, 4] rfl) h _ _ hP hS
      · have h := h.2 c_1
        refine lv_aload_n X.1 X.2.1 dX9_derived_117 rfl (lv_at hl 0 rfl) ?_
        refine gf_X9_one X hK hP tl_X9_38 dX9_derived_118 ?_
        refine lv_iload X.1 X.2.1 dX9_derived_121 (lv_at hl 6 rfl) ?_
        refine lv_aload_n X.1 X.2.1 dX9_derived_123 rfl (lv_at hl 0 rfl) ?_
        refine gf_X9_exponents X hK hP tl_X9_20 dX9_derived_124 ?_
        refine lv_sipush (v := 160) X.1 X.2.1 dX9_derived_127 (by decide) ?_
        refine lv_iload_n X.1 X.2.1 dX9_derived_130 rfl (lv_at hl 2 rfl) ?_
        refine lv_imul X.1 X.2.1 dX9_derived_131 ?_
        refine lv_iconst (v := 4) X.1 X.2.1 dX9_derived_132 (by decide) ?_
        refine lv_iload X.1 X.2.1 dX9_derived_133 (lv_at hl 4 rfl) ?_
        refine lv_imul X.1 X.2.1 dX9_derived_135 ?_
        refine lv_iadd X.1 X.2.1 dX9_derived_136 ?_
        refine lv_iload X.1 X.2.1 dX9_derived_137 (lv_at hl 6 rfl) ?_
        refine lv_iadd X.1 X.2.1 dX9_derived_139 ?_
        obtain ⟨o_4, h⟩ := h
        refine q_iald X hK hP kz_227 o_4 dX9_derived_140 ?_
        refine lv_iload X.1 X.2.1 dX9_derived_141 (lv_at hl 6 rfl) ?_
        refine lv_iload_n X.1 X.2.1 dX9_derived_143 rfl (lv_at hl 1 rfl) ?_
        refine lv_icmp_ne (tgt := 151) X.1 X.2.1 dX9_derived_144 (by decide) (fun c_5 => ?_) (fun c_5 => ?_)
        · have h := h.1 c_5
          refine lv_iconst (v := 0) X.1 X.2.1 dX9_derived_151 (by decide) ?_
          exact B152 x3 x4 x5 x7 x8 x8 (S 227 (q_rf (((160 * x3) + (4 * x5)) + x8))) 0 k51 hk51 k111 hk111 S _ (lv_sub hl [0, 1, 2, 3, 4, 5, 6] rfl) h _ _ hP hS
        · have h := h.2 c_5
          refine lv_iconst (v := 1) X.1 X.2.1 dX9_derived_147 (by decide) ?_
          refine lv_goto (tgt := 152) X.1 X.2.1 dX9_derived_148 (by decide) ?_
          exact B152 x3 x4 x5 x7 x8 x8 (S 227 (q_rf (((160 * x3) + (4 * x5)) + x8))) 1 k51 hk51 k111 hk111 S _ (lv_sub hl [0, 1, 2, 3, 4, 5, 6] rfl) h _ _ hP hS
  have B51 : ∀ (x3 : Int32) (x4 : Int32) (f : Nat) (x5 : Int32) (S : St) (ls : Array Slot), lv_has ls 9 [(0, .ref (G.1 + 224)), (2, .int x2), (3, .int x3), (4, .int x4), (5, .int x5)] → q_it (fun _ _ => False) (w_X9_derived_51 x1 x2 K x3 x4) f x5 S → q_W p l e (k2_rm 3 78) s m args below meth c 0 0 (MQ below (q_Qc G K v_i) args s 0 0 (fr_ G)) G 51 ls [] S := by
    intro x3 x4 f
    induction f with
    | zero => intro x5 S ls hl h; exact False.elim h
    | succ f hk51 =>
      intro x5 S ls hl h H locs hP hS
      have h : w_X9_derived_51 x1 x2 K x3 x4 (q_it (fun _ _ => False) (w_X9_derived_51 x1 x2 K x3 x4) f) x5 S := h
      generalize q_it (fun _ _ => False) (w_X9_derived_51 x1 x2 K x3 x4) f = k51 at h hk51
      refine lv_iload X.1 X.2.1 dX9_derived_51 (lv_at hl 4 rfl) ?_
      refine lv_aload_n X.1 X.2.1 dX9_derived_53 rfl (lv_at hl 0 rfl) ?_
      refine gf_X9_many X hK hP tl_X9_13 dX9_derived_54 ?_
      refine lv_iload_n X.1 X.2.1 dX9_derived_57 rfl (lv_at hl 2 rfl) ?_
      obtain ⟨o_1, h⟩ := h
      refine q_iald X hK hP kz_225 o_1 dX9_derived_58 ?_
      refine lv_icmp_ge (tgt := 172) X.1 X.2.1 dX9_derived_59 (by decide) (fun c_2 => ?_) (fun c_2 => ?_)
      · have h := h.1 c_2
        refine lv_aload_n X.1 X.2.1 dX9_derived_172 rfl (lv_at hl 0 rfl) ?_
        refine lv_iload X.1 X.2.1 dX9_derived_173 (lv_at hl 3 rfl) ?_
        refine q_callV (rest := []) (b := 224) X hK hP hS (c_X9_shelve l G x4 S _ h) my_X9_shelve tl_X9_135 dX9_derived_175 kz_224 rfl rfl rfl ⟨Nat.le_of_ble_eq_true rfl, Nat.le_of_ble_eq_true rfl⟩ hl.1 rfl (Nat.le_of_ble_eq_true rfl) ⟨Nat.le_of_ble_eq_true rfl, Nat.le_of_ble_eq_true rfl⟩ (fun r_4 S_3 H locs h hP hS => ?_)
        refine W.eq (g2 := F0 m 178 ls [.int r_4]) rfl ?_
        exact q_iret X hr hlocks hP hS rfl h dX9_derived_178
      · have h := h.2 c_2
        refine lv_aload_n X.1 X.2.1 dX9_derived_62 rfl (lv_at hl 0 rfl) ?_
        refine gf_X9_exponents X hK hP tl_X9_20 dX9_derived_63 ?_
        refine lv_sipush (v := 160) X.1 X.2.1 dX9_derived_66 (by decide) ?_
        refine lv_iload_n X.1 X.2.1 dX9_derived_69 rfl (lv_at hl 2 rfl) ?_
        refine lv_imul X.1 X.2.1 dX9_derived_70 ?_
        refine lv_iconst (v := 4) X.1 X.2.1 dX9_derived_71 (by decide) ?_
        refine lv_iload X.1 X.2.1 dX9_derived_72 (lv_at hl 4 rfl) ?_
        refine lv_imul X.1 X.2.1 dX9_derived_74 ?_
        refine lv_iadd X.1 X.2.1 dX9_derived_75 ?_
        refine lv_iload_n X.1 X.2.1 dX9_derived_76 rfl (lv_at hl 1 rfl) ?_
        refine lv_iadd X.1 X.2.1 dX9_derived_77 ?_
        obtain ⟨o_5, h⟩ := h
        refine q_iald X hK hP kz_227 o_5 dX9_derived_78 ?_
        refine lv_topi (fun x6_6 e6_6 => ?_)
        have h := h x6_6 e6_6
        refine lv_istore (lv' := [(6, .int x6_6), (0, .ref (G.1 + 224)), (2, .int x2), (3, .int x3), (4, .int x4), (5, .int x5)]) X.1 X.2.1 dX9_derived_79 hl (by decide) rfl (fun ls hl => ?_)
        refine lv_aload_n X.1 X.2.1 dX9_derived_81 rfl (lv_at hl 1 rfl) ?_
        refine gf_X9_numbers X hK hP tl_X9_17 dX9_derived_82 ?_
        refine lv_bipush (v := 40) X.1 X.2.1 dX9_derived_85 (by decide) ?_
        refine lv_iload_n X.1 X.2.1 dX9_derived_87 rfl (lv_at hl 3 rfl) ?_
        refine lv_imul X.1 X.2.1 dX9_derived_88 ?_
        refine lv_iload X.1 X.2.1 dX9_derived_89 (lv_at hl 5 rfl) ?_
        refine lv_iadd X.1 X.2.1 dX9_derived_91 ?_
        obtain ⟨o_7, h⟩ := h
        refine q_iald X hK hP kz_226 o_7 dX9_derived_92 ?_
        refine lv_iload X.1 X.2.1 dX9_derived_93 (lv_at hl 0 rfl) ?_
        refine lv_imul X.1 X.2.1 dX9_derived_95 ?_
        refine lv_aload_n X.1 X.2.1 dX9_derived_96 rfl (lv_at hl 1 rfl) ?_
        refine gf_X9_p X hK hP tl_X9_72 dX9_derived_97 ?_
        obtain ⟨o_8, h⟩ := h
        refine lv_irem X.1 X.2.1 dX9_derived_100 o_8 ?_
        refine lv_topi (fun x7_9 e7_9 => ?_)
        have h := h x7_9 e7_9
        refine lv_istore (lv' := [(7, .int x7_9), (6, .int x6_6), (0, .ref (G.1 + 224)), (2, .int x2), (3, .int x3), (4, .int x4), (5, .int x5)]) X.1 X.2.1 dX9_derived_101 hl (by decide) rfl (fun ls hl => ?_)
        refine lv_iload X.1 X.2.1 dX9_derived_103 (lv_at hl 0 rfl) ?_
        refine lv_if_eq (tgt := 166) X.1 X.2.1 dX9_derived_105 (by decide) (fun c_10 => ?_) (fun c_10 => ?_)
        · have h := h.1 c_10
          exact B166 x3 x4 x5 k51 hk51 S _ (lv_sub hl [2, 3, 4, 5, 6] rfl) h _ _ hP hS
        · have h := h.2 c_10
          refine lv_iconst (v := 0) X.1 X.2.1 dX9_derived_108 (by decide) ?_
          refine lv_istore (lv' := [(8, .int 0), (7, .int x7_9), (6, .int x6_6), (0, .ref (G.1 + 224)), (2, .int x2), (3, .int x3), (4, .int x4), (5, .int x5)]) X.1 X.2.1 dX9_derived_109 hl (by decide) rfl (fun ls hl => ?_)
          obtain ⟨f_11, h⟩ := h
          exact B111 x3 x4 x5 x7_9 k51 hk51 f_11 0 S _ (lv_sub hl [3, 4, 5, 6, 7, 1, 0] rfl) h _ _ hP hS
  refine lv_aload_n X.1 X.2.1 dX9_derived_0 rfl (lv_at hl 0 rfl) ?_
  refine lv_iload_n X.1 X.2.1 dX9_derived_1 rfl (lv_at hl 1 rfl) ?_
  refine q_callV (rest := []) (b := 224) X hK hP hS (c_X9_placeOf l G x1 S _ h) my_X9_placeOf tl_X9_131 dX9_derived_2 kz_224 rfl rfl rfl ⟨Nat.le_of_ble_eq_true rfl, Nat.le_of_ble_eq_true rfl⟩ hl.1 rfl (Nat.le_of_ble_eq_true rfl) ⟨Nat.le_of_ble_eq_true rfl, Nat.le_of_ble_eq_true rfl⟩ (fun r_2 S_1 H locs h hP hS => ?_)
  refine W.eq (g2 := F0 m 5 ls [.int r_2]) rfl ?_
  refine lv_istore_n (lv' := [(3, .int r_2), (0, .ref (G.1 + 224)), (1, .int x1), (2, .int x2)]) X.1 X.2.1 dX9_derived_5 rfl hl (by decide) rfl (fun ls hl => ?_)
  refine lv_iload_n X.1 X.2.1 dX9_derived_6 rfl (lv_at hl 0 rfl) ?_
  refine lv_if_lt (tgt := 24) X.1 X.2.1 dX9_derived_7 (by decide) (fun c_3 => ?_) (fun c_3 => ?_)
  · have h := h.1 c_3
    exact B24 S_1 _ (lv_sub hl [] rfl) h _ _ hP hS
  · have h := h.2 c_3
    refine lv_iload_n X.1 X.2.1 dX9_derived_10 rfl (lv_at hl 3 rfl) ?_
    refine lv_iconst (v := 0) X.1 X.2.1 dX9_derived_11 (by decide) ?_
    refine lv_aload_n X.1 X.2.1 dX9_derived_12 rfl (lv_at hl 1 rfl) ?_
    refine gf_X9_n X hK hP tl_X9_75 dX9_derived_13 ?_
    refine lv_iconst (v := 1) X.1 X.2.1 dX9_derived_16 (by decide) ?_
    refine lv_isub X.1 X.2.1 dX9_derived_17 ?_
    refine q_callS (rest := []) X hK hP hS (c_X9_in l G x2 0 ((S_1 224 1) - 1) S_1 _ h) my_X9_in tl_X9_78 dX9_derived_18 rfl ⟨Nat.le_of_ble_eq_true rfl, Nat.le_of_ble_eq_true rfl⟩ hl.1 rfl (Nat.le_of_ble_eq_true rfl) ⟨Nat.le_of_ble_eq_true rfl, Nat.le_of_ble_eq_true rfl⟩ (fun r_5 S_4 H locs h hP hS => ?_)
    refine W.eq (g2 := F0 m 21 ls [.int r_5]) rfl ?_
    refine lv_if_ne (tgt := 27) X.1 X.2.1 dX9_derived_21 (by decide) (fun c_6 => ?_) (fun c_6 => ?_)
    · have h := h.1 c_6
      refine lv_aload_n X.1 X.2.1 dX9_derived_27 rfl (lv_at hl 1 rfl) ?_
      refine q_callV (rest := []) (b := 224) X hK hP hS (c_X9_free l G S_4 _ h) my_X9_free tl_X9_124 dX9_derived_28 kz_224 rfl rfl rfl ⟨Nat.le_of_ble_eq_true rfl, Nat.le_of_ble_eq_true rfl⟩ hl.1 rfl (Nat.le_of_ble_eq_true rfl) ⟨Nat.le_of_ble_eq_true rfl, Nat.le_of_ble_eq_true rfl⟩ (fun r_8 S_7 H locs h hP hS => ?_)
      refine W.eq (g2 := F0 m 31 ls [.int r_8]) rfl ?_
      refine lv_istore (lv' := [(4, .int r_8), (3, .int r_2), (0, .ref (G.1 + 224)), (1, .int x1), (2, .int x2)]) X.1 X.2.1 dX9_derived_31 hl (by decide) rfl (fun ls hl => ?_)
      refine lv_iload X.1 X.2.1 dX9_derived_33 (lv_at hl 0 rfl) ?_
      refine lv_bipush (v := 25) X.1 X.2.1 dX9_derived_35 (by decide) ?_
      refine lv_icmp_ne (tgt := 43) X.1 X.2.1 dX9_derived_37 (by decide) (fun c_9 => ?_) (fun c_9 => ?_)
      · have h := h.1 c_9
        refine lv_aload_n X.1 X.2.1 dX9_derived_43 rfl (lv_at hl 2 rfl) ?_
        refine lv_iconst (v := 0) X.1 X.2.1 dX9_derived_44 (by decide) ?_
        refine pf_X9_row X hK hP hS tl_X9_90 dX9_derived_45 (fun S_10 H locs eS_10 hP hS => ?_)
        have h := h S_10 eS_10
        refine lv_iconst (v := 0) X.1 X.2.1 dX9_derived_48 (by decide) ?_
        refine lv_istore (lv' := [(5, .int 0), (4, .int r_8), (3, .int r_2), (0, .ref (G.1 + 224)), (1, .int x1), (2, .int x2)]) X.1 X.2.1 dX9_derived_49 hl (by decide) rfl (fun ls hl => ?_)
        obtain ⟨f_11, h⟩ := h
        exact B51 r_2 r_8 f_11 0 S_10 _ (lv_sub hl [3, 5, 2, 1, 0] rfl) h _ _ hP hS
      · have h := h.2 c_9
        refine lv_bipush (v := (-4)) X.1 X.2.1 dX9_derived_40 (by decide) ?_
        exact q_iret X hr hlocks hP hS rfl h dX9_derived_42
    · have h := h.2 c_6
      exact B24 S_4 _ (lv_sub hl [] rfl) h _ _ hP hS

set_option maxHeartbeats 4000000 in
set_option maxRecDepth 100000 in
theorem c_X9_leastOf (l : Launch) (G : Cx) (x1 : Int32) (x2 : Int32) (S : St) (K : Unit → St → Prop) (h : w_X9_leastOf x1 x2 S K) : q_Met l yX9_leastOf cX9_leastOf 6 none 0 0 G [.ref (G.1 + 224), .int x1, .int x2] v_v S K := by
  refine q_enter (by decide +kernel) (Nat.le_of_ble_eq_true rfl) (fun p e s m args below meth c ls X hK hP hr hlocks hl => ?_)
  have hS : va_S (fr_ G) s.heap s.heap [] := va_S.rf
  have hl : lv_has ls 6 [(0, .ref (G.1 + 224)), (1, .int x1), (2, .int x2)] := hl
  have B54 : ∀ (x3 : Int32) (z1 : Int32) (z2 : Int32) (k2 : Int32 → St → Prop) (hk2 : ∀ (x3 : Int32) (S : St) (ls : Array Slot), lv_has ls 6 [(0, .ref (G.1 + 224)), (1, .int x1), (2, .int x2), (3, .int x3)] → k2 x3 S → q_W p l e (k2_rm 0 0) s m args below meth c 0 0 (MQ below (q_Qc G K v_v) args s 0 0 (fr_ G)) G 2 ls [] S) (S : St) (ls : Array Slot), lv_has ls 6 [(0, .ref (G.1 + 224)), (1, .int x1), (2, .int x2), (3, .int x3)] → w_X9_leastOf_54 x1 x2 K k2 x3 z1 z2 S → q_W p l e (k2_rm 0 0) s m args below meth c 0 0 (MQ below (q_Qc G K v_v) args s 0 0 (fr_ G)) G 54 ls [.int z2, .int z1, .ref (G.1 + 234)] S := by
    intro x3 z1 z2 k2 hk2 S ls hl h H locs hP hS
    obtain ⟨o_1, h⟩ := h
    refine q_iast X hK hP hS kz_234 o_1 dX9_leastOf_54 (fun S_2 H locs eS_2 hP hS => ?_)
    have h := h S_2 eS_2
    obtain ⟨x3_3, e3_3⟩ : ∃ y : Int32, y = x3 + 1 := ⟨_, rfl⟩
    have h := h x3_3 e3_3
    refine lv_iinc (v := x3_3) (lv' := [(3, .int x3_3), (0, .ref (G.1 + 224)), (1, .int x1), (2, .int x2)]) X.1 X.2.1 dX9_leastOf_55 hl (k := 3) rfl (by rw [e3_3]; first | rfl | decide) (by decide) rfl (fun ls hl => ?_)
    refine lv_goto (tgt := 2) X.1 X.2.1 dX9_leastOf_58 (by decide) ?_
    exact hk2 x3_3 S_2 _ (lv_sub hl [1, 2, 3, 0] rfl) h _ _ hP hS
  have B2 : ∀ (f : Nat) (x3 : Int32) (S : St) (ls : Array Slot), lv_has ls 6 [(0, .ref (G.1 + 224)), (1, .int x1), (2, .int x2), (3, .int x3)] → q_it (fun _ _ => False) (w_X9_leastOf_2 x1 x2 K) f x3 S → q_W p l e (k2_rm 0 0) s m args below meth c 0 0 (MQ below (q_Qc G K v_v) args s 0 0 (fr_ G)) G 2 ls [] S := by
    intro f
    induction f with
    | zero => intro x3 S ls hl h; exact False.elim h
    | succ f hk2 =>
      intro x3 S ls hl h H locs hP hS
      have h : w_X9_leastOf_2 x1 x2 K (q_it (fun _ _ => False) (w_X9_leastOf_2 x1 x2 K) f) x3 S := h
      generalize q_it (fun _ _ => False) (w_X9_leastOf_2 x1 x2 K) f = k2 at h hk2
      refine lv_iload_n X.1 X.2.1 dX9_leastOf_2 rfl (lv_at hl 3 rfl) ?_
      refine lv_iconst (v := 4) X.1 X.2.1 dX9_leastOf_3 (by decide) ?_
      refine lv_icmp_ge (tgt := 61) X.1 X.2.1 dX9_leastOf_4 (by decide) (fun c_1 => ?_) (fun c_1 => ?_)
      · have h := h.1 c_1
        exact q_vret X hr hlocks hP hS h dX9_leastOf_61
      · have h := h.2 c_1
        refine lv_aload_n X.1 X.2.1 dX9_leastOf_7 rfl (lv_at hl 0 rfl) ?_
        refine gf_X9_exponents X hK hP tl_X9_20 dX9_leastOf_8 ?_
        refine lv_sipush (v := 160) X.1 X.2.1 dX9_leastOf_11 (by decide) ?_
        refine lv_iload_n X.1 X.2.1 dX9_leastOf_14 rfl (lv_at hl 1 rfl) ?_
        refine lv_imul X.1 X.2.1 dX9_leastOf_15 ?_
        refine lv_iload_n X.1 X.2.1 dX9_leastOf_16 rfl (lv_at hl 3 rfl) ?_
        refine lv_iadd X.1 X.2.1 dX9_leastOf_17 ?_
        obtain ⟨o_2, h⟩ := h
        refine q_iald X hK hP kz_227 o_2 dX9_leastOf_18 ?_
        refine lv_topi (fun x4_3 e4_3 => ?_)
        have h := h x4_3 e4_3
        refine lv_istore (lv' := [(4, .int x4_3), (0, .ref (G.1 + 224)), (1, .int x1), (2, .int x2), (3, .int x3)]) X.1 X.2.1 dX9_leastOf_19 hl (by decide) rfl (fun ls hl => ?_)
        refine lv_aload_n X.1 X.2.1 dX9_leastOf_21 rfl (lv_at hl 1 rfl) ?_
        refine gf_X9_exponents X hK hP tl_X9_20 dX9_leastOf_22 ?_
        refine lv_sipush (v := 160) X.1 X.2.1 dX9_leastOf_25 (by decide) ?_
        refine lv_iload_n X.1 X.2.1 dX9_leastOf_28 rfl (lv_at hl 3 rfl) ?_
        refine lv_imul X.1 X.2.1 dX9_leastOf_29 ?_
        refine lv_iload_n X.1 X.2.1 dX9_leastOf_30 rfl (lv_at hl 4 rfl) ?_
        refine lv_iadd X.1 X.2.1 dX9_leastOf_31 ?_
        obtain ⟨o_4, h⟩ := h
        refine q_iald X hK hP kz_227 o_4 dX9_leastOf_32 ?_
        refine lv_topi (fun x5_5 e5_5 => ?_)
        have h := h x5_5 e5_5
        refine lv_istore (lv' := [(5, .int x5_5), (4, .int x4_3), (0, .ref (G.1 + 224)), (1, .int x1), (2, .int x2), (3, .int x3)]) X.1 X.2.1 dX9_leastOf_33 hl (by decide) rfl (fun ls hl => ?_)
        refine lv_aload_n X.1 X.2.1 dX9_leastOf_35 rfl (lv_at hl 2 rfl) ?_
        refine gf_X9_least X hK hP tl_X9_44 dX9_leastOf_36 ?_
        refine lv_iload_n X.1 X.2.1 dX9_leastOf_39 rfl (lv_at hl 5 rfl) ?_
        refine lv_iload X.1 X.2.1 dX9_leastOf_40 (lv_at hl 1 rfl) ?_
        refine lv_iload X.1 X.2.1 dX9_leastOf_42 (lv_at hl 0 rfl) ?_
        refine lv_icmp_le (tgt := 52) X.1 X.2.1 dX9_leastOf_44 (by decide) (fun c_6 => ?_) (fun c_6 => ?_)
        · have h := h.1 c_6
          refine lv_iload X.1 X.2.1 dX9_leastOf_52 (lv_at hl 0 rfl) ?_
          exact B54 x3 x3 x5_5 k2 hk2 S _ (lv_sub hl [2, 3, 4, 5] rfl) h _ _ hP hS
        · have h := h.2 c_6
          refine lv_iload X.1 X.2.1 dX9_leastOf_47 (lv_at hl 1 rfl) ?_
          refine lv_goto (tgt := 54) X.1 X.2.1 dX9_leastOf_49 (by decide) ?_
          exact B54 x3 x3 x4_3 k2 hk2 S _ (lv_sub hl [2, 3, 4, 5] rfl) h _ _ hP hS
  refine lv_iconst (v := 0) X.1 X.2.1 dX9_leastOf_0 (by decide) ?_
  refine lv_istore_n (lv' := [(3, .int 0), (0, .ref (G.1 + 224)), (1, .int x1), (2, .int x2)]) X.1 X.2.1 dX9_leastOf_1 rfl hl (by decide) rfl (fun ls hl => ?_)
  obtain ⟨f_1, h⟩ := h
  exact B2 f_1 0 S _ (lv_sub hl [1, 2, 3, 0] rfl) h _ _ hP hS

set_option maxHeartbeats 4000000 in
set_option maxRecDepth 100000 in
theorem c_X9_makeS (l : Launch) (G : Cx) (x1 : Int32) (x2 : Int32) (S : St) (K : Int32 → St → Prop) (h : w_X9_makeS x1 x2 S K) : q_Met l yX9_makeS cX9_makeS 6 (some .int) 4 102 G [.ref (G.1 + 224), .int x1, .int x2] v_i S K := by
  refine q_enter (by decide +kernel) (Nat.le_of_ble_eq_true rfl) (fun p e s m args below meth c ls X hK hP hr hlocks hl => ?_)
  have hS : va_S (fr_ G) s.heap s.heap [] := va_S.rf
  have hl : lv_has ls 6 [(0, .ref (G.1 + 224)), (1, .int x1), (2, .int x2)] := hl
  have B113 : ∀ (x3 : Int32) (z1 : Int32) (z2 : Int32) (k13 : Int32 → St → Prop) (hk13 : ∀ (x3 : Int32) (S : St) (ls : Array Slot), lv_has ls 6 [(0, .ref (G.1 + 224)), (1, .int x1), (2, .int x2), (3, .int x3)] → k13 x3 S → q_W p l e (k2_rm 4 102) s m args below meth c 0 0 (MQ below (q_Qc G K v_i) args s 0 0 (fr_ G)) G 13 ls [] S) (S : St) (ls : Array Slot), lv_has ls 6 [(0, .ref (G.1 + 224)), (1, .int x1), (2, .int x2), (3, .int x3)] → w_X9_makeS_113 x1 x2 K k13 x3 z1 z2 S → q_W p l e (k2_rm 4 102) s m args below meth c 0 0 (MQ below (q_Qc G K v_i) args s 0 0 (fr_ G)) G 113 ls [.int z2, .int z1, .ref (G.1 + 224)] S := by
    intro x3 z1 z2 k13 hk13 S ls hl h H locs hP hS
    refine q_callV (rest := []) (b := 224) X hK hP hS (c_X9_addTimes l G z1 z2 S _ h) my_X9_addTimes tl_X9_116 dX9_makeS_113 kz_224 rfl rfl rfl ⟨Nat.le_of_ble_eq_true rfl, Nat.le_of_ble_eq_true rfl⟩ hl.1 rfl (Nat.le_of_ble_eq_true rfl) ⟨Nat.le_of_ble_eq_true rfl, Nat.le_of_ble_eq_true rfl⟩ (fun r_2 S_1 H locs h hP hS => ?_)
    refine W.eq (g2 := F0 m 116 ls [.int r_2]) rfl ?_
    refine lv_if_ne (tgt := 122) X.1 X.2.1 dX9_makeS_116 (by decide) (fun c_3 => ?_) (fun c_3 => ?_)
    · have h := h.1 c_3
      obtain ⟨x3_4, e3_4⟩ : ∃ y : Int32, y = x3 + 1 := ⟨_, rfl⟩
      have h := h x3_4 e3_4
      refine lv_iinc (v := x3_4) (lv' := [(3, .int x3_4), (0, .ref (G.1 + 224)), (1, .int x1), (2, .int x2)]) X.1 X.2.1 dX9_makeS_122 hl (k := 3) rfl (by rw [e3_4]; first | rfl | decide) (by decide) rfl (fun ls hl => ?_)
      refine lv_goto (tgt := 13) X.1 X.2.1 dX9_makeS_125 (by decide) ?_
      exact hk13 x3_4 S_1 _ (lv_sub hl [1, 2, 3, 0] rfl) h _ _ hP hS
    · have h := h.2 c_3
      refine lv_bipush (v := (-5)) X.1 X.2.1 dX9_makeS_119 (by decide) ?_
      exact q_iret X hr hlocks hP hS rfl h dX9_makeS_121
  have B32 : ∀ (x3 : Int32) (x4 : Int32) (k13 : Int32 → St → Prop) (hk13 : ∀ (x3 : Int32) (S : St) (ls : Array Slot), lv_has ls 6 [(0, .ref (G.1 + 224)), (1, .int x1), (2, .int x2), (3, .int x3)] → k13 x3 S → q_W p l e (k2_rm 4 102) s m args below meth c 0 0 (MQ below (q_Qc G K v_i) args s 0 0 (fr_ G)) G 13 ls [] S) (f : Nat) (x5 : Int32) (S : St) (ls : Array Slot), lv_has ls 6 [(0, .ref (G.1 + 224)), (1, .int x1), (2, .int x2), (3, .int x3), (4, .int x4), (5, .int x5)] → q_it (fun _ _ => False) (w_X9_makeS_32 x1 x2 K k13 x3 x4) f x5 S → q_W p l e (k2_rm 4 102) s m args below meth c 0 0 (MQ below (q_Qc G K v_i) args s 0 0 (fr_ G)) G 32 ls [] S := by
    intro x3 x4 k13 hk13 f
    induction f with
    | zero => intro x5 S ls hl h; exact False.elim h
    | succ f hk32 =>
      intro x5 S ls hl h H locs hP hS
      have h : w_X9_makeS_32 x1 x2 K k13 x3 x4 (q_it (fun _ _ => False) (w_X9_makeS_32 x1 x2 K k13 x3 x4) f) x5 S := h
      generalize q_it (fun _ _ => False) (w_X9_makeS_32 x1 x2 K k13 x3 x4) f = k32 at h hk32
      refine lv_iload X.1 X.2.1 dX9_makeS_32 (lv_at hl 5 rfl) ?_
      refine lv_iconst (v := 4) X.1 X.2.1 dX9_makeS_34 (by decide) ?_
      refine lv_icmp_ge (tgt := 73) X.1 X.2.1 dX9_makeS_35 (by decide) (fun c_1 => ?_) (fun c_1 => ?_)
      · have h := h.1 c_1
        refine lv_aload_n X.1 X.2.1 dX9_makeS_73 rfl (lv_at hl 0 rfl) ?_
        refine lv_aload_n X.1 X.2.1 dX9_makeS_74 rfl (lv_at hl 0 rfl) ?_
        refine gf_X9_numbers X hK hP tl_X9_17 dX9_makeS_75 ?_
        refine lv_bipush (v := 40) X.1 X.2.1 dX9_makeS_78 (by decide) ?_
        refine lv_iload X.1 X.2.1 dX9_makeS_80 (lv_at hl 4 rfl) ?_
        refine lv_imul X.1 X.2.1 dX9_makeS_82 ?_
        obtain ⟨o_2, h⟩ := h
        refine q_iald X hK hP kz_226 o_2 dX9_makeS_83 ?_
        refine q_callV (rest := []) (b := 224) X hK hP hS (c_X9_inverse l G (S 226 (q_rf (40 * x4))) S _ h) my_X9_inverse tl_X9_141 dX9_makeS_84 kz_224 rfl rfl rfl ⟨Nat.le_of_ble_eq_true rfl, Nat.le_of_ble_eq_true rfl⟩ hl.1 rfl (Nat.le_of_ble_eq_true rfl) ⟨Nat.le_of_ble_eq_true rfl, Nat.le_of_ble_eq_true rfl⟩ (fun r_4 S_3 H locs h hP hS => ?_)
        refine W.eq (g2 := F0 m 87 ls [.int r_4]) rfl ?_
        refine lv_istore (lv' := [(5, .int r_4), (0, .ref (G.1 + 224)), (1, .int x1), (2, .int x2), (3, .int x3), (4, .int x4)]) X.1 X.2.1 dX9_makeS_87 hl (by decide) rfl (fun ls hl => ?_)
        refine lv_aload_n X.1 X.2.1 dX9_makeS_89 rfl (lv_at hl 1 rfl) ?_
        refine lv_iload X.1 X.2.1 dX9_makeS_90 (lv_at hl 5 rfl) ?_
        refine lv_iload_n X.1 X.2.1 dX9_makeS_92 rfl (lv_at hl 4 rfl) ?_
        refine lv_if_ne (tgt := 101) X.1 X.2.1 dX9_makeS_93 (by decide) (fun c_5 => ?_) (fun c_5 => ?_)
        · have h := h.1 c_5
          refine lv_aload_n X.1 X.2.1 dX9_makeS_101 rfl (lv_at hl 1 rfl) ?_
          refine gf_X9_p X hK hP tl_X9_72 dX9_makeS_102 ?_
          refine lv_iload X.1 X.2.1 dX9_makeS_105 (lv_at hl 0 rfl) ?_
          refine lv_isub X.1 X.2.1 dX9_makeS_107 ?_
          refine lv_aload_n X.1 X.2.1 dX9_makeS_108 rfl (lv_at hl 1 rfl) ?_
          refine gf_X9_p X hK hP tl_X9_72 dX9_makeS_109 ?_
          obtain ⟨o_6, h⟩ := h
          refine lv_irem X.1 X.2.1 dX9_makeS_112 o_6 ?_
          exact B113 x3 x4 (((S_3 224 0) - r_4) - ((S_3 224 0) - r_4) / (S_3 224 0) * (S_3 224 0)) k13 hk13 S_3 _ (lv_sub hl [1, 2, 3, 4] rfl) h _ _ hP hS
        · have h := h.2 c_5
          refine lv_iload X.1 X.2.1 dX9_makeS_96 (lv_at hl 0 rfl) ?_
          refine lv_goto (tgt := 113) X.1 X.2.1 dX9_makeS_98 (by decide) ?_
          exact B113 x3 x4 r_4 k13 hk13 S_3 _ (lv_sub hl [1, 2, 3, 4] rfl) h _ _ hP hS
      · have h := h.2 c_1
        refine lv_aload_n X.1 X.2.1 dX9_makeS_38 rfl (lv_at hl 0 rfl) ?_
        refine gf_X9_by X hK hP tl_X9_41 dX9_makeS_39 ?_
        refine lv_iload X.1 X.2.1 dX9_makeS_42 (lv_at hl 5 rfl) ?_
        refine lv_aload_n X.1 X.2.1 dX9_makeS_44 rfl (lv_at hl 0 rfl) ?_
        refine gf_X9_least X hK hP tl_X9_44 dX9_makeS_45 ?_
        refine lv_iload X.1 X.2.1 dX9_makeS_48 (lv_at hl 5 rfl) ?_
        obtain ⟨o_7, h⟩ := h
        refine q_iald X hK hP kz_234 o_7 dX9_makeS_50 ?_
        refine lv_aload_n X.1 X.2.1 dX9_makeS_51 rfl (lv_at hl 0 rfl) ?_
        refine gf_X9_exponents X hK hP tl_X9_20 dX9_makeS_52 ?_
        refine lv_sipush (v := 160) X.1 X.2.1 dX9_makeS_55 (by decide) ?_
        refine lv_iload X.1 X.2.1 dX9_makeS_58 (lv_at hl 4 rfl) ?_
        refine lv_imul X.1 X.2.1 dX9_makeS_60 ?_
        refine lv_iload X.1 X.2.1 dX9_makeS_61 (lv_at hl 5 rfl) ?_
        refine lv_iadd X.1 X.2.1 dX9_makeS_63 ?_
        obtain ⟨o_8, h⟩ := h
        refine q_iald X hK hP kz_227 o_8 dX9_makeS_64 ?_
        refine lv_isub X.1 X.2.1 dX9_makeS_65 ?_
        refine q_iast X hK hP hS kz_233 o_7 dX9_makeS_66 (fun S_9 H locs eS_9 hP hS => ?_)
        have h := h S_9 eS_9
        obtain ⟨x5_10, e5_10⟩ : ∃ y : Int32, y = x5 + 1 := ⟨_, rfl⟩
        have h := h x5_10 e5_10
        refine lv_iinc (v := x5_10) (lv' := [(5, .int x5_10), (0, .ref (G.1 + 224)), (1, .int x1), (2, .int x2), (3, .int x3), (4, .int x4)]) X.1 X.2.1 dX9_makeS_67 hl (k := 5) rfl (by rw [e5_10]; first | rfl | decide) (by decide) rfl (fun ls hl => ?_)
        refine lv_goto (tgt := 32) X.1 X.2.1 dX9_makeS_70 (by decide) ?_
        exact hk32 x5_10 S_9 _ (lv_sub hl [1, 2, 3, 4, 5, 0] rfl) h _ _ hP hS
  have B27 : ∀ (x3 : Int32) (z0 : Int32) (k13 : Int32 → St → Prop) (hk13 : ∀ (x3 : Int32) (S : St) (ls : Array Slot), lv_has ls 6 [(0, .ref (G.1 + 224)), (1, .int x1), (2, .int x2), (3, .int x3)] → k13 x3 S → q_W p l e (k2_rm 4 102) s m args below meth c 0 0 (MQ below (q_Qc G K v_i) args s 0 0 (fr_ G)) G 13 ls [] S) (S : St) (ls : Array Slot), lv_has ls 6 [(0, .ref (G.1 + 224)), (1, .int x1), (2, .int x2), (3, .int x3)] → w_X9_makeS_27 x1 x2 K k13 x3 z0 S → q_W p l e (k2_rm 4 102) s m args below meth c 0 0 (MQ below (q_Qc G K v_i) args s 0 0 (fr_ G)) G 27 ls [.int z0] S := by
    intro x3 z0 k13 hk13 S ls hl h H locs hP hS
    refine lv_istore (lv' := [(4, .int z0), (0, .ref (G.1 + 224)), (1, .int x1), (2, .int x2), (3, .int x3)]) X.1 X.2.1 dX9_makeS_27 hl (by decide) rfl (fun ls hl => ?_)
    refine lv_iconst (v := 0) X.1 X.2.1 dX9_makeS_29 (by decide) ?_
    refine lv_istore (lv' := [(5, .int 0), (4, .int z0), (0, .ref (G.1 + 224)), (1, .int x1), (2, .int x2), (3, .int x3)]) X.1 X.2.1 dX9_makeS_30 hl (by decide) rfl (fun ls hl => ?_)
    obtain ⟨f_1, h⟩ := h
    exact B32 x3 z0 k13 hk13 f_1 0 S _ (lv_sub hl [2, 3, 4, 5, 1, 0] rfl) h _ _ hP hS
  have B13 : ∀ (f : Nat) (x3 : Int32) (S : St) (ls : Array Slot), lv_has ls 6 [(0, .ref (G.1 + 224)), (1, .int x1), (2, .int x2), (3, .int x3)] → q_it (fun _ _ => False) (w_X9_makeS_13 x1 x2 K) f x3 S → q_W p l e (k2_rm 4 102) s m args below meth c 0 0 (MQ below (q_Qc G K v_i) args s 0 0 (fr_ G)) G 13 ls [] S := by
    intro f
    induction f with
    | zero => intro x3 S ls hl h; exact False.elim h
    | succ f hk13 =>
      intro x3 S ls hl h H locs hP hS
      have h : w_X9_makeS_13 x1 x2 K (q_it (fun _ _ => False) (w_X9_makeS_13 x1 x2 K) f) x3 S := h
      generalize q_it (fun _ _ => False) (w_X9_makeS_13 x1 x2 K) f = k13 at h hk13
      refine lv_iload_n X.1 X.2.1 dX9_makeS_13 rfl (lv_at hl 3 rfl) ?_
      refine lv_iconst (v := 2) X.1 X.2.1 dX9_makeS_14 (by decide) ?_
      refine lv_icmp_ge (tgt := 128) X.1 X.2.1 dX9_makeS_15 (by decide) (fun c_1 => ?_) (fun c_1 => ?_)
      · have h := h.1 c_1
        refine lv_aload_n X.1 X.2.1 dX9_makeS_128 rfl (lv_at hl 0 rfl) ?_
        refine q_callV (rest := []) (b := 224) X hK hP hS (c_X9_clean l G S _ h) my_X9_clean tl_X9_110 dX9_makeS_129 kz_224 rfl rfl rfl ⟨Nat.le_of_ble_eq_true rfl, Nat.le_of_ble_eq_true rfl⟩ hl.1 rfl (Nat.le_of_ble_eq_true rfl) ⟨Nat.le_of_ble_eq_true rfl, Nat.le_of_ble_eq_true rfl⟩ (fun r_3 S_2 H locs h hP hS => ?_)
        refine W.eq (g2 := F0 m 132 ls []) rfl ?_
        refine lv_aload_n X.1 X.2.1 dX9_makeS_132 rfl (lv_at hl 0 rfl) ?_
        refine gf_X9_row X hK hP tl_X9_90 dX9_makeS_133 ?_
        refine lv_bipush (v := 40) X.1 X.2.1 dX9_makeS_136 (by decide) ?_
        refine lv_icmp_le (tgt := 146) X.1 X.2.1 dX9_makeS_138 (by decide) (fun c_4 => ?_) (fun c_4 => ?_)
        · have h := h.1 c_4
          refine lv_iconst (v := 0) X.1 X.2.1 dX9_makeS_146 (by decide) ?_
          exact q_iret X hr hlocks hP hS rfl h dX9_makeS_147
        · have h := h.2 c_4
          refine lv_bipush (v := (-6)) X.1 X.2.1 dX9_makeS_141 (by decide) ?_
          refine lv_goto (tgt := 147) X.1 X.2.1 dX9_makeS_143 (by decide) ?_
          exact q_iret X hr hlocks hP hS rfl h dX9_makeS_147
      · have h := h.2 c_1
        refine lv_iload_n X.1 X.2.1 dX9_makeS_18 rfl (lv_at hl 3 rfl) ?_
        refine lv_if_ne (tgt := 26) X.1 X.2.1 dX9_makeS_19 (by decide) (fun c_5 => ?_) (fun c_5 => ?_)
        · have h := h.1 c_5
          refine lv_iload_n X.1 X.2.1 dX9_makeS_26 rfl (lv_at hl 2 rfl) ?_
          exact B27 x3 x2 k13 hk13 S _ (lv_sub hl [0, 1, 2, 3] rfl) h _ _ hP hS
        · have h := h.2 c_5
          refine lv_iload_n X.1 X.2.1 dX9_makeS_22 rfl (lv_at hl 1 rfl) ?_
          refine lv_goto (tgt := 27) X.1 X.2.1 dX9_makeS_23 (by decide) ?_
          exact B27 x3 x1 k13 hk13 S _ (lv_sub hl [0, 1, 2, 3] rfl) h _ _ hP hS
  refine lv_aload_n X.1 X.2.1 dX9_makeS_0 rfl (lv_at hl 0 rfl) ?_
  refine lv_iload_n X.1 X.2.1 dX9_makeS_1 rfl (lv_at hl 1 rfl) ?_
  refine lv_iload_n X.1 X.2.1 dX9_makeS_2 rfl (lv_at hl 2 rfl) ?_
  refine q_callV (rest := []) (b := 224) X hK hP hS (c_X9_leastOf l G x1 x2 S _ h) my_X9_leastOf tl_X9_138 dX9_makeS_3 kz_224 rfl rfl rfl ⟨Nat.le_of_ble_eq_true rfl, Nat.le_of_ble_eq_true rfl⟩ hl.1 rfl (Nat.le_of_ble_eq_true rfl) ⟨Nat.le_of_ble_eq_true rfl, Nat.le_of_ble_eq_true rfl⟩ (fun r_2 S_1 H locs h hP hS => ?_)
  refine W.eq (g2 := F0 m 6 ls []) rfl ?_
  refine lv_aload_n X.1 X.2.1 dX9_makeS_6 rfl (lv_at hl 0 rfl) ?_
  refine lv_iconst (v := 0) X.1 X.2.1 dX9_makeS_7 (by decide) ?_
  refine pf_X9_row X hK hP hS tl_X9_90 dX9_makeS_8 (fun S_3 H locs eS_3 hP hS => ?_)
  have h := h S_3 eS_3
  refine lv_iconst (v := 0) X.1 X.2.1 dX9_makeS_11 (by decide) ?_
  refine lv_istore_n (lv' := [(3, .int 0), (0, .ref (G.1 + 224)), (1, .int x1), (2, .int x2)]) X.1 X.2.1 dX9_makeS_12 rfl hl (by decide) rfl (fun ls hl => ?_)
  obtain ⟨f_4, h⟩ := h
  exact B13 f_4 0 S_3 _ (lv_sub hl [1, 2, 3, 0] rfl) h _ _ hP hS

set_option maxHeartbeats 4000000 in
set_option maxRecDepth 100000 in
theorem c_X9_spair (l : Launch) (G : Cx) (x1 : Int32) (x2 : Int32) (S : St) (K : Int32 → St → Prop) (h : w_X9_spair x1 x2 S K) : q_Met l yX9_spair cX9_spair 7 (some .int) 5 127 G [.ref (G.1 + 224), .int x1, .int x2] v_i S K := by
  refine q_enter (by decide +kernel) (Nat.le_of_ble_eq_true rfl) (fun p e s m args below meth c ls X hK hP hr hlocks hl => ?_)
  have hS : va_S (fr_ G) s.heap s.heap [] := va_S.rf
  have hl : lv_has ls 7 [(0, .ref (G.1 + 224)), (1, .int x1), (2, .int x2)] := hl
  have B41 : ∀ (S : St) (ls : Array Slot), lv_has ls 7 [] → w_X9_spair_41 x1 x2 K S → q_W p l e (k2_rm 5 127) s m args below meth c 0 0 (MQ below (q_Qc G K v_i) args s 0 0 (fr_ G)) G 41 ls [] S := by
    intro S ls hl h H locs hP hS
    refine lv_bipush (v := (-2)) X.1 X.2.1 dX9_spair_41 (by decide) ?_
    exact q_iret X hr hlocks hP hS rfl h dX9_spair_43
  refine lv_aload_n X.1 X.2.1 dX9_spair_0 rfl (lv_at hl 0 rfl) ?_
  refine lv_iload_n X.1 X.2.1 dX9_spair_1 rfl (lv_at hl 1 rfl) ?_
  refine q_callV (rest := []) (b := 224) X hK hP hS (c_X9_placeOf l G x1 S _ h) my_X9_placeOf tl_X9_131 dX9_spair_2 kz_224 rfl rfl rfl ⟨Nat.le_of_ble_eq_true rfl, Nat.le_of_ble_eq_true rfl⟩ hl.1 rfl (Nat.le_of_ble_eq_true rfl) ⟨Nat.le_of_ble_eq_true rfl, Nat.le_of_ble_eq_true rfl⟩ (fun r_2 S_1 H locs h hP hS => ?_)
  refine W.eq (g2 := F0 m 5 ls [.int r_2]) rfl ?_
  refine lv_istore_n (lv' := [(3, .int r_2), (0, .ref (G.1 + 224)), (1, .int x1), (2, .int x2)]) X.1 X.2.1 dX9_spair_5 rfl hl (by decide) rfl (fun ls hl => ?_)
  refine lv_aload_n X.1 X.2.1 dX9_spair_6 rfl (lv_at hl 1 rfl) ?_
  refine lv_iload_n X.1 X.2.1 dX9_spair_7 rfl (lv_at hl 3 rfl) ?_
  refine q_callV (rest := []) (b := 224) X hK hP hS (c_X9_placeOf l G x2 S_1 _ h) my_X9_placeOf tl_X9_131 dX9_spair_8 kz_224 rfl rfl rfl ⟨Nat.le_of_ble_eq_true rfl, Nat.le_of_ble_eq_true rfl⟩ hl.1 rfl (Nat.le_of_ble_eq_true rfl) ⟨Nat.le_of_ble_eq_true rfl, Nat.le_of_ble_eq_true rfl⟩ (fun r_4 S_3 H locs h hP hS => ?_)
  refine W.eq (g2 := F0 m 11 ls [.int r_4]) rfl ?_
  refine lv_istore (lv' := [(4, .int r_4), (3, .int r_2), (0, .ref (G.1 + 224)), (1, .int x1), (2, .int x2)]) X.1 X.2.1 dX9_spair_11 hl (by decide) rfl (fun ls hl => ?_)
  refine lv_iload_n X.1 X.2.1 dX9_spair_13 rfl (lv_at hl 1 rfl) ?_
  refine lv_if_lt (tgt := 41) X.1 X.2.1 dX9_spair_14 (by decide) (fun c_5 => ?_) (fun c_5 => ?_)
  · have h := h.1 c_5
    exact B41 S_3 _ (lv_sub hl [] rfl) h _ _ hP hS
  · have h := h.2 c_5
    refine lv_iload X.1 X.2.1 dX9_spair_17 (lv_at hl 0 rfl) ?_
    refine lv_if_lt (tgt := 41) X.1 X.2.1 dX9_spair_19 (by decide) (fun c_6 => ?_) (fun c_6 => ?_)
    · have h := h.1 c_6
      exact B41 S_3 _ (lv_sub hl [] rfl) h _ _ hP hS
    · have h := h.2 c_6
      refine lv_aload_n X.1 X.2.1 dX9_spair_22 rfl (lv_at hl 2 rfl) ?_
      refine gf_X9_many X hK hP tl_X9_13 dX9_spair_23 ?_
      refine lv_iload_n X.1 X.2.1 dX9_spair_26 rfl (lv_at hl 1 rfl) ?_
      obtain ⟨o_7, h⟩ := h
      refine q_iald X hK hP kz_225 o_7 dX9_spair_27 ?_
      refine lv_if_eq (tgt := 41) X.1 X.2.1 dX9_spair_28 (by decide) (fun c_8 => ?_) (fun c_8 => ?_)
      · have h := h.1 c_8
        exact B41 S_3 _ (lv_sub hl [] rfl) h _ _ hP hS
      · have h := h.2 c_8
        refine lv_aload_n X.1 X.2.1 dX9_spair_31 rfl (lv_at hl 2 rfl) ?_
        refine gf_X9_many X hK hP tl_X9_13 dX9_spair_32 ?_
        refine lv_iload X.1 X.2.1 dX9_spair_35 (lv_at hl 0 rfl) ?_
        obtain ⟨o_9, h⟩ := h
        refine q_iald X hK hP kz_225 o_9 dX9_spair_37 ?_
        refine lv_if_ne (tgt := 44) X.1 X.2.1 dX9_spair_38 (by decide) (fun c_10 => ?_) (fun c_10 => ?_)
        · have h := h.1 c_10
          refine lv_aload_n X.1 X.2.1 dX9_spair_44 rfl (lv_at hl 2 rfl) ?_
          refine q_callV (rest := []) (b := 224) X hK hP hS (c_X9_free l G S_3 _ h) my_X9_free tl_X9_124 dX9_spair_45 kz_224 rfl rfl rfl ⟨Nat.le_of_ble_eq_true rfl, Nat.le_of_ble_eq_true rfl⟩ hl.1 rfl (Nat.le_of_ble_eq_true rfl) ⟨Nat.le_of_ble_eq_true rfl, Nat.le_of_ble_eq_true rfl⟩ (fun r_12 S_11 H locs h hP hS => ?_)
          refine W.eq (g2 := F0 m 48 ls [.int r_12]) rfl ?_
          refine lv_istore (lv' := [(5, .int r_12), (4, .int r_4), (3, .int r_2), (0, .ref (G.1 + 224)), (1, .int x1), (2, .int x2)]) X.1 X.2.1 dX9_spair_48 hl (by decide) rfl (fun ls hl => ?_)
          refine lv_iload X.1 X.2.1 dX9_spair_50 (lv_at hl 0 rfl) ?_
          refine lv_bipush (v := 25) X.1 X.2.1 dX9_spair_52 (by decide) ?_
          refine lv_icmp_ne (tgt := 60) X.1 X.2.1 dX9_spair_54 (by decide) (fun c_13 => ?_) (fun c_13 => ?_)
          · have h := h.1 c_13
            refine lv_aload_n X.1 X.2.1 dX9_spair_60 rfl (lv_at hl 3 rfl) ?_
            refine lv_iload_n X.1 X.2.1 dX9_spair_61 rfl (lv_at hl 2 rfl) ?_
            refine lv_iload X.1 X.2.1 dX9_spair_62 (lv_at hl 1 rfl) ?_
            refine q_callV (rest := []) (b := 224) X hK hP hS (c_X9_makeS l G r_2 r_4 S_11 _ h) my_X9_makeS tl_X9_144 dX9_spair_64 kz_224 rfl rfl rfl ⟨Nat.le_of_ble_eq_true rfl, Nat.le_of_ble_eq_true rfl⟩ hl.1 rfl (Nat.le_of_ble_eq_true rfl) ⟨Nat.le_of_ble_eq_true rfl, Nat.le_of_ble_eq_true rfl⟩ (fun r_15 S_14 H locs h hP hS => ?_)
            refine W.eq (g2 := F0 m 67 ls [.int r_15]) rfl ?_
            refine lv_istore (lv' := [(6, .int r_15), (5, .int r_12), (4, .int r_4), (3, .int r_2), (0, .ref (G.1 + 224)), (1, .int x1), (2, .int x2)]) X.1 X.2.1 dX9_spair_67 hl (by decide) rfl (fun ls hl => ?_)
            refine lv_iload X.1 X.2.1 dX9_spair_69 (lv_at hl 0 rfl) ?_
            refine lv_if_ge (tgt := 79) X.1 X.2.1 dX9_spair_71 (by decide) (fun c_16 => ?_) (fun c_16 => ?_)
            · have h := h.1 c_16
              refine lv_aload_n X.1 X.2.1 dX9_spair_79 rfl (lv_at hl 4 rfl) ?_
              refine lv_iload X.1 X.2.1 dX9_spair_80 (lv_at hl 1 rfl) ?_
              refine q_callV (rest := []) (b := 224) X hK hP hS (c_X9_shelve l G r_12 S_14 _ h) my_X9_shelve tl_X9_135 dX9_spair_82 kz_224 rfl rfl rfl ⟨Nat.le_of_ble_eq_true rfl, Nat.le_of_ble_eq_true rfl⟩ hl.1 rfl (Nat.le_of_ble_eq_true rfl) ⟨Nat.le_of_ble_eq_true rfl, Nat.le_of_ble_eq_true rfl⟩ (fun r_18 S_17 H locs h hP hS => ?_)
              refine W.eq (g2 := F0 m 85 ls [.int r_18]) rfl ?_
              exact q_iret X hr hlocks hP hS rfl h dX9_spair_85
            · have h := h.2 c_16
              refine lv_iload X.1 X.2.1 dX9_spair_74 (lv_at hl 0 rfl) ?_
              refine lv_goto (tgt := 85) X.1 X.2.1 dX9_spair_76 (by decide) ?_
              exact q_iret X hr hlocks hP hS rfl h dX9_spair_85
          · have h := h.2 c_13
            refine lv_bipush (v := (-4)) X.1 X.2.1 dX9_spair_57 (by decide) ?_
            exact q_iret X hr hlocks hP hS rfl h dX9_spair_59
        · have h := h.2 c_10
          exact B41 S_3 _ (lv_sub hl [] rfl) h _ _ hP hS

set_option maxHeartbeats 4000000 in
set_option maxRecDepth 100000 in
theorem c_X9_valueAt (l : Launch) (G : Cx) (x1 : Int32) (S : St) (K : Int32 → St → Prop) (h : w_X9_valueAt x1 S K) : q_Met l yX9_valueAt cX9_valueAt 7 (some .int) 0 0 G [.ref (G.1 + 224), .int x1] v_i S K := by
  refine q_enter (by decide +kernel) (Nat.le_of_ble_eq_true rfl) (fun p e s m args below meth c ls X hK hP hr hlocks hl => ?_)
  have hS : va_S (fr_ G) s.heap s.heap [] := va_S.rf
  have hl : lv_has ls 7 [(0, .ref (G.1 + 224)), (1, .int x1)] := hl
  have B39 : ∀ (x2 : Int32) (x3 : Int32) (x5 : Int32) (k4 : Int32 → Int32 → St → Prop) (hk4 : ∀ (x2 : Int32) (x3 : Int32) (S : St) (ls : Array Slot), lv_has ls 7 [(0, .ref (G.1 + 224)), (1, .int x1), (2, .int x2), (3, .int x3)] → k4 x2 x3 S → q_W p l e (k2_rm 0 0) s m args below meth c 0 0 (MQ below (q_Qc G K v_i) args s 0 0 (fr_ G)) G 4 ls [] S) (k30 : Int32 → Int32 → St → Prop) (hk30 : ∀ (x4 : Int32) (x5 : Int32) (S : St) (ls : Array Slot), lv_has ls 7 [(0, .ref (G.1 + 224)), (1, .int x1), (2, .int x2), (3, .int x3), (4, .int x4), (5, .int x5)] → k30 x4 x5 S → q_W p l e (k2_rm 0 0) s m args below meth c 0 0 (MQ below (q_Qc G K v_i) args s 0 0 (fr_ G)) G 30 ls [] S) (f : Nat) (x4 : Int32) (x6 : Int32) (S : St) (ls : Array Slot), lv_has ls 7 [(0, .ref (G.1 + 224)), (1, .int x1), (2, .int x2), (3, .int x3), (4, .int x4), (5, .int x5), (6, .int x6)] → q_it (fun _ _ _ => False) (w_X9_valueAt_39 x1 K k4 k30 x2 x3 x5) f x4 x6 S → q_W p l e (k2_rm 0 0) s m args below meth c 0 0 (MQ below (q_Qc G K v_i) args s 0 0 (fr_ G)) G 39 ls [] S := by
    intro x2 x3 x5 k4 hk4 k30 hk30 f
    induction f with
    | zero => intro x4 x6 S ls hl h; exact False.elim h
    | succ f hk39 =>
      intro x4 x6 S ls hl h H locs hP hS
      have h : w_X9_valueAt_39 x1 K k4 k30 x2 x3 x5 (q_it (fun _ _ _ => False) (w_X9_valueAt_39 x1 K k4 k30 x2 x3 x5) f) x4 x6 S := h
      generalize q_it (fun _ _ _ => False) (w_X9_valueAt_39 x1 K k4 k30 x2 x3 x5) f = k39 at h hk39
      refine lv_iload X.1 X.2.1 dX9_valueAt_39 (lv_at hl 6 rfl) ?_
      refine lv_aload_n X.1 X.2.1 dX9_valueAt_41 rfl (lv_at hl 0 rfl) ?_
      refine gf_X9_exponents X hK hP tl_X9_20 dX9_valueAt_42 ?_
      refine lv_sipush (v := 160) X.1 X.2.1 dX9_valueAt_45 (by decide) ?_
      refine lv_iload_n X.1 X.2.1 dX9_valueAt_48 rfl (lv_at hl 1 rfl) ?_
      refine lv_imul X.1 X.2.1 dX9_valueAt_49 ?_
      refine lv_iconst (v := 4) X.1 X.2.1 dX9_valueAt_50 (by decide) ?_
      refine lv_iload_n X.1 X.2.1 dX9_valueAt_51 rfl (lv_at hl 3 rfl) ?_
      refine lv_imul X.1 X.2.1 dX9_valueAt_52 ?_
      refine lv_iadd X.1 X.2.1 dX9_valueAt_53 ?_
      refine lv_iload X.1 X.2.1 dX9_valueAt_54 (lv_at hl 5 rfl) ?_
      refine lv_iadd X.1 X.2.1 dX9_valueAt_56 ?_
      obtain ⟨o_1, h⟩ := h
      refine q_iald X hK hP kz_227 o_1 dX9_valueAt_57 ?_
      refine lv_icmp_ge (tgt := 84) X.1 X.2.1 dX9_valueAt_58 (by decide) (fun c_2 => ?_) (fun c_2 => ?_)
      · have h := h.1 c_2
        obtain ⟨x5_3, e5_3⟩ : ∃ y : Int32, y = x5 + 1 := ⟨_, rfl⟩
        have h := h x5_3 e5_3
        refine lv_iinc (v := x5_3) (lv' := [(5, .int x5_3), (0, .ref (G.1 + 224)), (1, .int x1), (2, .int x2), (3, .int x3), (4, .int x4), (6, .int x6)]) X.1 X.2.1 dX9_valueAt_84 hl (k := 5) rfl (by rw [e5_3]; first | rfl | decide) (by decide) rfl (fun ls hl => ?_)
        refine lv_goto (tgt := 30) X.1 X.2.1 dX9_valueAt_87 (by decide) ?_
        exact hk30 x4 x5_3 S _ (lv_sub hl [1, 2, 3, 4, 5, 0] rfl) h _ _ hP hS
      · have h := h.2 c_2
        refine lv_iload X.1 X.2.1 dX9_valueAt_61 (lv_at hl 4 rfl) ?_
        refine lv_aload_n X.1 X.2.1 dX9_valueAt_63 rfl (lv_at hl 0 rfl) ?_
        refine gf_X9_point X hK hP tl_X9_47 dX9_valueAt_64 ?_
        refine lv_iload X.1 X.2.1 dX9_valueAt_67 (lv_at hl 5 rfl) ?_
        obtain ⟨o_4, h⟩ := h
        refine q_iald X hK hP kz_235 o_4 dX9_valueAt_69 ?_
        refine lv_imul X.1 X.2.1 dX9_valueAt_70 ?_
        refine lv_aload_n X.1 X.2.1 dX9_valueAt_71 rfl (lv_at hl 0 rfl) ?_
        refine gf_X9_p X hK hP tl_X9_72 dX9_valueAt_72 ?_
        obtain ⟨o_5, h⟩ := h
        refine lv_irem X.1 X.2.1 dX9_valueAt_75 o_5 ?_
        refine lv_topi (fun x4_6 e4_6 => ?_)
        have h := h x4_6 e4_6
        refine lv_istore (lv' := [(4, .int x4_6), (0, .ref (G.1 + 224)), (1, .int x1), (2, .int x2), (3, .int x3), (5, .int x5), (6, .int x6)]) X.1 X.2.1 dX9_valueAt_76 hl (by decide) rfl (fun ls hl => ?_)
        obtain ⟨x6_7, e6_7⟩ : ∃ y : Int32, y = x6 + 1 := ⟨_, rfl⟩
        have h := h x6_7 e6_7
        refine lv_iinc (v := x6_7) (lv' := [(6, .int x6_7), (4, .int x4_6), (0, .ref (G.1 + 224)), (1, .int x1), (2, .int x2), (3, .int x3), (5, .int x5)]) X.1 X.2.1 dX9_valueAt_78 hl (k := 6) rfl (by rw [e6_7]; first | rfl | decide) (by decide) rfl (fun ls hl => ?_)
        refine lv_goto (tgt := 39) X.1 X.2.1 dX9_valueAt_81 (by decide) ?_
        exact hk39 x4_6 x6_7 S _ (lv_sub hl [2, 3, 4, 5, 1, 6, 0] rfl) h _ _ hP hS
  have B30 : ∀ (x2 : Int32) (x3 : Int32) (k4 : Int32 → Int32 → St → Prop) (hk4 : ∀ (x2 : Int32) (x3 : Int32) (S : St) (ls : Array Slot), lv_has ls 7 [(0, .ref (G.1 + 224)), (1, .int x1), (2, .int x2), (3, .int x3)] → k4 x2 x3 S → q_W p l e (k2_rm 0 0) s m args below meth c 0 0 (MQ below (q_Qc G K v_i) args s 0 0 (fr_ G)) G 4 ls [] S) (f : Nat) (x4 : Int32) (x5 : Int32) (S : St) (ls : Array Slot), lv_has ls 7 [(0, .ref (G.1 + 224)), (1, .int x1), (2, .int x2), (3, .int x3), (4, .int x4), (5, .int x5)] → q_it (fun _ _ _ => False) (w_X9_valueAt_30 x1 K k4 x2 x3) f x4 x5 S → q_W p l e (k2_rm 0 0) s m args below meth c 0 0 (MQ below (q_Qc G K v_i) args s 0 0 (fr_ G)) G 30 ls [] S := by
    intro x2 x3 k4 hk4 f
    induction f with
    | zero => intro x4 x5 S ls hl h; exact False.elim h
    | succ f hk30 =>
      intro x4 x5 S ls hl h H locs hP hS
      have h : w_X9_valueAt_30 x1 K k4 x2 x3 (q_it (fun _ _ _ => False) (w_X9_valueAt_30 x1 K k4 x2 x3) f) x4 x5 S := h
      generalize q_it (fun _ _ _ => False) (w_X9_valueAt_30 x1 K k4 x2 x3) f = k30 at h hk30
      refine lv_iload X.1 X.2.1 dX9_valueAt_30 (lv_at hl 5 rfl) ?_
      refine lv_iconst (v := 4) X.1 X.2.1 dX9_valueAt_32 (by decide) ?_
      refine lv_icmp_ge (tgt := 90) X.1 X.2.1 dX9_valueAt_33 (by decide) (fun c_1 => ?_) (fun c_1 => ?_)
      · have h := h.1 c_1
        refine lv_iload_n X.1 X.2.1 dX9_valueAt_90 rfl (lv_at hl 2 rfl) ?_
        refine lv_iload X.1 X.2.1 dX9_valueAt_91 (lv_at hl 4 rfl) ?_
        refine lv_iadd X.1 X.2.1 dX9_valueAt_93 ?_
        refine lv_aload_n X.1 X.2.1 dX9_valueAt_94 rfl (lv_at hl 0 rfl) ?_
        refine gf_X9_p X hK hP tl_X9_72 dX9_valueAt_95 ?_
        obtain ⟨o_2, h⟩ := h
        refine lv_irem X.1 X.2.1 dX9_valueAt_98 o_2 ?_
        refine lv_topi (fun x2_3 e2_3 => ?_)
        have h := h x2_3 e2_3
        refine lv_istore_n (lv' := [(2, .int x2_3), (0, .ref (G.1 + 224)), (1, .int x1), (3, .int x3), (4, .int x4), (5, .int x5)]) X.1 X.2.1 dX9_valueAt_99 rfl hl (by decide) rfl (fun ls hl => ?_)
        obtain ⟨x3_4, e3_4⟩ : ∃ y : Int32, y = x3 + 1 := ⟨_, rfl⟩
        have h := h x3_4 e3_4
        refine lv_iinc (v := x3_4) (lv' := [(3, .int x3_4), (2, .int x2_3), (0, .ref (G.1 + 224)), (1, .int x1), (4, .int x4), (5, .int x5)]) X.1 X.2.1 dX9_valueAt_100 hl (k := 3) rfl (by rw [e3_4]; first | rfl | decide) (by decide) rfl (fun ls hl => ?_)
        refine lv_goto (tgt := 4) X.1 X.2.1 dX9_valueAt_103 (by decide) ?_
        exact hk4 x2_3 x3_4 S _ (lv_sub hl [2, 3, 1, 0] rfl) h _ _ hP hS
      · have h := h.2 c_1
        refine lv_iconst (v := 0) X.1 X.2.1 dX9_valueAt_36 (by decide) ?_
        refine lv_istore (lv' := [(6, .int 0), (0, .ref (G.1 + 224)), (1, .int x1), (2, .int x2), (3, .int x3), (4, .int x4), (5, .int x5)]) X.1 X.2.1 dX9_valueAt_37 hl (by decide) rfl (fun ls hl => ?_)
        obtain ⟨f_5, h⟩ := h
        exact B39 x2 x3 x5 k4 hk4 k30 hk30 f_5 x4 0 S _ (lv_sub hl [1, 2, 3, 4, 5, 6, 0] rfl) h _ _ hP hS
  have B4 : ∀ (f : Nat) (x2 : Int32) (x3 : Int32) (S : St) (ls : Array Slot), lv_has ls 7 [(0, .ref (G.1 + 224)), (1, .int x1), (2, .int x2), (3, .int x3)] → q_it (fun _ _ _ => False) (w_X9_valueAt_4 x1 K) f x2 x3 S → q_W p l e (k2_rm 0 0) s m args below meth c 0 0 (MQ below (q_Qc G K v_i) args s 0 0 (fr_ G)) G 4 ls [] S := by
    intro f
    induction f with
    | zero => intro x2 x3 S ls hl h; exact False.elim h
    | succ f hk4 =>
      intro x2 x3 S ls hl h H locs hP hS
      have h : w_X9_valueAt_4 x1 K (q_it (fun _ _ _ => False) (w_X9_valueAt_4 x1 K) f) x2 x3 S := h
      generalize q_it (fun _ _ _ => False) (w_X9_valueAt_4 x1 K) f = k4 at h hk4
      refine lv_iload_n X.1 X.2.1 dX9_valueAt_4 rfl (lv_at hl 3 rfl) ?_
      refine lv_aload_n X.1 X.2.1 dX9_valueAt_5 rfl (lv_at hl 0 rfl) ?_
      refine gf_X9_many X hK hP tl_X9_13 dX9_valueAt_6 ?_
      refine lv_iload_n X.1 X.2.1 dX9_valueAt_9 rfl (lv_at hl 1 rfl) ?_
      obtain ⟨o_1, h⟩ := h
      refine q_iald X hK hP kz_225 o_1 dX9_valueAt_10 ?_
      refine lv_icmp_ge (tgt := 106) X.1 X.2.1 dX9_valueAt_11 (by decide) (fun c_2 => ?_) (fun c_2 => ?_)
      · have h := h.1 c_2
        refine lv_iload_n X.1 X.2.1 dX9_valueAt_106 rfl (lv_at hl 2 rfl) ?_
        exact q_iret X hr hlocks hP hS rfl h dX9_valueAt_107
      · have h := h.2 c_2
        refine lv_aload_n X.1 X.2.1 dX9_valueAt_14 rfl (lv_at hl 0 rfl) ?_
        refine gf_X9_numbers X hK hP tl_X9_17 dX9_valueAt_15 ?_
        refine lv_bipush (v := 40) X.1 X.2.1 dX9_valueAt_18 (by decide) ?_
        refine lv_iload_n X.1 X.2.1 dX9_valueAt_20 rfl (lv_at hl 1 rfl) ?_
        refine lv_imul X.1 X.2.1 dX9_valueAt_21 ?_
        refine lv_iload_n X.1 X.2.1 dX9_valueAt_22 rfl (lv_at hl 3 rfl) ?_
        refine lv_iadd X.1 X.2.1 dX9_valueAt_23 ?_
        obtain ⟨o_3, h⟩ := h
        refine q_iald X hK hP kz_226 o_3 dX9_valueAt_24 ?_
        refine lv_topi (fun x4_4 e4_4 => ?_)
        have h := h x4_4 e4_4
        refine lv_istore (lv' := [(4, .int x4_4), (0, .ref (G.1 + 224)), (1, .int x1), (2, .int x2), (3, .int x3)]) X.1 X.2.1 dX9_valueAt_25 hl (by decide) rfl (fun ls hl => ?_)
        refine lv_iconst (v := 0) X.1 X.2.1 dX9_valueAt_27 (by decide) ?_
        refine lv_istore (lv' := [(5, .int 0), (4, .int x4_4), (0, .ref (G.1 + 224)), (1, .int x1), (2, .int x2), (3, .int x3)]) X.1 X.2.1 dX9_valueAt_28 hl (by decide) rfl (fun ls hl => ?_)
        obtain ⟨f_5, h⟩ := h
        exact B30 x2 x3 k4 hk4 f_5 x4_4 0 S _ (lv_sub hl [2, 3, 4, 5, 1, 0] rfl) h _ _ hP hS
  refine lv_iconst (v := 0) X.1 X.2.1 dX9_valueAt_0 (by decide) ?_
  refine lv_istore_n (lv' := [(2, .int 0), (0, .ref (G.1 + 224)), (1, .int x1)]) X.1 X.2.1 dX9_valueAt_1 rfl hl (by decide) rfl (fun ls hl => ?_)
  refine lv_iconst (v := 0) X.1 X.2.1 dX9_valueAt_2 (by decide) ?_
  refine lv_istore_n (lv' := [(3, .int 0), (2, .int 0), (0, .ref (G.1 + 224)), (1, .int x1)]) X.1 X.2.1 dX9_valueAt_3 rfl hl (by decide) rfl (fun ls hl => ?_)
  obtain ⟨f_1, h⟩ := h
  exact B4 f_1 0 0 S _ (lv_sub hl [2, 3, 1, 0] rfl) h _ _ hP hS

set_option maxHeartbeats 4000000 in
set_option maxRecDepth 100000 in
theorem c_X9_value (l : Launch) (G : Cx) (x1 : Int32) (x2 : Int32) (x3 : Int32) (x4 : Int32) (x5 : Int32) (S : St) (K : Int32 → St → Prop) (h : w_X9_value x1 x2 x3 x4 x5 S K) : q_Met l yX9_value cX9_value 7 (some .int) 1 26 G [.ref (G.1 + 224), .int x1, .int x2, .int x3, .int x4, .int x5] v_i S K := by
  refine q_enter (by decide +kernel) (Nat.le_of_ble_eq_true rfl) (fun p e s m args below meth c ls X hK hP hr hlocks hl => ?_)
  have hS : va_S (fr_ G) s.heap s.heap [] := va_S.rf
  have hl : lv_has ls 7 [(0, .ref (G.1 + 224)), (1, .int x1), (2, .int x2), (3, .int x3), (4, .int x4), (5, .int x5)] := hl
  refine lv_aload_n X.1 X.2.1 dX9_value_0 rfl (lv_at hl 0 rfl) ?_
  refine lv_iload_n X.1 X.2.1 dX9_value_1 rfl (lv_at hl 1 rfl) ?_
  refine q_callV (rest := []) (b := 224) X hK hP hS (c_X9_placeOf l G x1 S _ h) my_X9_placeOf tl_X9_131 dX9_value_2 kz_224 rfl rfl rfl ⟨Nat.le_of_ble_eq_true rfl, Nat.le_of_ble_eq_true rfl⟩ hl.1 rfl (Nat.le_of_ble_eq_true rfl) ⟨Nat.le_of_ble_eq_true rfl, Nat.le_of_ble_eq_true rfl⟩ (fun r_2 S_1 H locs h hP hS => ?_)
  refine W.eq (g2 := F0 m 5 ls [.int r_2]) rfl ?_
  refine lv_istore (lv' := [(6, .int r_2), (0, .ref (G.1 + 224)), (1, .int x1), (2, .int x2), (3, .int x3), (4, .int x4), (5, .int x5)]) X.1 X.2.1 dX9_value_5 hl (by decide) rfl (fun ls hl => ?_)
  refine lv_iload X.1 X.2.1 dX9_value_7 (lv_at hl 0 rfl) ?_
  refine lv_if_ge (tgt := 15) X.1 X.2.1 dX9_value_9 (by decide) (fun c_3 => ?_) (fun c_3 => ?_)
  · have h := h.1 c_3
    refine lv_aload_n X.1 X.2.1 dX9_value_15 rfl (lv_at hl 1 rfl) ?_
    refine gf_X9_point X hK hP tl_X9_47 dX9_value_16 ?_
    refine lv_iconst (v := 0) X.1 X.2.1 dX9_value_19 (by decide) ?_
    refine lv_aload_n X.1 X.2.1 dX9_value_20 rfl (lv_at hl 1 rfl) ?_
    refine lv_iload_n X.1 X.2.1 dX9_value_21 rfl (lv_at hl 3 rfl) ?_
    refine lv_i2l X.1 X.2.1 dX9_value_22 rfl ?_
    refine q_callV (rest := [.int 0, .ref (G.1 + 235)]) (b := 224) X hK hP hS (c_X9_rest l G (x2.toInt64) S_1 _ h) my_X9_rest tl_X9_120 dX9_value_23 kz_224 rfl rfl rfl ⟨Nat.le_of_ble_eq_true rfl, Nat.le_of_ble_eq_true rfl⟩ hl.1 rfl (Nat.le_of_ble_eq_true rfl) ⟨Nat.le_of_ble_eq_true rfl, Nat.le_of_ble_eq_true rfl⟩ (fun r_5 S_4 H locs h hP hS => ?_)
    refine W.eq (g2 := F0 m 26 ls [.int r_5, .int 0, .ref (G.1 + 235)]) rfl ?_
    refine q_iast X hK hP hS kz_235 (q_vin (by decide)) dX9_value_26 (fun S_6 H locs eS_6 hP hS => ?_)
    have h := h S_6 eS_6
    refine lv_aload_n X.1 X.2.1 dX9_value_27 rfl (lv_at hl 1 rfl) ?_
    refine gf_X9_point X hK hP tl_X9_47 dX9_value_28 ?_
    refine lv_iconst (v := 1) X.1 X.2.1 dX9_value_31 (by decide) ?_
    refine lv_aload_n X.1 X.2.1 dX9_value_32 rfl (lv_at hl 1 rfl) ?_
    refine lv_iload_n X.1 X.2.1 dX9_value_33 rfl (lv_at hl 4 rfl) ?_
    refine lv_i2l X.1 X.2.1 dX9_value_34 rfl ?_
    refine q_callV (rest := [.int 1, .ref (G.1 + 235)]) (b := 224) X hK hP hS (c_X9_rest l G (x3.toInt64) S_6 _ h) my_X9_rest tl_X9_120 dX9_value_35 kz_224 rfl rfl rfl ⟨Nat.le_of_ble_eq_true rfl, Nat.le_of_ble_eq_true rfl⟩ hl.1 rfl (Nat.le_of_ble_eq_true rfl) ⟨Nat.le_of_ble_eq_true rfl, Nat.le_of_ble_eq_true rfl⟩ (fun r_8 S_7 H locs h hP hS => ?_)
    refine W.eq (g2 := F0 m 38 ls [.int r_8, .int 1, .ref (G.1 + 235)]) rfl ?_
    refine q_iast X hK hP hS kz_235 (q_vin (by decide)) dX9_value_38 (fun S_9 H locs eS_9 hP hS => ?_)
    have h := h S_9 eS_9
    refine lv_aload_n X.1 X.2.1 dX9_value_39 rfl (lv_at hl 1 rfl) ?_
    refine gf_X9_point X hK hP tl_X9_47 dX9_value_40 ?_
    refine lv_iconst (v := 2) X.1 X.2.1 dX9_value_43 (by decide) ?_
    refine lv_aload_n X.1 X.2.1 dX9_value_44 rfl (lv_at hl 1 rfl) ?_
    refine lv_iload X.1 X.2.1 dX9_value_45 (lv_at hl 5 rfl) ?_
    refine lv_i2l X.1 X.2.1 dX9_value_47 rfl ?_
    refine q_callV (rest := [.int 2, .ref (G.1 + 235)]) (b := 224) X hK hP hS (c_X9_rest l G (x4.toInt64) S_9 _ h) my_X9_rest tl_X9_120 dX9_value_48 kz_224 rfl rfl rfl ⟨Nat.le_of_ble_eq_true rfl, Nat.le_of_ble_eq_true rfl⟩ hl.1 rfl (Nat.le_of_ble_eq_true rfl) ⟨Nat.le_of_ble_eq_true rfl, Nat.le_of_ble_eq_true rfl⟩ (fun r_11 S_10 H locs h hP hS => ?_)
    refine W.eq (g2 := F0 m 51 ls [.int r_11, .int 2, .ref (G.1 + 235)]) rfl ?_
    refine q_iast X hK hP hS kz_235 (q_vin (by decide)) dX9_value_51 (fun S_12 H locs eS_12 hP hS => ?_)
    have h := h S_12 eS_12
    refine lv_aload_n X.1 X.2.1 dX9_value_52 rfl (lv_at hl 1 rfl) ?_
    refine gf_X9_point X hK hP tl_X9_47 dX9_value_53 ?_
    refine lv_iconst (v := 3) X.1 X.2.1 dX9_value_56 (by decide) ?_
    refine lv_aload_n X.1 X.2.1 dX9_value_57 rfl (lv_at hl 1 rfl) ?_
    refine lv_iload X.1 X.2.1 dX9_value_58 (lv_at hl 6 rfl) ?_
    refine lv_i2l X.1 X.2.1 dX9_value_60 rfl ?_
    refine q_callV (rest := [.int 3, .ref (G.1 + 235)]) (b := 224) X hK hP hS (c_X9_rest l G (x5.toInt64) S_12 _ h) my_X9_rest tl_X9_120 dX9_value_61 kz_224 rfl rfl rfl ⟨Nat.le_of_ble_eq_true rfl, Nat.le_of_ble_eq_true rfl⟩ hl.1 rfl (Nat.le_of_ble_eq_true rfl) ⟨Nat.le_of_ble_eq_true rfl, Nat.le_of_ble_eq_true rfl⟩ (fun r_14 S_13 H locs h hP hS => ?_)
    refine W.eq (g2 := F0 m 64 ls [.int r_14, .int 3, .ref (G.1 + 235)]) rfl ?_
    refine q_iast X hK hP hS kz_235 (q_vin (by decide)) dX9_value_64 (fun S_15 H locs eS_15 hP hS => ?_)
    have h := h S_15 eS_15
    refine lv_aload_n X.1 X.2.1 dX9_value_65 rfl (lv_at hl 1 rfl) ?_
    refine lv_iload X.1 X.2.1 dX9_value_66 (lv_at hl 0 rfl) ?_
    refine q_callV (rest := []) (b := 224) X hK hP hS (c_X9_valueAt l G r_2 S_15 _ h) my_X9_valueAt tl_X9_148 dX9_value_68 kz_224 rfl rfl rfl ⟨Nat.le_of_ble_eq_true rfl, Nat.le_of_ble_eq_true rfl⟩ hl.1 rfl (Nat.le_of_ble_eq_true rfl) ⟨Nat.le_of_ble_eq_true rfl, Nat.le_of_ble_eq_true rfl⟩ (fun r_17 S_16 H locs h hP hS => ?_)
    refine W.eq (g2 := F0 m 71 ls [.int r_17]) rfl ?_
    exact q_iret X hr hlocks hP hS rfl h dX9_value_71
  · have h := h.2 c_3
    refine lv_bipush (v := (-2)) X.1 X.2.1 dX9_value_12 (by decide) ?_
    exact q_iret X hr hlocks hP hS rfl h dX9_value_14

set_option maxHeartbeats 4000000 in
set_option maxRecDepth 100000 in
theorem c_X9_compare (l : Launch) (G : Cx) (x1 : Int32) (x2 : Int32) (S : St) (K : Int32 → St → Prop) (h : w_X9_compare x1 x2 S K) : q_Met l yX9_compare cX9_compare 9 (some .int) 2 53 G [.ref (G.1 + 224), .int x1, .int x2] v_i S K := by
  refine q_enter (by decide +kernel) (Nat.le_of_ble_eq_true rfl) (fun p e s m args below meth c ls X hK hP hr hlocks hl => ?_)
  have hS : va_S (fr_ G) s.heap s.heap [] := va_S.rf
  have hl : lv_has ls 9 [(0, .ref (G.1 + 224)), (1, .int x1), (2, .int x2)] := hl
  have B22 : ∀ (S : St) (ls : Array Slot), lv_has ls 9 [] → w_X9_compare_22 x1 x2 K S → q_W p l e (k2_rm 2 53) s m args below meth c 0 0 (MQ below (q_Qc G K v_i) args s 0 0 (fr_ G)) G 22 ls [] S := by
    intro S ls hl h H locs hP hS
    refine lv_bipush (v := (-2)) X.1 X.2.1 dX9_compare_22 (by decide) ?_
    exact q_iret X hr hlocks hP hS rfl h dX9_compare_24
  have B149 : ∀ (x3 : Int32) (x4 : Int32) (S : St) (ls : Array Slot), lv_has ls 9 [(0, .ref (G.1 + 224)), (3, .int x3), (4, .int x4)] → w_X9_compare_149 x1 x2 K x3 x4 S → q_W p l e (k2_rm 2 53) s m args below meth c 0 0 (MQ below (q_Qc G K v_i) args s 0 0 (fr_ G)) G 149 ls [] S := by
    intro x3 x4 S ls hl h H locs hP hS
    refine lv_aload_n X.1 X.2.1 dX9_compare_149 rfl (lv_at hl 0 rfl) ?_
    refine gf_X9_many X hK hP tl_X9_13 dX9_compare_150 ?_
    refine lv_iload_n X.1 X.2.1 dX9_compare_153 rfl (lv_at hl 1 rfl) ?_
    obtain ⟨o_1, h⟩ := h
    refine q_iald X hK hP kz_225 o_1 dX9_compare_154 ?_
    refine lv_aload_n X.1 X.2.1 dX9_compare_155 rfl (lv_at hl 0 rfl) ?_
    refine gf_X9_many X hK hP tl_X9_13 dX9_compare_156 ?_
    refine lv_iload X.1 X.2.1 dX9_compare_159 (lv_at hl 2 rfl) ?_
    obtain ⟨o_2, h⟩ := h
    refine q_iald X hK hP kz_225 o_2 dX9_compare_161 ?_
    refine lv_icmp_ne (tgt := 169) X.1 X.2.1 dX9_compare_162 (by decide) (fun c_3 => ?_) (fun c_3 => ?_)
    · have h := h.1 c_3
      refine lv_aload_n X.1 X.2.1 dX9_compare_169 rfl (lv_at hl 0 rfl) ?_
      refine gf_X9_many X hK hP tl_X9_13 dX9_compare_170 ?_
      refine lv_iload_n X.1 X.2.1 dX9_compare_173 rfl (lv_at hl 1 rfl) ?_
      refine q_iald X hK hP kz_225 o_1 dX9_compare_174 ?_
      refine lv_aload_n X.1 X.2.1 dX9_compare_175 rfl (lv_at hl 0 rfl) ?_
      refine gf_X9_many X hK hP tl_X9_13 dX9_compare_176 ?_
      refine lv_iload X.1 X.2.1 dX9_compare_179 (lv_at hl 2 rfl) ?_
      refine q_iald X hK hP kz_225 o_2 dX9_compare_181 ?_
      refine lv_icmp_ge (tgt := 189) X.1 X.2.1 dX9_compare_182 (by decide) (fun c_4 => ?_) (fun c_4 => ?_)
      · have h := h.1 c_4
        refine lv_iconst (v := 1) X.1 X.2.1 dX9_compare_189 (by decide) ?_
        exact q_iret X hr hlocks hP hS rfl h dX9_compare_190
      · have h := h.2 c_4
        refine lv_iconst (v := (-1)) X.1 X.2.1 dX9_compare_185 (by decide) ?_
        refine lv_goto (tgt := 190) X.1 X.2.1 dX9_compare_186 (by decide) ?_
        exact q_iret X hr hlocks hP hS rfl h dX9_compare_190
    · have h := h.2 c_3
      refine lv_iconst (v := 0) X.1 X.2.1 dX9_compare_165 (by decide) ?_
      refine lv_goto (tgt := 190) X.1 X.2.1 dX9_compare_166 (by decide) ?_
      exact q_iret X hr hlocks hP hS rfl h dX9_compare_190
  have B28 : ∀ (x3 : Int32) (x4 : Int32) (f : Nat) (x5 : Int32) (S : St) (ls : Array Slot), lv_has ls 9 [(0, .ref (G.1 + 224)), (3, .int x3), (4, .int x4), (5, .int x5)] → q_it (fun _ _ => False) (w_X9_compare_28 x1 x2 K x3 x4) f x5 S → q_W p l e (k2_rm 2 53) s m args below meth c 0 0 (MQ below (q_Qc G K v_i) args s 0 0 (fr_ G)) G 28 ls [] S := by
    intro x3 x4 f
    induction f with
    | zero => intro x5 S ls hl h; exact False.elim h
    | succ f hk28 =>
      intro x5 S ls hl h H locs hP hS
      have h : w_X9_compare_28 x1 x2 K x3 x4 (q_it (fun _ _ => False) (w_X9_compare_28 x1 x2 K x3 x4) f) x5 S := h
      generalize q_it (fun _ _ => False) (w_X9_compare_28 x1 x2 K x3 x4) f = k28 at h hk28
      refine lv_iload X.1 X.2.1 dX9_compare_28 (lv_at hl 3 rfl) ?_
      refine lv_aload_n X.1 X.2.1 dX9_compare_30 rfl (lv_at hl 0 rfl) ?_
      refine gf_X9_many X hK hP tl_X9_13 dX9_compare_31 ?_
      refine lv_iload_n X.1 X.2.1 dX9_compare_34 rfl (lv_at hl 1 rfl) ?_
      obtain ⟨o_1, h⟩ := h
      refine q_iald X hK hP kz_225 o_1 dX9_compare_35 ?_
      refine lv_icmp_ge (tgt := 149) X.1 X.2.1 dX9_compare_36 (by decide) (fun c_2 => ?_) (fun c_2 => ?_)
      · have h := h.1 c_2
        exact B149 x3 x4 S _ (lv_sub hl [0, 1, 2] rfl) h _ _ hP hS
      · have h := h.2 c_2
        refine lv_iload X.1 X.2.1 dX9_compare_39 (lv_at hl 3 rfl) ?_
        refine lv_aload_n X.1 X.2.1 dX9_compare_41 rfl (lv_at hl 0 rfl) ?_
        refine gf_X9_many X hK hP tl_X9_13 dX9_compare_42 ?_
        refine lv_iload X.1 X.2.1 dX9_compare_45 (lv_at hl 2 rfl) ?_
        obtain ⟨o_3, h⟩ := h
        refine q_iald X hK hP kz_225 o_3 dX9_compare_47 ?_
        refine lv_icmp_ge (tgt := 149) X.1 X.2.1 dX9_compare_48 (by decide) (fun c_4 => ?_) (fun c_4 => ?_)
        · have h := h.1 c_4
          exact B149 x3 x4 S _ (lv_sub hl [0, 1, 2] rfl) h _ _ hP hS
        · have h := h.2 c_4
          refine lv_aload_n X.1 X.2.1 dX9_compare_51 rfl (lv_at hl 0 rfl) ?_
          refine lv_aload_n X.1 X.2.1 dX9_compare_52 rfl (lv_at hl 0 rfl) ?_
          refine gf_X9_exponents X hK hP tl_X9_20 dX9_compare_53 ?_
          refine lv_sipush (v := 160) X.1 X.2.1 dX9_compare_56 (by decide) ?_
          refine lv_iload_n X.1 X.2.1 dX9_compare_59 rfl (lv_at hl 1 rfl) ?_
          refine lv_imul X.1 X.2.1 dX9_compare_60 ?_
          refine lv_iconst (v := 4) X.1 X.2.1 dX9_compare_61 (by decide) ?_
          refine lv_iload X.1 X.2.1 dX9_compare_62 (lv_at hl 3 rfl) ?_
          refine lv_imul X.1 X.2.1 dX9_compare_64 ?_
          refine lv_iadd X.1 X.2.1 dX9_compare_65 ?_
          refine lv_aload_n X.1 X.2.1 dX9_compare_66 rfl (lv_at hl 0 rfl) ?_
          refine gf_X9_exponents X hK hP tl_X9_20 dX9_compare_67 ?_
          refine lv_sipush (v := 160) X.1 X.2.1 dX9_compare_70 (by decide) ?_
          refine lv_iload X.1 X.2.1 dX9_compare_73 (lv_at hl 2 rfl) ?_
          refine lv_imul X.1 X.2.1 dX9_compare_75 ?_
          refine lv_iconst (v := 4) X.1 X.2.1 dX9_compare_76 (by decide) ?_
          refine lv_iload X.1 X.2.1 dX9_compare_77 (lv_at hl 3 rfl) ?_
          refine lv_imul X.1 X.2.1 dX9_compare_79 ?_
          refine lv_iadd X.1 X.2.1 dX9_compare_80 ?_
          refine q_callV (rest := []) (b := 224) X hK hP hS (c_X9_stand l G 227 ((160 * x3) + (4 * x5)) 227 ((160 * x4) + (4 * x5)) S _ ⟨kz_227.1, rfl⟩ ⟨kz_227.1, rfl⟩ h) my_X9_stand tl_X9_93 dX9_compare_81 kz_224 rfl rfl rfl ⟨Nat.le_of_ble_eq_true rfl, Nat.le_of_ble_eq_true rfl⟩ hl.1 rfl (Nat.le_of_ble_eq_true rfl) ⟨Nat.le_of_ble_eq_true rfl, Nat.le_of_ble_eq_true rfl⟩ (fun r_6 S_5 H locs h hP hS => ?_)
          refine W.eq (g2 := F0 m 84 ls [.int r_6]) rfl ?_
          refine lv_istore (lv' := [(6, .int r_6), (0, .ref (G.1 + 224)), (3, .int x3), (4, .int x4), (5, .int x5)]) X.1 X.2.1 dX9_compare_84 hl (by decide) rfl (fun ls hl => ?_)
          refine lv_iload X.1 X.2.1 dX9_compare_86 (lv_at hl 0 rfl) ?_
          refine lv_if_eq (tgt := 94) X.1 X.2.1 dX9_compare_88 (by decide) (fun c_7 => ?_) (fun c_7 => ?_)
          · have h := h.1 c_7
            refine lv_aload_n X.1 X.2.1 dX9_compare_94 rfl (lv_at hl 1 rfl) ?_
            refine gf_X9_numbers X hK hP tl_X9_17 dX9_compare_95 ?_
            refine lv_bipush (v := 40) X.1 X.2.1 dX9_compare_98 (by decide) ?_
            refine lv_iload_n X.1 X.2.1 dX9_compare_100 rfl (lv_at hl 2 rfl) ?_
            refine lv_imul X.1 X.2.1 dX9_compare_101 ?_
            refine lv_iload X.1 X.2.1 dX9_compare_102 (lv_at hl 4 rfl) ?_
            refine lv_iadd X.1 X.2.1 dX9_compare_104 ?_
            obtain ⟨o_8, h⟩ := h
            refine q_iald X hK hP kz_226 o_8 dX9_compare_105 ?_
            refine lv_topi (fun x7_9 e7_9 => ?_)
            have h := h x7_9 e7_9
            refine lv_istore (lv' := [(7, .int x7_9), (6, .int r_6), (0, .ref (G.1 + 224)), (3, .int x3), (4, .int x4), (5, .int x5)]) X.1 X.2.1 dX9_compare_106 hl (by decide) rfl (fun ls hl => ?_)
            refine lv_aload_n X.1 X.2.1 dX9_compare_108 rfl (lv_at hl 2 rfl) ?_
            refine gf_X9_numbers X hK hP tl_X9_17 dX9_compare_109 ?_
            refine lv_bipush (v := 40) X.1 X.2.1 dX9_compare_112 (by decide) ?_
            refine lv_iload X.1 X.2.1 dX9_compare_114 (lv_at hl 4 rfl) ?_
            refine lv_imul X.1 X.2.1 dX9_compare_116 ?_
            refine lv_iload X.1 X.2.1 dX9_compare_117 (lv_at hl 5 rfl) ?_
            refine lv_iadd X.1 X.2.1 dX9_compare_119 ?_
            obtain ⟨o_10, h⟩ := h
            refine q_iald X hK hP kz_226 o_10 dX9_compare_120 ?_
            refine lv_topi (fun x8_11 e8_11 => ?_)
            have h := h x8_11 e8_11
            refine lv_istore (lv' := [(8, .int x8_11), (7, .int x7_9), (6, .int r_6), (0, .ref (G.1 + 224)), (3, .int x3), (4, .int x4), (5, .int x5)]) X.1 X.2.1 dX9_compare_121 hl (by decide) rfl (fun ls hl => ?_)
            refine lv_iload X.1 X.2.1 dX9_compare_123 (lv_at hl 1 rfl) ?_
            refine lv_iload X.1 X.2.1 dX9_compare_125 (lv_at hl 0 rfl) ?_
            refine lv_icmp_eq (tgt := 143) X.1 X.2.1 dX9_compare_127 (by decide) (fun c_12 => ?_) (fun c_12 => ?_)
            · have h := h.1 c_12
              obtain ⟨x5_13, e5_13⟩ : ∃ y : Int32, y = x5 + 1 := ⟨_, rfl⟩
              have h := h x5_13 e5_13
              refine lv_iinc (v := x5_13) (lv' := [(5, .int x5_13), (8, .int x8_11), (7, .int x7_9), (6, .int r_6), (0, .ref (G.1 + 224)), (3, .int x3), (4, .int x4)]) X.1 X.2.1 dX9_compare_143 hl (k := 6) rfl (by rw [e5_13]; first | rfl | decide) (by decide) rfl (fun ls hl => ?_)
              refine lv_goto (tgt := 28) X.1 X.2.1 dX9_compare_146 (by decide) ?_
              exact hk28 x5_13 S_5 _ (lv_sub hl [4, 5, 6, 0] rfl) h _ _ hP hS
            · have h := h.2 c_12
              refine lv_iload X.1 X.2.1 dX9_compare_130 (lv_at hl 1 rfl) ?_
              refine lv_iload X.1 X.2.1 dX9_compare_132 (lv_at hl 0 rfl) ?_
              refine lv_icmp_ge (tgt := 141) X.1 X.2.1 dX9_compare_134 (by decide) (fun c_14 => ?_) (fun c_14 => ?_)
              · have h := h.1 c_14
                refine lv_iconst (v := 1) X.1 X.2.1 dX9_compare_141 (by decide) ?_
                exact q_iret X hr hlocks hP hS rfl h dX9_compare_142
              · have h := h.2 c_14
                refine lv_iconst (v := (-1)) X.1 X.2.1 dX9_compare_137 (by decide) ?_
                refine lv_goto (tgt := 142) X.1 X.2.1 dX9_compare_138 (by decide) ?_
                exact q_iret X hr hlocks hP hS rfl h dX9_compare_142
          · have h := h.2 c_7
            refine lv_iload X.1 X.2.1 dX9_compare_91 (lv_at hl 0 rfl) ?_
            exact q_iret X hr hlocks hP hS rfl h dX9_compare_93
  refine lv_aload_n X.1 X.2.1 dX9_compare_0 rfl (lv_at hl 0 rfl) ?_
  refine lv_iload_n X.1 X.2.1 dX9_compare_1 rfl (lv_at hl 1 rfl) ?_
  refine q_callV (rest := []) (b := 224) X hK hP hS (c_X9_placeOf l G x1 S _ h) my_X9_placeOf tl_X9_131 dX9_compare_2 kz_224 rfl rfl rfl ⟨Nat.le_of_ble_eq_true rfl, Nat.le_of_ble_eq_true rfl⟩ hl.1 rfl (Nat.le_of_ble_eq_true rfl) ⟨Nat.le_of_ble_eq_true rfl, Nat.le_of_ble_eq_true rfl⟩ (fun r_2 S_1 H locs h hP hS => ?_)
  refine W.eq (g2 := F0 m 5 ls [.int r_2]) rfl ?_
  refine lv_istore_n (lv' := [(3, .int r_2), (0, .ref (G.1 + 224)), (1, .int x1), (2, .int x2)]) X.1 X.2.1 dX9_compare_5 rfl hl (by decide) rfl (fun ls hl => ?_)
  refine lv_aload_n X.1 X.2.1 dX9_compare_6 rfl (lv_at hl 1 rfl) ?_
  refine lv_iload_n X.1 X.2.1 dX9_compare_7 rfl (lv_at hl 3 rfl) ?_
  refine q_callV (rest := []) (b := 224) X hK hP hS (c_X9_placeOf l G x2 S_1 _ h) my_X9_placeOf tl_X9_131 dX9_compare_8 kz_224 rfl rfl rfl ⟨Nat.le_of_ble_eq_true rfl, Nat.le_of_ble_eq_true rfl⟩ hl.1 rfl (Nat.le_of_ble_eq_true rfl) ⟨Nat.le_of_ble_eq_true rfl, Nat.le_of_ble_eq_true rfl⟩ (fun r_4 S_3 H locs h hP hS => ?_)
  refine W.eq (g2 := F0 m 11 ls [.int r_4]) rfl ?_
  refine lv_istore (lv' := [(4, .int r_4), (3, .int r_2), (0, .ref (G.1 + 224)), (1, .int x1), (2, .int x2)]) X.1 X.2.1 dX9_compare_11 hl (by decide) rfl (fun ls hl => ?_)
  refine lv_iload_n X.1 X.2.1 dX9_compare_13 rfl (lv_at hl 1 rfl) ?_
  refine lv_if_lt (tgt := 22) X.1 X.2.1 dX9_compare_14 (by decide) (fun c_5 => ?_) (fun c_5 => ?_)
  · have h := h.1 c_5
    exact B22 S_3 _ (lv_sub hl [] rfl) h _ _ hP hS
  · have h := h.2 c_5
    refine lv_iload X.1 X.2.1 dX9_compare_17 (lv_at hl 0 rfl) ?_
    refine lv_if_ge (tgt := 25) X.1 X.2.1 dX9_compare_19 (by decide) (fun c_6 => ?_) (fun c_6 => ?_)
    · have h := h.1 c_6
      refine lv_iconst (v := 0) X.1 X.2.1 dX9_compare_25 (by decide) ?_
      refine lv_istore (lv' := [(5, .int 0), (4, .int r_4), (3, .int r_2), (0, .ref (G.1 + 224)), (1, .int x1), (2, .int x2)]) X.1 X.2.1 dX9_compare_26 hl (by decide) rfl (fun ls hl => ?_)
      obtain ⟨f_7, h⟩ := h
      exact B28 r_2 r_4 f_7 0 S_3 _ (lv_sub hl [3, 2, 1, 0] rfl) h _ _ hP hS
    · have h := h.2 c_6
      exact B22 S_3 _ (lv_sub hl [] rfl) h _ _ hP hS

set_option maxHeartbeats 4000000 in
set_option maxRecDepth 100000 in
theorem c_X9_reducer (l : Launch) (G : Cx) (S : St) (K : Int32 → St → Prop) (h : w_X9_reducer S K) : q_Met l yX9_reducer cX9_reducer 2 (some .int) 1 25 G [.ref (G.1 + 224)] v_i S K := by
  refine q_enter (by decide +kernel) (Nat.le_of_ble_eq_true rfl) (fun p e s m args below meth c ls X hK hP hr hlocks hl => ?_)
  have hS : va_S (fr_ G) s.heap s.heap [] := va_S.rf
  have hl : lv_has ls 2 [(0, .ref (G.1 + 224))] := hl
  have B2 : ∀ (f : Nat) (x1 : Int32) (S : St) (ls : Array Slot), lv_has ls 2 [(0, .ref (G.1 + 224)), (1, .int x1)] → q_it (fun _ _ => False) (w_X9_reducer_2 K) f x1 S → q_W p l e (k2_rm 1 25) s m args below meth c 0 0 (MQ below (q_Qc G K v_i) args s 0 0 (fr_ G)) G 2 ls [] S := by
    intro f
    induction f with
    | zero => intro x1 S ls hl h; exact False.elim h
    | succ f hk2 =>
      intro x1 S ls hl h H locs hP hS
      have h : w_X9_reducer_2 K (q_it (fun _ _ => False) (w_X9_reducer_2 K) f) x1 S := h
      generalize q_it (fun _ _ => False) (w_X9_reducer_2 K) f = k2 at h hk2
      refine lv_iload_n X.1 X.2.1 dX9_reducer_2 rfl (lv_at hl 1 rfl) ?_
      refine lv_aload_n X.1 X.2.1 dX9_reducer_3 rfl (lv_at hl 0 rfl) ?_
      refine gf_X9_places X hK hP tl_X9_151 dX9_reducer_4 ?_
      refine lv_icmp_ge (tgt := 48) X.1 X.2.1 dX9_reducer_7 (by decide) (fun c_1 => ?_) (fun c_1 => ?_)
      · have h := h.1 c_1
        refine lv_iconst (v := (-1)) X.1 X.2.1 dX9_reducer_48 (by decide) ?_
        exact q_iret X hr hlocks hP hS rfl h dX9_reducer_49
      · have h := h.2 c_1
        refine lv_aload_n X.1 X.2.1 dX9_reducer_10 rfl (lv_at hl 0 rfl) ?_
        refine gf_X9_exponents X hK hP tl_X9_20 dX9_reducer_11 ?_
        refine lv_sipush (v := 160) X.1 X.2.1 dX9_reducer_14 (by decide) ?_
        refine lv_aload_n X.1 X.2.1 dX9_reducer_17 rfl (lv_at hl 0 rfl) ?_
        refine gf_X9_place X hK hP tl_X9_50 dX9_reducer_18 ?_
        refine lv_iload_n X.1 X.2.1 dX9_reducer_21 rfl (lv_at hl 1 rfl) ?_
        obtain ⟨o_2, h⟩ := h
        refine q_iald X hK hP kz_236 o_2 dX9_reducer_22 ?_
        refine lv_imul X.1 X.2.1 dX9_reducer_23 ?_
        refine lv_aload_n X.1 X.2.1 dX9_reducer_24 rfl (lv_at hl 0 rfl) ?_
        refine gf_X9_rowExponents X hK hP tl_X9_35 dX9_reducer_25 ?_
        refine lv_iconst (v := 0) X.1 X.2.1 dX9_reducer_28 (by decide) ?_
        refine q_callS (rest := []) X hK hP hS (c_X9_divides l G 227 (160 * (S 236 (q_rf x1))) 231 0 S _ ⟨kz_227.1, rfl⟩ ⟨kz_231.1, rfl⟩ h) my_X9_divides tl_X9_154 dX9_reducer_29 rfl ⟨Nat.le_of_ble_eq_true rfl, Nat.le_of_ble_eq_true rfl⟩ hl.1 rfl (Nat.le_of_ble_eq_true rfl) ⟨Nat.le_of_ble_eq_true rfl, Nat.le_of_ble_eq_true rfl⟩ (fun r_4 S_3 H locs h hP hS => ?_)
        refine W.eq (g2 := F0 m 32 ls [.int r_4]) rfl ?_
        refine lv_if_eq (tgt := 42) X.1 X.2.1 dX9_reducer_32 (by decide) (fun c_5 => ?_) (fun c_5 => ?_)
        · have h := h.1 c_5
          obtain ⟨x1_6, e1_6⟩ : ∃ y : Int32, y = x1 + 1 := ⟨_, rfl⟩
          have h := h x1_6 e1_6
          refine lv_iinc (v := x1_6) (lv' := [(1, .int x1_6), (0, .ref (G.1 + 224))]) X.1 X.2.1 dX9_reducer_42 hl (k := 1) rfl (by rw [e1_6]; first | rfl | decide) (by decide) rfl (fun ls hl => ?_)
          refine lv_goto (tgt := 2) X.1 X.2.1 dX9_reducer_45 (by decide) ?_
          exact hk2 x1_6 S_3 _ (lv_sub hl [1, 0] rfl) h _ _ hP hS
        · have h := h.2 c_5
          refine lv_aload_n X.1 X.2.1 dX9_reducer_35 rfl (lv_at hl 0 rfl) ?_
          refine gf_X9_place X hK hP tl_X9_50 dX9_reducer_36 ?_
          refine lv_iload_n X.1 X.2.1 dX9_reducer_39 rfl (lv_at hl 1 rfl) ?_
          refine q_iald X hK hP kz_236 o_2 dX9_reducer_40 ?_
          exact q_iret X hr hlocks hP hS rfl h dX9_reducer_41
  refine lv_iconst (v := 0) X.1 X.2.1 dX9_reducer_0 (by decide) ?_
  refine lv_istore_n (lv' := [(1, .int 0), (0, .ref (G.1 + 224))]) X.1 X.2.1 dX9_reducer_1 rfl hl (by decide) rfl (fun ls hl => ?_)
  obtain ⟨f_1, h⟩ := h
  exact B2 f_1 0 S _ (lv_sub hl [1, 0] rfl) h _ _ hP hS
