set_option maxHeartbeats 4000000 in
set_option maxRecDepth 100000 in
theorem c_X5_hasVariable (l : Launch) (G : Cx) (x1 : Int32) (S : St) (K : Int32 → St → Prop) (h : w_X5_hasVariable x1 S K) : q_Met l yX5_hasVariable cX5_hasVariable 2 (some .boolean) 0 0 G [.ref (G.1 + 1), .int x1] v_i S K := by
  refine q_enter (by decide +kernel) (Nat.le_of_ble_eq_true rfl) (fun p e s m args below meth c ls X hK hP hr hlocks hl => ?_)
  have hS : va_S (fr_ G) s.heap s.heap [] := va_S.rf
  have hl : lv_has ls 2 [(0, .ref (G.1 + 1)), (1, .int x1)] := hl
  have B16 : ∀ (S : St) (ls : Array Slot), lv_has ls 2 [] → w_X5_hasVariable_16 x1 K S → q_W p l e (k2_rm 0 0) s m args below meth c 0 0 (MQ below (q_Qc G K v_i) args s 0 0 (fr_ G)) G 16 ls [] S := by
    intro S ls hl h H locs hP hS
    refine lv_iconst (v := 0) X.1 X.2.1 dX5_hasVariable_16 (by decide) ?_
    exact q_iret X hr hlocks hP hS rfl h dX5_hasVariable_17
  refine lv_iload_n X.1 X.2.1 dX5_hasVariable_0 rfl (lv_at hl 1 rfl) ?_
  refine lv_if_lt (tgt := 16) X.1 X.2.1 dX5_hasVariable_1 (by decide) (fun c_1 => ?_) (fun c_1 => ?_)
  · have h := h.1 c_1
    exact B16 S _ (lv_sub hl [] rfl) h _ _ hP hS
  · have h := h.2 c_1
    refine lv_iload_n X.1 X.2.1 dX5_hasVariable_4 rfl (lv_at hl 1 rfl) ?_
    refine lv_aload_n X.1 X.2.1 dX5_hasVariable_5 rfl (lv_at hl 0 rfl) ?_
    refine gf_X5_n X hK hP tl_X5_35 dX5_hasVariable_6 ?_
    refine lv_icmp_ge (tgt := 16) X.1 X.2.1 dX5_hasVariable_9 (by decide) (fun c_2 => ?_) (fun c_2 => ?_)
    · have h := h.1 c_2
      exact B16 S _ (lv_sub hl [] rfl) h _ _ hP hS
    · have h := h.2 c_2
      refine lv_iconst (v := 1) X.1 X.2.1 dX5_hasVariable_12 (by decide) ?_
      refine lv_goto (tgt := 17) X.1 X.2.1 dX5_hasVariable_13 (by decide) ?_
      exact q_iret X hr hlocks hP hS rfl h dX5_hasVariable_17

set_option maxHeartbeats 4000000 in
set_option maxRecDepth 100000 in
theorem c_X5_mayBeExponent (l : Launch) (G : Cx) (x1 : Int32) (x2 : Int32) (S : St) (K : Int32 → St → Prop) (h : w_X5_mayBeExponent x1 x2 S K) : q_Met l yX5_mayBeExponent cX5_mayBeExponent 3 (some .boolean) 1 21 G [.ref (G.1 + 1), .int x1, .int x2] v_i S K := by
  refine q_enter (by decide +kernel) (Nat.le_of_ble_eq_true rfl) (fun p e s m args below meth c ls X hK hP hr hlocks hl => ?_)
  have hS : va_S (fr_ G) s.heap s.heap [] := va_S.rf
  have hl : lv_has ls 3 [(0, .ref (G.1 + 1)), (1, .int x1), (2, .int x2)] := hl
  have B26 : ∀ (S : St) (ls : Array Slot), lv_has ls 3 [] → w_X5_mayBeExponent_26 x1 x2 K S → q_W p l e (k2_rm 1 21) s m args below meth c 0 0 (MQ below (q_Qc G K v_i) args s 0 0 (fr_ G)) G 26 ls [] S := by
    intro S ls hl h H locs hP hS
    refine lv_iconst (v := 0) X.1 X.2.1 dX5_mayBeExponent_26 (by decide) ?_
    exact q_iret X hr hlocks hP hS rfl h dX5_mayBeExponent_27
  have B19 : ∀ (z0 : Int32) (z1 : Int32) (S : St) (ls : Array Slot), lv_has ls 3 [] → w_X5_mayBeExponent_19 x1 x2 K z0 z1 S → q_W p l e (k2_rm 1 21) s m args below meth c 0 0 (MQ below (q_Qc G K v_i) args s 0 0 (fr_ G)) G 19 ls [.int z1, .int z0] S := by
    intro z0 z1 S ls hl h H locs hP hS
    refine lv_icmp_gt (tgt := 26) X.1 X.2.1 dX5_mayBeExponent_19 (by decide) (fun c_1 => ?_) (fun c_1 => ?_)
    · have h := h.1 c_1
      exact B26 S _ (lv_sub hl [] rfl) h _ _ hP hS
    · have h := h.2 c_1
      refine lv_iconst (v := 1) X.1 X.2.1 dX5_mayBeExponent_22 (by decide) ?_
      refine lv_goto (tgt := 27) X.1 X.2.1 dX5_mayBeExponent_23 (by decide) ?_
      exact q_iret X hr hlocks hP hS rfl h dX5_mayBeExponent_27
  refine lv_iload_n X.1 X.2.1 dX5_mayBeExponent_0 rfl (lv_at hl 1 rfl) ?_
  refine lv_if_lt (tgt := 26) X.1 X.2.1 dX5_mayBeExponent_1 (by decide) (fun c_1 => ?_) (fun c_1 => ?_)
  · have h := h.1 c_1
    exact B26 S _ (lv_sub hl [] rfl) h _ _ hP hS
  · have h := h.2 c_1
    refine lv_iload_n X.1 X.2.1 dX5_mayBeExponent_4 rfl (lv_at hl 1 rfl) ?_
    refine lv_aload_n X.1 X.2.1 dX5_mayBeExponent_5 rfl (lv_at hl 0 rfl) ?_
    refine lv_iload_n X.1 X.2.1 dX5_mayBeExponent_6 rfl (lv_at hl 2 rfl) ?_
    refine q_callV (rest := [.int x1]) (b := 1) X hK hP hS (c_X5_hasVariable l G x2 S _ h) my_X5_hasVariable tl_X5_38 dX5_mayBeExponent_7 kz_1 rfl rfl rfl ⟨Nat.le_of_ble_eq_true rfl, Nat.le_of_ble_eq_true rfl⟩ hl.1 rfl (Nat.le_of_ble_eq_true rfl) ⟨Nat.le_of_ble_eq_true rfl, Nat.le_of_ble_eq_true rfl⟩ (fun r_3 S_2 H locs h hP hS => ?_)
    refine W.eq (g2 := F0 m 10 ls [.int r_3, .int x1]) rfl ?_
    refine lv_if_eq (tgt := 18) X.1 X.2.1 dX5_mayBeExponent_10 (by decide) (fun c_4 => ?_) (fun c_4 => ?_)
    · have h := h.1 c_4
      refine lv_iconst (v := 0) X.1 X.2.1 dX5_mayBeExponent_18 (by decide) ?_
      exact B19 x1 0 S_2 _ (lv_sub hl [] rfl) h _ _ hP hS
    · have h := h.2 c_4
      refine lv_bipush (v := 30) X.1 X.2.1 dX5_mayBeExponent_13 (by decide) ?_
      refine lv_goto (tgt := 19) X.1 X.2.1 dX5_mayBeExponent_15 (by decide) ?_
      exact B19 x1 30 S_2 _ (lv_sub hl [] rfl) h _ _ hP hS

set_option maxHeartbeats 4000000 in
set_option maxRecDepth 100000 in
theorem c_X5_restOf (l : Launch) (G : Cx) (x1 : Int32) (S : St) (K : Int32 → St → Prop) (h : w_X5_restOf x1 S K) : q_Met l yX5_restOf cX5_restOf 2 (some .int) 1 22 G [.ref (G.1 + 1), .int x1] v_i S K := by
  refine q_enter (by decide +kernel) (Nat.le_of_ble_eq_true rfl) (fun p e s m args below meth c ls X hK hP hr hlocks hl => ?_)
  have hS : va_S (fr_ G) s.heap s.heap [] := va_S.rf
  have hl : lv_has ls 2 [(0, .ref (G.1 + 1)), (1, .int x1)] := hl
  refine lv_iload_n X.1 X.2.1 dX5_restOf_0 rfl (lv_at hl 1 rfl) ?_
  refine lv_aload_n X.1 X.2.1 dX5_restOf_1 rfl (lv_at hl 0 rfl) ?_
  refine gf_X5_p X hK hP tl_X5_32 dX5_restOf_2 ?_
  refine q_callS (rest := []) X hK hP hS (c_J9_floorMod_7cf53 l G x1 (S 1 0) S _ h) my_J9_floorMod_7cf53 tl_X5_42 dX5_restOf_5 rfl ⟨Nat.le_of_ble_eq_true rfl, Nat.le_of_ble_eq_true rfl⟩ hl.1 rfl (Nat.le_of_ble_eq_true rfl) ⟨Nat.le_of_ble_eq_true rfl, Nat.le_of_ble_eq_true rfl⟩ (fun r_2 S_1 H locs h hP hS => ?_)
  refine W.eq (g2 := F0 m 8 ls [.int r_2]) rfl ?_
  exact q_iret X hr hlocks hP hS rfl h dX5_restOf_8

set_option maxHeartbeats 4000000 in
set_option maxRecDepth 100000 in
theorem c_X5_power (l : Launch) (G : Cx) (x1 : Int32) (x2 : Int32) (S : St) (K : Int32 → St → Prop) (h : w_X5_power x1 x2 S K) : q_Met l yX5_power cX5_power 6 (some .int) 0 0 G [.ref (G.1 + 1), .int x1, .int x2] v_i S K := by
  refine q_enter (by decide +kernel) (Nat.le_of_ble_eq_true rfl) (fun p e s m args below meth c ls X hK hP hr hlocks hl => ?_)
  have hS : va_S (fr_ G) s.heap s.heap [] := va_S.rf
  have hl : lv_has ls 6 [(0, .ref (G.1 + 1)), (1, .int x1), (2, .int x2)] := hl
  have B31 : ∀ (x3 : Int32) (x4 : Int32) (x5 : Int32) (k8 : Int32 → Int32 → Int32 → St → Prop) (hk8 : ∀ (x3 : Int32) (x4 : Int32) (x5 : Int32) (S : St) (ls : Array Slot), lv_has ls 6 [(0, .ref (G.1 + 1)), (3, .int x3), (4, .int x4), (5, .int x5)] → k8 x3 x4 x5 S → q_W p l e (k2_rm 0 0) s m args below meth c 0 0 (MQ below (q_Qc G K v_i) args s 0 0 (fr_ G)) G 8 ls [] S) (S : St) (ls : Array Slot), lv_has ls 6 [(0, .ref (G.1 + 1)), (3, .int x3), (4, .int x4), (5, .int x5)] → w_X5_power_31 x1 x2 K k8 x3 x4 x5 S → q_W p l e (k2_rm 0 0) s m args below meth c 0 0 (MQ below (q_Qc G K v_i) args s 0 0 (fr_ G)) G 31 ls [] S := by
    intro x3 x4 x5 k8 hk8 S ls hl h H locs hP hS
    refine lv_iload X.1 X.2.1 dX5_power_31 (lv_at hl 2 rfl) ?_
    refine lv_iload X.1 X.2.1 dX5_power_33 (lv_at hl 2 rfl) ?_
    refine lv_imul X.1 X.2.1 dX5_power_35 ?_
    refine lv_aload_n X.1 X.2.1 dX5_power_36 rfl (lv_at hl 0 rfl) ?_
    refine gf_X5_p X hK hP tl_X5_32 dX5_power_37 ?_
    obtain ⟨o_1, h⟩ := h
    refine lv_irem X.1 X.2.1 dX5_power_40 o_1 ?_
    refine lv_topi (fun x4_2 e4_2 => ?_)
    have h := h x4_2 e4_2
    refine lv_istore (lv' := [(4, .int x4_2), (0, .ref (G.1 + 1)), (3, .int x3), (5, .int x5)]) X.1 X.2.1 dX5_power_41 hl (by decide) rfl (fun ls hl => ?_)
    refine lv_iload X.1 X.2.1 dX5_power_43 (lv_at hl 3 rfl) ?_
    refine lv_iconst (v := 1) X.1 X.2.1 dX5_power_45 (by decide) ?_
    refine lv_ishr X.1 X.2.1 dX5_power_46 ?_
    refine lv_topi (fun x5_3 e5_3 => ?_)
    have h := h x5_3 e5_3
    refine lv_istore (lv' := [(5, .int x5_3), (4, .int x4_2), (0, .ref (G.1 + 1)), (3, .int x3)]) X.1 X.2.1 dX5_power_47 hl (by decide) rfl (fun ls hl => ?_)
    refine lv_goto (tgt := 8) X.1 X.2.1 dX5_power_49 (by decide) ?_
    exact hk8 x3 x4_2 x5_3 S _ (lv_sub hl [2, 3, 1, 0] rfl) h _ _ hP hS
  have B8 : ∀ (f : Nat) (x3 : Int32) (x4 : Int32) (x5 : Int32) (S : St) (ls : Array Slot), lv_has ls 6 [(0, .ref (G.1 + 1)), (3, .int x3), (4, .int x4), (5, .int x5)] → q_it (fun _ _ _ _ => False) (w_X5_power_8 x1 x2 K) f x3 x4 x5 S → q_W p l e (k2_rm 0 0) s m args below meth c 0 0 (MQ below (q_Qc G K v_i) args s 0 0 (fr_ G)) G 8 ls [] S := by
    intro f
    induction f with
    | zero => intro x3 x4 x5 S ls hl h; exact False.elim h
    | succ f hk8 =>
      intro x3 x4 x5 S ls hl h H locs hP hS
      have h : w_X5_power_8 x1 x2 K (q_it (fun _ _ _ _ => False) (w_X5_power_8 x1 x2 K) f) x3 x4 x5 S := h
      generalize q_it (fun _ _ _ _ => False) (w_X5_power_8 x1 x2 K) f = k8 at h hk8
      refine lv_iload X.1 X.2.1 dX5_power_8 (lv_at hl 3 rfl) ?_
      refine lv_if_le (tgt := 52) X.1 X.2.1 dX5_power_10 (by decide) (fun c_1 => ?_) (fun c_1 => ?_)
      · have h := h.1 c_1
        refine lv_iload_n X.1 X.2.1 dX5_power_52 rfl (lv_at hl 1 rfl) ?_
        exact q_iret X hr hlocks hP hS rfl h dX5_power_53
      · have h := h.2 c_1
        refine lv_iload X.1 X.2.1 dX5_power_13 (lv_at hl 3 rfl) ?_
        refine lv_iconst (v := 1) X.1 X.2.1 dX5_power_15 (by decide) ?_
        refine lv_iand X.1 X.2.1 dX5_power_16 ?_
        refine lv_iconst (v := 1) X.1 X.2.1 dX5_power_17 (by decide) ?_
        refine lv_icmp_ne (tgt := 31) X.1 X.2.1 dX5_power_18 (by decide) (fun c_2 => ?_) (fun c_2 => ?_)
        · have h := h.1 c_2
          exact B31 x3 x4 x5 k8 hk8 S _ (lv_sub hl [0, 1, 2, 3] rfl) h _ _ hP hS
        · have h := h.2 c_2
          refine lv_iload_n X.1 X.2.1 dX5_power_21 rfl (lv_at hl 1 rfl) ?_
          refine lv_iload X.1 X.2.1 dX5_power_22 (lv_at hl 2 rfl) ?_
          refine lv_imul X.1 X.2.1 dX5_power_24 ?_
          refine lv_aload_n X.1 X.2.1 dX5_power_25 rfl (lv_at hl 0 rfl) ?_
          refine gf_X5_p X hK hP tl_X5_32 dX5_power_26 ?_
          obtain ⟨o_3, h⟩ := h
          refine lv_irem X.1 X.2.1 dX5_power_29 o_3 ?_
          refine lv_topi (fun x3_4 e3_4 => ?_)
          have h := h x3_4 e3_4
          refine lv_istore_n (lv' := [(3, .int x3_4), (0, .ref (G.1 + 1)), (4, .int x4), (5, .int x5)]) X.1 X.2.1 dX5_power_30 rfl hl (by decide) rfl (fun ls hl => ?_)
          exact B31 x3_4 x4 x5 k8 hk8 S _ (lv_sub hl [1, 0, 2, 3] rfl) h _ _ hP hS
  refine lv_iconst (v := 1) X.1 X.2.1 dX5_power_0 (by decide) ?_
  refine lv_istore_n (lv' := [(3, .int 1), (0, .ref (G.1 + 1)), (1, .int x1), (2, .int x2)]) X.1 X.2.1 dX5_power_1 rfl hl (by decide) rfl (fun ls hl => ?_)
  refine lv_iload_n X.1 X.2.1 dX5_power_2 rfl (lv_at hl 2 rfl) ?_
  refine lv_istore (lv' := [(4, .int x1), (3, .int 1), (0, .ref (G.1 + 1)), (1, .int x1), (2, .int x2)]) X.1 X.2.1 dX5_power_3 hl (by decide) rfl (fun ls hl => ?_)
  refine lv_iload_n X.1 X.2.1 dX5_power_5 rfl (lv_at hl 4 rfl) ?_
  refine lv_istore (lv' := [(5, .int x2), (4, .int x1), (3, .int 1), (0, .ref (G.1 + 1)), (1, .int x1), (2, .int x2)]) X.1 X.2.1 dX5_power_6 hl (by decide) rfl (fun ls hl => ?_)
  obtain ⟨f_1, h⟩ := h
  exact B8 f_1 1 x1 x2 S _ (lv_sub hl [3, 2, 1, 0] rfl) h _ _ hP hS

set_option maxHeartbeats 4000000 in
set_option maxRecDepth 100000 in
theorem c_X5_inverse (l : Launch) (G : Cx) (x1 : Int32) (S : St) (K : Int32 → St → Prop) (h : w_X5_inverse x1 S K) : q_Met l yX5_inverse cX5_inverse 2 (some .int) 1 25 G [.ref (G.1 + 1), .int x1] v_i S K := by
  refine q_enter (by decide +kernel) (Nat.le_of_ble_eq_true rfl) (fun p e s m args below meth c ls X hK hP hr hlocks hl => ?_)
  have hS : va_S (fr_ G) s.heap s.heap [] := va_S.rf
  have hl : lv_has ls 2 [(0, .ref (G.1 + 1)), (1, .int x1)] := hl
  refine lv_aload_n X.1 X.2.1 dX5_inverse_0 rfl (lv_at hl 0 rfl) ?_
  refine lv_iload_n X.1 X.2.1 dX5_inverse_1 rfl (lv_at hl 1 rfl) ?_
  refine lv_aload_n X.1 X.2.1 dX5_inverse_2 rfl (lv_at hl 0 rfl) ?_
  refine gf_X5_p X hK hP tl_X5_32 dX5_inverse_3 ?_
  refine lv_iconst (v := 2) X.1 X.2.1 dX5_inverse_6 (by decide) ?_
  refine lv_isub X.1 X.2.1 dX5_inverse_7 ?_
  refine q_callV (rest := []) (b := 1) X hK hP hS (c_X5_power l G x1 ((S 1 0) - 2) S _ h) my_X5_power tl_X5_48 dX5_inverse_8 kz_1 rfl rfl rfl ⟨Nat.le_of_ble_eq_true rfl, Nat.le_of_ble_eq_true rfl⟩ hl.1 rfl (Nat.le_of_ble_eq_true rfl) ⟨Nat.le_of_ble_eq_true rfl, Nat.le_of_ble_eq_true rfl⟩ (fun r_2 S_1 H locs h hP hS => ?_)
  refine W.eq (g2 := F0 m 11 ls [.int r_2]) rfl ?_
  exact q_iret X hr hlocks hP hS rfl h dX5_inverse_11

set_option maxHeartbeats 4000000 in
set_option maxRecDepth 100000 in
theorem c_X5_rank (l : Launch) (G : Cx) (x1 : Int32) (S : St) (K : Int32 → St → Prop) (h : w_X5_rank x1 S K) : q_Met l yX5_rank cX5_rank 8 (some .int) 0 0 G [.ref (G.1 + 1), .int x1] v_i S K := by
  refine q_enter (by decide +kernel) (Nat.le_of_ble_eq_true rfl) (fun p e s m args below meth c ls X hK hP hr hlocks hl => ?_)
  have hS : va_S (fr_ G) s.heap s.heap [] := va_S.rf
  have hl : lv_has ls 8 [(0, .ref (G.1 + 1)), (1, .int x1)] := hl
  refine lv_iload_n X.1 X.2.1 dX5_rank_0 rfl (lv_at hl 1 rfl) ?_
  refine lv_sipush (v := 255) X.1 X.2.1 dX5_rank_1 (by decide) ?_
  refine lv_iand X.1 X.2.1 dX5_rank_4 ?_
  refine lv_topi (fun x2_1 e2_1 => ?_)
  have h := h x2_1 e2_1
  refine lv_istore_n (lv' := [(2, .int x2_1), (0, .ref (G.1 + 1)), (1, .int x1)]) X.1 X.2.1 dX5_rank_5 rfl hl (by decide) rfl (fun ls hl => ?_)
  refine lv_iload_n X.1 X.2.1 dX5_rank_6 rfl (lv_at hl 2 rfl) ?_
  refine lv_bipush (v := 8) X.1 X.2.1 dX5_rank_7 (by decide) ?_
  refine lv_iushr X.1 X.2.1 dX5_rank_9 rfl ?_
  refine lv_sipush (v := 255) X.1 X.2.1 dX5_rank_10 (by decide) ?_
  refine lv_iand X.1 X.2.1 dX5_rank_13 ?_
  refine lv_topi (fun x3_2 e3_2 => ?_)
  have h := h x3_2 e3_2
  refine lv_istore_n (lv' := [(3, .int x3_2), (2, .int x2_1), (0, .ref (G.1 + 1)), (1, .int x1)]) X.1 X.2.1 dX5_rank_14 rfl hl (by decide) rfl (fun ls hl => ?_)
  refine lv_iload_n X.1 X.2.1 dX5_rank_15 rfl (lv_at hl 3 rfl) ?_
  refine lv_bipush (v := 16) X.1 X.2.1 dX5_rank_16 (by decide) ?_
  refine lv_iushr X.1 X.2.1 dX5_rank_18 rfl ?_
  refine lv_sipush (v := 255) X.1 X.2.1 dX5_rank_19 (by decide) ?_
  refine lv_iand X.1 X.2.1 dX5_rank_22 ?_
  refine lv_topi (fun x4_3 e4_3 => ?_)
  have h := h x4_3 e4_3
  refine lv_istore (lv' := [(4, .int x4_3), (3, .int x3_2), (2, .int x2_1), (0, .ref (G.1 + 1)), (1, .int x1)]) X.1 X.2.1 dX5_rank_23 hl (by decide) rfl (fun ls hl => ?_)
  refine lv_iload_n X.1 X.2.1 dX5_rank_25 rfl (lv_at hl 4 rfl) ?_
  refine lv_bipush (v := 24) X.1 X.2.1 dX5_rank_26 (by decide) ?_
  refine lv_iushr X.1 X.2.1 dX5_rank_28 rfl ?_
  refine lv_topi (fun x5_4 e5_4 => ?_)
  have h := h x5_4 e5_4
  refine lv_istore (lv' := [(5, .int x5_4), (4, .int x4_3), (3, .int x3_2), (2, .int x2_1), (0, .ref (G.1 + 1)), (1, .int x1)]) X.1 X.2.1 dX5_rank_29 hl (by decide) rfl (fun ls hl => ?_)
  refine lv_iload_n X.1 X.2.1 dX5_rank_31 rfl (lv_at hl 3 rfl) ?_
  refine lv_iload_n X.1 X.2.1 dX5_rank_32 rfl (lv_at hl 2 rfl) ?_
  refine lv_iadd X.1 X.2.1 dX5_rank_33 ?_
  refine lv_iload X.1 X.2.1 dX5_rank_34 (lv_at hl 1 rfl) ?_
  refine lv_iadd X.1 X.2.1 dX5_rank_36 ?_
  refine lv_iload X.1 X.2.1 dX5_rank_37 (lv_at hl 0 rfl) ?_
  refine lv_iadd X.1 X.2.1 dX5_rank_39 ?_
  refine lv_bipush (v := 20) X.1 X.2.1 dX5_rank_40 (by decide) ?_
  refine lv_ishl X.1 X.2.1 dX5_rank_42 ?_
  refine lv_topi (fun x6_5 e6_5 => ?_)
  have h := h x6_5 e6_5
  refine lv_istore (lv' := [(6, .int x6_5), (5, .int x5_4), (4, .int x4_3), (3, .int x3_2), (2, .int x2_1), (0, .ref (G.1 + 1)), (1, .int x1)]) X.1 X.2.1 dX5_rank_43 hl (by decide) rfl (fun ls hl => ?_)
  refine lv_iload_n X.1 X.2.1 dX5_rank_45 rfl (lv_at hl 4 rfl) ?_
  refine lv_bipush (v := 15) X.1 X.2.1 dX5_rank_46 (by decide) ?_
  refine lv_ishl X.1 X.2.1 dX5_rank_48 ?_
  refine lv_iload_n X.1 X.2.1 dX5_rank_49 rfl (lv_at hl 3 rfl) ?_
  refine lv_bipush (v := 10) X.1 X.2.1 dX5_rank_50 (by decide) ?_
  refine lv_ishl X.1 X.2.1 dX5_rank_52 ?_
  refine lv_ior X.1 X.2.1 dX5_rank_53 ?_
  refine lv_iload X.1 X.2.1 dX5_rank_54 (lv_at hl 2 rfl) ?_
  refine lv_iconst (v := 5) X.1 X.2.1 dX5_rank_56 (by decide) ?_
  refine lv_ishl X.1 X.2.1 dX5_rank_57 ?_
  refine lv_ior X.1 X.2.1 dX5_rank_58 ?_
  refine lv_iload X.1 X.2.1 dX5_rank_59 (lv_at hl 1 rfl) ?_
  refine lv_ior X.1 X.2.1 dX5_rank_61 ?_
  refine lv_topi (fun x7_6 e7_6 => ?_)
  have h := h x7_6 e7_6
  refine lv_istore (lv' := [(7, .int x7_6), (6, .int x6_5), (5, .int x5_4), (4, .int x4_3), (3, .int x3_2), (2, .int x2_1), (0, .ref (G.1 + 1)), (1, .int x1)]) X.1 X.2.1 dX5_rank_62 hl (by decide) rfl (fun ls hl => ?_)
  refine lv_aload_n X.1 X.2.1 dX5_rank_64 rfl (lv_at hl 6 rfl) ?_
  refine gf_X5_order X hK hP tl_X5_9 dX5_rank_65 ?_
  by_cases c_7 : (S 1 2).toInt < 0 ∨ 2 < (S 1 2).toInt
  · have h := h.1 c_7
    refine lv_tableOut (tgt := 138) X.1 X.2.1 dX5_rank_68 c_7 (by decide) ?_
    refine lv_iload_n X.1 X.2.1 dX5_rank_138 rfl (lv_at hl 5 rfl) ?_
    refine lv_iload_n X.1 X.2.1 dX5_rank_139 rfl (lv_at hl 4 rfl) ?_
    refine lv_iadd X.1 X.2.1 dX5_rank_140 ?_
    refine lv_bipush (v := 16) X.1 X.2.1 dX5_rank_141 (by decide) ?_
    refine lv_ishl X.1 X.2.1 dX5_rank_143 ?_
    refine lv_bipush (v := 31) X.1 X.2.1 dX5_rank_144 (by decide) ?_
    refine lv_iload_n X.1 X.2.1 dX5_rank_146 rfl (lv_at hl 4 rfl) ?_
    refine lv_isub X.1 X.2.1 dX5_rank_147 ?_
    refine lv_bipush (v := 11) X.1 X.2.1 dX5_rank_148 (by decide) ?_
    refine lv_ishl X.1 X.2.1 dX5_rank_150 ?_
    refine lv_ior X.1 X.2.1 dX5_rank_151 ?_
    refine lv_iload X.1 X.2.1 dX5_rank_152 (lv_at hl 3 rfl) ?_
    refine lv_iload X.1 X.2.1 dX5_rank_154 (lv_at hl 2 rfl) ?_
    refine lv_iadd X.1 X.2.1 dX5_rank_156 ?_
    refine lv_iconst (v := 5) X.1 X.2.1 dX5_rank_157 (by decide) ?_
    refine lv_ishl X.1 X.2.1 dX5_rank_158 ?_
    refine lv_ior X.1 X.2.1 dX5_rank_159 ?_
    refine lv_bipush (v := 31) X.1 X.2.1 dX5_rank_160 (by decide) ?_
    refine lv_iload X.1 X.2.1 dX5_rank_162 (lv_at hl 2 rfl) ?_
    refine lv_isub X.1 X.2.1 dX5_rank_164 ?_
    refine lv_ior X.1 X.2.1 dX5_rank_165 ?_
    exact q_iret X hr hlocks hP hS rfl h dX5_rank_166
  · have h := h.2
    rcases q_sw2 c_7 with c_7 | c_7 | c_7
    · have h := h.1 c_7
      refine lv_tableIn (off := 28) (tgt := 96) X.1 X.2.1 dX5_rank_68 (by rw [c_7]; decide) (by rw [c_7]; decide) (by rw [c_7]; rfl) (by decide) ?_
      refine lv_iload X.1 X.2.1 dX5_rank_96 (lv_at hl 0 rfl) ?_
      exact q_iret X hr hlocks hP hS rfl h dX5_rank_98
    · have h := h.2.1 c_7
      refine lv_tableIn (off := 31) (tgt := 99) X.1 X.2.1 dX5_rank_68 (by rw [c_7]; decide) (by rw [c_7]; decide) (by rw [c_7]; rfl) (by decide) ?_
      refine lv_iload X.1 X.2.1 dX5_rank_99 (lv_at hl 1 rfl) ?_
      refine lv_iload X.1 X.2.1 dX5_rank_101 (lv_at hl 0 rfl) ?_
      refine lv_ior X.1 X.2.1 dX5_rank_103 ?_
      exact q_iret X hr hlocks hP hS rfl h dX5_rank_104
    · have h := h.2.2 c_7
      refine lv_tableIn (off := 37) (tgt := 105) X.1 X.2.1 dX5_rank_68 (by rw [c_7]; decide) (by rw [c_7]; decide) (by rw [c_7]; rfl) (by decide) ?_
      refine lv_iload X.1 X.2.1 dX5_rank_105 (lv_at hl 1 rfl) ?_
      refine lv_bipush (v := 31) X.1 X.2.1 dX5_rank_107 (by decide) ?_
      refine lv_iload X.1 X.2.1 dX5_rank_109 (lv_at hl 2 rfl) ?_
      refine lv_isub X.1 X.2.1 dX5_rank_111 ?_
      refine lv_bipush (v := 15) X.1 X.2.1 dX5_rank_112 (by decide) ?_
      refine lv_ishl X.1 X.2.1 dX5_rank_114 ?_
      refine lv_ior X.1 X.2.1 dX5_rank_115 ?_
      refine lv_bipush (v := 31) X.1 X.2.1 dX5_rank_116 (by decide) ?_
      refine lv_iload X.1 X.2.1 dX5_rank_118 (lv_at hl 3 rfl) ?_
      refine lv_isub X.1 X.2.1 dX5_rank_120 ?_
      refine lv_bipush (v := 10) X.1 X.2.1 dX5_rank_121 (by decide) ?_
      refine lv_ishl X.1 X.2.1 dX5_rank_123 ?_
      refine lv_ior X.1 X.2.1 dX5_rank_124 ?_
      refine lv_bipush (v := 31) X.1 X.2.1 dX5_rank_125 (by decide) ?_
      refine lv_iload_n X.1 X.2.1 dX5_rank_127 rfl (lv_at hl 4 rfl) ?_
      refine lv_isub X.1 X.2.1 dX5_rank_128 ?_
      refine lv_iconst (v := 5) X.1 X.2.1 dX5_rank_129 (by decide) ?_
      refine lv_ishl X.1 X.2.1 dX5_rank_130 ?_
      refine lv_ior X.1 X.2.1 dX5_rank_131 ?_
      refine lv_bipush (v := 31) X.1 X.2.1 dX5_rank_132 (by decide) ?_
      refine lv_iload_n X.1 X.2.1 dX5_rank_134 rfl (lv_at hl 5 rfl) ?_
      refine lv_isub X.1 X.2.1 dX5_rank_135 ?_
      refine lv_ior X.1 X.2.1 dX5_rank_136 ?_
      exact q_iret X hr hlocks hP hS rfl h dX5_rank_137

set_option maxHeartbeats 4000000 in
set_option maxRecDepth 100000 in
theorem c_X5_sortTerms (l : Launch) (G : Cx) (q1 : Nat) (S : St) (K : Unit → St → Prop) (hq1 : isP q1) (h : w_X5_sortTerms q1 S K) : q_Met l yX5_sortTerms cX5_sortTerms 6 none 1 27 G [.ref (G.1 + 1), .ref (G.1 + q1)] v_v S K := by
  refine q_enter (by decide +kernel) (Nat.le_of_ble_eq_true rfl) (fun p e s m args below meth c ls X hK hP hr hlocks hl => ?_)
  have hS : va_S (fr_ G) s.heap s.heap [] := va_S.rf
  have hl : lv_has ls 6 [(0, .ref (G.1 + 1)), (1, .ref (G.1 + q1))] := hl
  have B93 : ∀ (x2 : Int32) (x3 : Int32) (x4 : Int32) (x5 : Int32) (k2 : Int32 → St → Prop) (hk2 : ∀ (x2 : Int32) (S : St) (ls : Array Slot), lv_has ls 6 [(0, .ref (G.1 + 1)), (1, .ref (G.1 + q1)), (2, .int x2)] → k2 x2 S → q_W p l e (k2_rm 1 27) s m args below meth c 0 0 (MQ below (q_Qc G K v_v) args s 0 0 (fr_ G)) G 2 ls [] S) (S : St) (ls : Array Slot), lv_has ls 6 [(0, .ref (G.1 + 1)), (1, .ref (G.1 + q1)), (2, .int x2), (3, .int x3), (4, .int x4), (5, .int x5)] → w_X5_sortTerms_93 q1 K k2 x2 x3 x4 x5 S → q_W p l e (k2_rm 1 27) s m args below meth c 0 0 (MQ below (q_Qc G K v_v) args s 0 0 (fr_ G)) G 93 ls [] S := by
    intro x2 x3 x4 x5 k2 hk2 S ls hl h H locs hP hS
    refine lv_aload_n X.1 X.2.1 dX5_sortTerms_93 rfl (lv_at hl 1 rfl) ?_
    refine gf_X3_numbers X hK hP hq1 tl_X5_54 dX5_sortTerms_94 ?_
    refine lv_iload X.1 X.2.1 dX5_sortTerms_97 (lv_at hl 5 rfl) ?_
    refine lv_iload_n X.1 X.2.1 dX5_sortTerms_99 rfl (lv_at hl 3 rfl) ?_
    obtain ⟨o_1, h⟩ := h
    refine q_iast X hK hP hS (isP_1 hq1) o_1 dX5_sortTerms_100 (fun S_2 H locs eS_2 hP hS => ?_)
    have h := h S_2 eS_2
    refine lv_aload_n X.1 X.2.1 dX5_sortTerms_101 rfl (lv_at hl 1 rfl) ?_
    refine gf_X3_monos X hK hP hq1 tl_X5_57 dX5_sortTerms_102 ?_
    refine lv_iload X.1 X.2.1 dX5_sortTerms_105 (lv_at hl 5 rfl) ?_
    refine lv_iload X.1 X.2.1 dX5_sortTerms_107 (lv_at hl 4 rfl) ?_
    refine q_iast X hK hP hS (isP_2 hq1) o_1 dX5_sortTerms_109 (fun S_3 H locs eS_3 hP hS => ?_)
    have h := h S_3 eS_3
    obtain ⟨x2_4, e2_4⟩ : ∃ y : Int32, y = x2 + 1 := ⟨_, rfl⟩
    have h := h x2_4 e2_4
    refine lv_iinc (v := x2_4) (lv' := [(2, .int x2_4), (0, .ref (G.1 + 1)), (1, .ref (G.1 + q1)), (3, .int x3), (4, .int x4), (5, .int x5)]) X.1 X.2.1 dX5_sortTerms_110 hl (k := 2) rfl (by rw [e2_4]; first | rfl | decide) (by decide) rfl (fun ls hl => ?_)
    refine lv_goto (tgt := 2) X.1 X.2.1 dX5_sortTerms_113 (by decide) ?_
    exact hk2 x2_4 S_3 _ (lv_sub hl [1, 2, 0] rfl) h _ _ hP hS
  have B28 : ∀ (x2 : Int32) (x3 : Int32) (x4 : Int32) (k2 : Int32 → St → Prop) (hk2 : ∀ (x2 : Int32) (S : St) (ls : Array Slot), lv_has ls 6 [(0, .ref (G.1 + 1)), (1, .ref (G.1 + q1)), (2, .int x2)] → k2 x2 S → q_W p l e (k2_rm 1 27) s m args below meth c 0 0 (MQ below (q_Qc G K v_v) args s 0 0 (fr_ G)) G 2 ls [] S) (f : Nat) (x5 : Int32) (S : St) (ls : Array Slot), lv_has ls 6 [(0, .ref (G.1 + 1)), (1, .ref (G.1 + q1)), (2, .int x2), (3, .int x3), (4, .int x4), (5, .int x5)] → q_it (fun _ _ => False) (w_X5_sortTerms_28 q1 K k2 x2 x3 x4) f x5 S → q_W p l e (k2_rm 1 27) s m args below meth c 0 0 (MQ below (q_Qc G K v_v) args s 0 0 (fr_ G)) G 28 ls [] S := by
    intro x2 x3 x4 k2 hk2 f
    induction f with
    | zero => intro x5 S ls hl h; exact False.elim h
    | succ f hk28 =>
      intro x5 S ls hl h H locs hP hS
      have h : w_X5_sortTerms_28 q1 K k2 x2 x3 x4 (q_it (fun _ _ => False) (w_X5_sortTerms_28 q1 K k2 x2 x3 x4) f) x5 S := h
      generalize q_it (fun _ _ => False) (w_X5_sortTerms_28 q1 K k2 x2 x3 x4) f = k28 at h hk28
      refine lv_iload X.1 X.2.1 dX5_sortTerms_28 (lv_at hl 5 rfl) ?_
      refine lv_if_le (tgt := 93) X.1 X.2.1 dX5_sortTerms_30 (by decide) (fun c_1 => ?_) (fun c_1 => ?_)
      · have h := h.1 c_1
        exact B93 x2 x3 x4 x5 k2 hk2 S _ (lv_sub hl [0, 1, 2, 3, 4, 5] rfl) h _ _ hP hS
      · have h := h.2 c_1
        refine lv_aload_n X.1 X.2.1 dX5_sortTerms_33 rfl (lv_at hl 0 rfl) ?_
        refine lv_aload_n X.1 X.2.1 dX5_sortTerms_34 rfl (lv_at hl 1 rfl) ?_
        refine gf_X3_monos X hK hP hq1 tl_X5_57 dX5_sortTerms_35 ?_
        refine lv_iload X.1 X.2.1 dX5_sortTerms_38 (lv_at hl 5 rfl) ?_
        refine lv_iconst (v := 1) X.1 X.2.1 dX5_sortTerms_40 (by decide) ?_
        refine lv_isub X.1 X.2.1 dX5_sortTerms_41 ?_
        obtain ⟨o_2, h⟩ := h
        refine q_iald X hK hP (isP_2 hq1) o_2 dX5_sortTerms_42 ?_
        refine q_callV (rest := []) (b := 1) X hK hP hS (c_X5_rank l G (S (q1 + 2) (q_rf (x5 - 1))) S _ h) my_X5_rank tl_X5_60 dX5_sortTerms_43 kz_1 rfl rfl rfl ⟨Nat.le_of_ble_eq_true rfl, Nat.le_of_ble_eq_true rfl⟩ hl.1 rfl (Nat.le_of_ble_eq_true rfl) ⟨Nat.le_of_ble_eq_true rfl, Nat.le_of_ble_eq_true rfl⟩ (fun r_4 S_3 H locs h hP hS => ?_)
        refine W.eq (g2 := F0 m 46 ls [.int r_4]) rfl ?_
        refine lv_aload_n X.1 X.2.1 dX5_sortTerms_46 rfl (lv_at hl 0 rfl) ?_
        refine lv_iload X.1 X.2.1 dX5_sortTerms_47 (lv_at hl 4 rfl) ?_
        refine q_callV (rest := [.int r_4]) (b := 1) X hK hP hS (c_X5_rank l G x4 S_3 _ h) my_X5_rank tl_X5_60 dX5_sortTerms_49 kz_1 rfl rfl rfl ⟨Nat.le_of_ble_eq_true rfl, Nat.le_of_ble_eq_true rfl⟩ hl.1 rfl (Nat.le_of_ble_eq_true rfl) ⟨Nat.le_of_ble_eq_true rfl, Nat.le_of_ble_eq_true rfl⟩ (fun r_6 S_5 H locs h hP hS => ?_)
        refine W.eq (g2 := F0 m 52 ls [.int r_6, .int r_4]) rfl ?_
        refine lv_icmp_ge (tgt := 93) X.1 X.2.1 dX5_sortTerms_52 (by decide) (fun c_7 => ?_) (fun c_7 => ?_)
        · have h := h.1 c_7
          exact B93 x2 x3 x4 x5 k2 hk2 S_5 _ (lv_sub hl [0, 1, 2, 3, 4, 5] rfl) h _ _ hP hS
        · have h := h.2 c_7
          refine lv_aload_n X.1 X.2.1 dX5_sortTerms_55 rfl (lv_at hl 1 rfl) ?_
          refine gf_X3_numbers X hK hP hq1 tl_X5_54 dX5_sortTerms_56 ?_
          refine lv_iload X.1 X.2.1 dX5_sortTerms_59 (lv_at hl 5 rfl) ?_
          refine lv_aload_n X.1 X.2.1 dX5_sortTerms_61 rfl (lv_at hl 1 rfl) ?_
          refine gf_X3_numbers X hK hP hq1 tl_X5_54 dX5_sortTerms_62 ?_
          refine lv_iload X.1 X.2.1 dX5_sortTerms_65 (lv_at hl 5 rfl) ?_
          refine lv_iconst (v := 1) X.1 X.2.1 dX5_sortTerms_67 (by decide) ?_
          refine lv_isub X.1 X.2.1 dX5_sortTerms_68 ?_
          refine q_iald X hK hP (isP_1 hq1) o_2 dX5_sortTerms_69 ?_
          obtain ⟨o_8, h⟩ := h
          refine q_iast X hK hP hS (isP_1 hq1) o_8 dX5_sortTerms_70 (fun S_9 H locs eS_9 hP hS => ?_)
          have h := h S_9 eS_9
          refine lv_aload_n X.1 X.2.1 dX5_sortTerms_71 rfl (lv_at hl 1 rfl) ?_
          refine gf_X3_monos X hK hP hq1 tl_X5_57 dX5_sortTerms_72 ?_
          refine lv_iload X.1 X.2.1 dX5_sortTerms_75 (lv_at hl 5 rfl) ?_
          refine lv_aload_n X.1 X.2.1 dX5_sortTerms_77 rfl (lv_at hl 1 rfl) ?_
          refine gf_X3_monos X hK hP hq1 tl_X5_57 dX5_sortTerms_78 ?_
          refine lv_iload X.1 X.2.1 dX5_sortTerms_81 (lv_at hl 5 rfl) ?_
          refine lv_iconst (v := 1) X.1 X.2.1 dX5_sortTerms_83 (by decide) ?_
          refine lv_isub X.1 X.2.1 dX5_sortTerms_84 ?_
          refine q_iald X hK hP (isP_2 hq1) o_2 dX5_sortTerms_85 ?_
          refine q_iast X hK hP hS (isP_2 hq1) o_8 dX5_sortTerms_86 (fun S_10 H locs eS_10 hP hS => ?_)
          have h := h S_10 eS_10
          obtain ⟨x5_11, e5_11⟩ : ∃ y : Int32, y = x5 + (-1) := ⟨_, rfl⟩
          have h := h x5_11 e5_11
          refine lv_iinc (v := x5_11) (lv' := [(5, .int x5_11), (0, .ref (G.1 + 1)), (1, .ref (G.1 + q1)), (2, .int x2), (3, .int x3), (4, .int x4)]) X.1 X.2.1 dX5_sortTerms_87 hl (k := 5) rfl (by rw [e5_11]; first | rfl | decide) (by decide) rfl (fun ls hl => ?_)
          refine lv_goto (tgt := 28) X.1 X.2.1 dX5_sortTerms_90 (by decide) ?_
          exact hk28 x5_11 S_10 _ (lv_sub hl [1, 2, 3, 4, 5, 0] rfl) h _ _ hP hS
  have B2 : ∀ (f : Nat) (x2 : Int32) (S : St) (ls : Array Slot), lv_has ls 6 [(0, .ref (G.1 + 1)), (1, .ref (G.1 + q1)), (2, .int x2)] → q_it (fun _ _ => False) (w_X5_sortTerms_2 q1 K) f x2 S → q_W p l e (k2_rm 1 27) s m args below meth c 0 0 (MQ below (q_Qc G K v_v) args s 0 0 (fr_ G)) G 2 ls [] S := by
    intro f
    induction f with
    | zero => intro x2 S ls hl h; exact False.elim h
    | succ f hk2 =>
      intro x2 S ls hl h H locs hP hS
      have h : w_X5_sortTerms_2 q1 K (q_it (fun _ _ => False) (w_X5_sortTerms_2 q1 K) f) x2 S := h
      generalize q_it (fun _ _ => False) (w_X5_sortTerms_2 q1 K) f = k2 at h hk2
      refine lv_iload_n X.1 X.2.1 dX5_sortTerms_2 rfl (lv_at hl 2 rfl) ?_
      refine lv_aload_n X.1 X.2.1 dX5_sortTerms_3 rfl (lv_at hl 1 rfl) ?_
      refine gf_X3_size X hK hP hq1 tl_X5_51 dX5_sortTerms_4 ?_
      refine lv_icmp_ge (tgt := 116) X.1 X.2.1 dX5_sortTerms_7 (by decide) (fun c_1 => ?_) (fun c_1 => ?_)
      · have h := h.1 c_1
        exact q_vret X hr hlocks hP hS h dX5_sortTerms_116
      · have h := h.2 c_1
        refine lv_aload_n X.1 X.2.1 dX5_sortTerms_10 rfl (lv_at hl 1 rfl) ?_
        refine gf_X3_numbers X hK hP hq1 tl_X5_54 dX5_sortTerms_11 ?_
        refine lv_iload_n X.1 X.2.1 dX5_sortTerms_14 rfl (lv_at hl 2 rfl) ?_
        obtain ⟨o_2, h⟩ := h
        refine q_iald X hK hP (isP_1 hq1) o_2 dX5_sortTerms_15 ?_
        refine lv_topi (fun x3_3 e3_3 => ?_)
        have h := h x3_3 e3_3
        refine lv_istore_n (lv' := [(3, .int x3_3), (0, .ref (G.1 + 1)), (1, .ref (G.1 + q1)), (2, .int x2)]) X.1 X.2.1 dX5_sortTerms_16 rfl hl (by decide) rfl (fun ls hl => ?_)
        refine lv_aload_n X.1 X.2.1 dX5_sortTerms_17 rfl (lv_at hl 2 rfl) ?_
        refine gf_X3_monos X hK hP hq1 tl_X5_57 dX5_sortTerms_18 ?_
        refine lv_iload_n X.1 X.2.1 dX5_sortTerms_21 rfl (lv_at hl 3 rfl) ?_
        refine q_iald X hK hP (isP_2 hq1) o_2 dX5_sortTerms_22 ?_
        refine lv_topi (fun x4_4 e4_4 => ?_)
        have h := h x4_4 e4_4
        refine lv_istore (lv' := [(4, .int x4_4), (3, .int x3_3), (0, .ref (G.1 + 1)), (1, .ref (G.1 + q1)), (2, .int x2)]) X.1 X.2.1 dX5_sortTerms_23 hl (by decide) rfl (fun ls hl => ?_)
        refine lv_iload_n X.1 X.2.1 dX5_sortTerms_25 rfl (lv_at hl 4 rfl) ?_
        refine lv_istore (lv' := [(5, .int x2), (4, .int x4_4), (3, .int x3_3), (0, .ref (G.1 + 1)), (1, .ref (G.1 + q1)), (2, .int x2)]) X.1 X.2.1 dX5_sortTerms_26 hl (by decide) rfl (fun ls hl => ?_)
        obtain ⟨f_5, h⟩ := h
        exact B28 x2 x3_3 x4_4 k2 hk2 f_5 x2 S _ (lv_sub hl [3, 4, 5, 2, 1, 0] rfl) h _ _ hP hS
  refine lv_iconst (v := 1) X.1 X.2.1 dX5_sortTerms_0 (by decide) ?_
  refine lv_istore_n (lv' := [(2, .int 1), (0, .ref (G.1 + 1)), (1, .ref (G.1 + q1))]) X.1 X.2.1 dX5_sortTerms_1 rfl hl (by decide) rfl (fun ls hl => ?_)
  obtain ⟨f_1, h⟩ := h
  exact B2 f_1 1 S _ (lv_sub hl [1, 2, 0] rfl) h _ _ hP hS

set_option maxHeartbeats 4000000 in
set_option maxRecDepth 100000 in
theorem c_X5_comparePolys (l : Launch) (G : Cx) (q1 : Nat) (q2 : Nat) (S : St) (K : Int32 → St → Prop) (hq1 : isP q1) (hq2 : isP q2) (h : w_X5_comparePolys q1 q2 S K) : q_Met l yX5_comparePolys cX5_comparePolys 5 (some .int) 1 27 G [.ref (G.1 + 1), .ref (G.1 + q1), .ref (G.1 + q2)] v_i S K := by
  refine q_enter (by decide +kernel) (Nat.le_of_ble_eq_true rfl) (fun p e s m args below meth c ls X hK hP hr hlocks hl => ?_)
  have hS : va_S (fr_ G) s.heap s.heap [] := va_S.rf
  have hl : lv_has ls 5 [(0, .ref (G.1 + 1)), (1, .ref (G.1 + q1)), (2, .ref (G.1 + q2))] := hl
  have B15 : ∀ (x3 : Int32) (f : Nat) (x4 : Int32) (S : St) (ls : Array Slot), lv_has ls 5 [(0, .ref (G.1 + 1)), (1, .ref (G.1 + q1)), (2, .ref (G.1 + q2)), (3, .int x3), (4, .int x4)] → q_it (fun _ _ => False) (w_X5_comparePolys_15 q1 q2 K x3) f x4 S → q_W p l e (k2_rm 1 27) s m args below meth c 0 0 (MQ below (q_Qc G K v_i) args s 0 0 (fr_ G)) G 15 ls [] S := by
    intro x3 f
    induction f with
    | zero => intro x4 S ls hl h; exact False.elim h
    | succ f hk15 =>
      intro x4 S ls hl h H locs hP hS
      have h : w_X5_comparePolys_15 q1 q2 K x3 (q_it (fun _ _ => False) (w_X5_comparePolys_15 q1 q2 K x3) f) x4 S := h
      generalize q_it (fun _ _ => False) (w_X5_comparePolys_15 q1 q2 K x3) f = k15 at h hk15
      refine lv_iload X.1 X.2.1 dX5_comparePolys_15 (lv_at hl 4 rfl) ?_
      refine lv_iload_n X.1 X.2.1 dX5_comparePolys_17 rfl (lv_at hl 3 rfl) ?_
      refine lv_icmp_ge (tgt := 105) X.1 X.2.1 dX5_comparePolys_18 (by decide) (fun c_1 => ?_) (fun c_1 => ?_)
      · have h := h.1 c_1
        refine lv_aload_n X.1 X.2.1 dX5_comparePolys_105 rfl (lv_at hl 1 rfl) ?_
        refine gf_X3_size X hK hP hq1 tl_X5_51 dX5_comparePolys_106 ?_
        refine lv_aload_n X.1 X.2.1 dX5_comparePolys_109 rfl (lv_at hl 2 rfl) ?_
        refine gf_X3_size X hK hP hq2 tl_X5_51 dX5_comparePolys_110 ?_
        refine q_callS (rest := []) X hK hP hS (c_J6_compare_7cf53 l G (S q1 2) (S q2 2) S _ h) my_J6_compare_7cf53 tl_X5_67 dX5_comparePolys_113 rfl ⟨Nat.le_of_ble_eq_true rfl, Nat.le_of_ble_eq_true rfl⟩ hl.1 rfl (Nat.le_of_ble_eq_true rfl) ⟨Nat.le_of_ble_eq_true rfl, Nat.le_of_ble_eq_true rfl⟩ (fun r_3 S_2 H locs h hP hS => ?_)
        refine W.eq (g2 := F0 m 116 ls [.int r_3]) rfl ?_
        exact q_iret X hr hlocks hP hS rfl h dX5_comparePolys_116
      · have h := h.2 c_1
        refine lv_aload_n X.1 X.2.1 dX5_comparePolys_21 rfl (lv_at hl 1 rfl) ?_
        refine gf_X3_monos X hK hP hq1 tl_X5_57 dX5_comparePolys_22 ?_
        refine lv_iload X.1 X.2.1 dX5_comparePolys_25 (lv_at hl 4 rfl) ?_
        obtain ⟨o_4, h⟩ := h
        refine q_iald X hK hP (isP_2 hq1) o_4 dX5_comparePolys_27 ?_
        refine lv_aload_n X.1 X.2.1 dX5_comparePolys_28 rfl (lv_at hl 2 rfl) ?_
        refine gf_X3_monos X hK hP hq2 tl_X5_57 dX5_comparePolys_29 ?_
        refine lv_iload X.1 X.2.1 dX5_comparePolys_32 (lv_at hl 4 rfl) ?_
        refine q_iald X hK hP (isP_2 hq2) o_4 dX5_comparePolys_34 ?_
        refine lv_icmp_eq (tgt := 64) X.1 X.2.1 dX5_comparePolys_35 (by decide) (fun c_5 => ?_) (fun c_5 => ?_)
        · have h := h.1 c_5
          refine lv_aload_n X.1 X.2.1 dX5_comparePolys_64 rfl (lv_at hl 1 rfl) ?_
          refine gf_X3_numbers X hK hP hq1 tl_X5_54 dX5_comparePolys_65 ?_
          refine lv_iload X.1 X.2.1 dX5_comparePolys_68 (lv_at hl 4 rfl) ?_
          refine q_iald X hK hP (isP_1 hq1) o_4 dX5_comparePolys_70 ?_
          refine lv_aload_n X.1 X.2.1 dX5_comparePolys_71 rfl (lv_at hl 2 rfl) ?_
          refine gf_X3_numbers X hK hP hq2 tl_X5_54 dX5_comparePolys_72 ?_
          refine lv_iload X.1 X.2.1 dX5_comparePolys_75 (lv_at hl 4 rfl) ?_
          refine q_iald X hK hP (isP_1 hq2) o_4 dX5_comparePolys_77 ?_
          refine lv_icmp_eq (tgt := 99) X.1 X.2.1 dX5_comparePolys_78 (by decide) (fun c_6 => ?_) (fun c_6 => ?_)
          · have h := h.1 c_6
            obtain ⟨x4_7, e4_7⟩ : ∃ y : Int32, y = x4 + 1 := ⟨_, rfl⟩
            have h := h x4_7 e4_7
            refine lv_iinc (v := x4_7) (lv' := [(4, .int x4_7), (0, .ref (G.1 + 1)), (1, .ref (G.1 + q1)), (2, .ref (G.1 + q2)), (3, .int x3)]) X.1 X.2.1 dX5_comparePolys_99 hl (k := 4) rfl (by rw [e4_7]; first | rfl | decide) (by decide) rfl (fun ls hl => ?_)
            refine lv_goto (tgt := 15) X.1 X.2.1 dX5_comparePolys_102 (by decide) ?_
            exact hk15 x4_7 S _ (lv_sub hl [1, 2, 3, 4, 0] rfl) h _ _ hP hS
          · have h := h.2 c_6
            refine lv_aload_n X.1 X.2.1 dX5_comparePolys_81 rfl (lv_at hl 1 rfl) ?_
            refine gf_X3_numbers X hK hP hq1 tl_X5_54 dX5_comparePolys_82 ?_
            refine lv_iload X.1 X.2.1 dX5_comparePolys_85 (lv_at hl 4 rfl) ?_
            refine q_iald X hK hP (isP_1 hq1) o_4 dX5_comparePolys_87 ?_
            refine lv_aload_n X.1 X.2.1 dX5_comparePolys_88 rfl (lv_at hl 2 rfl) ?_
            refine gf_X3_numbers X hK hP hq2 tl_X5_54 dX5_comparePolys_89 ?_
            refine lv_iload X.1 X.2.1 dX5_comparePolys_92 (lv_at hl 4 rfl) ?_
            refine q_iald X hK hP (isP_1 hq2) o_4 dX5_comparePolys_94 ?_
            refine q_callS (rest := []) X hK hP hS (c_J6_compare_7cf53 l G (S (q1 + 1) (q_rf x4)) (S (q2 + 1) (q_rf x4)) S _ h) my_J6_compare_7cf53 tl_X5_67 dX5_comparePolys_95 rfl ⟨Nat.le_of_ble_eq_true rfl, Nat.le_of_ble_eq_true rfl⟩ hl.1 rfl (Nat.le_of_ble_eq_true rfl) ⟨Nat.le_of_ble_eq_true rfl, Nat.le_of_ble_eq_true rfl⟩ (fun r_9 S_8 H locs h hP hS => ?_)
            refine W.eq (g2 := F0 m 98 ls [.int r_9]) rfl ?_
            exact q_iret X hr hlocks hP hS rfl h dX5_comparePolys_98
        · have h := h.2 c_5
          refine lv_aload_n X.1 X.2.1 dX5_comparePolys_38 rfl (lv_at hl 0 rfl) ?_
          refine lv_aload_n X.1 X.2.1 dX5_comparePolys_39 rfl (lv_at hl 1 rfl) ?_
          refine gf_X3_monos X hK hP hq1 tl_X5_57 dX5_comparePolys_40 ?_
          refine lv_iload X.1 X.2.1 dX5_comparePolys_43 (lv_at hl 4 rfl) ?_
          refine q_iald X hK hP (isP_2 hq1) o_4 dX5_comparePolys_45 ?_
          refine q_callV (rest := []) (b := 1) X hK hP hS (c_X5_rank l G (S (q1 + 2) (q_rf x4)) S _ h) my_X5_rank tl_X5_60 dX5_comparePolys_46 kz_1 rfl rfl rfl ⟨Nat.le_of_ble_eq_true rfl, Nat.le_of_ble_eq_true rfl⟩ hl.1 rfl (Nat.le_of_ble_eq_true rfl) ⟨Nat.le_of_ble_eq_true rfl, Nat.le_of_ble_eq_true rfl⟩ (fun r_11 S_10 H locs h hP hS => ?_)
          refine W.eq (g2 := F0 m 49 ls [.int r_11]) rfl ?_
          refine lv_aload_n X.1 X.2.1 dX5_comparePolys_49 rfl (lv_at hl 0 rfl) ?_
          refine lv_aload_n X.1 X.2.1 dX5_comparePolys_50 rfl (lv_at hl 2 rfl) ?_
          refine gf_X3_monos X hK hP hq2 tl_X5_57 dX5_comparePolys_51 ?_
          refine lv_iload X.1 X.2.1 dX5_comparePolys_54 (lv_at hl 4 rfl) ?_
          refine q_iald X hK hP (isP_2 hq2) o_4 dX5_comparePolys_56 ?_
          refine q_callV (rest := [.int r_11]) (b := 1) X hK hP hS (c_X5_rank l G (S_10 (q2 + 2) (q_rf x4)) S_10 _ h) my_X5_rank tl_X5_60 dX5_comparePolys_57 kz_1 rfl rfl rfl ⟨Nat.le_of_ble_eq_true rfl, Nat.le_of_ble_eq_true rfl⟩ hl.1 rfl (Nat.le_of_ble_eq_true rfl) ⟨Nat.le_of_ble_eq_true rfl, Nat.le_of_ble_eq_true rfl⟩ (fun r_13 S_12 H locs h hP hS => ?_)
          refine W.eq (g2 := F0 m 60 ls [.int r_13, .int r_11]) rfl ?_
          refine q_callS (rest := []) X hK hP hS (c_J6_compare_7cf53 l G r_11 r_13 S_12 _ h) my_J6_compare_7cf53 tl_X5_67 dX5_comparePolys_60 rfl ⟨Nat.le_of_ble_eq_true rfl, Nat.le_of_ble_eq_true rfl⟩ hl.1 rfl (Nat.le_of_ble_eq_true rfl) ⟨Nat.le_of_ble_eq_true rfl, Nat.le_of_ble_eq_true rfl⟩ (fun r_15 S_14 H locs h hP hS => ?_)
          refine W.eq (g2 := F0 m 63 ls [.int r_15]) rfl ?_
          exact q_iret X hr hlocks hP hS rfl h dX5_comparePolys_63
  refine lv_aload_n X.1 X.2.1 dX5_comparePolys_0 rfl (lv_at hl 1 rfl) ?_
  refine gf_X3_size X hK hP hq1 tl_X5_51 dX5_comparePolys_1 ?_
  refine lv_aload_n X.1 X.2.1 dX5_comparePolys_4 rfl (lv_at hl 2 rfl) ?_
  refine gf_X3_size X hK hP hq2 tl_X5_51 dX5_comparePolys_5 ?_
  refine q_callS (rest := []) X hK hP hS (c_J9_min_7cf53 l G (S q1 2) (S q2 2) S _ h) my_J9_min_7cf53 tl_X5_64 dX5_comparePolys_8 rfl ⟨Nat.le_of_ble_eq_true rfl, Nat.le_of_ble_eq_true rfl⟩ hl.1 rfl (Nat.le_of_ble_eq_true rfl) ⟨Nat.le_of_ble_eq_true rfl, Nat.le_of_ble_eq_true rfl⟩ (fun r_2 S_1 H locs h hP hS => ?_)
  refine W.eq (g2 := F0 m 11 ls [.int r_2]) rfl ?_
  refine lv_istore_n (lv' := [(3, .int r_2), (0, .ref (G.1 + 1)), (1, .ref (G.1 + q1)), (2, .ref (G.1 + q2))]) X.1 X.2.1 dX5_comparePolys_11 rfl hl (by decide) rfl (fun ls hl => ?_)
  refine lv_iconst (v := 0) X.1 X.2.1 dX5_comparePolys_12 (by decide) ?_
  refine lv_istore (lv' := [(4, .int 0), (3, .int r_2), (0, .ref (G.1 + 1)), (1, .ref (G.1 + q1)), (2, .ref (G.1 + q2))]) X.1 X.2.1 dX5_comparePolys_13 hl (by decide) rfl (fun ls hl => ?_)
  obtain ⟨f_3, h⟩ := h
  exact B15 r_2 f_3 0 S_1 _ (lv_sub hl [2, 3, 4, 1, 0] rfl) h _ _ hP hS

set_option maxHeartbeats 4000000 in
set_option maxRecDepth 100000 in
theorem c_X5_isMultipleGreat (l : Launch) (G : Cx) (q0 : Nat) (x1 : Int32) (S : St) (K : Int32 → St → Prop) (hq0 : isP q0) (h : w_X5_isMultipleGreat q0 x1 S K) : q_Met l yX5_isMultipleGreat cX5_isMultipleGreat 3 (some .boolean) 1 20 G [.ref (G.1 + q0), .int x1] v_i S K := by
  refine q_enter (by decide +kernel) (Nat.le_of_ble_eq_true rfl) (fun p e s m args below meth c ls X hK hP hr hlocks hl => ?_)
  have hS : va_S (fr_ G) s.heap s.heap [] := va_S.rf
  have hl : lv_has ls 3 [(0, .ref (G.1 + q0)), (1, .int x1)] := hl
  have B2 : ∀ (f : Nat) (x2 : Int32) (S : St) (ls : Array Slot), lv_has ls 3 [(0, .ref (G.1 + q0)), (1, .int x1), (2, .int x2)] → q_it (fun _ _ => False) (w_X5_isMultipleGreat_2 q0 x1 K) f x2 S → q_W p l e (k2_rm 1 20) s m args below meth c 0 0 (MQ below (q_Qc G K v_i) args s 0 0 (fr_ G)) G 2 ls [] S := by
    intro f
    induction f with
    | zero => intro x2 S ls hl h; exact False.elim h
    | succ f hk2 =>
      intro x2 S ls hl h H locs hP hS
      have h : w_X5_isMultipleGreat_2 q0 x1 K (q_it (fun _ _ => False) (w_X5_isMultipleGreat_2 q0 x1 K) f) x2 S := h
      generalize q_it (fun _ _ => False) (w_X5_isMultipleGreat_2 q0 x1 K) f = k2 at h hk2
      refine lv_iload_n X.1 X.2.1 dX5_isMultipleGreat_2 rfl (lv_at hl 2 rfl) ?_
      refine lv_aload_n X.1 X.2.1 dX5_isMultipleGreat_3 rfl (lv_at hl 0 rfl) ?_
      refine gf_X3_size X hK hP hq0 tl_X5_51 dX5_isMultipleGreat_4 ?_
      refine lv_icmp_ge (tgt := 32) X.1 X.2.1 dX5_isMultipleGreat_7 (by decide) (fun c_1 => ?_) (fun c_1 => ?_)
      · have h := h.1 c_1
        refine lv_iconst (v := 0) X.1 X.2.1 dX5_isMultipleGreat_32 (by decide) ?_
        exact q_iret X hr hlocks hP hS rfl h dX5_isMultipleGreat_33
      · have h := h.2 c_1
        refine lv_aload_n X.1 X.2.1 dX5_isMultipleGreat_10 rfl (lv_at hl 0 rfl) ?_
        refine gf_X3_monos X hK hP hq0 tl_X5_57 dX5_isMultipleGreat_11 ?_
        refine lv_iload_n X.1 X.2.1 dX5_isMultipleGreat_14 rfl (lv_at hl 2 rfl) ?_
        obtain ⟨o_2, h⟩ := h
        refine q_iald X hK hP (isP_2 hq0) o_2 dX5_isMultipleGreat_15 ?_
        refine lv_iload_n X.1 X.2.1 dX5_isMultipleGreat_16 rfl (lv_at hl 1 rfl) ?_
        refine lv_iadd X.1 X.2.1 dX5_isMultipleGreat_17 ?_
        refine q_callS (rest := []) X hK hP hS (c_X1_isGreat l G ((S (q0 + 2) (q_rf x2)) + x1) S _ h) my_X1_isGreat tl_X5_83 dX5_isMultipleGreat_18 rfl ⟨Nat.le_of_ble_eq_true rfl, Nat.le_of_ble_eq_true rfl⟩ hl.1 rfl (Nat.le_of_ble_eq_true rfl) ⟨Nat.le_of_ble_eq_true rfl, Nat.le_of_ble_eq_true rfl⟩ (fun r_4 S_3 H locs h hP hS => ?_)
        refine W.eq (g2 := F0 m 21 ls [.int r_4]) rfl ?_
        refine lv_if_eq (tgt := 26) X.1 X.2.1 dX5_isMultipleGreat_21 (by decide) (fun c_5 => ?_) (fun c_5 => ?_)
        · have h := h.1 c_5
          obtain ⟨x2_6, e2_6⟩ : ∃ y : Int32, y = x2 + 1 := ⟨_, rfl⟩
          have h := h x2_6 e2_6
          refine lv_iinc (v := x2_6) (lv' := [(2, .int x2_6), (0, .ref (G.1 + q0)), (1, .int x1)]) X.1 X.2.1 dX5_isMultipleGreat_26 hl (k := 2) rfl (by rw [e2_6]; first | rfl | decide) (by decide) rfl (fun ls hl => ?_)
          refine lv_goto (tgt := 2) X.1 X.2.1 dX5_isMultipleGreat_29 (by decide) ?_
          exact hk2 x2_6 S_3 _ (lv_sub hl [1, 2, 0] rfl) h _ _ hP hS
        · have h := h.2 c_5
          refine lv_iconst (v := 1) X.1 X.2.1 dX5_isMultipleGreat_24 (by decide) ?_
          exact q_iret X hr hlocks hP hS rfl h dX5_isMultipleGreat_25
  refine lv_iconst (v := 0) X.1 X.2.1 dX5_isMultipleGreat_0 (by decide) ?_
  refine lv_istore_n (lv' := [(2, .int 0), (0, .ref (G.1 + q0)), (1, .int x1)]) X.1 X.2.1 dX5_isMultipleGreat_1 rfl hl (by decide) rfl (fun ls hl => ?_)
  obtain ⟨f_1, h⟩ := h
  exact B2 f_1 0 S _ (lv_sub hl [1, 2, 0] rfl) h _ _ hP hS

set_option maxHeartbeats 4000000 in
set_option maxRecDepth 100000 in
theorem c_X5_addMultiple (l : Launch) (G : Cx) (q1 : Nat) (q2 : Nat) (q3 : Nat) (x4 : Int32) (x5 : Int32) (S : St) (K : Int32 → St → Prop) (hq1 : isP q1) (hq2 : isP q2) (hq3 : isP q3) (h : w_X5_addMultiple q1 q2 q3 x4 x5 S K) : q_Met l yX5_addMultiple cX5_addMultiple 13 (some .int) 2 43 G [.ref (G.1 + 1), .ref (G.1 + q1), .ref (G.1 + q2), .ref (G.1 + q3), .int x4, .int x5] v_i S K := by
  refine q_enter (by decide +kernel) (Nat.le_of_ble_eq_true rfl) (fun p e s m args below meth c ls X hK hP hr hlocks hl => ?_)
  have hS : va_S (fr_ G) s.heap s.heap [] := va_S.rf
  have hl : lv_has ls 13 [(0, .ref (G.1 + 1)), (1, .ref (G.1 + q1)), (2, .ref (G.1 + q2)), (3, .ref (G.1 + q3)), (4, .int x4), (5, .int x5)] := hl
  have B206 : ∀ (x6 : Int32) (x7 : Int32) (x8 : Int32) (k34 : Int32 → Int32 → Int32 → St → Prop) (hk34 : ∀ (x6 : Int32) (x7 : Int32) (x8 : Int32) (S : St) (ls : Array Slot), lv_has ls 13 [(0, .ref (G.1 + 1)), (1, .ref (G.1 + q1)), (2, .ref (G.1 + q2)), (3, .ref (G.1 + q3)), (4, .int x4), (5, .int x5), (6, .int x6), (7, .int x7), (8, .int x8)] → k34 x6 x7 x8 S → q_W p l e (k2_rm 2 43) s m args below meth c 0 0 (MQ below (q_Qc G K v_i) args s 0 0 (fr_ G)) G 34 ls [] S) (S : St) (ls : Array Slot), lv_has ls 13 [(0, .ref (G.1 + 1)), (1, .ref (G.1 + q1)), (2, .ref (G.1 + q2)), (3, .ref (G.1 + q3)), (4, .int x4), (5, .int x5), (6, .int x6), (7, .int x7), (8, .int x8)] → w_X5_addMultiple_206 q1 q2 q3 x4 x5 K k34 x6 x7 x8 S → q_W p l e (k2_rm 2 43) s m args below meth c 0 0 (MQ below (q_Qc G K v_i) args s 0 0 (fr_ G)) G 206 ls [] S := by
    intro x6 x7 x8 k34 hk34 S ls hl h H locs hP hS
    obtain ⟨x8_1, e8_1⟩ : ∃ y : Int32, y = x8 + (-1) := ⟨_, rfl⟩
    have h := h x8_1 e8_1
    refine lv_iinc (v := x8_1) (lv' := [(8, .int x8_1), (0, .ref (G.1 + 1)), (1, .ref (G.1 + q1)), (2, .ref (G.1 + q2)), (3, .ref (G.1 + q3)), (4, .int x4), (5, .int x5), (6, .int x6), (7, .int x7)]) X.1 X.2.1 dX5_addMultiple_206 hl (k := 8) rfl (by rw [e8_1]; first | rfl | decide) (by decide) rfl (fun ls hl => ?_)
    refine lv_goto (tgt := 34) X.1 X.2.1 dX5_addMultiple_209 (by decide) ?_
    exact hk34 x6 x7 x8_1 S _ (lv_sub hl [1, 2, 3, 4, 5, 6, 7, 8, 0] rfl) h _ _ hP hS
  have B187 : ∀ (x6 : Int32) (x7 : Int32) (x8 : Int32) (x11 : Int32) (x12 : Int32) (k34 : Int32 → Int32 → Int32 → St → Prop) (hk34 : ∀ (x6 : Int32) (x7 : Int32) (x8 : Int32) (S : St) (ls : Array Slot), lv_has ls 13 [(0, .ref (G.1 + 1)), (1, .ref (G.1 + q1)), (2, .ref (G.1 + q2)), (3, .ref (G.1 + q3)), (4, .int x4), (5, .int x5), (6, .int x6), (7, .int x7), (8, .int x8)] → k34 x6 x7 x8 S → q_W p l e (k2_rm 2 43) s m args below meth c 0 0 (MQ below (q_Qc G K v_i) args s 0 0 (fr_ G)) G 34 ls [] S) (S : St) (ls : Array Slot), lv_has ls 13 [(0, .ref (G.1 + 1)), (1, .ref (G.1 + q1)), (2, .ref (G.1 + q2)), (3, .ref (G.1 + q3)), (4, .int x4), (5, .int x5), (6, .int x6), (7, .int x7), (8, .int x8), (11, .int x11), (12, .int x12)] → w_X5_addMultiple_187 q1 q2 q3 x4 x5 K k34 x6 x7 x8 x11 x12 S → q_W p l e (k2_rm 2 43) s m args below meth c 0 0 (MQ below (q_Qc G K v_i) args s 0 0 (fr_ G)) G 187 ls [] S := by
    intro x6 x7 x8 x11 x12 k34 hk34 S ls hl h H locs hP hS
    refine lv_iload X.1 X.2.1 dX5_addMultiple_187 (lv_at hl 9 rfl) ?_
    refine lv_if_eq (tgt := 206) X.1 X.2.1 dX5_addMultiple_189 (by decide) (fun c_1 => ?_) (fun c_1 => ?_)
    · have h := h.1 c_1
      exact B206 x6 x7 x8 k34 hk34 S _ (lv_sub hl [0, 1, 2, 3, 4, 5, 6, 7, 8] rfl) h _ _ hP hS
    · have h := h.2 c_1
      refine lv_aload_n X.1 X.2.1 dX5_addMultiple_192 rfl (lv_at hl 1 rfl) ?_
      refine lv_iload X.1 X.2.1 dX5_addMultiple_193 (lv_at hl 9 rfl) ?_
      refine lv_iload X.1 X.2.1 dX5_addMultiple_195 (lv_at hl 10 rfl) ?_
      refine q_callV (rest := []) (b := q1) X hK hP hS (c_X3_push l G q1 x11 x12 S _ hq1 h) my_X3_push tl_X5_79 dX5_addMultiple_197 hq1 rfl rfl rfl ⟨Nat.le_of_ble_eq_true rfl, Nat.le_of_ble_eq_true rfl⟩ hl.1 rfl (Nat.le_of_ble_eq_true rfl) ⟨Nat.le_of_ble_eq_true rfl, Nat.le_of_ble_eq_true rfl⟩ (fun r_3 S_2 H locs h hP hS => ?_)
      refine W.eq (g2 := F0 m 200 ls [.int r_3]) rfl ?_
      refine lv_if_ne (tgt := 206) X.1 X.2.1 dX5_addMultiple_200 (by decide) (fun c_4 => ?_) (fun c_4 => ?_)
      · have h := h.1 c_4
        exact B206 x6 x7 x8 k34 hk34 S_2 _ (lv_sub hl [0, 1, 2, 3, 4, 5, 6, 7, 8] rfl) h _ _ hP hS
      · have h := h.2 c_4
        refine lv_bipush (v := (-6)) X.1 X.2.1 dX5_addMultiple_203 (by decide) ?_
        exact q_iret X hr hlocks hP hS rfl h dX5_addMultiple_205
  have B137 : ∀ (x6 : Int32) (x7 : Int32) (x8 : Int32) (x9 : Int32) (x10 : Int32) (x11 : Int32) (x12 : Int32) (k34 : Int32 → Int32 → Int32 → St → Prop) (hk34 : ∀ (x6 : Int32) (x7 : Int32) (x8 : Int32) (S : St) (ls : Array Slot), lv_has ls 13 [(0, .ref (G.1 + 1)), (1, .ref (G.1 + q1)), (2, .ref (G.1 + q2)), (3, .ref (G.1 + q3)), (4, .int x4), (5, .int x5), (6, .int x6), (7, .int x7), (8, .int x8)] → k34 x6 x7 x8 S → q_W p l e (k2_rm 2 43) s m args below meth c 0 0 (MQ below (q_Qc G K v_i) args s 0 0 (fr_ G)) G 34 ls [] S) (S : St) (ls : Array Slot), lv_has ls 13 [(0, .ref (G.1 + 1)), (1, .ref (G.1 + q1)), (2, .ref (G.1 + q2)), (3, .ref (G.1 + q3)), (4, .int x4), (5, .int x5), (6, .int x6), (7, .int x7), (8, .int x8), (9, .int x9), (10, .int x10), (11, .int x11), (12, .int x12)] → w_X5_addMultiple_137 q1 q2 q3 x4 x5 K k34 x6 x7 x8 x9 x10 x11 x12 S → q_W p l e (k2_rm 2 43) s m args below meth c 0 0 (MQ below (q_Qc G K v_i) args s 0 0 (fr_ G)) G 137 ls [] S := by
    intro x6 x7 x8 x9 x10 x11 x12 k34 hk34 S ls hl h H locs hP hS
    refine lv_iload X.1 X.2.1 dX5_addMultiple_137 (lv_at hl 7 rfl) ?_
    refine lv_aload_n X.1 X.2.1 dX5_addMultiple_139 rfl (lv_at hl 3 rfl) ?_
    refine gf_X3_size X hK hP hq3 tl_X5_51 dX5_addMultiple_140 ?_
    refine lv_icmp_ge (tgt := 187) X.1 X.2.1 dX5_addMultiple_143 (by decide) (fun c_1 => ?_) (fun c_1 => ?_)
    · have h := h.1 c_1
      exact B187 x6 x7 x8 x11 x12 k34 hk34 S _ (lv_sub hl [0, 1, 2, 3, 4, 5, 6, 7, 8, 11, 12] rfl) h _ _ hP hS
    · have h := h.2 c_1
      refine lv_iload X.1 X.2.1 dX5_addMultiple_146 (lv_at hl 10 rfl) ?_
      refine lv_iload X.1 X.2.1 dX5_addMultiple_148 (lv_at hl 9 rfl) ?_
      refine lv_icmp_lt (tgt := 187) X.1 X.2.1 dX5_addMultiple_150 (by decide) (fun c_2 => ?_) (fun c_2 => ?_)
      · have h := h.1 c_2
        exact B187 x6 x7 x8 x11 x12 k34 hk34 S _ (lv_sub hl [0, 1, 2, 3, 4, 5, 6, 7, 8, 11, 12] rfl) h _ _ hP hS
      · have h := h.2 c_2
        refine lv_aload_n X.1 X.2.1 dX5_addMultiple_153 rfl (lv_at hl 3 rfl) ?_
        refine gf_X3_monos X hK hP hq3 tl_X5_57 dX5_addMultiple_154 ?_
        refine lv_iload X.1 X.2.1 dX5_addMultiple_157 (lv_at hl 7 rfl) ?_
        obtain ⟨o_3, h⟩ := h
        refine q_iald X hK hP (isP_2 hq3) o_3 dX5_addMultiple_159 ?_
        refine lv_iload X.1 X.2.1 dX5_addMultiple_160 (lv_at hl 5 rfl) ?_
        refine lv_iadd X.1 X.2.1 dX5_addMultiple_162 ?_
        refine lv_topi (fun x12_4 e12_4 => ?_)
        have h := h x12_4 e12_4
        refine lv_istore (lv' := [(12, .int x12_4), (0, .ref (G.1 + 1)), (1, .ref (G.1 + q1)), (2, .ref (G.1 + q2)), (3, .ref (G.1 + q3)), (4, .int x4), (5, .int x5), (6, .int x6), (7, .int x7), (8, .int x8), (9, .int x9), (10, .int x10), (11, .int x11)]) X.1 X.2.1 dX5_addMultiple_163 hl (by decide) rfl (fun ls hl => ?_)
        refine lv_aload_n X.1 X.2.1 dX5_addMultiple_165 rfl (lv_at hl 1 rfl) ?_
        refine lv_iload X.1 X.2.1 dX5_addMultiple_166 (lv_at hl 12 rfl) ?_
        refine lv_iload X.1 X.2.1 dX5_addMultiple_168 (lv_at hl 5 rfl) ?_
        refine lv_aload_n X.1 X.2.1 dX5_addMultiple_170 rfl (lv_at hl 4 rfl) ?_
        refine gf_X3_numbers X hK hP hq3 tl_X5_54 dX5_addMultiple_171 ?_
        refine lv_iload X.1 X.2.1 dX5_addMultiple_174 (lv_at hl 8 rfl) ?_
        refine q_iald X hK hP (isP_1 hq3) o_3 dX5_addMultiple_176 ?_
        refine lv_imul X.1 X.2.1 dX5_addMultiple_177 ?_
        refine lv_iadd X.1 X.2.1 dX5_addMultiple_178 ?_
        refine q_callV (rest := []) (b := 1) X hK hP hS (c_X5_restOf l G (x11 + (x4 * (S (q3 + 1) (q_rf x7)))) S _ h) my_X5_restOf tl_X5_76 dX5_addMultiple_179 kz_1 rfl rfl rfl ⟨Nat.le_of_ble_eq_true rfl, Nat.le_of_ble_eq_true rfl⟩ hl.1 rfl (Nat.le_of_ble_eq_true rfl) ⟨Nat.le_of_ble_eq_true rfl, Nat.le_of_ble_eq_true rfl⟩ (fun r_6 S_5 H locs h hP hS => ?_)
        refine W.eq (g2 := F0 m 182 ls [.int r_6]) rfl ?_
        refine lv_istore (lv' := [(11, .int r_6), (12, .int x12_4), (0, .ref (G.1 + 1)), (1, .ref (G.1 + q1)), (2, .ref (G.1 + q2)), (3, .ref (G.1 + q3)), (4, .int x4), (5, .int x5), (6, .int x6), (7, .int x7), (8, .int x8), (9, .int x9), (10, .int x10)]) X.1 X.2.1 dX5_addMultiple_182 hl (by decide) rfl (fun ls hl => ?_)
        obtain ⟨x7_7, e7_7⟩ : ∃ y : Int32, y = x7 + 1 := ⟨_, rfl⟩
        have h := h x7_7 e7_7
        refine lv_iinc (v := x7_7) (lv' := [(7, .int x7_7), (11, .int r_6), (12, .int x12_4), (0, .ref (G.1 + 1)), (1, .ref (G.1 + q1)), (2, .ref (G.1 + q2)), (3, .ref (G.1 + q3)), (4, .int x4), (5, .int x5), (6, .int x6), (8, .int x8), (9, .int x9), (10, .int x10)]) X.1 X.2.1 dX5_addMultiple_184 hl (k := 9) rfl (by rw [e7_7]; first | rfl | decide) (by decide) rfl (fun ls hl => ?_)
        exact B187 x6 x7_7 x8 r_6 x12_4 k34 hk34 S_5 _ (lv_sub hl [3, 4, 5, 6, 7, 8, 9, 0, 10, 1, 2] rfl) h _ _ hP hS
  have B92 : ∀ (x6 : Int32) (x7 : Int32) (x8 : Int32) (x9 : Int32) (z0 : Int32) (k34 : Int32 → Int32 → Int32 → St → Prop) (hk34 : ∀ (x6 : Int32) (x7 : Int32) (x8 : Int32) (S : St) (ls : Array Slot), lv_has ls 13 [(0, .ref (G.1 + 1)), (1, .ref (G.1 + q1)), (2, .ref (G.1 + q2)), (3, .ref (G.1 + q3)), (4, .int x4), (5, .int x5), (6, .int x6), (7, .int x7), (8, .int x8)] → k34 x6 x7 x8 S → q_W p l e (k2_rm 2 43) s m args below meth c 0 0 (MQ below (q_Qc G K v_i) args s 0 0 (fr_ G)) G 34 ls [] S) (S : St) (ls : Array Slot), lv_has ls 13 [(0, .ref (G.1 + 1)), (1, .ref (G.1 + q1)), (2, .ref (G.1 + q2)), (3, .ref (G.1 + q3)), (4, .int x4), (5, .int x5), (6, .int x6), (7, .int x7), (8, .int x8), (9, .int x9)] → w_X5_addMultiple_92 q1 q2 q3 x4 x5 K k34 x6 x7 x8 x9 z0 S → q_W p l e (k2_rm 2 43) s m args below meth c 0 0 (MQ below (q_Qc G K v_i) args s 0 0 (fr_ G)) G 92 ls [.int z0] S := by
    intro x6 x7 x8 x9 z0 k34 hk34 S ls hl h H locs hP hS
    refine lv_istore (lv' := [(10, .int z0), (0, .ref (G.1 + 1)), (1, .ref (G.1 + q1)), (2, .ref (G.1 + q2)), (3, .ref (G.1 + q3)), (4, .int x4), (5, .int x5), (6, .int x6), (7, .int x7), (8, .int x8), (9, .int x9)]) X.1 X.2.1 dX5_addMultiple_92 hl (by decide) rfl (fun ls hl => ?_)
    refine lv_iconst (v := 0) X.1 X.2.1 dX5_addMultiple_94 (by decide) ?_
    refine lv_istore (lv' := [(11, .int 0), (10, .int z0), (0, .ref (G.1 + 1)), (1, .ref (G.1 + q1)), (2, .ref (G.1 + q2)), (3, .ref (G.1 + q3)), (4, .int x4), (5, .int x5), (6, .int x6), (7, .int x7), (8, .int x8), (9, .int x9)]) X.1 X.2.1 dX5_addMultiple_95 hl (by decide) rfl (fun ls hl => ?_)
    refine lv_iconst (v := 0) X.1 X.2.1 dX5_addMultiple_97 (by decide) ?_
    refine lv_istore (lv' := [(12, .int 0), (11, .int 0), (10, .int z0), (0, .ref (G.1 + 1)), (1, .ref (G.1 + q1)), (2, .ref (G.1 + q2)), (3, .ref (G.1 + q3)), (4, .int x4), (5, .int x5), (6, .int x6), (7, .int x7), (8, .int x8), (9, .int x9)]) X.1 X.2.1 dX5_addMultiple_98 hl (by decide) rfl (fun ls hl => ?_)
    refine lv_iload X.1 X.2.1 dX5_addMultiple_100 (lv_at hl 9 rfl) ?_
    refine lv_aload_n X.1 X.2.1 dX5_addMultiple_102 rfl (lv_at hl 5 rfl) ?_
    refine gf_X3_size X hK hP hq2 tl_X5_51 dX5_addMultiple_103 ?_
    refine lv_icmp_ge (tgt := 137) X.1 X.2.1 dX5_addMultiple_106 (by decide) (fun c_1 => ?_) (fun c_1 => ?_)
    · have h := h.1 c_1
      exact B137 x6 x7 x8 x9 z0 0 0 k34 hk34 S _ (lv_sub hl [3, 4, 5, 6, 7, 8, 9, 10, 11, 12, 2, 1, 0] rfl) h _ _ hP hS
    · have h := h.2 c_1
      refine lv_iload X.1 X.2.1 dX5_addMultiple_109 (lv_at hl 12 rfl) ?_
      refine lv_iload X.1 X.2.1 dX5_addMultiple_111 (lv_at hl 2 rfl) ?_
      refine lv_icmp_lt (tgt := 137) X.1 X.2.1 dX5_addMultiple_113 (by decide) (fun c_2 => ?_) (fun c_2 => ?_)
      · have h := h.1 c_2
        exact B137 x6 x7 x8 x9 z0 0 0 k34 hk34 S _ (lv_sub hl [3, 4, 5, 6, 7, 8, 9, 10, 11, 12, 2, 1, 0] rfl) h _ _ hP hS
      · have h := h.2 c_2
        refine lv_aload_n X.1 X.2.1 dX5_addMultiple_116 rfl (lv_at hl 5 rfl) ?_
        refine gf_X3_monos X hK hP hq2 tl_X5_57 dX5_addMultiple_117 ?_
        refine lv_iload X.1 X.2.1 dX5_addMultiple_120 (lv_at hl 9 rfl) ?_
        obtain ⟨o_3, h⟩ := h
        refine q_iald X hK hP (isP_2 hq2) o_3 dX5_addMultiple_122 ?_
        refine lv_topi (fun x12_4 e12_4 => ?_)
        have h := h x12_4 e12_4
        refine lv_istore (lv' := [(12, .int x12_4), (11, .int 0), (10, .int z0), (0, .ref (G.1 + 1)), (1, .ref (G.1 + q1)), (2, .ref (G.1 + q2)), (3, .ref (G.1 + q3)), (4, .int x4), (5, .int x5), (6, .int x6), (7, .int x7), (8, .int x8), (9, .int x9)]) X.1 X.2.1 dX5_addMultiple_123 hl (by decide) rfl (fun ls hl => ?_)
        refine lv_aload_n X.1 X.2.1 dX5_addMultiple_125 rfl (lv_at hl 5 rfl) ?_
        refine gf_X3_numbers X hK hP hq2 tl_X5_54 dX5_addMultiple_126 ?_
        refine lv_iload X.1 X.2.1 dX5_addMultiple_129 (lv_at hl 9 rfl) ?_
        refine q_iald X hK hP (isP_1 hq2) o_3 dX5_addMultiple_131 ?_
        refine lv_topi (fun x11_5 e11_5 => ?_)
        have h := h x11_5 e11_5
        refine lv_istore (lv' := [(11, .int x11_5), (12, .int x12_4), (10, .int z0), (0, .ref (G.1 + 1)), (1, .ref (G.1 + q1)), (2, .ref (G.1 + q2)), (3, .ref (G.1 + q3)), (4, .int x4), (5, .int x5), (6, .int x6), (7, .int x7), (8, .int x8), (9, .int x9)]) X.1 X.2.1 dX5_addMultiple_132 hl (by decide) rfl (fun ls hl => ?_)
        obtain ⟨x6_6, e6_6⟩ : ∃ y : Int32, y = x6 + 1 := ⟨_, rfl⟩
        have h := h x6_6 e6_6
        refine lv_iinc (v := x6_6) (lv' := [(6, .int x6_6), (11, .int x11_5), (12, .int x12_4), (10, .int z0), (0, .ref (G.1 + 1)), (1, .ref (G.1 + q1)), (2, .ref (G.1 + q2)), (3, .ref (G.1 + q3)), (4, .int x4), (5, .int x5), (7, .int x7), (8, .int x8), (9, .int x9)]) X.1 X.2.1 dX5_addMultiple_134 hl (k := 9) rfl (by rw [e6_6]; first | rfl | decide) (by decide) rfl (fun ls hl => ?_)
        exact B137 x6_6 x7 x8 x9 z0 x11_5 x12_4 k34 hk34 S _ (lv_sub hl [4, 5, 6, 7, 8, 9, 0, 10, 11, 12, 3, 1, 2] rfl) h _ _ hP hS
  have B63 : ∀ (x6 : Int32) (x7 : Int32) (x8 : Int32) (z0 : Int32) (k34 : Int32 → Int32 → Int32 → St → Prop) (hk34 : ∀ (x6 : Int32) (x7 : Int32) (x8 : Int32) (S : St) (ls : Array Slot), lv_has ls 13 [(0, .ref (G.1 + 1)), (1, .ref (G.1 + q1)), (2, .ref (G.1 + q2)), (3, .ref (G.1 + q3)), (4, .int x4), (5, .int x5), (6, .int x6), (7, .int x7), (8, .int x8)] → k34 x6 x7 x8 S → q_W p l e (k2_rm 2 43) s m args below meth c 0 0 (MQ below (q_Qc G K v_i) args s 0 0 (fr_ G)) G 34 ls [] S) (S : St) (ls : Array Slot), lv_has ls 13 [(0, .ref (G.1 + 1)), (1, .ref (G.1 + q1)), (2, .ref (G.1 + q2)), (3, .ref (G.1 + q3)), (4, .int x4), (5, .int x5), (6, .int x6), (7, .int x7), (8, .int x8)] → w_X5_addMultiple_63 q1 q2 q3 x4 x5 K k34 x6 x7 x8 z0 S → q_W p l e (k2_rm 2 43) s m args below meth c 0 0 (MQ below (q_Qc G K v_i) args s 0 0 (fr_ G)) G 63 ls [.int z0] S := by
    intro x6 x7 x8 z0 k34 hk34 S ls hl h H locs hP hS
    refine lv_istore (lv' := [(9, .int z0), (0, .ref (G.1 + 1)), (1, .ref (G.1 + q1)), (2, .ref (G.1 + q2)), (3, .ref (G.1 + q3)), (4, .int x4), (5, .int x5), (6, .int x6), (7, .int x7), (8, .int x8)]) X.1 X.2.1 dX5_addMultiple_63 hl (by decide) rfl (fun ls hl => ?_)
    refine lv_iload X.1 X.2.1 dX5_addMultiple_65 (lv_at hl 8 rfl) ?_
    refine lv_aload_n X.1 X.2.1 dX5_addMultiple_67 rfl (lv_at hl 4 rfl) ?_
    refine gf_X3_size X hK hP hq3 tl_X5_51 dX5_addMultiple_68 ?_
    refine lv_icmp_ge (tgt := 91) X.1 X.2.1 dX5_addMultiple_71 (by decide) (fun c_1 => ?_) (fun c_1 => ?_)
    · have h := h.1 c_1
      refine lv_iconst (v := (-1)) X.1 X.2.1 dX5_addMultiple_91 (by decide) ?_
      exact B92 x6 x7 x8 z0 (-1) k34 hk34 S _ (lv_sub hl [1, 2, 3, 4, 5, 6, 7, 8, 9, 0] rfl) h _ _ hP hS
    · have h := h.2 c_1
      refine lv_aload_n X.1 X.2.1 dX5_addMultiple_74 rfl (lv_at hl 1 rfl) ?_
      refine lv_aload_n X.1 X.2.1 dX5_addMultiple_75 rfl (lv_at hl 4 rfl) ?_
      refine gf_X3_monos X hK hP hq3 tl_X5_57 dX5_addMultiple_76 ?_
      refine lv_iload X.1 X.2.1 dX5_addMultiple_79 (lv_at hl 8 rfl) ?_
      obtain ⟨o_2, h⟩ := h
      refine q_iald X hK hP (isP_2 hq3) o_2 dX5_addMultiple_81 ?_
      refine lv_iload X.1 X.2.1 dX5_addMultiple_82 (lv_at hl 6 rfl) ?_
      refine lv_iadd X.1 X.2.1 dX5_addMultiple_84 ?_
      refine q_callV (rest := []) (b := 1) X hK hP hS (c_X5_rank l G ((S (q3 + 2) (q_rf x7)) + x5) S _ h) my_X5_rank tl_X5_60 dX5_addMultiple_85 kz_1 rfl rfl rfl ⟨Nat.le_of_ble_eq_true rfl, Nat.le_of_ble_eq_true rfl⟩ hl.1 rfl (Nat.le_of_ble_eq_true rfl) ⟨Nat.le_of_ble_eq_true rfl, Nat.le_of_ble_eq_true rfl⟩ (fun r_4 S_3 H locs h hP hS => ?_)
      refine W.eq (g2 := F0 m 88 ls [.int r_4]) rfl ?_
      refine lv_goto (tgt := 92) X.1 X.2.1 dX5_addMultiple_88 (by decide) ?_
      exact B92 x6 x7 x8 z0 r_4 k34 hk34 S_3 _ (lv_sub hl [1, 2, 3, 4, 5, 6, 7, 8, 9, 0] rfl) h _ _ hP hS
  have B34 : ∀ (f : Nat) (x6 : Int32) (x7 : Int32) (x8 : Int32) (S : St) (ls : Array Slot), lv_has ls 13 [(0, .ref (G.1 + 1)), (1, .ref (G.1 + q1)), (2, .ref (G.1 + q2)), (3, .ref (G.1 + q3)), (4, .int x4), (5, .int x5), (6, .int x6), (7, .int x7), (8, .int x8)] → q_it (fun _ _ _ _ => False) (w_X5_addMultiple_34 q1 q2 q3 x4 x5 K) f x6 x7 x8 S → q_W p l e (k2_rm 2 43) s m args below meth c 0 0 (MQ below (q_Qc G K v_i) args s 0 0 (fr_ G)) G 34 ls [] S := by
    intro f
    induction f with
    | zero => intro x6 x7 x8 S ls hl h; exact False.elim h
    | succ f hk34 =>
      intro x6 x7 x8 S ls hl h H locs hP hS
      have h : w_X5_addMultiple_34 q1 q2 q3 x4 x5 K (q_it (fun _ _ _ _ => False) (w_X5_addMultiple_34 q1 q2 q3 x4 x5 K) f) x6 x7 x8 S := h
      generalize q_it (fun _ _ _ _ => False) (w_X5_addMultiple_34 q1 q2 q3 x4 x5 K) f = k34 at h hk34
      refine lv_iload X.1 X.2.1 dX5_addMultiple_34 (lv_at hl 8 rfl) ?_
      refine lv_if_le (tgt := 212) X.1 X.2.1 dX5_addMultiple_36 (by decide) (fun c_1 => ?_) (fun c_1 => ?_)
      · have h := h.1 c_1
        refine lv_iconst (v := 0) X.1 X.2.1 dX5_addMultiple_212 (by decide) ?_
        exact q_iret X hr hlocks hP hS rfl h dX5_addMultiple_213
      · have h := h.2 c_1
        refine lv_iload X.1 X.2.1 dX5_addMultiple_39 (lv_at hl 6 rfl) ?_
        refine lv_aload_n X.1 X.2.1 dX5_addMultiple_41 rfl (lv_at hl 2 rfl) ?_
        refine gf_X3_size X hK hP hq2 tl_X5_51 dX5_addMultiple_42 ?_
        refine lv_icmp_ge (tgt := 62) X.1 X.2.1 dX5_addMultiple_45 (by decide) (fun c_2 => ?_) (fun c_2 => ?_)
        · have h := h.1 c_2
          refine lv_iconst (v := (-1)) X.1 X.2.1 dX5_addMultiple_62 (by decide) ?_
          exact B63 x6 x7 x8 (-1) k34 hk34 S _ (lv_sub hl [0, 1, 2, 3, 4, 5, 6, 7, 8] rfl) h _ _ hP hS
        · have h := h.2 c_2
          refine lv_aload_n X.1 X.2.1 dX5_addMultiple_48 rfl (lv_at hl 0 rfl) ?_
          refine lv_aload_n X.1 X.2.1 dX5_addMultiple_49 rfl (lv_at hl 2 rfl) ?_
          refine gf_X3_monos X hK hP hq2 tl_X5_57 dX5_addMultiple_50 ?_
          refine lv_iload X.1 X.2.1 dX5_addMultiple_53 (lv_at hl 6 rfl) ?_
          obtain ⟨o_3, h⟩ := h
          refine q_iald X hK hP (isP_2 hq2) o_3 dX5_addMultiple_55 ?_
          refine q_callV (rest := []) (b := 1) X hK hP hS (c_X5_rank l G (S (q2 + 2) (q_rf x6)) S _ h) my_X5_rank tl_X5_60 dX5_addMultiple_56 kz_1 rfl rfl rfl ⟨Nat.le_of_ble_eq_true rfl, Nat.le_of_ble_eq_true rfl⟩ hl.1 rfl (Nat.le_of_ble_eq_true rfl) ⟨Nat.le_of_ble_eq_true rfl, Nat.le_of_ble_eq_true rfl⟩ (fun r_5 S_4 H locs h hP hS => ?_)
          refine W.eq (g2 := F0 m 59 ls [.int r_5]) rfl ?_
          refine lv_goto (tgt := 63) X.1 X.2.1 dX5_addMultiple_59 (by decide) ?_
          exact B63 x6 x7 x8 r_5 k34 hk34 S_4 _ (lv_sub hl [0, 1, 2, 3, 4, 5, 6, 7, 8] rfl) h _ _ hP hS
  refine lv_aload_n X.1 X.2.1 dX5_addMultiple_0 rfl (lv_at hl 3 rfl) ?_
  refine lv_iload X.1 X.2.1 dX5_addMultiple_1 (lv_at hl 5 rfl) ?_
  refine q_callS (rest := []) X hK hP hS (c_X5_isMultipleGreat l G q3 x5 S _ hq3 h) my_X5_isMultipleGreat tl_X5_72 dX5_addMultiple_3 rfl ⟨Nat.le_of_ble_eq_true rfl, Nat.le_of_ble_eq_true rfl⟩ hl.1 rfl (Nat.le_of_ble_eq_true rfl) ⟨Nat.le_of_ble_eq_true rfl, Nat.le_of_ble_eq_true rfl⟩ (fun r_2 S_1 H locs h hP hS => ?_)
  refine W.eq (g2 := F0 m 6 ls [.int r_2]) rfl ?_
  refine lv_if_eq (tgt := 12) X.1 X.2.1 dX5_addMultiple_6 (by decide) (fun c_3 => ?_) (fun c_3 => ?_)
  · have h := h.1 c_3
    refine lv_aload_n X.1 X.2.1 dX5_addMultiple_12 rfl (lv_at hl 1 rfl) ?_
    refine lv_iconst (v := 0) X.1 X.2.1 dX5_addMultiple_13 (by decide) ?_
    refine pf_X3_size X hK hP hS hq1 tl_X5_51 dX5_addMultiple_14 (fun S_4 H locs eS_4 hP hS => ?_)
    have h := h S_4 eS_4
    refine lv_iconst (v := 0) X.1 X.2.1 dX5_addMultiple_17 (by decide) ?_
    refine lv_istore (lv' := [(6, .int 0), (0, .ref (G.1 + 1)), (1, .ref (G.1 + q1)), (2, .ref (G.1 + q2)), (3, .ref (G.1 + q3)), (4, .int x4), (5, .int x5)]) X.1 X.2.1 dX5_addMultiple_18 hl (by decide) rfl (fun ls hl => ?_)
    refine lv_iconst (v := 0) X.1 X.2.1 dX5_addMultiple_20 (by decide) ?_
    refine lv_istore (lv' := [(7, .int 0), (6, .int 0), (0, .ref (G.1 + 1)), (1, .ref (G.1 + q1)), (2, .ref (G.1 + q2)), (3, .ref (G.1 + q3)), (4, .int x4), (5, .int x5)]) X.1 X.2.1 dX5_addMultiple_21 hl (by decide) rfl (fun ls hl => ?_)
    refine lv_aload_n X.1 X.2.1 dX5_addMultiple_23 rfl (lv_at hl 4 rfl) ?_
    refine gf_X3_size X hK hP hq2 tl_X5_51 dX5_addMultiple_24 ?_
    refine lv_aload_n X.1 X.2.1 dX5_addMultiple_27 rfl (lv_at hl 5 rfl) ?_
    refine gf_X3_size X hK hP hq3 tl_X5_51 dX5_addMultiple_28 ?_
    refine lv_iadd X.1 X.2.1 dX5_addMultiple_31 ?_
    refine lv_topi (fun x8_5 e8_5 => ?_)
    have h := h x8_5 e8_5
    refine lv_istore (lv' := [(8, .int x8_5), (7, .int 0), (6, .int 0), (0, .ref (G.1 + 1)), (1, .ref (G.1 + q1)), (2, .ref (G.1 + q2)), (3, .ref (G.1 + q3)), (4, .int x4), (5, .int x5)]) X.1 X.2.1 dX5_addMultiple_32 hl (by decide) rfl (fun ls hl => ?_)
    obtain ⟨f_6, h⟩ := h
    exact B34 f_6 0 0 x8_5 S_4 _ (lv_sub hl [3, 4, 5, 6, 7, 8, 2, 1, 0] rfl) h _ _ hP hS
  · have h := h.2 c_3
    refine lv_bipush (v := (-5)) X.1 X.2.1 dX5_addMultiple_9 (by decide) ?_
    exact q_iret X hr hlocks hP hS rfl h dX5_addMultiple_11

set_option maxHeartbeats 4000000 in
set_option maxRecDepth 100000 in
theorem c_X5_greatestToMeet (l : Launch) (G : Cx) (q1 : Nat) (q2 : Nat) (S : St) (K : Int32 → St → Prop) (hq1 : isP q1) (hq2 : isP q2) (h : w_X5_greatestToMeet q1 q2 S K) : q_Met l yX5_greatestToMeet cX5_greatestToMeet 6 (some .int) 1 27 G [.ref (G.1 + 1), .ref (G.1 + q1), .ref (G.1 + q2)] v_i S K := by
  refine q_enter (by decide +kernel) (Nat.le_of_ble_eq_true rfl) (fun p e s m args below meth c ls X hK hP hr hlocks hl => ?_)
  have hS : va_S (fr_ G) s.heap s.heap [] := va_S.rf
  have hl : lv_has ls 6 [(0, .ref (G.1 + 1)), (1, .ref (G.1 + q1)), (2, .ref (G.1 + q2))] := hl
  have B71 : ∀ (x3 : Int32) (x4 : Int32) (k5 : Int32 → Int32 → St → Prop) (hk5 : ∀ (x3 : Int32) (x4 : Int32) (S : St) (ls : Array Slot), lv_has ls 6 [(0, .ref (G.1 + 1)), (1, .ref (G.1 + q1)), (2, .ref (G.1 + q2)), (3, .int x3), (4, .int x4)] → k5 x3 x4 S → q_W p l e (k2_rm 1 27) s m args below meth c 0 0 (MQ below (q_Qc G K v_i) args s 0 0 (fr_ G)) G 5 ls [] S) (S : St) (ls : Array Slot), lv_has ls 6 [(0, .ref (G.1 + 1)), (1, .ref (G.1 + q1)), (2, .ref (G.1 + q2)), (3, .int x3), (4, .int x4)] → w_X5_greatestToMeet_71 q1 q2 K k5 x3 x4 S → q_W p l e (k2_rm 1 27) s m args below meth c 0 0 (MQ below (q_Qc G K v_i) args s 0 0 (fr_ G)) G 71 ls [] S := by
    intro x3 x4 k5 hk5 S ls hl h H locs hP hS
    obtain ⟨x4_1, e4_1⟩ : ∃ y : Int32, y = x4 + 1 := ⟨_, rfl⟩
    have h := h x4_1 e4_1
    refine lv_iinc (v := x4_1) (lv' := [(4, .int x4_1), (0, .ref (G.1 + 1)), (1, .ref (G.1 + q1)), (2, .ref (G.1 + q2)), (3, .int x3)]) X.1 X.2.1 dX5_greatestToMeet_71 hl (k := 4) rfl (by rw [e4_1]; first | rfl | decide) (by decide) rfl (fun ls hl => ?_)
    refine lv_goto (tgt := 5) X.1 X.2.1 dX5_greatestToMeet_74 (by decide) ?_
    exact hk5 x3 x4_1 S _ (lv_sub hl [1, 2, 3, 4, 0] rfl) h _ _ hP hS
  have B68 : ∀ (x4 : Int32) (x5 : Int32) (k5 : Int32 → Int32 → St → Prop) (hk5 : ∀ (x3 : Int32) (x4 : Int32) (S : St) (ls : Array Slot), lv_has ls 6 [(0, .ref (G.1 + 1)), (1, .ref (G.1 + q1)), (2, .ref (G.1 + q2)), (3, .int x3), (4, .int x4)] → k5 x3 x4 S → q_W p l e (k2_rm 1 27) s m args below meth c 0 0 (MQ below (q_Qc G K v_i) args s 0 0 (fr_ G)) G 5 ls [] S) (S : St) (ls : Array Slot), lv_has ls 6 [(0, .ref (G.1 + 1)), (1, .ref (G.1 + q1)), (2, .ref (G.1 + q2)), (4, .int x4), (5, .int x5)] → w_X5_greatestToMeet_68 q1 q2 K k5 x4 x5 S → q_W p l e (k2_rm 1 27) s m args below meth c 0 0 (MQ below (q_Qc G K v_i) args s 0 0 (fr_ G)) G 68 ls [] S := by
    intro x4 x5 k5 hk5 S ls hl h H locs hP hS
    refine lv_iload X.1 X.2.1 dX5_greatestToMeet_68 (lv_at hl 4 rfl) ?_
    refine lv_istore_n (lv' := [(3, .int x5), (0, .ref (G.1 + 1)), (1, .ref (G.1 + q1)), (2, .ref (G.1 + q2)), (4, .int x4), (5, .int x5)]) X.1 X.2.1 dX5_greatestToMeet_70 rfl hl (by decide) rfl (fun ls hl => ?_)
    exact B71 x5 x4 k5 hk5 S _ (lv_sub hl [1, 2, 3, 0, 4] rfl) h _ _ hP hS
  have B5 : ∀ (f : Nat) (x3 : Int32) (x4 : Int32) (S : St) (ls : Array Slot), lv_has ls 6 [(0, .ref (G.1 + 1)), (1, .ref (G.1 + q1)), (2, .ref (G.1 + q2)), (3, .int x3), (4, .int x4)] → q_it (fun _ _ _ => False) (w_X5_greatestToMeet_5 q1 q2 K) f x3 x4 S → q_W p l e (k2_rm 1 27) s m args below meth c 0 0 (MQ below (q_Qc G K v_i) args s 0 0 (fr_ G)) G 5 ls [] S := by
    intro f
    induction f with
    | zero => intro x3 x4 S ls hl h; exact False.elim h
    | succ f hk5 =>
      intro x3 x4 S ls hl h H locs hP hS
      have h : w_X5_greatestToMeet_5 q1 q2 K (q_it (fun _ _ _ => False) (w_X5_greatestToMeet_5 q1 q2 K) f) x3 x4 S := h
      generalize q_it (fun _ _ _ => False) (w_X5_greatestToMeet_5 q1 q2 K) f = k5 at h hk5
      refine lv_iload X.1 X.2.1 dX5_greatestToMeet_5 (lv_at hl 4 rfl) ?_
      refine lv_aload_n X.1 X.2.1 dX5_greatestToMeet_7 rfl (lv_at hl 1 rfl) ?_
      refine gf_X3_size X hK hP hq1 tl_X5_51 dX5_greatestToMeet_8 ?_
      refine lv_icmp_ge (tgt := 77) X.1 X.2.1 dX5_greatestToMeet_11 (by decide) (fun c_1 => ?_) (fun c_1 => ?_)
      · have h := h.1 c_1
        refine lv_iload_n X.1 X.2.1 dX5_greatestToMeet_77 rfl (lv_at hl 3 rfl) ?_
        exact q_iret X hr hlocks hP hS rfl h dX5_greatestToMeet_78
      · have h := h.2 c_1
        refine lv_aload_n X.1 X.2.1 dX5_greatestToMeet_14 rfl (lv_at hl 0 rfl) ?_
        refine gf_X5_meets X hK hP tl_X5_19 dX5_greatestToMeet_15 ?_
        refine lv_iload X.1 X.2.1 dX5_greatestToMeet_18 (lv_at hl 4 rfl) ?_
        obtain ⟨o_2, h⟩ := h
        refine q_iald X hK hP kz_3 o_2 dX5_greatestToMeet_20 ?_
        refine lv_aload_n X.1 X.2.1 dX5_greatestToMeet_21 rfl (lv_at hl 2 rfl) ?_
        refine gf_X3_size X hK hP hq2 tl_X5_51 dX5_greatestToMeet_22 ?_
        refine lv_icmp_ge (tgt := 71) X.1 X.2.1 dX5_greatestToMeet_25 (by decide) (fun c_3 => ?_) (fun c_3 => ?_)
        · have h := h.1 c_3
          exact B71 x3 x4 k5 hk5 S _ (lv_sub hl [0, 1, 2, 3, 4] rfl) h _ _ hP hS
        · have h := h.2 c_3
          refine lv_aload_n X.1 X.2.1 dX5_greatestToMeet_28 rfl (lv_at hl 1 rfl) ?_
          refine gf_X3_monos X hK hP hq1 tl_X5_57 dX5_greatestToMeet_29 ?_
          refine lv_iload X.1 X.2.1 dX5_greatestToMeet_32 (lv_at hl 4 rfl) ?_
          refine q_iald X hK hP (isP_2 hq1) o_2 dX5_greatestToMeet_34 ?_
          refine lv_aload_n X.1 X.2.1 dX5_greatestToMeet_35 rfl (lv_at hl 2 rfl) ?_
          refine gf_X3_monos X hK hP hq2 tl_X5_57 dX5_greatestToMeet_36 ?_
          refine lv_aload_n X.1 X.2.1 dX5_greatestToMeet_39 rfl (lv_at hl 0 rfl) ?_
          refine gf_X5_meets X hK hP tl_X5_19 dX5_greatestToMeet_40 ?_
          refine lv_iload X.1 X.2.1 dX5_greatestToMeet_43 (lv_at hl 4 rfl) ?_
          refine q_iald X hK hP kz_3 o_2 dX5_greatestToMeet_45 ?_
          obtain ⟨o_4, h⟩ := h
          refine q_iald X hK hP (isP_2 hq2) o_4 dX5_greatestToMeet_46 ?_
          refine lv_iadd X.1 X.2.1 dX5_greatestToMeet_47 ?_
          refine lv_topi (fun x5_5 e5_5 => ?_)
          have h := h x5_5 e5_5
          refine lv_istore (lv' := [(5, .int x5_5), (0, .ref (G.1 + 1)), (1, .ref (G.1 + q1)), (2, .ref (G.1 + q2)), (3, .int x3), (4, .int x4)]) X.1 X.2.1 dX5_greatestToMeet_48 hl (by decide) rfl (fun ls hl => ?_)
          refine lv_iload_n X.1 X.2.1 dX5_greatestToMeet_50 rfl (lv_at hl 4 rfl) ?_
          refine lv_if_lt (tgt := 68) X.1 X.2.1 dX5_greatestToMeet_51 (by decide) (fun c_6 => ?_) (fun c_6 => ?_)
          · have h := h.1 c_6
            exact B68 x4 x5_5 k5 hk5 S _ (lv_sub hl [1, 2, 3, 5, 0] rfl) h _ _ hP hS
          · have h := h.2 c_6
            refine lv_aload_n X.1 X.2.1 dX5_greatestToMeet_54 rfl (lv_at hl 1 rfl) ?_
            refine lv_iload X.1 X.2.1 dX5_greatestToMeet_55 (lv_at hl 0 rfl) ?_
            refine q_callV (rest := []) (b := 1) X hK hP hS (c_X5_rank l G x5_5 S _ h) my_X5_rank tl_X5_60 dX5_greatestToMeet_57 kz_1 rfl rfl rfl ⟨Nat.le_of_ble_eq_true rfl, Nat.le_of_ble_eq_true rfl⟩ hl.1 rfl (Nat.le_of_ble_eq_true rfl) ⟨Nat.le_of_ble_eq_true rfl, Nat.le_of_ble_eq_true rfl⟩ (fun r_8 S_7 H locs h hP hS => ?_)
            refine W.eq (g2 := F0 m 60 ls [.int r_8]) rfl ?_
            refine lv_aload_n X.1 X.2.1 dX5_greatestToMeet_60 rfl (lv_at hl 1 rfl) ?_
            refine lv_iload_n X.1 X.2.1 dX5_greatestToMeet_61 rfl (lv_at hl 4 rfl) ?_
            refine q_callV (rest := [.int r_8]) (b := 1) X hK hP hS (c_X5_rank l G x3 S_7 _ h) my_X5_rank tl_X5_60 dX5_greatestToMeet_62 kz_1 rfl rfl rfl ⟨Nat.le_of_ble_eq_true rfl, Nat.le_of_ble_eq_true rfl⟩ hl.1 rfl (Nat.le_of_ble_eq_true rfl) ⟨Nat.le_of_ble_eq_true rfl, Nat.le_of_ble_eq_true rfl⟩ (fun r_10 S_9 H locs h hP hS => ?_)
            refine W.eq (g2 := F0 m 65 ls [.int r_10, .int r_8]) rfl ?_
            refine lv_icmp_le (tgt := 71) X.1 X.2.1 dX5_greatestToMeet_65 (by decide) (fun c_11 => ?_) (fun c_11 => ?_)
            · have h := h.1 c_11
              exact B71 x3 x4 k5 hk5 S_9 _ (lv_sub hl [1, 2, 3, 4, 5] rfl) h _ _ hP hS
            · have h := h.2 c_11
              exact B68 x4 x5_5 k5 hk5 S_9 _ (lv_sub hl [1, 2, 3, 5, 0] rfl) h _ _ hP hS
  refine lv_iconst (v := (-1)) X.1 X.2.1 dX5_greatestToMeet_0 (by decide) ?_
  refine lv_istore_n (lv' := [(3, .int (-1)), (0, .ref (G.1 + 1)), (1, .ref (G.1 + q1)), (2, .ref (G.1 + q2))]) X.1 X.2.1 dX5_greatestToMeet_1 rfl hl (by decide) rfl (fun ls hl => ?_)
  refine lv_iconst (v := 0) X.1 X.2.1 dX5_greatestToMeet_2 (by decide) ?_
  refine lv_istore (lv' := [(4, .int 0), (3, .int (-1)), (0, .ref (G.1 + 1)), (1, .ref (G.1 + q1)), (2, .ref (G.1 + q2))]) X.1 X.2.1 dX5_greatestToMeet_3 hl (by decide) rfl (fun ls hl => ?_)
  obtain ⟨f_1, h⟩ := h
  exact B5 f_1 (-1) 0 S _ (lv_sub hl [2, 3, 4, 1, 0] rfl) h _ _ hP hS

set_option maxHeartbeats 4000000 in
set_option maxRecDepth 100000 in
theorem c_X5_takeProducts (l : Launch) (G : Cx) (q1 : Nat) (q2 : Nat) (x3 : Int32) (S : St) (K : Int32 → St → Prop) (hq1 : isP q1) (hq2 : isP q2) (h : w_X5_takeProducts q1 q2 x3 S K) : q_Met l yX5_takeProducts cX5_takeProducts 7 (some .int) 2 43 G [.ref (G.1 + 1), .ref (G.1 + q1), .ref (G.1 + q2), .int x3] v_i S K := by
  refine q_enter (by decide +kernel) (Nat.le_of_ble_eq_true rfl) (fun p e s m args below meth c ls X hK hP hr hlocks hl => ?_)
  have hS : va_S (fr_ G) s.heap s.heap [] := va_S.rf
  have hl : lv_has ls 7 [(0, .ref (G.1 + 1)), (1, .ref (G.1 + q1)), (2, .ref (G.1 + q2)), (3, .int x3)] := hl
  have B87 : ∀ (x4 : Int32) (x5 : Int32) (k6 : Int32 → Int32 → St → Prop) (hk6 : ∀ (x4 : Int32) (x5 : Int32) (S : St) (ls : Array Slot), lv_has ls 7 [(0, .ref (G.1 + 1)), (1, .ref (G.1 + q1)), (2, .ref (G.1 + q2)), (3, .int x3), (4, .int x4), (5, .int x5)] → k6 x4 x5 S → q_W p l e (k2_rm 2 43) s m args below meth c 0 0 (MQ below (q_Qc G K v_i) args s 0 0 (fr_ G)) G 6 ls [] S) (S : St) (ls : Array Slot), lv_has ls 7 [(0, .ref (G.1 + 1)), (1, .ref (G.1 + q1)), (2, .ref (G.1 + q2)), (3, .int x3), (4, .int x4), (5, .int x5)] → w_X5_takeProducts_87 q1 q2 x3 K k6 x4 x5 S → q_W p l e (k2_rm 2 43) s m args below meth c 0 0 (MQ below (q_Qc G K v_i) args s 0 0 (fr_ G)) G 87 ls [] S := by
    intro x4 x5 k6 hk6 S ls hl h H locs hP hS
    obtain ⟨x5_1, e5_1⟩ : ∃ y : Int32, y = x5 + 1 := ⟨_, rfl⟩
    have h := h x5_1 e5_1
    refine lv_iinc (v := x5_1) (lv' := [(5, .int x5_1), (0, .ref (G.1 + 1)), (1, .ref (G.1 + q1)), (2, .ref (G.1 + q2)), (3, .int x3), (4, .int x4)]) X.1 X.2.1 dX5_takeProducts_87 hl (k := 5) rfl (by rw [e5_1]; first | rfl | decide) (by decide) rfl (fun ls hl => ?_)
    refine lv_goto (tgt := 6) X.1 X.2.1 dX5_takeProducts_90 (by decide) ?_
    exact hk6 x4 x5_1 S _ (lv_sub hl [1, 2, 3, 4, 5, 0] rfl) h _ _ hP hS
  have B6 : ∀ (f : Nat) (x4 : Int32) (x5 : Int32) (S : St) (ls : Array Slot), lv_has ls 7 [(0, .ref (G.1 + 1)), (1, .ref (G.1 + q1)), (2, .ref (G.1 + q2)), (3, .int x3), (4, .int x4), (5, .int x5)] → q_it (fun _ _ _ => False) (w_X5_takeProducts_6 q1 q2 x3 K) f x4 x5 S → q_W p l e (k2_rm 2 43) s m args below meth c 0 0 (MQ below (q_Qc G K v_i) args s 0 0 (fr_ G)) G 6 ls [] S := by
    intro f
    induction f with
    | zero => intro x4 x5 S ls hl h; exact False.elim h
    | succ f hk6 =>
      intro x4 x5 S ls hl h H locs hP hS
      have h : w_X5_takeProducts_6 q1 q2 x3 K (q_it (fun _ _ _ => False) (w_X5_takeProducts_6 q1 q2 x3 K) f) x4 x5 S := h
      generalize q_it (fun _ _ _ => False) (w_X5_takeProducts_6 q1 q2 x3 K) f = k6 at h hk6
      refine lv_iload X.1 X.2.1 dX5_takeProducts_6 (lv_at hl 5 rfl) ?_
      refine lv_aload_n X.1 X.2.1 dX5_takeProducts_8 rfl (lv_at hl 1 rfl) ?_
      refine gf_X3_size X hK hP hq1 tl_X5_51 dX5_takeProducts_9 ?_
      refine lv_icmp_ge (tgt := 93) X.1 X.2.1 dX5_takeProducts_12 (by decide) (fun c_1 => ?_) (fun c_1 => ?_)
      · have h := h.1 c_1
        refine lv_iload X.1 X.2.1 dX5_takeProducts_93 (lv_at hl 4 rfl) ?_
        exact q_iret X hr hlocks hP hS rfl h dX5_takeProducts_95
      · have h := h.2 c_1
        refine lv_aload_n X.1 X.2.1 dX5_takeProducts_15 rfl (lv_at hl 0 rfl) ?_
        refine gf_X5_meets X hK hP tl_X5_19 dX5_takeProducts_16 ?_
        refine lv_iload X.1 X.2.1 dX5_takeProducts_19 (lv_at hl 5 rfl) ?_
        obtain ⟨o_2, h⟩ := h
        refine q_iald X hK hP kz_3 o_2 dX5_takeProducts_21 ?_
        refine lv_topi (fun x6_3 e6_3 => ?_)
        have h := h x6_3 e6_3
        refine lv_istore (lv' := [(6, .int x6_3), (0, .ref (G.1 + 1)), (1, .ref (G.1 + q1)), (2, .ref (G.1 + q2)), (3, .int x3), (4, .int x4), (5, .int x5)]) X.1 X.2.1 dX5_takeProducts_22 hl (by decide) rfl (fun ls hl => ?_)
        refine lv_iload X.1 X.2.1 dX5_takeProducts_24 (lv_at hl 0 rfl) ?_
        refine lv_aload_n X.1 X.2.1 dX5_takeProducts_26 rfl (lv_at hl 3 rfl) ?_
        refine gf_X3_size X hK hP hq2 tl_X5_51 dX5_takeProducts_27 ?_
        refine lv_icmp_ge (tgt := 87) X.1 X.2.1 dX5_takeProducts_30 (by decide) (fun c_4 => ?_) (fun c_4 => ?_)
        · have h := h.1 c_4
          exact B87 x4 x5 k6 hk6 S _ (lv_sub hl [1, 2, 3, 4, 5, 6] rfl) h _ _ hP hS
        · have h := h.2 c_4
          refine lv_aload_n X.1 X.2.1 dX5_takeProducts_33 rfl (lv_at hl 2 rfl) ?_
          refine gf_X3_monos X hK hP hq1 tl_X5_57 dX5_takeProducts_34 ?_
          refine lv_iload X.1 X.2.1 dX5_takeProducts_37 (lv_at hl 6 rfl) ?_
          refine q_iald X hK hP (isP_2 hq1) o_2 dX5_takeProducts_39 ?_
          refine lv_aload_n X.1 X.2.1 dX5_takeProducts_40 rfl (lv_at hl 3 rfl) ?_
          refine gf_X3_monos X hK hP hq2 tl_X5_57 dX5_takeProducts_41 ?_
          refine lv_iload X.1 X.2.1 dX5_takeProducts_44 (lv_at hl 0 rfl) ?_
          obtain ⟨o_5, h⟩ := h
          refine q_iald X hK hP (isP_2 hq2) o_5 dX5_takeProducts_46 ?_
          refine lv_iadd X.1 X.2.1 dX5_takeProducts_47 ?_
          refine lv_iload_n X.1 X.2.1 dX5_takeProducts_48 rfl (lv_at hl 4 rfl) ?_
          refine lv_icmp_ne (tgt := 87) X.1 X.2.1 dX5_takeProducts_49 (by decide) (fun c_6 => ?_) (fun c_6 => ?_)
          · have h := h.1 c_6
            exact B87 x4 x5 k6 hk6 S _ (lv_sub hl [1, 2, 3, 4, 5, 6] rfl) h _ _ hP hS
          · have h := h.2 c_6
            refine lv_aload_n X.1 X.2.1 dX5_takeProducts_52 rfl (lv_at hl 1 rfl) ?_
            refine lv_iload X.1 X.2.1 dX5_takeProducts_53 (lv_at hl 5 rfl) ?_
            refine lv_aload_n X.1 X.2.1 dX5_takeProducts_55 rfl (lv_at hl 2 rfl) ?_
            refine gf_X3_numbers X hK hP hq1 tl_X5_54 dX5_takeProducts_56 ?_
            refine lv_iload X.1 X.2.1 dX5_takeProducts_59 (lv_at hl 6 rfl) ?_
            refine q_iald X hK hP (isP_1 hq1) o_2 dX5_takeProducts_61 ?_
            refine lv_aload_n X.1 X.2.1 dX5_takeProducts_62 rfl (lv_at hl 3 rfl) ?_
            refine gf_X3_numbers X hK hP hq2 tl_X5_54 dX5_takeProducts_63 ?_
            refine lv_iload X.1 X.2.1 dX5_takeProducts_66 (lv_at hl 0 rfl) ?_
            refine q_iald X hK hP (isP_1 hq2) o_5 dX5_takeProducts_68 ?_
            refine lv_imul X.1 X.2.1 dX5_takeProducts_69 ?_
            refine lv_iadd X.1 X.2.1 dX5_takeProducts_70 ?_
            refine q_callV (rest := []) (b := 1) X hK hP hS (c_X5_restOf l G (x4 + ((S (q1 + 1) (q_rf x5)) * (S (q2 + 1) (q_rf x6_3)))) S _ h) my_X5_restOf tl_X5_76 dX5_takeProducts_71 kz_1 rfl rfl rfl ⟨Nat.le_of_ble_eq_true rfl, Nat.le_of_ble_eq_true rfl⟩ hl.1 rfl (Nat.le_of_ble_eq_true rfl) ⟨Nat.le_of_ble_eq_true rfl, Nat.le_of_ble_eq_true rfl⟩ (fun r_8 S_7 H locs h hP hS => ?_)
            refine W.eq (g2 := F0 m 74 ls [.int r_8]) rfl ?_
            refine lv_istore (lv' := [(4, .int r_8), (6, .int x6_3), (0, .ref (G.1 + 1)), (1, .ref (G.1 + q1)), (2, .ref (G.1 + q2)), (3, .int x3), (5, .int x5)]) X.1 X.2.1 dX5_takeProducts_74 hl (by decide) rfl (fun ls hl => ?_)
            refine lv_aload_n X.1 X.2.1 dX5_takeProducts_76 rfl (lv_at hl 2 rfl) ?_
            refine gf_X5_meets X hK hP tl_X5_19 dX5_takeProducts_77 ?_
            refine lv_iload X.1 X.2.1 dX5_takeProducts_80 (lv_at hl 6 rfl) ?_
            refine lv_dup2_11 X.1 X.2.1 dX5_takeProducts_82 rfl rfl ?_
            refine q_iald X hK hP kz_3 o_2 dX5_takeProducts_83 ?_
            refine lv_iconst (v := 1) X.1 X.2.1 dX5_takeProducts_84 (by decide) ?_
            refine lv_iadd X.1 X.2.1 dX5_takeProducts_85 ?_
            refine q_iast X hK hP hS kz_3 o_2 dX5_takeProducts_86 (fun S_9 H locs eS_9 hP hS => ?_)
            have h := h S_9 eS_9
            exact B87 r_8 x5 k6 hk6 S_9 _ (lv_sub hl [2, 3, 4, 5, 0, 6] rfl) h _ _ hP hS
  refine lv_iconst (v := 0) X.1 X.2.1 dX5_takeProducts_0 (by decide) ?_
  refine lv_istore (lv' := [(4, .int 0), (0, .ref (G.1 + 1)), (1, .ref (G.1 + q1)), (2, .ref (G.1 + q2)), (3, .int x3)]) X.1 X.2.1 dX5_takeProducts_1 hl (by decide) rfl (fun ls hl => ?_)
  refine lv_iconst (v := 0) X.1 X.2.1 dX5_takeProducts_3 (by decide) ?_
  refine lv_istore (lv' := [(5, .int 0), (4, .int 0), (0, .ref (G.1 + 1)), (1, .ref (G.1 + q1)), (2, .ref (G.1 + q2)), (3, .int x3)]) X.1 X.2.1 dX5_takeProducts_4 hl (by decide) rfl (fun ls hl => ?_)
  obtain ⟨f_1, h⟩ := h
  exact B6 f_1 0 0 S _ (lv_sub hl [2, 3, 4, 5, 1, 0] rfl) h _ _ hP hS

set_option maxHeartbeats 4000000 in
set_option maxRecDepth 100000 in
theorem c_X5_multiply (l : Launch) (G : Cx) (q1 : Nat) (q2 : Nat) (q3 : Nat) (S : St) (K : Int32 → St → Prop) (hq1 : isP q1) (hq2 : isP q2) (hq3 : isP q3) (h : w_X5_multiply q1 q2 q3 S K) : q_Met l yX5_multiply cX5_multiply 7 (some .int) 3 69 G [.ref (G.1 + 1), .ref (G.1 + q1), .ref (G.1 + q2), .ref (G.1 + q3)] v_i S K := by
  refine q_enter (by decide +kernel) (Nat.le_of_ble_eq_true rfl) (fun p e s m args below meth c ls X hK hP hr hlocks hl => ?_)
  have hS : va_S (fr_ G) s.heap s.heap [] := va_S.rf
  have hl : lv_has ls 7 [(0, .ref (G.1 + 1)), (1, .ref (G.1 + q1)), (2, .ref (G.1 + q2)), (3, .ref (G.1 + q3))] := hl
  have B108 : ∀ (x4 : Int32) (k59 : Int32 → St → Prop) (hk59 : ∀ (x4 : Int32) (S : St) (ls : Array Slot), lv_has ls 7 [(0, .ref (G.1 + 1)), (1, .ref (G.1 + q1)), (2, .ref (G.1 + q2)), (3, .ref (G.1 + q3)), (4, .int x4)] → k59 x4 S → q_W p l e (k2_rm 3 69) s m args below meth c 0 0 (MQ below (q_Qc G K v_i) args s 0 0 (fr_ G)) G 59 ls [] S) (S : St) (ls : Array Slot), lv_has ls 7 [(0, .ref (G.1 + 1)), (1, .ref (G.1 + q1)), (2, .ref (G.1 + q2)), (3, .ref (G.1 + q3)), (4, .int x4)] → w_X5_multiply_108 q1 q2 q3 K k59 x4 S → q_W p l e (k2_rm 3 69) s m args below meth c 0 0 (MQ below (q_Qc G K v_i) args s 0 0 (fr_ G)) G 108 ls [] S := by
    intro x4 k59 hk59 S ls hl h H locs hP hS
    obtain ⟨x4_1, e4_1⟩ : ∃ y : Int32, y = x4 + (-1) := ⟨_, rfl⟩
    have h := h x4_1 e4_1
    refine lv_iinc (v := x4_1) (lv' := [(4, .int x4_1), (0, .ref (G.1 + 1)), (1, .ref (G.1 + q1)), (2, .ref (G.1 + q2)), (3, .ref (G.1 + q3))]) X.1 X.2.1 dX5_multiply_108 hl (k := 4) rfl (by rw [e4_1]; first | rfl | decide) (by decide) rfl (fun ls hl => ?_)
    refine lv_goto (tgt := 59) X.1 X.2.1 dX5_multiply_111 (by decide) ?_
    exact hk59 x4_1 S _ (lv_sub hl [1, 2, 3, 4, 0] rfl) h _ _ hP hS
  have B59 : ∀ (f : Nat) (x4 : Int32) (S : St) (ls : Array Slot), lv_has ls 7 [(0, .ref (G.1 + 1)), (1, .ref (G.1 + q1)), (2, .ref (G.1 + q2)), (3, .ref (G.1 + q3)), (4, .int x4)] → q_it (fun _ _ => False) (w_X5_multiply_59 q1 q2 q3 K) f x4 S → q_W p l e (k2_rm 3 69) s m args below meth c 0 0 (MQ below (q_Qc G K v_i) args s 0 0 (fr_ G)) G 59 ls [] S := by
    intro f
    induction f with
    | zero => intro x4 S ls hl h; exact False.elim h
    | succ f hk59 =>
      intro x4 S ls hl h H locs hP hS
      have h : w_X5_multiply_59 q1 q2 q3 K (q_it (fun _ _ => False) (w_X5_multiply_59 q1 q2 q3 K) f) x4 S := h
      generalize q_it (fun _ _ => False) (w_X5_multiply_59 q1 q2 q3 K) f = k59 at h hk59
      refine lv_iload X.1 X.2.1 dX5_multiply_59 (lv_at hl 4 rfl) ?_
      refine lv_if_le (tgt := 114) X.1 X.2.1 dX5_multiply_61 (by decide) (fun c_1 => ?_) (fun c_1 => ?_)
      · have h := h.1 c_1
        refine lv_iconst (v := 0) X.1 X.2.1 dX5_multiply_114 (by decide) ?_
        exact q_iret X hr hlocks hP hS rfl h dX5_multiply_115
      · have h := h.2 c_1
        refine lv_aload_n X.1 X.2.1 dX5_multiply_64 rfl (lv_at hl 0 rfl) ?_
        refine lv_aload_n X.1 X.2.1 dX5_multiply_65 rfl (lv_at hl 2 rfl) ?_
        refine lv_aload_n X.1 X.2.1 dX5_multiply_66 rfl (lv_at hl 3 rfl) ?_
        refine q_callV (rest := []) (b := 1) X hK hP hS (c_X5_greatestToMeet l G q2 q3 S _ hq2 hq3 h) my_X5_greatestToMeet tl_X5_94 dX5_multiply_67 kz_1 rfl rfl rfl ⟨Nat.le_of_ble_eq_true rfl, Nat.le_of_ble_eq_true rfl⟩ hl.1 rfl (Nat.le_of_ble_eq_true rfl) ⟨Nat.le_of_ble_eq_true rfl, Nat.le_of_ble_eq_true rfl⟩ (fun r_3 S_2 H locs h hP hS => ?_)
        refine W.eq (g2 := F0 m 70 ls [.int r_3]) rfl ?_
        refine lv_istore (lv' := [(5, .int r_3), (0, .ref (G.1 + 1)), (1, .ref (G.1 + q1)), (2, .ref (G.1 + q2)), (3, .ref (G.1 + q3)), (4, .int x4)]) X.1 X.2.1 dX5_multiply_70 hl (by decide) rfl (fun ls hl => ?_)
        refine lv_iload X.1 X.2.1 dX5_multiply_72 (lv_at hl 0 rfl) ?_
        refine lv_if_ge (tgt := 79) X.1 X.2.1 dX5_multiply_74 (by decide) (fun c_4 => ?_) (fun c_4 => ?_)
        · have h := h.1 c_4
          refine lv_aload_n X.1 X.2.1 dX5_multiply_79 rfl (lv_at hl 1 rfl) ?_
          refine lv_aload_n X.1 X.2.1 dX5_multiply_80 rfl (lv_at hl 3 rfl) ?_
          refine lv_aload_n X.1 X.2.1 dX5_multiply_81 rfl (lv_at hl 4 rfl) ?_
          refine lv_iload X.1 X.2.1 dX5_multiply_82 (lv_at hl 0 rfl) ?_
          refine q_callV (rest := []) (b := 1) X hK hP hS (c_X5_takeProducts l G q2 q3 r_3 S_2 _ hq2 hq3 h) my_X5_takeProducts tl_X5_98 dX5_multiply_84 kz_1 rfl rfl rfl ⟨Nat.le_of_ble_eq_true rfl, Nat.le_of_ble_eq_true rfl⟩ hl.1 rfl (Nat.le_of_ble_eq_true rfl) ⟨Nat.le_of_ble_eq_true rfl, Nat.le_of_ble_eq_true rfl⟩ (fun r_6 S_5 H locs h hP hS => ?_)
          refine W.eq (g2 := F0 m 87 ls [.int r_6]) rfl ?_
          refine lv_istore (lv' := [(6, .int r_6), (5, .int r_3), (0, .ref (G.1 + 1)), (1, .ref (G.1 + q1)), (2, .ref (G.1 + q2)), (3, .ref (G.1 + q3)), (4, .int x4)]) X.1 X.2.1 dX5_multiply_87 hl (by decide) rfl (fun ls hl => ?_)
          refine lv_iload X.1 X.2.1 dX5_multiply_89 (lv_at hl 0 rfl) ?_
          refine lv_if_eq (tgt := 108) X.1 X.2.1 dX5_multiply_91 (by decide) (fun c_7 => ?_) (fun c_7 => ?_)
          · have h := h.1 c_7
            exact B108 x4 k59 hk59 S_5 _ (lv_sub hl [2, 3, 4, 5, 6] rfl) h _ _ hP hS
          · have h := h.2 c_7
            refine lv_aload_n X.1 X.2.1 dX5_multiply_94 rfl (lv_at hl 3 rfl) ?_
            refine lv_iload X.1 X.2.1 dX5_multiply_95 (lv_at hl 0 rfl) ?_
            refine lv_iload X.1 X.2.1 dX5_multiply_97 (lv_at hl 1 rfl) ?_
            refine q_callV (rest := []) (b := q1) X hK hP hS (c_X3_push l G q1 r_6 r_3 S_5 _ hq1 h) my_X3_push tl_X5_79 dX5_multiply_99 hq1 rfl rfl rfl ⟨Nat.le_of_ble_eq_true rfl, Nat.le_of_ble_eq_true rfl⟩ hl.1 rfl (Nat.le_of_ble_eq_true rfl) ⟨Nat.le_of_ble_eq_true rfl, Nat.le_of_ble_eq_true rfl⟩ (fun r_9 S_8 H locs h hP hS => ?_)
            refine W.eq (g2 := F0 m 102 ls [.int r_9]) rfl ?_
            refine lv_if_ne (tgt := 108) X.1 X.2.1 dX5_multiply_102 (by decide) (fun c_10 => ?_) (fun c_10 => ?_)
            · have h := h.1 c_10
              exact B108 x4 k59 hk59 S_8 _ (lv_sub hl [2, 3, 4, 5, 6] rfl) h _ _ hP hS
            · have h := h.2 c_10
              refine lv_bipush (v := (-6)) X.1 X.2.1 dX5_multiply_105 (by decide) ?_
              exact q_iret X hr hlocks hP hS rfl h dX5_multiply_107
        · have h := h.2 c_4
          refine lv_iconst (v := 0) X.1 X.2.1 dX5_multiply_77 (by decide) ?_
          exact q_iret X hr hlocks hP hS rfl h dX5_multiply_78
  have B3 : ∀ (f : Nat) (x4 : Int32) (S : St) (ls : Array Slot), lv_has ls 7 [(0, .ref (G.1 + 1)), (1, .ref (G.1 + q1)), (2, .ref (G.1 + q2)), (3, .ref (G.1 + q3)), (4, .int x4)] → q_it (fun _ _ => False) (w_X5_multiply_3 q1 q2 q3 K) f x4 S → q_W p l e (k2_rm 3 69) s m args below meth c 0 0 (MQ below (q_Qc G K v_i) args s 0 0 (fr_ G)) G 3 ls [] S := by
    intro f
    induction f with
    | zero => intro x4 S ls hl h; exact False.elim h
    | succ f hk3 =>
      intro x4 S ls hl h H locs hP hS
      have h : w_X5_multiply_3 q1 q2 q3 K (q_it (fun _ _ => False) (w_X5_multiply_3 q1 q2 q3 K) f) x4 S := h
      generalize q_it (fun _ _ => False) (w_X5_multiply_3 q1 q2 q3 K) f = k3 at h hk3
      refine lv_iload X.1 X.2.1 dX5_multiply_3 (lv_at hl 4 rfl) ?_
      refine lv_aload_n X.1 X.2.1 dX5_multiply_5 rfl (lv_at hl 2 rfl) ?_
      refine gf_X3_size X hK hP hq2 tl_X5_51 dX5_multiply_6 ?_
      refine lv_icmp_ge (tgt := 35) X.1 X.2.1 dX5_multiply_9 (by decide) (fun c_1 => ?_) (fun c_1 => ?_)
      · have h := h.1 c_1
        refine lv_aload_n X.1 X.2.1 dX5_multiply_35 rfl (lv_at hl 1 rfl) ?_
        refine lv_iconst (v := 0) X.1 X.2.1 dX5_multiply_36 (by decide) ?_
        refine pf_X3_size X hK hP hS hq1 tl_X5_51 dX5_multiply_37 (fun S_2 H locs eS_2 hP hS => ?_)
        have h := h S_2 eS_2
        refine lv_aload_n X.1 X.2.1 dX5_multiply_40 rfl (lv_at hl 0 rfl) ?_
        refine gf_X5_meets X hK hP tl_X5_19 dX5_multiply_41 ?_
        refine lv_iconst (v := 0) X.1 X.2.1 dX5_multiply_44 (by decide) ?_
        refine q_callS (rest := []) X hK hP hS (c_J7_fill_53178 l G 3 0 S_2 _ ⟨kz_3.1, rfl⟩ h) my_J7_fill_53178 tl_X5_88 dX5_multiply_45 rfl ⟨Nat.le_of_ble_eq_true rfl, Nat.le_of_ble_eq_true rfl⟩ hl.1 rfl (Nat.le_of_ble_eq_true rfl) ⟨Nat.le_of_ble_eq_true rfl, Nat.le_of_ble_eq_true rfl⟩ (fun r_4 S_3 H locs h hP hS => ?_)
        refine W.eq (g2 := F0 m 48 ls []) rfl ?_
        refine lv_aload_n X.1 X.2.1 dX5_multiply_48 rfl (lv_at hl 2 rfl) ?_
        refine gf_X3_size X hK hP hq2 tl_X5_51 dX5_multiply_49 ?_
        refine lv_aload_n X.1 X.2.1 dX5_multiply_52 rfl (lv_at hl 3 rfl) ?_
        refine gf_X3_size X hK hP hq3 tl_X5_51 dX5_multiply_53 ?_
        refine lv_imul X.1 X.2.1 dX5_multiply_56 ?_
        refine lv_topi (fun x4_5 e4_5 => ?_)
        have h := h x4_5 e4_5
        refine lv_istore (lv' := [(4, .int x4_5), (0, .ref (G.1 + 1)), (1, .ref (G.1 + q1)), (2, .ref (G.1 + q2)), (3, .ref (G.1 + q3))]) X.1 X.2.1 dX5_multiply_57 hl (by decide) rfl (fun ls hl => ?_)
        obtain ⟨f_6, h⟩ := h
        exact B59 f_6 x4_5 S_3 _ (lv_sub hl [1, 2, 3, 4, 0] rfl) h _ _ hP hS
      · have h := h.2 c_1
        refine lv_aload_n X.1 X.2.1 dX5_multiply_12 rfl (lv_at hl 3 rfl) ?_
        refine lv_aload_n X.1 X.2.1 dX5_multiply_13 rfl (lv_at hl 2 rfl) ?_
        refine gf_X3_monos X hK hP hq2 tl_X5_57 dX5_multiply_14 ?_
        refine lv_iload X.1 X.2.1 dX5_multiply_17 (lv_at hl 4 rfl) ?_
        obtain ⟨o_7, h⟩ := h
        refine q_iald X hK hP (isP_2 hq2) o_7 dX5_multiply_19 ?_
        refine q_callS (rest := []) X hK hP hS (c_X5_isMultipleGreat l G q3 (S (q2 + 2) (q_rf x4)) S _ hq3 h) my_X5_isMultipleGreat tl_X5_72 dX5_multiply_20 rfl ⟨Nat.le_of_ble_eq_true rfl, Nat.le_of_ble_eq_true rfl⟩ hl.1 rfl (Nat.le_of_ble_eq_true rfl) ⟨Nat.le_of_ble_eq_true rfl, Nat.le_of_ble_eq_true rfl⟩ (fun r_9 S_8 H locs h hP hS => ?_)
        refine W.eq (g2 := F0 m 23 ls [.int r_9]) rfl ?_
        refine lv_if_eq (tgt := 29) X.1 X.2.1 dX5_multiply_23 (by decide) (fun c_10 => ?_) (fun c_10 => ?_)
        · have h := h.1 c_10
          obtain ⟨x4_11, e4_11⟩ : ∃ y : Int32, y = x4 + 1 := ⟨_, rfl⟩
          have h := h x4_11 e4_11
          refine lv_iinc (v := x4_11) (lv' := [(4, .int x4_11), (0, .ref (G.1 + 1)), (1, .ref (G.1 + q1)), (2, .ref (G.1 + q2)), (3, .ref (G.1 + q3))]) X.1 X.2.1 dX5_multiply_29 hl (k := 4) rfl (by rw [e4_11]; first | rfl | decide) (by decide) rfl (fun ls hl => ?_)
          refine lv_goto (tgt := 3) X.1 X.2.1 dX5_multiply_32 (by decide) ?_
          exact hk3 x4_11 S_8 _ (lv_sub hl [1, 2, 3, 4, 0] rfl) h _ _ hP hS
        · have h := h.2 c_10
          refine lv_bipush (v := (-5)) X.1 X.2.1 dX5_multiply_26 (by decide) ?_
          exact q_iret X hr hlocks hP hS rfl h dX5_multiply_28
  refine lv_iconst (v := 0) X.1 X.2.1 dX5_multiply_0 (by decide) ?_
  refine lv_istore (lv' := [(4, .int 0), (0, .ref (G.1 + 1)), (1, .ref (G.1 + q1)), (2, .ref (G.1 + q2)), (3, .ref (G.1 + q3))]) X.1 X.2.1 dX5_multiply_1 hl (by decide) rfl (fun ls hl => ?_)
  obtain ⟨f_1, h⟩ := h
  exact B3 f_1 0 S _ (lv_sub hl [1, 2, 3, 4, 0] rfl) h _ _ hP hS

set_option maxHeartbeats 4000000 in
set_option maxRecDepth 100000 in
theorem c_X5_derive (l : Launch) (G : Cx) (q1 : Nat) (q2 : Nat) (x3 : Int32) (S : St) (K : Int32 → St → Prop) (hq1 : isP q1) (hq2 : isP q2) (h : w_X5_derive q1 q2 x3 S K) : q_Met l yX5_derive cX5_derive 7 (some .int) 2 43 G [.ref (G.1 + 1), .ref (G.1 + q1), .ref (G.1 + q2), .int x3] v_i S K := by
  refine q_enter (by decide +kernel) (Nat.le_of_ble_eq_true rfl) (fun p e s m args below meth c ls X hK hP hr hlocks hl => ?_)
  have hS : va_S (fr_ G) s.heap s.heap [] := va_S.rf
  have hl : lv_has ls 7 [(0, .ref (G.1 + 1)), (1, .ref (G.1 + q1)), (2, .ref (G.1 + q2)), (3, .int x3)] := hl
  have B70 : ∀ (x4 : Int32) (k8 : Int32 → St → Prop) (hk8 : ∀ (x4 : Int32) (S : St) (ls : Array Slot), lv_has ls 7 [(0, .ref (G.1 + 1)), (1, .ref (G.1 + q1)), (2, .ref (G.1 + q2)), (3, .int x3), (4, .int x4)] → k8 x4 S → q_W p l e (k2_rm 2 43) s m args below meth c 0 0 (MQ below (q_Qc G K v_i) args s 0 0 (fr_ G)) G 8 ls [] S) (S : St) (ls : Array Slot), lv_has ls 7 [(0, .ref (G.1 + 1)), (1, .ref (G.1 + q1)), (2, .ref (G.1 + q2)), (3, .int x3), (4, .int x4)] → w_X5_derive_70 q1 q2 x3 K k8 x4 S → q_W p l e (k2_rm 2 43) s m args below meth c 0 0 (MQ below (q_Qc G K v_i) args s 0 0 (fr_ G)) G 70 ls [] S := by
    intro x4 k8 hk8 S ls hl h H locs hP hS
    obtain ⟨x4_1, e4_1⟩ : ∃ y : Int32, y = x4 + 1 := ⟨_, rfl⟩
    have h := h x4_1 e4_1
    refine lv_iinc (v := x4_1) (lv' := [(4, .int x4_1), (0, .ref (G.1 + 1)), (1, .ref (G.1 + q1)), (2, .ref (G.1 + q2)), (3, .int x3)]) X.1 X.2.1 dX5_derive_70 hl (k := 4) rfl (by rw [e4_1]; first | rfl | decide) (by decide) rfl (fun ls hl => ?_)
    refine lv_goto (tgt := 8) X.1 X.2.1 dX5_derive_73 (by decide) ?_
    exact hk8 x4_1 S _ (lv_sub hl [1, 2, 3, 4, 0] rfl) h _ _ hP hS
  have B8 : ∀ (f : Nat) (x4 : Int32) (S : St) (ls : Array Slot), lv_has ls 7 [(0, .ref (G.1 + 1)), (1, .ref (G.1 + q1)), (2, .ref (G.1 + q2)), (3, .int x3), (4, .int x4)] → q_it (fun _ _ => False) (w_X5_derive_8 q1 q2 x3 K) f x4 S → q_W p l e (k2_rm 2 43) s m args below meth c 0 0 (MQ below (q_Qc G K v_i) args s 0 0 (fr_ G)) G 8 ls [] S := by
    intro f
    induction f with
    | zero => intro x4 S ls hl h; exact False.elim h
    | succ f hk8 =>
      intro x4 S ls hl h H locs hP hS
      have h : w_X5_derive_8 q1 q2 x3 K (q_it (fun _ _ => False) (w_X5_derive_8 q1 q2 x3 K) f) x4 S := h
      generalize q_it (fun _ _ => False) (w_X5_derive_8 q1 q2 x3 K) f = k8 at h hk8
      refine lv_iload X.1 X.2.1 dX5_derive_8 (lv_at hl 4 rfl) ?_
      refine lv_aload_n X.1 X.2.1 dX5_derive_10 rfl (lv_at hl 2 rfl) ?_
      refine gf_X3_size X hK hP hq2 tl_X5_51 dX5_derive_11 ?_
      refine lv_icmp_ge (tgt := 76) X.1 X.2.1 dX5_derive_14 (by decide) (fun c_1 => ?_) (fun c_1 => ?_)
      · have h := h.1 c_1
        refine lv_iconst (v := 0) X.1 X.2.1 dX5_derive_76 (by decide) ?_
        exact q_iret X hr hlocks hP hS rfl h dX5_derive_77
      · have h := h.2 c_1
        refine lv_aload_n X.1 X.2.1 dX5_derive_17 rfl (lv_at hl 2 rfl) ?_
        refine gf_X3_monos X hK hP hq2 tl_X5_57 dX5_derive_18 ?_
        refine lv_iload X.1 X.2.1 dX5_derive_21 (lv_at hl 4 rfl) ?_
        obtain ⟨o_2, h⟩ := h
        refine q_iald X hK hP (isP_2 hq2) o_2 dX5_derive_23 ?_
        refine lv_iload_n X.1 X.2.1 dX5_derive_24 rfl (lv_at hl 3 rfl) ?_
        refine q_callS (rest := []) X hK hP hS (c_X1_exponentOf l G (S (q2 + 2) (q_rf x4)) x3 S _ h) my_X1_exponentOf tl_X5_102 dX5_derive_25 rfl ⟨Nat.le_of_ble_eq_true rfl, Nat.le_of_ble_eq_true rfl⟩ hl.1 rfl (Nat.le_of_ble_eq_true rfl) ⟨Nat.le_of_ble_eq_true rfl, Nat.le_of_ble_eq_true rfl⟩ (fun r_4 S_3 H locs h hP hS => ?_)
        refine W.eq (g2 := F0 m 28 ls [.int r_4]) rfl ?_
        refine lv_istore (lv' := [(5, .int r_4), (0, .ref (G.1 + 1)), (1, .ref (G.1 + q1)), (2, .ref (G.1 + q2)), (3, .int x3), (4, .int x4)]) X.1 X.2.1 dX5_derive_28 hl (by decide) rfl (fun ls hl => ?_)
        refine lv_aload_n X.1 X.2.1 dX5_derive_30 rfl (lv_at hl 1 rfl) ?_
        refine lv_aload_n X.1 X.2.1 dX5_derive_31 rfl (lv_at hl 3 rfl) ?_
        refine gf_X3_numbers X hK hP hq2 tl_X5_54 dX5_derive_32 ?_
        refine lv_iload X.1 X.2.1 dX5_derive_35 (lv_at hl 5 rfl) ?_
        refine q_iald X hK hP (isP_1 hq2) o_2 dX5_derive_37 ?_
        refine lv_iload X.1 X.2.1 dX5_derive_38 (lv_at hl 0 rfl) ?_
        refine lv_imul X.1 X.2.1 dX5_derive_40 ?_
        refine q_callV (rest := []) (b := 1) X hK hP hS (c_X5_restOf l G ((S_3 (q2 + 1) (q_rf x4)) * r_4) S_3 _ h) my_X5_restOf tl_X5_76 dX5_derive_41 kz_1 rfl rfl rfl ⟨Nat.le_of_ble_eq_true rfl, Nat.le_of_ble_eq_true rfl⟩ hl.1 rfl (Nat.le_of_ble_eq_true rfl) ⟨Nat.le_of_ble_eq_true rfl, Nat.le_of_ble_eq_true rfl⟩ (fun r_6 S_5 H locs h hP hS => ?_)
        refine W.eq (g2 := F0 m 44 ls [.int r_6]) rfl ?_
        refine lv_istore (lv' := [(6, .int r_6), (5, .int r_4), (0, .ref (G.1 + 1)), (1, .ref (G.1 + q1)), (2, .ref (G.1 + q2)), (3, .int x3), (4, .int x4)]) X.1 X.2.1 dX5_derive_44 hl (by decide) rfl (fun ls hl => ?_)
        refine lv_iload X.1 X.2.1 dX5_derive_46 (lv_at hl 0 rfl) ?_
        refine lv_if_eq (tgt := 70) X.1 X.2.1 dX5_derive_48 (by decide) (fun c_7 => ?_) (fun c_7 => ?_)
        · have h := h.1 c_7
          exact B70 x4 k8 hk8 S_5 _ (lv_sub hl [2, 3, 4, 5, 6] rfl) h _ _ hP hS
        · have h := h.2 c_7
          refine lv_aload_n X.1 X.2.1 dX5_derive_51 rfl (lv_at hl 3 rfl) ?_
          refine lv_iload X.1 X.2.1 dX5_derive_52 (lv_at hl 0 rfl) ?_
          refine lv_aload_n X.1 X.2.1 dX5_derive_54 rfl (lv_at hl 4 rfl) ?_
          refine gf_X3_monos X hK hP hq2 tl_X5_57 dX5_derive_55 ?_
          refine lv_iload X.1 X.2.1 dX5_derive_58 (lv_at hl 6 rfl) ?_
          refine q_iald X hK hP (isP_2 hq2) o_2 dX5_derive_60 ?_
          refine lv_iload_n X.1 X.2.1 dX5_derive_61 rfl (lv_at hl 5 rfl) ?_
          refine q_callS (rest := [.int (S_5 (q2 + 2) (q_rf x4)), .int r_6, .ref (G.1 + q1)]) X hK hP hS (c_X1_variable l G x3 S_5 _ h) my_X1_variable tl_X5_105 dX5_derive_62 rfl ⟨Nat.le_of_ble_eq_true rfl, Nat.le_of_ble_eq_true rfl⟩ hl.1 rfl (Nat.le_of_ble_eq_true rfl) ⟨Nat.le_of_ble_eq_true rfl, Nat.le_of_ble_eq_true rfl⟩ (fun r_9 S_8 H locs h hP hS => ?_)
          refine W.eq (g2 := F0 m 65 ls [.int r_9, .int (S_5 (q2 + 2) (q_rf x4)), .int r_6, .ref (G.1 + q1)]) rfl ?_
          refine lv_isub X.1 X.2.1 dX5_derive_65 ?_
          refine q_callV (rest := []) (b := q1) X hK hP hS (c_X3_push l G q1 r_6 ((S_5 (q2 + 2) (q_rf x4)) - r_9) S_8 _ hq1 h) my_X3_push tl_X5_79 dX5_derive_66 hq1 rfl rfl rfl ⟨Nat.le_of_ble_eq_true rfl, Nat.le_of_ble_eq_true rfl⟩ hl.1 rfl (Nat.le_of_ble_eq_true rfl) ⟨Nat.le_of_ble_eq_true rfl, Nat.le_of_ble_eq_true rfl⟩ (fun r_11 S_10 H locs h hP hS => ?_)
          refine W.eq (g2 := F0 m 69 ls [.int r_11]) rfl ?_
          refine lv_pop X.1 X.2.1 dX5_derive_69 rfl ?_
          exact B70 x4 k8 hk8 S_10 _ (lv_sub hl [2, 3, 4, 5, 6] rfl) h _ _ hP hS
  refine lv_aload_n X.1 X.2.1 dX5_derive_0 rfl (lv_at hl 1 rfl) ?_
  refine lv_iconst (v := 0) X.1 X.2.1 dX5_derive_1 (by decide) ?_
  refine pf_X3_size X hK hP hS hq1 tl_X5_51 dX5_derive_2 (fun S_1 H locs eS_1 hP hS => ?_)
  have h := h S_1 eS_1
  refine lv_iconst (v := 0) X.1 X.2.1 dX5_derive_5 (by decide) ?_
  refine lv_istore (lv' := [(4, .int 0), (0, .ref (G.1 + 1)), (1, .ref (G.1 + q1)), (2, .ref (G.1 + q2)), (3, .int x3)]) X.1 X.2.1 dX5_derive_6 hl (by decide) rfl (fun ls hl => ?_)
  obtain ⟨f_2, h⟩ := h
  exact B8 f_2 0 S_1 _ (lv_sub hl [1, 2, 3, 4, 0] rfl) h _ _ hP hS

set_option maxHeartbeats 4000000 in
set_option maxRecDepth 100000 in
theorem c_X5_makeS (l : Launch) (G : Cx) (q1 : Nat) (q2 : Nat) (q3 : Nat) (S : St) (K : Int32 → St → Prop) (hq1 : isP q1) (hq2 : isP q2) (hq3 : isP q3) (h : w_X5_makeS q1 q2 q3 S K) : q_Met l yX5_makeS cX5_makeS 6 (some .int) 3 75 G [.ref (G.1 + 1), .ref (G.1 + q1), .ref (G.1 + q2), .ref (G.1 + q3)] v_i S K := by
  refine q_enter (by decide +kernel) (Nat.le_of_ble_eq_true rfl) (fun p e s m args below meth c ls X hK hP hr hlocks hl => ?_)
  have hS : va_S (fr_ G) s.heap s.heap [] := va_S.rf
  have hl : lv_has ls 6 [(0, .ref (G.1 + 1)), (1, .ref (G.1 + q1)), (2, .ref (G.1 + q2)), (3, .ref (G.1 + q3))] := hl
  refine lv_aload_n X.1 X.2.1 dX5_makeS_0 rfl (lv_at hl 2 rfl) ?_
  refine q_callV (rest := []) (b := q2) X hK hP hS (c_X3_head l G q2 S _ hq2 h) my_X3_head tl_X5_108 dX5_makeS_1 hq2 rfl rfl rfl ⟨Nat.le_of_ble_eq_true rfl, Nat.le_of_ble_eq_true rfl⟩ hl.1 rfl (Nat.le_of_ble_eq_true rfl) ⟨Nat.le_of_ble_eq_true rfl, Nat.le_of_ble_eq_true rfl⟩ (fun r_2 S_1 H locs h hP hS => ?_)
  refine W.eq (g2 := F0 m 4 ls [.int r_2]) rfl ?_
  refine lv_aload_n X.1 X.2.1 dX5_makeS_4 rfl (lv_at hl 3 rfl) ?_
  refine q_callV (rest := [.int r_2]) (b := q3) X hK hP hS (c_X3_head l G q3 S_1 _ hq3 h) my_X3_head tl_X5_108 dX5_makeS_5 hq3 rfl rfl rfl ⟨Nat.le_of_ble_eq_true rfl, Nat.le_of_ble_eq_true rfl⟩ hl.1 rfl (Nat.le_of_ble_eq_true rfl) ⟨Nat.le_of_ble_eq_true rfl, Nat.le_of_ble_eq_true rfl⟩ (fun r_4 S_3 H locs h hP hS => ?_)
  refine W.eq (g2 := F0 m 8 ls [.int r_4, .int r_2]) rfl ?_
  refine q_callS (rest := []) X hK hP hS (c_X1_leastMultiple l G r_2 r_4 S_3 _ h) my_X1_leastMultiple tl_X5_112 dX5_makeS_8 rfl ⟨Nat.le_of_ble_eq_true rfl, Nat.le_of_ble_eq_true rfl⟩ hl.1 rfl (Nat.le_of_ble_eq_true rfl) ⟨Nat.le_of_ble_eq_true rfl, Nat.le_of_ble_eq_true rfl⟩ (fun r_6 S_5 H locs h hP hS => ?_)
  refine W.eq (g2 := F0 m 11 ls [.int r_6]) rfl ?_
  refine lv_istore (lv' := [(4, .int r_6), (0, .ref (G.1 + 1)), (1, .ref (G.1 + q1)), (2, .ref (G.1 + q2)), (3, .ref (G.1 + q3))]) X.1 X.2.1 dX5_makeS_11 hl (by decide) rfl (fun ls hl => ?_)
  refine lv_aload_n X.1 X.2.1 dX5_makeS_13 rfl (lv_at hl 1 rfl) ?_
  refine lv_aload_n X.1 X.2.1 dX5_makeS_14 rfl (lv_at hl 1 rfl) ?_
  refine gf_X5_firstMultiple X hK hP tl_X5_29 dX5_makeS_15 ?_
  refine lv_aload_n X.1 X.2.1 dX5_makeS_18 rfl (lv_at hl 1 rfl) ?_
  refine gf_X5_nought X hK hP tl_X5_25 dX5_makeS_19 ?_
  refine lv_aload_n X.1 X.2.1 dX5_makeS_22 rfl (lv_at hl 3 rfl) ?_
  refine lv_aload_n X.1 X.2.1 dX5_makeS_23 rfl (lv_at hl 1 rfl) ?_
  refine lv_aload_n X.1 X.2.1 dX5_makeS_24 rfl (lv_at hl 3 rfl) ?_
  refine gf_X3_numbers X hK hP hq2 tl_X5_54 dX5_makeS_25 ?_
  refine lv_iconst (v := 0) X.1 X.2.1 dX5_makeS_28 (by decide) ?_
  refine q_iald X hK hP (isP_1 hq2) (q_vin (by decide)) dX5_makeS_29 ?_
  refine q_callV (rest := [.ref (G.1 + q2), .ref (G.1 + 4), .ref (G.1 + 7), .ref (G.1 + 1)]) (b := 1) X hK hP hS (c_X5_inverse l G (S_5 (q2 + 1) (q_rf 0)) S_5 _ h) my_X5_inverse tl_X5_115 dX5_makeS_30 kz_1 rfl rfl rfl ⟨Nat.le_of_ble_eq_true rfl, Nat.le_of_ble_eq_true rfl⟩ hl.1 rfl (Nat.le_of_ble_eq_true rfl) ⟨Nat.le_of_ble_eq_true rfl, Nat.le_of_ble_eq_true rfl⟩ (fun r_8 S_7 H locs h hP hS => ?_)
  refine W.eq (g2 := F0 m 33 ls [.int r_8, .ref (G.1 + q2), .ref (G.1 + 4), .ref (G.1 + 7), .ref (G.1 + 1)]) rfl ?_
  refine lv_iload X.1 X.2.1 dX5_makeS_33 (lv_at hl 0 rfl) ?_
  refine lv_aload_n X.1 X.2.1 dX5_makeS_35 rfl (lv_at hl 3 rfl) ?_
  refine q_callV (rest := [.int r_6, .int r_8, .ref (G.1 + q2), .ref (G.1 + 4), .ref (G.1 + 7), .ref (G.1 + 1)]) (b := q2) X hK hP hS (c_X3_head l G q2 S_7 _ hq2 h) my_X3_head tl_X5_108 dX5_makeS_36 hq2 rfl rfl rfl ⟨Nat.le_of_ble_eq_true rfl, Nat.le_of_ble_eq_true rfl⟩ hl.1 rfl (Nat.le_of_ble_eq_true rfl) ⟨Nat.le_of_ble_eq_true rfl, Nat.le_of_ble_eq_true rfl⟩ (fun r_10 S_9 H locs h hP hS => ?_)
  refine W.eq (g2 := F0 m 39 ls [.int r_10, .int r_6, .int r_8, .ref (G.1 + q2), .ref (G.1 + 4), .ref (G.1 + 7), .ref (G.1 + 1)]) rfl ?_
  refine lv_isub X.1 X.2.1 dX5_makeS_39 ?_
  refine q_callV (rest := []) (b := 1) X hK hP hS (c_X5_addMultiple l G 7 4 q2 r_8 (r_6 - r_10) S_9 _ kz_7 kz_4 hq2 h) my_X5_addMultiple tl_X5_118 dX5_makeS_40 kz_1 rfl rfl rfl ⟨Nat.le_of_ble_eq_true rfl, Nat.le_of_ble_eq_true rfl⟩ hl.1 rfl (Nat.le_of_ble_eq_true rfl) ⟨Nat.le_of_ble_eq_true rfl, Nat.le_of_ble_eq_true rfl⟩ (fun r_12 S_11 H locs h hP hS => ?_)
  refine W.eq (g2 := F0 m 43 ls [.int r_12]) rfl ?_
  refine lv_istore (lv' := [(5, .int r_12), (4, .int r_6), (0, .ref (G.1 + 1)), (1, .ref (G.1 + q1)), (2, .ref (G.1 + q2)), (3, .ref (G.1 + q3))]) X.1 X.2.1 dX5_makeS_43 hl (by decide) rfl (fun ls hl => ?_)
  refine lv_iload X.1 X.2.1 dX5_makeS_45 (lv_at hl 0 rfl) ?_
  refine lv_if_eq (tgt := 53) X.1 X.2.1 dX5_makeS_47 (by decide) (fun c_13 => ?_) (fun c_13 => ?_)
  · have h := h.1 c_13
    refine lv_aload_n X.1 X.2.1 dX5_makeS_53 rfl (lv_at hl 2 rfl) ?_
    refine lv_aload_n X.1 X.2.1 dX5_makeS_54 rfl (lv_at hl 3 rfl) ?_
    refine lv_aload_n X.1 X.2.1 dX5_makeS_55 rfl (lv_at hl 2 rfl) ?_
    refine gf_X5_firstMultiple X hK hP tl_X5_29 dX5_makeS_56 ?_
    refine lv_aload_n X.1 X.2.1 dX5_makeS_59 rfl (lv_at hl 5 rfl) ?_
    refine lv_aload_n X.1 X.2.1 dX5_makeS_60 rfl (lv_at hl 2 rfl) ?_
    refine gf_X5_p X hK hP tl_X5_32 dX5_makeS_61 ?_
    refine lv_aload_n X.1 X.2.1 dX5_makeS_64 rfl (lv_at hl 2 rfl) ?_
    refine lv_aload_n X.1 X.2.1 dX5_makeS_65 rfl (lv_at hl 5 rfl) ?_
    refine gf_X3_numbers X hK hP hq3 tl_X5_54 dX5_makeS_66 ?_
    refine lv_iconst (v := 0) X.1 X.2.1 dX5_makeS_69 (by decide) ?_
    refine q_iald X hK hP (isP_1 hq3) (q_vin (by decide)) dX5_makeS_70 ?_
    refine q_callV (rest := [.int (S_11 1 0), .ref (G.1 + q3), .ref (G.1 + 7), .ref (G.1 + q1), .ref (G.1 + 1)]) (b := 1) X hK hP hS (c_X5_inverse l G (S_11 (q3 + 1) (q_rf 0)) S_11 _ h) my_X5_inverse tl_X5_115 dX5_makeS_71 kz_1 rfl rfl rfl ⟨Nat.le_of_ble_eq_true rfl, Nat.le_of_ble_eq_true rfl⟩ hl.1 rfl (Nat.le_of_ble_eq_true rfl) ⟨Nat.le_of_ble_eq_true rfl, Nat.le_of_ble_eq_true rfl⟩ (fun r_15 S_14 H locs h hP hS => ?_)
    refine W.eq (g2 := F0 m 74 ls [.int r_15, .int (S_11 1 0), .ref (G.1 + q3), .ref (G.1 + 7), .ref (G.1 + q1), .ref (G.1 + 1)]) rfl ?_
    refine lv_isub X.1 X.2.1 dX5_makeS_74 ?_
    refine lv_iload X.1 X.2.1 dX5_makeS_75 (lv_at hl 1 rfl) ?_
    refine lv_aload_n X.1 X.2.1 dX5_makeS_77 rfl (lv_at hl 5 rfl) ?_
    refine q_callV (rest := [.int r_6, .int ((S_11 1 0) - r_15), .ref (G.1 + q3), .ref (G.1 + 7), .ref (G.1 + q1), .ref (G.1 + 1)]) (b := q3) X hK hP hS (c_X3_head l G q3 S_14 _ hq3 h) my_X3_head tl_X5_108 dX5_makeS_78 hq3 rfl rfl rfl ⟨Nat.le_of_ble_eq_true rfl, Nat.le_of_ble_eq_true rfl⟩ hl.1 rfl (Nat.le_of_ble_eq_true rfl) ⟨Nat.le_of_ble_eq_true rfl, Nat.le_of_ble_eq_true rfl⟩ (fun r_17 S_16 H locs h hP hS => ?_)
    refine W.eq (g2 := F0 m 81 ls [.int r_17, .int r_6, .int ((S_11 1 0) - r_15), .ref (G.1 + q3), .ref (G.1 + 7), .ref (G.1 + q1), .ref (G.1 + 1)]) rfl ?_
    refine lv_isub X.1 X.2.1 dX5_makeS_81 ?_
    refine q_callV (rest := []) (b := 1) X hK hP hS (c_X5_addMultiple l G q1 7 q3 ((S_11 1 0) - r_15) (r_6 - r_17) S_16 _ hq1 kz_7 hq3 h) my_X5_addMultiple tl_X5_118 dX5_makeS_82 kz_1 rfl rfl rfl ⟨Nat.le_of_ble_eq_true rfl, Nat.le_of_ble_eq_true rfl⟩ hl.1 rfl (Nat.le_of_ble_eq_true rfl) ⟨Nat.le_of_ble_eq_true rfl, Nat.le_of_ble_eq_true rfl⟩ (fun r_19 S_18 H locs h hP hS => ?_)
    refine W.eq (g2 := F0 m 85 ls [.int r_19]) rfl ?_
    exact q_iret X hr hlocks hP hS rfl h dX5_makeS_85
  · have h := h.2 c_13
    refine lv_iload X.1 X.2.1 dX5_makeS_50 (lv_at hl 0 rfl) ?_
    exact q_iret X hr hlocks hP hS rfl h dX5_makeS_52

set_option maxHeartbeats 4000000 in
set_option maxRecDepth 100000 in
theorem c_X5_makeMonic (l : Launch) (G : Cx) (q1 : Nat) (S : St) (K : Unit → St → Prop) (hq1 : isP q1) (h : w_X5_makeMonic q1 S K) : q_Met l yX5_makeMonic cX5_makeMonic 4 none 2 46 G [.ref (G.1 + 1), .ref (G.1 + q1)] v_v S K := by
  refine q_enter (by decide +kernel) (Nat.le_of_ble_eq_true rfl) (fun p e s m args below meth c ls X hK hP hr hlocks hl => ?_)
  have hS : va_S (fr_ G) s.heap s.heap [] := va_S.rf
  have hl : lv_has ls 4 [(0, .ref (G.1 + 1)), (1, .ref (G.1 + q1))] := hl
  have B31 : ∀ (x2 : Int32) (f : Nat) (x3 : Int32) (S : St) (ls : Array Slot), lv_has ls 4 [(0, .ref (G.1 + 1)), (1, .ref (G.1 + q1)), (2, .int x2), (3, .int x3)] → q_it (fun _ _ => False) (w_X5_makeMonic_31 q1 K x2) f x3 S → q_W p l e (k2_rm 2 46) s m args below meth c 0 0 (MQ below (q_Qc G K v_v) args s 0 0 (fr_ G)) G 31 ls [] S := by
    intro x2 f
    induction f with
    | zero => intro x3 S ls hl h; exact False.elim h
    | succ f hk31 =>
      intro x3 S ls hl h H locs hP hS
      have h : w_X5_makeMonic_31 q1 K x2 (q_it (fun _ _ => False) (w_X5_makeMonic_31 q1 K x2) f) x3 S := h
      generalize q_it (fun _ _ => False) (w_X5_makeMonic_31 q1 K x2) f = k31 at h hk31
      refine lv_iload_n X.1 X.2.1 dX5_makeMonic_31 rfl (lv_at hl 3 rfl) ?_
      refine lv_aload_n X.1 X.2.1 dX5_makeMonic_32 rfl (lv_at hl 1 rfl) ?_
      refine gf_X3_size X hK hP hq1 tl_X5_51 dX5_makeMonic_33 ?_
      refine lv_icmp_ge (tgt := 63) X.1 X.2.1 dX5_makeMonic_36 (by decide) (fun c_1 => ?_) (fun c_1 => ?_)
      · have h := h.1 c_1
        exact q_vret X hr hlocks hP hS h dX5_makeMonic_63
      · have h := h.2 c_1
        refine lv_aload_n X.1 X.2.1 dX5_makeMonic_39 rfl (lv_at hl 1 rfl) ?_
        refine gf_X3_numbers X hK hP hq1 tl_X5_54 dX5_makeMonic_40 ?_
        refine lv_iload_n X.1 X.2.1 dX5_makeMonic_43 rfl (lv_at hl 3 rfl) ?_
        refine lv_aload_n X.1 X.2.1 dX5_makeMonic_44 rfl (lv_at hl 0 rfl) ?_
        refine lv_aload_n X.1 X.2.1 dX5_makeMonic_45 rfl (lv_at hl 1 rfl) ?_
        refine gf_X3_numbers X hK hP hq1 tl_X5_54 dX5_makeMonic_46 ?_
        refine lv_iload_n X.1 X.2.1 dX5_makeMonic_49 rfl (lv_at hl 3 rfl) ?_
        obtain ⟨o_2, h⟩ := h
        refine q_iald X hK hP (isP_1 hq1) o_2 dX5_makeMonic_50 ?_
        refine lv_iload_n X.1 X.2.1 dX5_makeMonic_51 rfl (lv_at hl 2 rfl) ?_
        refine lv_imul X.1 X.2.1 dX5_makeMonic_52 ?_
        refine q_callV (rest := [.int x3, .ref (G.1 + (q1 + 1))]) (b := 1) X hK hP hS (c_X5_restOf l G ((S (q1 + 1) (q_rf x3)) * x2) S _ h) my_X5_restOf tl_X5_76 dX5_makeMonic_53 kz_1 rfl rfl rfl ⟨Nat.le_of_ble_eq_true rfl, Nat.le_of_ble_eq_true rfl⟩ hl.1 rfl (Nat.le_of_ble_eq_true rfl) ⟨Nat.le_of_ble_eq_true rfl, Nat.le_of_ble_eq_true rfl⟩ (fun r_4 S_3 H locs h hP hS => ?_)
        refine W.eq (g2 := F0 m 56 ls [.int r_4, .int x3, .ref (G.1 + (q1 + 1))]) rfl ?_
        refine q_iast X hK hP hS (isP_1 hq1) o_2 dX5_makeMonic_56 (fun S_5 H locs eS_5 hP hS => ?_)
        have h := h S_5 eS_5
        obtain ⟨x3_6, e3_6⟩ : ∃ y : Int32, y = x3 + 1 := ⟨_, rfl⟩
        have h := h x3_6 e3_6
        refine lv_iinc (v := x3_6) (lv' := [(3, .int x3_6), (0, .ref (G.1 + 1)), (1, .ref (G.1 + q1)), (2, .int x2)]) X.1 X.2.1 dX5_makeMonic_57 hl (k := 3) rfl (by rw [e3_6]; first | rfl | decide) (by decide) rfl (fun ls hl => ?_)
        refine lv_goto (tgt := 31) X.1 X.2.1 dX5_makeMonic_60 (by decide) ?_
        exact hk31 x3_6 S_5 _ (lv_sub hl [1, 2, 3, 0] rfl) h _ _ hP hS
  refine lv_aload_n X.1 X.2.1 dX5_makeMonic_0 rfl (lv_at hl 1 rfl) ?_
  refine gf_X3_size X hK hP hq1 tl_X5_51 dX5_makeMonic_1 ?_
  refine lv_if_eq (tgt := 17) X.1 X.2.1 dX5_makeMonic_4 (by decide) (fun c_1 => ?_) (fun c_1 => ?_)
  · have h := h.1 c_1
    exact q_vret X hr hlocks hP hS h dX5_makeMonic_17
  · have h := h.2 c_1
    refine lv_aload_n X.1 X.2.1 dX5_makeMonic_7 rfl (lv_at hl 1 rfl) ?_
    refine gf_X3_numbers X hK hP hq1 tl_X5_54 dX5_makeMonic_8 ?_
    refine lv_iconst (v := 0) X.1 X.2.1 dX5_makeMonic_11 (by decide) ?_
    refine q_iald X hK hP (isP_1 hq1) (q_vin (by decide)) dX5_makeMonic_12 ?_
    refine lv_iconst (v := 1) X.1 X.2.1 dX5_makeMonic_13 (by decide) ?_
    refine lv_icmp_ne (tgt := 18) X.1 X.2.1 dX5_makeMonic_14 (by decide) (fun c_2 => ?_) (fun c_2 => ?_)
    · have h := h.1 c_2
      refine lv_aload_n X.1 X.2.1 dX5_makeMonic_18 rfl (lv_at hl 0 rfl) ?_
      refine lv_aload_n X.1 X.2.1 dX5_makeMonic_19 rfl (lv_at hl 1 rfl) ?_
      refine gf_X3_numbers X hK hP hq1 tl_X5_54 dX5_makeMonic_20 ?_
      refine lv_iconst (v := 0) X.1 X.2.1 dX5_makeMonic_23 (by decide) ?_
      refine q_iald X hK hP (isP_1 hq1) (q_vin (by decide)) dX5_makeMonic_24 ?_
      refine q_callV (rest := []) (b := 1) X hK hP hS (c_X5_inverse l G (S (q1 + 1) (q_rf 0)) S _ h) my_X5_inverse tl_X5_115 dX5_makeMonic_25 kz_1 rfl rfl rfl ⟨Nat.le_of_ble_eq_true rfl, Nat.le_of_ble_eq_true rfl⟩ hl.1 rfl (Nat.le_of_ble_eq_true rfl) ⟨Nat.le_of_ble_eq_true rfl, Nat.le_of_ble_eq_true rfl⟩ (fun r_4 S_3 H locs h hP hS => ?_)
      refine W.eq (g2 := F0 m 28 ls [.int r_4]) rfl ?_
      refine lv_istore_n (lv' := [(2, .int r_4), (0, .ref (G.1 + 1)), (1, .ref (G.1 + q1))]) X.1 X.2.1 dX5_makeMonic_28 rfl hl (by decide) rfl (fun ls hl => ?_)
      refine lv_iconst (v := 0) X.1 X.2.1 dX5_makeMonic_29 (by decide) ?_
      refine lv_istore_n (lv' := [(3, .int 0), (2, .int r_4), (0, .ref (G.1 + 1)), (1, .ref (G.1 + q1))]) X.1 X.2.1 dX5_makeMonic_30 rfl hl (by decide) rfl (fun ls hl => ?_)
      obtain ⟨f_5, h⟩ := h
      exact B31 r_4 f_5 0 S_3 _ (lv_sub hl [2, 3, 1, 0] rfl) h _ _ hP hS
    · have h := h.2 c_2
      exact q_vret X hr hlocks hP hS h dX5_makeMonic_17

set_option maxHeartbeats 4000000 in
set_option maxRecDepth 100000 in
theorem c_X5_setPoint (l : Launch) (G : Cx) (x1 : Int32) (x2 : Int32) (S : St) (K : Unit → St → Prop) (h : w_X5_setPoint x1 x2 S K) : q_Met l yX5_setPoint cX5_setPoint 3 none 2 43 G [.ref (G.1 + 1), .int x1, .int x2] v_v S K := by
  refine q_enter (by decide +kernel) (Nat.le_of_ble_eq_true rfl) (fun p e s m args below meth c ls X hK hP hr hlocks hl => ?_)
  have hS : va_S (fr_ G) s.heap s.heap [] := va_S.rf
  have hl : lv_has ls 3 [(0, .ref (G.1 + 1)), (1, .int x1), (2, .int x2)] := hl
  refine lv_aload_n X.1 X.2.1 dX5_setPoint_0 rfl (lv_at hl 0 rfl) ?_
  refine gf_X5_point X hK hP tl_X5_15 dX5_setPoint_1 ?_
  refine lv_iload_n X.1 X.2.1 dX5_setPoint_4 rfl (lv_at hl 1 rfl) ?_
  refine lv_aload_n X.1 X.2.1 dX5_setPoint_5 rfl (lv_at hl 0 rfl) ?_
  refine lv_iload_n X.1 X.2.1 dX5_setPoint_6 rfl (lv_at hl 2 rfl) ?_
  refine q_callV (rest := [.int x1, .ref (G.1 + 2)]) (b := 1) X hK hP hS (c_X5_restOf l G x2 S _ h) my_X5_restOf tl_X5_76 dX5_setPoint_7 kz_1 rfl rfl rfl ⟨Nat.le_of_ble_eq_true rfl, Nat.le_of_ble_eq_true rfl⟩ hl.1 rfl (Nat.le_of_ble_eq_true rfl) ⟨Nat.le_of_ble_eq_true rfl, Nat.le_of_ble_eq_true rfl⟩ (fun r_2 S_1 H locs h hP hS => ?_)
  refine W.eq (g2 := F0 m 10 ls [.int r_2, .int x1, .ref (G.1 + 2)]) rfl ?_
  obtain ⟨o_3, h⟩ := h
  refine q_iast X hK hP hS kz_2 o_3 dX5_setPoint_10 (fun S_4 H locs eS_4 hP hS => ?_)
  have h := h S_4 eS_4
  exact q_vret X hr hlocks hP hS h dX5_setPoint_11

set_option maxHeartbeats 4000000 in
set_option maxRecDepth 100000 in
theorem c_X5_setPointNumber (l : Launch) (G : Cx) (x1 : Int32) (S : St) (K : Unit → St → Prop) (h : w_X5_setPointNumber x1 S K) : q_Met l yX5_setPointNumber cX5_setPointNumber 4 none 3 65 G [.ref (G.1 + 1), .int x1] v_v S K := by
  refine q_enter (by decide +kernel) (Nat.le_of_ble_eq_true rfl) (fun p e s m args below meth c ls X hK hP hr hlocks hl => ?_)
  have hS : va_S (fr_ G) s.heap s.heap [] := va_S.rf
  have hl : lv_has ls 4 [(0, .ref (G.1 + 1)), (1, .int x1)] := hl
  have B4 : ∀ (f : Nat) (x2 : Int32) (x3 : Int32) (S : St) (ls : Array Slot), lv_has ls 4 [(0, .ref (G.1 + 1)), (2, .int x2), (3, .int x3)] → q_it (fun _ _ _ => False) (w_X5_setPointNumber_4 x1 K) f x2 x3 S → q_W p l e (k2_rm 3 65) s m args below meth c 0 0 (MQ below (q_Qc G K v_v) args s 0 0 (fr_ G)) G 4 ls [] S := by
    intro f
    induction f with
    | zero => intro x2 x3 S ls hl h; exact False.elim h
    | succ f hk4 =>
      intro x2 x3 S ls hl h H locs hP hS
      have h : w_X5_setPointNumber_4 x1 K (q_it (fun _ _ _ => False) (w_X5_setPointNumber_4 x1 K) f) x2 x3 S := h
      generalize q_it (fun _ _ _ => False) (w_X5_setPointNumber_4 x1 K) f = k4 at h hk4
      refine lv_iload_n X.1 X.2.1 dX5_setPointNumber_4 rfl (lv_at hl 2 rfl) ?_
      refine lv_aload_n X.1 X.2.1 dX5_setPointNumber_5 rfl (lv_at hl 0 rfl) ?_
      refine gf_X5_n X hK hP tl_X5_35 dX5_setPointNumber_6 ?_
      refine lv_icmp_ge (tgt := 36) X.1 X.2.1 dX5_setPointNumber_9 (by decide) (fun c_1 => ?_) (fun c_1 => ?_)
      · have h := h.1 c_1
        exact q_vret X hr hlocks hP hS h dX5_setPointNumber_36
      · have h := h.2 c_1
        refine lv_aload_n X.1 X.2.1 dX5_setPointNumber_12 rfl (lv_at hl 0 rfl) ?_
        refine lv_iload_n X.1 X.2.1 dX5_setPointNumber_13 rfl (lv_at hl 2 rfl) ?_
        refine lv_iload_n X.1 X.2.1 dX5_setPointNumber_14 rfl (lv_at hl 1 rfl) ?_
        refine lv_aload_n X.1 X.2.1 dX5_setPointNumber_15 rfl (lv_at hl 0 rfl) ?_
        refine gf_X5_p X hK hP tl_X5_32 dX5_setPointNumber_16 ?_
        obtain ⟨o_2, h⟩ := h
        refine lv_irem X.1 X.2.1 dX5_setPointNumber_19 o_2 ?_
        refine q_callV (rest := []) (b := 1) X hK hP hS (c_X5_setPoint l G x3 (x2 - x2 / (S 1 0) * (S 1 0)) S _ h) my_X5_setPoint tl_X5_122 dX5_setPointNumber_20 kz_1 rfl rfl rfl ⟨Nat.le_of_ble_eq_true rfl, Nat.le_of_ble_eq_true rfl⟩ hl.1 rfl (Nat.le_of_ble_eq_true rfl) ⟨Nat.le_of_ble_eq_true rfl, Nat.le_of_ble_eq_true rfl⟩ (fun r_4 S_3 H locs h hP hS => ?_)
        refine W.eq (g2 := F0 m 23 ls []) rfl ?_
        refine lv_iload_n X.1 X.2.1 dX5_setPointNumber_23 rfl (lv_at hl 1 rfl) ?_
        refine lv_aload_n X.1 X.2.1 dX5_setPointNumber_24 rfl (lv_at hl 0 rfl) ?_
        refine gf_X5_p X hK hP tl_X5_32 dX5_setPointNumber_25 ?_
        obtain ⟨o_5, h⟩ := h
        refine lv_idiv X.1 X.2.1 dX5_setPointNumber_28 o_5 ?_
        refine lv_topi (fun x2_6 e2_6 => ?_)
        have h := h x2_6 e2_6
        refine lv_istore_n (lv' := [(2, .int x2_6), (0, .ref (G.1 + 1)), (3, .int x3)]) X.1 X.2.1 dX5_setPointNumber_29 rfl hl (by decide) rfl (fun ls hl => ?_)
        obtain ⟨x3_7, e3_7⟩ : ∃ y : Int32, y = x3 + 1 := ⟨_, rfl⟩
        have h := h x3_7 e3_7
        refine lv_iinc (v := x3_7) (lv' := [(3, .int x3_7), (2, .int x2_6), (0, .ref (G.1 + 1))]) X.1 X.2.1 dX5_setPointNumber_30 hl (k := 2) rfl (by rw [e3_7]; first | rfl | decide) (by decide) rfl (fun ls hl => ?_)
        refine lv_goto (tgt := 4) X.1 X.2.1 dX5_setPointNumber_33 (by decide) ?_
        exact hk4 x2_6 x3_7 S_3 _ (lv_sub hl [2, 1, 0] rfl) h _ _ hP hS
  refine lv_iload_n X.1 X.2.1 dX5_setPointNumber_0 rfl (lv_at hl 1 rfl) ?_
  refine lv_istore_n (lv' := [(2, .int x1), (0, .ref (G.1 + 1)), (1, .int x1)]) X.1 X.2.1 dX5_setPointNumber_1 rfl hl (by decide) rfl (fun ls hl => ?_)
  refine lv_iconst (v := 0) X.1 X.2.1 dX5_setPointNumber_2 (by decide) ?_
  refine lv_istore_n (lv' := [(3, .int 0), (2, .int x1), (0, .ref (G.1 + 1)), (1, .int x1)]) X.1 X.2.1 dX5_setPointNumber_3 rfl hl (by decide) rfl (fun ls hl => ?_)
  obtain ⟨f_1, h⟩ := h
  exact B4 f_1 x1 0 S _ (lv_sub hl [2, 1, 0] rfl) h _ _ hP hS

set_option maxHeartbeats 4000000 in
set_option maxRecDepth 100000 in
theorem c_X5_pointsUpTo (l : Launch) (G : Cx) (x1 : Int32) (S : St) (K : Int32 → St → Prop) (h : w_X5_pointsUpTo x1 S K) : q_Met l yX5_pointsUpTo cX5_pointsUpTo 4 (some .int) 0 0 G [.ref (G.1 + 1), .int x1] v_i S K := by
  refine q_enter (by decide +kernel) (Nat.le_of_ble_eq_true rfl) (fun p e s m args below meth c ls X hK hP hr hlocks hl => ?_)
  have hS : va_S (fr_ G) s.heap s.heap [] := va_S.rf
  have hl : lv_has ls 4 [(0, .ref (G.1 + 1)), (1, .int x1)] := hl
  have B30 : ∀ (x2 : Int32) (S : St) (ls : Array Slot), lv_has ls 4 [(2, .int x2)] → w_X5_pointsUpTo_30 x1 K x2 S → q_W p l e (k2_rm 0 0) s m args below meth c 0 0 (MQ below (q_Qc G K v_i) args s 0 0 (fr_ G)) G 30 ls [] S := by
    intro x2 S ls hl h H locs hP hS
    refine lv_iload_n X.1 X.2.1 dX5_pointsUpTo_30 rfl (lv_at hl 0 rfl) ?_
    exact q_iret X hr hlocks hP hS rfl h dX5_pointsUpTo_31
  have B4 : ∀ (f : Nat) (x2 : Int32) (x3 : Int32) (S : St) (ls : Array Slot), lv_has ls 4 [(0, .ref (G.1 + 1)), (1, .int x1), (2, .int x2), (3, .int x3)] → q_it (fun _ _ _ => False) (w_X5_pointsUpTo_4 x1 K) f x2 x3 S → q_W p l e (k2_rm 0 0) s m args below meth c 0 0 (MQ below (q_Qc G K v_i) args s 0 0 (fr_ G)) G 4 ls [] S := by
    intro f
    induction f with
    | zero => intro x2 x3 S ls hl h; exact False.elim h
    | succ f hk4 =>
      intro x2 x3 S ls hl h H locs hP hS
      have h : w_X5_pointsUpTo_4 x1 K (q_it (fun _ _ _ => False) (w_X5_pointsUpTo_4 x1 K) f) x2 x3 S := h
      generalize q_it (fun _ _ _ => False) (w_X5_pointsUpTo_4 x1 K) f = k4 at h hk4
      refine lv_iload_n X.1 X.2.1 dX5_pointsUpTo_4 rfl (lv_at hl 3 rfl) ?_
      refine lv_aload_n X.1 X.2.1 dX5_pointsUpTo_5 rfl (lv_at hl 0 rfl) ?_
      refine gf_X5_n X hK hP tl_X5_35 dX5_pointsUpTo_6 ?_
      refine lv_icmp_ge (tgt := 30) X.1 X.2.1 dX5_pointsUpTo_9 (by decide) (fun c_1 => ?_) (fun c_1 => ?_)
      · have h := h.1 c_1
        exact B30 x2 S _ (lv_sub hl [2] rfl) h _ _ hP hS
      · have h := h.2 c_1
        refine lv_iload_n X.1 X.2.1 dX5_pointsUpTo_12 rfl (lv_at hl 2 rfl) ?_
        refine lv_iload_n X.1 X.2.1 dX5_pointsUpTo_13 rfl (lv_at hl 1 rfl) ?_
        refine lv_icmp_gt (tgt := 30) X.1 X.2.1 dX5_pointsUpTo_14 (by decide) (fun c_2 => ?_) (fun c_2 => ?_)
        · have h := h.1 c_2
          exact B30 x2 S _ (lv_sub hl [2] rfl) h _ _ hP hS
        · have h := h.2 c_2
          refine lv_iload_n X.1 X.2.1 dX5_pointsUpTo_17 rfl (lv_at hl 2 rfl) ?_
          refine lv_aload_n X.1 X.2.1 dX5_pointsUpTo_18 rfl (lv_at hl 0 rfl) ?_
          refine gf_X5_p X hK hP tl_X5_32 dX5_pointsUpTo_19 ?_
          refine lv_imul X.1 X.2.1 dX5_pointsUpTo_22 ?_
          refine lv_topi (fun x2_3 e2_3 => ?_)
          have h := h x2_3 e2_3
          refine lv_istore_n (lv' := [(2, .int x2_3), (0, .ref (G.1 + 1)), (1, .int x1), (3, .int x3)]) X.1 X.2.1 dX5_pointsUpTo_23 rfl hl (by decide) rfl (fun ls hl => ?_)
          obtain ⟨x3_4, e3_4⟩ : ∃ y : Int32, y = x3 + 1 := ⟨_, rfl⟩
          have h := h x3_4 e3_4
          refine lv_iinc (v := x3_4) (lv' := [(3, .int x3_4), (2, .int x2_3), (0, .ref (G.1 + 1)), (1, .int x1)]) X.1 X.2.1 dX5_pointsUpTo_24 hl (k := 3) rfl (by rw [e3_4]; first | rfl | decide) (by decide) rfl (fun ls hl => ?_)
          refine lv_goto (tgt := 4) X.1 X.2.1 dX5_pointsUpTo_27 (by decide) ?_
          exact hk4 x2_3 x3_4 S _ (lv_sub hl [2, 3, 1, 0] rfl) h _ _ hP hS
  refine lv_iconst (v := 1) X.1 X.2.1 dX5_pointsUpTo_0 (by decide) ?_
  refine lv_istore_n (lv' := [(2, .int 1), (0, .ref (G.1 + 1)), (1, .int x1)]) X.1 X.2.1 dX5_pointsUpTo_1 rfl hl (by decide) rfl (fun ls hl => ?_)
  refine lv_iconst (v := 0) X.1 X.2.1 dX5_pointsUpTo_2 (by decide) ?_
  refine lv_istore_n (lv' := [(3, .int 0), (2, .int 1), (0, .ref (G.1 + 1)), (1, .int x1)]) X.1 X.2.1 dX5_pointsUpTo_3 rfl hl (by decide) rfl (fun ls hl => ?_)
  obtain ⟨f_1, h⟩ := h
  exact B4 f_1 1 0 S _ (lv_sub hl [2, 3, 1, 0] rfl) h _ _ hP hS

set_option maxHeartbeats 4000000 in
set_option maxRecDepth 100000 in
theorem c_X5_valueAtPoint (l : Launch) (G : Cx) (q1 : Nat) (S : St) (K : Int32 → St → Prop) (hq1 : isP q1) (h : w_X5_valueAtPoint q1 S K) : q_Met l yX5_valueAtPoint cX5_valueAtPoint 6 (some .int) 2 43 G [.ref (G.1 + 1), .ref (G.1 + q1)] v_i S K := by
  refine q_enter (by decide +kernel) (Nat.le_of_ble_eq_true rfl) (fun p e s m args below meth c ls X hK hP hr hlocks hl => ?_)
  have hS : va_S (fr_ G) s.heap s.heap [] := va_S.rf
  have hl : lv_has ls 6 [(0, .ref (G.1 + 1)), (1, .ref (G.1 + q1))] := hl
  have B23 : ∀ (x2 : Int32) (x3 : Int32) (k4 : Int32 → Int32 → St → Prop) (hk4 : ∀ (x2 : Int32) (x3 : Int32) (S : St) (ls : Array Slot), lv_has ls 6 [(0, .ref (G.1 + 1)), (1, .ref (G.1 + q1)), (2, .int x2), (3, .int x3)] → k4 x2 x3 S → q_W p l e (k2_rm 2 43) s m args below meth c 0 0 (MQ below (q_Qc G K v_i) args s 0 0 (fr_ G)) G 4 ls [] S) (f : Nat) (x4 : Int32) (x5 : Int32) (S : St) (ls : Array Slot), lv_has ls 6 [(0, .ref (G.1 + 1)), (1, .ref (G.1 + q1)), (2, .int x2), (3, .int x3), (4, .int x4), (5, .int x5)] → q_it (fun _ _ _ => False) (w_X5_valueAtPoint_23 q1 K k4 x2 x3) f x4 x5 S → q_W p l e (k2_rm 2 43) s m args below meth c 0 0 (MQ below (q_Qc G K v_i) args s 0 0 (fr_ G)) G 23 ls [] S := by
    intro x2 x3 k4 hk4 f
    induction f with
    | zero => intro x4 x5 S ls hl h; exact False.elim h
    | succ f hk23 =>
      intro x4 x5 S ls hl h H locs hP hS
      have h : w_X5_valueAtPoint_23 q1 K k4 x2 x3 (q_it (fun _ _ _ => False) (w_X5_valueAtPoint_23 q1 K k4 x2 x3) f) x4 x5 S := h
      generalize q_it (fun _ _ _ => False) (w_X5_valueAtPoint_23 q1 K k4 x2 x3) f = k23 at h hk23
      refine lv_iload X.1 X.2.1 dX5_valueAtPoint_23 (lv_at hl 5 rfl) ?_
      refine lv_aload_n X.1 X.2.1 dX5_valueAtPoint_25 rfl (lv_at hl 0 rfl) ?_
      refine gf_X5_n X hK hP tl_X5_35 dX5_valueAtPoint_26 ?_
      refine lv_icmp_ge (tgt := 69) X.1 X.2.1 dX5_valueAtPoint_29 (by decide) (fun c_1 => ?_) (fun c_1 => ?_)
      · have h := h.1 c_1
        refine lv_aload_n X.1 X.2.1 dX5_valueAtPoint_69 rfl (lv_at hl 0 rfl) ?_
        refine lv_iload_n X.1 X.2.1 dX5_valueAtPoint_70 rfl (lv_at hl 2 rfl) ?_
        refine lv_iload X.1 X.2.1 dX5_valueAtPoint_71 (lv_at hl 4 rfl) ?_
        refine lv_iadd X.1 X.2.1 dX5_valueAtPoint_73 ?_
        refine q_callV (rest := []) (b := 1) X hK hP hS (c_X5_restOf l G (x2 + x4) S _ h) my_X5_restOf tl_X5_76 dX5_valueAtPoint_74 kz_1 rfl rfl rfl ⟨Nat.le_of_ble_eq_true rfl, Nat.le_of_ble_eq_true rfl⟩ hl.1 rfl (Nat.le_of_ble_eq_true rfl) ⟨Nat.le_of_ble_eq_true rfl, Nat.le_of_ble_eq_true rfl⟩ (fun r_3 S_2 H locs h hP hS => ?_)
        refine W.eq (g2 := F0 m 77 ls [.int r_3]) rfl ?_
        refine lv_istore_n (lv' := [(2, .int r_3), (0, .ref (G.1 + 1)), (1, .ref (G.1 + q1)), (3, .int x3), (4, .int x4), (5, .int x5)]) X.1 X.2.1 dX5_valueAtPoint_77 rfl hl (by decide) rfl (fun ls hl => ?_)
        obtain ⟨x3_4, e3_4⟩ : ∃ y : Int32, y = x3 + 1 := ⟨_, rfl⟩
        have h := h x3_4 e3_4
        refine lv_iinc (v := x3_4) (lv' := [(3, .int x3_4), (2, .int r_3), (0, .ref (G.1 + 1)), (1, .ref (G.1 + q1)), (4, .int x4), (5, .int x5)]) X.1 X.2.1 dX5_valueAtPoint_78 hl (k := 3) rfl (by rw [e3_4]; first | rfl | decide) (by decide) rfl (fun ls hl => ?_)
        refine lv_goto (tgt := 4) X.1 X.2.1 dX5_valueAtPoint_81 (by decide) ?_
        exact hk4 r_3 x3_4 S_2 _ (lv_sub hl [2, 3, 1, 0] rfl) h _ _ hP hS
      · have h := h.2 c_1
        refine lv_aload_n X.1 X.2.1 dX5_valueAtPoint_32 rfl (lv_at hl 0 rfl) ?_
        refine lv_iload X.1 X.2.1 dX5_valueAtPoint_33 (lv_at hl 4 rfl) ?_
        refine lv_aload_n X.1 X.2.1 dX5_valueAtPoint_35 rfl (lv_at hl 0 rfl) ?_
        refine lv_aload_n X.1 X.2.1 dX5_valueAtPoint_36 rfl (lv_at hl 0 rfl) ?_
        refine gf_X5_point X hK hP tl_X5_15 dX5_valueAtPoint_37 ?_
        refine lv_iload X.1 X.2.1 dX5_valueAtPoint_40 (lv_at hl 5 rfl) ?_
        obtain ⟨o_5, h⟩ := h
        refine q_iald X hK hP kz_2 o_5 dX5_valueAtPoint_42 ?_
        refine lv_aload_n X.1 X.2.1 dX5_valueAtPoint_43 rfl (lv_at hl 1 rfl) ?_
        refine gf_X3_monos X hK hP hq1 tl_X5_57 dX5_valueAtPoint_44 ?_
        refine lv_iload_n X.1 X.2.1 dX5_valueAtPoint_47 rfl (lv_at hl 3 rfl) ?_
        obtain ⟨o_6, h⟩ := h
        refine q_iald X hK hP (isP_2 hq1) o_6 dX5_valueAtPoint_48 ?_
        refine lv_iload X.1 X.2.1 dX5_valueAtPoint_49 (lv_at hl 5 rfl) ?_
        refine q_callS (rest := [.int (S 2 (q_rf x5)), .ref (G.1 + 1), .int x4, .ref (G.1 + 1)]) X hK hP hS (c_X1_exponentOf l G (S (q1 + 2) (q_rf x3)) x5 S _ h) my_X1_exponentOf tl_X5_102 dX5_valueAtPoint_51 rfl ⟨Nat.le_of_ble_eq_true rfl, Nat.le_of_ble_eq_true rfl⟩ hl.1 rfl (Nat.le_of_ble_eq_true rfl) ⟨Nat.le_of_ble_eq_true rfl, Nat.le_of_ble_eq_true rfl⟩ (fun r_8 S_7 H locs h hP hS => ?_)
        refine W.eq (g2 := F0 m 54 ls [.int r_8, .int (S 2 (q_rf x5)), .ref (G.1 + 1), .int x4, .ref (G.1 + 1)]) rfl ?_
        refine q_callV (rest := [.int x4, .ref (G.1 + 1)]) (b := 1) X hK hP hS (c_X5_power l G (S 2 (q_rf x5)) r_8 S_7 _ h) my_X5_power tl_X5_48 dX5_valueAtPoint_54 kz_1 rfl rfl rfl ⟨Nat.le_of_ble_eq_true rfl, Nat.le_of_ble_eq_true rfl⟩ hl.1 rfl (Nat.le_of_ble_eq_true rfl) ⟨Nat.le_of_ble_eq_true rfl, Nat.le_of_ble_eq_true rfl⟩ (fun r_10 S_9 H locs h hP hS => ?_)
        refine W.eq (g2 := F0 m 57 ls [.int r_10, .int x4, .ref (G.1 + 1)]) rfl ?_
        refine lv_imul X.1 X.2.1 dX5_valueAtPoint_57 ?_
        refine q_callV (rest := []) (b := 1) X hK hP hS (c_X5_restOf l G (x4 * r_10) S_9 _ h) my_X5_restOf tl_X5_76 dX5_valueAtPoint_58 kz_1 rfl rfl rfl ⟨Nat.le_of_ble_eq_true rfl, Nat.le_of_ble_eq_true rfl⟩ hl.1 rfl (Nat.le_of_ble_eq_true rfl) ⟨Nat.le_of_ble_eq_true rfl, Nat.le_of_ble_eq_true rfl⟩ (fun r_12 S_11 H locs h hP hS => ?_)
        refine W.eq (g2 := F0 m 61 ls [.int r_12]) rfl ?_
        refine lv_istore (lv' := [(4, .int r_12), (0, .ref (G.1 + 1)), (1, .ref (G.1 + q1)), (2, .int x2), (3, .int x3), (5, .int x5)]) X.1 X.2.1 dX5_valueAtPoint_61 hl (by decide) rfl (fun ls hl => ?_)
        obtain ⟨x5_13, e5_13⟩ : ∃ y : Int32, y = x5 + 1 := ⟨_, rfl⟩
        have h := h x5_13 e5_13
        refine lv_iinc (v := x5_13) (lv' := [(5, .int x5_13), (4, .int r_12), (0, .ref (G.1 + 1)), (1, .ref (G.1 + q1)), (2, .int x2), (3, .int x3)]) X.1 X.2.1 dX5_valueAtPoint_63 hl (k := 5) rfl (by rw [e5_13]; first | rfl | decide) (by decide) rfl (fun ls hl => ?_)
        refine lv_goto (tgt := 23) X.1 X.2.1 dX5_valueAtPoint_66 (by decide) ?_
        exact hk23 r_12 x5_13 S_11 _ (lv_sub hl [2, 3, 4, 5, 1, 0] rfl) h _ _ hP hS
  have B4 : ∀ (f : Nat) (x2 : Int32) (x3 : Int32) (S : St) (ls : Array Slot), lv_has ls 6 [(0, .ref (G.1 + 1)), (1, .ref (G.1 + q1)), (2, .int x2), (3, .int x3)] → q_it (fun _ _ _ => False) (w_X5_valueAtPoint_4 q1 K) f x2 x3 S → q_W p l e (k2_rm 2 43) s m args below meth c 0 0 (MQ below (q_Qc G K v_i) args s 0 0 (fr_ G)) G 4 ls [] S := by
    intro f
    induction f with
    | zero => intro x2 x3 S ls hl h; exact False.elim h
    | succ f hk4 =>
      intro x2 x3 S ls hl h H locs hP hS
      have h : w_X5_valueAtPoint_4 q1 K (q_it (fun _ _ _ => False) (w_X5_valueAtPoint_4 q1 K) f) x2 x3 S := h
      generalize q_it (fun _ _ _ => False) (w_X5_valueAtPoint_4 q1 K) f = k4 at h hk4
      refine lv_iload_n X.1 X.2.1 dX5_valueAtPoint_4 rfl (lv_at hl 3 rfl) ?_
      refine lv_aload_n X.1 X.2.1 dX5_valueAtPoint_5 rfl (lv_at hl 1 rfl) ?_
      refine gf_X3_size X hK hP hq1 tl_X5_51 dX5_valueAtPoint_6 ?_
      refine lv_icmp_ge (tgt := 84) X.1 X.2.1 dX5_valueAtPoint_9 (by decide) (fun c_1 => ?_) (fun c_1 => ?_)
      · have h := h.1 c_1
        refine lv_iload_n X.1 X.2.1 dX5_valueAtPoint_84 rfl (lv_at hl 2 rfl) ?_
        exact q_iret X hr hlocks hP hS rfl h dX5_valueAtPoint_85
      · have h := h.2 c_1
        refine lv_aload_n X.1 X.2.1 dX5_valueAtPoint_12 rfl (lv_at hl 1 rfl) ?_
        refine gf_X3_numbers X hK hP hq1 tl_X5_54 dX5_valueAtPoint_13 ?_
        refine lv_iload_n X.1 X.2.1 dX5_valueAtPoint_16 rfl (lv_at hl 3 rfl) ?_
        obtain ⟨o_2, h⟩ := h
        refine q_iald X hK hP (isP_1 hq1) o_2 dX5_valueAtPoint_17 ?_
        refine lv_topi (fun x4_3 e4_3 => ?_)
        have h := h x4_3 e4_3
        refine lv_istore (lv' := [(4, .int x4_3), (0, .ref (G.1 + 1)), (1, .ref (G.1 + q1)), (2, .int x2), (3, .int x3)]) X.1 X.2.1 dX5_valueAtPoint_18 hl (by decide) rfl (fun ls hl => ?_)
        refine lv_iconst (v := 0) X.1 X.2.1 dX5_valueAtPoint_20 (by decide) ?_
        refine lv_istore (lv' := [(5, .int 0), (4, .int x4_3), (0, .ref (G.1 + 1)), (1, .ref (G.1 + q1)), (2, .int x2), (3, .int x3)]) X.1 X.2.1 dX5_valueAtPoint_21 hl (by decide) rfl (fun ls hl => ?_)
        obtain ⟨f_4, h⟩ := h
        exact B23 x2 x3 k4 hk4 f_4 x4_3 0 S _ (lv_sub hl [2, 3, 4, 5, 1, 0] rfl) h _ _ hP hS
  refine lv_iconst (v := 0) X.1 X.2.1 dX5_valueAtPoint_0 (by decide) ?_
  refine lv_istore_n (lv' := [(2, .int 0), (0, .ref (G.1 + 1)), (1, .ref (G.1 + q1))]) X.1 X.2.1 dX5_valueAtPoint_1 rfl hl (by decide) rfl (fun ls hl => ?_)
  refine lv_iconst (v := 0) X.1 X.2.1 dX5_valueAtPoint_2 (by decide) ?_
  refine lv_istore_n (lv' := [(3, .int 0), (2, .int 0), (0, .ref (G.1 + 1)), (1, .ref (G.1 + q1))]) X.1 X.2.1 dX5_valueAtPoint_3 rfl hl (by decide) rfl (fun ls hl => ?_)
  obtain ⟨f_1, h⟩ := h
  exact B4 f_1 0 0 S _ (lv_sub hl [2, 3, 1, 0] rfl) h _ _ hP hS
