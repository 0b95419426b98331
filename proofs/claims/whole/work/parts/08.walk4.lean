set_option maxHeartbeats 4000000 in
set_option maxRecDepth 100000 in
theorem c_X8_isPrimeInRange (l : Launch) (G : Cx) (x0 : Int32) (S : St) (K : Int32 → St → Prop) (h : w_X8_isPrimeInRange x0 S K) : q_Met l yX8_isPrimeInRange cX8_isPrimeInRange 2 (some .boolean) 0 0 G [.int x0] v_i S K := by
  refine q_enter (by decide +kernel) (Nat.le_of_ble_eq_true rfl) (fun p e s m args below meth c ls X hK hP hr hlocks hl => ?_)
  have hS : va_S (fr_ G) s.heap s.heap [] := va_S.rf
  have hl : lv_has ls 2 [(0, .int x0)] := hl
  have B12 : ∀ (S : St) (ls : Array Slot), lv_has ls 2 [] → w_X8_isPrimeInRange_12 x0 K S → q_W p l e (k2_rm 0 0) s m args below meth c 0 0 (MQ below (q_Qc G K v_i) args s 0 0 (fr_ G)) G 12 ls [] S := by
    intro S ls hl h H locs hP hS
    refine lv_iconst (v := 0) X.1 X.2.1 dX8_isPrimeInRange_12 (by decide) ?_
    exact q_iret X hr hlocks hP hS rfl h dX8_isPrimeInRange_13
  have B16 : ∀ (f : Nat) (x1 : Int32) (S : St) (ls : Array Slot), lv_has ls 2 [(0, .int x0), (1, .int x1)] → q_it (fun _ _ => False) (w_X8_isPrimeInRange_16 x0 K) f x1 S → q_W p l e (k2_rm 0 0) s m args below meth c 0 0 (MQ below (q_Qc G K v_i) args s 0 0 (fr_ G)) G 16 ls [] S := by
    intro f
    induction f with
    | zero => intro x1 S ls hl h; exact False.elim h
    | succ f hk16 =>
      intro x1 S ls hl h H locs hP hS
      have h : w_X8_isPrimeInRange_16 x0 K (q_it (fun _ _ => False) (w_X8_isPrimeInRange_16 x0 K) f) x1 S := h
      generalize q_it (fun _ _ => False) (w_X8_isPrimeInRange_16 x0 K) f = k16 at h hk16
      refine lv_iload_n X.1 X.2.1 dX8_isPrimeInRange_16 rfl (lv_at hl 1 rfl) ?_
      refine lv_iload_n X.1 X.2.1 dX8_isPrimeInRange_17 rfl (lv_at hl 0 rfl) ?_
      refine lv_icmp_ge (tgt := 35) X.1 X.2.1 dX8_isPrimeInRange_18 (by decide) (fun c_1 => ?_) (fun c_1 => ?_)
      · have h := h.1 c_1
        refine lv_iconst (v := 1) X.1 X.2.1 dX8_isPrimeInRange_35 (by decide) ?_
        exact q_iret X hr hlocks hP hS rfl h dX8_isPrimeInRange_36
      · have h := h.2 c_1
        refine lv_iload_n X.1 X.2.1 dX8_isPrimeInRange_21 rfl (lv_at hl 0 rfl) ?_
        refine lv_iload_n X.1 X.2.1 dX8_isPrimeInRange_22 rfl (lv_at hl 1 rfl) ?_
        obtain ⟨o_2, h⟩ := h
        refine lv_irem X.1 X.2.1 dX8_isPrimeInRange_23 o_2 ?_
        refine lv_if_ne (tgt := 29) X.1 X.2.1 dX8_isPrimeInRange_24 (by decide) (fun c_3 => ?_) (fun c_3 => ?_)
        · have h := h.1 c_3
          obtain ⟨x1_4, e1_4⟩ : ∃ y : Int32, y = x1 + 1 := ⟨_, rfl⟩
          have h := h x1_4 e1_4
          refine lv_iinc (v := x1_4) (lv' := [(1, .int x1_4), (0, .int x0)]) X.1 X.2.1 dX8_isPrimeInRange_29 hl (k := 1) rfl (by rw [e1_4]; first | rfl | decide) (by decide) rfl (fun ls hl => ?_)
          refine lv_goto (tgt := 16) X.1 X.2.1 dX8_isPrimeInRange_32 (by decide) ?_
          exact hk16 x1_4 S _ (lv_sub hl [1, 0] rfl) h _ _ hP hS
        · have h := h.2 c_3
          refine lv_iconst (v := 0) X.1 X.2.1 dX8_isPrimeInRange_27 (by decide) ?_
          exact q_iret X hr hlocks hP hS rfl h dX8_isPrimeInRange_28
  refine lv_iload_n X.1 X.2.1 dX8_isPrimeInRange_0 rfl (lv_at hl 0 rfl) ?_
  refine lv_iconst (v := 2) X.1 X.2.1 dX8_isPrimeInRange_1 (by decide) ?_
  refine lv_icmp_lt (tgt := 12) X.1 X.2.1 dX8_isPrimeInRange_2 (by decide) (fun c_1 => ?_) (fun c_1 => ?_)
  · have h := h.1 c_1
    exact B12 S _ (lv_sub hl [] rfl) h _ _ hP hS
  · have h := h.2 c_1
    refine lv_iload_n X.1 X.2.1 dX8_isPrimeInRange_5 rfl (lv_at hl 0 rfl) ?_
    refine lv_sipush (v := 251) X.1 X.2.1 dX8_isPrimeInRange_6 (by decide) ?_
    refine lv_icmp_le (tgt := 14) X.1 X.2.1 dX8_isPrimeInRange_9 (by decide) (fun c_2 => ?_) (fun c_2 => ?_)
    · have h := h.1 c_2
      refine lv_iconst (v := 2) X.1 X.2.1 dX8_isPrimeInRange_14 (by decide) ?_
      refine lv_istore_n (lv' := [(1, .int 2), (0, .int x0)]) X.1 X.2.1 dX8_isPrimeInRange_15 rfl hl (by decide) rfl (fun ls hl => ?_)
      obtain ⟨f_3, h⟩ := h
      exact B16 f_3 2 S _ (lv_sub hl [1, 0] rfl) h _ _ hP hS
    · have h := h.2 c_2
      exact B12 S _ (lv_sub hl [] rfl) h _ _ hP hS

set_option maxHeartbeats 4000000 in
set_option maxRecDepth 100000 in
theorem c_X8_order (l : Launch) (G : Cx) (x1 : Int32) (S : St) (K : Int32 → St → Prop) (h : w_X8_order x1 S K) : q_Met l yX8_order cX8_order 5 (some .int) 2 52 G [.ref (G.1 + 0), .int x1] v_i S K := by
  refine q_enter (by decide +kernel) (Nat.le_of_ble_eq_true rfl) (fun p e s m args below meth c ls X hK hP hr hlocks hl => ?_)
  have hS : va_S (fr_ G) s.heap s.heap [] := va_S.rf
  have hl : lv_has ls 5 [(0, .ref (G.1 + 0)), (1, .int x1)] := hl
  have B9 : ∀ (S : St) (ls : Array Slot), lv_has ls 5 [] → w_X8_order_9 x1 K S → q_W p l e (k2_rm 2 52) s m args below meth c 0 0 (MQ below (q_Qc G K v_i) args s 0 0 (fr_ G)) G 9 ls [] S := by
    intro S ls hl h H locs hP hS
    refine lv_bipush (v := (-2)) X.1 X.2.1 dX8_order_9 (by decide) ?_
    exact q_iret X hr hlocks hP hS rfl h dX8_order_11
  have B84 : ∀ (x2 : Int32) (x3 : Int32) (k54 : Int32 → St → Prop) (hk54 : ∀ (x3 : Int32) (S : St) (ls : Array Slot), lv_has ls 5 [(0, .ref (G.1 + 0)), (2, .int x2), (3, .int x3)] → k54 x3 S → q_W p l e (k2_rm 2 52) s m args below meth c 0 0 (MQ below (q_Qc G K v_i) args s 0 0 (fr_ G)) G 54 ls [] S) (S : St) (ls : Array Slot), lv_has ls 5 [(0, .ref (G.1 + 0)), (2, .int x2), (3, .int x3)] → w_X8_order_84 x1 K k54 x2 x3 S → q_W p l e (k2_rm 2 52) s m args below meth c 0 0 (MQ below (q_Qc G K v_i) args s 0 0 (fr_ G)) G 84 ls [] S := by
    intro x2 x3 k54 hk54 S ls hl h H locs hP hS
    obtain ⟨x3_1, e3_1⟩ : ∃ y : Int32, y = x3 + 1 := ⟨_, rfl⟩
    have h := h x3_1 e3_1
    refine lv_iinc (v := x3_1) (lv' := [(3, .int x3_1), (0, .ref (G.1 + 0)), (2, .int x2)]) X.1 X.2.1 dX8_order_84 hl (k := 2) rfl (by rw [e3_1]; first | rfl | decide) (by decide) rfl (fun ls hl => ?_)
    refine lv_goto (tgt := 54) X.1 X.2.1 dX8_order_87 (by decide) ?_
    exact hk54 x3_1 S _ (lv_sub hl [1, 2, 0] rfl) h _ _ hP hS
  have B54 : ∀ (x2 : Int32) (f : Nat) (x3 : Int32) (S : St) (ls : Array Slot), lv_has ls 5 [(0, .ref (G.1 + 0)), (2, .int x2), (3, .int x3)] → q_it (fun _ _ => False) (w_X8_order_54 x1 K x2) f x3 S → q_W p l e (k2_rm 2 52) s m args below meth c 0 0 (MQ below (q_Qc G K v_i) args s 0 0 (fr_ G)) G 54 ls [] S := by
    intro x2 f
    induction f with
    | zero => intro x3 S ls hl h; exact False.elim h
    | succ f hk54 =>
      intro x3 S ls hl h H locs hP hS
      have h : w_X8_order_54 x1 K x2 (q_it (fun _ _ => False) (w_X8_order_54 x1 K x2) f) x3 S := h
      generalize q_it (fun _ _ => False) (w_X8_order_54 x1 K x2) f = k54 at h hk54
      refine lv_iload_n X.1 X.2.1 dX8_order_54 rfl (lv_at hl 2 rfl) ?_
      refine lv_bipush (v := 24) X.1 X.2.1 dX8_order_55 (by decide) ?_
      refine lv_icmp_ge (tgt := 90) X.1 X.2.1 dX8_order_57 (by decide) (fun c_1 => ?_) (fun c_1 => ?_)
      · have h := h.1 c_1
        refine lv_iload_n X.1 X.2.1 dX8_order_90 rfl (lv_at hl 1 rfl) ?_
        exact q_iret X hr hlocks hP hS rfl h dX8_order_91
      · have h := h.2 c_1
        refine lv_aload_n X.1 X.2.1 dX8_order_60 rfl (lv_at hl 0 rfl) ?_
        refine gf_X8_shelf X hK hP tl_X8_42 dX8_order_61 ?_
        refine lv_iload_n X.1 X.2.1 dX8_order_64 rfl (lv_at hl 2 rfl) ?_
        refine q_callV (rest := []) (b := 19) X hK hP hS (c_X6_at l G x3 S _ h) my_X6_at tl_X8_84 dX8_order_65 kz_19 rfl rfl rfl ⟨Nat.le_of_ble_eq_true rfl, Nat.le_of_ble_eq_true rfl⟩ hl.1 rfl (Nat.le_of_ble_eq_true rfl) ⟨Nat.le_of_ble_eq_true rfl, Nat.le_of_ble_eq_true rfl⟩ (fun r_3 S_2 H locs h hP hS => ?_)
        rcases r_3 with _ | q_4
        · have h := h.1 rfl
          refine W.eq (g2 := F0 m 68 ls [.null]) rfl ?_
          refine lv_astoreN (lv' := [(4, .null), (0, .ref (G.1 + 0)), (2, .int x2), (3, .int x3)]) X.1 X.2.1 dX8_order_68 hl (by decide) rfl (fun ls hl => ?_)
          refine lv_aloadN X.1 X.2.1 dX8_order_70 (lv_at hl 0 rfl) ?_
          refine lv_ifnullN (tgt := 84) X.1 X.2.1 dX8_order_72 (by decide) ?_
          exact B84 x2 x3 k54 hk54 S_2 _ (lv_sub hl [1, 2, 3] rfl) h _ _ hP hS
        · have h := h.2 q_4 rfl
          refine W.eq (g2 := F0 m 68 ls [.ref (G.1 + q_4)]) rfl ?_
          refine lv_astore (lv' := [(4, .ref (G.1 + q_4)), (0, .ref (G.1 + 0)), (2, .int x2), (3, .int x3)]) X.1 X.2.1 dX8_order_68 hl (by decide) rfl (fun ls hl => ?_)
          refine lv_aload X.1 X.2.1 dX8_order_70 (lv_at hl 0 rfl) ?_
          refine lv_ifnull X.1 X.2.1 dX8_order_72 ?_
          refine lv_aload_n X.1 X.2.1 dX8_order_75 rfl (lv_at hl 1 rfl) ?_
          refine gf_X8_ring X hK hP tl_X8_18 dX8_order_76 ?_
          refine lv_aload X.1 X.2.1 dX8_order_79 (lv_at hl 0 rfl) ?_
          obtain ⟨o_5, h⟩ := h
          refine q_callV (rest := []) (b := 1) X hK hP hS (c_X5_sortTerms l G q_4 S_2 _ o_5 h) my_X5_sortTerms tl_X8_80 dX8_order_81 kz_1 rfl rfl rfl ⟨Nat.le_of_ble_eq_true rfl, Nat.le_of_ble_eq_true rfl⟩ hl.1 rfl (Nat.le_of_ble_eq_true rfl) ⟨Nat.le_of_ble_eq_true rfl, Nat.le_of_ble_eq_true rfl⟩ (fun r_7 S_6 H locs h hP hS => ?_)
          refine W.eq (g2 := F0 m 84 ls []) rfl ?_
          exact B84 x2 x3 k54 hk54 S_6 _ (lv_sub hl [1, 2, 3] rfl) h _ _ hP hS
  refine lv_iload_n X.1 X.2.1 dX8_order_0 rfl (lv_at hl 1 rfl) ?_
  refine lv_if_lt (tgt := 9) X.1 X.2.1 dX8_order_1 (by decide) (fun c_1 => ?_) (fun c_1 => ?_)
  · have h := h.1 c_1
    exact B9 S _ (lv_sub hl [] rfl) h _ _ hP hS
  · have h := h.2 c_1
    refine lv_iload_n X.1 X.2.1 dX8_order_4 rfl (lv_at hl 1 rfl) ?_
    refine lv_iconst (v := 3) X.1 X.2.1 dX8_order_5 (by decide) ?_
    refine lv_icmp_le (tgt := 12) X.1 X.2.1 dX8_order_6 (by decide) (fun c_2 => ?_) (fun c_2 => ?_)
    · have h := h.1 c_2
      refine lv_aload_n X.1 X.2.1 dX8_order_12 rfl (lv_at hl 0 rfl) ?_
      refine gf_X8_basis X hK hP tl_X8_60 dX8_order_13 ?_
      refine gf_X0_size X hK hP tl_X8_73 dX8_order_16 ?_
      refine lv_if_le (tgt := 25) X.1 X.2.1 dX8_order_19 (by decide) (fun c_3 => ?_) (fun c_3 => ?_)
      · have h := h.1 c_3
        refine lv_aload_n X.1 X.2.1 dX8_order_25 rfl (lv_at hl 0 rfl) ?_
        refine gf_X8_ring X hK hP tl_X8_18 dX8_order_26 ?_
        refine gf_X5_order X hK hP tl_X8_77 dX8_order_29 ?_
        refine lv_topi (fun x2_4 e2_4 => ?_)
        have h := h x2_4 e2_4
        refine lv_istore_n (lv' := [(2, .int x2_4), (0, .ref (G.1 + 0)), (1, .int x1)]) X.1 X.2.1 dX8_order_32 rfl hl (by decide) rfl (fun ls hl => ?_)
        refine lv_aload_n X.1 X.2.1 dX8_order_33 rfl (lv_at hl 1 rfl) ?_
        refine gf_X8_ring X hK hP tl_X8_18 dX8_order_34 ?_
        refine lv_iload_n X.1 X.2.1 dX8_order_37 rfl (lv_at hl 2 rfl) ?_
        refine pf_X5_order X hK hP hS tl_X8_77 dX8_order_38 (fun S_5 H locs eS_5 hP hS => ?_)
        have h := h S_5 eS_5
        refine lv_aload_n X.1 X.2.1 dX8_order_41 rfl (lv_at hl 1 rfl) ?_
        refine gf_X8_ring X hK hP tl_X8_18 dX8_order_42 ?_
        refine lv_aload_n X.1 X.2.1 dX8_order_45 rfl (lv_at hl 1 rfl) ?_
        refine gf_X8_draft X hK hP tl_X8_25 dX8_order_46 ?_
        refine q_callV (rest := []) (b := 1) X hK hP hS (c_X5_sortTerms l G 10 S_5 _ kz_10 h) my_X5_sortTerms tl_X8_80 dX8_order_49 kz_1 rfl rfl rfl ⟨Nat.le_of_ble_eq_true rfl, Nat.le_of_ble_eq_true rfl⟩ hl.1 rfl (Nat.le_of_ble_eq_true rfl) ⟨Nat.le_of_ble_eq_true rfl, Nat.le_of_ble_eq_true rfl⟩ (fun r_7 S_6 H locs h hP hS => ?_)
        refine W.eq (g2 := F0 m 52 ls []) rfl ?_
        refine lv_iconst (v := 0) X.1 X.2.1 dX8_order_52 (by decide) ?_
        refine lv_istore_n (lv' := [(3, .int 0), (2, .int x2_4), (0, .ref (G.1 + 0)), (1, .int x1)]) X.1 X.2.1 dX8_order_53 rfl hl (by decide) rfl (fun ls hl => ?_)
        obtain ⟨f_8, h⟩ := h
        exact B54 x2_4 f_8 0 S_6 _ (lv_sub hl [2, 1, 0] rfl) h _ _ hP hS
      · have h := h.2 c_3
        refine lv_bipush (v := (-3)) X.1 X.2.1 dX8_order_22 (by decide) ?_
        exact q_iret X hr hlocks hP hS rfl h dX8_order_24
    · have h := h.2 c_2
      exact B9 S _ (lv_sub hl [] rfl) h _ _ hP hS

set_option maxHeartbeats 4000000 in
set_option maxRecDepth 100000 in
theorem c_X8_term (l : Launch) (G : Cx) (x1 : Int32) (x2 : Int32) (x3 : Int32) (x4 : Int32) (x5 : Int32) (S : St) (K : Int32 → St → Prop) (h : w_X8_term x1 x2 x3 x4 x5 S K) : q_Met l yX8_term cX8_term 7 (some .int) 3 75 G [.ref (G.1 + 0), .int x1, .int x2, .int x3, .int x4, .int x5] v_i S K := by
  refine q_enter (by decide +kernel) (Nat.le_of_ble_eq_true rfl) (fun p e s m args below meth c ls X hK hP hr hlocks hl => ?_)
  have hS : va_S (fr_ G) s.heap s.heap [] := va_S.rf
  have hl : lv_has ls 7 [(0, .ref (G.1 + 0)), (1, .int x1), (2, .int x2), (3, .int x3), (4, .int x4), (5, .int x5)] := hl
  have B50 : ∀ (S : St) (ls : Array Slot), lv_has ls 7 [] → w_X8_term_50 x1 x2 x3 x4 x5 K S → q_W p l e (k2_rm 3 75) s m args below meth c 0 0 (MQ below (q_Qc G K v_i) args s 0 0 (fr_ G)) G 50 ls [] S := by
    intro S ls hl h H locs hP hS
    refine lv_bipush (v := (-2)) X.1 X.2.1 dX8_term_50 (by decide) ?_
    exact q_iret X hr hlocks hP hS rfl h dX8_term_52
  refine lv_aload_n X.1 X.2.1 dX8_term_0 rfl (lv_at hl 0 rfl) ?_
  refine gf_X8_ring X hK hP tl_X8_18 dX8_term_1 ?_
  refine lv_iload_n X.1 X.2.1 dX8_term_4 rfl (lv_at hl 2 rfl) ?_
  refine lv_iconst (v := 0) X.1 X.2.1 dX8_term_5 (by decide) ?_
  refine q_callV (rest := []) (b := 1) X hK hP hS (c_X5_mayBeExponent l G x2 0 S _ h) my_X5_mayBeExponent tl_X8_88 dX8_term_6 kz_1 rfl rfl rfl ⟨Nat.le_of_ble_eq_true rfl, Nat.le_of_ble_eq_true rfl⟩ hl.1 rfl (Nat.le_of_ble_eq_true rfl) ⟨Nat.le_of_ble_eq_true rfl, Nat.le_of_ble_eq_true rfl⟩ (fun r_2 S_1 H locs h hP hS => ?_)
  refine W.eq (g2 := F0 m 9 ls [.int r_2]) rfl ?_
  refine lv_if_eq (tgt := 50) X.1 X.2.1 dX8_term_9 (by decide) (fun c_3 => ?_) (fun c_3 => ?_)
  · have h := h.1 c_3
    exact B50 S_1 _ (lv_sub hl [] rfl) h _ _ hP hS
  · have h := h.2 c_3
    refine lv_aload_n X.1 X.2.1 dX8_term_12 rfl (lv_at hl 0 rfl) ?_
    refine gf_X8_ring X hK hP tl_X8_18 dX8_term_13 ?_
    refine lv_iload_n X.1 X.2.1 dX8_term_16 rfl (lv_at hl 3 rfl) ?_
    refine lv_iconst (v := 1) X.1 X.2.1 dX8_term_17 (by decide) ?_
    refine q_callV (rest := []) (b := 1) X hK hP hS (c_X5_mayBeExponent l G x3 1 S_1 _ h) my_X5_mayBeExponent tl_X8_88 dX8_term_18 kz_1 rfl rfl rfl ⟨Nat.le_of_ble_eq_true rfl, Nat.le_of_ble_eq_true rfl⟩ hl.1 rfl (Nat.le_of_ble_eq_true rfl) ⟨Nat.le_of_ble_eq_true rfl, Nat.le_of_ble_eq_true rfl⟩ (fun r_5 S_4 H locs h hP hS => ?_)
    refine W.eq (g2 := F0 m 21 ls [.int r_5]) rfl ?_
    refine lv_if_eq (tgt := 50) X.1 X.2.1 dX8_term_21 (by decide) (fun c_6 => ?_) (fun c_6 => ?_)
    · have h := h.1 c_6
      exact B50 S_4 _ (lv_sub hl [] rfl) h _ _ hP hS
    · have h := h.2 c_6
      refine lv_aload_n X.1 X.2.1 dX8_term_24 rfl (lv_at hl 0 rfl) ?_
      refine gf_X8_ring X hK hP tl_X8_18 dX8_term_25 ?_
      refine lv_iload X.1 X.2.1 dX8_term_28 (lv_at hl 4 rfl) ?_
      refine lv_iconst (v := 2) X.1 X.2.1 dX8_term_30 (by decide) ?_
      refine q_callV (rest := []) (b := 1) X hK hP hS (c_X5_mayBeExponent l G x4 2 S_4 _ h) my_X5_mayBeExponent tl_X8_88 dX8_term_31 kz_1 rfl rfl rfl ⟨Nat.le_of_ble_eq_true rfl, Nat.le_of_ble_eq_true rfl⟩ hl.1 rfl (Nat.le_of_ble_eq_true rfl) ⟨Nat.le_of_ble_eq_true rfl, Nat.le_of_ble_eq_true rfl⟩ (fun r_8 S_7 H locs h hP hS => ?_)
      refine W.eq (g2 := F0 m 34 ls [.int r_8]) rfl ?_
      refine lv_if_eq (tgt := 50) X.1 X.2.1 dX8_term_34 (by decide) (fun c_9 => ?_) (fun c_9 => ?_)
      · have h := h.1 c_9
        exact B50 S_7 _ (lv_sub hl [] rfl) h _ _ hP hS
      · have h := h.2 c_9
        refine lv_aload_n X.1 X.2.1 dX8_term_37 rfl (lv_at hl 0 rfl) ?_
        refine gf_X8_ring X hK hP tl_X8_18 dX8_term_38 ?_
        refine lv_iload X.1 X.2.1 dX8_term_41 (lv_at hl 5 rfl) ?_
        refine lv_iconst (v := 3) X.1 X.2.1 dX8_term_43 (by decide) ?_
        refine q_callV (rest := []) (b := 1) X hK hP hS (c_X5_mayBeExponent l G x5 3 S_7 _ h) my_X5_mayBeExponent tl_X8_88 dX8_term_44 kz_1 rfl rfl rfl ⟨Nat.le_of_ble_eq_true rfl, Nat.le_of_ble_eq_true rfl⟩ hl.1 rfl (Nat.le_of_ble_eq_true rfl) ⟨Nat.le_of_ble_eq_true rfl, Nat.le_of_ble_eq_true rfl⟩ (fun r_11 S_10 H locs h hP hS => ?_)
        refine W.eq (g2 := F0 m 47 ls [.int r_11]) rfl ?_
        refine lv_if_ne (tgt := 53) X.1 X.2.1 dX8_term_47 (by decide) (fun c_12 => ?_) (fun c_12 => ?_)
        · have h := h.1 c_12
          refine lv_aload_n X.1 X.2.1 dX8_term_53 rfl (lv_at hl 0 rfl) ?_
          refine gf_X8_ring X hK hP tl_X8_18 dX8_term_54 ?_
          refine lv_aload_n X.1 X.2.1 dX8_term_57 rfl (lv_at hl 0 rfl) ?_
          refine gf_X8_result X hK hP tl_X8_36 dX8_term_58 ?_
          refine lv_aload_n X.1 X.2.1 dX8_term_61 rfl (lv_at hl 0 rfl) ?_
          refine gf_X8_draft X hK hP tl_X8_25 dX8_term_62 ?_
          refine lv_aload_n X.1 X.2.1 dX8_term_65 rfl (lv_at hl 0 rfl) ?_
          refine gf_X8_unit X hK hP tl_X8_29 dX8_term_66 ?_
          refine lv_aload_n X.1 X.2.1 dX8_term_69 rfl (lv_at hl 0 rfl) ?_
          refine gf_X8_ring X hK hP tl_X8_18 dX8_term_70 ?_
          refine lv_iload_n X.1 X.2.1 dX8_term_73 rfl (lv_at hl 1 rfl) ?_
          refine q_callV (rest := [.ref (G.1 + 13), .ref (G.1 + 10), .ref (G.1 + 16), .ref (G.1 + 1)]) (b := 1) X hK hP hS (c_X5_restOf l G x1 S_10 _ h) my_X5_restOf tl_X8_91 dX8_term_74 kz_1 rfl rfl rfl ⟨Nat.le_of_ble_eq_true rfl, Nat.le_of_ble_eq_true rfl⟩ hl.1 rfl (Nat.le_of_ble_eq_true rfl) ⟨Nat.le_of_ble_eq_true rfl, Nat.le_of_ble_eq_true rfl⟩ (fun r_14 S_13 H locs h hP hS => ?_)
          refine W.eq (g2 := F0 m 77 ls [.int r_14, .ref (G.1 + 13), .ref (G.1 + 10), .ref (G.1 + 16), .ref (G.1 + 1)]) rfl ?_
          refine lv_iload_n X.1 X.2.1 dX8_term_77 rfl (lv_at hl 2 rfl) ?_
          refine lv_iload_n X.1 X.2.1 dX8_term_78 rfl (lv_at hl 3 rfl) ?_
          refine lv_iload X.1 X.2.1 dX8_term_79 (lv_at hl 4 rfl) ?_
          refine lv_iload X.1 X.2.1 dX8_term_81 (lv_at hl 5 rfl) ?_
          refine q_callS (rest := [.int r_14, .ref (G.1 + 13), .ref (G.1 + 10), .ref (G.1 + 16), .ref (G.1 + 1)]) X hK hP hS (c_X1_of l G x2 x3 x4 x5 S_13 _ h) my_X1_of tl_X8_95 dX8_term_83 rfl ⟨Nat.le_of_ble_eq_true rfl, Nat.le_of_ble_eq_true rfl⟩ hl.1 rfl (Nat.le_of_ble_eq_true rfl) ⟨Nat.le_of_ble_eq_true rfl, Nat.le_of_ble_eq_true rfl⟩ (fun r_16 S_15 H locs h hP hS => ?_)
          refine W.eq (g2 := F0 m 86 ls [.int r_16, .int r_14, .ref (G.1 + 13), .ref (G.1 + 10), .ref (G.1 + 16), .ref (G.1 + 1)]) rfl ?_
          refine q_callV (rest := []) (b := 1) X hK hP hS (c_X5_addMultiple l G 16 10 13 r_14 r_16 S_15 _ kz_16 kz_10 kz_13 h) my_X5_addMultiple tl_X8_101 dX8_term_86 kz_1 rfl rfl rfl ⟨Nat.le_of_ble_eq_true rfl, Nat.le_of_ble_eq_true rfl⟩ hl.1 rfl (Nat.le_of_ble_eq_true rfl) ⟨Nat.le_of_ble_eq_true rfl, Nat.le_of_ble_eq_true rfl⟩ (fun r_18 S_17 H locs h hP hS => ?_)
          refine W.eq (g2 := F0 m 89 ls [.int r_18]) rfl ?_
          refine lv_istore (lv' := [(6, .int r_18), (0, .ref (G.1 + 0)), (1, .int x1), (2, .int x2), (3, .int x3), (4, .int x4), (5, .int x5)]) X.1 X.2.1 dX8_term_89 hl (by decide) rfl (fun ls hl => ?_)
          refine lv_iload X.1 X.2.1 dX8_term_91 (lv_at hl 0 rfl) ?_
          refine lv_if_eq (tgt := 99) X.1 X.2.1 dX8_term_93 (by decide) (fun c_19 => ?_) (fun c_19 => ?_)
          · have h := h.1 c_19
            refine lv_aload_n X.1 X.2.1 dX8_term_99 rfl (lv_at hl 1 rfl) ?_
            refine gf_X8_draft X hK hP tl_X8_25 dX8_term_100 ?_
            refine lv_aload_n X.1 X.2.1 dX8_term_103 rfl (lv_at hl 1 rfl) ?_
            refine gf_X8_result X hK hP tl_X8_36 dX8_term_104 ?_
            refine q_callV (rest := []) (b := 10) X hK hP hS (c_X3_copyOf l G 10 16 S_17 _ kz_10 kz_16 h) my_X3_copyOf tl_X8_105 dX8_term_107 kz_10 rfl rfl rfl ⟨Nat.le_of_ble_eq_true rfl, Nat.le_of_ble_eq_true rfl⟩ hl.1 rfl (Nat.le_of_ble_eq_true rfl) ⟨Nat.le_of_ble_eq_true rfl, Nat.le_of_ble_eq_true rfl⟩ (fun r_21 S_20 H locs h hP hS => ?_)
            refine W.eq (g2 := F0 m 110 ls []) rfl ?_
            refine lv_aload_n X.1 X.2.1 dX8_term_110 rfl (lv_at hl 1 rfl) ?_
            refine gf_X8_draft X hK hP tl_X8_25 dX8_term_111 ?_
            refine gf_X3_size X hK hP kz_10 tl_X8_108 dX8_term_114 ?_
            exact q_iret X hr hlocks hP hS rfl h dX8_term_117
          · have h := h.2 c_19
            refine lv_iload X.1 X.2.1 dX8_term_96 (lv_at hl 0 rfl) ?_
            exact q_iret X hr hlocks hP hS rfl h dX8_term_98
        · have h := h.2 c_12
          exact B50 S_10 _ (lv_sub hl [] rfl) h _ _ hP hS

set_option maxHeartbeats 4000000 in
set_option maxRecDepth 100000 in
theorem c_X8_keep (l : Launch) (G : Cx) (S : St) (K : Int32 → St → Prop) (h : w_X8_keep S K) : q_Met l yX8_keep cX8_keep 2 (some .int) 4 89 G [.ref (G.1 + 0)] v_i S K := by
  refine q_enter (by decide +kernel) (Nat.le_of_ble_eq_true rfl) (fun p e s m args below meth c ls X hK hP hr hlocks hl => ?_)
  have hS : va_S (fr_ G) s.heap s.heap [] := va_S.rf
  have hl : lv_has ls 2 [(0, .ref (G.1 + 0))] := hl
  refine lv_aload_n X.1 X.2.1 dX8_keep_0 rfl (lv_at hl 0 rfl) ?_
  refine gf_X8_shelf X hK hP tl_X8_42 dX8_keep_1 ?_
  refine q_callV (rest := []) (b := 19) X hK hP hS (c_X6_isFull l G S _ h) my_X6_isFull tl_X8_109 dX8_keep_4 kz_19 rfl rfl rfl ⟨Nat.le_of_ble_eq_true rfl, Nat.le_of_ble_eq_true rfl⟩ hl.1 rfl (Nat.le_of_ble_eq_true rfl) ⟨Nat.le_of_ble_eq_true rfl, Nat.le_of_ble_eq_true rfl⟩ (fun r_2 S_1 H locs h hP hS => ?_)
  refine W.eq (g2 := F0 m 7 ls [.int r_2]) rfl ?_
  refine lv_if_eq (tgt := 13) X.1 X.2.1 dX8_keep_7 (by decide) (fun c_3 => ?_) (fun c_3 => ?_)
  · have h := h.1 c_3
    refine lv_aload_n X.1 X.2.1 dX8_keep_13 rfl (lv_at hl 0 rfl) ?_
    refine gf_X8_shelf X hK hP tl_X8_42 dX8_keep_14 ?_
    refine lv_aload_n X.1 X.2.1 dX8_keep_17 rfl (lv_at hl 0 rfl) ?_
    refine gf_X8_draft X hK hP tl_X8_25 dX8_keep_18 ?_
    refine q_callV (rest := []) (b := 19) X hK hP hS (c_X6_put l G 10 S_1 _ kz_10 h) my_X6_put tl_X8_113 dX8_keep_21 kz_19 rfl rfl rfl ⟨Nat.le_of_ble_eq_true rfl, Nat.le_of_ble_eq_true rfl⟩ hl.1 rfl (Nat.le_of_ble_eq_true rfl) ⟨Nat.le_of_ble_eq_true rfl, Nat.le_of_ble_eq_true rfl⟩ (fun r_5 S_4 H locs h hP hS => ?_)
    refine W.eq (g2 := F0 m 24 ls [.int r_5]) rfl ?_
    refine lv_istore_n (lv' := [(1, .int r_5), (0, .ref (G.1 + 0))]) X.1 X.2.1 dX8_keep_24 rfl hl (by decide) rfl (fun ls hl => ?_)
    refine lv_aload_n X.1 X.2.1 dX8_keep_25 rfl (lv_at hl 1 rfl) ?_
    refine gf_X8_draft X hK hP tl_X8_25 dX8_keep_26 ?_
    refine lv_iconst (v := 0) X.1 X.2.1 dX8_keep_29 (by decide) ?_
    refine pf_X3_size X hK hP hS kz_10 tl_X8_108 dX8_keep_30 (fun S_6 H locs eS_6 hP hS => ?_)
    have h := h S_6 eS_6
    refine lv_iload_n X.1 X.2.1 dX8_keep_33 rfl (lv_at hl 0 rfl) ?_
    exact q_iret X hr hlocks hP hS rfl h dX8_keep_34
  · have h := h.2 c_3
    refine lv_bipush (v := (-4)) X.1 X.2.1 dX8_keep_10 (by decide) ?_
    exact q_iret X hr hlocks hP hS rfl h dX8_keep_12

set_option maxHeartbeats 4000000 in
set_option maxRecDepth 100000 in
theorem c_X8_drop (l : Launch) (G : Cx) (x1 : Int32) (S : St) (K : Int32 → St → Prop) (h : w_X8_drop x1 S K) : q_Met l yX8_drop cX8_drop 3 (some .int) 2 42 G [.ref (G.1 + 0), .int x1] v_i S K := by
  refine q_enter (by decide +kernel) (Nat.le_of_ble_eq_true rfl) (fun p e s m args below meth c ls X hK hP hr hlocks hl => ?_)
  have hS : va_S (fr_ G) s.heap s.heap [] := va_S.rf
  have hl : lv_has ls 3 [(0, .ref (G.1 + 0)), (1, .int x1)] := hl
  refine lv_aload_n X.1 X.2.1 dX8_drop_0 rfl (lv_at hl 0 rfl) ?_
  refine gf_X8_shelf X hK hP tl_X8_42 dX8_drop_1 ?_
  refine lv_iload_n X.1 X.2.1 dX8_drop_4 rfl (lv_at hl 1 rfl) ?_
  refine q_callV (rest := []) (b := 19) X hK hP hS (c_X6_at l G x1 S _ h) my_X6_at tl_X8_84 dX8_drop_5 kz_19 rfl rfl rfl ⟨Nat.le_of_ble_eq_true rfl, Nat.le_of_ble_eq_true rfl⟩ hl.1 rfl (Nat.le_of_ble_eq_true rfl) ⟨Nat.le_of_ble_eq_true rfl, Nat.le_of_ble_eq_true rfl⟩ (fun r_2 S_1 H locs h hP hS => ?_)
  rcases r_2 with _ | q_3
  · have h := h.1 rfl
    refine W.eq (g2 := F0 m 8 ls [.null]) rfl ?_
    refine lv_astore_nN (lv' := [(2, .null), (0, .ref (G.1 + 0)), (1, .int x1)]) X.1 X.2.1 dX8_drop_8 rfl hl (by decide) rfl (fun ls hl => ?_)
    refine lv_aload_nN X.1 X.2.1 dX8_drop_9 rfl (lv_at hl 0 rfl) ?_
    refine lv_ifnonnullN X.1 X.2.1 dX8_drop_10 ?_
    refine lv_bipush (v := (-2)) X.1 X.2.1 dX8_drop_13 (by decide) ?_
    exact q_iret X hr hlocks hP hS rfl h dX8_drop_15
  · have h := h.2 q_3 rfl
    refine W.eq (g2 := F0 m 8 ls [.ref (G.1 + q_3)]) rfl ?_
    refine lv_astore_n (lv' := [(2, .ref (G.1 + q_3)), (0, .ref (G.1 + 0)), (1, .int x1)]) X.1 X.2.1 dX8_drop_8 rfl hl (by decide) rfl (fun ls hl => ?_)
    refine lv_aload_n X.1 X.2.1 dX8_drop_9 rfl (lv_at hl 0 rfl) ?_
    refine lv_ifnonnull (tgt := 16) X.1 X.2.1 dX8_drop_10 (by decide) ?_
    refine lv_aload_n X.1 X.2.1 dX8_drop_16 rfl (lv_at hl 1 rfl) ?_
    refine gf_X8_shelf X hK hP tl_X8_42 dX8_drop_17 ?_
    refine lv_iload_n X.1 X.2.1 dX8_drop_20 rfl (lv_at hl 2 rfl) ?_
    refine q_callV (rest := []) (b := 19) X hK hP hS (c_X6_free l G x1 S_1 _ h) my_X6_free tl_X8_117 dX8_drop_21 kz_19 rfl rfl rfl ⟨Nat.le_of_ble_eq_true rfl, Nat.le_of_ble_eq_true rfl⟩ hl.1 rfl (Nat.le_of_ble_eq_true rfl) ⟨Nat.le_of_ble_eq_true rfl, Nat.le_of_ble_eq_true rfl⟩ (fun r_5 S_4 H locs h hP hS => ?_)
    refine W.eq (g2 := F0 m 24 ls []) rfl ?_
    refine lv_aload_n X.1 X.2.1 dX8_drop_24 rfl (lv_at hl 0 rfl) ?_
    obtain ⟨o_6, h⟩ := h
    refine gf_X3_size X hK hP o_6 tl_X8_108 dX8_drop_25 ?_
    exact q_iret X hr hlocks hP hS rfl h dX8_drop_28

set_option maxHeartbeats 4000000 in
set_option maxRecDepth 100000 in
theorem c_X8_polyAt (l : Launch) (G : Cx) (x1 : Int32) (S : St) (K : (Option Nat) → St → Prop) (h : w_X8_polyAt x1 S K) : q_Met l yX8_polyAt cX8_polyAt 2 (some (.object "IdealBench$Poly")) 1 21 G [.ref (G.1 + 0), .int x1] (v_q G) S K := by
  refine q_enter (by decide +kernel) (Nat.le_of_ble_eq_true rfl) (fun p e s m args below meth c ls X hK hP hr hlocks hl => ?_)
  have hS : va_S (fr_ G) s.heap s.heap [] := va_S.rf
  have hl : lv_has ls 2 [(0, .ref (G.1 + 0)), (1, .int x1)] := hl
  refine lv_iload_n X.1 X.2.1 dX8_polyAt_0 rfl (lv_at hl 1 rfl) ?_
  refine lv_iconst (v := (-1)) X.1 X.2.1 dX8_polyAt_1 (by decide) ?_
  refine lv_icmp_ne (tgt := 10) X.1 X.2.1 dX8_polyAt_2 (by decide) (fun c_1 => ?_) (fun c_1 => ?_)
  · have h := h.1 c_1
    refine lv_iload_n X.1 X.2.1 dX8_polyAt_10 rfl (lv_at hl 1 rfl) ?_
    refine lv_bipush (v := (-2)) X.1 X.2.1 dX8_polyAt_11 (by decide) ?_
    refine lv_icmp_gt (tgt := 30) X.1 X.2.1 dX8_polyAt_13 (by decide) (fun c_2 => ?_) (fun c_2 => ?_)
    · have h := h.1 c_2
      refine lv_aload_n X.1 X.2.1 dX8_polyAt_30 rfl (lv_at hl 0 rfl) ?_
      refine gf_X8_shelf X hK hP tl_X8_42 dX8_polyAt_31 ?_
      refine lv_iload_n X.1 X.2.1 dX8_polyAt_34 rfl (lv_at hl 1 rfl) ?_
      refine q_callV (rest := []) (b := 19) X hK hP hS (c_X6_at l G x1 S _ h) my_X6_at tl_X8_84 dX8_polyAt_35 kz_19 rfl rfl rfl ⟨Nat.le_of_ble_eq_true rfl, Nat.le_of_ble_eq_true rfl⟩ hl.1 rfl (Nat.le_of_ble_eq_true rfl) ⟨Nat.le_of_ble_eq_true rfl, Nat.le_of_ble_eq_true rfl⟩ (fun r_4 S_3 H locs h hP hS => ?_)
      rcases r_4 with _ | q_5
      · have h := h.1 rfl
        refine W.eq (g2 := F0 m 38 ls [.null]) rfl ?_
        exact q_nret X hr hlocks hP hS h dX8_polyAt_38
      · have h := h.2 q_5 rfl
        refine W.eq (g2 := F0 m 38 ls [.ref (G.1 + q_5)]) rfl ?_
        exact q_aret X hr hlocks hP hS h dX8_polyAt_38
    · have h := h.2 c_2
      refine lv_aload_n X.1 X.2.1 dX8_polyAt_16 rfl (lv_at hl 0 rfl) ?_
      refine gf_X8_basis X hK hP tl_X8_60 dX8_polyAt_17 ?_
      refine lv_bipush (v := (-2)) X.1 X.2.1 dX8_polyAt_20 (by decide) ?_
      refine lv_iload_n X.1 X.2.1 dX8_polyAt_22 rfl (lv_at hl 1 rfl) ?_
      refine lv_isub X.1 X.2.1 dX8_polyAt_23 ?_
      refine q_callV (rest := []) (b := 104) X hK hP hS (c_X0_at l G ((-2) - x1) S _ h) my_X0_at tl_X8_267 dX8_polyAt_24 kz_104 rfl rfl rfl ⟨Nat.le_of_ble_eq_true rfl, Nat.le_of_ble_eq_true rfl⟩ hl.1 rfl (Nat.le_of_ble_eq_true rfl) ⟨Nat.le_of_ble_eq_true rfl, Nat.le_of_ble_eq_true rfl⟩ (fun r_7 S_6 H locs h hP hS => ?_)
      rcases r_7 with _ | q_8
      · have h := h.1 rfl
        refine W.eq (g2 := F0 m 27 ls [.null]) rfl ?_
        refine lv_goto (tgt := 38) X.1 X.2.1 dX8_polyAt_27 (by decide) ?_
        exact q_nret X hr hlocks hP hS h dX8_polyAt_38
      · have h := h.2 q_8 rfl
        refine W.eq (g2 := F0 m 27 ls [.ref (G.1 + q_8)]) rfl ?_
        refine lv_goto (tgt := 38) X.1 X.2.1 dX8_polyAt_27 (by decide) ?_
        exact q_aret X hr hlocks hP hS h dX8_polyAt_38
  · have h := h.2 c_1
    refine lv_aload_n X.1 X.2.1 dX8_polyAt_5 rfl (lv_at hl 0 rfl) ?_
    refine gf_X8_draft X hK hP tl_X8_25 dX8_polyAt_6 ?_
    exact q_aret X hr hlocks hP hS h dX8_polyAt_9

set_option maxHeartbeats 4000000 in
set_option maxRecDepth 100000 in
theorem c_X8_terms (l : Launch) (G : Cx) (x1 : Int32) (S : St) (K : Int32 → St → Prop) (h : w_X8_terms x1 S K) : q_Met l yX8_terms cX8_terms 3 (some .int) 2 42 G [.ref (G.1 + 0), .int x1] v_i S K := by
  refine q_enter (by decide +kernel) (Nat.le_of_ble_eq_true rfl) (fun p e s m args below meth c ls X hK hP hr hlocks hl => ?_)
  have hS : va_S (fr_ G) s.heap s.heap [] := va_S.rf
  have hl : lv_has ls 3 [(0, .ref (G.1 + 0)), (1, .int x1)] := hl
  refine lv_aload_n X.1 X.2.1 dX8_terms_0 rfl (lv_at hl 0 rfl) ?_
  refine lv_iload_n X.1 X.2.1 dX8_terms_1 rfl (lv_at hl 1 rfl) ?_
  refine q_callV (rest := []) (b := 0) X hK hP hS (c_X8_polyAt l G x1 S _ h) my_X8_polyAt tl_X8_121 dX8_terms_2 kz_0 rfl rfl rfl ⟨Nat.le_of_ble_eq_true rfl, Nat.le_of_ble_eq_true rfl⟩ hl.1 rfl (Nat.le_of_ble_eq_true rfl) ⟨Nat.le_of_ble_eq_true rfl, Nat.le_of_ble_eq_true rfl⟩ (fun r_2 S_1 H locs h hP hS => ?_)
  rcases r_2 with _ | q_3
  · have h := h.1 rfl
    refine W.eq (g2 := F0 m 5 ls [.null]) rfl ?_
    refine lv_astore_nN (lv' := [(2, .null), (0, .ref (G.1 + 0)), (1, .int x1)]) X.1 X.2.1 dX8_terms_5 rfl hl (by decide) rfl (fun ls hl => ?_)
    refine lv_aload_nN X.1 X.2.1 dX8_terms_6 rfl (lv_at hl 0 rfl) ?_
    refine lv_ifnonnullN X.1 X.2.1 dX8_terms_7 ?_
    refine lv_bipush (v := (-2)) X.1 X.2.1 dX8_terms_10 (by decide) ?_
    refine lv_goto (tgt := 19) X.1 X.2.1 dX8_terms_12 (by decide) ?_
    exact q_iret X hr hlocks hP hS rfl h dX8_terms_19
  · have h := h.2 q_3 rfl
    refine W.eq (g2 := F0 m 5 ls [.ref (G.1 + q_3)]) rfl ?_
    refine lv_astore_n (lv' := [(2, .ref (G.1 + q_3)), (0, .ref (G.1 + 0)), (1, .int x1)]) X.1 X.2.1 dX8_terms_5 rfl hl (by decide) rfl (fun ls hl => ?_)
    refine lv_aload_n X.1 X.2.1 dX8_terms_6 rfl (lv_at hl 0 rfl) ?_
    refine lv_ifnonnull (tgt := 15) X.1 X.2.1 dX8_terms_7 (by decide) ?_
    refine lv_aload_n X.1 X.2.1 dX8_terms_15 rfl (lv_at hl 0 rfl) ?_
    obtain ⟨o_4, h⟩ := h
    refine gf_X3_size X hK hP o_4 tl_X8_108 dX8_terms_16 ?_
    exact q_iret X hr hlocks hP hS rfl h dX8_terms_19

set_option maxHeartbeats 4000000 in
set_option maxRecDepth 100000 in
theorem c_X8_number (l : Launch) (G : Cx) (x1 : Int32) (x2 : Int32) (S : St) (K : Int32 → St → Prop) (h : w_X8_number x1 x2 S K) : q_Met l yX8_number cX8_number 4 (some .int) 2 42 G [.ref (G.1 + 0), .int x1, .int x2] v_i S K := by
  refine q_enter (by decide +kernel) (Nat.le_of_ble_eq_true rfl) (fun p e s m args below meth c ls X hK hP hr hlocks hl => ?_)
  have hS : va_S (fr_ G) s.heap s.heap [] := va_S.rf
  have hl : lv_has ls 4 [(0, .ref (G.1 + 0)), (1, .int x1), (2, .int x2)] := hl
  have B22 : ∀ (S : St) (ls : Array Slot), lv_has ls 4 [] → w_X8_number_22 x1 x2 K S → q_W p l e (k2_rm 2 42) s m args below meth c 0 0 (MQ below (q_Qc G K v_i) args s 0 0 (fr_ G)) G 22 ls [] S := by
    intro S ls hl h H locs hP hS
    refine lv_bipush (v := (-2)) X.1 X.2.1 dX8_number_22 (by decide) ?_
    refine lv_goto (tgt := 33) X.1 X.2.1 dX8_number_24 (by decide) ?_
    exact q_iret X hr hlocks hP hS rfl h dX8_number_33
  refine lv_aload_n X.1 X.2.1 dX8_number_0 rfl (lv_at hl 0 rfl) ?_
  refine lv_iload_n X.1 X.2.1 dX8_number_1 rfl (lv_at hl 1 rfl) ?_
  refine q_callV (rest := []) (b := 0) X hK hP hS (c_X8_polyAt l G x1 S _ h) my_X8_polyAt tl_X8_121 dX8_number_2 kz_0 rfl rfl rfl ⟨Nat.le_of_ble_eq_true rfl, Nat.le_of_ble_eq_true rfl⟩ hl.1 rfl (Nat.le_of_ble_eq_true rfl) ⟨Nat.le_of_ble_eq_true rfl, Nat.le_of_ble_eq_true rfl⟩ (fun r_2 S_1 H locs h hP hS => ?_)
  rcases r_2 with _ | q_3
  · have h := h.1 rfl
    refine W.eq (g2 := F0 m 5 ls [.null]) rfl ?_
    refine lv_astore_nN (lv' := [(3, .null), (0, .ref (G.1 + 0)), (1, .int x1), (2, .int x2)]) X.1 X.2.1 dX8_number_5 rfl hl (by decide) rfl (fun ls hl => ?_)
    refine lv_aload_nN X.1 X.2.1 dX8_number_6 rfl (lv_at hl 0 rfl) ?_
    refine lv_ifnullN (tgt := 22) X.1 X.2.1 dX8_number_7 (by decide) ?_
    exact B22 S_1 _ (lv_sub hl [] rfl) h _ _ hP hS
  · have h := h.2 q_3 rfl
    refine W.eq (g2 := F0 m 5 ls [.ref (G.1 + q_3)]) rfl ?_
    refine lv_astore_n (lv' := [(3, .ref (G.1 + q_3)), (0, .ref (G.1 + 0)), (1, .int x1), (2, .int x2)]) X.1 X.2.1 dX8_number_5 rfl hl (by decide) rfl (fun ls hl => ?_)
    refine lv_aload_n X.1 X.2.1 dX8_number_6 rfl (lv_at hl 0 rfl) ?_
    refine lv_ifnull X.1 X.2.1 dX8_number_7 ?_
    refine lv_iload_n X.1 X.2.1 dX8_number_10 rfl (lv_at hl 3 rfl) ?_
    refine lv_if_lt (tgt := 22) X.1 X.2.1 dX8_number_11 (by decide) (fun c_4 => ?_) (fun c_4 => ?_)
    · have h := h.1 c_4
      exact B22 S_1 _ (lv_sub hl [] rfl) h _ _ hP hS
    · have h := h.2 c_4
      refine lv_iload_n X.1 X.2.1 dX8_number_14 rfl (lv_at hl 3 rfl) ?_
      refine lv_aload_n X.1 X.2.1 dX8_number_15 rfl (lv_at hl 0 rfl) ?_
      obtain ⟨o_5, h⟩ := h
      refine gf_X3_size X hK hP o_5 tl_X8_108 dX8_number_16 ?_
      refine lv_icmp_lt (tgt := 27) X.1 X.2.1 dX8_number_19 (by decide) (fun c_6 => ?_) (fun c_6 => ?_)
      · have h := h.1 c_6
        refine lv_aload_n X.1 X.2.1 dX8_number_27 rfl (lv_at hl 0 rfl) ?_
        refine gf_X3_numbers X hK hP o_5 tl_X8_124 dX8_number_28 ?_
        refine lv_iload_n X.1 X.2.1 dX8_number_31 rfl (lv_at hl 3 rfl) ?_
        obtain ⟨o_7, h⟩ := h
        refine q_iald X hK hP (isP_1 o_5) o_7 dX8_number_32 ?_
        exact q_iret X hr hlocks hP hS rfl h dX8_number_33
      · have h := h.2 c_6
        exact B22 S_1 _ (lv_sub hl [] rfl) h _ _ hP hS

set_option maxHeartbeats 4000000 in
set_option maxRecDepth 100000 in
theorem c_X8_exponent (l : Launch) (G : Cx) (x1 : Int32) (x2 : Int32) (x3 : Int32) (S : St) (K : Int32 → St → Prop) (h : w_X8_exponent x1 x2 x3 S K) : q_Met l yX8_exponent cX8_exponent 5 (some .int) 2 42 G [.ref (G.1 + 0), .int x1, .int x2, .int x3] v_i S K := by
  refine q_enter (by decide +kernel) (Nat.le_of_ble_eq_true rfl) (fun p e s m args below meth c ls X hK hP hr hlocks hl => ?_)
  have hS : va_S (fr_ G) s.heap s.heap [] := va_S.rf
  have hl : lv_has ls 5 [(0, .ref (G.1 + 0)), (1, .int x1), (2, .int x2), (3, .int x3)] := hl
  have B36 : ∀ (S : St) (ls : Array Slot), lv_has ls 5 [] → w_X8_exponent_36 x1 x2 x3 K S → q_W p l e (k2_rm 2 42) s m args below meth c 0 0 (MQ below (q_Qc G K v_i) args s 0 0 (fr_ G)) G 36 ls [] S := by
    intro S ls hl h H locs hP hS
    refine lv_bipush (v := (-2)) X.1 X.2.1 dX8_exponent_36 (by decide) ?_
    refine lv_goto (tgt := 52) X.1 X.2.1 dX8_exponent_38 (by decide) ?_
    exact q_iret X hr hlocks hP hS rfl h dX8_exponent_52
  refine lv_aload_n X.1 X.2.1 dX8_exponent_0 rfl (lv_at hl 0 rfl) ?_
  refine lv_iload_n X.1 X.2.1 dX8_exponent_1 rfl (lv_at hl 1 rfl) ?_
  refine q_callV (rest := []) (b := 0) X hK hP hS (c_X8_polyAt l G x1 S _ h) my_X8_polyAt tl_X8_121 dX8_exponent_2 kz_0 rfl rfl rfl ⟨Nat.le_of_ble_eq_true rfl, Nat.le_of_ble_eq_true rfl⟩ hl.1 rfl (Nat.le_of_ble_eq_true rfl) ⟨Nat.le_of_ble_eq_true rfl, Nat.le_of_ble_eq_true rfl⟩ (fun r_2 S_1 H locs h hP hS => ?_)
  rcases r_2 with _ | q_3
  · have h := h.1 rfl
    refine W.eq (g2 := F0 m 5 ls [.null]) rfl ?_
    refine lv_astoreN (lv' := [(4, .null), (0, .ref (G.1 + 0)), (1, .int x1), (2, .int x2), (3, .int x3)]) X.1 X.2.1 dX8_exponent_5 hl (by decide) rfl (fun ls hl => ?_)
    refine lv_aloadN X.1 X.2.1 dX8_exponent_7 (lv_at hl 0 rfl) ?_
    refine lv_ifnullN (tgt := 36) X.1 X.2.1 dX8_exponent_9 (by decide) ?_
    exact B36 S_1 _ (lv_sub hl [] rfl) h _ _ hP hS
  · have h := h.2 q_3 rfl
    refine W.eq (g2 := F0 m 5 ls [.ref (G.1 + q_3)]) rfl ?_
    refine lv_astore (lv' := [(4, .ref (G.1 + q_3)), (0, .ref (G.1 + 0)), (1, .int x1), (2, .int x2), (3, .int x3)]) X.1 X.2.1 dX8_exponent_5 hl (by decide) rfl (fun ls hl => ?_)
    refine lv_aload X.1 X.2.1 dX8_exponent_7 (lv_at hl 0 rfl) ?_
    refine lv_ifnull X.1 X.2.1 dX8_exponent_9 ?_
    refine lv_iload_n X.1 X.2.1 dX8_exponent_12 rfl (lv_at hl 3 rfl) ?_
    refine lv_if_lt (tgt := 36) X.1 X.2.1 dX8_exponent_13 (by decide) (fun c_4 => ?_) (fun c_4 => ?_)
    · have h := h.1 c_4
      exact B36 S_1 _ (lv_sub hl [] rfl) h _ _ hP hS
    · have h := h.2 c_4
      refine lv_iload_n X.1 X.2.1 dX8_exponent_16 rfl (lv_at hl 3 rfl) ?_
      refine lv_aload X.1 X.2.1 dX8_exponent_17 (lv_at hl 0 rfl) ?_
      obtain ⟨o_5, h⟩ := h
      refine gf_X3_size X hK hP o_5 tl_X8_108 dX8_exponent_19 ?_
      refine lv_icmp_ge (tgt := 36) X.1 X.2.1 dX8_exponent_22 (by decide) (fun c_6 => ?_) (fun c_6 => ?_)
      · have h := h.1 c_6
        exact B36 S_1 _ (lv_sub hl [] rfl) h _ _ hP hS
      · have h := h.2 c_6
        refine lv_aload_n X.1 X.2.1 dX8_exponent_25 rfl (lv_at hl 1 rfl) ?_
        refine gf_X8_ring X hK hP tl_X8_18 dX8_exponent_26 ?_
        refine lv_iload_n X.1 X.2.1 dX8_exponent_29 rfl (lv_at hl 4 rfl) ?_
        refine q_callV (rest := []) (b := 1) X hK hP hS (c_X5_hasVariable l G x3 S_1 _ h) my_X5_hasVariable tl_X8_128 dX8_exponent_30 kz_1 rfl rfl rfl ⟨Nat.le_of_ble_eq_true rfl, Nat.le_of_ble_eq_true rfl⟩ hl.1 rfl (Nat.le_of_ble_eq_true rfl) ⟨Nat.le_of_ble_eq_true rfl, Nat.le_of_ble_eq_true rfl⟩ (fun r_8 S_7 H locs h hP hS => ?_)
        refine W.eq (g2 := F0 m 33 ls [.int r_8]) rfl ?_
        refine lv_if_ne (tgt := 41) X.1 X.2.1 dX8_exponent_33 (by decide) (fun c_9 => ?_) (fun c_9 => ?_)
        · have h := h.1 c_9
          refine lv_aload X.1 X.2.1 dX8_exponent_41 (lv_at hl 0 rfl) ?_
          refine gf_X3_monos X hK hP o_5 tl_X8_131 dX8_exponent_43 ?_
          refine lv_iload_n X.1 X.2.1 dX8_exponent_46 rfl (lv_at hl 3 rfl) ?_
          obtain ⟨o_10, h⟩ := h
          refine q_iald X hK hP (isP_2 o_5) o_10 dX8_exponent_47 ?_
          refine lv_iload_n X.1 X.2.1 dX8_exponent_48 rfl (lv_at hl 4 rfl) ?_
          refine q_callS (rest := []) X hK hP hS (c_X1_exponentOf l G (S_7 (q_3 + 2) (q_rf x2)) x3 S_7 _ h) my_X1_exponentOf tl_X8_134 dX8_exponent_49 rfl ⟨Nat.le_of_ble_eq_true rfl, Nat.le_of_ble_eq_true rfl⟩ hl.1 rfl (Nat.le_of_ble_eq_true rfl) ⟨Nat.le_of_ble_eq_true rfl, Nat.le_of_ble_eq_true rfl⟩ (fun r_12 S_11 H locs h hP hS => ?_)
          refine W.eq (g2 := F0 m 52 ls [.int r_12]) rfl ?_
          exact q_iret X hr hlocks hP hS rfl h dX8_exponent_52
        · have h := h.2 c_9
          exact B36 S_7 _ (lv_sub hl [] rfl) h _ _ hP hS

set_option maxHeartbeats 4000000 in
set_option maxRecDepth 100000 in
theorem c_X8_putResult (l : Launch) (G : Cx) (x1 : Int32) (S : St) (K : Int32 → St → Prop) (h : w_X8_putResult x1 S K) : q_Met l yX8_putResult cX8_putResult 2 (some .int) 4 89 G [.ref (G.1 + 0), .int x1] v_i S K := by
  refine q_enter (by decide +kernel) (Nat.le_of_ble_eq_true rfl) (fun p e s m args below meth c ls X hK hP hr hlocks hl => ?_)
  have hS : va_S (fr_ G) s.heap s.heap [] := va_S.rf
  have hl : lv_has ls 2 [(0, .ref (G.1 + 0)), (1, .int x1)] := hl
  refine lv_iload_n X.1 X.2.1 dX8_putResult_0 rfl (lv_at hl 1 rfl) ?_
  refine lv_if_eq (tgt := 8) X.1 X.2.1 dX8_putResult_1 (by decide) (fun c_1 => ?_) (fun c_1 => ?_)
  · have h := h.1 c_1
    refine lv_aload_n X.1 X.2.1 dX8_putResult_8 rfl (lv_at hl 0 rfl) ?_
    refine gf_X8_shelf X hK hP tl_X8_42 dX8_putResult_9 ?_
    refine lv_aload_n X.1 X.2.1 dX8_putResult_12 rfl (lv_at hl 0 rfl) ?_
    refine gf_X8_result X hK hP tl_X8_36 dX8_putResult_13 ?_
    refine q_callV (rest := []) (b := 19) X hK hP hS (c_X6_put l G 16 S _ kz_16 h) my_X6_put tl_X8_113 dX8_putResult_16 kz_19 rfl rfl rfl ⟨Nat.le_of_ble_eq_true rfl, Nat.le_of_ble_eq_true rfl⟩ hl.1 rfl (Nat.le_of_ble_eq_true rfl) ⟨Nat.le_of_ble_eq_true rfl, Nat.le_of_ble_eq_true rfl⟩ (fun r_3 S_2 H locs h hP hS => ?_)
    refine W.eq (g2 := F0 m 19 ls [.int r_3]) rfl ?_
    exact q_iret X hr hlocks hP hS rfl h dX8_putResult_19
  · have h := h.2 c_1
    refine lv_iload_n X.1 X.2.1 dX8_putResult_4 rfl (lv_at hl 1 rfl) ?_
    refine lv_goto (tgt := 19) X.1 X.2.1 dX8_putResult_5 (by decide) ?_
    exact q_iret X hr hlocks hP hS rfl h dX8_putResult_19

set_option maxHeartbeats 4000000 in
set_option maxRecDepth 100000 in
theorem c_X8_sum (l : Launch) (G : Cx) (x1 : Int32) (x2 : Int32) (x3 : Int32) (S : St) (K : Int32 → St → Prop) (h : w_X8_sum x1 x2 x3 S K) : q_Met l yX8_sum cX8_sum 6 (some .int) 5 110 G [.ref (G.1 + 0), .int x1, .int x2, .int x3] v_i S K := by
  refine q_enter (by decide +kernel) (Nat.le_of_ble_eq_true rfl) (fun p e s m args below meth c ls X hK hP hr hlocks hl => ?_)
  have hS : va_S (fr_ G) s.heap s.heap [] := va_S.rf
  have hl : lv_has ls 6 [(0, .ref (G.1 + 0)), (1, .int x1), (2, .int x2), (3, .int x3)] := hl
  have B24 : ∀ (S : St) (ls : Array Slot), lv_has ls 6 [] → w_X8_sum_24 x1 x2 x3 K S → q_W p l e (k2_rm 5 110) s m args below meth c 0 0 (MQ below (q_Qc G K v_i) args s 0 0 (fr_ G)) G 24 ls [] S := by
    intro S ls hl h H locs hP hS
    refine lv_bipush (v := (-2)) X.1 X.2.1 dX8_sum_24 (by decide) ?_
    exact q_iret X hr hlocks hP hS rfl h dX8_sum_26
  refine lv_aload_n X.1 X.2.1 dX8_sum_0 rfl (lv_at hl 0 rfl) ?_
  refine lv_iload_n X.1 X.2.1 dX8_sum_1 rfl (lv_at hl 1 rfl) ?_
  refine q_callV (rest := []) (b := 0) X hK hP hS (c_X8_polyAt l G x1 S _ h) my_X8_polyAt tl_X8_121 dX8_sum_2 kz_0 rfl rfl rfl ⟨Nat.le_of_ble_eq_true rfl, Nat.le_of_ble_eq_true rfl⟩ hl.1 rfl (Nat.le_of_ble_eq_true rfl) ⟨Nat.le_of_ble_eq_true rfl, Nat.le_of_ble_eq_true rfl⟩ (fun r_2 S_1 H locs h hP hS => ?_)
  rcases r_2 with _ | q_3
  · have h := h.1 rfl
    refine W.eq (g2 := F0 m 5 ls [.null]) rfl ?_
    refine lv_astoreN (lv' := [(4, .null), (0, .ref (G.1 + 0)), (1, .int x1), (2, .int x2), (3, .int x3)]) X.1 X.2.1 dX8_sum_5 hl (by decide) rfl (fun ls hl => ?_)
    refine lv_aload_n X.1 X.2.1 dX8_sum_7 rfl (lv_at hl 1 rfl) ?_
    refine lv_iload_n X.1 X.2.1 dX8_sum_8 rfl (lv_at hl 3 rfl) ?_
    refine q_callV (rest := []) (b := 0) X hK hP hS (c_X8_polyAt l G x2 S_1 _ h) my_X8_polyAt tl_X8_121 dX8_sum_9 kz_0 rfl rfl rfl ⟨Nat.le_of_ble_eq_true rfl, Nat.le_of_ble_eq_true rfl⟩ hl.1 rfl (Nat.le_of_ble_eq_true rfl) ⟨Nat.le_of_ble_eq_true rfl, Nat.le_of_ble_eq_true rfl⟩ (fun r_5 S_4 H locs h hP hS => ?_)
    rcases r_5 with _ | q_6
    · have h := h.1 rfl
      refine W.eq (g2 := F0 m 12 ls [.null]) rfl ?_
      refine lv_astoreN (lv' := [(5, .null), (4, .null), (0, .ref (G.1 + 0)), (1, .int x1), (2, .int x2), (3, .int x3)]) X.1 X.2.1 dX8_sum_12 hl (by decide) rfl (fun ls hl => ?_)
      refine lv_aloadN X.1 X.2.1 dX8_sum_14 (lv_at hl 1 rfl) ?_
      refine lv_ifnullN (tgt := 24) X.1 X.2.1 dX8_sum_16 (by decide) ?_
      exact B24 S_4 _ (lv_sub hl [] rfl) h _ _ hP hS
    · have h := h.2 q_6 rfl
      refine W.eq (g2 := F0 m 12 ls [.ref (G.1 + q_6)]) rfl ?_
      refine lv_astore (lv' := [(5, .ref (G.1 + q_6)), (4, .null), (0, .ref (G.1 + 0)), (1, .int x1), (2, .int x2), (3, .int x3)]) X.1 X.2.1 dX8_sum_12 hl (by decide) rfl (fun ls hl => ?_)
      refine lv_aloadN X.1 X.2.1 dX8_sum_14 (lv_at hl 1 rfl) ?_
      refine lv_ifnullN (tgt := 24) X.1 X.2.1 dX8_sum_16 (by decide) ?_
      exact B24 S_4 _ (lv_sub hl [] rfl) h _ _ hP hS
  · have h := h.2 q_3 rfl
    refine W.eq (g2 := F0 m 5 ls [.ref (G.1 + q_3)]) rfl ?_
    refine lv_astore (lv' := [(4, .ref (G.1 + q_3)), (0, .ref (G.1 + 0)), (1, .int x1), (2, .int x2), (3, .int x3)]) X.1 X.2.1 dX8_sum_5 hl (by decide) rfl (fun ls hl => ?_)
    refine lv_aload_n X.1 X.2.1 dX8_sum_7 rfl (lv_at hl 1 rfl) ?_
    refine lv_iload_n X.1 X.2.1 dX8_sum_8 rfl (lv_at hl 3 rfl) ?_
    refine q_callV (rest := []) (b := 0) X hK hP hS (c_X8_polyAt l G x2 S_1 _ h) my_X8_polyAt tl_X8_121 dX8_sum_9 kz_0 rfl rfl rfl ⟨Nat.le_of_ble_eq_true rfl, Nat.le_of_ble_eq_true rfl⟩ hl.1 rfl (Nat.le_of_ble_eq_true rfl) ⟨Nat.le_of_ble_eq_true rfl, Nat.le_of_ble_eq_true rfl⟩ (fun r_8 S_7 H locs h hP hS => ?_)
    rcases r_8 with _ | q_9
    · have h := h.1 rfl
      refine W.eq (g2 := F0 m 12 ls [.null]) rfl ?_
      refine lv_astoreN (lv' := [(5, .null), (4, .ref (G.1 + q_3)), (0, .ref (G.1 + 0)), (1, .int x1), (2, .int x2), (3, .int x3)]) X.1 X.2.1 dX8_sum_12 hl (by decide) rfl (fun ls hl => ?_)
      refine lv_aload X.1 X.2.1 dX8_sum_14 (lv_at hl 1 rfl) ?_
      refine lv_ifnull X.1 X.2.1 dX8_sum_16 ?_
      refine lv_aloadN X.1 X.2.1 dX8_sum_19 (lv_at hl 0 rfl) ?_
      refine lv_ifnonnullN X.1 X.2.1 dX8_sum_21 ?_
      exact B24 S_7 _ (lv_sub hl [] rfl) h _ _ hP hS
    · have h := h.2 q_9 rfl
      refine W.eq (g2 := F0 m 12 ls [.ref (G.1 + q_9)]) rfl ?_
      refine lv_astore (lv' := [(5, .ref (G.1 + q_9)), (4, .ref (G.1 + q_3)), (0, .ref (G.1 + 0)), (1, .int x1), (2, .int x2), (3, .int x3)]) X.1 X.2.1 dX8_sum_12 hl (by decide) rfl (fun ls hl => ?_)
      refine lv_aload X.1 X.2.1 dX8_sum_14 (lv_at hl 1 rfl) ?_
      refine lv_ifnull X.1 X.2.1 dX8_sum_16 ?_
      refine lv_aload X.1 X.2.1 dX8_sum_19 (lv_at hl 0 rfl) ?_
      refine lv_ifnonnull (tgt := 27) X.1 X.2.1 dX8_sum_21 (by decide) ?_
      refine lv_aload_n X.1 X.2.1 dX8_sum_27 rfl (lv_at hl 2 rfl) ?_
      refine gf_X8_shelf X hK hP tl_X8_42 dX8_sum_28 ?_
      refine q_callV (rest := []) (b := 19) X hK hP hS (c_X6_isFull l G S_7 _ h) my_X6_isFull tl_X8_109 dX8_sum_31 kz_19 rfl rfl rfl ⟨Nat.le_of_ble_eq_true rfl, Nat.le_of_ble_eq_true rfl⟩ hl.1 rfl (Nat.le_of_ble_eq_true rfl) ⟨Nat.le_of_ble_eq_true rfl, Nat.le_of_ble_eq_true rfl⟩ (fun r_11 S_10 H locs h hP hS => ?_)
      refine W.eq (g2 := F0 m 34 ls [.int r_11]) rfl ?_
      refine lv_if_eq (tgt := 40) X.1 X.2.1 dX8_sum_34 (by decide) (fun c_12 => ?_) (fun c_12 => ?_)
      · have h := h.1 c_12
        refine lv_aload_n X.1 X.2.1 dX8_sum_40 rfl (lv_at hl 2 rfl) ?_
        refine lv_aload_n X.1 X.2.1 dX8_sum_41 rfl (lv_at hl 2 rfl) ?_
        refine gf_X8_ring X hK hP tl_X8_18 dX8_sum_42 ?_
        refine lv_aload_n X.1 X.2.1 dX8_sum_45 rfl (lv_at hl 2 rfl) ?_
        refine gf_X8_result X hK hP tl_X8_36 dX8_sum_46 ?_
        refine lv_aload X.1 X.2.1 dX8_sum_49 (lv_at hl 1 rfl) ?_
        refine lv_aload X.1 X.2.1 dX8_sum_51 (lv_at hl 0 rfl) ?_
        refine lv_aload_n X.1 X.2.1 dX8_sum_53 rfl (lv_at hl 2 rfl) ?_
        refine gf_X8_ring X hK hP tl_X8_18 dX8_sum_54 ?_
        refine lv_iload_n X.1 X.2.1 dX8_sum_57 rfl (lv_at hl 5 rfl) ?_
        refine q_callV (rest := [.ref (G.1 + q_9), .ref (G.1 + q_3), .ref (G.1 + 16), .ref (G.1 + 1), .ref (G.1 + 0)]) (b := 1) X hK hP hS (c_X5_restOf l G x3 S_10 _ h) my_X5_restOf tl_X8_91 dX8_sum_58 kz_1 rfl rfl rfl ⟨Nat.le_of_ble_eq_true rfl, Nat.le_of_ble_eq_true rfl⟩ hl.1 rfl (Nat.le_of_ble_eq_true rfl) ⟨Nat.le_of_ble_eq_true rfl, Nat.le_of_ble_eq_true rfl⟩ (fun r_14 S_13 H locs h hP hS => ?_)
        refine W.eq (g2 := F0 m 61 ls [.int r_14, .ref (G.1 + q_9), .ref (G.1 + q_3), .ref (G.1 + 16), .ref (G.1 + 1), .ref (G.1 + 0)]) rfl ?_
        refine lv_iconst (v := 0) X.1 X.2.1 dX8_sum_61 (by decide) ?_
        obtain ⟨o_15, h⟩ := h
        obtain ⟨o_16, h⟩ := h
        refine q_callV (rest := [.ref (G.1 + 0)]) (b := 1) X hK hP hS (c_X5_addMultiple l G 16 q_3 q_9 r_14 0 S_13 _ kz_16 o_15 o_16 h) my_X5_addMultiple tl_X8_101 dX8_sum_62 kz_1 rfl rfl rfl ⟨Nat.le_of_ble_eq_true rfl, Nat.le_of_ble_eq_true rfl⟩ hl.1 rfl (Nat.le_of_ble_eq_true rfl) ⟨Nat.le_of_ble_eq_true rfl, Nat.le_of_ble_eq_true rfl⟩ (fun r_18 S_17 H locs h hP hS => ?_)
        refine W.eq (g2 := F0 m 65 ls [.int r_18, .ref (G.1 + 0)]) rfl ?_
        refine q_callV (rest := []) (b := 0) X hK hP hS (c_X8_putResult l G r_18 S_17 _ h) my_X8_putResult tl_X8_138 dX8_sum_65 kz_0 rfl rfl rfl ⟨Nat.le_of_ble_eq_true rfl, Nat.le_of_ble_eq_true rfl⟩ hl.1 rfl (Nat.le_of_ble_eq_true rfl) ⟨Nat.le_of_ble_eq_true rfl, Nat.le_of_ble_eq_true rfl⟩ (fun r_20 S_19 H locs h hP hS => ?_)
        refine W.eq (g2 := F0 m 68 ls [.int r_20]) rfl ?_
        exact q_iret X hr hlocks hP hS rfl h dX8_sum_68
      · have h := h.2 c_12
        refine lv_bipush (v := (-4)) X.1 X.2.1 dX8_sum_37 (by decide) ?_
        exact q_iret X hr hlocks hP hS rfl h dX8_sum_39

set_option maxHeartbeats 4000000 in
set_option maxRecDepth 100000 in
theorem c_X8_product (l : Launch) (G : Cx) (x1 : Int32) (x2 : Int32) (S : St) (K : Int32 → St → Prop) (h : w_X8_product x1 x2 S K) : q_Met l yX8_product cX8_product 5 (some .int) 5 110 G [.ref (G.1 + 0), .int x1, .int x2] v_i S K := by
  refine q_enter (by decide +kernel) (Nat.le_of_ble_eq_true rfl) (fun p e s m args below meth c ls X hK hP hr hlocks hl => ?_)
  have hS : va_S (fr_ G) s.heap s.heap [] := va_S.rf
  have hl : lv_has ls 5 [(0, .ref (G.1 + 0)), (1, .int x1), (2, .int x2)] := hl
  have B22 : ∀ (S : St) (ls : Array Slot), lv_has ls 5 [] → w_X8_product_22 x1 x2 K S → q_W p l e (k2_rm 5 110) s m args below meth c 0 0 (MQ below (q_Qc G K v_i) args s 0 0 (fr_ G)) G 22 ls [] S := by
    intro S ls hl h H locs hP hS
    refine lv_bipush (v := (-2)) X.1 X.2.1 dX8_product_22 (by decide) ?_
    exact q_iret X hr hlocks hP hS rfl h dX8_product_24
  refine lv_aload_n X.1 X.2.1 dX8_product_0 rfl (lv_at hl 0 rfl) ?_
  refine lv_iload_n X.1 X.2.1 dX8_product_1 rfl (lv_at hl 1 rfl) ?_
  refine q_callV (rest := []) (b := 0) X hK hP hS (c_X8_polyAt l G x1 S _ h) my_X8_polyAt tl_X8_121 dX8_product_2 kz_0 rfl rfl rfl ⟨Nat.le_of_ble_eq_true rfl, Nat.le_of_ble_eq_true rfl⟩ hl.1 rfl (Nat.le_of_ble_eq_true rfl) ⟨Nat.le_of_ble_eq_true rfl, Nat.le_of_ble_eq_true rfl⟩ (fun r_2 S_1 H locs h hP hS => ?_)
  rcases r_2 with _ | q_3
  · have h := h.1 rfl
    refine W.eq (g2 := F0 m 5 ls [.null]) rfl ?_
    refine lv_astore_nN (lv' := [(3, .null), (0, .ref (G.1 + 0)), (1, .int x1), (2, .int x2)]) X.1 X.2.1 dX8_product_5 rfl hl (by decide) rfl (fun ls hl => ?_)
    refine lv_aload_n X.1 X.2.1 dX8_product_6 rfl (lv_at hl 1 rfl) ?_
    refine lv_iload_n X.1 X.2.1 dX8_product_7 rfl (lv_at hl 3 rfl) ?_
    refine q_callV (rest := []) (b := 0) X hK hP hS (c_X8_polyAt l G x2 S_1 _ h) my_X8_polyAt tl_X8_121 dX8_product_8 kz_0 rfl rfl rfl ⟨Nat.le_of_ble_eq_true rfl, Nat.le_of_ble_eq_true rfl⟩ hl.1 rfl (Nat.le_of_ble_eq_true rfl) ⟨Nat.le_of_ble_eq_true rfl, Nat.le_of_ble_eq_true rfl⟩ (fun r_5 S_4 H locs h hP hS => ?_)
    rcases r_5 with _ | q_6
    · have h := h.1 rfl
      refine W.eq (g2 := F0 m 11 ls [.null]) rfl ?_
      refine lv_astoreN (lv' := [(4, .null), (3, .null), (0, .ref (G.1 + 0)), (1, .int x1), (2, .int x2)]) X.1 X.2.1 dX8_product_11 hl (by decide) rfl (fun ls hl => ?_)
      refine lv_aload_nN X.1 X.2.1 dX8_product_13 rfl (lv_at hl 1 rfl) ?_
      refine lv_ifnullN (tgt := 22) X.1 X.2.1 dX8_product_14 (by decide) ?_
      exact B22 S_4 _ (lv_sub hl [] rfl) h _ _ hP hS
    · have h := h.2 q_6 rfl
      refine W.eq (g2 := F0 m 11 ls [.ref (G.1 + q_6)]) rfl ?_
      refine lv_astore (lv' := [(4, .ref (G.1 + q_6)), (3, .null), (0, .ref (G.1 + 0)), (1, .int x1), (2, .int x2)]) X.1 X.2.1 dX8_product_11 hl (by decide) rfl (fun ls hl => ?_)
      refine lv_aload_nN X.1 X.2.1 dX8_product_13 rfl (lv_at hl 1 rfl) ?_
      refine lv_ifnullN (tgt := 22) X.1 X.2.1 dX8_product_14 (by decide) ?_
      exact B22 S_4 _ (lv_sub hl [] rfl) h _ _ hP hS
  · have h := h.2 q_3 rfl
    refine W.eq (g2 := F0 m 5 ls [.ref (G.1 + q_3)]) rfl ?_
    refine lv_astore_n (lv' := [(3, .ref (G.1 + q_3)), (0, .ref (G.1 + 0)), (1, .int x1), (2, .int x2)]) X.1 X.2.1 dX8_product_5 rfl hl (by decide) rfl (fun ls hl => ?_)
    refine lv_aload_n X.1 X.2.1 dX8_product_6 rfl (lv_at hl 1 rfl) ?_
    refine lv_iload_n X.1 X.2.1 dX8_product_7 rfl (lv_at hl 3 rfl) ?_
    refine q_callV (rest := []) (b := 0) X hK hP hS (c_X8_polyAt l G x2 S_1 _ h) my_X8_polyAt tl_X8_121 dX8_product_8 kz_0 rfl rfl rfl ⟨Nat.le_of_ble_eq_true rfl, Nat.le_of_ble_eq_true rfl⟩ hl.1 rfl (Nat.le_of_ble_eq_true rfl) ⟨Nat.le_of_ble_eq_true rfl, Nat.le_of_ble_eq_true rfl⟩ (fun r_8 S_7 H locs h hP hS => ?_)
    rcases r_8 with _ | q_9
    · have h := h.1 rfl
      refine W.eq (g2 := F0 m 11 ls [.null]) rfl ?_
      refine lv_astoreN (lv' := [(4, .null), (3, .ref (G.1 + q_3)), (0, .ref (G.1 + 0)), (1, .int x1), (2, .int x2)]) X.1 X.2.1 dX8_product_11 hl (by decide) rfl (fun ls hl => ?_)
      refine lv_aload_n X.1 X.2.1 dX8_product_13 rfl (lv_at hl 1 rfl) ?_
      refine lv_ifnull X.1 X.2.1 dX8_product_14 ?_
      refine lv_aloadN X.1 X.2.1 dX8_product_17 (lv_at hl 0 rfl) ?_
      refine lv_ifnonnullN X.1 X.2.1 dX8_product_19 ?_
      exact B22 S_7 _ (lv_sub hl [] rfl) h _ _ hP hS
    · have h := h.2 q_9 rfl
      refine W.eq (g2 := F0 m 11 ls [.ref (G.1 + q_9)]) rfl ?_
      refine lv_astore (lv' := [(4, .ref (G.1 + q_9)), (3, .ref (G.1 + q_3)), (0, .ref (G.1 + 0)), (1, .int x1), (2, .int x2)]) X.1 X.2.1 dX8_product_11 hl (by decide) rfl (fun ls hl => ?_)
      refine lv_aload_n X.1 X.2.1 dX8_product_13 rfl (lv_at hl 1 rfl) ?_
      refine lv_ifnull X.1 X.2.1 dX8_product_14 ?_
      refine lv_aload X.1 X.2.1 dX8_product_17 (lv_at hl 0 rfl) ?_
      refine lv_ifnonnull (tgt := 25) X.1 X.2.1 dX8_product_19 (by decide) ?_
      refine lv_aload_n X.1 X.2.1 dX8_product_25 rfl (lv_at hl 2 rfl) ?_
      refine gf_X8_shelf X hK hP tl_X8_42 dX8_product_26 ?_
      refine q_callV (rest := []) (b := 19) X hK hP hS (c_X6_isFull l G S_7 _ h) my_X6_isFull tl_X8_109 dX8_product_29 kz_19 rfl rfl rfl ⟨Nat.le_of_ble_eq_true rfl, Nat.le_of_ble_eq_true rfl⟩ hl.1 rfl (Nat.le_of_ble_eq_true rfl) ⟨Nat.le_of_ble_eq_true rfl, Nat.le_of_ble_eq_true rfl⟩ (fun r_11 S_10 H locs h hP hS => ?_)
      refine W.eq (g2 := F0 m 32 ls [.int r_11]) rfl ?_
      refine lv_if_eq (tgt := 38) X.1 X.2.1 dX8_product_32 (by decide) (fun c_12 => ?_) (fun c_12 => ?_)
      · have h := h.1 c_12
        refine lv_aload_n X.1 X.2.1 dX8_product_38 rfl (lv_at hl 2 rfl) ?_
        refine lv_aload_n X.1 X.2.1 dX8_product_39 rfl (lv_at hl 2 rfl) ?_
        refine gf_X8_ring X hK hP tl_X8_18 dX8_product_40 ?_
        refine lv_aload_n X.1 X.2.1 dX8_product_43 rfl (lv_at hl 2 rfl) ?_
        refine gf_X8_result X hK hP tl_X8_36 dX8_product_44 ?_
        refine lv_aload_n X.1 X.2.1 dX8_product_47 rfl (lv_at hl 1 rfl) ?_
        refine lv_aload X.1 X.2.1 dX8_product_48 (lv_at hl 0 rfl) ?_
        obtain ⟨o_13, h⟩ := h
        obtain ⟨o_14, h⟩ := h
        refine q_callV (rest := [.ref (G.1 + 0)]) (b := 1) X hK hP hS (c_X5_multiply l G 16 q_3 q_9 S_10 _ kz_16 o_13 o_14 h) my_X5_multiply tl_X8_141 dX8_product_50 kz_1 rfl rfl rfl ⟨Nat.le_of_ble_eq_true rfl, Nat.le_of_ble_eq_true rfl⟩ hl.1 rfl (Nat.le_of_ble_eq_true rfl) ⟨Nat.le_of_ble_eq_true rfl, Nat.le_of_ble_eq_true rfl⟩ (fun r_16 S_15 H locs h hP hS => ?_)
        refine W.eq (g2 := F0 m 53 ls [.int r_16, .ref (G.1 + 0)]) rfl ?_
        refine q_callV (rest := []) (b := 0) X hK hP hS (c_X8_putResult l G r_16 S_15 _ h) my_X8_putResult tl_X8_138 dX8_product_53 kz_0 rfl rfl rfl ⟨Nat.le_of_ble_eq_true rfl, Nat.le_of_ble_eq_true rfl⟩ hl.1 rfl (Nat.le_of_ble_eq_true rfl) ⟨Nat.le_of_ble_eq_true rfl, Nat.le_of_ble_eq_true rfl⟩ (fun r_18 S_17 H locs h hP hS => ?_)
        refine W.eq (g2 := F0 m 56 ls [.int r_18]) rfl ?_
        exact q_iret X hr hlocks hP hS rfl h dX8_product_56
      · have h := h.2 c_12
        refine lv_bipush (v := (-4)) X.1 X.2.1 dX8_product_35 (by decide) ?_
        exact q_iret X hr hlocks hP hS rfl h dX8_product_37

set_option maxHeartbeats 4000000 in
set_option maxRecDepth 100000 in
theorem c_X8_derived (l : Launch) (G : Cx) (x1 : Int32) (x2 : Int32) (S : St) (K : Int32 → St → Prop) (h : w_X8_derived x1 x2 S K) : q_Met l yX8_derived cX8_derived 4 (some .int) 5 110 G [.ref (G.1 + 0), .int x1, .int x2] v_i S K := by
  refine q_enter (by decide +kernel) (Nat.le_of_ble_eq_true rfl) (fun p e s m args below meth c ls X hK hP hr hlocks hl => ?_)
  have hS : va_S (fr_ G) s.heap s.heap [] := va_S.rf
  have hl : lv_has ls 4 [(0, .ref (G.1 + 0)), (1, .int x1), (2, .int x2)] := hl
  have B21 : ∀ (S : St) (ls : Array Slot), lv_has ls 4 [] → w_X8_derived_21 x1 x2 K S → q_W p l e (k2_rm 5 110) s m args below meth c 0 0 (MQ below (q_Qc G K v_i) args s 0 0 (fr_ G)) G 21 ls [] S := by
    intro S ls hl h H locs hP hS
    refine lv_bipush (v := (-2)) X.1 X.2.1 dX8_derived_21 (by decide) ?_
    exact q_iret X hr hlocks hP hS rfl h dX8_derived_23
  refine lv_aload_n X.1 X.2.1 dX8_derived_0 rfl (lv_at hl 0 rfl) ?_
  refine lv_iload_n X.1 X.2.1 dX8_derived_1 rfl (lv_at hl 1 rfl) ?_
  refine q_callV (rest := []) (b := 0) X hK hP hS (c_X8_polyAt l G x1 S _ h) my_X8_polyAt tl_X8_121 dX8_derived_2 kz_0 rfl rfl rfl ⟨Nat.le_of_ble_eq_true rfl, Nat.le_of_ble_eq_true rfl⟩ hl.1 rfl (Nat.le_of_ble_eq_true rfl) ⟨Nat.le_of_ble_eq_true rfl, Nat.le_of_ble_eq_true rfl⟩ (fun r_2 S_1 H locs h hP hS => ?_)
  rcases r_2 with _ | q_3
  · have h := h.1 rfl
    refine W.eq (g2 := F0 m 5 ls [.null]) rfl ?_
    refine lv_astore_nN (lv' := [(3, .null), (0, .ref (G.1 + 0)), (1, .int x1), (2, .int x2)]) X.1 X.2.1 dX8_derived_5 rfl hl (by decide) rfl (fun ls hl => ?_)
    refine lv_aload_nN X.1 X.2.1 dX8_derived_6 rfl (lv_at hl 0 rfl) ?_
    refine lv_ifnullN (tgt := 21) X.1 X.2.1 dX8_derived_7 (by decide) ?_
    exact B21 S_1 _ (lv_sub hl [] rfl) h _ _ hP hS
  · have h := h.2 q_3 rfl
    refine W.eq (g2 := F0 m 5 ls [.ref (G.1 + q_3)]) rfl ?_
    refine lv_astore_n (lv' := [(3, .ref (G.1 + q_3)), (0, .ref (G.1 + 0)), (1, .int x1), (2, .int x2)]) X.1 X.2.1 dX8_derived_5 rfl hl (by decide) rfl (fun ls hl => ?_)
    refine lv_aload_n X.1 X.2.1 dX8_derived_6 rfl (lv_at hl 0 rfl) ?_
    refine lv_ifnull X.1 X.2.1 dX8_derived_7 ?_
    refine lv_aload_n X.1 X.2.1 dX8_derived_10 rfl (lv_at hl 1 rfl) ?_
    refine gf_X8_ring X hK hP tl_X8_18 dX8_derived_11 ?_
    refine lv_iload_n X.1 X.2.1 dX8_derived_14 rfl (lv_at hl 3 rfl) ?_
    refine q_callV (rest := []) (b := 1) X hK hP hS (c_X5_hasVariable l G x2 S_1 _ h) my_X5_hasVariable tl_X8_128 dX8_derived_15 kz_1 rfl rfl rfl ⟨Nat.le_of_ble_eq_true rfl, Nat.le_of_ble_eq_true rfl⟩ hl.1 rfl (Nat.le_of_ble_eq_true rfl) ⟨Nat.le_of_ble_eq_true rfl, Nat.le_of_ble_eq_true rfl⟩ (fun r_5 S_4 H locs h hP hS => ?_)
    refine W.eq (g2 := F0 m 18 ls [.int r_5]) rfl ?_
    refine lv_if_ne (tgt := 24) X.1 X.2.1 dX8_derived_18 (by decide) (fun c_6 => ?_) (fun c_6 => ?_)
    · have h := h.1 c_6
      refine lv_aload_n X.1 X.2.1 dX8_derived_24 rfl (lv_at hl 1 rfl) ?_
      refine gf_X8_shelf X hK hP tl_X8_42 dX8_derived_25 ?_
      refine q_callV (rest := []) (b := 19) X hK hP hS (c_X6_isFull l G S_4 _ h) my_X6_isFull tl_X8_109 dX8_derived_28 kz_19 rfl rfl rfl ⟨Nat.le_of_ble_eq_true rfl, Nat.le_of_ble_eq_true rfl⟩ hl.1 rfl (Nat.le_of_ble_eq_true rfl) ⟨Nat.le_of_ble_eq_true rfl, Nat.le_of_ble_eq_true rfl⟩ (fun r_8 S_7 H locs h hP hS => ?_)
      refine W.eq (g2 := F0 m 31 ls [.int r_8]) rfl ?_
      refine lv_if_eq (tgt := 37) X.1 X.2.1 dX8_derived_31 (by decide) (fun c_9 => ?_) (fun c_9 => ?_)
      · have h := h.1 c_9
        refine lv_aload_n X.1 X.2.1 dX8_derived_37 rfl (lv_at hl 1 rfl) ?_
        refine lv_aload_n X.1 X.2.1 dX8_derived_38 rfl (lv_at hl 1 rfl) ?_
        refine gf_X8_ring X hK hP tl_X8_18 dX8_derived_39 ?_
        refine lv_aload_n X.1 X.2.1 dX8_derived_42 rfl (lv_at hl 1 rfl) ?_
        refine gf_X8_result X hK hP tl_X8_36 dX8_derived_43 ?_
        refine lv_aload_n X.1 X.2.1 dX8_derived_46 rfl (lv_at hl 0 rfl) ?_
        refine lv_iload_n X.1 X.2.1 dX8_derived_47 rfl (lv_at hl 3 rfl) ?_
        obtain ⟨o_10, h⟩ := h
        refine q_callV (rest := [.ref (G.1 + 0)]) (b := 1) X hK hP hS (c_X5_derive l G 16 q_3 x2 S_7 _ kz_16 o_10 h) my_X5_derive tl_X8_145 dX8_derived_48 kz_1 rfl rfl rfl ⟨Nat.le_of_ble_eq_true rfl, Nat.le_of_ble_eq_true rfl⟩ hl.1 rfl (Nat.le_of_ble_eq_true rfl) ⟨Nat.le_of_ble_eq_true rfl, Nat.le_of_ble_eq_true rfl⟩ (fun r_12 S_11 H locs h hP hS => ?_)
        refine W.eq (g2 := F0 m 51 ls [.int r_12, .ref (G.1 + 0)]) rfl ?_
        refine q_callV (rest := []) (b := 0) X hK hP hS (c_X8_putResult l G r_12 S_11 _ h) my_X8_putResult tl_X8_138 dX8_derived_51 kz_0 rfl rfl rfl ⟨Nat.le_of_ble_eq_true rfl, Nat.le_of_ble_eq_true rfl⟩ hl.1 rfl (Nat.le_of_ble_eq_true rfl) ⟨Nat.le_of_ble_eq_true rfl, Nat.le_of_ble_eq_true rfl⟩ (fun r_14 S_13 H locs h hP hS => ?_)
        refine W.eq (g2 := F0 m 54 ls [.int r_14]) rfl ?_
        exact q_iret X hr hlocks hP hS rfl h dX8_derived_54
      · have h := h.2 c_9
        refine lv_bipush (v := (-4)) X.1 X.2.1 dX8_derived_34 (by decide) ?_
        exact q_iret X hr hlocks hP hS rfl h dX8_derived_36
    · have h := h.2 c_6
      exact B21 S_4 _ (lv_sub hl [] rfl) h _ _ hP hS

set_option maxHeartbeats 4000000 in
set_option maxRecDepth 100000 in
theorem c_X8_spair (l : Launch) (G : Cx) (x1 : Int32) (x2 : Int32) (S : St) (K : Int32 → St → Prop) (h : w_X8_spair x1 x2 S K) : q_Met l yX8_spair cX8_spair 5 (some .int) 5 110 G [.ref (G.1 + 0), .int x1, .int x2] v_i S K := by
  refine q_enter (by decide +kernel) (Nat.le_of_ble_eq_true rfl) (fun p e s m args below meth c ls X hK hP hr hlocks hl => ?_)
  have hS : va_S (fr_ G) s.heap s.heap [] := va_S.rf
  have hl : lv_has ls 5 [(0, .ref (G.1 + 0)), (1, .int x1), (2, .int x2)] := hl
  have B37 : ∀ (S : St) (ls : Array Slot), lv_has ls 5 [] → w_X8_spair_37 x1 x2 K S → q_W p l e (k2_rm 5 110) s m args below meth c 0 0 (MQ below (q_Qc G K v_i) args s 0 0 (fr_ G)) G 37 ls [] S := by
    intro S ls hl h H locs hP hS
    refine lv_bipush (v := (-2)) X.1 X.2.1 dX8_spair_37 (by decide) ?_
    exact q_iret X hr hlocks hP hS rfl h dX8_spair_39
  refine lv_aload_n X.1 X.2.1 dX8_spair_0 rfl (lv_at hl 0 rfl) ?_
  refine lv_iload_n X.1 X.2.1 dX8_spair_1 rfl (lv_at hl 1 rfl) ?_
  refine q_callV (rest := []) (b := 0) X hK hP hS (c_X8_polyAt l G x1 S _ h) my_X8_polyAt tl_X8_121 dX8_spair_2 kz_0 rfl rfl rfl ⟨Nat.le_of_ble_eq_true rfl, Nat.le_of_ble_eq_true rfl⟩ hl.1 rfl (Nat.le_of_ble_eq_true rfl) ⟨Nat.le_of_ble_eq_true rfl, Nat.le_of_ble_eq_true rfl⟩ (fun r_2 S_1 H locs h hP hS => ?_)
  rcases r_2 with _ | q_3
  · have h := h.1 rfl
    refine W.eq (g2 := F0 m 5 ls [.null]) rfl ?_
    refine lv_astore_nN (lv' := [(3, .null), (0, .ref (G.1 + 0)), (1, .int x1), (2, .int x2)]) X.1 X.2.1 dX8_spair_5 rfl hl (by decide) rfl (fun ls hl => ?_)
    refine lv_aload_n X.1 X.2.1 dX8_spair_6 rfl (lv_at hl 1 rfl) ?_
    refine lv_iload_n X.1 X.2.1 dX8_spair_7 rfl (lv_at hl 3 rfl) ?_
    refine q_callV (rest := []) (b := 0) X hK hP hS (c_X8_polyAt l G x2 S_1 _ h) my_X8_polyAt tl_X8_121 dX8_spair_8 kz_0 rfl rfl rfl ⟨Nat.le_of_ble_eq_true rfl, Nat.le_of_ble_eq_true rfl⟩ hl.1 rfl (Nat.le_of_ble_eq_true rfl) ⟨Nat.le_of_ble_eq_true rfl, Nat.le_of_ble_eq_true rfl⟩ (fun r_5 S_4 H locs h hP hS => ?_)
    rcases r_5 with _ | q_6
    · have h := h.1 rfl
      refine W.eq (g2 := F0 m 11 ls [.null]) rfl ?_
      refine lv_astoreN (lv' := [(4, .null), (3, .null), (0, .ref (G.1 + 0)), (1, .int x1), (2, .int x2)]) X.1 X.2.1 dX8_spair_11 hl (by decide) rfl (fun ls hl => ?_)
      refine lv_aload_nN X.1 X.2.1 dX8_spair_13 rfl (lv_at hl 1 rfl) ?_
      refine lv_ifnullN (tgt := 37) X.1 X.2.1 dX8_spair_14 (by decide) ?_
      exact B37 S_4 _ (lv_sub hl [] rfl) h _ _ hP hS
    · have h := h.2 q_6 rfl
      refine W.eq (g2 := F0 m 11 ls [.ref (G.1 + q_6)]) rfl ?_
      refine lv_astore (lv' := [(4, .ref (G.1 + q_6)), (3, .null), (0, .ref (G.1 + 0)), (1, .int x1), (2, .int x2)]) X.1 X.2.1 dX8_spair_11 hl (by decide) rfl (fun ls hl => ?_)
      refine lv_aload_nN X.1 X.2.1 dX8_spair_13 rfl (lv_at hl 1 rfl) ?_
      refine lv_ifnullN (tgt := 37) X.1 X.2.1 dX8_spair_14 (by decide) ?_
      exact B37 S_4 _ (lv_sub hl [] rfl) h _ _ hP hS
  · have h := h.2 q_3 rfl
    refine W.eq (g2 := F0 m 5 ls [.ref (G.1 + q_3)]) rfl ?_
    refine lv_astore_n (lv' := [(3, .ref (G.1 + q_3)), (0, .ref (G.1 + 0)), (1, .int x1), (2, .int x2)]) X.1 X.2.1 dX8_spair_5 rfl hl (by decide) rfl (fun ls hl => ?_)
    refine lv_aload_n X.1 X.2.1 dX8_spair_6 rfl (lv_at hl 1 rfl) ?_
    refine lv_iload_n X.1 X.2.1 dX8_spair_7 rfl (lv_at hl 3 rfl) ?_
    refine q_callV (rest := []) (b := 0) X hK hP hS (c_X8_polyAt l G x2 S_1 _ h) my_X8_polyAt tl_X8_121 dX8_spair_8 kz_0 rfl rfl rfl ⟨Nat.le_of_ble_eq_true rfl, Nat.le_of_ble_eq_true rfl⟩ hl.1 rfl (Nat.le_of_ble_eq_true rfl) ⟨Nat.le_of_ble_eq_true rfl, Nat.le_of_ble_eq_true rfl⟩ (fun r_8 S_7 H locs h hP hS => ?_)
    rcases r_8 with _ | q_9
    · have h := h.1 rfl
      refine W.eq (g2 := F0 m 11 ls [.null]) rfl ?_
      refine lv_astoreN (lv' := [(4, .null), (3, .ref (G.1 + q_3)), (0, .ref (G.1 + 0)), (1, .int x1), (2, .int x2)]) X.1 X.2.1 dX8_spair_11 hl (by decide) rfl (fun ls hl => ?_)
      refine lv_aload_n X.1 X.2.1 dX8_spair_13 rfl (lv_at hl 1 rfl) ?_
      refine lv_ifnull X.1 X.2.1 dX8_spair_14 ?_
      refine lv_aloadN X.1 X.2.1 dX8_spair_17 (lv_at hl 0 rfl) ?_
      refine lv_ifnullN (tgt := 37) X.1 X.2.1 dX8_spair_19 (by decide) ?_
      exact B37 S_7 _ (lv_sub hl [] rfl) h _ _ hP hS
    · have h := h.2 q_9 rfl
      refine W.eq (g2 := F0 m 11 ls [.ref (G.1 + q_9)]) rfl ?_
      refine lv_astore (lv' := [(4, .ref (G.1 + q_9)), (3, .ref (G.1 + q_3)), (0, .ref (G.1 + 0)), (1, .int x1), (2, .int x2)]) X.1 X.2.1 dX8_spair_11 hl (by decide) rfl (fun ls hl => ?_)
      refine lv_aload_n X.1 X.2.1 dX8_spair_13 rfl (lv_at hl 1 rfl) ?_
      refine lv_ifnull X.1 X.2.1 dX8_spair_14 ?_
      refine lv_aload X.1 X.2.1 dX8_spair_17 (lv_at hl 0 rfl) ?_
      refine lv_ifnull X.1 X.2.1 dX8_spair_19 ?_
      refine lv_aload_n X.1 X.2.1 dX8_spair_22 rfl (lv_at hl 1 rfl) ?_
      obtain ⟨o_10, h⟩ := h
      refine gf_X3_size X hK hP o_10 tl_X8_108 dX8_spair_23 ?_
      refine lv_if_eq (tgt := 37) X.1 X.2.1 dX8_spair_26 (by decide) (fun c_11 => ?_) (fun c_11 => ?_)
      · have h := h.1 c_11
        exact B37 S_7 _ (lv_sub hl [] rfl) h _ _ hP hS
      · have h := h.2 c_11
        refine lv_aload X.1 X.2.1 dX8_spair_29 (lv_at hl 0 rfl) ?_
        obtain ⟨o_12, h⟩ := h
        refine gf_X3_size X hK hP o_12 tl_X8_108 dX8_spair_31 ?_
        refine lv_if_ne (tgt := 40) X.1 X.2.1 dX8_spair_34 (by decide) (fun c_13 => ?_) (fun c_13 => ?_)
        · have h := h.1 c_13
          refine lv_aload_n X.1 X.2.1 dX8_spair_40 rfl (lv_at hl 2 rfl) ?_
          refine gf_X8_shelf X hK hP tl_X8_42 dX8_spair_41 ?_
          refine q_callV (rest := []) (b := 19) X hK hP hS (c_X6_isFull l G S_7 _ h) my_X6_isFull tl_X8_109 dX8_spair_44 kz_19 rfl rfl rfl ⟨Nat.le_of_ble_eq_true rfl, Nat.le_of_ble_eq_true rfl⟩ hl.1 rfl (Nat.le_of_ble_eq_true rfl) ⟨Nat.le_of_ble_eq_true rfl, Nat.le_of_ble_eq_true rfl⟩ (fun r_15 S_14 H locs h hP hS => ?_)
          refine W.eq (g2 := F0 m 47 ls [.int r_15]) rfl ?_
          refine lv_if_eq (tgt := 53) X.1 X.2.1 dX8_spair_47 (by decide) (fun c_16 => ?_) (fun c_16 => ?_)
          · have h := h.1 c_16
            refine lv_aload_n X.1 X.2.1 dX8_spair_53 rfl (lv_at hl 2 rfl) ?_
            refine lv_aload_n X.1 X.2.1 dX8_spair_54 rfl (lv_at hl 2 rfl) ?_
            refine gf_X8_ring X hK hP tl_X8_18 dX8_spair_55 ?_
            refine lv_aload_n X.1 X.2.1 dX8_spair_58 rfl (lv_at hl 2 rfl) ?_
            refine gf_X8_result X hK hP tl_X8_36 dX8_spair_59 ?_
            refine lv_aload_n X.1 X.2.1 dX8_spair_62 rfl (lv_at hl 1 rfl) ?_
            refine lv_aload X.1 X.2.1 dX8_spair_63 (lv_at hl 0 rfl) ?_
            refine q_callV (rest := [.ref (G.1 + 0)]) (b := 1) X hK hP hS (c_X5_makeS l G 16 q_3 q_9 S_14 _ kz_16 o_10 o_12 h) my_X5_makeS tl_X8_149 dX8_spair_65 kz_1 rfl rfl rfl ⟨Nat.le_of_ble_eq_true rfl, Nat.le_of_ble_eq_true rfl⟩ hl.1 rfl (Nat.le_of_ble_eq_true rfl) ⟨Nat.le_of_ble_eq_true rfl, Nat.le_of_ble_eq_true rfl⟩ (fun r_18 S_17 H locs h hP hS => ?_)
            refine W.eq (g2 := F0 m 68 ls [.int r_18, .ref (G.1 + 0)]) rfl ?_
            refine q_callV (rest := []) (b := 0) X hK hP hS (c_X8_putResult l G r_18 S_17 _ h) my_X8_putResult tl_X8_138 dX8_spair_68 kz_0 rfl rfl rfl ⟨Nat.le_of_ble_eq_true rfl, Nat.le_of_ble_eq_true rfl⟩ hl.1 rfl (Nat.le_of_ble_eq_true rfl) ⟨Nat.le_of_ble_eq_true rfl, Nat.le_of_ble_eq_true rfl⟩ (fun r_20 S_19 H locs h hP hS => ?_)
            refine W.eq (g2 := F0 m 71 ls [.int r_20]) rfl ?_
            exact q_iret X hr hlocks hP hS rfl h dX8_spair_71
          · have h := h.2 c_16
            refine lv_bipush (v := (-4)) X.1 X.2.1 dX8_spair_50 (by decide) ?_
            exact q_iret X hr hlocks hP hS rfl h dX8_spair_52
        · have h := h.2 c_13
          exact B37 S_7 _ (lv_sub hl [] rfl) h _ _ hP hS

set_option maxHeartbeats 4000000 in
set_option maxRecDepth 100000 in
theorem c_X8_value (l : Launch) (G : Cx) (x1 : Int32) (x2 : Int32) (x3 : Int32) (x4 : Int32) (x5 : Int32) (S : St) (K : Int32 → St → Prop) (h : w_X8_value x1 x2 x3 x4 x5 S K) : q_Met l yX8_value cX8_value 7 (some .int) 3 68 G [.ref (G.1 + 0), .int x1, .int x2, .int x3, .int x4, .int x5] v_i S K := by
  refine q_enter (by decide +kernel) (Nat.le_of_ble_eq_true rfl) (fun p e s m args below meth c ls X hK hP hr hlocks hl => ?_)
  have hS : va_S (fr_ G) s.heap s.heap [] := va_S.rf
  have hl : lv_has ls 7 [(0, .ref (G.1 + 0)), (1, .int x1), (2, .int x2), (3, .int x3), (4, .int x4), (5, .int x5)] := hl
  refine lv_aload_n X.1 X.2.1 dX8_value_0 rfl (lv_at hl 0 rfl) ?_
  refine lv_iload_n X.1 X.2.1 dX8_value_1 rfl (lv_at hl 1 rfl) ?_
  refine q_callV (rest := []) (b := 0) X hK hP hS (c_X8_polyAt l G x1 S _ h) my_X8_polyAt tl_X8_121 dX8_value_2 kz_0 rfl rfl rfl ⟨Nat.le_of_ble_eq_true rfl, Nat.le_of_ble_eq_true rfl⟩ hl.1 rfl (Nat.le_of_ble_eq_true rfl) ⟨Nat.le_of_ble_eq_true rfl, Nat.le_of_ble_eq_true rfl⟩ (fun r_2 S_1 H locs h hP hS => ?_)
  rcases r_2 with _ | q_3
  · have h := h.1 rfl
    refine W.eq (g2 := F0 m 5 ls [.null]) rfl ?_
    refine lv_astoreN (lv' := [(6, .null), (0, .ref (G.1 + 0)), (1, .int x1), (2, .int x2), (3, .int x3), (4, .int x4), (5, .int x5)]) X.1 X.2.1 dX8_value_5 hl (by decide) rfl (fun ls hl => ?_)
    refine lv_aloadN X.1 X.2.1 dX8_value_7 (lv_at hl 0 rfl) ?_
    refine lv_ifnonnullN X.1 X.2.1 dX8_value_9 ?_
    refine lv_bipush (v := (-2)) X.1 X.2.1 dX8_value_12 (by decide) ?_
    exact q_iret X hr hlocks hP hS rfl h dX8_value_14
  · have h := h.2 q_3 rfl
    refine W.eq (g2 := F0 m 5 ls [.ref (G.1 + q_3)]) rfl ?_
    refine lv_astore (lv' := [(6, .ref (G.1 + q_3)), (0, .ref (G.1 + 0)), (1, .int x1), (2, .int x2), (3, .int x3), (4, .int x4), (5, .int x5)]) X.1 X.2.1 dX8_value_5 hl (by decide) rfl (fun ls hl => ?_)
    refine lv_aload X.1 X.2.1 dX8_value_7 (lv_at hl 0 rfl) ?_
    refine lv_ifnonnull (tgt := 15) X.1 X.2.1 dX8_value_9 (by decide) ?_
    refine lv_aload_n X.1 X.2.1 dX8_value_15 rfl (lv_at hl 1 rfl) ?_
    refine gf_X8_ring X hK hP tl_X8_18 dX8_value_16 ?_
    refine lv_iconst (v := 0) X.1 X.2.1 dX8_value_19 (by decide) ?_
    refine lv_iload_n X.1 X.2.1 dX8_value_20 rfl (lv_at hl 3 rfl) ?_
    refine q_callV (rest := []) (b := 1) X hK hP hS (c_X5_setPoint l G 0 x2 S_1 _ h) my_X5_setPoint tl_X8_152 dX8_value_21 kz_1 rfl rfl rfl ⟨Nat.le_of_ble_eq_true rfl, Nat.le_of_ble_eq_true rfl⟩ hl.1 rfl (Nat.le_of_ble_eq_true rfl) ⟨Nat.le_of_ble_eq_true rfl, Nat.le_of_ble_eq_true rfl⟩ (fun r_5 S_4 H locs h hP hS => ?_)
    refine W.eq (g2 := F0 m 24 ls []) rfl ?_
    refine lv_aload_n X.1 X.2.1 dX8_value_24 rfl (lv_at hl 1 rfl) ?_
    refine gf_X8_ring X hK hP tl_X8_18 dX8_value_25 ?_
    refine lv_iconst (v := 1) X.1 X.2.1 dX8_value_28 (by decide) ?_
    refine lv_iload_n X.1 X.2.1 dX8_value_29 rfl (lv_at hl 4 rfl) ?_
    refine q_callV (rest := []) (b := 1) X hK hP hS (c_X5_setPoint l G 1 x3 S_4 _ h) my_X5_setPoint tl_X8_152 dX8_value_30 kz_1 rfl rfl rfl ⟨Nat.le_of_ble_eq_true rfl, Nat.le_of_ble_eq_true rfl⟩ hl.1 rfl (Nat.le_of_ble_eq_true rfl) ⟨Nat.le_of_ble_eq_true rfl, Nat.le_of_ble_eq_true rfl⟩ (fun r_7 S_6 H locs h hP hS => ?_)
    refine W.eq (g2 := F0 m 33 ls []) rfl ?_
    refine lv_aload_n X.1 X.2.1 dX8_value_33 rfl (lv_at hl 1 rfl) ?_
    refine gf_X8_ring X hK hP tl_X8_18 dX8_value_34 ?_
    refine lv_iconst (v := 2) X.1 X.2.1 dX8_value_37 (by decide) ?_
    refine lv_iload X.1 X.2.1 dX8_value_38 (lv_at hl 5 rfl) ?_
    refine q_callV (rest := []) (b := 1) X hK hP hS (c_X5_setPoint l G 2 x4 S_6 _ h) my_X5_setPoint tl_X8_152 dX8_value_40 kz_1 rfl rfl rfl ⟨Nat.le_of_ble_eq_true rfl, Nat.le_of_ble_eq_true rfl⟩ hl.1 rfl (Nat.le_of_ble_eq_true rfl) ⟨Nat.le_of_ble_eq_true rfl, Nat.le_of_ble_eq_true rfl⟩ (fun r_9 S_8 H locs h hP hS => ?_)
    refine W.eq (g2 := F0 m 43 ls []) rfl ?_
    refine lv_aload_n X.1 X.2.1 dX8_value_43 rfl (lv_at hl 1 rfl) ?_
    refine gf_X8_ring X hK hP tl_X8_18 dX8_value_44 ?_
    refine lv_iconst (v := 3) X.1 X.2.1 dX8_value_47 (by decide) ?_
    refine lv_iload X.1 X.2.1 dX8_value_48 (lv_at hl 6 rfl) ?_
    refine q_callV (rest := []) (b := 1) X hK hP hS (c_X5_setPoint l G 3 x5 S_8 _ h) my_X5_setPoint tl_X8_152 dX8_value_50 kz_1 rfl rfl rfl ⟨Nat.le_of_ble_eq_true rfl, Nat.le_of_ble_eq_true rfl⟩ hl.1 rfl (Nat.le_of_ble_eq_true rfl) ⟨Nat.le_of_ble_eq_true rfl, Nat.le_of_ble_eq_true rfl⟩ (fun r_11 S_10 H locs h hP hS => ?_)
    refine W.eq (g2 := F0 m 53 ls []) rfl ?_
    refine lv_aload_n X.1 X.2.1 dX8_value_53 rfl (lv_at hl 1 rfl) ?_
    refine gf_X8_ring X hK hP tl_X8_18 dX8_value_54 ?_
    refine lv_aload X.1 X.2.1 dX8_value_57 (lv_at hl 0 rfl) ?_
    obtain ⟨o_12, h⟩ := h
    refine q_callV (rest := []) (b := 1) X hK hP hS (c_X5_valueAtPoint l G q_3 S_10 _ o_12 h) my_X5_valueAtPoint tl_X8_155 dX8_value_59 kz_1 rfl rfl rfl ⟨Nat.le_of_ble_eq_true rfl, Nat.le_of_ble_eq_true rfl⟩ hl.1 rfl (Nat.le_of_ble_eq_true rfl) ⟨Nat.le_of_ble_eq_true rfl, Nat.le_of_ble_eq_true rfl⟩ (fun r_14 S_13 H locs h hP hS => ?_)
    refine W.eq (g2 := F0 m 62 ls [.int r_14]) rfl ?_
    exact q_iret X hr hlocks hP hS rfl h dX8_value_62

set_option maxHeartbeats 4000000 in
set_option maxRecDepth 100000 in
theorem c_X8_compare (l : Launch) (G : Cx) (x1 : Int32) (x2 : Int32) (S : St) (K : Int32 → St → Prop) (h : w_X8_compare x1 x2 S K) : q_Met l yX8_compare cX8_compare 5 (some .int) 2 51 G [.ref (G.1 + 0), .int x1, .int x2] v_i S K := by
  refine q_enter (by decide +kernel) (Nat.le_of_ble_eq_true rfl) (fun p e s m args below meth c ls X hK hP hr hlocks hl => ?_)
  have hS : va_S (fr_ G) s.heap s.heap [] := va_S.rf
  have hl : lv_has ls 5 [(0, .ref (G.1 + 0)), (1, .int x1), (2, .int x2)] := hl
  have B22 : ∀ (S : St) (ls : Array Slot), lv_has ls 5 [] → w_X8_compare_22 x1 x2 K S → q_W p l e (k2_rm 2 51) s m args below meth c 0 0 (MQ below (q_Qc G K v_i) args s 0 0 (fr_ G)) G 22 ls [] S := by
    intro S ls hl h H locs hP hS
    refine lv_bipush (v := (-2)) X.1 X.2.1 dX8_compare_22 (by decide) ?_
    refine lv_goto (tgt := 37) X.1 X.2.1 dX8_compare_24 (by decide) ?_
    exact q_iret X hr hlocks hP hS rfl h dX8_compare_37
  refine lv_aload_n X.1 X.2.1 dX8_compare_0 rfl (lv_at hl 0 rfl) ?_
  refine lv_iload_n X.1 X.2.1 dX8_compare_1 rfl (lv_at hl 1 rfl) ?_
  refine q_callV (rest := []) (b := 0) X hK hP hS (c_X8_polyAt l G x1 S _ h) my_X8_polyAt tl_X8_121 dX8_compare_2 kz_0 rfl rfl rfl ⟨Nat.le_of_ble_eq_true rfl, Nat.le_of_ble_eq_true rfl⟩ hl.1 rfl (Nat.le_of_ble_eq_true rfl) ⟨Nat.le_of_ble_eq_true rfl, Nat.le_of_ble_eq_true rfl⟩ (fun r_2 S_1 H locs h hP hS => ?_)
  rcases r_2 with _ | q_3
  · have h := h.1 rfl
    refine W.eq (g2 := F0 m 5 ls [.null]) rfl ?_
    refine lv_astore_nN (lv' := [(3, .null), (0, .ref (G.1 + 0)), (1, .int x1), (2, .int x2)]) X.1 X.2.1 dX8_compare_5 rfl hl (by decide) rfl (fun ls hl => ?_)
    refine lv_aload_n X.1 X.2.1 dX8_compare_6 rfl (lv_at hl 1 rfl) ?_
    refine lv_iload_n X.1 X.2.1 dX8_compare_7 rfl (lv_at hl 3 rfl) ?_
    refine q_callV (rest := []) (b := 0) X hK hP hS (c_X8_polyAt l G x2 S_1 _ h) my_X8_polyAt tl_X8_121 dX8_compare_8 kz_0 rfl rfl rfl ⟨Nat.le_of_ble_eq_true rfl, Nat.le_of_ble_eq_true rfl⟩ hl.1 rfl (Nat.le_of_ble_eq_true rfl) ⟨Nat.le_of_ble_eq_true rfl, Nat.le_of_ble_eq_true rfl⟩ (fun r_5 S_4 H locs h hP hS => ?_)
    rcases r_5 with _ | q_6
    · have h := h.1 rfl
      refine W.eq (g2 := F0 m 11 ls [.null]) rfl ?_
      refine lv_astoreN (lv' := [(4, .null), (3, .null), (0, .ref (G.1 + 0)), (1, .int x1), (2, .int x2)]) X.1 X.2.1 dX8_compare_11 hl (by decide) rfl (fun ls hl => ?_)
      refine lv_aload_nN X.1 X.2.1 dX8_compare_13 rfl (lv_at hl 1 rfl) ?_
      refine lv_ifnullN (tgt := 22) X.1 X.2.1 dX8_compare_14 (by decide) ?_
      exact B22 S_4 _ (lv_sub hl [] rfl) h _ _ hP hS
    · have h := h.2 q_6 rfl
      refine W.eq (g2 := F0 m 11 ls [.ref (G.1 + q_6)]) rfl ?_
      refine lv_astore (lv' := [(4, .ref (G.1 + q_6)), (3, .null), (0, .ref (G.1 + 0)), (1, .int x1), (2, .int x2)]) X.1 X.2.1 dX8_compare_11 hl (by decide) rfl (fun ls hl => ?_)
      refine lv_aload_nN X.1 X.2.1 dX8_compare_13 rfl (lv_at hl 1 rfl) ?_
      refine lv_ifnullN (tgt := 22) X.1 X.2.1 dX8_compare_14 (by decide) ?_
      exact B22 S_4 _ (lv_sub hl [] rfl) h _ _ hP hS
  · have h := h.2 q_3 rfl
    refine W.eq (g2 := F0 m 5 ls [.ref (G.1 + q_3)]) rfl ?_
    refine lv_astore_n (lv' := [(3, .ref (G.1 + q_3)), (0, .ref (G.1 + 0)), (1, .int x1), (2, .int x2)]) X.1 X.2.1 dX8_compare_5 rfl hl (by decide) rfl (fun ls hl => ?_)
    refine lv_aload_n X.1 X.2.1 dX8_compare_6 rfl (lv_at hl 1 rfl) ?_
    refine lv_iload_n X.1 X.2.1 dX8_compare_7 rfl (lv_at hl 3 rfl) ?_
    refine q_callV (rest := []) (b := 0) X hK hP hS (c_X8_polyAt l G x2 S_1 _ h) my_X8_polyAt tl_X8_121 dX8_compare_8 kz_0 rfl rfl rfl ⟨Nat.le_of_ble_eq_true rfl, Nat.le_of_ble_eq_true rfl⟩ hl.1 rfl (Nat.le_of_ble_eq_true rfl) ⟨Nat.le_of_ble_eq_true rfl, Nat.le_of_ble_eq_true rfl⟩ (fun r_8 S_7 H locs h hP hS => ?_)
    rcases r_8 with _ | q_9
    · have h := h.1 rfl
      refine W.eq (g2 := F0 m 11 ls [.null]) rfl ?_
      refine lv_astoreN (lv' := [(4, .null), (3, .ref (G.1 + q_3)), (0, .ref (G.1 + 0)), (1, .int x1), (2, .int x2)]) X.1 X.2.1 dX8_compare_11 hl (by decide) rfl (fun ls hl => ?_)
      refine lv_aload_n X.1 X.2.1 dX8_compare_13 rfl (lv_at hl 1 rfl) ?_
      refine lv_ifnull X.1 X.2.1 dX8_compare_14 ?_
      refine lv_aloadN X.1 X.2.1 dX8_compare_17 (lv_at hl 0 rfl) ?_
      refine lv_ifnonnullN X.1 X.2.1 dX8_compare_19 ?_
      exact B22 S_7 _ (lv_sub hl [] rfl) h _ _ hP hS
    · have h := h.2 q_9 rfl
      refine W.eq (g2 := F0 m 11 ls [.ref (G.1 + q_9)]) rfl ?_
      refine lv_astore (lv' := [(4, .ref (G.1 + q_9)), (3, .ref (G.1 + q_3)), (0, .ref (G.1 + 0)), (1, .int x1), (2, .int x2)]) X.1 X.2.1 dX8_compare_11 hl (by decide) rfl (fun ls hl => ?_)
      refine lv_aload_n X.1 X.2.1 dX8_compare_13 rfl (lv_at hl 1 rfl) ?_
      refine lv_ifnull X.1 X.2.1 dX8_compare_14 ?_
      refine lv_aload X.1 X.2.1 dX8_compare_17 (lv_at hl 0 rfl) ?_
      refine lv_ifnonnull (tgt := 27) X.1 X.2.1 dX8_compare_19 (by decide) ?_
      refine lv_aload_n X.1 X.2.1 dX8_compare_27 rfl (lv_at hl 2 rfl) ?_
      refine gf_X8_ring X hK hP tl_X8_18 dX8_compare_28 ?_
      refine lv_aload_n X.1 X.2.1 dX8_compare_31 rfl (lv_at hl 1 rfl) ?_
      refine lv_aload X.1 X.2.1 dX8_compare_32 (lv_at hl 0 rfl) ?_
      obtain ⟨o_10, h⟩ := h
      obtain ⟨o_11, h⟩ := h
      refine q_callV (rest := []) (b := 1) X hK hP hS (c_X5_comparePolys l G q_3 q_9 S_7 _ o_10 o_11 h) my_X5_comparePolys tl_X8_158 dX8_compare_34 kz_1 rfl rfl rfl ⟨Nat.le_of_ble_eq_true rfl, Nat.le_of_ble_eq_true rfl⟩ hl.1 rfl (Nat.le_of_ble_eq_true rfl) ⟨Nat.le_of_ble_eq_true rfl, Nat.le_of_ble_eq_true rfl⟩ (fun r_13 S_12 H locs h hP hS => ?_)
      refine W.eq (g2 := F0 m 37 ls [.int r_13]) rfl ?_
      exact q_iret X hr hlocks hP hS rfl h dX8_compare_37

set_option maxHeartbeats 4000000 in
set_option maxRecDepth 100000 in
theorem c_X8_fuel (l : Launch) (G : Cx) (x1 : Int32) (S : St) (K : Int32 → St → Prop) (h : w_X8_fuel x1 S K) : q_Met l yX8_fuel cX8_fuel 3 (some .int) 0 0 G [.ref (G.1 + 0), .int x1] v_i S K := by
  refine q_enter (by decide +kernel) (Nat.le_of_ble_eq_true rfl) (fun p e s m args below meth c ls X hK hP hr hlocks hl => ?_)
  have hS : va_S (fr_ G) s.heap s.heap [] := va_S.rf
  have hl : lv_has ls 3 [(0, .ref (G.1 + 0)), (1, .int x1)] := hl
  have B11 : ∀ (S : St) (ls : Array Slot), lv_has ls 3 [] → w_X8_fuel_11 x1 K S → q_W p l e (k2_rm 0 0) s m args below meth c 0 0 (MQ below (q_Qc G K v_i) args s 0 0 (fr_ G)) G 11 ls [] S := by
    intro S ls hl h H locs hP hS
    refine lv_bipush (v := (-2)) X.1 X.2.1 dX8_fuel_11 (by decide) ?_
    exact q_iret X hr hlocks hP hS rfl h dX8_fuel_13
  refine lv_iload_n X.1 X.2.1 dX8_fuel_0 rfl (lv_at hl 1 rfl) ?_
  refine lv_if_lt (tgt := 11) X.1 X.2.1 dX8_fuel_1 (by decide) (fun c_1 => ?_) (fun c_1 => ?_)
  · have h := h.1 c_1
    exact B11 S _ (lv_sub hl [] rfl) h _ _ hP hS
  · have h := h.2 c_1
    refine lv_iload_n X.1 X.2.1 dX8_fuel_4 rfl (lv_at hl 1 rfl) ?_
    refine lv_sipush (v := 2000) X.1 X.2.1 dX8_fuel_5 (by decide) ?_
    refine lv_icmp_le (tgt := 14) X.1 X.2.1 dX8_fuel_8 (by decide) (fun c_2 => ?_) (fun c_2 => ?_)
    · have h := h.1 c_2
      refine lv_aload_n X.1 X.2.1 dX8_fuel_14 rfl (lv_at hl 0 rfl) ?_
      refine gf_X8_reducer X hK hP tl_X8_51 dX8_fuel_15 ?_
      refine gf_X4_fuel X hK hP tl_X8_162 dX8_fuel_18 ?_
      refine lv_topi (fun x2_3 e2_3 => ?_)
      have h := h x2_3 e2_3
      refine lv_istore_n (lv' := [(2, .int x2_3), (0, .ref (G.1 + 0)), (1, .int x1)]) X.1 X.2.1 dX8_fuel_21 rfl hl (by decide) rfl (fun ls hl => ?_)
      refine lv_aload_n X.1 X.2.1 dX8_fuel_22 rfl (lv_at hl 1 rfl) ?_
      refine gf_X8_reducer X hK hP tl_X8_51 dX8_fuel_23 ?_
      refine lv_iload_n X.1 X.2.1 dX8_fuel_26 rfl (lv_at hl 2 rfl) ?_
      refine pf_X4_fuel X hK hP hS tl_X8_162 dX8_fuel_27 (fun S_4 H locs eS_4 hP hS => ?_)
      have h := h S_4 eS_4
      refine lv_iload_n X.1 X.2.1 dX8_fuel_30 rfl (lv_at hl 0 rfl) ?_
      exact q_iret X hr hlocks hP hS rfl h dX8_fuel_31
    · have h := h.2 c_2
      exact B11 S _ (lv_sub hl [] rfl) h _ _ hP hS

set_option maxHeartbeats 4000000 in
set_option maxRecDepth 100000 in
theorem c_X8_way (l : Launch) (G : Cx) (x1 : Int32) (S : St) (K : Int32 → St → Prop) (h : w_X8_way x1 S K) : q_Met l yX8_way cX8_way 3 (some .int) 0 0 G [.ref (G.1 + 0), .int x1] v_i S K := by
  refine q_enter (by decide +kernel) (Nat.le_of_ble_eq_true rfl) (fun p e s m args below meth c ls X hK hP hr hlocks hl => ?_)
  have hS : va_S (fr_ G) s.heap s.heap [] := va_S.rf
  have hl : lv_has ls 3 [(0, .ref (G.1 + 0)), (1, .int x1)] := hl
  have B9 : ∀ (S : St) (ls : Array Slot), lv_has ls 3 [] → w_X8_way_9 x1 K S → q_W p l e (k2_rm 0 0) s m args below meth c 0 0 (MQ below (q_Qc G K v_i) args s 0 0 (fr_ G)) G 9 ls [] S := by
    intro S ls hl h H locs hP hS
    refine lv_bipush (v := (-2)) X.1 X.2.1 dX8_way_9 (by decide) ?_
    exact q_iret X hr hlocks hP hS rfl h dX8_way_11
  refine lv_iload_n X.1 X.2.1 dX8_way_0 rfl (lv_at hl 1 rfl) ?_
  refine lv_if_lt (tgt := 9) X.1 X.2.1 dX8_way_1 (by decide) (fun c_1 => ?_) (fun c_1 => ?_)
  · have h := h.1 c_1
    exact B9 S _ (lv_sub hl [] rfl) h _ _ hP hS
  · have h := h.2 c_1
    refine lv_iload_n X.1 X.2.1 dX8_way_4 rfl (lv_at hl 1 rfl) ?_
    refine lv_iconst (v := 1) X.1 X.2.1 dX8_way_5 (by decide) ?_
    refine lv_icmp_le (tgt := 12) X.1 X.2.1 dX8_way_6 (by decide) (fun c_2 => ?_) (fun c_2 => ?_)
    · have h := h.1 c_2
      refine lv_aload_n X.1 X.2.1 dX8_way_12 rfl (lv_at hl 0 rfl) ?_
      refine gf_X8_basis X hK hP tl_X8_60 dX8_way_13 ?_
      refine gf_X0_way X hK hP tl_X8_165 dX8_way_16 ?_
      refine lv_topi (fun x2_3 e2_3 => ?_)
      have h := h x2_3 e2_3
      refine lv_istore_n (lv' := [(2, .int x2_3), (0, .ref (G.1 + 0)), (1, .int x1)]) X.1 X.2.1 dX8_way_19 rfl hl (by decide) rfl (fun ls hl => ?_)
      refine lv_aload_n X.1 X.2.1 dX8_way_20 rfl (lv_at hl 1 rfl) ?_
      refine gf_X8_basis X hK hP tl_X8_60 dX8_way_21 ?_
      refine lv_iload_n X.1 X.2.1 dX8_way_24 rfl (lv_at hl 2 rfl) ?_
      refine pf_X0_way X hK hP hS tl_X8_165 dX8_way_25 (fun S_4 H locs eS_4 hP hS => ?_)
      have h := h S_4 eS_4
      refine lv_iload_n X.1 X.2.1 dX8_way_28 rfl (lv_at hl 0 rfl) ?_
      exact q_iret X hr hlocks hP hS rfl h dX8_way_29
    · have h := h.2 c_2
      exact B9 S _ (lv_sub hl [] rfl) h _ _ hP hS

set_option maxHeartbeats 4000000 in
set_option maxRecDepth 100000 in
theorem c_X8_rules (l : Launch) (G : Cx) (x1 : Int32) (S : St) (K : Int32 → St → Prop) (h : w_X8_rules x1 S K) : q_Met l yX8_rules cX8_rules 3 (some .int) 0 0 G [.ref (G.1 + 0), .int x1] v_i S K := by
  refine q_enter (by decide +kernel) (Nat.le_of_ble_eq_true rfl) (fun p e s m args below meth c ls X hK hP hr hlocks hl => ?_)
  have hS : va_S (fr_ G) s.heap s.heap [] := va_S.rf
  have hl : lv_has ls 3 [(0, .ref (G.1 + 0)), (1, .int x1)] := hl
  have B9 : ∀ (S : St) (ls : Array Slot), lv_has ls 3 [] → w_X8_rules_9 x1 K S → q_W p l e (k2_rm 0 0) s m args below meth c 0 0 (MQ below (q_Qc G K v_i) args s 0 0 (fr_ G)) G 9 ls [] S := by
    intro S ls hl h H locs hP hS
    refine lv_bipush (v := (-2)) X.1 X.2.1 dX8_rules_9 (by decide) ?_
    exact q_iret X hr hlocks hP hS rfl h dX8_rules_11
  refine lv_iload_n X.1 X.2.1 dX8_rules_0 rfl (lv_at hl 1 rfl) ?_
  refine lv_if_lt (tgt := 9) X.1 X.2.1 dX8_rules_1 (by decide) (fun c_1 => ?_) (fun c_1 => ?_)
  · have h := h.1 c_1
    exact B9 S _ (lv_sub hl [] rfl) h _ _ hP hS
  · have h := h.2 c_1
    refine lv_iload_n X.1 X.2.1 dX8_rules_4 rfl (lv_at hl 1 rfl) ?_
    refine lv_iconst (v := 3) X.1 X.2.1 dX8_rules_5 (by decide) ?_
    refine lv_icmp_le (tgt := 12) X.1 X.2.1 dX8_rules_6 (by decide) (fun c_2 => ?_) (fun c_2 => ?_)
    · have h := h.1 c_2
      refine lv_aload_n X.1 X.2.1 dX8_rules_12 rfl (lv_at hl 0 rfl) ?_
      refine gf_X8_basis X hK hP tl_X8_60 dX8_rules_13 ?_
      refine gf_X0_rules X hK hP tl_X8_168 dX8_rules_16 ?_
      refine lv_topi (fun x2_3 e2_3 => ?_)
      have h := h x2_3 e2_3
      refine lv_istore_n (lv' := [(2, .int x2_3), (0, .ref (G.1 + 0)), (1, .int x1)]) X.1 X.2.1 dX8_rules_19 rfl hl (by decide) rfl (fun ls hl => ?_)
      refine lv_aload_n X.1 X.2.1 dX8_rules_20 rfl (lv_at hl 1 rfl) ?_
      refine gf_X8_basis X hK hP tl_X8_60 dX8_rules_21 ?_
      refine lv_iload_n X.1 X.2.1 dX8_rules_24 rfl (lv_at hl 2 rfl) ?_
      refine pf_X0_rules X hK hP hS tl_X8_168 dX8_rules_25 (fun S_4 H locs eS_4 hP hS => ?_)
      have h := h S_4 eS_4
      refine lv_iload_n X.1 X.2.1 dX8_rules_28 rfl (lv_at hl 0 rfl) ?_
      exact q_iret X hr hlocks hP hS rfl h dX8_rules_29
    · have h := h.2 c_2
      exact B9 S _ (lv_sub hl [] rfl) h _ _ hP hS

set_option maxHeartbeats 4000000 in
set_option maxRecDepth 100000 in
theorem c_X8_enter (l : Launch) (G : Cx) (x1 : Int32) (S : St) (K : Int32 → St → Prop) (h : w_X8_enter x1 S K) : q_Met l yX8_enter cX8_enter 3 (some .int) 4 91 G [.ref (G.1 + 0), .int x1] v_i S K := by
  refine q_enter (by decide +kernel) (Nat.le_of_ble_eq_true rfl) (fun p e s m args below meth c ls X hK hP hr hlocks hl => ?_)
  have hS : va_S (fr_ G) s.heap s.heap [] := va_S.rf
  have hl : lv_has ls 3 [(0, .ref (G.1 + 0)), (1, .int x1)] := hl
  have B17 : ∀ (S : St) (ls : Array Slot), lv_has ls 3 [] → w_X8_enter_17 x1 K S → q_W p l e (k2_rm 4 91) s m args below meth c 0 0 (MQ below (q_Qc G K v_i) args s 0 0 (fr_ G)) G 17 ls [] S := by
    intro S ls hl h H locs hP hS
    refine lv_bipush (v := (-2)) X.1 X.2.1 dX8_enter_17 (by decide) ?_
    exact q_iret X hr hlocks hP hS rfl h dX8_enter_19
  refine lv_aload_n X.1 X.2.1 dX8_enter_0 rfl (lv_at hl 0 rfl) ?_
  refine lv_iload_n X.1 X.2.1 dX8_enter_1 rfl (lv_at hl 1 rfl) ?_
  refine q_callV (rest := []) (b := 0) X hK hP hS (c_X8_polyAt l G x1 S _ h) my_X8_polyAt tl_X8_121 dX8_enter_2 kz_0 rfl rfl rfl ⟨Nat.le_of_ble_eq_true rfl, Nat.le_of_ble_eq_true rfl⟩ hl.1 rfl (Nat.le_of_ble_eq_true rfl) ⟨Nat.le_of_ble_eq_true rfl, Nat.le_of_ble_eq_true rfl⟩ (fun r_2 S_1 H locs h hP hS => ?_)
  rcases r_2 with _ | q_3
  · have h := h.1 rfl
    refine W.eq (g2 := F0 m 5 ls [.null]) rfl ?_
    refine lv_astore_nN (lv' := [(2, .null), (0, .ref (G.1 + 0)), (1, .int x1)]) X.1 X.2.1 dX8_enter_5 rfl hl (by decide) rfl (fun ls hl => ?_)
    refine lv_aload_nN X.1 X.2.1 dX8_enter_6 rfl (lv_at hl 0 rfl) ?_
    refine lv_ifnullN (tgt := 17) X.1 X.2.1 dX8_enter_7 (by decide) ?_
    exact B17 S_1 _ (lv_sub hl [] rfl) h _ _ hP hS
  · have h := h.2 q_3 rfl
    refine W.eq (g2 := F0 m 5 ls [.ref (G.1 + q_3)]) rfl ?_
    refine lv_astore_n (lv' := [(2, .ref (G.1 + q_3)), (0, .ref (G.1 + 0)), (1, .int x1)]) X.1 X.2.1 dX8_enter_5 rfl hl (by decide) rfl (fun ls hl => ?_)
    refine lv_aload_n X.1 X.2.1 dX8_enter_6 rfl (lv_at hl 0 rfl) ?_
    refine lv_ifnull X.1 X.2.1 dX8_enter_7 ?_
    refine lv_aload_n X.1 X.2.1 dX8_enter_10 rfl (lv_at hl 0 rfl) ?_
    obtain ⟨o_4, h⟩ := h
    refine gf_X3_size X hK hP o_4 tl_X8_108 dX8_enter_11 ?_
    refine lv_if_ne (tgt := 20) X.1 X.2.1 dX8_enter_14 (by decide) (fun c_5 => ?_) (fun c_5 => ?_)
    · have h := h.1 c_5
      refine lv_aload_n X.1 X.2.1 dX8_enter_20 rfl (lv_at hl 1 rfl) ?_
      refine gf_X8_basis X hK hP tl_X8_60 dX8_enter_21 ?_
      refine q_callV (rest := []) (b := 104) X hK hP hS (c_X0_isFull l G S_1 _ h) my_X0_isFull tl_X8_171 dX8_enter_24 kz_104 rfl rfl rfl ⟨Nat.le_of_ble_eq_true rfl, Nat.le_of_ble_eq_true rfl⟩ hl.1 rfl (Nat.le_of_ble_eq_true rfl) ⟨Nat.le_of_ble_eq_true rfl, Nat.le_of_ble_eq_true rfl⟩ (fun r_7 S_6 H locs h hP hS => ?_)
      refine W.eq (g2 := F0 m 27 ls [.int r_7]) rfl ?_
      refine lv_if_eq (tgt := 33) X.1 X.2.1 dX8_enter_27 (by decide) (fun c_8 => ?_) (fun c_8 => ?_)
      · have h := h.1 c_8
        refine lv_aload_n X.1 X.2.1 dX8_enter_33 rfl (lv_at hl 1 rfl) ?_
        refine gf_X8_basis X hK hP tl_X8_60 dX8_enter_34 ?_
        refine lv_iconst (v := 0) X.1 X.2.1 dX8_enter_37 (by decide) ?_
        refine pf_X0_isTidy X hK hP hS ⟨rfl, rfl⟩ tl_X8_172 dX8_enter_38 (fun S_9 H locs eS_9 hP hS => ?_)
        have h := h S_9 eS_9
        refine lv_aload_n X.1 X.2.1 dX8_enter_41 rfl (lv_at hl 1 rfl) ?_
        refine gf_X8_basis X hK hP tl_X8_60 dX8_enter_42 ?_
        refine lv_aload_n X.1 X.2.1 dX8_enter_45 rfl (lv_at hl 0 rfl) ?_
        refine q_callV (rest := []) (b := 104) X hK hP hS (c_X0_take l G q_3 S_9 _ o_4 h) my_X0_take tl_X8_176 dX8_enter_46 kz_104 rfl rfl rfl ⟨Nat.le_of_ble_eq_true rfl, Nat.le_of_ble_eq_true rfl⟩ hl.1 rfl (Nat.le_of_ble_eq_true rfl) ⟨Nat.le_of_ble_eq_true rfl, Nat.le_of_ble_eq_true rfl⟩ (fun r_11 S_10 H locs h hP hS => ?_)
        refine W.eq (g2 := F0 m 49 ls [.int r_11]) rfl ?_
        exact q_iret X hr hlocks hP hS rfl h dX8_enter_49
      · have h := h.2 c_8
        refine lv_bipush (v := (-4)) X.1 X.2.1 dX8_enter_30 (by decide) ?_
        exact q_iret X hr hlocks hP hS rfl h dX8_enter_32
    · have h := h.2 c_5
      exact B17 S_1 _ (lv_sub hl [] rfl) h _ _ hP hS

set_option maxHeartbeats 4000000 in
set_option maxRecDepth 100000 in
theorem c_X8_clear (l : Launch) (G : Cx) (S : St) (K : Int32 → St → Prop) (h : w_X8_clear S K) : q_Met l yX8_clear cX8_clear 1 (some .int) 1 21 G [.ref (G.1 + 0)] v_i S K := by
  refine q_enter (by decide +kernel) (Nat.le_of_ble_eq_true rfl) (fun p e s m args below meth c ls X hK hP hr hlocks hl => ?_)
  have hS : va_S (fr_ G) s.heap s.heap [] := va_S.rf
  have hl : lv_has ls 1 [(0, .ref (G.1 + 0))] := hl
  refine lv_aload_n X.1 X.2.1 dX8_clear_0 rfl (lv_at hl 0 rfl) ?_
  refine gf_X8_basis X hK hP tl_X8_60 dX8_clear_1 ?_
  refine q_callV (rest := []) (b := 104) X hK hP hS (c_X0_empty l G S _ h) my_X0_empty tl_X8_179 dX8_clear_4 kz_104 rfl rfl rfl ⟨Nat.le_of_ble_eq_true rfl, Nat.le_of_ble_eq_true rfl⟩ hl.1 rfl (Nat.le_of_ble_eq_true rfl) ⟨Nat.le_of_ble_eq_true rfl, Nat.le_of_ble_eq_true rfl⟩ (fun r_2 S_1 H locs h hP hS => ?_)
  refine W.eq (g2 := F0 m 7 ls [.int r_2]) rfl ?_
  exact q_iret X hr hlocks hP hS rfl h dX8_clear_7

set_option maxHeartbeats 4000000 in
set_option maxRecDepth 100000 in
theorem c_X8_work (l : Launch) (G : Cx) (x1 : Int32) (S : St) (K : Int32 → St → Prop) (h : w_X8_work x1 S K) : q_Met l yX8_work cX8_work 4 (some .int) 7 169 G [.ref (G.1 + 0), .int x1] v_i S K := by
  refine q_enter (by decide +kernel) (Nat.le_of_ble_eq_true rfl) (fun p e s m args below meth c ls X hK hP hr hlocks hl => ?_)
  have hS : va_S (fr_ G) s.heap s.heap [] := va_S.rf
  have hl : lv_has ls 4 [(0, .ref (G.1 + 0)), (1, .int x1)] := hl
  have B12 : ∀ (S : St) (ls : Array Slot), lv_has ls 4 [] → w_X8_work_12 x1 K S → q_W p l e (k2_rm 7 169) s m args below meth c 0 0 (MQ below (q_Qc G K v_i) args s 0 0 (fr_ G)) G 12 ls [] S := by
    intro S ls hl h H locs hP hS
    refine lv_bipush (v := (-2)) X.1 X.2.1 dX8_work_12 (by decide) ?_
    exact q_iret X hr hlocks hP hS rfl h dX8_work_14
  have B62 : ∀ (x2 : Int32) (S : St) (ls : Array Slot), lv_has ls 4 [(2, .int x2)] → w_X8_work_62 x1 K x2 S → q_W p l e (k2_rm 7 169) s m args below meth c 0 0 (MQ below (q_Qc G K v_i) args s 0 0 (fr_ G)) G 62 ls [] S := by
    intro x2 S ls hl h H locs hP hS
    refine lv_iload_n X.1 X.2.1 dX8_work_62 rfl (lv_at hl 0 rfl) ?_
    exact q_iret X hr hlocks hP hS rfl h dX8_work_63
  have B24 : ∀ (f : Nat) (x2 : Int32) (S : St) (ls : Array Slot), lv_has ls 4 [(0, .ref (G.1 + 0)), (1, .int x1), (2, .int x2)] → q_it (fun _ _ => False) (w_X8_work_24 x1 K) f x2 S → q_W p l e (k2_rm 7 169) s m args below meth c 0 0 (MQ below (q_Qc G K v_i) args s 0 0 (fr_ G)) G 24 ls [] S := by
    intro f
    induction f with
    | zero => intro x2 S ls hl h; exact False.elim h
    | succ f hk24 =>
      intro x2 S ls hl h H locs hP hS
      have h : w_X8_work_24 x1 K (q_it (fun _ _ => False) (w_X8_work_24 x1 K) f) x2 S := h
      generalize q_it (fun _ _ => False) (w_X8_work_24 x1 K) f = k24 at h hk24
      refine lv_iload_n X.1 X.2.1 dX8_work_24 rfl (lv_at hl 2 rfl) ?_
      refine lv_iload_n X.1 X.2.1 dX8_work_25 rfl (lv_at hl 1 rfl) ?_
      refine lv_icmp_ge (tgt := 62) X.1 X.2.1 dX8_work_26 (by decide) (fun c_1 => ?_) (fun c_1 => ?_)
      · have h := h.1 c_1
        exact B62 x2 S _ (lv_sub hl [2] rfl) h _ _ hP hS
      · have h := h.2 c_1
        refine lv_aload_n X.1 X.2.1 dX8_work_29 rfl (lv_at hl 0 rfl) ?_
        refine gf_X8_basis X hK hP tl_X8_60 dX8_work_30 ?_
        refine gf_X0_pairs X hK hP tl_X8_186 dX8_work_33 ?_
        refine gf_X2_size X hK hP tl_X8_190 dX8_work_36 ?_
        refine lv_if_le (tgt := 62) X.1 X.2.1 dX8_work_39 (by decide) (fun c_2 => ?_) (fun c_2 => ?_)
        · have h := h.1 c_2
          exact B62 x2 S _ (lv_sub hl [2] rfl) h _ _ hP hS
        · have h := h.2 c_2
          refine lv_aload_n X.1 X.2.1 dX8_work_42 rfl (lv_at hl 0 rfl) ?_
          refine gf_X8_basis X hK hP tl_X8_60 dX8_work_43 ?_
          refine q_callV (rest := []) (b := 104) X hK hP hS (c_X0_workNext l G S _ h) my_X0_workNext tl_X8_193 dX8_work_46 kz_104 rfl rfl rfl ⟨Nat.le_of_ble_eq_true rfl, Nat.le_of_ble_eq_true rfl⟩ hl.1 rfl (Nat.le_of_ble_eq_true rfl) ⟨Nat.le_of_ble_eq_true rfl, Nat.le_of_ble_eq_true rfl⟩ (fun r_4 S_3 H locs h hP hS => ?_)
          refine W.eq (g2 := F0 m 49 ls [.int r_4]) rfl ?_
          refine lv_istore_n (lv' := [(3, .int r_4), (0, .ref (G.1 + 0)), (1, .int x1), (2, .int x2)]) X.1 X.2.1 dX8_work_49 rfl hl (by decide) rfl (fun ls hl => ?_)
          refine lv_iload_n X.1 X.2.1 dX8_work_50 rfl (lv_at hl 0 rfl) ?_
          refine lv_if_eq (tgt := 56) X.1 X.2.1 dX8_work_51 (by decide) (fun c_5 => ?_) (fun c_5 => ?_)
          · have h := h.1 c_5
            obtain ⟨x2_6, e2_6⟩ : ∃ y : Int32, y = x2 + 1 := ⟨_, rfl⟩
            have h := h x2_6 e2_6
            refine lv_iinc (v := x2_6) (lv' := [(2, .int x2_6), (3, .int r_4), (0, .ref (G.1 + 0)), (1, .int x1)]) X.1 X.2.1 dX8_work_56 hl (k := 3) rfl (by rw [e2_6]; first | rfl | decide) (by decide) rfl (fun ls hl => ?_)
            refine lv_goto (tgt := 24) X.1 X.2.1 dX8_work_59 (by decide) ?_
            exact hk24 x2_6 S_3 _ (lv_sub hl [2, 3, 0] rfl) h _ _ hP hS
          · have h := h.2 c_5
            refine lv_iload_n X.1 X.2.1 dX8_work_54 rfl (lv_at hl 0 rfl) ?_
            exact q_iret X hr hlocks hP hS rfl h dX8_work_55
  refine lv_iload_n X.1 X.2.1 dX8_work_0 rfl (lv_at hl 1 rfl) ?_
  refine lv_iconst (v := 1) X.1 X.2.1 dX8_work_1 (by decide) ?_
  refine lv_icmp_lt (tgt := 12) X.1 X.2.1 dX8_work_2 (by decide) (fun c_1 => ?_) (fun c_1 => ?_)
  · have h := h.1 c_1
    exact B12 S _ (lv_sub hl [] rfl) h _ _ hP hS
  · have h := h.2 c_1
    refine lv_iload_n X.1 X.2.1 dX8_work_5 rfl (lv_at hl 1 rfl) ?_
    refine lv_sipush (v := 200) X.1 X.2.1 dX8_work_6 (by decide) ?_
    refine lv_icmp_le (tgt := 15) X.1 X.2.1 dX8_work_9 (by decide) (fun c_2 => ?_) (fun c_2 => ?_)
    · have h := h.1 c_2
      refine lv_aload_n X.1 X.2.1 dX8_work_15 rfl (lv_at hl 0 rfl) ?_
      refine gf_X8_reducer X hK hP tl_X8_51 dX8_work_16 ?_
      refine q_callV (rest := []) (b := 94) X hK hP hS (c_X4_begin l G S _ h) my_X4_begin tl_X8_183 dX8_work_19 kz_94 rfl rfl rfl ⟨Nat.le_of_ble_eq_true rfl, Nat.le_of_ble_eq_true rfl⟩ hl.1 rfl (Nat.le_of_ble_eq_true rfl) ⟨Nat.le_of_ble_eq_true rfl, Nat.le_of_ble_eq_true rfl⟩ (fun r_4 S_3 H locs h hP hS => ?_)
      refine W.eq (g2 := F0 m 22 ls []) rfl ?_
      refine lv_iconst (v := 0) X.1 X.2.1 dX8_work_22 (by decide) ?_
      refine lv_istore_n (lv' := [(2, .int 0), (0, .ref (G.1 + 0)), (1, .int x1)]) X.1 X.2.1 dX8_work_23 rfl hl (by decide) rfl (fun ls hl => ?_)
      obtain ⟨f_5, h⟩ := h
      exact B24 f_5 0 S_3 _ (lv_sub hl [1, 2, 0] rfl) h _ _ hP hS
    · have h := h.2 c_2
      exact B12 S _ (lv_sub hl [] rfl) h _ _ hP hS

set_option maxHeartbeats 4000000 in
set_option maxRecDepth 100000 in
theorem c_X8_tidy (l : Launch) (G : Cx) (S : St) (K : Int32 → St → Prop) (h : w_X8_tidy S K) : q_Met l yX8_tidy cX8_tidy 1 (some .int) 7 173 G [.ref (G.1 + 0)] v_i S K := by
  refine q_enter (by decide +kernel) (Nat.le_of_ble_eq_true rfl) (fun p e s m args below meth c ls X hK hP hr hlocks hl => ?_)
  have hS : va_S (fr_ G) s.heap s.heap [] := va_S.rf
  have hl : lv_has ls 1 [(0, .ref (G.1 + 0))] := hl
  refine lv_aload_n X.1 X.2.1 dX8_tidy_0 rfl (lv_at hl 0 rfl) ?_
  refine gf_X8_basis X hK hP tl_X8_60 dX8_tidy_1 ?_
  refine gf_X0_pairs X hK hP tl_X8_186 dX8_tidy_4 ?_
  refine gf_X2_size X hK hP tl_X8_190 dX8_tidy_7 ?_
  refine lv_if_le (tgt := 18) X.1 X.2.1 dX8_tidy_10 (by decide) (fun c_1 => ?_) (fun c_1 => ?_)
  · have h := h.1 c_1
    refine lv_aload_n X.1 X.2.1 dX8_tidy_18 rfl (lv_at hl 0 rfl) ?_
    refine gf_X8_basis X hK hP tl_X8_60 dX8_tidy_19 ?_
    refine q_callV (rest := []) (b := 104) X hK hP hS (c_X0_makeTidy l G S _ h) my_X0_makeTidy tl_X8_196 dX8_tidy_22 kz_104 rfl rfl rfl ⟨Nat.le_of_ble_eq_true rfl, Nat.le_of_ble_eq_true rfl⟩ hl.1 rfl (Nat.le_of_ble_eq_true rfl) ⟨Nat.le_of_ble_eq_true rfl, Nat.le_of_ble_eq_true rfl⟩ (fun r_3 S_2 H locs h hP hS => ?_)
    refine W.eq (g2 := F0 m 25 ls [.int r_3]) rfl ?_
    exact q_iret X hr hlocks hP hS rfl h dX8_tidy_25
  · have h := h.2 c_1
    refine lv_bipush (v := (-3)) X.1 X.2.1 dX8_tidy_13 (by decide) ?_
    refine lv_goto (tgt := 25) X.1 X.2.1 dX8_tidy_15 (by decide) ?_
    exact q_iret X hr hlocks hP hS rfl h dX8_tidy_25

set_option maxHeartbeats 4000000 in
set_option maxRecDepth 100000 in
theorem c_X8_left (l : Launch) (G : Cx) (x1 : Int32) (S : St) (K : Int32 → St → Prop) (h : w_X8_left x1 S K) : q_Met l yX8_left cX8_left 4 (some .int) 5 125 G [.ref (G.1 + 0), .int x1] v_i S K := by
  refine q_enter (by decide +kernel) (Nat.le_of_ble_eq_true rfl) (fun p e s m args below meth c ls X hK hP hr hlocks hl => ?_)
  have hS : va_S (fr_ G) s.heap s.heap [] := va_S.rf
  have hl : lv_has ls 4 [(0, .ref (G.1 + 0)), (1, .int x1)] := hl
  refine lv_aload_n X.1 X.2.1 dX8_left_0 rfl (lv_at hl 0 rfl) ?_
  refine lv_iload_n X.1 X.2.1 dX8_left_1 rfl (lv_at hl 1 rfl) ?_
  refine q_callV (rest := []) (b := 0) X hK hP hS (c_X8_polyAt l G x1 S _ h) my_X8_polyAt tl_X8_121 dX8_left_2 kz_0 rfl rfl rfl ⟨Nat.le_of_ble_eq_true rfl, Nat.le_of_ble_eq_true rfl⟩ hl.1 rfl (Nat.le_of_ble_eq_true rfl) ⟨Nat.le_of_ble_eq_true rfl, Nat.le_of_ble_eq_true rfl⟩ (fun r_2 S_1 H locs h hP hS => ?_)
  rcases r_2 with _ | q_3
  · have h := h.1 rfl
    refine W.eq (g2 := F0 m 5 ls [.null]) rfl ?_
    refine lv_astore_nN (lv' := [(2, .null), (0, .ref (G.1 + 0)), (1, .int x1)]) X.1 X.2.1 dX8_left_5 rfl hl (by decide) rfl (fun ls hl => ?_)
    refine lv_aload_nN X.1 X.2.1 dX8_left_6 rfl (lv_at hl 0 rfl) ?_
    refine lv_ifnonnullN X.1 X.2.1 dX8_left_7 ?_
    refine lv_bipush (v := (-2)) X.1 X.2.1 dX8_left_10 (by decide) ?_
    exact q_iret X hr hlocks hP hS rfl h dX8_left_12
  · have h := h.2 q_3 rfl
    refine W.eq (g2 := F0 m 5 ls [.ref (G.1 + q_3)]) rfl ?_
    refine lv_astore_n (lv' := [(2, .ref (G.1 + q_3)), (0, .ref (G.1 + 0)), (1, .int x1)]) X.1 X.2.1 dX8_left_5 rfl hl (by decide) rfl (fun ls hl => ?_)
    refine lv_aload_n X.1 X.2.1 dX8_left_6 rfl (lv_at hl 0 rfl) ?_
    refine lv_ifnonnull (tgt := 13) X.1 X.2.1 dX8_left_7 (by decide) ?_
    refine lv_aload_n X.1 X.2.1 dX8_left_13 rfl (lv_at hl 1 rfl) ?_
    refine gf_X8_reducer X hK hP tl_X8_51 dX8_left_14 ?_
    refine q_callV (rest := []) (b := 94) X hK hP hS (c_X4_begin l G S_1 _ h) my_X4_begin tl_X8_183 dX8_left_17 kz_94 rfl rfl rfl ⟨Nat.le_of_ble_eq_true rfl, Nat.le_of_ble_eq_true rfl⟩ hl.1 rfl (Nat.le_of_ble_eq_true rfl) ⟨Nat.le_of_ble_eq_true rfl, Nat.le_of_ble_eq_true rfl⟩ (fun r_5 S_4 H locs h hP hS => ?_)
    refine W.eq (g2 := F0 m 20 ls []) rfl ?_
    refine lv_aload_n X.1 X.2.1 dX8_left_20 rfl (lv_at hl 1 rfl) ?_
    refine gf_X8_shelf X hK hP tl_X8_42 dX8_left_21 ?_
    refine q_callV (rest := []) (b := 19) X hK hP hS (c_X6_isFull l G S_4 _ h) my_X6_isFull tl_X8_109 dX8_left_24 kz_19 rfl rfl rfl ⟨Nat.le_of_ble_eq_true rfl, Nat.le_of_ble_eq_true rfl⟩ hl.1 rfl (Nat.le_of_ble_eq_true rfl) ⟨Nat.le_of_ble_eq_true rfl, Nat.le_of_ble_eq_true rfl⟩ (fun r_7 S_6 H locs h hP hS => ?_)
    refine W.eq (g2 := F0 m 27 ls [.int r_7]) rfl ?_
    refine lv_if_eq (tgt := 33) X.1 X.2.1 dX8_left_27 (by decide) (fun c_8 => ?_) (fun c_8 => ?_)
    · have h := h.1 c_8
      refine lv_aload_n X.1 X.2.1 dX8_left_33 rfl (lv_at hl 1 rfl) ?_
      refine gf_X8_reducer X hK hP tl_X8_51 dX8_left_34 ?_
      refine lv_aload_n X.1 X.2.1 dX8_left_37 rfl (lv_at hl 0 rfl) ?_
      refine lv_aload_n X.1 X.2.1 dX8_left_38 rfl (lv_at hl 1 rfl) ?_
      refine gf_X8_basis X hK hP tl_X8_60 dX8_left_39 ?_
      refine gf_X0_rows X hK hP tl_X8_199 dX8_left_42 ?_
      refine lv_aload_n X.1 X.2.1 dX8_left_45 rfl (lv_at hl 1 rfl) ?_
      refine gf_X8_basis X hK hP tl_X8_60 dX8_left_46 ?_
      refine gf_X0_size X hK hP tl_X8_73 dX8_left_49 ?_
      refine lv_iconst (v := (-1)) X.1 X.2.1 dX8_left_52 (by decide) ?_
      obtain ⟨o_9, h⟩ := h
      obtain ⟨o_10, h⟩ := h
      refine q_callV (rest := []) (b := 94) X hK hP hS (c_X4_leave l G q_3 (q_rf (S_6 104 3)) (S_6 104 7) (-1) S_6 _ o_9 o_10 h) my_X4_leave tl_X8_203 dX8_left_53 kz_94 rfl rfl rfl ⟨Nat.le_of_ble_eq_true rfl, Nat.le_of_ble_eq_true rfl⟩ hl.1 rfl (Nat.le_of_ble_eq_true rfl) ⟨Nat.le_of_ble_eq_true rfl, Nat.le_of_ble_eq_true rfl⟩ (fun r_12 S_11 H locs h hP hS => ?_)
      refine W.eq (g2 := F0 m 56 ls [.int r_12]) rfl ?_
      refine lv_istore_n (lv' := [(3, .int r_12), (2, .ref (G.1 + q_3)), (0, .ref (G.1 + 0)), (1, .int x1)]) X.1 X.2.1 dX8_left_56 rfl hl (by decide) rfl (fun ls hl => ?_)
      refine lv_iload_n X.1 X.2.1 dX8_left_57 rfl (lv_at hl 0 rfl) ?_
      refine lv_if_eq (tgt := 65) X.1 X.2.1 dX8_left_58 (by decide) (fun c_13 => ?_) (fun c_13 => ?_)
      · have h := h.1 c_13
        refine lv_aload_n X.1 X.2.1 dX8_left_65 rfl (lv_at hl 2 rfl) ?_
        refine gf_X8_shelf X hK hP tl_X8_42 dX8_left_66 ?_
        refine lv_aload_n X.1 X.2.1 dX8_left_69 rfl (lv_at hl 2 rfl) ?_
        refine gf_X8_reducer X hK hP tl_X8_51 dX8_left_70 ?_
        refine gf_X4_r X hK hP tl_X8_207 dX8_left_73 ?_
        refine q_callV (rest := []) (b := 19) X hK hP hS (c_X6_put l G 101 S_11 _ kz_101 h) my_X6_put tl_X8_113 dX8_left_76 kz_19 rfl rfl rfl ⟨Nat.le_of_ble_eq_true rfl, Nat.le_of_ble_eq_true rfl⟩ hl.1 rfl (Nat.le_of_ble_eq_true rfl) ⟨Nat.le_of_ble_eq_true rfl, Nat.le_of_ble_eq_true rfl⟩ (fun r_15 S_14 H locs h hP hS => ?_)
        refine W.eq (g2 := F0 m 79 ls [.int r_15]) rfl ?_
        exact q_iret X hr hlocks hP hS rfl h dX8_left_79
      · have h := h.2 c_13
        refine lv_iload_n X.1 X.2.1 dX8_left_61 rfl (lv_at hl 0 rfl) ?_
        refine lv_goto (tgt := 79) X.1 X.2.1 dX8_left_62 (by decide) ?_
        exact q_iret X hr hlocks hP hS rfl h dX8_left_79
    · have h := h.2 c_8
      refine lv_bipush (v := (-4)) X.1 X.2.1 dX8_left_30 (by decide) ?_
      exact q_iret X hr hlocks hP hS rfl h dX8_left_32

set_option maxHeartbeats 4000000 in
set_option maxRecDepth 100000 in
theorem c_X8_member (l : Launch) (G : Cx) (x1 : Int32) (S : St) (K : Int32 → St → Prop) (h : w_X8_member x1 S K) : q_Met l yX8_member cX8_member 4 (some .int) 5 125 G [.ref (G.1 + 0), .int x1] v_i S K := by
  refine q_enter (by decide +kernel) (Nat.le_of_ble_eq_true rfl) (fun p e s m args below meth c ls X hK hP hr hlocks hl => ?_)
  have hS : va_S (fr_ G) s.heap s.heap [] := va_S.rf
  have hl : lv_has ls 4 [(0, .ref (G.1 + 0)), (1, .int x1)] := hl
  refine lv_aload_n X.1 X.2.1 dX8_member_0 rfl (lv_at hl 0 rfl) ?_
  refine lv_iload_n X.1 X.2.1 dX8_member_1 rfl (lv_at hl 1 rfl) ?_
  refine q_callV (rest := []) (b := 0) X hK hP hS (c_X8_polyAt l G x1 S _ h) my_X8_polyAt tl_X8_121 dX8_member_2 kz_0 rfl rfl rfl ⟨Nat.le_of_ble_eq_true rfl, Nat.le_of_ble_eq_true rfl⟩ hl.1 rfl (Nat.le_of_ble_eq_true rfl) ⟨Nat.le_of_ble_eq_true rfl, Nat.le_of_ble_eq_true rfl⟩ (fun r_2 S_1 H locs h hP hS => ?_)
  rcases r_2 with _ | q_3
  · have h := h.1 rfl
    refine W.eq (g2 := F0 m 5 ls [.null]) rfl ?_
    refine lv_astore_nN (lv' := [(2, .null), (0, .ref (G.1 + 0)), (1, .int x1)]) X.1 X.2.1 dX8_member_5 rfl hl (by decide) rfl (fun ls hl => ?_)
    refine lv_aload_nN X.1 X.2.1 dX8_member_6 rfl (lv_at hl 0 rfl) ?_
    refine lv_ifnonnullN X.1 X.2.1 dX8_member_7 ?_
    refine lv_bipush (v := (-2)) X.1 X.2.1 dX8_member_10 (by decide) ?_
    exact q_iret X hr hlocks hP hS rfl h dX8_member_12
  · have h := h.2 q_3 rfl
    refine W.eq (g2 := F0 m 5 ls [.ref (G.1 + q_3)]) rfl ?_
    refine lv_astore_n (lv' := [(2, .ref (G.1 + q_3)), (0, .ref (G.1 + 0)), (1, .int x1)]) X.1 X.2.1 dX8_member_5 rfl hl (by decide) rfl (fun ls hl => ?_)
    refine lv_aload_n X.1 X.2.1 dX8_member_6 rfl (lv_at hl 0 rfl) ?_
    refine lv_ifnonnull (tgt := 13) X.1 X.2.1 dX8_member_7 (by decide) ?_
    refine lv_aload_n X.1 X.2.1 dX8_member_13 rfl (lv_at hl 1 rfl) ?_
    refine gf_X8_basis X hK hP tl_X8_60 dX8_member_14 ?_
    refine gf_X0_isTidy X hK hP tl_X8_172 dX8_member_17 ?_
    refine lv_if_ne (tgt := 26) X.1 X.2.1 dX8_member_20 (by decide) (fun c_4 => ?_) (fun c_4 => ?_)
    · have h := h.1 c_4
      refine lv_aload_n X.1 X.2.1 dX8_member_26 rfl (lv_at hl 1 rfl) ?_
      refine gf_X8_reducer X hK hP tl_X8_51 dX8_member_27 ?_
      refine q_callV (rest := []) (b := 94) X hK hP hS (c_X4_begin l G S_1 _ h) my_X4_begin tl_X8_183 dX8_member_30 kz_94 rfl rfl rfl ⟨Nat.le_of_ble_eq_true rfl, Nat.le_of_ble_eq_true rfl⟩ hl.1 rfl (Nat.le_of_ble_eq_true rfl) ⟨Nat.le_of_ble_eq_true rfl, Nat.le_of_ble_eq_true rfl⟩ (fun r_6 S_5 H locs h hP hS => ?_)
      refine W.eq (g2 := F0 m 33 ls []) rfl ?_
      refine lv_aload_n X.1 X.2.1 dX8_member_33 rfl (lv_at hl 1 rfl) ?_
      refine gf_X8_reducer X hK hP tl_X8_51 dX8_member_34 ?_
      refine lv_aload_n X.1 X.2.1 dX8_member_37 rfl (lv_at hl 0 rfl) ?_
      refine lv_aload_n X.1 X.2.1 dX8_member_38 rfl (lv_at hl 1 rfl) ?_
      refine gf_X8_basis X hK hP tl_X8_60 dX8_member_39 ?_
      refine gf_X0_rows X hK hP tl_X8_199 dX8_member_42 ?_
      refine lv_aload_n X.1 X.2.1 dX8_member_45 rfl (lv_at hl 1 rfl) ?_
      refine gf_X8_basis X hK hP tl_X8_60 dX8_member_46 ?_
      refine gf_X0_size X hK hP tl_X8_73 dX8_member_49 ?_
      refine lv_iconst (v := (-1)) X.1 X.2.1 dX8_member_52 (by decide) ?_
      obtain ⟨o_7, h⟩ := h
      obtain ⟨o_8, h⟩ := h
      refine q_callV (rest := []) (b := 94) X hK hP hS (c_X4_leave l G q_3 (q_rf (S_5 104 3)) (S_5 104 7) (-1) S_5 _ o_7 o_8 h) my_X4_leave tl_X8_203 dX8_member_53 kz_94 rfl rfl rfl ⟨Nat.le_of_ble_eq_true rfl, Nat.le_of_ble_eq_true rfl⟩ hl.1 rfl (Nat.le_of_ble_eq_true rfl) ⟨Nat.le_of_ble_eq_true rfl, Nat.le_of_ble_eq_true rfl⟩ (fun r_10 S_9 H locs h hP hS => ?_)
      refine W.eq (g2 := F0 m 56 ls [.int r_10]) rfl ?_
      refine lv_istore_n (lv' := [(3, .int r_10), (2, .ref (G.1 + q_3)), (0, .ref (G.1 + 0)), (1, .int x1)]) X.1 X.2.1 dX8_member_56 rfl hl (by decide) rfl (fun ls hl => ?_)
      refine lv_iload_n X.1 X.2.1 dX8_member_57 rfl (lv_at hl 0 rfl) ?_
      refine lv_if_eq (tgt := 63) X.1 X.2.1 dX8_member_58 (by decide) (fun c_11 => ?_) (fun c_11 => ?_)
      · have h := h.1 c_11
        refine lv_aload_n X.1 X.2.1 dX8_member_63 rfl (lv_at hl 2 rfl) ?_
        refine gf_X8_reducer X hK hP tl_X8_51 dX8_member_64 ?_
        refine gf_X4_r X hK hP tl_X8_207 dX8_member_67 ?_
        refine gf_X3_size X hK hP kz_101 tl_X8_108 dX8_member_70 ?_
        refine lv_if_ne (tgt := 80) X.1 X.2.1 dX8_member_73 (by decide) (fun c_12 => ?_) (fun c_12 => ?_)
        · have h := h.1 c_12
          refine lv_iconst (v := 0) X.1 X.2.1 dX8_member_80 (by decide) ?_
          exact q_iret X hr hlocks hP hS rfl h dX8_member_81
        · have h := h.2 c_12
          refine lv_iconst (v := 1) X.1 X.2.1 dX8_member_76 (by decide) ?_
          refine lv_goto (tgt := 81) X.1 X.2.1 dX8_member_77 (by decide) ?_
          exact q_iret X hr hlocks hP hS rfl h dX8_member_81
      · have h := h.2 c_11
        refine lv_iload_n X.1 X.2.1 dX8_member_61 rfl (lv_at hl 0 rfl) ?_
        exact q_iret X hr hlocks hP hS rfl h dX8_member_62
    · have h := h.2 c_4
      refine lv_bipush (v := (-3)) X.1 X.2.1 dX8_member_23 (by decide) ?_
      exact q_iret X hr hlocks hP hS rfl h dX8_member_25

set_option maxHeartbeats 4000000 in
set_option maxRecDepth 100000 in
theorem c_X8_pair (l : Launch) (G : Cx) (x1 : Int32) (S : St) (K : Int32 → St → Prop) (h : w_X8_pair x1 S K) : q_Met l yX8_pair cX8_pair 3 (some .int) 0 0 G [.ref (G.1 + 0), .int x1] v_i S K := by
  refine q_enter (by decide +kernel) (Nat.le_of_ble_eq_true rfl) (fun p e s m args below meth c ls X hK hP hr hlocks hl => ?_)
  have hS : va_S (fr_ G) s.heap s.heap [] := va_S.rf
  have hl : lv_has ls 3 [(0, .ref (G.1 + 0)), (1, .int x1)] := hl
  have B20 : ∀ (S : St) (ls : Array Slot), lv_has ls 3 [] → w_X8_pair_20 x1 K S → q_W p l e (k2_rm 0 0) s m args below meth c 0 0 (MQ below (q_Qc G K v_i) args s 0 0 (fr_ G)) G 20 ls [] S := by
    intro S ls hl h H locs hP hS
    refine lv_iconst (v := (-1)) X.1 X.2.1 dX8_pair_20 (by decide) ?_
    refine lv_goto (tgt := 40) X.1 X.2.1 dX8_pair_21 (by decide) ?_
    exact q_iret X hr hlocks hP hS rfl h dX8_pair_40
  refine lv_aload_n X.1 X.2.1 dX8_pair_0 rfl (lv_at hl 0 rfl) ?_
  refine gf_X8_basis X hK hP tl_X8_60 dX8_pair_1 ?_
  refine gf_X0_pairs X hK hP tl_X8_186 dX8_pair_4 ?_
  refine lv_astore_n (lv' := [(2, .ref (G.1 + 105)), (0, .ref (G.1 + 0)), (1, .int x1)]) X.1 X.2.1 dX8_pair_7 rfl hl (by decide) rfl (fun ls hl => ?_)
  refine lv_iload_n X.1 X.2.1 dX8_pair_8 rfl (lv_at hl 2 rfl) ?_
  refine lv_if_lt (tgt := 20) X.1 X.2.1 dX8_pair_9 (by decide) (fun c_1 => ?_) (fun c_1 => ?_)
  · have h := h.1 c_1
    exact B20 S _ (lv_sub hl [] rfl) h _ _ hP hS
  · have h := h.2 c_1
    refine lv_iload_n X.1 X.2.1 dX8_pair_12 rfl (lv_at hl 2 rfl) ?_
    refine lv_aload_n X.1 X.2.1 dX8_pair_13 rfl (lv_at hl 0 rfl) ?_
    refine gf_X2_size X hK hP tl_X8_190 dX8_pair_14 ?_
    refine lv_icmp_lt (tgt := 24) X.1 X.2.1 dX8_pair_17 (by decide) (fun c_2 => ?_) (fun c_2 => ?_)
    · have h := h.1 c_2
      refine lv_bipush (v := 100) X.1 X.2.1 dX8_pair_24 (by decide) ?_
      refine lv_aload_n X.1 X.2.1 dX8_pair_26 rfl (lv_at hl 0 rfl) ?_
      refine gf_X2_firsts X hK hP tl_X8_210 dX8_pair_27 ?_
      refine lv_iload_n X.1 X.2.1 dX8_pair_30 rfl (lv_at hl 2 rfl) ?_
      obtain ⟨o_3, h⟩ := h
      refine q_iald X hK hP kz_106 o_3 dX8_pair_31 ?_
      refine lv_imul X.1 X.2.1 dX8_pair_32 ?_
      refine lv_aload_n X.1 X.2.1 dX8_pair_33 rfl (lv_at hl 0 rfl) ?_
      refine gf_X2_seconds X hK hP tl_X8_213 dX8_pair_34 ?_
      refine lv_iload_n X.1 X.2.1 dX8_pair_37 rfl (lv_at hl 2 rfl) ?_
      refine q_iald X hK hP kz_107 o_3 dX8_pair_38 ?_
      refine lv_iadd X.1 X.2.1 dX8_pair_39 ?_
      exact q_iret X hr hlocks hP hS rfl h dX8_pair_40
    · have h := h.2 c_2
      exact B20 S _ (lv_sub hl [] rfl) h _ _ hP hS

set_option maxHeartbeats 4000000 in
set_option maxRecDepth 100000 in
theorem c_X8_standing (l : Launch) (G : Cx) (S : St) (K : Int32 → St → Prop) (h : w_X8_standing S K) : q_Met l yX8_standing cX8_standing 1 (some .int) 4 88 G [.ref (G.1 + 0)] v_i S K := by
  refine q_enter (by decide +kernel) (Nat.le_of_ble_eq_true rfl) (fun p e s m args below meth c ls X hK hP hr hlocks hl => ?_)
  have hS : va_S (fr_ G) s.heap s.heap [] := va_S.rf
  have hl : lv_has ls 1 [(0, .ref (G.1 + 0))] := hl
  refine lv_aload_n X.1 X.2.1 dX8_standing_0 rfl (lv_at hl 0 rfl) ?_
  refine gf_X8_basis X hK hP tl_X8_60 dX8_standing_1 ?_
  refine gf_X0_isTidy X hK hP tl_X8_172 dX8_standing_4 ?_
  refine lv_if_eq (tgt := 20) X.1 X.2.1 dX8_standing_7 (by decide) (fun c_1 => ?_) (fun c_1 => ?_)
  · have h := h.1 c_1
    refine lv_bipush (v := (-3)) X.1 X.2.1 dX8_standing_20 (by decide) ?_
    exact q_iret X hr hlocks hP hS rfl h dX8_standing_22
  · have h := h.2 c_1
    refine lv_aload_n X.1 X.2.1 dX8_standing_10 rfl (lv_at hl 0 rfl) ?_
    refine gf_X8_stair X hK hP tl_X8_69 dX8_standing_11 ?_
    refine q_callV (rest := []) (b := 222) X hK hP hS (c_X7_find l G S _ h) my_X7_find tl_X8_216 dX8_standing_14 kz_222 rfl rfl rfl ⟨Nat.le_of_ble_eq_true rfl, Nat.le_of_ble_eq_true rfl⟩ hl.1 rfl (Nat.le_of_ble_eq_true rfl) ⟨Nat.le_of_ble_eq_true rfl, Nat.le_of_ble_eq_true rfl⟩ (fun r_3 S_2 H locs h hP hS => ?_)
    refine W.eq (g2 := F0 m 17 ls [.int r_3]) rfl ?_
    refine lv_goto (tgt := 22) X.1 X.2.1 dX8_standing_17 (by decide) ?_
    exact q_iret X hr hlocks hP hS rfl h dX8_standing_22

set_option maxHeartbeats 4000000 in
set_option maxRecDepth 100000 in
theorem c_X8_stands (l : Launch) (G : Cx) (x1 : Int32) (x2 : Int32) (S : St) (K : Int32 → St → Prop) (h : w_X8_stands x1 x2 S K) : q_Met l yX8_stands cX8_stands 4 (some .int) 4 88 G [.ref (G.1 + 0), .int x1, .int x2] v_i S K := by
  refine q_enter (by decide +kernel) (Nat.le_of_ble_eq_true rfl) (fun p e s m args below meth c ls X hK hP hr hlocks hl => ?_)
  have hS : va_S (fr_ G) s.heap s.heap [] := va_S.rf
  have hl : lv_has ls 4 [(0, .ref (G.1 + 0)), (1, .int x1), (2, .int x2)] := hl
  have B41 : ∀ (S : St) (ls : Array Slot), lv_has ls 4 [] → w_X8_stands_41 x1 x2 K S → q_W p l e (k2_rm 4 88) s m args below meth c 0 0 (MQ below (q_Qc G K v_i) args s 0 0 (fr_ G)) G 41 ls [] S := by
    intro S ls hl h H locs hP hS
    refine lv_bipush (v := (-2)) X.1 X.2.1 dX8_stands_41 (by decide) ?_
    refine lv_goto (tgt := 59) X.1 X.2.1 dX8_stands_43 (by decide) ?_
    exact q_iret X hr hlocks hP hS rfl h dX8_stands_59
  refine lv_aload_n X.1 X.2.1 dX8_stands_0 rfl (lv_at hl 0 rfl) ?_
  refine gf_X8_basis X hK hP tl_X8_60 dX8_stands_1 ?_
  refine gf_X0_isTidy X hK hP tl_X8_172 dX8_stands_4 ?_
  refine lv_if_ne (tgt := 13) X.1 X.2.1 dX8_stands_7 (by decide) (fun c_1 => ?_) (fun c_1 => ?_)
  · have h := h.1 c_1
    refine lv_aload_n X.1 X.2.1 dX8_stands_13 rfl (lv_at hl 0 rfl) ?_
    refine gf_X8_stair X hK hP tl_X8_69 dX8_stands_14 ?_
    refine q_callV (rest := []) (b := 222) X hK hP hS (c_X7_find l G S _ h) my_X7_find tl_X8_216 dX8_stands_17 kz_222 rfl rfl rfl ⟨Nat.le_of_ble_eq_true rfl, Nat.le_of_ble_eq_true rfl⟩ hl.1 rfl (Nat.le_of_ble_eq_true rfl) ⟨Nat.le_of_ble_eq_true rfl, Nat.le_of_ble_eq_true rfl⟩ (fun r_3 S_2 H locs h hP hS => ?_)
    refine W.eq (g2 := F0 m 20 ls [.int r_3]) rfl ?_
    refine lv_istore_n (lv' := [(3, .int r_3), (0, .ref (G.1 + 0)), (1, .int x1), (2, .int x2)]) X.1 X.2.1 dX8_stands_20 rfl hl (by decide) rfl (fun ls hl => ?_)
    refine lv_iload_n X.1 X.2.1 dX8_stands_21 rfl (lv_at hl 2 rfl) ?_
    refine lv_if_lt (tgt := 41) X.1 X.2.1 dX8_stands_22 (by decide) (fun c_4 => ?_) (fun c_4 => ?_)
    · have h := h.1 c_4
      exact B41 S_2 _ (lv_sub hl [] rfl) h _ _ hP hS
    · have h := h.2 c_4
      refine lv_iload_n X.1 X.2.1 dX8_stands_25 rfl (lv_at hl 2 rfl) ?_
      refine lv_iload_n X.1 X.2.1 dX8_stands_26 rfl (lv_at hl 0 rfl) ?_
      refine lv_icmp_ge (tgt := 41) X.1 X.2.1 dX8_stands_27 (by decide) (fun c_5 => ?_) (fun c_5 => ?_)
      · have h := h.1 c_5
        exact B41 S_2 _ (lv_sub hl [] rfl) h _ _ hP hS
      · have h := h.2 c_5
        refine lv_aload_n X.1 X.2.1 dX8_stands_30 rfl (lv_at hl 1 rfl) ?_
        refine gf_X8_ring X hK hP tl_X8_18 dX8_stands_31 ?_
        refine lv_iload_n X.1 X.2.1 dX8_stands_34 rfl (lv_at hl 3 rfl) ?_
        refine q_callV (rest := []) (b := 1) X hK hP hS (c_X5_hasVariable l G x2 S_2 _ h) my_X5_hasVariable tl_X8_128 dX8_stands_35 kz_1 rfl rfl rfl ⟨Nat.le_of_ble_eq_true rfl, Nat.le_of_ble_eq_true rfl⟩ hl.1 rfl (Nat.le_of_ble_eq_true rfl) ⟨Nat.le_of_ble_eq_true rfl, Nat.le_of_ble_eq_true rfl⟩ (fun r_7 S_6 H locs h hP hS => ?_)
        refine W.eq (g2 := F0 m 38 ls [.int r_7]) rfl ?_
        refine lv_if_ne (tgt := 46) X.1 X.2.1 dX8_stands_38 (by decide) (fun c_8 => ?_) (fun c_8 => ?_)
        · have h := h.1 c_8
          refine lv_aload_n X.1 X.2.1 dX8_stands_46 rfl (lv_at hl 1 rfl) ?_
          refine gf_X8_stair X hK hP tl_X8_69 dX8_stands_47 ?_
          refine gf_X7_monos X hK hP tl_X8_219 dX8_stands_50 ?_
          refine lv_iload_n X.1 X.2.1 dX8_stands_53 rfl (lv_at hl 2 rfl) ?_
          obtain ⟨o_9, h⟩ := h
          refine q_iald X hK hP kz_223 o_9 dX8_stands_54 ?_
          refine lv_iload_n X.1 X.2.1 dX8_stands_55 rfl (lv_at hl 3 rfl) ?_
          refine q_callS (rest := []) X hK hP hS (c_X1_exponentOf l G (S_6 223 (q_rf x1)) x2 S_6 _ h) my_X1_exponentOf tl_X8_134 dX8_stands_56 rfl ⟨Nat.le_of_ble_eq_true rfl, Nat.le_of_ble_eq_true rfl⟩ hl.1 rfl (Nat.le_of_ble_eq_true rfl) ⟨Nat.le_of_ble_eq_true rfl, Nat.le_of_ble_eq_true rfl⟩ (fun r_11 S_10 H locs h hP hS => ?_)
          refine W.eq (g2 := F0 m 59 ls [.int r_11]) rfl ?_
          exact q_iret X hr hlocks hP hS rfl h dX8_stands_59
        · have h := h.2 c_8
          exact B41 S_6 _ (lv_sub hl [] rfl) h _ _ hP hS
  · have h := h.2 c_1
    refine lv_bipush (v := (-3)) X.1 X.2.1 dX8_stands_10 (by decide) ?_
    exact q_iret X hr hlocks hP hS rfl h dX8_stands_12

set_option maxHeartbeats 4000000 in
set_option maxRecDepth 100000 in
theorem c_X8_without (l : Launch) (G : Cx) (x1 : Int32) (S : St) (K : Int32 → St → Prop) (h : w_X8_without x1 S K) : q_Met l yX8_without cX8_without 2 (some .int) 3 67 G [.ref (G.1 + 0), .int x1] v_i S K := by
  refine q_enter (by decide +kernel) (Nat.le_of_ble_eq_true rfl) (fun p e s m args below meth c ls X hK hP hr hlocks hl => ?_)
  have hS : va_S (fr_ G) s.heap s.heap [] := va_S.rf
  have hl : lv_has ls 2 [(0, .ref (G.1 + 0)), (1, .int x1)] := hl
  have B15 : ∀ (S : St) (ls : Array Slot), lv_has ls 2 [] → w_X8_without_15 x1 K S → q_W p l e (k2_rm 3 67) s m args below meth c 0 0 (MQ below (q_Qc G K v_i) args s 0 0 (fr_ G)) G 15 ls [] S := by
    intro S ls hl h H locs hP hS
    refine lv_bipush (v := (-2)) X.1 X.2.1 dX8_without_15 (by decide) ?_
    exact q_iret X hr hlocks hP hS rfl h dX8_without_17
  refine lv_iload_n X.1 X.2.1 dX8_without_0 rfl (lv_at hl 1 rfl) ?_
  refine lv_if_lt (tgt := 15) X.1 X.2.1 dX8_without_1 (by decide) (fun c_1 => ?_) (fun c_1 => ?_)
  · have h := h.1 c_1
    exact B15 S _ (lv_sub hl [] rfl) h _ _ hP hS
  · have h := h.2 c_1
    refine lv_iload_n X.1 X.2.1 dX8_without_4 rfl (lv_at hl 1 rfl) ?_
    refine lv_aload_n X.1 X.2.1 dX8_without_5 rfl (lv_at hl 0 rfl) ?_
    refine gf_X8_ring X hK hP tl_X8_18 dX8_without_6 ?_
    refine gf_X5_n X hK hP tl_X8_220 dX8_without_9 ?_
    refine lv_icmp_le (tgt := 18) X.1 X.2.1 dX8_without_12 (by decide) (fun c_2 => ?_) (fun c_2 => ?_)
    · have h := h.1 c_2
      refine lv_aload_n X.1 X.2.1 dX8_without_18 rfl (lv_at hl 0 rfl) ?_
      refine gf_X8_basis X hK hP tl_X8_60 dX8_without_19 ?_
      refine gf_X0_isTidy X hK hP tl_X8_172 dX8_without_22 ?_
      refine lv_if_eq (tgt := 39) X.1 X.2.1 dX8_without_25 (by decide) (fun c_3 => ?_) (fun c_3 => ?_)
      · have h := h.1 c_3
        refine lv_bipush (v := (-3)) X.1 X.2.1 dX8_without_39 (by decide) ?_
        exact q_iret X hr hlocks hP hS rfl h dX8_without_41
      · have h := h.2 c_3
        refine lv_aload_n X.1 X.2.1 dX8_without_28 rfl (lv_at hl 0 rfl) ?_
        refine gf_X8_basis X hK hP tl_X8_60 dX8_without_29 ?_
        refine lv_iload_n X.1 X.2.1 dX8_without_32 rfl (lv_at hl 1 rfl) ?_
        refine q_callV (rest := []) (b := 104) X hK hP hS (c_X0_countWithoutFirst l G x1 S _ h) my_X0_countWithoutFirst tl_X8_223 dX8_without_33 kz_104 rfl rfl rfl ⟨Nat.le_of_ble_eq_true rfl, Nat.le_of_ble_eq_true rfl⟩ hl.1 rfl (Nat.le_of_ble_eq_true rfl) ⟨Nat.le_of_ble_eq_true rfl, Nat.le_of_ble_eq_true rfl⟩ (fun r_5 S_4 H locs h hP hS => ?_)
        refine W.eq (g2 := F0 m 36 ls [.int r_5]) rfl ?_
        refine lv_goto (tgt := 41) X.1 X.2.1 dX8_without_36 (by decide) ?_
        exact q_iret X hr hlocks hP hS rfl h dX8_without_41
    · have h := h.2 c_2
      exact B15 S _ (lv_sub hl [] rfl) h _ _ hP hS

set_option maxHeartbeats 4000000 in
set_option maxRecDepth 100000 in
theorem c_X8_zeros (l : Launch) (G : Cx) (S : St) (K : Int32 → St → Prop) (h : w_X8_zeros S K) : q_Met l yX8_zeros cX8_zeros 4 (some .int) 4 89 G [.ref (G.1 + 0)] v_i S K := by
  refine q_enter (by decide +kernel) (Nat.le_of_ble_eq_true rfl) (fun p e s m args below meth c ls X hK hP hr hlocks hl => ?_)
  have hS : va_S (fr_ G) s.heap s.heap [] := va_S.rf
  have hl : lv_has ls 4 [(0, .ref (G.1 + 0))] := hl
  have B51 : ∀ (x1 : Int32) (x2 : Int32) (x3 : Int32) (k25 : Int32 → Int32 → St → Prop) (hk25 : ∀ (x2 : Int32) (x3 : Int32) (S : St) (ls : Array Slot), lv_has ls 4 [(0, .ref (G.1 + 0)), (1, .int x1), (2, .int x2), (3, .int x3)] → k25 x2 x3 S → q_W p l e (k2_rm 4 89) s m args below meth c 0 0 (MQ below (q_Qc G K v_i) args s 0 0 (fr_ G)) G 25 ls [] S) (S : St) (ls : Array Slot), lv_has ls 4 [(0, .ref (G.1 + 0)), (1, .int x1), (2, .int x2), (3, .int x3)] → w_X8_zeros_51 K k25 x1 x2 x3 S → q_W p l e (k2_rm 4 89) s m args below meth c 0 0 (MQ below (q_Qc G K v_i) args s 0 0 (fr_ G)) G 51 ls [] S := by
    intro x1 x2 x3 k25 hk25 S ls hl h H locs hP hS
    obtain ⟨x3_1, e3_1⟩ : ∃ y : Int32, y = x3 + 1 := ⟨_, rfl⟩
    have h := h x3_1 e3_1
    refine lv_iinc (v := x3_1) (lv' := [(3, .int x3_1), (0, .ref (G.1 + 0)), (1, .int x1), (2, .int x2)]) X.1 X.2.1 dX8_zeros_51 hl (k := 3) rfl (by rw [e3_1]; first | rfl | decide) (by decide) rfl (fun ls hl => ?_)
    refine lv_goto (tgt := 25) X.1 X.2.1 dX8_zeros_54 (by decide) ?_
    exact hk25 x2 x3_1 S _ (lv_sub hl [1, 2, 3, 0] rfl) h _ _ hP hS
  have B25 : ∀ (x1 : Int32) (f : Nat) (x2 : Int32) (x3 : Int32) (S : St) (ls : Array Slot), lv_has ls 4 [(0, .ref (G.1 + 0)), (1, .int x1), (2, .int x2), (3, .int x3)] → q_it (fun _ _ _ => False) (w_X8_zeros_25 K x1) f x2 x3 S → q_W p l e (k2_rm 4 89) s m args below meth c 0 0 (MQ below (q_Qc G K v_i) args s 0 0 (fr_ G)) G 25 ls [] S := by
    intro x1 f
    induction f with
    | zero => intro x2 x3 S ls hl h; exact False.elim h
    | succ f hk25 =>
      intro x2 x3 S ls hl h H locs hP hS
      have h : w_X8_zeros_25 K x1 (q_it (fun _ _ _ => False) (w_X8_zeros_25 K x1) f) x2 x3 S := h
      generalize q_it (fun _ _ _ => False) (w_X8_zeros_25 K x1) f = k25 at h hk25
      refine lv_iload_n X.1 X.2.1 dX8_zeros_25 rfl (lv_at hl 3 rfl) ?_
      refine lv_iload_n X.1 X.2.1 dX8_zeros_26 rfl (lv_at hl 1 rfl) ?_
      refine lv_icmp_ge (tgt := 57) X.1 X.2.1 dX8_zeros_27 (by decide) (fun c_1 => ?_) (fun c_1 => ?_)
      · have h := h.1 c_1
        refine lv_iload_n X.1 X.2.1 dX8_zeros_57 rfl (lv_at hl 2 rfl) ?_
        exact q_iret X hr hlocks hP hS rfl h dX8_zeros_58
      · have h := h.2 c_1
        refine lv_aload_n X.1 X.2.1 dX8_zeros_30 rfl (lv_at hl 0 rfl) ?_
        refine gf_X8_ring X hK hP tl_X8_18 dX8_zeros_31 ?_
        refine lv_iload_n X.1 X.2.1 dX8_zeros_34 rfl (lv_at hl 3 rfl) ?_
        refine q_callV (rest := []) (b := 1) X hK hP hS (c_X5_setPointNumber l G x3 S _ h) my_X5_setPointNumber tl_X8_229 dX8_zeros_35 kz_1 rfl rfl rfl ⟨Nat.le_of_ble_eq_true rfl, Nat.le_of_ble_eq_true rfl⟩ hl.1 rfl (Nat.le_of_ble_eq_true rfl) ⟨Nat.le_of_ble_eq_true rfl, Nat.le_of_ble_eq_true rfl⟩ (fun r_3 S_2 H locs h hP hS => ?_)
        refine W.eq (g2 := F0 m 38 ls []) rfl ?_
        refine lv_aload_n X.1 X.2.1 dX8_zeros_38 rfl (lv_at hl 0 rfl) ?_
        refine gf_X8_basis X hK hP tl_X8_60 dX8_zeros_39 ?_
        refine q_callV (rest := []) (b := 104) X hK hP hS (c_X0_isZeroAtPoint l G S_2 _ h) my_X0_isZeroAtPoint tl_X8_232 dX8_zeros_42 kz_104 rfl rfl rfl ⟨Nat.le_of_ble_eq_true rfl, Nat.le_of_ble_eq_true rfl⟩ hl.1 rfl (Nat.le_of_ble_eq_true rfl) ⟨Nat.le_of_ble_eq_true rfl, Nat.le_of_ble_eq_true rfl⟩ (fun r_5 S_4 H locs h hP hS => ?_)
        refine W.eq (g2 := F0 m 45 ls [.int r_5]) rfl ?_
        refine lv_if_eq (tgt := 51) X.1 X.2.1 dX8_zeros_45 (by decide) (fun c_6 => ?_) (fun c_6 => ?_)
        · have h := h.1 c_6
          exact B51 x1 x2 x3 k25 hk25 S_4 _ (lv_sub hl [0, 1, 2, 3] rfl) h _ _ hP hS
        · have h := h.2 c_6
          obtain ⟨x2_7, e2_7⟩ : ∃ y : Int32, y = x2 + 1 := ⟨_, rfl⟩
          have h := h x2_7 e2_7
          refine lv_iinc (v := x2_7) (lv' := [(2, .int x2_7), (0, .ref (G.1 + 0)), (1, .int x1), (3, .int x3)]) X.1 X.2.1 dX8_zeros_48 hl (k := 2) rfl (by rw [e2_7]; first | rfl | decide) (by decide) rfl (fun ls hl => ?_)
          exact B51 x1 x2_7 x3 k25 hk25 S_4 _ (lv_sub hl [1, 2, 0, 3] rfl) h _ _ hP hS
  refine lv_aload_n X.1 X.2.1 dX8_zeros_0 rfl (lv_at hl 0 rfl) ?_
  refine gf_X8_ring X hK hP tl_X8_18 dX8_zeros_1 ?_
  refine lv_sipush (v := 2500) X.1 X.2.1 dX8_zeros_4 (by decide) ?_
  refine q_callV (rest := []) (b := 1) X hK hP hS (c_X5_pointsUpTo l G 2500 S _ h) my_X5_pointsUpTo tl_X8_226 dX8_zeros_7 kz_1 rfl rfl rfl ⟨Nat.le_of_ble_eq_true rfl, Nat.le_of_ble_eq_true rfl⟩ hl.1 rfl (Nat.le_of_ble_eq_true rfl) ⟨Nat.le_of_ble_eq_true rfl, Nat.le_of_ble_eq_true rfl⟩ (fun r_2 S_1 H locs h hP hS => ?_)
  refine W.eq (g2 := F0 m 10 ls [.int r_2]) rfl ?_
  refine lv_istore_n (lv' := [(1, .int r_2), (0, .ref (G.1 + 0))]) X.1 X.2.1 dX8_zeros_10 rfl hl (by decide) rfl (fun ls hl => ?_)
  refine lv_iload_n X.1 X.2.1 dX8_zeros_11 rfl (lv_at hl 0 rfl) ?_
  refine lv_sipush (v := 2500) X.1 X.2.1 dX8_zeros_12 (by decide) ?_
  refine lv_icmp_le (tgt := 21) X.1 X.2.1 dX8_zeros_15 (by decide) (fun c_3 => ?_) (fun c_3 => ?_)
  · have h := h.1 c_3
    refine lv_iconst (v := 0) X.1 X.2.1 dX8_zeros_21 (by decide) ?_
    refine lv_istore_n (lv' := [(2, .int 0), (1, .int r_2), (0, .ref (G.1 + 0))]) X.1 X.2.1 dX8_zeros_22 rfl hl (by decide) rfl (fun ls hl => ?_)
    refine lv_iconst (v := 0) X.1 X.2.1 dX8_zeros_23 (by decide) ?_
    refine lv_istore_n (lv' := [(3, .int 0), (2, .int 0), (1, .int r_2), (0, .ref (G.1 + 0))]) X.1 X.2.1 dX8_zeros_24 rfl hl (by decide) rfl (fun ls hl => ?_)
    obtain ⟨f_4, h⟩ := h
    exact B25 r_2 f_4 0 0 S_1 _ (lv_sub hl [3, 2, 1, 0] rfl) h _ _ hP hS
  · have h := h.2 c_3
    refine lv_bipush (v := (-3)) X.1 X.2.1 dX8_zeros_18 (by decide) ?_
    exact q_iret X hr hlocks hP hS rfl h dX8_zeros_20

set_option maxHeartbeats 4000000 in
set_option maxRecDepth 100000 in
theorem c_X8_count (l : Launch) (G : Cx) (x1 : Int32) (S : St) (K : Int32 → St → Prop) (h : w_X8_count x1 S K) : q_Met l yX8_count cX8_count 2 (some .int) 0 0 G [.ref (G.1 + 0), .int x1] v_i S K := by
  refine q_enter (by decide +kernel) (Nat.le_of_ble_eq_true rfl) (fun p e s m args below meth c ls X hK hP hr hlocks hl => ?_)
  have hS : va_S (fr_ G) s.heap s.heap [] := va_S.rf
  have hl : lv_has ls 2 [(0, .ref (G.1 + 0)), (1, .int x1)] := hl
  refine lv_iload_n X.1 X.2.1 dX8_count_0 rfl (lv_at hl 1 rfl) ?_
  by_cases c_1 : x1.toInt < 0 ∨ 11 < x1.toInt
  · have h := h.1 c_1
    refine lv_tableOut (tgt := 171) X.1 X.2.1 dX8_count_1 c_1 (by decide) ?_
    refine lv_bipush (v := (-2)) X.1 X.2.1 dX8_count_171 (by decide) ?_
    exact q_iret X hr hlocks hP hS rfl h dX8_count_173
  · have h := h.2
    rcases q_sw11 c_1 with c_1 | c_1 | c_1 | c_1 | c_1 | c_1 | c_1 | c_1 | c_1 | c_1 | c_1 | c_1
    · have h := h.1 c_1
      refine lv_tableIn (off := 63) (tgt := 64) X.1 X.2.1 dX8_count_1 (by rw [c_1]; decide) (by rw [c_1]; decide) (by rw [c_1]; rfl) (by decide) ?_
      refine lv_aload_n X.1 X.2.1 dX8_count_64 rfl (lv_at hl 0 rfl) ?_
      refine gf_X8_ring X hK hP tl_X8_18 dX8_count_65 ?_
      refine gf_X5_p X hK hP tl_X8_235 dX8_count_68 ?_
      exact q_iret X hr hlocks hP hS rfl h dX8_count_71
    · have h := h.2.1 c_1
      refine lv_tableIn (off := 71) (tgt := 72) X.1 X.2.1 dX8_count_1 (by rw [c_1]; decide) (by rw [c_1]; decide) (by rw [c_1]; rfl) (by decide) ?_
      refine lv_aload_n X.1 X.2.1 dX8_count_72 rfl (lv_at hl 0 rfl) ?_
      refine gf_X8_ring X hK hP tl_X8_18 dX8_count_73 ?_
      refine gf_X5_n X hK hP tl_X8_220 dX8_count_76 ?_
      exact q_iret X hr hlocks hP hS rfl h dX8_count_79
    · have h := h.2.2.1 c_1
      refine lv_tableIn (off := 79) (tgt := 80) X.1 X.2.1 dX8_count_1 (by rw [c_1]; decide) (by rw [c_1]; decide) (by rw [c_1]; rfl) (by decide) ?_
      refine lv_aload_n X.1 X.2.1 dX8_count_80 rfl (lv_at hl 0 rfl) ?_
      refine gf_X8_basis X hK hP tl_X8_60 dX8_count_81 ?_
      refine gf_X0_size X hK hP tl_X8_73 dX8_count_84 ?_
      exact q_iret X hr hlocks hP hS rfl h dX8_count_87
    · have h := h.2.2.2.1 c_1
      refine lv_tableIn (off := 87) (tgt := 88) X.1 X.2.1 dX8_count_1 (by rw [c_1]; decide) (by rw [c_1]; decide) (by rw [c_1]; rfl) (by decide) ?_
      refine lv_aload_n X.1 X.2.1 dX8_count_88 rfl (lv_at hl 0 rfl) ?_
      refine gf_X8_basis X hK hP tl_X8_60 dX8_count_89 ?_
      refine gf_X0_pairs X hK hP tl_X8_186 dX8_count_92 ?_
      refine gf_X2_size X hK hP tl_X8_190 dX8_count_95 ?_
      exact q_iret X hr hlocks hP hS rfl h dX8_count_98
    · have h := h.2.2.2.2.1 c_1
      refine lv_tableIn (off := 98) (tgt := 99) X.1 X.2.1 dX8_count_1 (by rw [c_1]; decide) (by rw [c_1]; decide) (by rw [c_1]; rfl) (by decide) ?_
      refine lv_aload_n X.1 X.2.1 dX8_count_99 rfl (lv_at hl 0 rfl) ?_
      refine gf_X8_basis X hK hP tl_X8_60 dX8_count_100 ?_
      refine gf_X0_passedCoprime X hK hP tl_X8_238 dX8_count_103 ?_
      exact q_iret X hr hlocks hP hS rfl h dX8_count_106
    · have h := h.2.2.2.2.2.1 c_1
      refine lv_tableIn (off := 106) (tgt := 107) X.1 X.2.1 dX8_count_1 (by rw [c_1]; decide) (by rw [c_1]; decide) (by rw [c_1]; rfl) (by decide) ?_
      refine lv_aload_n X.1 X.2.1 dX8_count_107 rfl (lv_at hl 0 rfl) ?_
      refine gf_X8_basis X hK hP tl_X8_60 dX8_count_108 ?_
      refine gf_X0_passedChain X hK hP tl_X8_241 dX8_count_111 ?_
      exact q_iret X hr hlocks hP hS rfl h dX8_count_114
    · have h := h.2.2.2.2.2.2.1 c_1
      refine lv_tableIn (off := 114) (tgt := 115) X.1 X.2.1 dX8_count_1 (by rw [c_1]; decide) (by rw [c_1]; decide) (by rw [c_1]; rfl) (by decide) ?_
      refine lv_aload_n X.1 X.2.1 dX8_count_115 rfl (lv_at hl 0 rfl) ?_
      refine gf_X8_basis X hK hP tl_X8_60 dX8_count_116 ?_
      refine gf_X0_leftSomething X hK hP tl_X8_244 dX8_count_119 ?_
      exact q_iret X hr hlocks hP hS rfl h dX8_count_122
    · have h := h.2.2.2.2.2.2.2.1 c_1
      refine lv_tableIn (off := 122) (tgt := 123) X.1 X.2.1 dX8_count_1 (by rw [c_1]; decide) (by rw [c_1]; decide) (by rw [c_1]; rfl) (by decide) ?_
      refine lv_aload_n X.1 X.2.1 dX8_count_123 rfl (lv_at hl 0 rfl) ?_
      refine gf_X8_basis X hK hP tl_X8_60 dX8_count_124 ?_
      refine gf_X0_leftNothing X hK hP tl_X8_247 dX8_count_127 ?_
      exact q_iret X hr hlocks hP hS rfl h dX8_count_130
    · have h := h.2.2.2.2.2.2.2.2.1 c_1
      refine lv_tableIn (off := 130) (tgt := 131) X.1 X.2.1 dX8_count_1 (by rw [c_1]; decide) (by rw [c_1]; decide) (by rw [c_1]; rfl) (by decide) ?_
      refine lv_aload_n X.1 X.2.1 dX8_count_131 rfl (lv_at hl 0 rfl) ?_
      refine gf_X8_reducer X hK hP tl_X8_51 dX8_count_132 ?_
      refine gf_X4_madeInAll X hK hP tl_X8_250 dX8_count_135 ?_
      exact q_iret X hr hlocks hP hS rfl h dX8_count_138
    · have h := h.2.2.2.2.2.2.2.2.2.1 c_1
      refine lv_tableIn (off := 138) (tgt := 139) X.1 X.2.1 dX8_count_1 (by rw [c_1]; decide) (by rw [c_1]; decide) (by rw [c_1]; rfl) (by decide) ?_
      refine lv_aload_n X.1 X.2.1 dX8_count_139 rfl (lv_at hl 0 rfl) ?_
      refine gf_X8_basis X hK hP tl_X8_60 dX8_count_140 ?_
      refine gf_X0_isTidy X hK hP tl_X8_172 dX8_count_143 ?_
      refine lv_if_eq (tgt := 153) X.1 X.2.1 dX8_count_146 (by decide) (fun c_2 => ?_) (fun c_2 => ?_)
      · have h := h.1 c_2
        refine lv_iconst (v := 0) X.1 X.2.1 dX8_count_153 (by decide) ?_
        exact q_iret X hr hlocks hP hS rfl h dX8_count_154
      · have h := h.2 c_2
        refine lv_iconst (v := 1) X.1 X.2.1 dX8_count_149 (by decide) ?_
        refine lv_goto (tgt := 154) X.1 X.2.1 dX8_count_150 (by decide) ?_
        exact q_iret X hr hlocks hP hS rfl h dX8_count_154
    · have h := h.2.2.2.2.2.2.2.2.2.2.1 c_1
      refine lv_tableIn (off := 154) (tgt := 155) X.1 X.2.1 dX8_count_1 (by rw [c_1]; decide) (by rw [c_1]; decide) (by rw [c_1]; rfl) (by decide) ?_
      refine lv_aload_n X.1 X.2.1 dX8_count_155 rfl (lv_at hl 0 rfl) ?_
      refine gf_X8_shelf X hK hP tl_X8_42 dX8_count_156 ?_
      refine gf_X6_held X hK hP tl_X8_253 dX8_count_159 ?_
      exact q_iret X hr hlocks hP hS rfl h dX8_count_162
    · have h := h.2.2.2.2.2.2.2.2.2.2.2 c_1
      refine lv_tableIn (off := 162) (tgt := 163) X.1 X.2.1 dX8_count_1 (by rw [c_1]; decide) (by rw [c_1]; decide) (by rw [c_1]; rfl) (by decide) ?_
      refine lv_aload_n X.1 X.2.1 dX8_count_163 rfl (lv_at hl 0 rfl) ?_
      refine gf_X8_reducer X hK hP tl_X8_51 dX8_count_164 ?_
      refine gf_X4_made X hK hP tl_X8_256 dX8_count_167 ?_
      exact q_iret X hr hlocks hP hS rfl h dX8_count_170

set_option maxHeartbeats 4000000 in
set_option maxRecDepth 100000 in
theorem c_X8_digestOf (l : Launch) (G : Cx) (y1 : Int64) (q3 : Nat) (S : St) (K : Int64 → St → Prop) (hq3 : isP q3) (h : w_X8_digestOf y1 q3 S K) : q_Met l yX8_digestOf cX8_digestOf 8 (some .long) 1 21 G [.ref (G.1 + 0), .long y1, .ref (G.1 + q3)] v_l S K := by
  refine q_enter (by decide +kernel) (Nat.le_of_ble_eq_true rfl) (fun p e s m args below meth c ls X hK hP hr hlocks hl => ?_)
  have hS : va_S (fr_ G) s.heap s.heap [] := va_S.rf
  have hl : lv_has ls 8 [(0, .ref (G.1 + 0)), (1, .long y1), (3, .ref (G.1 + q3))] := hl
  have B45 : ∀ (x6 : Int32) (k16 : Int64 → Int32 → St → Prop) (hk16 : ∀ (y4 : Int64) (x6 : Int32) (S : St) (ls : Array Slot), lv_has ls 8 [(0, .ref (G.1 + 0)), (3, .ref (G.1 + q3)), (4, .long y4), (6, .int x6)] → k16 y4 x6 S → q_W p l e (k2_rm 1 21) s m args below meth c 0 0 (MQ below (q_Qc G K v_l) args s 0 0 (fr_ G)) G 16 ls [] S) (f : Nat) (y4 : Int64) (x7 : Int32) (S : St) (ls : Array Slot), lv_has ls 8 [(0, .ref (G.1 + 0)), (3, .ref (G.1 + q3)), (4, .long y4), (6, .int x6), (7, .int x7)] → q_it (fun _ _ _ => False) (w_X8_digestOf_45 y1 q3 K k16 x6) f y4 x7 S → q_W p l e (k2_rm 1 21) s m args below meth c 0 0 (MQ below (q_Qc G K v_l) args s 0 0 (fr_ G)) G 45 ls [] S := by
    intro x6 k16 hk16 f
    induction f with
    | zero => intro y4 x7 S ls hl h; exact False.elim h
    | succ f hk45 =>
      intro y4 x7 S ls hl h H locs hP hS
      have h : w_X8_digestOf_45 y1 q3 K k16 x6 (q_it (fun _ _ _ => False) (w_X8_digestOf_45 y1 q3 K k16 x6) f) y4 x7 S := h
      generalize q_it (fun _ _ _ => False) (w_X8_digestOf_45 y1 q3 K k16 x6) f = k45 at h hk45
      refine lv_iload X.1 X.2.1 dX8_digestOf_45 (lv_at hl 4 rfl) ?_
      refine lv_aload_n X.1 X.2.1 dX8_digestOf_47 rfl (lv_at hl 0 rfl) ?_
      refine gf_X8_ring X hK hP tl_X8_18 dX8_digestOf_48 ?_
      refine gf_X5_n X hK hP tl_X8_220 dX8_digestOf_51 ?_
      refine lv_icmp_ge (tgt := 85) X.1 X.2.1 dX8_digestOf_54 (by decide) (fun c_1 => ?_) (fun c_1 => ?_)
      · have h := h.1 c_1
        obtain ⟨x6_2, e6_2⟩ : ∃ y : Int32, y = x6 + 1 := ⟨_, rfl⟩
        have h := h x6_2 e6_2
        refine lv_iinc (v := x6_2) (lv' := [(6, .int x6_2), (0, .ref (G.1 + 0)), (3, .ref (G.1 + q3)), (4, .long y4), (7, .int x7)]) X.1 X.2.1 dX8_digestOf_85 hl (k := 3) rfl (by rw [e6_2]; first | rfl | decide) (by decide) rfl (fun ls hl => ?_)
        refine lv_goto (tgt := 16) X.1 X.2.1 dX8_digestOf_88 (by decide) ?_
        exact hk16 y4 x6_2 S _ (lv_sub hl [1, 2, 3, 0] rfl) h _ _ hP hS
      · have h := h.2 c_1
        refine lv_ldc2 X.1 X.2.1 X.2.2.2.1 (X.2.2.2.2 _ tl_X8_265) dX8_digestOf_57 ?_
        refine lv_lload X.1 X.2.1 dX8_digestOf_60 (lv_at hl 2 rfl) ?_
        refine lv_lmul X.1 X.2.1 dX8_digestOf_62 ?_
        refine lv_aload_n X.1 X.2.1 dX8_digestOf_63 rfl (lv_at hl 1 rfl) ?_
        refine gf_X3_monos X hK hP hq3 tl_X8_131 dX8_digestOf_64 ?_
        refine lv_iload X.1 X.2.1 dX8_digestOf_67 (lv_at hl 3 rfl) ?_
        obtain ⟨o_3, h⟩ := h
        refine q_iald X hK hP (isP_2 hq3) o_3 dX8_digestOf_69 ?_
        refine lv_iload X.1 X.2.1 dX8_digestOf_70 (lv_at hl 4 rfl) ?_
        refine q_callS (rest := [.long (31 * y4)]) X hK hP hS (c_X1_exponentOf l G (S (q3 + 2) (q_rf x6)) x7 S _ h) my_X1_exponentOf tl_X8_134 dX8_digestOf_72 rfl ⟨Nat.le_of_ble_eq_true rfl, Nat.le_of_ble_eq_true rfl⟩ hl.1 rfl (Nat.le_of_ble_eq_true rfl) ⟨Nat.le_of_ble_eq_true rfl, Nat.le_of_ble_eq_true rfl⟩ (fun r_5 S_4 H locs h hP hS => ?_)
        refine W.eq (g2 := F0 m 75 ls [.int r_5, .long (31 * y4)]) rfl ?_
        refine lv_i2l X.1 X.2.1 dX8_digestOf_75 rfl ?_
        refine lv_ladd X.1 X.2.1 dX8_digestOf_76 ?_
        refine lv_topl (fun y4_6 e4_6 => ?_)
        have h := h y4_6 e4_6
        refine lv_lstore (lv' := [(4, .long y4_6), (0, .ref (G.1 + 0)), (3, .ref (G.1 + q3)), (6, .int x6), (7, .int x7)]) X.1 X.2.1 dX8_digestOf_77 hl (by decide) rfl (fun ls hl => ?_)
        obtain ⟨x7_7, e7_7⟩ : ∃ y : Int32, y = x7 + 1 := ⟨_, rfl⟩
        have h := h x7_7 e7_7
        refine lv_iinc (v := x7_7) (lv' := [(7, .int x7_7), (4, .long y4_6), (0, .ref (G.1 + 0)), (3, .ref (G.1 + q3)), (6, .int x6)]) X.1 X.2.1 dX8_digestOf_79 hl (k := 4) rfl (by rw [e7_7]; first | rfl | decide) (by decide) rfl (fun ls hl => ?_)
        refine lv_goto (tgt := 45) X.1 X.2.1 dX8_digestOf_82 (by decide) ?_
        exact hk45 y4_6 x7_7 S_4 _ (lv_sub hl [2, 3, 1, 4, 0] rfl) h _ _ hP hS
  have B16 : ∀ (f : Nat) (y4 : Int64) (x6 : Int32) (S : St) (ls : Array Slot), lv_has ls 8 [(0, .ref (G.1 + 0)), (3, .ref (G.1 + q3)), (4, .long y4), (6, .int x6)] → q_it (fun _ _ _ => False) (w_X8_digestOf_16 y1 q3 K) f y4 x6 S → q_W p l e (k2_rm 1 21) s m args below meth c 0 0 (MQ below (q_Qc G K v_l) args s 0 0 (fr_ G)) G 16 ls [] S := by
    intro f
    induction f with
    | zero => intro y4 x6 S ls hl h; exact False.elim h
    | succ f hk16 =>
      intro y4 x6 S ls hl h H locs hP hS
      have h : w_X8_digestOf_16 y1 q3 K (q_it (fun _ _ _ => False) (w_X8_digestOf_16 y1 q3 K) f) y4 x6 S := h
      generalize q_it (fun _ _ _ => False) (w_X8_digestOf_16 y1 q3 K) f = k16 at h hk16
      refine lv_iload X.1 X.2.1 dX8_digestOf_16 (lv_at hl 3 rfl) ?_
      refine lv_aload_n X.1 X.2.1 dX8_digestOf_18 rfl (lv_at hl 1 rfl) ?_
      refine gf_X3_size X hK hP hq3 tl_X8_108 dX8_digestOf_19 ?_
      refine lv_icmp_ge (tgt := 91) X.1 X.2.1 dX8_digestOf_22 (by decide) (fun c_1 => ?_) (fun c_1 => ?_)
      · have h := h.1 c_1
        refine lv_lload X.1 X.2.1 dX8_digestOf_91 (lv_at hl 2 rfl) ?_
        exact q_lret X hr hlocks hP hS h dX8_digestOf_93
      · have h := h.2 c_1
        refine lv_ldc2 X.1 X.2.1 X.2.2.2.1 (X.2.2.2.2 _ tl_X8_265) dX8_digestOf_25 ?_
        refine lv_lload X.1 X.2.1 dX8_digestOf_28 (lv_at hl 2 rfl) ?_
        refine lv_lmul X.1 X.2.1 dX8_digestOf_30 ?_
        refine lv_aload_n X.1 X.2.1 dX8_digestOf_31 rfl (lv_at hl 1 rfl) ?_
        refine gf_X3_numbers X hK hP hq3 tl_X8_124 dX8_digestOf_32 ?_
        refine lv_iload X.1 X.2.1 dX8_digestOf_35 (lv_at hl 3 rfl) ?_
        obtain ⟨o_2, h⟩ := h
        refine q_iald X hK hP (isP_1 hq3) o_2 dX8_digestOf_37 ?_
        refine lv_i2l X.1 X.2.1 dX8_digestOf_38 rfl ?_
        refine lv_ladd X.1 X.2.1 dX8_digestOf_39 ?_
        refine lv_topl (fun y4_3 e4_3 => ?_)
        have h := h y4_3 e4_3
        refine lv_lstore (lv' := [(4, .long y4_3), (0, .ref (G.1 + 0)), (3, .ref (G.1 + q3)), (6, .int x6)]) X.1 X.2.1 dX8_digestOf_40 hl (by decide) rfl (fun ls hl => ?_)
        refine lv_iconst (v := 0) X.1 X.2.1 dX8_digestOf_42 (by decide) ?_
        refine lv_istore (lv' := [(7, .int 0), (4, .long y4_3), (0, .ref (G.1 + 0)), (3, .ref (G.1 + q3)), (6, .int x6)]) X.1 X.2.1 dX8_digestOf_43 hl (by decide) rfl (fun ls hl => ?_)
        obtain ⟨f_4, h⟩ := h
        exact B45 x6 k16 hk16 f_4 y4_3 0 S _ (lv_sub hl [2, 3, 1, 4, 0] rfl) h _ _ hP hS
  refine lv_ldc2 X.1 X.2.1 X.2.2.2.1 (X.2.2.2.2 _ tl_X8_265) dX8_digestOf_0 ?_
  refine lv_lload_n X.1 X.2.1 dX8_digestOf_3 rfl (lv_at hl 1 rfl) ?_
  refine lv_lmul X.1 X.2.1 dX8_digestOf_4 ?_
  refine lv_aload_n X.1 X.2.1 dX8_digestOf_5 rfl (lv_at hl 2 rfl) ?_
  refine gf_X3_size X hK hP hq3 tl_X8_108 dX8_digestOf_6 ?_
  refine lv_i2l X.1 X.2.1 dX8_digestOf_9 rfl ?_
  refine lv_ladd X.1 X.2.1 dX8_digestOf_10 ?_
  refine lv_topl (fun y4_1 e4_1 => ?_)
  have h := h y4_1 e4_1
  refine lv_lstore (lv' := [(4, .long y4_1), (0, .ref (G.1 + 0)), (1, .long y1), (3, .ref (G.1 + q3))]) X.1 X.2.1 dX8_digestOf_11 hl (by decide) rfl (fun ls hl => ?_)
  refine lv_iconst (v := 0) X.1 X.2.1 dX8_digestOf_13 (by decide) ?_
  refine lv_istore (lv' := [(6, .int 0), (4, .long y4_1), (0, .ref (G.1 + 0)), (1, .long y1), (3, .ref (G.1 + q3))]) X.1 X.2.1 dX8_digestOf_14 hl (by decide) rfl (fun ls hl => ?_)
  obtain ⟨f_2, h⟩ := h
  exact B16 f_2 y4_1 0 S _ (lv_sub hl [2, 4, 1, 0] rfl) h _ _ hP hS

set_option maxHeartbeats 4000000 in
set_option maxRecDepth 100000 in
theorem c_X8_digest (l : Launch) (G : Cx) (S : St) (K : Int64 → St → Prop) (h : w_X8_digest S K) : q_Met l yX8_digest cX8_digest 5 (some .long) 2 48 G [.ref (G.1 + 0)] v_l S K := by
  refine q_enter (by decide +kernel) (Nat.le_of_ble_eq_true rfl) (fun p e s m args below meth c ls X hK hP hr hlocks hl => ?_)
  have hS : va_S (fr_ G) s.heap s.heap [] := va_S.rf
  have hl : lv_has ls 5 [(0, .ref (G.1 + 0))] := hl
  have B58 : ∀ (f : Nat) (y1 : Int64) (x3 : Int32) (S : St) (ls : Array Slot), lv_has ls 5 [(0, .ref (G.1 + 0)), (1, .long y1), (3, .int x3)] → q_it (fun _ _ _ => False) (w_X8_digest_58 K) f y1 x3 S → q_W p l e (k2_rm 2 48) s m args below meth c 0 0 (MQ below (q_Qc G K v_l) args s 0 0 (fr_ G)) G 58 ls [] S := by
    intro f
    induction f with
    | zero => intro y1 x3 S ls hl h; exact False.elim h
    | succ f hk58 =>
      intro y1 x3 S ls hl h H locs hP hS
      have h : w_X8_digest_58 K (q_it (fun _ _ _ => False) (w_X8_digest_58 K) f) y1 x3 S := h
      generalize q_it (fun _ _ _ => False) (w_X8_digest_58 K) f = k58 at h hk58
      refine lv_iload_n X.1 X.2.1 dX8_digest_58 rfl (lv_at hl 2 rfl) ?_
      refine lv_aload_n X.1 X.2.1 dX8_digest_59 rfl (lv_at hl 0 rfl) ?_
      refine gf_X8_basis X hK hP tl_X8_60 dX8_digest_60 ?_
      refine gf_X0_size X hK hP tl_X8_73 dX8_digest_63 ?_
      refine lv_icmp_ge (tgt := 90) X.1 X.2.1 dX8_digest_66 (by decide) (fun c_1 => ?_) (fun c_1 => ?_)
      · have h := h.1 c_1
        refine lv_lload_n X.1 X.2.1 dX8_digest_90 rfl (lv_at hl 1 rfl) ?_
        exact q_lret X hr hlocks hP hS h dX8_digest_91
      · have h := h.2 c_1
        refine lv_aload_n X.1 X.2.1 dX8_digest_69 rfl (lv_at hl 0 rfl) ?_
        refine lv_lload_n X.1 X.2.1 dX8_digest_70 rfl (lv_at hl 1 rfl) ?_
        refine lv_aload_n X.1 X.2.1 dX8_digest_71 rfl (lv_at hl 0 rfl) ?_
        refine gf_X8_basis X hK hP tl_X8_60 dX8_digest_72 ?_
        refine gf_X0_rows X hK hP tl_X8_199 dX8_digest_75 ?_
        refine lv_iload_n X.1 X.2.1 dX8_digest_78 rfl (lv_at hl 2 rfl) ?_
        obtain ⟨o_2, h⟩ := h
        obtain ⟨o_3, h⟩ := h
        refine q_aald X hK hP (isR_kd o_2) o_3 dX8_digest_79 ?_
        obtain ⟨o_4, h⟩ := h
        refine q_callV (rest := []) (b := 0) X hK hP hS (c_X8_digestOf l G y1 (pidx (q_rf (S 104 3)) (q_rf x3)) S _ o_4 h) my_X8_digestOf tl_X8_261 dX8_digest_80 kz_0 rfl rfl rfl ⟨Nat.le_of_ble_eq_true rfl, Nat.le_of_ble_eq_true rfl⟩ hl.1 rfl (Nat.le_of_ble_eq_true rfl) ⟨Nat.le_of_ble_eq_true rfl, Nat.le_of_ble_eq_true rfl⟩ (fun r_6 S_5 H locs h hP hS => ?_)
        refine W.eq (g2 := F0 m 83 ls [.long r_6]) rfl ?_
        refine lv_lstore_n (lv' := [(1, .long r_6), (0, .ref (G.1 + 0)), (3, .int x3)]) X.1 X.2.1 dX8_digest_83 rfl hl (by decide) rfl (fun ls hl => ?_)
        obtain ⟨x3_7, e3_7⟩ : ∃ y : Int32, y = x3 + 1 := ⟨_, rfl⟩
        have h := h x3_7 e3_7
        refine lv_iinc (v := x3_7) (lv' := [(3, .int x3_7), (1, .long r_6), (0, .ref (G.1 + 0))]) X.1 X.2.1 dX8_digest_84 hl (k := 2) rfl (by rw [e3_7]; first | rfl | decide) (by decide) rfl (fun ls hl => ?_)
        refine lv_goto (tgt := 58) X.1 X.2.1 dX8_digest_87 (by decide) ?_
        exact hk58 r_6 x3_7 S_5 _ (lv_sub hl [2, 1, 0] rfl) h _ _ hP hS
  have B50 : ∀ (y1 : Int64) (x3 : Int32) (k14 : Int64 → Int32 → St → Prop) (hk14 : ∀ (y1 : Int64) (x3 : Int32) (S : St) (ls : Array Slot), lv_has ls 5 [(0, .ref (G.1 + 0)), (1, .long y1), (3, .int x3)] → k14 y1 x3 S → q_W p l e (k2_rm 2 48) s m args below meth c 0 0 (MQ below (q_Qc G K v_l) args s 0 0 (fr_ G)) G 14 ls [] S) (S : St) (ls : Array Slot), lv_has ls 5 [(0, .ref (G.1 + 0)), (1, .long y1), (3, .int x3)] → w_X8_digest_50 K k14 y1 x3 S → q_W p l e (k2_rm 2 48) s m args below meth c 0 0 (MQ below (q_Qc G K v_l) args s 0 0 (fr_ G)) G 50 ls [] S := by
    intro y1 x3 k14 hk14 S ls hl h H locs hP hS
    obtain ⟨x3_1, e3_1⟩ : ∃ y : Int32, y = x3 + 1 := ⟨_, rfl⟩
    have h := h x3_1 e3_1
    refine lv_iinc (v := x3_1) (lv' := [(3, .int x3_1), (0, .ref (G.1 + 0)), (1, .long y1)]) X.1 X.2.1 dX8_digest_50 hl (k := 2) rfl (by rw [e3_1]; first | rfl | decide) (by decide) rfl (fun ls hl => ?_)
    refine lv_goto (tgt := 14) X.1 X.2.1 dX8_digest_53 (by decide) ?_
    exact hk14 y1 x3_1 S _ (lv_sub hl [1, 2, 0] rfl) h _ _ hP hS
  have B14 : ∀ (f : Nat) (y1 : Int64) (x3 : Int32) (S : St) (ls : Array Slot), lv_has ls 5 [(0, .ref (G.1 + 0)), (1, .long y1), (3, .int x3)] → q_it (fun _ _ _ => False) (w_X8_digest_14 K) f y1 x3 S → q_W p l e (k2_rm 2 48) s m args below meth c 0 0 (MQ below (q_Qc G K v_l) args s 0 0 (fr_ G)) G 14 ls [] S := by
    intro f
    induction f with
    | zero => intro y1 x3 S ls hl h; exact False.elim h
    | succ f hk14 =>
      intro y1 x3 S ls hl h H locs hP hS
      have h : w_X8_digest_14 K (q_it (fun _ _ _ => False) (w_X8_digest_14 K) f) y1 x3 S := h
      generalize q_it (fun _ _ _ => False) (w_X8_digest_14 K) f = k14 at h hk14
      refine lv_iload_n X.1 X.2.1 dX8_digest_14 rfl (lv_at hl 2 rfl) ?_
      refine lv_bipush (v := 24) X.1 X.2.1 dX8_digest_15 (by decide) ?_
      refine lv_icmp_ge (tgt := 56) X.1 X.2.1 dX8_digest_17 (by decide) (fun c_1 => ?_) (fun c_1 => ?_)
      · have h := h.1 c_1
        refine lv_iconst (v := 0) X.1 X.2.1 dX8_digest_56 (by decide) ?_
        refine lv_istore_n (lv' := [(3, .int 0), (0, .ref (G.1 + 0)), (1, .long y1)]) X.1 X.2.1 dX8_digest_57 rfl hl (by decide) rfl (fun ls hl => ?_)
        obtain ⟨f_2, h⟩ := h
        exact B58 f_2 y1 0 S _ (lv_sub hl [1, 2, 0] rfl) h _ _ hP hS
      · have h := h.2 c_1
        refine lv_aload_n X.1 X.2.1 dX8_digest_20 rfl (lv_at hl 0 rfl) ?_
        refine gf_X8_shelf X hK hP tl_X8_42 dX8_digest_21 ?_
        refine lv_iload_n X.1 X.2.1 dX8_digest_24 rfl (lv_at hl 2 rfl) ?_
        refine q_callV (rest := []) (b := 19) X hK hP hS (c_X6_at l G x3 S _ h) my_X6_at tl_X8_84 dX8_digest_25 kz_19 rfl rfl rfl ⟨Nat.le_of_ble_eq_true rfl, Nat.le_of_ble_eq_true rfl⟩ hl.1 rfl (Nat.le_of_ble_eq_true rfl) ⟨Nat.le_of_ble_eq_true rfl, Nat.le_of_ble_eq_true rfl⟩ (fun r_4 S_3 H locs h hP hS => ?_)
        rcases r_4 with _ | q_5
        · have h := h.1 rfl
          refine W.eq (g2 := F0 m 28 ls [.null]) rfl ?_
          refine lv_astoreN (lv' := [(4, .null), (0, .ref (G.1 + 0)), (1, .long y1), (3, .int x3)]) X.1 X.2.1 dX8_digest_28 hl (by decide) rfl (fun ls hl => ?_)
          refine lv_aloadN X.1 X.2.1 dX8_digest_30 (lv_at hl 0 rfl) ?_
          refine lv_ifnullN (tgt := 50) X.1 X.2.1 dX8_digest_32 (by decide) ?_
          exact B50 y1 x3 k14 hk14 S_3 _ (lv_sub hl [1, 2, 3] rfl) h _ _ hP hS
        · have h := h.2 q_5 rfl
          refine W.eq (g2 := F0 m 28 ls [.ref (G.1 + q_5)]) rfl ?_
          refine lv_astore (lv' := [(4, .ref (G.1 + q_5)), (0, .ref (G.1 + 0)), (1, .long y1), (3, .int x3)]) X.1 X.2.1 dX8_digest_28 hl (by decide) rfl (fun ls hl => ?_)
          refine lv_aload X.1 X.2.1 dX8_digest_30 (lv_at hl 0 rfl) ?_
          refine lv_ifnull X.1 X.2.1 dX8_digest_32 ?_
          refine lv_aload_n X.1 X.2.1 dX8_digest_35 rfl (lv_at hl 1 rfl) ?_
          refine lv_ldc2 X.1 X.2.1 X.2.2.2.1 (X.2.2.2.2 _ tl_X8_265) dX8_digest_36 ?_
          refine lv_lload_n X.1 X.2.1 dX8_digest_39 rfl (lv_at hl 2 rfl) ?_
          refine lv_lmul X.1 X.2.1 dX8_digest_40 ?_
          refine lv_iload_n X.1 X.2.1 dX8_digest_41 rfl (lv_at hl 3 rfl) ?_
          refine lv_i2l X.1 X.2.1 dX8_digest_42 rfl ?_
          refine lv_ladd X.1 X.2.1 dX8_digest_43 ?_
          refine lv_aload X.1 X.2.1 dX8_digest_44 (lv_at hl 0 rfl) ?_
          obtain ⟨o_6, h⟩ := h
          refine q_callV (rest := []) (b := 0) X hK hP hS (c_X8_digestOf l G ((31 * y1) + (x3.toInt64)) q_5 S_3 _ o_6 h) my_X8_digestOf tl_X8_261 dX8_digest_46 kz_0 rfl rfl rfl ⟨Nat.le_of_ble_eq_true rfl, Nat.le_of_ble_eq_true rfl⟩ hl.1 rfl (Nat.le_of_ble_eq_true rfl) ⟨Nat.le_of_ble_eq_true rfl, Nat.le_of_ble_eq_true rfl⟩ (fun r_8 S_7 H locs h hP hS => ?_)
          refine W.eq (g2 := F0 m 49 ls [.long r_8]) rfl ?_
          refine lv_lstore_n (lv' := [(1, .long r_8), (4, .ref (G.1 + q_5)), (0, .ref (G.1 + 0)), (3, .int x3)]) X.1 X.2.1 dX8_digest_49 rfl hl (by decide) rfl (fun ls hl => ?_)
          exact B50 r_8 x3 k14 hk14 S_7 _ (lv_sub hl [2, 0, 3] rfl) h _ _ hP hS
  refine lv_aload_n X.1 X.2.1 dX8_digest_0 rfl (lv_at hl 0 rfl) ?_
  refine lv_ldc2 X.1 X.2.1 X.2.2.2.1 (X.2.2.2.2 _ tl_X8_259) dX8_digest_1 ?_
  refine lv_aload_n X.1 X.2.1 dX8_digest_4 rfl (lv_at hl 0 rfl) ?_
  refine gf_X8_draft X hK hP tl_X8_25 dX8_digest_5 ?_
  refine q_callV (rest := []) (b := 0) X hK hP hS (c_X8_digestOf l G 17 10 S _ kz_10 h) my_X8_digestOf tl_X8_261 dX8_digest_8 kz_0 rfl rfl rfl ⟨Nat.le_of_ble_eq_true rfl, Nat.le_of_ble_eq_true rfl⟩ hl.1 rfl (Nat.le_of_ble_eq_true rfl) ⟨Nat.le_of_ble_eq_true rfl, Nat.le_of_ble_eq_true rfl⟩ (fun r_2 S_1 H locs h hP hS => ?_)
  refine W.eq (g2 := F0 m 11 ls [.long r_2]) rfl ?_
  refine lv_lstore_n (lv' := [(1, .long r_2), (0, .ref (G.1 + 0))]) X.1 X.2.1 dX8_digest_11 rfl hl (by decide) rfl (fun ls hl => ?_)
  refine lv_iconst (v := 0) X.1 X.2.1 dX8_digest_12 (by decide) ?_
  refine lv_istore_n (lv' := [(3, .int 0), (1, .long r_2), (0, .ref (G.1 + 0))]) X.1 X.2.1 dX8_digest_13 rfl hl (by decide) rfl (fun ls hl => ?_)
  obtain ⟨f_3, h⟩ := h
  exact B14 f_3 r_2 0 S_1 _ (lv_sub hl [2, 1, 0] rfl) h _ _ hP hS
