set_option maxHeartbeats 4000000 in
set_option maxRecDepth 100000 in
theorem c_X6_at (l : Launch) (G : Cx) (x1 : Int32) (S : St) (K : (Option Nat) → St → Prop) (h : w_X6_at x1 S K) : q_Met l yX6_at cX6_at 2 (some (.object "IdealBench$Poly")) 0 0 G [.ref (G.1 + 19), .int x1] (v_q G) S K := by
  refine q_enter (by decide +kernel) (Nat.le_of_ble_eq_true rfl) (fun p e s m args below meth c ls X hK hP hr hlocks hl => ?_)
  have hS : va_S (fr_ G) s.heap s.heap [] := va_S.rf
  have hl : lv_has ls 2 [(0, .ref (G.1 + 19)), (1, .int x1)] := hl
  have B28 : ∀ (S : St) (ls : Array Slot), lv_has ls 2 [] → w_X6_at_28 x1 K S → q_W p l e (k2_rm 0 0) s m args below meth c 0 0 (MQ below (q_Qc G K (v_q G)) args s 0 0 (fr_ G)) G 28 ls [] S := by
    intro S ls hl h H locs hP hS
    refine lv_null X.1 X.2.1 dX6_at_28 ?_
    exact q_nret X hr hlocks hP hS h dX6_at_29
  refine lv_iload_n X.1 X.2.1 dX6_at_0 rfl (lv_at hl 1 rfl) ?_
  refine lv_if_lt (tgt := 28) X.1 X.2.1 dX6_at_1 (by decide) (fun c_1 => ?_) (fun c_1 => ?_)
  · have h := h.1 c_1
    exact B28 S _ (lv_sub hl [] rfl) h _ _ hP hS
  · have h := h.2 c_1
    refine lv_iload_n X.1 X.2.1 dX6_at_4 rfl (lv_at hl 1 rfl) ?_
    refine lv_bipush (v := 24) X.1 X.2.1 dX6_at_5 (by decide) ?_
    refine lv_icmp_ge (tgt := 28) X.1 X.2.1 dX6_at_7 (by decide) (fun c_2 => ?_) (fun c_2 => ?_)
    · have h := h.1 c_2
      exact B28 S _ (lv_sub hl [] rfl) h _ _ hP hS
    · have h := h.2 c_2
      refine lv_aload_n X.1 X.2.1 dX6_at_10 rfl (lv_at hl 0 rfl) ?_
      refine gf_X6_holds X hK hP tl_X6_17 dX6_at_11 ?_
      refine lv_iload_n X.1 X.2.1 dX6_at_14 rfl (lv_at hl 1 rfl) ?_
      obtain ⟨o_3, h⟩ := h
      refine q_zald X hK hP kz_21 o_3 dX6_at_15 ?_
      refine lv_if_eq (tgt := 28) X.1 X.2.1 dX6_at_16 (by decide) (fun c_4 => ?_) (fun c_4 => ?_)
      · have h := h.1 c_4
        exact B28 S _ (lv_sub hl [] rfl) h _ _ hP hS
      · have h := h.2 c_4
        refine lv_aload_n X.1 X.2.1 dX6_at_19 rfl (lv_at hl 0 rfl) ?_
        refine gf_X6_polys X hK hP tl_X6_11 dX6_at_20 ?_
        refine lv_iload_n X.1 X.2.1 dX6_at_23 rfl (lv_at hl 1 rfl) ?_
        refine q_aald X hK hP kz_20 o_3 dX6_at_24 ?_
        refine lv_goto (tgt := 29) X.1 X.2.1 dX6_at_25 (by decide) ?_
        exact q_aret X hr hlocks hP hS h dX6_at_29

set_option maxHeartbeats 4000000 in
set_option maxRecDepth 100000 in
theorem c_X6_isFull (l : Launch) (G : Cx) (S : St) (K : Int32 → St → Prop) (h : w_X6_isFull S K) : q_Met l yX6_isFull cX6_isFull 1 (some .boolean) 0 0 G [.ref (G.1 + 19)] v_i S K := by
  refine q_enter (by decide +kernel) (Nat.le_of_ble_eq_true rfl) (fun p e s m args below meth c ls X hK hP hr hlocks hl => ?_)
  have hS : va_S (fr_ G) s.heap s.heap [] := va_S.rf
  have hl : lv_has ls 1 [(0, .ref (G.1 + 19))] := hl
  refine lv_aload_n X.1 X.2.1 dX6_isFull_0 rfl (lv_at hl 0 rfl) ?_
  refine gf_X6_held X hK hP tl_X6_22 dX6_isFull_1 ?_
  refine lv_bipush (v := 24) X.1 X.2.1 dX6_isFull_4 (by decide) ?_
  refine lv_icmp_ne (tgt := 13) X.1 X.2.1 dX6_isFull_6 (by decide) (fun c_1 => ?_) (fun c_1 => ?_)
  · have h := h.1 c_1
    refine lv_iconst (v := 0) X.1 X.2.1 dX6_isFull_13 (by decide) ?_
    exact q_iret X hr hlocks hP hS rfl h dX6_isFull_14
  · have h := h.2 c_1
    refine lv_iconst (v := 1) X.1 X.2.1 dX6_isFull_9 (by decide) ?_
    refine lv_goto (tgt := 14) X.1 X.2.1 dX6_isFull_10 (by decide) ?_
    exact q_iret X hr hlocks hP hS rfl h dX6_isFull_14

set_option maxHeartbeats 4000000 in
set_option maxRecDepth 100000 in
theorem c_X6_put (l : Launch) (G : Cx) (q1 : Nat) (S : St) (K : Int32 → St → Prop) (hq1 : isP q1) (h : w_X6_put q1 S K) : q_Met l yX6_put cX6_put 3 (some .int) 3 67 G [.ref (G.1 + 19), .ref (G.1 + q1)] v_i S K := by
  refine q_enter (by decide +kernel) (Nat.le_of_ble_eq_true rfl) (fun p e s m args below meth c ls X hK hP hr hlocks hl => ?_)
  have hS : va_S (fr_ G) s.heap s.heap [] := va_S.rf
  have hl : lv_has ls 3 [(0, .ref (G.1 + 19)), (1, .ref (G.1 + q1))] := hl
  have B2 : ∀ (f : Nat) (x2 : Int32) (S : St) (ls : Array Slot), lv_has ls 3 [(0, .ref (G.1 + 19)), (1, .ref (G.1 + q1)), (2, .int x2)] → q_it (fun _ _ => False) (w_X6_put_2 q1 K) f x2 S → q_W p l e (k2_rm 3 67) s m args below meth c 0 0 (MQ below (q_Qc G K v_i) args s 0 0 (fr_ G)) G 2 ls [] S := by
    intro f
    induction f with
    | zero => intro x2 S ls hl h; exact False.elim h
    | succ f hk2 =>
      intro x2 S ls hl h H locs hP hS
      have h : w_X6_put_2 q1 K (q_it (fun _ _ => False) (w_X6_put_2 q1 K) f) x2 S := h
      generalize q_it (fun _ _ => False) (w_X6_put_2 q1 K) f = k2 at h hk2
      refine lv_iload_n X.1 X.2.1 dX6_put_2 rfl (lv_at hl 2 rfl) ?_
      refine lv_bipush (v := 24) X.1 X.2.1 dX6_put_3 (by decide) ?_
      refine lv_icmp_ge (tgt := 52) X.1 X.2.1 dX6_put_5 (by decide) (fun c_1 => ?_) (fun c_1 => ?_)
      · have h := h.1 c_1
        refine lv_bipush (v := (-4)) X.1 X.2.1 dX6_put_52 (by decide) ?_
        exact q_iret X hr hlocks hP hS rfl h dX6_put_54
      · have h := h.2 c_1
        refine lv_aload_n X.1 X.2.1 dX6_put_8 rfl (lv_at hl 0 rfl) ?_
        refine gf_X6_holds X hK hP tl_X6_17 dX6_put_9 ?_
        refine lv_iload_n X.1 X.2.1 dX6_put_12 rfl (lv_at hl 2 rfl) ?_
        obtain ⟨o_2, h⟩ := h
        refine q_zald X hK hP kz_21 o_2 dX6_put_13 ?_
        refine lv_if_ne (tgt := 46) X.1 X.2.1 dX6_put_14 (by decide) (fun c_3 => ?_) (fun c_3 => ?_)
        · have h := h.1 c_3
          obtain ⟨x2_4, e2_4⟩ : ∃ y : Int32, y = x2 + 1 := ⟨_, rfl⟩
          have h := h x2_4 e2_4
          refine lv_iinc (v := x2_4) (lv' := [(2, .int x2_4), (0, .ref (G.1 + 19)), (1, .ref (G.1 + q1))]) X.1 X.2.1 dX6_put_46 hl (k := 2) rfl (by rw [e2_4]; first | rfl | decide) (by decide) rfl (fun ls hl => ?_)
          refine lv_goto (tgt := 2) X.1 X.2.1 dX6_put_49 (by decide) ?_
          exact hk2 x2_4 S _ (lv_sub hl [1, 2, 0] rfl) h _ _ hP hS
        · have h := h.2 c_3
          refine lv_aload_n X.1 X.2.1 dX6_put_17 rfl (lv_at hl 0 rfl) ?_
          refine gf_X6_polys X hK hP tl_X6_11 dX6_put_18 ?_
          refine lv_iload_n X.1 X.2.1 dX6_put_21 rfl (lv_at hl 2 rfl) ?_
          refine q_aald X hK hP kz_20 o_2 dX6_put_22 ?_
          refine lv_aload_n X.1 X.2.1 dX6_put_23 rfl (lv_at hl 1 rfl) ?_
          obtain ⟨o_5, h⟩ := h
          refine q_callV (rest := []) (b := (pidx 20 (q_rf x2))) X hK hP hS (c_X3_copyOf l G (pidx 20 (q_rf x2)) q1 S _ o_5 hq1 h) my_X3_copyOf tl_X6_26 dX6_put_24 o_5 rfl rfl rfl ⟨Nat.le_of_ble_eq_true rfl, Nat.le_of_ble_eq_true rfl⟩ hl.1 rfl (Nat.le_of_ble_eq_true rfl) ⟨Nat.le_of_ble_eq_true rfl, Nat.le_of_ble_eq_true rfl⟩ (fun r_7 S_6 H locs h hP hS => ?_)
          refine W.eq (g2 := F0 m 27 ls []) rfl ?_
          refine lv_aload_n X.1 X.2.1 dX6_put_27 rfl (lv_at hl 0 rfl) ?_
          refine gf_X6_holds X hK hP tl_X6_17 dX6_put_28 ?_
          refine lv_iload_n X.1 X.2.1 dX6_put_31 rfl (lv_at hl 2 rfl) ?_
          refine lv_iconst (v := 1) X.1 X.2.1 dX6_put_32 (by decide) ?_
          refine q_zast X hK hP hS kz_21 o_2 dX6_put_33 (fun S_8 H locs eS_8 hP hS => ?_)
          have h := h S_8 eS_8
          refine lv_aload_n X.1 X.2.1 dX6_put_34 rfl (lv_at hl 0 rfl) ?_
          refine lv_dup X.1 X.2.1 dX6_put_35 rfl ?_
          refine gf_X6_held X hK hP tl_X6_22 dX6_put_36 ?_
          refine lv_iconst (v := 1) X.1 X.2.1 dX6_put_39 (by decide) ?_
          refine lv_iadd X.1 X.2.1 dX6_put_40 ?_
          refine pf_X6_held X hK hP hS tl_X6_22 dX6_put_41 (fun S_9 H locs eS_9 hP hS => ?_)
          have h := h S_9 eS_9
          refine lv_iload_n X.1 X.2.1 dX6_put_44 rfl (lv_at hl 2 rfl) ?_
          exact q_iret X hr hlocks hP hS rfl h dX6_put_45
  refine lv_iconst (v := 0) X.1 X.2.1 dX6_put_0 (by decide) ?_
  refine lv_istore_n (lv' := [(2, .int 0), (0, .ref (G.1 + 19)), (1, .ref (G.1 + q1))]) X.1 X.2.1 dX6_put_1 rfl hl (by decide) rfl (fun ls hl => ?_)
  obtain ⟨f_1, h⟩ := h
  exact B2 f_1 0 S _ (lv_sub hl [1, 2, 0] rfl) h _ _ hP hS

set_option maxHeartbeats 4000000 in
set_option maxRecDepth 100000 in
theorem c_X6_free (l : Launch) (G : Cx) (x1 : Int32) (S : St) (K : Unit → St → Prop) (h : w_X6_free x1 S K) : q_Met l yX6_free cX6_free 2 none 1 21 G [.ref (G.1 + 19), .int x1] v_v S K := by
  refine q_enter (by decide +kernel) (Nat.le_of_ble_eq_true rfl) (fun p e s m args below meth c ls X hK hP hr hlocks hl => ?_)
  have hS : va_S (fr_ G) s.heap s.heap [] := va_S.rf
  have hl : lv_has ls 2 [(0, .ref (G.1 + 19)), (1, .int x1)] := hl
  refine lv_aload_n X.1 X.2.1 dX6_free_0 rfl (lv_at hl 0 rfl) ?_
  refine lv_iload_n X.1 X.2.1 dX6_free_1 rfl (lv_at hl 1 rfl) ?_
  refine q_callV (rest := []) (b := 19) X hK hP hS (c_X6_at l G x1 S _ h) my_X6_at tl_X6_30 dX6_free_2 kz_19 rfl rfl rfl ⟨Nat.le_of_ble_eq_true rfl, Nat.le_of_ble_eq_true rfl⟩ hl.1 rfl (Nat.le_of_ble_eq_true rfl) ⟨Nat.le_of_ble_eq_true rfl, Nat.le_of_ble_eq_true rfl⟩ (fun r_2 S_1 H locs h hP hS => ?_)
  rcases r_2 with _ | q_3
  · have h := h.1 rfl
    refine W.eq (g2 := F0 m 5 ls [.null]) rfl ?_
    refine lv_ifnullN (tgt := 25) X.1 X.2.1 dX6_free_5 (by decide) ?_
    exact q_vret X hr hlocks hP hS h dX6_free_25
  · have h := h.2 q_3 rfl
    refine W.eq (g2 := F0 m 5 ls [.ref (G.1 + q_3)]) rfl ?_
    refine lv_ifnull X.1 X.2.1 dX6_free_5 ?_
    refine lv_aload_n X.1 X.2.1 dX6_free_8 rfl (lv_at hl 0 rfl) ?_
    refine gf_X6_holds X hK hP tl_X6_17 dX6_free_9 ?_
    refine lv_iload_n X.1 X.2.1 dX6_free_12 rfl (lv_at hl 1 rfl) ?_
    refine lv_iconst (v := 0) X.1 X.2.1 dX6_free_13 (by decide) ?_
    obtain ⟨o_4, h⟩ := h
    refine q_zast X hK hP hS kz_21 o_4 dX6_free_14 (fun S_5 H locs eS_5 hP hS => ?_)
    have h := h S_5 eS_5
    refine lv_aload_n X.1 X.2.1 dX6_free_15 rfl (lv_at hl 0 rfl) ?_
    refine lv_dup X.1 X.2.1 dX6_free_16 rfl ?_
    refine gf_X6_held X hK hP tl_X6_22 dX6_free_17 ?_
    refine lv_iconst (v := 1) X.1 X.2.1 dX6_free_20 (by decide) ?_
    refine lv_isub X.1 X.2.1 dX6_free_21 ?_
    refine pf_X6_held X hK hP hS tl_X6_22 dX6_free_22 (fun S_6 H locs eS_6 hP hS => ?_)
    have h := h S_6 eS_6
    exact q_vret X hr hlocks hP hS h dX6_free_25

set_option maxHeartbeats 4000000 in
set_option maxRecDepth 100000 in
theorem c_X4_begin (l : Launch) (G : Cx) (S : St) (K : Unit → St → Prop) (h : w_X4_begin S K) : q_Met l yX4_begin cX4_begin 1 none 0 0 G [.ref (G.1 + 94)] v_v S K := by
  refine q_enter (by decide +kernel) (Nat.le_of_ble_eq_true rfl) (fun p e s m args below meth c ls X hK hP hr hlocks hl => ?_)
  have hS : va_S (fr_ G) s.heap s.heap [] := va_S.rf
  have hl : lv_has ls 1 [(0, .ref (G.1 + 94))] := hl
  refine lv_aload_n X.1 X.2.1 dX4_begin_0 rfl (lv_at hl 0 rfl) ?_
  refine lv_iconst (v := 0) X.1 X.2.1 dX4_begin_1 (by decide) ?_
  refine pf_X4_made X hK hP hS tl_X4_32 dX4_begin_2 (fun S_1 H locs eS_1 hP hS => ?_)
  have h := h S_1 eS_1
  exact q_vret X hr hlocks hP hS h dX4_begin_5

set_option maxHeartbeats 4000000 in
set_option maxRecDepth 100000 in
theorem c_X4_firstDividing (l : Launch) (G : Cx) (q1 : Nat) (x2 : Int32) (x3 : Int32) (S : St) (K : Int32 → St → Prop) (hq1 : isR q1) (h : w_X4_firstDividing q1 x2 x3 S K) : q_Met l yX4_firstDividing cX4_firstDividing 5 (some .int) 1 21 G [.ref (G.1 + 94), .ref (G.1 + q1), .int x2, .int x3] v_i S K := by
  refine q_enter (by decide +kernel) (Nat.le_of_ble_eq_true rfl) (fun p e s m args below meth c ls X hK hP hr hlocks hl => ?_)
  have hS : va_S (fr_ G) s.heap s.heap [] := va_S.rf
  have hl : lv_has ls 5 [(0, .ref (G.1 + 94)), (1, .ref (G.1 + q1)), (2, .int x2), (3, .int x3)] := hl
  have B38 : ∀ (x4 : Int32) (k3 : Int32 → St → Prop) (hk3 : ∀ (x4 : Int32) (S : St) (ls : Array Slot), lv_has ls 5 [(0, .ref (G.1 + 94)), (1, .ref (G.1 + q1)), (2, .int x2), (3, .int x3), (4, .int x4)] → k3 x4 S → q_W p l e (k2_rm 1 21) s m args below meth c 0 0 (MQ below (q_Qc G K v_i) args s 0 0 (fr_ G)) G 3 ls [] S) (S : St) (ls : Array Slot), lv_has ls 5 [(0, .ref (G.1 + 94)), (1, .ref (G.1 + q1)), (2, .int x2), (3, .int x3), (4, .int x4)] → w_X4_firstDividing_38 q1 x2 x3 K k3 x4 S → q_W p l e (k2_rm 1 21) s m args below meth c 0 0 (MQ below (q_Qc G K v_i) args s 0 0 (fr_ G)) G 38 ls [] S := by
    intro x4 k3 hk3 S ls hl h H locs hP hS
    obtain ⟨x4_1, e4_1⟩ : ∃ y : Int32, y = x4 + 1 := ⟨_, rfl⟩
    have h := h x4_1 e4_1
    refine lv_iinc (v := x4_1) (lv' := [(4, .int x4_1), (0, .ref (G.1 + 94)), (1, .ref (G.1 + q1)), (2, .int x2), (3, .int x3)]) X.1 X.2.1 dX4_firstDividing_38 hl (k := 4) rfl (by rw [e4_1]; first | rfl | decide) (by decide) rfl (fun ls hl => ?_)
    refine lv_goto (tgt := 3) X.1 X.2.1 dX4_firstDividing_41 (by decide) ?_
    exact hk3 x4_1 S _ (lv_sub hl [1, 2, 3, 4, 0] rfl) h _ _ hP hS
  have B3 : ∀ (f : Nat) (x4 : Int32) (S : St) (ls : Array Slot), lv_has ls 5 [(0, .ref (G.1 + 94)), (1, .ref (G.1 + q1)), (2, .int x2), (3, .int x3), (4, .int x4)] → q_it (fun _ _ => False) (w_X4_firstDividing_3 q1 x2 x3 K) f x4 S → q_W p l e (k2_rm 1 21) s m args below meth c 0 0 (MQ below (q_Qc G K v_i) args s 0 0 (fr_ G)) G 3 ls [] S := by
    intro f
    induction f with
    | zero => intro x4 S ls hl h; exact False.elim h
    | succ f hk3 =>
      intro x4 S ls hl h H locs hP hS
      have h : w_X4_firstDividing_3 q1 x2 x3 K (q_it (fun _ _ => False) (w_X4_firstDividing_3 q1 x2 x3 K) f) x4 S := h
      generalize q_it (fun _ _ => False) (w_X4_firstDividing_3 q1 x2 x3 K) f = k3 at h hk3
      refine lv_iload X.1 X.2.1 dX4_firstDividing_3 (lv_at hl 4 rfl) ?_
      refine lv_iload_n X.1 X.2.1 dX4_firstDividing_5 rfl (lv_at hl 2 rfl) ?_
      refine lv_icmp_ge (tgt := 44) X.1 X.2.1 dX4_firstDividing_6 (by decide) (fun c_1 => ?_) (fun c_1 => ?_)
      · have h := h.1 c_1
        refine lv_iconst (v := (-1)) X.1 X.2.1 dX4_firstDividing_44 (by decide) ?_
        exact q_iret X hr hlocks hP hS rfl h dX4_firstDividing_45
      · have h := h.2 c_1
        refine lv_iload X.1 X.2.1 dX4_firstDividing_9 (lv_at hl 4 rfl) ?_
        refine lv_iload_n X.1 X.2.1 dX4_firstDividing_11 rfl (lv_at hl 3 rfl) ?_
        refine lv_icmp_eq (tgt := 38) X.1 X.2.1 dX4_firstDividing_12 (by decide) (fun c_2 => ?_) (fun c_2 => ?_)
        · have h := h.1 c_2
          exact B38 x4 k3 hk3 S _ (lv_sub hl [0, 1, 2, 3, 4] rfl) h _ _ hP hS
        · have h := h.2 c_2
          refine lv_aload_n X.1 X.2.1 dX4_firstDividing_15 rfl (lv_at hl 1 rfl) ?_
          refine lv_iload X.1 X.2.1 dX4_firstDividing_16 (lv_at hl 4 rfl) ?_
          obtain ⟨o_3, h⟩ := h
          refine q_aald X hK hP (isR_kd hq1) o_3 dX4_firstDividing_18 ?_
          obtain ⟨o_4, h⟩ := h
          refine q_callV (rest := []) (b := (pidx q1 (q_rf x4))) X hK hP hS (c_X3_head l G (pidx q1 (q_rf x4)) S _ o_4 h) my_X3_head tl_X4_54 dX4_firstDividing_19 o_4 rfl rfl rfl ⟨Nat.le_of_ble_eq_true rfl, Nat.le_of_ble_eq_true rfl⟩ hl.1 rfl (Nat.le_of_ble_eq_true rfl) ⟨Nat.le_of_ble_eq_true rfl, Nat.le_of_ble_eq_true rfl⟩ (fun r_6 S_5 H locs h hP hS => ?_)
          refine W.eq (g2 := F0 m 22 ls [.int r_6]) rfl ?_
          refine lv_aload_n X.1 X.2.1 dX4_firstDividing_22 rfl (lv_at hl 0 rfl) ?_
          refine gf_X4_h X hK hP tl_X4_12 dX4_firstDividing_23 ?_
          obtain ⟨o_7, h⟩ := h
          refine q_callV (rest := [.int r_6]) (b := q_rf (S_5 94 1)) X hK hP hS (c_X3_head l G (q_rf (S_5 94 1)) S_5 _ o_7 h) my_X3_head tl_X4_54 dX4_firstDividing_26 o_7 rfl rfl rfl ⟨Nat.le_of_ble_eq_true rfl, Nat.le_of_ble_eq_true rfl⟩ hl.1 rfl (Nat.le_of_ble_eq_true rfl) ⟨Nat.le_of_ble_eq_true rfl, Nat.le_of_ble_eq_true rfl⟩ (fun r_9 S_8 H locs h hP hS => ?_)
          refine W.eq (g2 := F0 m 29 ls [.int r_9, .int r_6]) rfl ?_
          refine q_callS (rest := []) X hK hP hS (c_X1_divides l G r_6 r_9 S_8 _ h) my_X1_divides tl_X4_57 dX4_firstDividing_29 rfl ⟨Nat.le_of_ble_eq_true rfl, Nat.le_of_ble_eq_true rfl⟩ hl.1 rfl (Nat.le_of_ble_eq_true rfl) ⟨Nat.le_of_ble_eq_true rfl, Nat.le_of_ble_eq_true rfl⟩ (fun r_11 S_10 H locs h hP hS => ?_)
          refine W.eq (g2 := F0 m 32 ls [.int r_11]) rfl ?_
          refine lv_if_eq (tgt := 38) X.1 X.2.1 dX4_firstDividing_32 (by decide) (fun c_12 => ?_) (fun c_12 => ?_)
          · have h := h.1 c_12
            exact B38 x4 k3 hk3 S_10 _ (lv_sub hl [0, 1, 2, 3, 4] rfl) h _ _ hP hS
          · have h := h.2 c_12
            refine lv_iload X.1 X.2.1 dX4_firstDividing_35 (lv_at hl 4 rfl) ?_
            exact q_iret X hr hlocks hP hS rfl h dX4_firstDividing_37
  refine lv_iconst (v := 0) X.1 X.2.1 dX4_firstDividing_0 (by decide) ?_
  refine lv_istore (lv' := [(4, .int 0), (0, .ref (G.1 + 94)), (1, .ref (G.1 + q1)), (2, .int x2), (3, .int x3)]) X.1 X.2.1 dX4_firstDividing_1 hl (by decide) rfl (fun ls hl => ?_)
  obtain ⟨f_1, h⟩ := h
  exact B3 f_1 0 S _ (lv_sub hl [1, 2, 3, 4, 0] rfl) h _ _ hP hS

set_option maxHeartbeats 4000000 in
set_option maxRecDepth 100000 in
theorem c_X4_moveHead (l : Launch) (G : Cx) (S : St) (K : Int32 → St → Prop) (h : w_X4_moveHead S K) : q_Met l yX4_moveHead cX4_moveHead 1 (some .int) 3 66 G [.ref (G.1 + 94)] v_i S K := by
  refine q_enter (by decide +kernel) (Nat.le_of_ble_eq_true rfl) (fun p e s m args below meth c ls X hK hP hr hlocks hl => ?_)
  have hS : va_S (fr_ G) s.heap s.heap [] := va_S.rf
  have hl : lv_has ls 1 [(0, .ref (G.1 + 94))] := hl
  refine lv_aload_n X.1 X.2.1 dX4_moveHead_0 rfl (lv_at hl 0 rfl) ?_
  refine gf_X4_r X hK hP tl_X4_21 dX4_moveHead_1 ?_
  refine lv_aload_n X.1 X.2.1 dX4_moveHead_4 rfl (lv_at hl 0 rfl) ?_
  refine gf_X4_h X hK hP tl_X4_12 dX4_moveHead_5 ?_
  obtain ⟨o_1, h⟩ := h
  refine gf_X3_numbers X hK hP o_1 tl_X4_63 dX4_moveHead_8 ?_
  refine lv_iconst (v := 0) X.1 X.2.1 dX4_moveHead_11 (by decide) ?_
  refine q_iald X hK hP (isP_1 o_1) (q_vin (by decide)) dX4_moveHead_12 ?_
  refine lv_aload_n X.1 X.2.1 dX4_moveHead_13 rfl (lv_at hl 0 rfl) ?_
  refine gf_X4_h X hK hP tl_X4_12 dX4_moveHead_14 ?_
  refine gf_X3_monos X hK hP o_1 tl_X4_67 dX4_moveHead_17 ?_
  refine lv_iconst (v := 0) X.1 X.2.1 dX4_moveHead_20 (by decide) ?_
  refine q_iald X hK hP (isP_2 o_1) (q_vin (by decide)) dX4_moveHead_21 ?_
  refine q_callV (rest := []) (b := 101) X hK hP hS (c_X3_push l G 101 (S (q_rf (S 94 1) + 1) (q_rf 0)) (S (q_rf (S 94 1) + 2) (q_rf 0)) S _ kz_101 h) my_X3_push tl_X4_70 dX4_moveHead_22 kz_101 rfl rfl rfl ⟨Nat.le_of_ble_eq_true rfl, Nat.le_of_ble_eq_true rfl⟩ hl.1 rfl (Nat.le_of_ble_eq_true rfl) ⟨Nat.le_of_ble_eq_true rfl, Nat.le_of_ble_eq_true rfl⟩ (fun r_3 S_2 H locs h hP hS => ?_)
  refine W.eq (g2 := F0 m 25 ls [.int r_3]) rfl ?_
  refine lv_if_ne (tgt := 31) X.1 X.2.1 dX4_moveHead_25 (by decide) (fun c_4 => ?_) (fun c_4 => ?_)
  · have h := h.1 c_4
    refine lv_aload_n X.1 X.2.1 dX4_moveHead_31 rfl (lv_at hl 0 rfl) ?_
    refine gf_X4_h X hK hP tl_X4_12 dX4_moveHead_32 ?_
    obtain ⟨o_5, h⟩ := h
    refine q_callV (rest := []) (b := q_rf (S_2 94 1)) X hK hP hS (c_X3_dropHead l G (q_rf (S_2 94 1)) S_2 _ o_5 h) my_X3_dropHead tl_X4_73 dX4_moveHead_35 o_5 rfl rfl rfl ⟨Nat.le_of_ble_eq_true rfl, Nat.le_of_ble_eq_true rfl⟩ hl.1 rfl (Nat.le_of_ble_eq_true rfl) ⟨Nat.le_of_ble_eq_true rfl, Nat.le_of_ble_eq_true rfl⟩ (fun r_7 S_6 H locs h hP hS => ?_)
    refine W.eq (g2 := F0 m 38 ls []) rfl ?_
    refine lv_iconst (v := 0) X.1 X.2.1 dX4_moveHead_38 (by decide) ?_
    exact q_iret X hr hlocks hP hS rfl h dX4_moveHead_39
  · have h := h.2 c_4
    refine lv_bipush (v := (-6)) X.1 X.2.1 dX4_moveHead_28 (by decide) ?_
    exact q_iret X hr hlocks hP hS rfl h dX4_moveHead_30

set_option maxHeartbeats 4000000 in
set_option maxRecDepth 100000 in
theorem c_X4_lessenBy (l : Launch) (G : Cx) (q1 : Nat) (S : St) (K : Int32 → St → Prop) (hq1 : isP q1) (h : w_X4_lessenBy q1 S K) : q_Met l yX4_lessenBy cX4_lessenBy 4 (some .int) 3 75 G [.ref (G.1 + 94), .ref (G.1 + q1)] v_i S K := by
  refine q_enter (by decide +kernel) (Nat.le_of_ble_eq_true rfl) (fun p e s m args below meth c ls X hK hP hr hlocks hl => ?_)
  have hS : va_S (fr_ G) s.heap s.heap [] := va_S.rf
  have hl : lv_has ls 4 [(0, .ref (G.1 + 94)), (1, .ref (G.1 + q1))] := hl
  refine lv_aload_n X.1 X.2.1 dX4_lessenBy_0 rfl (lv_at hl 0 rfl) ?_
  refine gf_X4_made X hK hP tl_X4_32 dX4_lessenBy_1 ?_
  refine lv_aload_n X.1 X.2.1 dX4_lessenBy_4 rfl (lv_at hl 0 rfl) ?_
  refine gf_X4_fuel X hK hP tl_X4_24 dX4_lessenBy_5 ?_
  refine lv_icmp_lt (tgt := 14) X.1 X.2.1 dX4_lessenBy_8 (by decide) (fun c_1 => ?_) (fun c_1 => ?_)
  · have h := h.1 c_1
    refine lv_aload_n X.1 X.2.1 dX4_lessenBy_14 rfl (lv_at hl 0 rfl) ?_
    refine lv_dup X.1 X.2.1 dX4_lessenBy_15 rfl ?_
    refine gf_X4_made X hK hP tl_X4_32 dX4_lessenBy_16 ?_
    refine lv_iconst (v := 1) X.1 X.2.1 dX4_lessenBy_19 (by decide) ?_
    refine lv_iadd X.1 X.2.1 dX4_lessenBy_20 ?_
    refine pf_X4_made X hK hP hS tl_X4_32 dX4_lessenBy_21 (fun S_2 H locs eS_2 hP hS => ?_)
    have h := h S_2 eS_2
    refine lv_aload_n X.1 X.2.1 dX4_lessenBy_24 rfl (lv_at hl 0 rfl) ?_
    refine lv_dup X.1 X.2.1 dX4_lessenBy_25 rfl ?_
    refine gf_X4_madeInAll X hK hP tl_X4_76 dX4_lessenBy_26 ?_
    refine lv_iconst (v := 1) X.1 X.2.1 dX4_lessenBy_29 (by decide) ?_
    refine lv_iadd X.1 X.2.1 dX4_lessenBy_30 ?_
    refine pf_X4_madeInAll X hK hP hS tl_X4_76 dX4_lessenBy_31 (fun S_3 H locs eS_3 hP hS => ?_)
    have h := h S_3 eS_3
    refine lv_aload_n X.1 X.2.1 dX4_lessenBy_34 rfl (lv_at hl 0 rfl) ?_
    refine gf_X4_ring X hK hP tl_X4_28 dX4_lessenBy_35 ?_
    refine lv_aload_n X.1 X.2.1 dX4_lessenBy_38 rfl (lv_at hl 0 rfl) ?_
    refine gf_X4_lessened X hK hP tl_X4_18 dX4_lessenBy_39 ?_
    refine lv_aload_n X.1 X.2.1 dX4_lessenBy_42 rfl (lv_at hl 0 rfl) ?_
    refine gf_X4_h X hK hP tl_X4_12 dX4_lessenBy_43 ?_
    refine lv_aload_n X.1 X.2.1 dX4_lessenBy_46 rfl (lv_at hl 1 rfl) ?_
    refine lv_aload_n X.1 X.2.1 dX4_lessenBy_47 rfl (lv_at hl 0 rfl) ?_
    refine gf_X4_ring X hK hP tl_X4_28 dX4_lessenBy_48 ?_
    refine gf_X5_p X hK hP tl_X4_79 dX4_lessenBy_51 ?_
    refine lv_aload_n X.1 X.2.1 dX4_lessenBy_54 rfl (lv_at hl 0 rfl) ?_
    refine gf_X4_h X hK hP tl_X4_12 dX4_lessenBy_55 ?_
    obtain ⟨o_4, h⟩ := h
    refine gf_X3_numbers X hK hP o_4 tl_X4_63 dX4_lessenBy_58 ?_
    refine lv_iconst (v := 0) X.1 X.2.1 dX4_lessenBy_61 (by decide) ?_
    refine q_iald X hK hP (isP_1 o_4) (q_vin (by decide)) dX4_lessenBy_62 ?_
    refine lv_isub X.1 X.2.1 dX4_lessenBy_63 ?_
    refine lv_aload_n X.1 X.2.1 dX4_lessenBy_64 rfl (lv_at hl 0 rfl) ?_
    refine gf_X4_h X hK hP tl_X4_12 dX4_lessenBy_65 ?_
    refine q_callV (rest := [.int ((S_3 1 0) - (S_3 (q_rf (S_3 94 1) + 1) (q_rf 0))), .ref (G.1 + q1), .ref (G.1 + q_rf (S_3 94 1)), .ref (G.1 + q_rf (S_3 94 2)), .ref (G.1 + 1)]) (b := q_rf (S_3 94 1)) X hK hP hS (c_X3_head l G (q_rf (S_3 94 1)) S_3 _ o_4 h) my_X3_head tl_X4_54 dX4_lessenBy_68 o_4 rfl rfl rfl ⟨Nat.le_of_ble_eq_true rfl, Nat.le_of_ble_eq_true rfl⟩ hl.1 rfl (Nat.le_of_ble_eq_true rfl) ⟨Nat.le_of_ble_eq_true rfl, Nat.le_of_ble_eq_true rfl⟩ (fun r_6 S_5 H locs h hP hS => ?_)
    refine W.eq (g2 := F0 m 71 ls [.int r_6, .int ((S_3 1 0) - (S_3 (q_rf (S_3 94 1) + 1) (q_rf 0))), .ref (G.1 + q1), .ref (G.1 + q_rf (S_3 94 1)), .ref (G.1 + q_rf (S_3 94 2)), .ref (G.1 + 1)]) rfl ?_
    refine lv_aload_n X.1 X.2.1 dX4_lessenBy_71 rfl (lv_at hl 1 rfl) ?_
    refine q_callV (rest := [.int r_6, .int ((S_3 1 0) - (S_3 (q_rf (S_3 94 1) + 1) (q_rf 0))), .ref (G.1 + q1), .ref (G.1 + q_rf (S_3 94 1)), .ref (G.1 + q_rf (S_3 94 2)), .ref (G.1 + 1)]) (b := q1) X hK hP hS (c_X3_head l G q1 S_5 _ hq1 h) my_X3_head tl_X4_54 dX4_lessenBy_72 hq1 rfl rfl rfl ⟨Nat.le_of_ble_eq_true rfl, Nat.le_of_ble_eq_true rfl⟩ hl.1 rfl (Nat.le_of_ble_eq_true rfl) ⟨Nat.le_of_ble_eq_true rfl, Nat.le_of_ble_eq_true rfl⟩ (fun r_8 S_7 H locs h hP hS => ?_)
    refine W.eq (g2 := F0 m 75 ls [.int r_8, .int r_6, .int ((S_3 1 0) - (S_3 (q_rf (S_3 94 1) + 1) (q_rf 0))), .ref (G.1 + q1), .ref (G.1 + q_rf (S_3 94 1)), .ref (G.1 + q_rf (S_3 94 2)), .ref (G.1 + 1)]) rfl ?_
    refine lv_isub X.1 X.2.1 dX4_lessenBy_75 ?_
    obtain ⟨o_9, h⟩ := h
    refine q_callV (rest := []) (b := 1) X hK hP hS (c_X5_addMultiple l G (q_rf (S_3 94 2)) (q_rf (S_3 94 1)) q1 ((S_3 1 0) - (S_3 (q_rf (S_3 94 1) + 1) (q_rf 0))) (r_6 - r_8) S_7 _ o_9 o_4 hq1 h) my_X5_addMultiple tl_X4_84 dX4_lessenBy_76 kz_1 rfl rfl rfl ⟨Nat.le_of_ble_eq_true rfl, Nat.le_of_ble_eq_true rfl⟩ hl.1 rfl (Nat.le_of_ble_eq_true rfl) ⟨Nat.le_of_ble_eq_true rfl, Nat.le_of_ble_eq_true rfl⟩ (fun r_11 S_10 H locs h hP hS => ?_)
    refine W.eq (g2 := F0 m 79 ls [.int r_11]) rfl ?_
    refine lv_istore_n (lv' := [(2, .int r_11), (0, .ref (G.1 + 94)), (1, .ref (G.1 + q1))]) X.1 X.2.1 dX4_lessenBy_79 rfl hl (by decide) rfl (fun ls hl => ?_)
    refine lv_iload_n X.1 X.2.1 dX4_lessenBy_80 rfl (lv_at hl 0 rfl) ?_
    refine lv_if_eq (tgt := 86) X.1 X.2.1 dX4_lessenBy_81 (by decide) (fun c_12 => ?_) (fun c_12 => ?_)
    · have h := h.1 c_12
      refine lv_aload_n X.1 X.2.1 dX4_lessenBy_86 rfl (lv_at hl 1 rfl) ?_
      refine gf_X4_h X hK hP tl_X4_12 dX4_lessenBy_87 ?_
      refine lv_astore_n (lv' := [(3, .ref (G.1 + q_rf (S_10 94 1))), (2, .int r_11), (0, .ref (G.1 + 94)), (1, .ref (G.1 + q1))]) X.1 X.2.1 dX4_lessenBy_90 rfl hl (by decide) rfl (fun ls hl => ?_)
      refine lv_aload_n X.1 X.2.1 dX4_lessenBy_91 rfl (lv_at hl 2 rfl) ?_
      refine lv_aload_n X.1 X.2.1 dX4_lessenBy_92 rfl (lv_at hl 2 rfl) ?_
      refine gf_X4_lessened X hK hP tl_X4_18 dX4_lessenBy_93 ?_
      obtain ⟨o_14, h⟩ := h
      refine pf_X4_h X hK hP hS o_14 tl_X4_12 dX4_lessenBy_96 (fun S_13 H locs eS_13 hP hS => ?_)
      have h := h S_13 eS_13
      refine lv_aload_n X.1 X.2.1 dX4_lessenBy_99 rfl (lv_at hl 2 rfl) ?_
      refine lv_aload_n X.1 X.2.1 dX4_lessenBy_100 rfl (lv_at hl 0 rfl) ?_
      obtain ⟨o_16, h⟩ := h
      refine pf_X4_lessened X hK hP hS o_16 tl_X4_18 dX4_lessenBy_101 (fun S_15 H locs eS_15 hP hS => ?_)
      have h := h S_15 eS_15
      refine lv_iconst (v := 0) X.1 X.2.1 dX4_lessenBy_104 (by decide) ?_
      exact q_iret X hr hlocks hP hS rfl h dX4_lessenBy_105
    · have h := h.2 c_12
      refine lv_iload_n X.1 X.2.1 dX4_lessenBy_84 rfl (lv_at hl 0 rfl) ?_
      exact q_iret X hr hlocks hP hS rfl h dX4_lessenBy_85
  · have h := h.2 c_1
    refine lv_bipush (v := (-7)) X.1 X.2.1 dX4_lessenBy_11 (by decide) ?_
    exact q_iret X hr hlocks hP hS rfl h dX4_lessenBy_13

set_option maxHeartbeats 4000000 in
set_option maxRecDepth 100000 in
theorem c_X4_leave (l : Launch) (G : Cx) (q1 : Nat) (q2 : Nat) (x3 : Int32) (x4 : Int32) (S : St) (K : Int32 → St → Prop) (hq1 : isP q1) (hq2 : isR q2) (h : w_X4_leave q1 q2 x3 x4 S K) : q_Met l yX4_leave cX4_leave 8 (some .int) 4 98 G [.ref (G.1 + 94), .ref (G.1 + q1), .ref (G.1 + q2), .int x3, .int x4] v_i S K := by
  refine q_enter (by decide +kernel) (Nat.le_of_ble_eq_true rfl) (fun p e s m args below meth c ls X hK hP hr hlocks hl => ?_)
  have hS : va_S (fr_ G) s.heap s.heap [] := va_S.rf
  have hl : lv_has ls 8 [(0, .ref (G.1 + 94)), (1, .ref (G.1 + q1)), (2, .ref (G.1 + q2)), (3, .int x3), (4, .int x4)] := hl
  have B84 : ∀ (S : St) (ls : Array Slot), lv_has ls 8 [] → w_X4_leave_84 q1 q2 x3 x4 K S → q_W p l e (k2_rm 4 98) s m args below meth c 0 0 (MQ below (q_Qc G K v_i) args s 0 0 (fr_ G)) G 84 ls [] S := by
    intro S ls hl h H locs hP hS
    refine lv_iconst (v := 0) X.1 X.2.1 dX4_leave_84 (by decide) ?_
    exact q_iret X hr hlocks hP hS rfl h dX4_leave_85
  have B68 : ∀ (x5 : Int32) (z0 : Int32) (k19 : Int32 → St → Prop) (hk19 : ∀ (x5 : Int32) (S : St) (ls : Array Slot), lv_has ls 8 [(0, .ref (G.1 + 94)), (2, .ref (G.1 + q2)), (3, .int x3), (4, .int x4), (5, .int x5)] → k19 x5 S → q_W p l e (k2_rm 4 98) s m args below meth c 0 0 (MQ below (q_Qc G K v_i) args s 0 0 (fr_ G)) G 19 ls [] S) (S : St) (ls : Array Slot), lv_has ls 8 [(0, .ref (G.1 + 94)), (2, .ref (G.1 + q2)), (3, .int x3), (4, .int x4), (5, .int x5)] → w_X4_leave_68 q1 q2 x3 x4 K k19 x5 z0 S → q_W p l e (k2_rm 4 98) s m args below meth c 0 0 (MQ below (q_Qc G K v_i) args s 0 0 (fr_ G)) G 68 ls [.int z0] S := by
    intro x5 z0 k19 hk19 S ls hl h H locs hP hS
    refine lv_istore (lv' := [(7, .int z0), (0, .ref (G.1 + 94)), (2, .ref (G.1 + q2)), (3, .int x3), (4, .int x4), (5, .int x5)]) X.1 X.2.1 dX4_leave_68 hl (by decide) rfl (fun ls hl => ?_)
    refine lv_iload X.1 X.2.1 dX4_leave_70 (lv_at hl 0 rfl) ?_
    refine lv_if_eq (tgt := 78) X.1 X.2.1 dX4_leave_72 (by decide) (fun c_1 => ?_) (fun c_1 => ?_)
    · have h := h.1 c_1
      obtain ⟨x5_2, e5_2⟩ : ∃ y : Int32, y = x5 + 1 := ⟨_, rfl⟩
      have h := h x5_2 e5_2
      refine lv_iinc (v := x5_2) (lv' := [(5, .int x5_2), (7, .int z0), (0, .ref (G.1 + 94)), (2, .ref (G.1 + q2)), (3, .int x3), (4, .int x4)]) X.1 X.2.1 dX4_leave_78 hl (k := 5) rfl (by rw [e5_2]; first | rfl | decide) (by decide) rfl (fun ls hl => ?_)
      refine lv_goto (tgt := 19) X.1 X.2.1 dX4_leave_81 (by decide) ?_
      exact hk19 x5_2 S _ (lv_sub hl [2, 3, 4, 5, 0] rfl) h _ _ hP hS
    · have h := h.2 c_1
      refine lv_iload X.1 X.2.1 dX4_leave_75 (lv_at hl 0 rfl) ?_
      exact q_iret X hr hlocks hP hS rfl h dX4_leave_77
  have B19 : ∀ (f : Nat) (x5 : Int32) (S : St) (ls : Array Slot), lv_has ls 8 [(0, .ref (G.1 + 94)), (2, .ref (G.1 + q2)), (3, .int x3), (4, .int x4), (5, .int x5)] → q_it (fun _ _ => False) (w_X4_leave_19 q1 q2 x3 x4 K) f x5 S → q_W p l e (k2_rm 4 98) s m args below meth c 0 0 (MQ below (q_Qc G K v_i) args s 0 0 (fr_ G)) G 19 ls [] S := by
    intro f
    induction f with
    | zero => intro x5 S ls hl h; exact False.elim h
    | succ f hk19 =>
      intro x5 S ls hl h H locs hP hS
      have h : w_X4_leave_19 q1 q2 x3 x4 K (q_it (fun _ _ => False) (w_X4_leave_19 q1 q2 x3 x4 K) f) x5 S := h
      generalize q_it (fun _ _ => False) (w_X4_leave_19 q1 q2 x3 x4 K) f = k19 at h hk19
      refine lv_iload X.1 X.2.1 dX4_leave_19 (lv_at hl 4 rfl) ?_
      refine lv_sipush (v := 2041) X.1 X.2.1 dX4_leave_21 (by decide) ?_
      refine lv_icmp_ge (tgt := 84) X.1 X.2.1 dX4_leave_24 (by decide) (fun c_1 => ?_) (fun c_1 => ?_)
      · have h := h.1 c_1
        exact B84 S _ (lv_sub hl [] rfl) h _ _ hP hS
      · have h := h.2 c_1
        refine lv_aload_n X.1 X.2.1 dX4_leave_27 rfl (lv_at hl 0 rfl) ?_
        refine gf_X4_h X hK hP tl_X4_12 dX4_leave_28 ?_
        obtain ⟨o_2, h⟩ := h
        refine gf_X3_size X hK hP o_2 tl_X4_39 dX4_leave_31 ?_
        refine lv_if_le (tgt := 84) X.1 X.2.1 dX4_leave_34 (by decide) (fun c_3 => ?_) (fun c_3 => ?_)
        · have h := h.1 c_3
          exact B84 S _ (lv_sub hl [] rfl) h _ _ hP hS
        · have h := h.2 c_3
          refine lv_aload_n X.1 X.2.1 dX4_leave_37 rfl (lv_at hl 0 rfl) ?_
          refine lv_aload_n X.1 X.2.1 dX4_leave_38 rfl (lv_at hl 1 rfl) ?_
          refine lv_iload_n X.1 X.2.1 dX4_leave_39 rfl (lv_at hl 2 rfl) ?_
          refine lv_iload X.1 X.2.1 dX4_leave_40 (lv_at hl 3 rfl) ?_
          refine q_callV (rest := []) (b := 94) X hK hP hS (c_X4_firstDividing l G q2 x3 x4 S _ hq2 h) my_X4_firstDividing tl_X4_42 dX4_leave_42 kz_94 rfl rfl rfl ⟨Nat.le_of_ble_eq_true rfl, Nat.le_of_ble_eq_true rfl⟩ hl.1 rfl (Nat.le_of_ble_eq_true rfl) ⟨Nat.le_of_ble_eq_true rfl, Nat.le_of_ble_eq_true rfl⟩ (fun r_5 S_4 H locs h hP hS => ?_)
          refine W.eq (g2 := F0 m 45 ls [.int r_5]) rfl ?_
          refine lv_istore (lv' := [(6, .int r_5), (0, .ref (G.1 + 94)), (2, .ref (G.1 + q2)), (3, .int x3), (4, .int x4), (5, .int x5)]) X.1 X.2.1 dX4_leave_45 hl (by decide) rfl (fun ls hl => ?_)
          refine lv_iload X.1 X.2.1 dX4_leave_47 (lv_at hl 0 rfl) ?_
          refine lv_iconst (v := (-1)) X.1 X.2.1 dX4_leave_49 (by decide) ?_
          refine lv_icmp_ne (tgt := 60) X.1 X.2.1 dX4_leave_50 (by decide) (fun c_6 => ?_) (fun c_6 => ?_)
          · have h := h.1 c_6
            refine lv_aload_n X.1 X.2.1 dX4_leave_60 rfl (lv_at hl 1 rfl) ?_
            refine lv_aload_n X.1 X.2.1 dX4_leave_61 rfl (lv_at hl 2 rfl) ?_
            refine lv_iload X.1 X.2.1 dX4_leave_62 (lv_at hl 0 rfl) ?_
            obtain ⟨o_7, h⟩ := h
            refine q_aald X hK hP (isR_kd hq2) o_7 dX4_leave_64 ?_
            obtain ⟨o_8, h⟩ := h
            refine q_callV (rest := []) (b := 94) X hK hP hS (c_X4_lessenBy l G (pidx q2 (q_rf r_5)) S_4 _ o_8 h) my_X4_lessenBy tl_X4_50 dX4_leave_65 kz_94 rfl rfl rfl ⟨Nat.le_of_ble_eq_true rfl, Nat.le_of_ble_eq_true rfl⟩ hl.1 rfl (Nat.le_of_ble_eq_true rfl) ⟨Nat.le_of_ble_eq_true rfl, Nat.le_of_ble_eq_true rfl⟩ (fun r_10 S_9 H locs h hP hS => ?_)
            refine W.eq (g2 := F0 m 68 ls [.int r_10]) rfl ?_
            exact B68 x5 r_10 k19 hk19 S_9 _ (lv_sub hl [1, 2, 3, 4, 5] rfl) h _ _ hP hS
          · have h := h.2 c_6
            refine lv_aload_n X.1 X.2.1 dX4_leave_53 rfl (lv_at hl 1 rfl) ?_
            refine q_callV (rest := []) (b := 94) X hK hP hS (c_X4_moveHead l G S_4 _ h) my_X4_moveHead tl_X4_46 dX4_leave_54 kz_94 rfl rfl rfl ⟨Nat.le_of_ble_eq_true rfl, Nat.le_of_ble_eq_true rfl⟩ hl.1 rfl (Nat.le_of_ble_eq_true rfl) ⟨Nat.le_of_ble_eq_true rfl, Nat.le_of_ble_eq_true rfl⟩ (fun r_12 S_11 H locs h hP hS => ?_)
            refine W.eq (g2 := F0 m 57 ls [.int r_12]) rfl ?_
            refine lv_goto (tgt := 68) X.1 X.2.1 dX4_leave_57 (by decide) ?_
            exact B68 x5 r_12 k19 hk19 S_11 _ (lv_sub hl [1, 2, 3, 4, 5] rfl) h _ _ hP hS
  refine lv_aload_n X.1 X.2.1 dX4_leave_0 rfl (lv_at hl 0 rfl) ?_
  refine gf_X4_h X hK hP tl_X4_12 dX4_leave_1 ?_
  refine lv_aload_n X.1 X.2.1 dX4_leave_4 rfl (lv_at hl 1 rfl) ?_
  obtain ⟨o_1, h⟩ := h
  refine q_callV (rest := []) (b := q_rf (S 94 1)) X hK hP hS (c_X3_copyOf l G (q_rf (S 94 1)) q1 S _ o_1 hq1 h) my_X3_copyOf tl_X4_35 dX4_leave_5 o_1 rfl rfl rfl ⟨Nat.le_of_ble_eq_true rfl, Nat.le_of_ble_eq_true rfl⟩ hl.1 rfl (Nat.le_of_ble_eq_true rfl) ⟨Nat.le_of_ble_eq_true rfl, Nat.le_of_ble_eq_true rfl⟩ (fun r_3 S_2 H locs h hP hS => ?_)
  refine W.eq (g2 := F0 m 8 ls []) rfl ?_
  refine lv_aload_n X.1 X.2.1 dX4_leave_8 rfl (lv_at hl 0 rfl) ?_
  refine gf_X4_r X hK hP tl_X4_21 dX4_leave_9 ?_
  refine lv_iconst (v := 0) X.1 X.2.1 dX4_leave_12 (by decide) ?_
  refine pf_X3_size X hK hP hS kz_101 tl_X4_39 dX4_leave_13 (fun S_4 H locs eS_4 hP hS => ?_)
  have h := h S_4 eS_4
  refine lv_iconst (v := 0) X.1 X.2.1 dX4_leave_16 (by decide) ?_
  refine lv_istore (lv' := [(5, .int 0), (0, .ref (G.1 + 94)), (1, .ref (G.1 + q1)), (2, .ref (G.1 + q2)), (3, .int x3), (4, .int x4)]) X.1 X.2.1 dX4_leave_17 hl (by decide) rfl (fun ls hl => ?_)
  obtain ⟨f_5, h⟩ := h
  exact B19 f_5 0 S_4 _ (lv_sub hl [1, 3, 4, 5, 0] rfl) h _ _ hP hS

set_option maxHeartbeats 4000000 in
set_option maxRecDepth 100000 in
theorem c_X0_at (l : Launch) (G : Cx) (x1 : Int32) (S : St) (K : (Option Nat) → St → Prop) (h : w_X0_at x1 S K) : q_Met l yX0_at cX0_at 2 (some (.object "IdealBench$Poly")) 0 0 G [.ref (G.1 + 104), .int x1] (v_q G) S K := by
  refine q_enter (by decide +kernel) (Nat.le_of_ble_eq_true rfl) (fun p e s m args below meth c ls X hK hP hr hlocks hl => ?_)
  have hS : va_S (fr_ G) s.heap s.heap [] := va_S.rf
  have hl : lv_has ls 2 [(0, .ref (G.1 + 104)), (1, .int x1)] := hl
  have B21 : ∀ (S : St) (ls : Array Slot), lv_has ls 2 [] → w_X0_at_21 x1 K S → q_W p l e (k2_rm 0 0) s m args below meth c 0 0 (MQ below (q_Qc G K (v_q G)) args s 0 0 (fr_ G)) G 21 ls [] S := by
    intro S ls hl h H locs hP hS
    refine lv_null X.1 X.2.1 dX0_at_21 ?_
    exact q_nret X hr hlocks hP hS h dX0_at_22
  refine lv_iload_n X.1 X.2.1 dX0_at_0 rfl (lv_at hl 1 rfl) ?_
  refine lv_if_lt (tgt := 21) X.1 X.2.1 dX0_at_1 (by decide) (fun c_1 => ?_) (fun c_1 => ?_)
  · have h := h.1 c_1
    exact B21 S _ (lv_sub hl [] rfl) h _ _ hP hS
  · have h := h.2 c_1
    refine lv_iload_n X.1 X.2.1 dX0_at_4 rfl (lv_at hl 1 rfl) ?_
    refine lv_aload_n X.1 X.2.1 dX0_at_5 rfl (lv_at hl 0 rfl) ?_
    refine gf_X0_size X hK hP tl_X0_44 dX0_at_6 ?_
    refine lv_icmp_ge (tgt := 21) X.1 X.2.1 dX0_at_9 (by decide) (fun c_2 => ?_) (fun c_2 => ?_)
    · have h := h.1 c_2
      exact B21 S _ (lv_sub hl [] rfl) h _ _ hP hS
    · have h := h.2 c_2
      refine lv_aload_n X.1 X.2.1 dX0_at_12 rfl (lv_at hl 0 rfl) ?_
      refine gf_X0_rows X hK hP tl_X0_20 dX0_at_13 ?_
      refine lv_iload_n X.1 X.2.1 dX0_at_16 rfl (lv_at hl 1 rfl) ?_
      obtain ⟨o_3, h⟩ := h
      obtain ⟨o_4, h⟩ := h
      refine q_aald X hK hP (isR_kd o_3) o_4 dX0_at_17 ?_
      refine lv_goto (tgt := 22) X.1 X.2.1 dX0_at_18 (by decide) ?_
      exact q_aret X hr hlocks hP hS h dX0_at_22

set_option maxHeartbeats 4000000 in
set_option maxRecDepth 100000 in
theorem c_X0_isFull (l : Launch) (G : Cx) (S : St) (K : Int32 → St → Prop) (h : w_X0_isFull S K) : q_Met l yX0_isFull cX0_isFull 1 (some .boolean) 0 0 G [.ref (G.1 + 104)] v_i S K := by
  refine q_enter (by decide +kernel) (Nat.le_of_ble_eq_true rfl) (fun p e s m args below meth c ls X hK hP hr hlocks hl => ?_)
  have hS : va_S (fr_ G) s.heap s.heap [] := va_S.rf
  have hl : lv_has ls 1 [(0, .ref (G.1 + 104))] := hl
  refine lv_aload_n X.1 X.2.1 dX0_isFull_0 rfl (lv_at hl 0 rfl) ?_
  refine gf_X0_size X hK hP tl_X0_44 dX0_isFull_1 ?_
  refine lv_bipush (v := 18) X.1 X.2.1 dX0_isFull_4 (by decide) ?_
  refine lv_icmp_lt (tgt := 13) X.1 X.2.1 dX0_isFull_6 (by decide) (fun c_1 => ?_) (fun c_1 => ?_)
  · have h := h.1 c_1
    refine lv_iconst (v := 0) X.1 X.2.1 dX0_isFull_13 (by decide) ?_
    exact q_iret X hr hlocks hP hS rfl h dX0_isFull_14
  · have h := h.2 c_1
    refine lv_iconst (v := 1) X.1 X.2.1 dX0_isFull_9 (by decide) ?_
    refine lv_goto (tgt := 14) X.1 X.2.1 dX0_isFull_10 (by decide) ?_
    exact q_iret X hr hlocks hP hS rfl h dX0_isFull_14

set_option maxHeartbeats 4000000 in
set_option maxRecDepth 100000 in
theorem c_X0_empty (l : Launch) (G : Cx) (S : St) (K : Int32 → St → Prop) (h : w_X0_empty S K) : q_Met l yX0_empty cX0_empty 2 (some .int) 0 0 G [.ref (G.1 + 104)] v_i S K := by
  refine q_enter (by decide +kernel) (Nat.le_of_ble_eq_true rfl) (fun p e s m args below meth c ls X hK hP hr hlocks hl => ?_)
  have hS : va_S (fr_ G) s.heap s.heap [] := va_S.rf
  have hl : lv_has ls 2 [(0, .ref (G.1 + 104))] := hl
  refine lv_aload_n X.1 X.2.1 dX0_empty_0 rfl (lv_at hl 0 rfl) ?_
  refine gf_X0_size X hK hP tl_X0_44 dX0_empty_1 ?_
  refine lv_topi (fun x1_1 e1_1 => ?_)
  have h := h x1_1 e1_1
  refine lv_istore_n (lv' := [(1, .int x1_1), (0, .ref (G.1 + 104))]) X.1 X.2.1 dX0_empty_4 rfl hl (by decide) rfl (fun ls hl => ?_)
  refine lv_aload_n X.1 X.2.1 dX0_empty_5 rfl (lv_at hl 1 rfl) ?_
  refine lv_iconst (v := 0) X.1 X.2.1 dX0_empty_6 (by decide) ?_
  refine pf_X0_size X hK hP hS tl_X0_44 dX0_empty_7 (fun S_2 H locs eS_2 hP hS => ?_)
  have h := h S_2 eS_2
  refine lv_aload_n X.1 X.2.1 dX0_empty_10 rfl (lv_at hl 1 rfl) ?_
  refine gf_X0_pairs X hK hP tl_X0_12 dX0_empty_11 ?_
  refine lv_iconst (v := 0) X.1 X.2.1 dX0_empty_14 (by decide) ?_
  refine pf_X2_size X hK hP hS tl_X0_48 dX0_empty_15 (fun S_3 H locs eS_3 hP hS => ?_)
  have h := h S_3 eS_3
  refine lv_aload_n X.1 X.2.1 dX0_empty_18 rfl (lv_at hl 1 rfl) ?_
  refine lv_iconst (v := 0) X.1 X.2.1 dX0_empty_19 (by decide) ?_
  refine pf_X0_isTidy X hK hP hS ⟨rfl, rfl⟩ tl_X0_49 dX0_empty_20 (fun S_4 H locs eS_4 hP hS => ?_)
  have h := h S_4 eS_4
  refine lv_iload_n X.1 X.2.1 dX0_empty_23 rfl (lv_at hl 0 rfl) ?_
  exact q_iret X hr hlocks hP hS rfl h dX0_empty_24

set_option maxHeartbeats 4000000 in
set_option maxRecDepth 100000 in
theorem c_X0_take (l : Launch) (G : Cx) (q1 : Nat) (S : St) (K : Int32 → St → Prop) (hq1 : isP q1) (h : w_X0_take q1 S K) : q_Met l yX0_take cX0_take 3 (some .int) 3 69 G [.ref (G.1 + 104), .ref (G.1 + q1)] v_i S K := by
  refine q_enter (by decide +kernel) (Nat.le_of_ble_eq_true rfl) (fun p e s m args below meth c ls X hK hP hr hlocks hl => ?_)
  have hS : va_S (fr_ G) s.heap s.heap [] := va_S.rf
  have hl : lv_has ls 3 [(0, .ref (G.1 + 104)), (1, .ref (G.1 + q1))] := hl
  refine lv_aload_n X.1 X.2.1 dX0_take_0 rfl (lv_at hl 0 rfl) ?_
  refine q_callV (rest := []) (b := 104) X hK hP hS (c_X0_isFull l G S _ h) my_X0_isFull tl_X0_53 dX0_take_1 kz_104 rfl rfl rfl ⟨Nat.le_of_ble_eq_true rfl, Nat.le_of_ble_eq_true rfl⟩ hl.1 rfl (Nat.le_of_ble_eq_true rfl) ⟨Nat.le_of_ble_eq_true rfl, Nat.le_of_ble_eq_true rfl⟩ (fun r_2 S_1 H locs h hP hS => ?_)
  refine W.eq (g2 := F0 m 4 ls [.int r_2]) rfl ?_
  refine lv_if_eq (tgt := 10) X.1 X.2.1 dX0_take_4 (by decide) (fun c_3 => ?_) (fun c_3 => ?_)
  · have h := h.1 c_3
    refine lv_aload_n X.1 X.2.1 dX0_take_10 rfl (lv_at hl 0 rfl) ?_
    refine gf_X0_size X hK hP tl_X0_44 dX0_take_11 ?_
    refine lv_topi (fun x2_4 e2_4 => ?_)
    have h := h x2_4 e2_4
    refine lv_istore_n (lv' := [(2, .int x2_4), (0, .ref (G.1 + 104)), (1, .ref (G.1 + q1))]) X.1 X.2.1 dX0_take_14 rfl hl (by decide) rfl (fun ls hl => ?_)
    refine lv_aload_n X.1 X.2.1 dX0_take_15 rfl (lv_at hl 1 rfl) ?_
    refine gf_X0_rows X hK hP tl_X0_20 dX0_take_16 ?_
    refine lv_iload_n X.1 X.2.1 dX0_take_19 rfl (lv_at hl 0 rfl) ?_
    obtain ⟨o_5, h⟩ := h
    obtain ⟨o_6, h⟩ := h
    refine q_aald X hK hP (isR_kd o_5) o_6 dX0_take_20 ?_
    refine lv_aload_n X.1 X.2.1 dX0_take_21 rfl (lv_at hl 2 rfl) ?_
    obtain ⟨o_7, h⟩ := h
    refine q_callV (rest := []) (b := (pidx (q_rf (S_1 104 3)) (q_rf x2_4))) X hK hP hS (c_X3_copyOf l G (pidx (q_rf (S_1 104 3)) (q_rf x2_4)) q1 S_1 _ o_7 hq1 h) my_X3_copyOf tl_X0_57 dX0_take_22 o_7 rfl rfl rfl ⟨Nat.le_of_ble_eq_true rfl, Nat.le_of_ble_eq_true rfl⟩ hl.1 rfl (Nat.le_of_ble_eq_true rfl) ⟨Nat.le_of_ble_eq_true rfl, Nat.le_of_ble_eq_true rfl⟩ (fun r_9 S_8 H locs h hP hS => ?_)
    refine W.eq (g2 := F0 m 25 ls []) rfl ?_
    refine lv_aload_n X.1 X.2.1 dX0_take_25 rfl (lv_at hl 1 rfl) ?_
    refine gf_X0_ring X hK hP tl_X0_36 dX0_take_26 ?_
    refine lv_aload_n X.1 X.2.1 dX0_take_29 rfl (lv_at hl 1 rfl) ?_
    refine gf_X0_rows X hK hP tl_X0_20 dX0_take_30 ?_
    refine lv_iload_n X.1 X.2.1 dX0_take_33 rfl (lv_at hl 0 rfl) ?_
    obtain ⟨o_10, h⟩ := h
    refine q_aald X hK hP (isR_kd o_10) o_6 dX0_take_34 ?_
    obtain ⟨o_11, h⟩ := h
    refine q_callV (rest := []) (b := 1) X hK hP hS (c_X5_makeMonic l G (pidx (q_rf (S_8 104 3)) (q_rf x2_4)) S_8 _ o_11 h) my_X5_makeMonic tl_X0_61 dX0_take_35 kz_1 rfl rfl rfl ⟨Nat.le_of_ble_eq_true rfl, Nat.le_of_ble_eq_true rfl⟩ hl.1 rfl (Nat.le_of_ble_eq_true rfl) ⟨Nat.le_of_ble_eq_true rfl, Nat.le_of_ble_eq_true rfl⟩ (fun r_13 S_12 H locs h hP hS => ?_)
    refine W.eq (g2 := F0 m 38 ls []) rfl ?_
    refine lv_aload_n X.1 X.2.1 dX0_take_38 rfl (lv_at hl 1 rfl) ?_
    refine lv_dup X.1 X.2.1 dX0_take_39 rfl ?_
    refine gf_X0_size X hK hP tl_X0_44 dX0_take_40 ?_
    refine lv_iconst (v := 1) X.1 X.2.1 dX0_take_43 (by decide) ?_
    refine lv_iadd X.1 X.2.1 dX0_take_44 ?_
    refine pf_X0_size X hK hP hS tl_X0_44 dX0_take_45 (fun S_14 H locs eS_14 hP hS => ?_)
    have h := h S_14 eS_14
    refine lv_aload_n X.1 X.2.1 dX0_take_48 rfl (lv_at hl 1 rfl) ?_
    refine gf_X0_pairs X hK hP tl_X0_12 dX0_take_49 ?_
    refine lv_iload_n X.1 X.2.1 dX0_take_52 rfl (lv_at hl 0 rfl) ?_
    refine q_callV (rest := []) (b := 105) X hK hP hS (c_X2_comeWith l G x2_4 S_14 _ h) my_X2_comeWith tl_X0_66 dX0_take_53 kz_105 rfl rfl rfl ⟨Nat.le_of_ble_eq_true rfl, Nat.le_of_ble_eq_true rfl⟩ hl.1 rfl (Nat.le_of_ble_eq_true rfl) ⟨Nat.le_of_ble_eq_true rfl, Nat.le_of_ble_eq_true rfl⟩ (fun r_16 S_15 H locs h hP hS => ?_)
    refine W.eq (g2 := F0 m 56 ls []) rfl ?_
    refine lv_iload_n X.1 X.2.1 dX0_take_56 rfl (lv_at hl 0 rfl) ?_
    exact q_iret X hr hlocks hP hS rfl h dX0_take_57
  · have h := h.2 c_3
    refine lv_bipush (v := (-4)) X.1 X.2.1 dX0_take_7 (by decide) ?_
    exact q_iret X hr hlocks hP hS rfl h dX0_take_9

set_option maxHeartbeats 4000000 in
set_option maxRecDepth 100000 in
theorem c_X0_multipleOf (l : Launch) (G : Cx) (x1 : Int32) (S : St) (K : Int32 → St → Prop) (h : w_X0_multipleOf x1 S K) : q_Met l yX0_multipleOf cX0_multipleOf 2 (some .int) 2 44 G [.ref (G.1 + 104), .int x1] v_i S K := by
  refine q_enter (by decide +kernel) (Nat.le_of_ble_eq_true rfl) (fun p e s m args below meth c ls X hK hP hr hlocks hl => ?_)
  have hS : va_S (fr_ G) s.heap s.heap [] := va_S.rf
  have hl : lv_has ls 2 [(0, .ref (G.1 + 104)), (1, .int x1)] := hl
  refine lv_aload_n X.1 X.2.1 dX0_multipleOf_0 rfl (lv_at hl 0 rfl) ?_
  refine gf_X0_rows X hK hP tl_X0_20 dX0_multipleOf_1 ?_
  refine lv_aload_n X.1 X.2.1 dX0_multipleOf_4 rfl (lv_at hl 0 rfl) ?_
  refine gf_X0_pairs X hK hP tl_X0_12 dX0_multipleOf_5 ?_
  refine gf_X2_firsts X hK hP tl_X0_111 dX0_multipleOf_8 ?_
  refine lv_iload_n X.1 X.2.1 dX0_multipleOf_11 rfl (lv_at hl 1 rfl) ?_
  obtain ⟨o_1, h⟩ := h
  refine q_iald X hK hP kz_106 o_1 dX0_multipleOf_12 ?_
  obtain ⟨o_2, h⟩ := h
  obtain ⟨o_3, h⟩ := h
  refine q_aald X hK hP (isR_kd o_2) o_3 dX0_multipleOf_13 ?_
  obtain ⟨o_4, h⟩ := h
  refine q_callV (rest := []) (b := (pidx (q_rf (S 104 3)) (q_rf (S 106 (q_rf x1))))) X hK hP hS (c_X3_head l G (pidx (q_rf (S 104 3)) (q_rf (S 106 (q_rf x1)))) S _ o_4 h) my_X3_head tl_X0_114 dX0_multipleOf_14 o_4 rfl rfl rfl ⟨Nat.le_of_ble_eq_true rfl, Nat.le_of_ble_eq_true rfl⟩ hl.1 rfl (Nat.le_of_ble_eq_true rfl) ⟨Nat.le_of_ble_eq_true rfl, Nat.le_of_ble_eq_true rfl⟩ (fun r_6 S_5 H locs h hP hS => ?_)
  refine W.eq (g2 := F0 m 17 ls [.int r_6]) rfl ?_
  refine lv_aload_n X.1 X.2.1 dX0_multipleOf_17 rfl (lv_at hl 0 rfl) ?_
  refine gf_X0_rows X hK hP tl_X0_20 dX0_multipleOf_18 ?_
  refine lv_aload_n X.1 X.2.1 dX0_multipleOf_21 rfl (lv_at hl 0 rfl) ?_
  refine gf_X0_pairs X hK hP tl_X0_12 dX0_multipleOf_22 ?_
  refine gf_X2_seconds X hK hP tl_X0_117 dX0_multipleOf_25 ?_
  refine lv_iload_n X.1 X.2.1 dX0_multipleOf_28 rfl (lv_at hl 1 rfl) ?_
  refine q_iald X hK hP kz_107 o_1 dX0_multipleOf_29 ?_
  obtain ⟨o_7, h⟩ := h
  obtain ⟨o_8, h⟩ := h
  refine q_aald X hK hP (isR_kd o_7) o_8 dX0_multipleOf_30 ?_
  obtain ⟨o_9, h⟩ := h
  refine q_callV (rest := [.int r_6]) (b := (pidx (q_rf (S_5 104 3)) (q_rf (S_5 107 (q_rf x1))))) X hK hP hS (c_X3_head l G (pidx (q_rf (S_5 104 3)) (q_rf (S_5 107 (q_rf x1)))) S_5 _ o_9 h) my_X3_head tl_X0_114 dX0_multipleOf_31 o_9 rfl rfl rfl ⟨Nat.le_of_ble_eq_true rfl, Nat.le_of_ble_eq_true rfl⟩ hl.1 rfl (Nat.le_of_ble_eq_true rfl) ⟨Nat.le_of_ble_eq_true rfl, Nat.le_of_ble_eq_true rfl⟩ (fun r_11 S_10 H locs h hP hS => ?_)
  refine W.eq (g2 := F0 m 34 ls [.int r_11, .int r_6]) rfl ?_
  refine q_callS (rest := []) X hK hP hS (c_X1_leastMultiple l G r_6 r_11 S_10 _ h) my_X1_leastMultiple tl_X0_120 dX0_multipleOf_34 rfl ⟨Nat.le_of_ble_eq_true rfl, Nat.le_of_ble_eq_true rfl⟩ hl.1 rfl (Nat.le_of_ble_eq_true rfl) ⟨Nat.le_of_ble_eq_true rfl, Nat.le_of_ble_eq_true rfl⟩ (fun r_13 S_12 H locs h hP hS => ?_)
  refine W.eq (g2 := F0 m 37 ls [.int r_13]) rfl ?_
  exact q_iret X hr hlocks hP hS rfl h dX0_multipleOf_37

set_option maxHeartbeats 4000000 in
set_option maxRecDepth 100000 in
theorem c_X0_nextPair (l : Launch) (G : Cx) (S : St) (K : Int32 → St → Prop) (h : w_X0_nextPair S K) : q_Met l yX0_nextPair cX0_nextPair 3 (some .int) 3 65 G [.ref (G.1 + 104)] v_i S K := by
  refine q_enter (by decide +kernel) (Nat.le_of_ble_eq_true rfl) (fun p e s m args below meth c ls X hK hP hr hlocks hl => ?_)
  have hS : va_S (fr_ G) s.heap s.heap [] := va_S.rf
  have hl : lv_has ls 3 [(0, .ref (G.1 + 104))] := hl
  have B58 : ∀ (x1 : Int32) (S : St) (ls : Array Slot), lv_has ls 3 [(1, .int x1)] → w_X0_nextPair_58 K x1 S → q_W p l e (k2_rm 3 65) s m args below meth c 0 0 (MQ below (q_Qc G K v_i) args s 0 0 (fr_ G)) G 58 ls [] S := by
    intro x1 S ls hl h H locs hP hS
    refine lv_iload_n X.1 X.2.1 dX0_nextPair_58 rfl (lv_at hl 0 rfl) ?_
    exact q_iret X hr hlocks hP hS rfl h dX0_nextPair_59
  have B52 : ∀ (x1 : Int32) (x2 : Int32) (k12 : Int32 → Int32 → St → Prop) (hk12 : ∀ (x1 : Int32) (x2 : Int32) (S : St) (ls : Array Slot), lv_has ls 3 [(0, .ref (G.1 + 104)), (1, .int x1), (2, .int x2)] → k12 x1 x2 S → q_W p l e (k2_rm 3 65) s m args below meth c 0 0 (MQ below (q_Qc G K v_i) args s 0 0 (fr_ G)) G 12 ls [] S) (S : St) (ls : Array Slot), lv_has ls 3 [(0, .ref (G.1 + 104)), (1, .int x1), (2, .int x2)] → w_X0_nextPair_52 K k12 x1 x2 S → q_W p l e (k2_rm 3 65) s m args below meth c 0 0 (MQ below (q_Qc G K v_i) args s 0 0 (fr_ G)) G 52 ls [] S := by
    intro x1 x2 k12 hk12 S ls hl h H locs hP hS
    obtain ⟨x2_1, e2_1⟩ : ∃ y : Int32, y = x2 + 1 := ⟨_, rfl⟩
    have h := h x2_1 e2_1
    refine lv_iinc (v := x2_1) (lv' := [(2, .int x2_1), (0, .ref (G.1 + 104)), (1, .int x1)]) X.1 X.2.1 dX0_nextPair_52 hl (k := 2) rfl (by rw [e2_1]; first | rfl | decide) (by decide) rfl (fun ls hl => ?_)
    refine lv_goto (tgt := 12) X.1 X.2.1 dX0_nextPair_55 (by decide) ?_
    exact hk12 x1 x2_1 S _ (lv_sub hl [1, 2, 0] rfl) h _ _ hP hS
  have B12 : ∀ (f : Nat) (x1 : Int32) (x2 : Int32) (S : St) (ls : Array Slot), lv_has ls 3 [(0, .ref (G.1 + 104)), (1, .int x1), (2, .int x2)] → q_it (fun _ _ _ => False) (w_X0_nextPair_12 K) f x1 x2 S → q_W p l e (k2_rm 3 65) s m args below meth c 0 0 (MQ below (q_Qc G K v_i) args s 0 0 (fr_ G)) G 12 ls [] S := by
    intro f
    induction f with
    | zero => intro x1 x2 S ls hl h; exact False.elim h
    | succ f hk12 =>
      intro x1 x2 S ls hl h H locs hP hS
      have h : w_X0_nextPair_12 K (q_it (fun _ _ _ => False) (w_X0_nextPair_12 K) f) x1 x2 S := h
      generalize q_it (fun _ _ _ => False) (w_X0_nextPair_12 K) f = k12 at h hk12
      refine lv_iload_n X.1 X.2.1 dX0_nextPair_12 rfl (lv_at hl 2 rfl) ?_
      refine lv_aload_n X.1 X.2.1 dX0_nextPair_13 rfl (lv_at hl 0 rfl) ?_
      refine gf_X0_pairs X hK hP tl_X0_12 dX0_nextPair_14 ?_
      refine gf_X2_size X hK hP tl_X0_48 dX0_nextPair_17 ?_
      refine lv_icmp_ge (tgt := 58) X.1 X.2.1 dX0_nextPair_20 (by decide) (fun c_1 => ?_) (fun c_1 => ?_)
      · have h := h.1 c_1
        exact B58 x1 S _ (lv_sub hl [1] rfl) h _ _ hP hS
      · have h := h.2 c_1
        refine lv_aload_n X.1 X.2.1 dX0_nextPair_23 rfl (lv_at hl 0 rfl) ?_
        refine gf_X0_ring X hK hP tl_X0_36 dX0_nextPair_24 ?_
        refine lv_aload_n X.1 X.2.1 dX0_nextPair_27 rfl (lv_at hl 0 rfl) ?_
        refine lv_iload_n X.1 X.2.1 dX0_nextPair_28 rfl (lv_at hl 2 rfl) ?_
        refine q_callV (rest := [.ref (G.1 + 1)]) (b := 104) X hK hP hS (c_X0_multipleOf l G x2 S _ h) my_X0_multipleOf tl_X0_105 dX0_nextPair_29 kz_104 rfl rfl rfl ⟨Nat.le_of_ble_eq_true rfl, Nat.le_of_ble_eq_true rfl⟩ hl.1 rfl (Nat.le_of_ble_eq_true rfl) ⟨Nat.le_of_ble_eq_true rfl, Nat.le_of_ble_eq_true rfl⟩ (fun r_3 S_2 H locs h hP hS => ?_)
        refine W.eq (g2 := F0 m 32 ls [.int r_3, .ref (G.1 + 1)]) rfl ?_
        refine q_callV (rest := []) (b := 1) X hK hP hS (c_X5_rank l G r_3 S_2 _ h) my_X5_rank tl_X0_108 dX0_nextPair_32 kz_1 rfl rfl rfl ⟨Nat.le_of_ble_eq_true rfl, Nat.le_of_ble_eq_true rfl⟩ hl.1 rfl (Nat.le_of_ble_eq_true rfl) ⟨Nat.le_of_ble_eq_true rfl, Nat.le_of_ble_eq_true rfl⟩ (fun r_5 S_4 H locs h hP hS => ?_)
        refine W.eq (g2 := F0 m 35 ls [.int r_5]) rfl ?_
        refine lv_aload_n X.1 X.2.1 dX0_nextPair_35 rfl (lv_at hl 0 rfl) ?_
        refine gf_X0_ring X hK hP tl_X0_36 dX0_nextPair_36 ?_
        refine lv_aload_n X.1 X.2.1 dX0_nextPair_39 rfl (lv_at hl 0 rfl) ?_
        refine lv_iload_n X.1 X.2.1 dX0_nextPair_40 rfl (lv_at hl 1 rfl) ?_
        refine q_callV (rest := [.ref (G.1 + 1), .int r_5]) (b := 104) X hK hP hS (c_X0_multipleOf l G x1 S_4 _ h) my_X0_multipleOf tl_X0_105 dX0_nextPair_41 kz_104 rfl rfl rfl ⟨Nat.le_of_ble_eq_true rfl, Nat.le_of_ble_eq_true rfl⟩ hl.1 rfl (Nat.le_of_ble_eq_true rfl) ⟨Nat.le_of_ble_eq_true rfl, Nat.le_of_ble_eq_true rfl⟩ (fun r_7 S_6 H locs h hP hS => ?_)
        refine W.eq (g2 := F0 m 44 ls [.int r_7, .ref (G.1 + 1), .int r_5]) rfl ?_
        refine q_callV (rest := [.int r_5]) (b := 1) X hK hP hS (c_X5_rank l G r_7 S_6 _ h) my_X5_rank tl_X0_108 dX0_nextPair_44 kz_1 rfl rfl rfl ⟨Nat.le_of_ble_eq_true rfl, Nat.le_of_ble_eq_true rfl⟩ hl.1 rfl (Nat.le_of_ble_eq_true rfl) ⟨Nat.le_of_ble_eq_true rfl, Nat.le_of_ble_eq_true rfl⟩ (fun r_9 S_8 H locs h hP hS => ?_)
        refine W.eq (g2 := F0 m 47 ls [.int r_9, .int r_5]) rfl ?_
        refine lv_icmp_ge (tgt := 52) X.1 X.2.1 dX0_nextPair_47 (by decide) (fun c_10 => ?_) (fun c_10 => ?_)
        · have h := h.1 c_10
          exact B52 x1 x2 k12 hk12 S_8 _ (lv_sub hl [0, 1, 2] rfl) h _ _ hP hS
        · have h := h.2 c_10
          refine lv_iload_n X.1 X.2.1 dX0_nextPair_50 rfl (lv_at hl 2 rfl) ?_
          refine lv_istore_n (lv' := [(1, .int x2), (0, .ref (G.1 + 104)), (2, .int x2)]) X.1 X.2.1 dX0_nextPair_51 rfl hl (by decide) rfl (fun ls hl => ?_)
          exact B52 x2 x2 k12 hk12 S_8 _ (lv_sub hl [1, 0, 2] rfl) h _ _ hP hS
  refine lv_iconst (v := 0) X.1 X.2.1 dX0_nextPair_0 (by decide) ?_
  refine lv_istore_n (lv' := [(1, .int 0), (0, .ref (G.1 + 104))]) X.1 X.2.1 dX0_nextPair_1 rfl hl (by decide) rfl (fun ls hl => ?_)
  refine lv_aload_n X.1 X.2.1 dX0_nextPair_2 rfl (lv_at hl 1 rfl) ?_
  refine gf_X0_way X hK hP tl_X0_102 dX0_nextPair_3 ?_
  refine lv_iconst (v := 1) X.1 X.2.1 dX0_nextPair_6 (by decide) ?_
  refine lv_icmp_ne (tgt := 58) X.1 X.2.1 dX0_nextPair_7 (by decide) (fun c_1 => ?_) (fun c_1 => ?_)
  · have h := h.1 c_1
    exact B58 0 S _ (lv_sub hl [0] rfl) h _ _ hP hS
  · have h := h.2 c_1
    refine lv_iconst (v := 1) X.1 X.2.1 dX0_nextPair_10 (by decide) ?_
    refine lv_istore_n (lv' := [(2, .int 1), (1, .int 0), (0, .ref (G.1 + 104))]) X.1 X.2.1 dX0_nextPair_11 rfl hl (by decide) rfl (fun ls hl => ?_)
    obtain ⟨f_2, h⟩ := h
    exact B12 f_2 0 1 S _ (lv_sub hl [2, 1, 0] rfl) h _ _ hP hS

set_option maxHeartbeats 4000000 in
set_option maxRecDepth 100000 in
theorem c_X0_isCoprime (l : Launch) (G : Cx) (x1 : Int32) (S : St) (K : Int32 → St → Prop) (h : w_X0_isCoprime x1 S K) : q_Met l yX0_isCoprime cX0_isCoprime 2 (some .boolean) 3 65 G [.ref (G.1 + 104), .int x1] v_i S K := by
  refine q_enter (by decide +kernel) (Nat.le_of_ble_eq_true rfl) (fun p e s m args below meth c ls X hK hP hr hlocks hl => ?_)
  have hS : va_S (fr_ G) s.heap s.heap [] := va_S.rf
  have hl : lv_has ls 2 [(0, .ref (G.1 + 104)), (1, .int x1)] := hl
  refine lv_aload_n X.1 X.2.1 dX0_isCoprime_0 rfl (lv_at hl 0 rfl) ?_
  refine lv_iload_n X.1 X.2.1 dX0_isCoprime_1 rfl (lv_at hl 1 rfl) ?_
  refine q_callV (rest := []) (b := 104) X hK hP hS (c_X0_multipleOf l G x1 S _ h) my_X0_multipleOf tl_X0_105 dX0_isCoprime_2 kz_104 rfl rfl rfl ⟨Nat.le_of_ble_eq_true rfl, Nat.le_of_ble_eq_true rfl⟩ hl.1 rfl (Nat.le_of_ble_eq_true rfl) ⟨Nat.le_of_ble_eq_true rfl, Nat.le_of_ble_eq_true rfl⟩ (fun r_2 S_1 H locs h hP hS => ?_)
  refine W.eq (g2 := F0 m 5 ls [.int r_2]) rfl ?_
  refine lv_aload_n X.1 X.2.1 dX0_isCoprime_5 rfl (lv_at hl 0 rfl) ?_
  refine gf_X0_rows X hK hP tl_X0_20 dX0_isCoprime_6 ?_
  refine lv_aload_n X.1 X.2.1 dX0_isCoprime_9 rfl (lv_at hl 0 rfl) ?_
  refine gf_X0_pairs X hK hP tl_X0_12 dX0_isCoprime_10 ?_
  refine gf_X2_firsts X hK hP tl_X0_111 dX0_isCoprime_13 ?_
  refine lv_iload_n X.1 X.2.1 dX0_isCoprime_16 rfl (lv_at hl 1 rfl) ?_
  obtain ⟨o_3, h⟩ := h
  refine q_iald X hK hP kz_106 o_3 dX0_isCoprime_17 ?_
  obtain ⟨o_4, h⟩ := h
  obtain ⟨o_5, h⟩ := h
  refine q_aald X hK hP (isR_kd o_4) o_5 dX0_isCoprime_18 ?_
  obtain ⟨o_6, h⟩ := h
  refine q_callV (rest := [.int r_2]) (b := (pidx (q_rf (S_1 104 3)) (q_rf (S_1 106 (q_rf x1))))) X hK hP hS (c_X3_head l G (pidx (q_rf (S_1 104 3)) (q_rf (S_1 106 (q_rf x1)))) S_1 _ o_6 h) my_X3_head tl_X0_114 dX0_isCoprime_19 o_6 rfl rfl rfl ⟨Nat.le_of_ble_eq_true rfl, Nat.le_of_ble_eq_true rfl⟩ hl.1 rfl (Nat.le_of_ble_eq_true rfl) ⟨Nat.le_of_ble_eq_true rfl, Nat.le_of_ble_eq_true rfl⟩ (fun r_8 S_7 H locs h hP hS => ?_)
  refine W.eq (g2 := F0 m 22 ls [.int r_8, .int r_2]) rfl ?_
  refine lv_aload_n X.1 X.2.1 dX0_isCoprime_22 rfl (lv_at hl 0 rfl) ?_
  refine gf_X0_rows X hK hP tl_X0_20 dX0_isCoprime_23 ?_
  refine lv_aload_n X.1 X.2.1 dX0_isCoprime_26 rfl (lv_at hl 0 rfl) ?_
  refine gf_X0_pairs X hK hP tl_X0_12 dX0_isCoprime_27 ?_
  refine gf_X2_seconds X hK hP tl_X0_117 dX0_isCoprime_30 ?_
  refine lv_iload_n X.1 X.2.1 dX0_isCoprime_33 rfl (lv_at hl 1 rfl) ?_
  refine q_iald X hK hP kz_107 o_3 dX0_isCoprime_34 ?_
  obtain ⟨o_9, h⟩ := h
  obtain ⟨o_10, h⟩ := h
  refine q_aald X hK hP (isR_kd o_9) o_10 dX0_isCoprime_35 ?_
  obtain ⟨o_11, h⟩ := h
  refine q_callV (rest := [.int r_8, .int r_2]) (b := (pidx (q_rf (S_7 104 3)) (q_rf (S_7 107 (q_rf x1))))) X hK hP hS (c_X3_head l G (pidx (q_rf (S_7 104 3)) (q_rf (S_7 107 (q_rf x1)))) S_7 _ o_11 h) my_X3_head tl_X0_114 dX0_isCoprime_36 o_11 rfl rfl rfl ⟨Nat.le_of_ble_eq_true rfl, Nat.le_of_ble_eq_true rfl⟩ hl.1 rfl (Nat.le_of_ble_eq_true rfl) ⟨Nat.le_of_ble_eq_true rfl, Nat.le_of_ble_eq_true rfl⟩ (fun r_13 S_12 H locs h hP hS => ?_)
  refine W.eq (g2 := F0 m 39 ls [.int r_13, .int r_8, .int r_2]) rfl ?_
  refine lv_iadd X.1 X.2.1 dX0_isCoprime_39 ?_
  refine lv_icmp_ne (tgt := 47) X.1 X.2.1 dX0_isCoprime_40 (by decide) (fun c_14 => ?_) (fun c_14 => ?_)
  · have h := h.1 c_14
    refine lv_iconst (v := 0) X.1 X.2.1 dX0_isCoprime_47 (by decide) ?_
    exact q_iret X hr hlocks hP hS rfl h dX0_isCoprime_48
  · have h := h.2 c_14
    refine lv_iconst (v := 1) X.1 X.2.1 dX0_isCoprime_43 (by decide) ?_
    refine lv_goto (tgt := 48) X.1 X.2.1 dX0_isCoprime_44 (by decide) ?_
    exact q_iret X hr hlocks hP hS rfl h dX0_isCoprime_48

set_option maxHeartbeats 4000000 in
set_option maxRecDepth 100000 in
theorem c_X0_isChained (l : Launch) (G : Cx) (x1 : Int32) (S : St) (K : Int32 → St → Prop) (h : w_X0_isChained x1 S K) : q_Met l yX0_isChained cX0_isChained 6 (some .boolean) 3 65 G [.ref (G.1 + 104), .int x1] v_i S K := by
  refine q_enter (by decide +kernel) (Nat.le_of_ble_eq_true rfl) (fun p e s m args below meth c ls X hK hP hr hlocks hl => ?_)
  have hS : va_S (fr_ G) s.heap s.heap [] := va_S.rf
  have hl : lv_has ls 6 [(0, .ref (G.1 + 104)), (1, .int x1)] := hl
  have B97 : ∀ (x2 : Int32) (x3 : Int32) (x4 : Int32) (x5 : Int32) (k30 : Int32 → St → Prop) (hk30 : ∀ (x5 : Int32) (S : St) (ls : Array Slot), lv_has ls 6 [(0, .ref (G.1 + 104)), (2, .int x2), (3, .int x3), (4, .int x4), (5, .int x5)] → k30 x5 S → q_W p l e (k2_rm 3 65) s m args below meth c 0 0 (MQ below (q_Qc G K v_i) args s 0 0 (fr_ G)) G 30 ls [] S) (S : St) (ls : Array Slot), lv_has ls 6 [(0, .ref (G.1 + 104)), (2, .int x2), (3, .int x3), (4, .int x4), (5, .int x5)] → w_X0_isChained_97 x1 K k30 x2 x3 x4 x5 S → q_W p l e (k2_rm 3 65) s m args below meth c 0 0 (MQ below (q_Qc G K v_i) args s 0 0 (fr_ G)) G 97 ls [] S := by
    intro x2 x3 x4 x5 k30 hk30 S ls hl h H locs hP hS
    obtain ⟨x5_1, e5_1⟩ : ∃ y : Int32, y = x5 + 1 := ⟨_, rfl⟩
    have h := h x5_1 e5_1
    refine lv_iinc (v := x5_1) (lv' := [(5, .int x5_1), (0, .ref (G.1 + 104)), (2, .int x2), (3, .int x3), (4, .int x4)]) X.1 X.2.1 dX0_isChained_97 hl (k := 4) rfl (by rw [e5_1]; first | rfl | decide) (by decide) rfl (fun ls hl => ?_)
    refine lv_goto (tgt := 30) X.1 X.2.1 dX0_isChained_100 (by decide) ?_
    exact hk30 x5_1 S _ (lv_sub hl [1, 2, 3, 4, 0] rfl) h _ _ hP hS
  have B30 : ∀ (x2 : Int32) (x3 : Int32) (x4 : Int32) (f : Nat) (x5 : Int32) (S : St) (ls : Array Slot), lv_has ls 6 [(0, .ref (G.1 + 104)), (2, .int x2), (3, .int x3), (4, .int x4), (5, .int x5)] → q_it (fun _ _ => False) (w_X0_isChained_30 x1 K x2 x3 x4) f x5 S → q_W p l e (k2_rm 3 65) s m args below meth c 0 0 (MQ below (q_Qc G K v_i) args s 0 0 (fr_ G)) G 30 ls [] S := by
    intro x2 x3 x4 f
    induction f with
    | zero => intro x5 S ls hl h; exact False.elim h
    | succ f hk30 =>
      intro x5 S ls hl h H locs hP hS
      have h : w_X0_isChained_30 x1 K x2 x3 x4 (q_it (fun _ _ => False) (w_X0_isChained_30 x1 K x2 x3 x4) f) x5 S := h
      generalize q_it (fun _ _ => False) (w_X0_isChained_30 x1 K x2 x3 x4) f = k30 at h hk30
      refine lv_iload X.1 X.2.1 dX0_isChained_30 (lv_at hl 4 rfl) ?_
      refine lv_aload_n X.1 X.2.1 dX0_isChained_32 rfl (lv_at hl 0 rfl) ?_
      refine gf_X0_size X hK hP tl_X0_44 dX0_isChained_33 ?_
      refine lv_icmp_ge (tgt := 103) X.1 X.2.1 dX0_isChained_36 (by decide) (fun c_1 => ?_) (fun c_1 => ?_)
      · have h := h.1 c_1
        refine lv_iconst (v := 0) X.1 X.2.1 dX0_isChained_103 (by decide) ?_
        exact q_iret X hr hlocks hP hS rfl h dX0_isChained_104
      · have h := h.2 c_1
        refine lv_iload X.1 X.2.1 dX0_isChained_39 (lv_at hl 4 rfl) ?_
        refine lv_iload_n X.1 X.2.1 dX0_isChained_41 rfl (lv_at hl 1 rfl) ?_
        refine lv_icmp_eq (tgt := 97) X.1 X.2.1 dX0_isChained_42 (by decide) (fun c_2 => ?_) (fun c_2 => ?_)
        · have h := h.1 c_2
          exact B97 x2 x3 x4 x5 k30 hk30 S _ (lv_sub hl [0, 1, 2, 3, 4] rfl) h _ _ hP hS
        · have h := h.2 c_2
          refine lv_iload X.1 X.2.1 dX0_isChained_45 (lv_at hl 4 rfl) ?_
          refine lv_iload_n X.1 X.2.1 dX0_isChained_47 rfl (lv_at hl 2 rfl) ?_
          refine lv_icmp_eq (tgt := 97) X.1 X.2.1 dX0_isChained_48 (by decide) (fun c_3 => ?_) (fun c_3 => ?_)
          · have h := h.1 c_3
            exact B97 x2 x3 x4 x5 k30 hk30 S _ (lv_sub hl [0, 1, 2, 3, 4] rfl) h _ _ hP hS
          · have h := h.2 c_3
            refine lv_aload_n X.1 X.2.1 dX0_isChained_51 rfl (lv_at hl 0 rfl) ?_
            refine gf_X0_rows X hK hP tl_X0_20 dX0_isChained_52 ?_
            refine lv_iload X.1 X.2.1 dX0_isChained_55 (lv_at hl 4 rfl) ?_
            obtain ⟨o_4, h⟩ := h
            obtain ⟨o_5, h⟩ := h
            refine q_aald X hK hP (isR_kd o_4) o_5 dX0_isChained_57 ?_
            obtain ⟨o_6, h⟩ := h
            refine q_callV (rest := []) (b := (pidx (q_rf (S 104 3)) (q_rf x5))) X hK hP hS (c_X3_head l G (pidx (q_rf (S 104 3)) (q_rf x5)) S _ o_6 h) my_X3_head tl_X0_114 dX0_isChained_58 o_6 rfl rfl rfl ⟨Nat.le_of_ble_eq_true rfl, Nat.le_of_ble_eq_true rfl⟩ hl.1 rfl (Nat.le_of_ble_eq_true rfl) ⟨Nat.le_of_ble_eq_true rfl, Nat.le_of_ble_eq_true rfl⟩ (fun r_8 S_7 H locs h hP hS => ?_)
            refine W.eq (g2 := F0 m 61 ls [.int r_8]) rfl ?_
            refine lv_iload X.1 X.2.1 dX0_isChained_61 (lv_at hl 3 rfl) ?_
            refine q_callS (rest := []) X hK hP hS (c_X1_divides l G r_8 x4 S_7 _ h) my_X1_divides tl_X0_126 dX0_isChained_63 rfl ⟨Nat.le_of_ble_eq_true rfl, Nat.le_of_ble_eq_true rfl⟩ hl.1 rfl (Nat.le_of_ble_eq_true rfl) ⟨Nat.le_of_ble_eq_true rfl, Nat.le_of_ble_eq_true rfl⟩ (fun r_10 S_9 H locs h hP hS => ?_)
            refine W.eq (g2 := F0 m 66 ls [.int r_10]) rfl ?_
            refine lv_if_eq (tgt := 97) X.1 X.2.1 dX0_isChained_66 (by decide) (fun c_11 => ?_) (fun c_11 => ?_)
            · have h := h.1 c_11
              exact B97 x2 x3 x4 x5 k30 hk30 S_9 _ (lv_sub hl [0, 1, 2, 3, 4] rfl) h _ _ hP hS
            · have h := h.2 c_11
              refine lv_aload_n X.1 X.2.1 dX0_isChained_69 rfl (lv_at hl 0 rfl) ?_
              refine gf_X0_pairs X hK hP tl_X0_12 dX0_isChained_70 ?_
              refine lv_iload_n X.1 X.2.1 dX0_isChained_73 rfl (lv_at hl 1 rfl) ?_
              refine lv_iload X.1 X.2.1 dX0_isChained_74 (lv_at hl 4 rfl) ?_
              refine q_callV (rest := []) (b := 105) X hK hP hS (c_X2_waits l G x2 x5 S_9 _ h) my_X2_waits tl_X0_130 dX0_isChained_76 kz_105 rfl rfl rfl ⟨Nat.le_of_ble_eq_true rfl, Nat.le_of_ble_eq_true rfl⟩ hl.1 rfl (Nat.le_of_ble_eq_true rfl) ⟨Nat.le_of_ble_eq_true rfl, Nat.le_of_ble_eq_true rfl⟩ (fun r_13 S_12 H locs h hP hS => ?_)
              refine W.eq (g2 := F0 m 79 ls [.int r_13]) rfl ?_
              refine lv_if_ne (tgt := 97) X.1 X.2.1 dX0_isChained_79 (by decide) (fun c_14 => ?_) (fun c_14 => ?_)
              · have h := h.1 c_14
                exact B97 x2 x3 x4 x5 k30 hk30 S_12 _ (lv_sub hl [0, 1, 2, 3, 4] rfl) h _ _ hP hS
              · have h := h.2 c_14
                refine lv_aload_n X.1 X.2.1 dX0_isChained_82 rfl (lv_at hl 0 rfl) ?_
                refine gf_X0_pairs X hK hP tl_X0_12 dX0_isChained_83 ?_
                refine lv_iload_n X.1 X.2.1 dX0_isChained_86 rfl (lv_at hl 2 rfl) ?_
                refine lv_iload X.1 X.2.1 dX0_isChained_87 (lv_at hl 4 rfl) ?_
                refine q_callV (rest := []) (b := 105) X hK hP hS (c_X2_waits l G x3 x5 S_12 _ h) my_X2_waits tl_X0_130 dX0_isChained_89 kz_105 rfl rfl rfl ⟨Nat.le_of_ble_eq_true rfl, Nat.le_of_ble_eq_true rfl⟩ hl.1 rfl (Nat.le_of_ble_eq_true rfl) ⟨Nat.le_of_ble_eq_true rfl, Nat.le_of_ble_eq_true rfl⟩ (fun r_16 S_15 H locs h hP hS => ?_)
                refine W.eq (g2 := F0 m 92 ls [.int r_16]) rfl ?_
                refine lv_if_ne (tgt := 97) X.1 X.2.1 dX0_isChained_92 (by decide) (fun c_17 => ?_) (fun c_17 => ?_)
                · have h := h.1 c_17
                  exact B97 x2 x3 x4 x5 k30 hk30 S_15 _ (lv_sub hl [0, 1, 2, 3, 4] rfl) h _ _ hP hS
                · have h := h.2 c_17
                  refine lv_iconst (v := 1) X.1 X.2.1 dX0_isChained_95 (by decide) ?_
                  exact q_iret X hr hlocks hP hS rfl h dX0_isChained_96
  refine lv_aload_n X.1 X.2.1 dX0_isChained_0 rfl (lv_at hl 0 rfl) ?_
  refine gf_X0_pairs X hK hP tl_X0_12 dX0_isChained_1 ?_
  refine gf_X2_firsts X hK hP tl_X0_111 dX0_isChained_4 ?_
  refine lv_iload_n X.1 X.2.1 dX0_isChained_7 rfl (lv_at hl 1 rfl) ?_
  obtain ⟨o_1, h⟩ := h
  refine q_iald X hK hP kz_106 o_1 dX0_isChained_8 ?_
  refine lv_topi (fun x2_2 e2_2 => ?_)
  have h := h x2_2 e2_2
  refine lv_istore_n (lv' := [(2, .int x2_2), (0, .ref (G.1 + 104)), (1, .int x1)]) X.1 X.2.1 dX0_isChained_9 rfl hl (by decide) rfl (fun ls hl => ?_)
  refine lv_aload_n X.1 X.2.1 dX0_isChained_10 rfl (lv_at hl 1 rfl) ?_
  refine gf_X0_pairs X hK hP tl_X0_12 dX0_isChained_11 ?_
  refine gf_X2_seconds X hK hP tl_X0_117 dX0_isChained_14 ?_
  refine lv_iload_n X.1 X.2.1 dX0_isChained_17 rfl (lv_at hl 2 rfl) ?_
  refine q_iald X hK hP kz_107 o_1 dX0_isChained_18 ?_
  refine lv_topi (fun x3_3 e3_3 => ?_)
  have h := h x3_3 e3_3
  refine lv_istore_n (lv' := [(3, .int x3_3), (2, .int x2_2), (0, .ref (G.1 + 104)), (1, .int x1)]) X.1 X.2.1 dX0_isChained_19 rfl hl (by decide) rfl (fun ls hl => ?_)
  refine lv_aload_n X.1 X.2.1 dX0_isChained_20 rfl (lv_at hl 2 rfl) ?_
  refine lv_iload_n X.1 X.2.1 dX0_isChained_21 rfl (lv_at hl 3 rfl) ?_
  refine q_callV (rest := []) (b := 104) X hK hP hS (c_X0_multipleOf l G x1 S _ h) my_X0_multipleOf tl_X0_105 dX0_isChained_22 kz_104 rfl rfl rfl ⟨Nat.le_of_ble_eq_true rfl, Nat.le_of_ble_eq_true rfl⟩ hl.1 rfl (Nat.le_of_ble_eq_true rfl) ⟨Nat.le_of_ble_eq_true rfl, Nat.le_of_ble_eq_true rfl⟩ (fun r_5 S_4 H locs h hP hS => ?_)
  refine W.eq (g2 := F0 m 25 ls [.int r_5]) rfl ?_
  refine lv_istore (lv' := [(4, .int r_5), (3, .int x3_3), (2, .int x2_2), (0, .ref (G.1 + 104)), (1, .int x1)]) X.1 X.2.1 dX0_isChained_25 hl (by decide) rfl (fun ls hl => ?_)
  refine lv_iconst (v := 0) X.1 X.2.1 dX0_isChained_27 (by decide) ?_
  refine lv_istore (lv' := [(5, .int 0), (4, .int r_5), (3, .int x3_3), (2, .int x2_2), (0, .ref (G.1 + 104)), (1, .int x1)]) X.1 X.2.1 dX0_isChained_28 hl (by decide) rfl (fun ls hl => ?_)
  obtain ⟨f_6, h⟩ := h
  exact B30 x2_2 x3_3 r_5 f_6 0 S_4 _ (lv_sub hl [4, 3, 2, 1, 0] rfl) h _ _ hP hS

set_option maxHeartbeats 4000000 in
set_option maxRecDepth 100000 in
theorem c_X0_reduceS (l : Launch) (G : Cx) (x1 : Int32) (S : St) (K : Int32 → St → Prop) (h : w_X0_reduceS x1 S K) : q_Met l yX0_reduceS cX0_reduceS 3 (some .int) 5 125 G [.ref (G.1 + 104), .int x1] v_i S K := by
  refine q_enter (by decide +kernel) (Nat.le_of_ble_eq_true rfl) (fun p e s m args below meth c ls X hK hP hr hlocks hl => ?_)
  have hS : va_S (fr_ G) s.heap s.heap [] := va_S.rf
  have hl : lv_has ls 3 [(0, .ref (G.1 + 104)), (1, .int x1)] := hl
  have B65 : ∀ (x2 : Int32) (S : St) (ls : Array Slot), lv_has ls 3 [(0, .ref (G.1 + 104)), (2, .int x2)] → w_X0_reduceS_65 x1 K x2 S → q_W p l e (k2_rm 5 125) s m args below meth c 0 0 (MQ below (q_Qc G K v_i) args s 0 0 (fr_ G)) G 65 ls [] S := by
    intro x2 S ls hl h H locs hP hS
    refine lv_iload_n X.1 X.2.1 dX0_reduceS_65 rfl (lv_at hl 1 rfl) ?_
    refine lv_if_eq (tgt := 71) X.1 X.2.1 dX0_reduceS_66 (by decide) (fun c_1 => ?_) (fun c_1 => ?_)
    · have h := h.1 c_1
      refine lv_aload_n X.1 X.2.1 dX0_reduceS_71 rfl (lv_at hl 0 rfl) ?_
      refine gf_X0_reducer X hK hP tl_X0_40 dX0_reduceS_72 ?_
      refine gf_X4_r X hK hP tl_X0_141 dX0_reduceS_75 ?_
      refine gf_X3_size X hK hP kz_101 tl_X0_144 dX0_reduceS_78 ?_
      refine lv_if_ne (tgt := 96) X.1 X.2.1 dX0_reduceS_81 (by decide) (fun c_2 => ?_) (fun c_2 => ?_)
      · have h := h.1 c_2
        refine lv_aload_n X.1 X.2.1 dX0_reduceS_96 rfl (lv_at hl 0 rfl) ?_
        refine lv_aload_n X.1 X.2.1 dX0_reduceS_97 rfl (lv_at hl 0 rfl) ?_
        refine gf_X0_reducer X hK hP tl_X0_40 dX0_reduceS_98 ?_
        refine gf_X4_r X hK hP tl_X0_141 dX0_reduceS_101 ?_
        refine q_callV (rest := []) (b := 104) X hK hP hS (c_X0_take l G 101 S _ kz_101 h) my_X0_take tl_X0_148 dX0_reduceS_104 kz_104 rfl rfl rfl ⟨Nat.le_of_ble_eq_true rfl, Nat.le_of_ble_eq_true rfl⟩ hl.1 rfl (Nat.le_of_ble_eq_true rfl) ⟨Nat.le_of_ble_eq_true rfl, Nat.le_of_ble_eq_true rfl⟩ (fun r_4 S_3 H locs h hP hS => ?_)
        refine W.eq (g2 := F0 m 107 ls [.int r_4]) rfl ?_
        refine lv_bipush (v := (-4)) X.1 X.2.1 dX0_reduceS_107 (by decide) ?_
        refine lv_icmp_ne (tgt := 115) X.1 X.2.1 dX0_reduceS_109 (by decide) (fun c_5 => ?_) (fun c_5 => ?_)
        · have h := h.1 c_5
          refine lv_aload_n X.1 X.2.1 dX0_reduceS_115 rfl (lv_at hl 0 rfl) ?_
          refine lv_dup X.1 X.2.1 dX0_reduceS_116 rfl ?_
          refine gf_X0_leftSomething X hK hP tl_X0_152 dX0_reduceS_117 ?_
          refine lv_iconst (v := 1) X.1 X.2.1 dX0_reduceS_120 (by decide) ?_
          refine lv_iadd X.1 X.2.1 dX0_reduceS_121 ?_
          refine pf_X0_leftSomething X hK hP hS tl_X0_152 dX0_reduceS_122 (fun S_6 H locs eS_6 hP hS => ?_)
          have h := h S_6 eS_6
          refine lv_iconst (v := 0) X.1 X.2.1 dX0_reduceS_125 (by decide) ?_
          exact q_iret X hr hlocks hP hS rfl h dX0_reduceS_126
        · have h := h.2 c_5
          refine lv_bipush (v := (-4)) X.1 X.2.1 dX0_reduceS_112 (by decide) ?_
          exact q_iret X hr hlocks hP hS rfl h dX0_reduceS_114
      · have h := h.2 c_2
        refine lv_aload_n X.1 X.2.1 dX0_reduceS_84 rfl (lv_at hl 0 rfl) ?_
        refine lv_dup X.1 X.2.1 dX0_reduceS_85 rfl ?_
        refine gf_X0_leftNothing X hK hP tl_X0_145 dX0_reduceS_86 ?_
        refine lv_iconst (v := 1) X.1 X.2.1 dX0_reduceS_89 (by decide) ?_
        refine lv_iadd X.1 X.2.1 dX0_reduceS_90 ?_
        refine pf_X0_leftNothing X hK hP hS tl_X0_145 dX0_reduceS_91 (fun S_7 H locs eS_7 hP hS => ?_)
        have h := h S_7 eS_7
        refine lv_iconst (v := 0) X.1 X.2.1 dX0_reduceS_94 (by decide) ?_
        exact q_iret X hr hlocks hP hS rfl h dX0_reduceS_95
    · have h := h.2 c_1
      refine lv_iload_n X.1 X.2.1 dX0_reduceS_69 rfl (lv_at hl 1 rfl) ?_
      exact q_iret X hr hlocks hP hS rfl h dX0_reduceS_70
  refine lv_aload_n X.1 X.2.1 dX0_reduceS_0 rfl (lv_at hl 0 rfl) ?_
  refine gf_X0_ring X hK hP tl_X0_36 dX0_reduceS_1 ?_
  refine lv_aload_n X.1 X.2.1 dX0_reduceS_4 rfl (lv_at hl 0 rfl) ?_
  refine gf_X0_begun X hK hP tl_X0_32 dX0_reduceS_5 ?_
  refine lv_aload_n X.1 X.2.1 dX0_reduceS_8 rfl (lv_at hl 0 rfl) ?_
  refine gf_X0_rows X hK hP tl_X0_20 dX0_reduceS_9 ?_
  refine lv_aload_n X.1 X.2.1 dX0_reduceS_12 rfl (lv_at hl 0 rfl) ?_
  refine gf_X0_pairs X hK hP tl_X0_12 dX0_reduceS_13 ?_
  refine gf_X2_firsts X hK hP tl_X0_111 dX0_reduceS_16 ?_
  refine lv_iload_n X.1 X.2.1 dX0_reduceS_19 rfl (lv_at hl 1 rfl) ?_
  obtain ⟨o_1, h⟩ := h
  refine q_iald X hK hP kz_106 o_1 dX0_reduceS_20 ?_
  obtain ⟨o_2, h⟩ := h
  obtain ⟨o_3, h⟩ := h
  refine q_aald X hK hP (isR_kd o_2) o_3 dX0_reduceS_21 ?_
  refine lv_aload_n X.1 X.2.1 dX0_reduceS_22 rfl (lv_at hl 0 rfl) ?_
  refine gf_X0_rows X hK hP tl_X0_20 dX0_reduceS_23 ?_
  refine lv_aload_n X.1 X.2.1 dX0_reduceS_26 rfl (lv_at hl 0 rfl) ?_
  refine gf_X0_pairs X hK hP tl_X0_12 dX0_reduceS_27 ?_
  refine gf_X2_seconds X hK hP tl_X0_117 dX0_reduceS_30 ?_
  refine lv_iload_n X.1 X.2.1 dX0_reduceS_33 rfl (lv_at hl 1 rfl) ?_
  refine q_iald X hK hP kz_107 o_1 dX0_reduceS_34 ?_
  obtain ⟨o_4, h⟩ := h
  refine q_aald X hK hP (isR_kd o_2) o_4 dX0_reduceS_35 ?_
  obtain ⟨o_5, h⟩ := h
  obtain ⟨o_6, h⟩ := h
  refine q_callV (rest := []) (b := 1) X hK hP hS (c_X5_makeS l G 111 (pidx (q_rf (S 104 3)) (q_rf (S 106 (q_rf x1)))) (pidx (q_rf (S 104 3)) (q_rf (S 107 (q_rf x1)))) S _ kz_111 o_5 o_6 h) my_X5_makeS tl_X0_133 dX0_reduceS_36 kz_1 rfl rfl rfl ⟨Nat.le_of_ble_eq_true rfl, Nat.le_of_ble_eq_true rfl⟩ hl.1 rfl (Nat.le_of_ble_eq_true rfl) ⟨Nat.le_of_ble_eq_true rfl, Nat.le_of_ble_eq_true rfl⟩ (fun r_8 S_7 H locs h hP hS => ?_)
  refine W.eq (g2 := F0 m 39 ls [.int r_8]) rfl ?_
  refine lv_istore_n (lv' := [(2, .int r_8), (0, .ref (G.1 + 104)), (1, .int x1)]) X.1 X.2.1 dX0_reduceS_39 rfl hl (by decide) rfl (fun ls hl => ?_)
  refine lv_iload_n X.1 X.2.1 dX0_reduceS_40 rfl (lv_at hl 0 rfl) ?_
  refine lv_if_ne (tgt := 65) X.1 X.2.1 dX0_reduceS_41 (by decide) (fun c_9 => ?_) (fun c_9 => ?_)
  · have h := h.1 c_9
    exact B65 r_8 S_7 _ (lv_sub hl [1, 0] rfl) h _ _ hP hS
  · have h := h.2 c_9
    refine lv_aload_n X.1 X.2.1 dX0_reduceS_44 rfl (lv_at hl 1 rfl) ?_
    refine gf_X0_reducer X hK hP tl_X0_40 dX0_reduceS_45 ?_
    refine lv_aload_n X.1 X.2.1 dX0_reduceS_48 rfl (lv_at hl 1 rfl) ?_
    refine gf_X0_begun X hK hP tl_X0_32 dX0_reduceS_49 ?_
    refine lv_aload_n X.1 X.2.1 dX0_reduceS_52 rfl (lv_at hl 1 rfl) ?_
    refine gf_X0_rows X hK hP tl_X0_20 dX0_reduceS_53 ?_
    refine lv_aload_n X.1 X.2.1 dX0_reduceS_56 rfl (lv_at hl 1 rfl) ?_
    refine gf_X0_size X hK hP tl_X0_44 dX0_reduceS_57 ?_
    refine lv_iconst (v := (-1)) X.1 X.2.1 dX0_reduceS_60 (by decide) ?_
    obtain ⟨o_10, h⟩ := h
    refine q_callV (rest := []) (b := 94) X hK hP hS (c_X4_leave l G 111 (q_rf (S_7 104 3)) (S_7 104 7) (-1) S_7 _ kz_111 o_10 h) my_X4_leave tl_X0_137 dX0_reduceS_61 kz_94 rfl rfl rfl ⟨Nat.le_of_ble_eq_true rfl, Nat.le_of_ble_eq_true rfl⟩ hl.1 rfl (Nat.le_of_ble_eq_true rfl) ⟨Nat.le_of_ble_eq_true rfl, Nat.le_of_ble_eq_true rfl⟩ (fun r_12 S_11 H locs h hP hS => ?_)
    refine W.eq (g2 := F0 m 64 ls [.int r_12]) rfl ?_
    refine lv_istore_n (lv' := [(2, .int r_12), (0, .ref (G.1 + 104)), (1, .int x1)]) X.1 X.2.1 dX0_reduceS_64 rfl hl (by decide) rfl (fun ls hl => ?_)
    exact B65 r_12 S_11 _ (lv_sub hl [1, 0] rfl) h _ _ hP hS

set_option maxHeartbeats 4000000 in
set_option maxRecDepth 100000 in
theorem c_X0_workNext (l : Launch) (G : Cx) (S : St) (K : Int32 → St → Prop) (h : w_X0_workNext S K) : q_Met l yX0_workNext cX0_workNext 3 (some .int) 6 147 G [.ref (G.1 + 104)] v_i S K := by
  refine q_enter (by decide +kernel) (Nat.le_of_ble_eq_true rfl) (fun p e s m args below meth c ls X hK hP hr hlocks hl => ?_)
  have hS : va_S (fr_ G) s.heap s.heap [] := va_S.rf
  have hl : lv_has ls 3 [(0, .ref (G.1 + 104))] := hl
  have B84 : ∀ (x1 : Int32) (S : St) (ls : Array Slot), lv_has ls 3 [(0, .ref (G.1 + 104)), (1, .int x1)] → w_X0_workNext_84 K x1 S → q_W p l e (k2_rm 6 147) s m args below meth c 0 0 (MQ below (q_Qc G K v_i) args s 0 0 (fr_ G)) G 84 ls [] S := by
    intro x1 S ls hl h H locs hP hS
    refine lv_aload_n X.1 X.2.1 dX0_workNext_84 rfl (lv_at hl 0 rfl) ?_
    refine gf_X0_pairs X hK hP tl_X0_12 dX0_workNext_85 ?_
    refine lv_iload_n X.1 X.2.1 dX0_workNext_88 rfl (lv_at hl 1 rfl) ?_
    refine q_callV (rest := []) (b := 105) X hK hP hS (c_X2_remove l G x1 S _ h) my_X2_remove tl_X0_99 dX0_workNext_89 kz_105 rfl rfl rfl ⟨Nat.le_of_ble_eq_true rfl, Nat.le_of_ble_eq_true rfl⟩ hl.1 rfl (Nat.le_of_ble_eq_true rfl) ⟨Nat.le_of_ble_eq_true rfl, Nat.le_of_ble_eq_true rfl⟩ (fun r_2 S_1 H locs h hP hS => ?_)
    refine W.eq (g2 := F0 m 92 ls []) rfl ?_
    refine lv_iconst (v := 0) X.1 X.2.1 dX0_workNext_92 (by decide) ?_
    exact q_iret X hr hlocks hP hS rfl h dX0_workNext_93
  have B72 : ∀ (x1 : Int32) (S : St) (ls : Array Slot), lv_has ls 3 [(0, .ref (G.1 + 104)), (1, .int x1)] → w_X0_workNext_72 K x1 S → q_W p l e (k2_rm 6 147) s m args below meth c 0 0 (MQ below (q_Qc G K v_i) args s 0 0 (fr_ G)) G 72 ls [] S := by
    intro x1 S ls hl h H locs hP hS
    refine lv_aload_n X.1 X.2.1 dX0_workNext_72 rfl (lv_at hl 0 rfl) ?_
    refine lv_iload_n X.1 X.2.1 dX0_workNext_73 rfl (lv_at hl 1 rfl) ?_
    refine q_callV (rest := []) (b := 104) X hK hP hS (c_X0_reduceS l G x1 S _ h) my_X0_reduceS tl_X0_95 dX0_workNext_74 kz_104 rfl rfl rfl ⟨Nat.le_of_ble_eq_true rfl, Nat.le_of_ble_eq_true rfl⟩ hl.1 rfl (Nat.le_of_ble_eq_true rfl) ⟨Nat.le_of_ble_eq_true rfl, Nat.le_of_ble_eq_true rfl⟩ (fun r_2 S_1 H locs h hP hS => ?_)
    refine W.eq (g2 := F0 m 77 ls [.int r_2]) rfl ?_
    refine lv_istore_n (lv' := [(2, .int r_2), (0, .ref (G.1 + 104)), (1, .int x1)]) X.1 X.2.1 dX0_workNext_77 rfl hl (by decide) rfl (fun ls hl => ?_)
    refine lv_iload_n X.1 X.2.1 dX0_workNext_78 rfl (lv_at hl 0 rfl) ?_
    refine lv_if_eq (tgt := 84) X.1 X.2.1 dX0_workNext_79 (by decide) (fun c_3 => ?_) (fun c_3 => ?_)
    · have h := h.1 c_3
      exact B84 x1 S_1 _ (lv_sub hl [1, 2] rfl) h _ _ hP hS
    · have h := h.2 c_3
      refine lv_iload_n X.1 X.2.1 dX0_workNext_82 rfl (lv_at hl 0 rfl) ?_
      exact q_iret X hr hlocks hP hS rfl h dX0_workNext_83
  have B42 : ∀ (x1 : Int32) (S : St) (ls : Array Slot), lv_has ls 3 [(0, .ref (G.1 + 104)), (1, .int x1)] → w_X0_workNext_42 K x1 S → q_W p l e (k2_rm 6 147) s m args below meth c 0 0 (MQ below (q_Qc G K v_i) args s 0 0 (fr_ G)) G 42 ls [] S := by
    intro x1 S ls hl h H locs hP hS
    refine lv_aload_n X.1 X.2.1 dX0_workNext_42 rfl (lv_at hl 0 rfl) ?_
    refine gf_X0_rules X hK hP tl_X0_79 dX0_workNext_43 ?_
    refine lv_iconst (v := 2) X.1 X.2.1 dX0_workNext_46 (by decide) ?_
    refine lv_iand X.1 X.2.1 dX0_workNext_47 ?_
    refine lv_if_eq (tgt := 72) X.1 X.2.1 dX0_workNext_48 (by decide) (fun c_1 => ?_) (fun c_1 => ?_)
    · have h := h.1 c_1
      exact B72 x1 S _ (lv_sub hl [0, 1] rfl) h _ _ hP hS
    · have h := h.2 c_1
      refine lv_aload_n X.1 X.2.1 dX0_workNext_51 rfl (lv_at hl 0 rfl) ?_
      refine lv_iload_n X.1 X.2.1 dX0_workNext_52 rfl (lv_at hl 1 rfl) ?_
      refine q_callV (rest := []) (b := 104) X hK hP hS (c_X0_isChained l G x1 S _ h) my_X0_isChained tl_X0_89 dX0_workNext_53 kz_104 rfl rfl rfl ⟨Nat.le_of_ble_eq_true rfl, Nat.le_of_ble_eq_true rfl⟩ hl.1 rfl (Nat.le_of_ble_eq_true rfl) ⟨Nat.le_of_ble_eq_true rfl, Nat.le_of_ble_eq_true rfl⟩ (fun r_3 S_2 H locs h hP hS => ?_)
      refine W.eq (g2 := F0 m 56 ls [.int r_3]) rfl ?_
      refine lv_if_eq (tgt := 72) X.1 X.2.1 dX0_workNext_56 (by decide) (fun c_4 => ?_) (fun c_4 => ?_)
      · have h := h.1 c_4
        exact B72 x1 S_2 _ (lv_sub hl [0, 1] rfl) h _ _ hP hS
      · have h := h.2 c_4
        refine lv_aload_n X.1 X.2.1 dX0_workNext_59 rfl (lv_at hl 0 rfl) ?_
        refine lv_dup X.1 X.2.1 dX0_workNext_60 rfl ?_
        refine gf_X0_passedChain X hK hP tl_X0_92 dX0_workNext_61 ?_
        refine lv_iconst (v := 1) X.1 X.2.1 dX0_workNext_64 (by decide) ?_
        refine lv_iadd X.1 X.2.1 dX0_workNext_65 ?_
        refine pf_X0_passedChain X hK hP hS tl_X0_92 dX0_workNext_66 (fun S_5 H locs eS_5 hP hS => ?_)
        have h := h S_5 eS_5
        refine lv_goto (tgt := 84) X.1 X.2.1 dX0_workNext_69 (by decide) ?_
        exact B84 x1 S_5 _ (lv_sub hl [0, 1] rfl) h _ _ hP hS
  refine lv_aload_n X.1 X.2.1 dX0_workNext_0 rfl (lv_at hl 0 rfl) ?_
  refine gf_X0_reducer X hK hP tl_X0_40 dX0_workNext_1 ?_
  refine q_callV (rest := []) (b := 94) X hK hP hS (c_X4_begin l G S _ h) my_X4_begin tl_X0_70 dX0_workNext_4 kz_94 rfl rfl rfl ⟨Nat.le_of_ble_eq_true rfl, Nat.le_of_ble_eq_true rfl⟩ hl.1 rfl (Nat.le_of_ble_eq_true rfl) ⟨Nat.le_of_ble_eq_true rfl, Nat.le_of_ble_eq_true rfl⟩ (fun r_2 S_1 H locs h hP hS => ?_)
  refine W.eq (g2 := F0 m 7 ls []) rfl ?_
  refine lv_aload_n X.1 X.2.1 dX0_workNext_7 rfl (lv_at hl 0 rfl) ?_
  refine q_callV (rest := []) (b := 104) X hK hP hS (c_X0_nextPair l G S_1 _ h) my_X0_nextPair tl_X0_75 dX0_workNext_8 kz_104 rfl rfl rfl ⟨Nat.le_of_ble_eq_true rfl, Nat.le_of_ble_eq_true rfl⟩ hl.1 rfl (Nat.le_of_ble_eq_true rfl) ⟨Nat.le_of_ble_eq_true rfl, Nat.le_of_ble_eq_true rfl⟩ (fun r_4 S_3 H locs h hP hS => ?_)
  refine W.eq (g2 := F0 m 11 ls [.int r_4]) rfl ?_
  refine lv_istore_n (lv' := [(1, .int r_4), (0, .ref (G.1 + 104))]) X.1 X.2.1 dX0_workNext_11 rfl hl (by decide) rfl (fun ls hl => ?_)
  refine lv_aload_n X.1 X.2.1 dX0_workNext_12 rfl (lv_at hl 1 rfl) ?_
  refine gf_X0_rules X hK hP tl_X0_79 dX0_workNext_13 ?_
  refine lv_iconst (v := 1) X.1 X.2.1 dX0_workNext_16 (by decide) ?_
  refine lv_iand X.1 X.2.1 dX0_workNext_17 ?_
  refine lv_if_eq (tgt := 42) X.1 X.2.1 dX0_workNext_18 (by decide) (fun c_5 => ?_) (fun c_5 => ?_)
  · have h := h.1 c_5
    exact B42 r_4 S_3 _ (lv_sub hl [1, 0] rfl) h _ _ hP hS
  · have h := h.2 c_5
    refine lv_aload_n X.1 X.2.1 dX0_workNext_21 rfl (lv_at hl 1 rfl) ?_
    refine lv_iload_n X.1 X.2.1 dX0_workNext_22 rfl (lv_at hl 0 rfl) ?_
    refine q_callV (rest := []) (b := 104) X hK hP hS (c_X0_isCoprime l G r_4 S_3 _ h) my_X0_isCoprime tl_X0_82 dX0_workNext_23 kz_104 rfl rfl rfl ⟨Nat.le_of_ble_eq_true rfl, Nat.le_of_ble_eq_true rfl⟩ hl.1 rfl (Nat.le_of_ble_eq_true rfl) ⟨Nat.le_of_ble_eq_true rfl, Nat.le_of_ble_eq_true rfl⟩ (fun r_7 S_6 H locs h hP hS => ?_)
    refine W.eq (g2 := F0 m 26 ls [.int r_7]) rfl ?_
    refine lv_if_eq (tgt := 42) X.1 X.2.1 dX0_workNext_26 (by decide) (fun c_8 => ?_) (fun c_8 => ?_)
    · have h := h.1 c_8
      exact B42 r_4 S_6 _ (lv_sub hl [1, 0] rfl) h _ _ hP hS
    · have h := h.2 c_8
      refine lv_aload_n X.1 X.2.1 dX0_workNext_29 rfl (lv_at hl 1 rfl) ?_
      refine lv_dup X.1 X.2.1 dX0_workNext_30 rfl ?_
      refine gf_X0_passedCoprime X hK hP tl_X0_86 dX0_workNext_31 ?_
      refine lv_iconst (v := 1) X.1 X.2.1 dX0_workNext_34 (by decide) ?_
      refine lv_iadd X.1 X.2.1 dX0_workNext_35 ?_
      refine pf_X0_passedCoprime X hK hP hS tl_X0_86 dX0_workNext_36 (fun S_9 H locs eS_9 hP hS => ?_)
      have h := h S_9 eS_9
      refine lv_goto (tgt := 84) X.1 X.2.1 dX0_workNext_39 (by decide) ?_
      exact B84 r_4 S_9 _ (lv_sub hl [1, 0] rfl) h _ _ hP hS

set_option maxHeartbeats 4000000 in
set_option maxRecDepth 100000 in
theorem c_X0_isNeedless (l : Launch) (G : Cx) (x1 : Int32) (S : St) (K : Int32 → St → Prop) (h : w_X0_isNeedless x1 S K) : q_Met l yX0_isNeedless cX0_isNeedless 5 (some .boolean) 1 21 G [.ref (G.1 + 104), .int x1] v_i S K := by
  refine q_enter (by decide +kernel) (Nat.le_of_ble_eq_true rfl) (fun p e s m args below meth c ls X hK hP hr hlocks hl => ?_)
  have hS : va_S (fr_ G) s.heap s.heap [] := va_S.rf
  have hl : lv_has ls 5 [(0, .ref (G.1 + 104)), (1, .int x1)] := hl
  have B58 : ∀ (x2 : Int32) (x3 : Int32) (k12 : Int32 → St → Prop) (hk12 : ∀ (x3 : Int32) (S : St) (ls : Array Slot), lv_has ls 5 [(0, .ref (G.1 + 104)), (1, .int x1), (2, .int x2), (3, .int x3)] → k12 x3 S → q_W p l e (k2_rm 1 21) s m args below meth c 0 0 (MQ below (q_Qc G K v_i) args s 0 0 (fr_ G)) G 12 ls [] S) (S : St) (ls : Array Slot), lv_has ls 5 [(0, .ref (G.1 + 104)), (1, .int x1), (2, .int x2), (3, .int x3)] → w_X0_isNeedless_58 x1 K k12 x2 x3 S → q_W p l e (k2_rm 1 21) s m args below meth c 0 0 (MQ below (q_Qc G K v_i) args s 0 0 (fr_ G)) G 58 ls [] S := by
    intro x2 x3 k12 hk12 S ls hl h H locs hP hS
    obtain ⟨x3_1, e3_1⟩ : ∃ y : Int32, y = x3 + 1 := ⟨_, rfl⟩
    have h := h x3_1 e3_1
    refine lv_iinc (v := x3_1) (lv' := [(3, .int x3_1), (0, .ref (G.1 + 104)), (1, .int x1), (2, .int x2)]) X.1 X.2.1 dX0_isNeedless_58 hl (k := 3) rfl (by rw [e3_1]; first | rfl | decide) (by decide) rfl (fun ls hl => ?_)
    refine lv_goto (tgt := 12) X.1 X.2.1 dX0_isNeedless_61 (by decide) ?_
    exact hk12 x3_1 S _ (lv_sub hl [1, 2, 3, 0] rfl) h _ _ hP hS
  have B56 : ∀ (S : St) (ls : Array Slot), lv_has ls 5 [] → w_X0_isNeedless_56 x1 K S → q_W p l e (k2_rm 1 21) s m args below meth c 0 0 (MQ below (q_Qc G K v_i) args s 0 0 (fr_ G)) G 56 ls [] S := by
    intro S ls hl h H locs hP hS
    refine lv_iconst (v := 1) X.1 X.2.1 dX0_isNeedless_56 (by decide) ?_
    exact q_iret X hr hlocks hP hS rfl h dX0_isNeedless_57
  have B12 : ∀ (x2 : Int32) (f : Nat) (x3 : Int32) (S : St) (ls : Array Slot), lv_has ls 5 [(0, .ref (G.1 + 104)), (1, .int x1), (2, .int x2), (3, .int x3)] → q_it (fun _ _ => False) (w_X0_isNeedless_12 x1 K x2) f x3 S → q_W p l e (k2_rm 1 21) s m args below meth c 0 0 (MQ below (q_Qc G K v_i) args s 0 0 (fr_ G)) G 12 ls [] S := by
    intro x2 f
    induction f with
    | zero => intro x3 S ls hl h; exact False.elim h
    | succ f hk12 =>
      intro x3 S ls hl h H locs hP hS
      have h : w_X0_isNeedless_12 x1 K x2 (q_it (fun _ _ => False) (w_X0_isNeedless_12 x1 K x2) f) x3 S := h
      generalize q_it (fun _ _ => False) (w_X0_isNeedless_12 x1 K x2) f = k12 at h hk12
      refine lv_iload_n X.1 X.2.1 dX0_isNeedless_12 rfl (lv_at hl 3 rfl) ?_
      refine lv_aload_n X.1 X.2.1 dX0_isNeedless_13 rfl (lv_at hl 0 rfl) ?_
      refine gf_X0_size X hK hP tl_X0_44 dX0_isNeedless_14 ?_
      refine lv_icmp_ge (tgt := 64) X.1 X.2.1 dX0_isNeedless_17 (by decide) (fun c_1 => ?_) (fun c_1 => ?_)
      · have h := h.1 c_1
        refine lv_iconst (v := 0) X.1 X.2.1 dX0_isNeedless_64 (by decide) ?_
        exact q_iret X hr hlocks hP hS rfl h dX0_isNeedless_65
      · have h := h.2 c_1
        refine lv_aload_n X.1 X.2.1 dX0_isNeedless_20 rfl (lv_at hl 0 rfl) ?_
        refine gf_X0_rows X hK hP tl_X0_20 dX0_isNeedless_21 ?_
        refine lv_iload_n X.1 X.2.1 dX0_isNeedless_24 rfl (lv_at hl 3 rfl) ?_
        obtain ⟨o_2, h⟩ := h
        obtain ⟨o_3, h⟩ := h
        refine q_aald X hK hP (isR_kd o_2) o_3 dX0_isNeedless_25 ?_
        obtain ⟨o_4, h⟩ := h
        refine q_callV (rest := []) (b := (pidx (q_rf (S 104 3)) (q_rf x3))) X hK hP hS (c_X3_head l G (pidx (q_rf (S 104 3)) (q_rf x3)) S _ o_4 h) my_X3_head tl_X0_114 dX0_isNeedless_26 o_4 rfl rfl rfl ⟨Nat.le_of_ble_eq_true rfl, Nat.le_of_ble_eq_true rfl⟩ hl.1 rfl (Nat.le_of_ble_eq_true rfl) ⟨Nat.le_of_ble_eq_true rfl, Nat.le_of_ble_eq_true rfl⟩ (fun r_6 S_5 H locs h hP hS => ?_)
        refine W.eq (g2 := F0 m 29 ls [.int r_6]) rfl ?_
        refine lv_istore (lv' := [(4, .int r_6), (0, .ref (G.1 + 104)), (1, .int x1), (2, .int x2), (3, .int x3)]) X.1 X.2.1 dX0_isNeedless_29 hl (by decide) rfl (fun ls hl => ?_)
        refine lv_iload_n X.1 X.2.1 dX0_isNeedless_31 rfl (lv_at hl 4 rfl) ?_
        refine lv_iload_n X.1 X.2.1 dX0_isNeedless_32 rfl (lv_at hl 2 rfl) ?_
        refine lv_icmp_eq (tgt := 58) X.1 X.2.1 dX0_isNeedless_33 (by decide) (fun c_7 => ?_) (fun c_7 => ?_)
        · have h := h.1 c_7
          exact B58 x2 x3 k12 hk12 S_5 _ (lv_sub hl [1, 2, 3, 4] rfl) h _ _ hP hS
        · have h := h.2 c_7
          refine lv_iload X.1 X.2.1 dX0_isNeedless_36 (lv_at hl 0 rfl) ?_
          refine lv_iload_n X.1 X.2.1 dX0_isNeedless_38 rfl (lv_at hl 3 rfl) ?_
          refine q_callS (rest := []) X hK hP hS (c_X1_divides l G r_6 x2 S_5 _ h) my_X1_divides tl_X0_126 dX0_isNeedless_39 rfl ⟨Nat.le_of_ble_eq_true rfl, Nat.le_of_ble_eq_true rfl⟩ hl.1 rfl (Nat.le_of_ble_eq_true rfl) ⟨Nat.le_of_ble_eq_true rfl, Nat.le_of_ble_eq_true rfl⟩ (fun r_9 S_8 H locs h hP hS => ?_)
          refine W.eq (g2 := F0 m 42 ls [.int r_9]) rfl ?_
          refine lv_if_eq (tgt := 58) X.1 X.2.1 dX0_isNeedless_42 (by decide) (fun c_10 => ?_) (fun c_10 => ?_)
          · have h := h.1 c_10
            exact B58 x2 x3 k12 hk12 S_8 _ (lv_sub hl [1, 2, 3, 4] rfl) h _ _ hP hS
          · have h := h.2 c_10
            refine lv_iload X.1 X.2.1 dX0_isNeedless_45 (lv_at hl 0 rfl) ?_
            refine lv_iload_n X.1 X.2.1 dX0_isNeedless_47 rfl (lv_at hl 3 rfl) ?_
            refine lv_icmp_ne (tgt := 56) X.1 X.2.1 dX0_isNeedless_48 (by decide) (fun c_11 => ?_) (fun c_11 => ?_)
            · have h := h.1 c_11
              exact B56 S_8 _ (lv_sub hl [] rfl) h _ _ hP hS
            · have h := h.2 c_11
              refine lv_iload_n X.1 X.2.1 dX0_isNeedless_51 rfl (lv_at hl 4 rfl) ?_
              refine lv_iload_n X.1 X.2.1 dX0_isNeedless_52 rfl (lv_at hl 2 rfl) ?_
              refine lv_icmp_ge (tgt := 58) X.1 X.2.1 dX0_isNeedless_53 (by decide) (fun c_12 => ?_) (fun c_12 => ?_)
              · have h := h.1 c_12
                exact B58 x2 x3 k12 hk12 S_8 _ (lv_sub hl [1, 2, 3, 4] rfl) h _ _ hP hS
              · have h := h.2 c_12
                exact B56 S_8 _ (lv_sub hl [] rfl) h _ _ hP hS
  refine lv_aload_n X.1 X.2.1 dX0_isNeedless_0 rfl (lv_at hl 0 rfl) ?_
  refine gf_X0_rows X hK hP tl_X0_20 dX0_isNeedless_1 ?_
  refine lv_iload_n X.1 X.2.1 dX0_isNeedless_4 rfl (lv_at hl 1 rfl) ?_
  obtain ⟨o_1, h⟩ := h
  obtain ⟨o_2, h⟩ := h
  refine q_aald X hK hP (isR_kd o_1) o_2 dX0_isNeedless_5 ?_
  obtain ⟨o_3, h⟩ := h
  refine q_callV (rest := []) (b := (pidx (q_rf (S 104 3)) (q_rf x1))) X hK hP hS (c_X3_head l G (pidx (q_rf (S 104 3)) (q_rf x1)) S _ o_3 h) my_X3_head tl_X0_114 dX0_isNeedless_6 o_3 rfl rfl rfl ⟨Nat.le_of_ble_eq_true rfl, Nat.le_of_ble_eq_true rfl⟩ hl.1 rfl (Nat.le_of_ble_eq_true rfl) ⟨Nat.le_of_ble_eq_true rfl, Nat.le_of_ble_eq_true rfl⟩ (fun r_5 S_4 H locs h hP hS => ?_)
  refine W.eq (g2 := F0 m 9 ls [.int r_5]) rfl ?_
  refine lv_istore_n (lv' := [(2, .int r_5), (0, .ref (G.1 + 104)), (1, .int x1)]) X.1 X.2.1 dX0_isNeedless_9 rfl hl (by decide) rfl (fun ls hl => ?_)
  refine lv_iconst (v := 0) X.1 X.2.1 dX0_isNeedless_10 (by decide) ?_
  refine lv_istore_n (lv' := [(3, .int 0), (2, .int r_5), (0, .ref (G.1 + 104)), (1, .int x1)]) X.1 X.2.1 dX0_isNeedless_11 rfl hl (by decide) rfl (fun ls hl => ?_)
  obtain ⟨f_6, h⟩ := h
  exact B12 r_5 f_6 0 S_4 _ (lv_sub hl [2, 3, 1, 0] rfl) h _ _ hP hS

set_option maxHeartbeats 4000000 in
set_option maxRecDepth 100000 in
theorem c_X0_sortThoseThatStay (l : Launch) (G : Cx) (S : St) (K : Int32 → St → Prop) (h : w_X0_sortThoseThatStay S K) : q_Met l yX0_sortThoseThatStay cX0_sortThoseThatStay 4 (some .int) 2 45 G [.ref (G.1 + 104)] v_i S K := by
  refine q_enter (by decide +kernel) (Nat.le_of_ble_eq_true rfl) (fun p e s m args below meth c ls X hK hP hr hlocks hl => ?_)
  have hS : va_S (fr_ G) s.heap s.heap [] := va_S.rf
  have hl : lv_has ls 4 [(0, .ref (G.1 + 104))] := hl
  have B98 : ∀ (x1 : Int32) (x2 : Int32) (k4 : Int32 → Int32 → St → Prop) (hk4 : ∀ (x1 : Int32) (x2 : Int32) (S : St) (ls : Array Slot), lv_has ls 4 [(0, .ref (G.1 + 104)), (1, .int x1), (2, .int x2)] → k4 x1 x2 S → q_W p l e (k2_rm 2 45) s m args below meth c 0 0 (MQ below (q_Qc G K v_i) args s 0 0 (fr_ G)) G 4 ls [] S) (S : St) (ls : Array Slot), lv_has ls 4 [(0, .ref (G.1 + 104)), (1, .int x1), (2, .int x2)] → w_X0_sortThoseThatStay_98 K k4 x1 x2 S → q_W p l e (k2_rm 2 45) s m args below meth c 0 0 (MQ below (q_Qc G K v_i) args s 0 0 (fr_ G)) G 98 ls [] S := by
    intro x1 x2 k4 hk4 S ls hl h H locs hP hS
    obtain ⟨x2_1, e2_1⟩ : ∃ y : Int32, y = x2 + 1 := ⟨_, rfl⟩
    have h := h x2_1 e2_1
    refine lv_iinc (v := x2_1) (lv' := [(2, .int x2_1), (0, .ref (G.1 + 104)), (1, .int x1)]) X.1 X.2.1 dX0_sortThoseThatStay_98 hl (k := 2) rfl (by rw [e2_1]; first | rfl | decide) (by decide) rfl (fun ls hl => ?_)
    refine lv_goto (tgt := 4) X.1 X.2.1 dX0_sortThoseThatStay_101 (by decide) ?_
    exact hk4 x1 x2_1 S _ (lv_sub hl [1, 2, 0] rfl) h _ _ hP hS
  have B88 : ∀ (x1 : Int32) (x2 : Int32) (x3 : Int32) (k4 : Int32 → Int32 → St → Prop) (hk4 : ∀ (x1 : Int32) (x2 : Int32) (S : St) (ls : Array Slot), lv_has ls 4 [(0, .ref (G.1 + 104)), (1, .int x1), (2, .int x2)] → k4 x1 x2 S → q_W p l e (k2_rm 2 45) s m args below meth c 0 0 (MQ below (q_Qc G K v_i) args s 0 0 (fr_ G)) G 4 ls [] S) (S : St) (ls : Array Slot), lv_has ls 4 [(0, .ref (G.1 + 104)), (1, .int x1), (2, .int x2), (3, .int x3)] → w_X0_sortThoseThatStay_88 K k4 x1 x2 x3 S → q_W p l e (k2_rm 2 45) s m args below meth c 0 0 (MQ below (q_Qc G K v_i) args s 0 0 (fr_ G)) G 88 ls [] S := by
    intro x1 x2 x3 k4 hk4 S ls hl h H locs hP hS
    refine lv_aload_n X.1 X.2.1 dX0_sortThoseThatStay_88 rfl (lv_at hl 0 rfl) ?_
    refine gf_X0_stay X hK hP tl_X0_27 dX0_sortThoseThatStay_89 ?_
    refine lv_iload_n X.1 X.2.1 dX0_sortThoseThatStay_92 rfl (lv_at hl 3 rfl) ?_
    refine lv_iload_n X.1 X.2.1 dX0_sortThoseThatStay_93 rfl (lv_at hl 2 rfl) ?_
    obtain ⟨o_1, h⟩ := h
    refine q_iast X hK hP hS kz_110 o_1 dX0_sortThoseThatStay_94 (fun S_2 H locs eS_2 hP hS => ?_)
    have h := h S_2 eS_2
    obtain ⟨x1_3, e1_3⟩ : ∃ y : Int32, y = x1 + 1 := ⟨_, rfl⟩
    have h := h x1_3 e1_3
    refine lv_iinc (v := x1_3) (lv' := [(1, .int x1_3), (0, .ref (G.1 + 104)), (2, .int x2), (3, .int x3)]) X.1 X.2.1 dX0_sortThoseThatStay_95 hl (k := 1) rfl (by rw [e1_3]; first | rfl | decide) (by decide) rfl (fun ls hl => ?_)
    exact B98 x1_3 x2 k4 hk4 S_2 _ (lv_sub hl [1, 0, 2] rfl) h _ _ hP hS
  have B22 : ∀ (x1 : Int32) (x2 : Int32) (k4 : Int32 → Int32 → St → Prop) (hk4 : ∀ (x1 : Int32) (x2 : Int32) (S : St) (ls : Array Slot), lv_has ls 4 [(0, .ref (G.1 + 104)), (1, .int x1), (2, .int x2)] → k4 x1 x2 S → q_W p l e (k2_rm 2 45) s m args below meth c 0 0 (MQ below (q_Qc G K v_i) args s 0 0 (fr_ G)) G 4 ls [] S) (f : Nat) (x3 : Int32) (S : St) (ls : Array Slot), lv_has ls 4 [(0, .ref (G.1 + 104)), (1, .int x1), (2, .int x2), (3, .int x3)] → q_it (fun _ _ => False) (w_X0_sortThoseThatStay_22 K k4 x1 x2) f x3 S → q_W p l e (k2_rm 2 45) s m args below meth c 0 0 (MQ below (q_Qc G K v_i) args s 0 0 (fr_ G)) G 22 ls [] S := by
    intro x1 x2 k4 hk4 f
    induction f with
    | zero => intro x3 S ls hl h; exact False.elim h
    | succ f hk22 =>
      intro x3 S ls hl h H locs hP hS
      have h : w_X0_sortThoseThatStay_22 K k4 x1 x2 (q_it (fun _ _ => False) (w_X0_sortThoseThatStay_22 K k4 x1 x2) f) x3 S := h
      generalize q_it (fun _ _ => False) (w_X0_sortThoseThatStay_22 K k4 x1 x2) f = k22 at h hk22
      refine lv_iload_n X.1 X.2.1 dX0_sortThoseThatStay_22 rfl (lv_at hl 3 rfl) ?_
      refine lv_if_le (tgt := 88) X.1 X.2.1 dX0_sortThoseThatStay_23 (by decide) (fun c_1 => ?_) (fun c_1 => ?_)
      · have h := h.1 c_1
        exact B88 x1 x2 x3 k4 hk4 S _ (lv_sub hl [0, 1, 2, 3] rfl) h _ _ hP hS
      · have h := h.2 c_1
        refine lv_aload_n X.1 X.2.1 dX0_sortThoseThatStay_26 rfl (lv_at hl 0 rfl) ?_
        refine gf_X0_ring X hK hP tl_X0_36 dX0_sortThoseThatStay_27 ?_
        refine lv_aload_n X.1 X.2.1 dX0_sortThoseThatStay_30 rfl (lv_at hl 0 rfl) ?_
        refine gf_X0_rows X hK hP tl_X0_20 dX0_sortThoseThatStay_31 ?_
        refine lv_aload_n X.1 X.2.1 dX0_sortThoseThatStay_34 rfl (lv_at hl 0 rfl) ?_
        refine gf_X0_stay X hK hP tl_X0_27 dX0_sortThoseThatStay_35 ?_
        refine lv_iload_n X.1 X.2.1 dX0_sortThoseThatStay_38 rfl (lv_at hl 3 rfl) ?_
        refine lv_iconst (v := 1) X.1 X.2.1 dX0_sortThoseThatStay_39 (by decide) ?_
        refine lv_isub X.1 X.2.1 dX0_sortThoseThatStay_40 ?_
        obtain ⟨o_2, h⟩ := h
        refine q_iald X hK hP kz_110 o_2 dX0_sortThoseThatStay_41 ?_
        obtain ⟨o_3, h⟩ := h
        obtain ⟨o_4, h⟩ := h
        refine q_aald X hK hP (isR_kd o_3) o_4 dX0_sortThoseThatStay_42 ?_
        obtain ⟨o_5, h⟩ := h
        refine q_callV (rest := [.ref (G.1 + 1)]) (b := (pidx (q_rf (S 104 3)) (q_rf (S 110 (q_rf (x3 - 1)))))) X hK hP hS (c_X3_head l G (pidx (q_rf (S 104 3)) (q_rf (S 110 (q_rf (x3 - 1))))) S _ o_5 h) my_X3_head tl_X0_114 dX0_sortThoseThatStay_43 o_5 rfl rfl rfl ⟨Nat.le_of_ble_eq_true rfl, Nat.le_of_ble_eq_true rfl⟩ hl.1 rfl (Nat.le_of_ble_eq_true rfl) ⟨Nat.le_of_ble_eq_true rfl, Nat.le_of_ble_eq_true rfl⟩ (fun r_7 S_6 H locs h hP hS => ?_)
        refine W.eq (g2 := F0 m 46 ls [.int r_7, .ref (G.1 + 1)]) rfl ?_
        refine q_callV (rest := []) (b := 1) X hK hP hS (c_X5_rank l G r_7 S_6 _ h) my_X5_rank tl_X0_108 dX0_sortThoseThatStay_46 kz_1 rfl rfl rfl ⟨Nat.le_of_ble_eq_true rfl, Nat.le_of_ble_eq_true rfl⟩ hl.1 rfl (Nat.le_of_ble_eq_true rfl) ⟨Nat.le_of_ble_eq_true rfl, Nat.le_of_ble_eq_true rfl⟩ (fun r_9 S_8 H locs h hP hS => ?_)
        refine W.eq (g2 := F0 m 49 ls [.int r_9]) rfl ?_
        refine lv_aload_n X.1 X.2.1 dX0_sortThoseThatStay_49 rfl (lv_at hl 0 rfl) ?_
        refine gf_X0_ring X hK hP tl_X0_36 dX0_sortThoseThatStay_50 ?_
        refine lv_aload_n X.1 X.2.1 dX0_sortThoseThatStay_53 rfl (lv_at hl 0 rfl) ?_
        refine gf_X0_rows X hK hP tl_X0_20 dX0_sortThoseThatStay_54 ?_
        refine lv_iload_n X.1 X.2.1 dX0_sortThoseThatStay_57 rfl (lv_at hl 2 rfl) ?_
        obtain ⟨o_10, h⟩ := h
        obtain ⟨o_11, h⟩ := h
        refine q_aald X hK hP (isR_kd o_10) o_11 dX0_sortThoseThatStay_58 ?_
        obtain ⟨o_12, h⟩ := h
        refine q_callV (rest := [.ref (G.1 + 1), .int r_9]) (b := (pidx (q_rf (S_8 104 3)) (q_rf x2))) X hK hP hS (c_X3_head l G (pidx (q_rf (S_8 104 3)) (q_rf x2)) S_8 _ o_12 h) my_X3_head tl_X0_114 dX0_sortThoseThatStay_59 o_12 rfl rfl rfl ⟨Nat.le_of_ble_eq_true rfl, Nat.le_of_ble_eq_true rfl⟩ hl.1 rfl (Nat.le_of_ble_eq_true rfl) ⟨Nat.le_of_ble_eq_true rfl, Nat.le_of_ble_eq_true rfl⟩ (fun r_14 S_13 H locs h hP hS => ?_)
        refine W.eq (g2 := F0 m 62 ls [.int r_14, .ref (G.1 + 1), .int r_9]) rfl ?_
        refine q_callV (rest := [.int r_9]) (b := 1) X hK hP hS (c_X5_rank l G r_14 S_13 _ h) my_X5_rank tl_X0_108 dX0_sortThoseThatStay_62 kz_1 rfl rfl rfl ⟨Nat.le_of_ble_eq_true rfl, Nat.le_of_ble_eq_true rfl⟩ hl.1 rfl (Nat.le_of_ble_eq_true rfl) ⟨Nat.le_of_ble_eq_true rfl, Nat.le_of_ble_eq_true rfl⟩ (fun r_16 S_15 H locs h hP hS => ?_)
        refine W.eq (g2 := F0 m 65 ls [.int r_16, .int r_9]) rfl ?_
        refine lv_icmp_le (tgt := 88) X.1 X.2.1 dX0_sortThoseThatStay_65 (by decide) (fun c_17 => ?_) (fun c_17 => ?_)
        · have h := h.1 c_17
          exact B88 x1 x2 x3 k4 hk4 S_15 _ (lv_sub hl [0, 1, 2, 3] rfl) h _ _ hP hS
        · have h := h.2 c_17
          refine lv_aload_n X.1 X.2.1 dX0_sortThoseThatStay_68 rfl (lv_at hl 0 rfl) ?_
          refine gf_X0_stay X hK hP tl_X0_27 dX0_sortThoseThatStay_69 ?_
          refine lv_iload_n X.1 X.2.1 dX0_sortThoseThatStay_72 rfl (lv_at hl 3 rfl) ?_
          refine lv_aload_n X.1 X.2.1 dX0_sortThoseThatStay_73 rfl (lv_at hl 0 rfl) ?_
          refine gf_X0_stay X hK hP tl_X0_27 dX0_sortThoseThatStay_74 ?_
          refine lv_iload_n X.1 X.2.1 dX0_sortThoseThatStay_77 rfl (lv_at hl 3 rfl) ?_
          refine lv_iconst (v := 1) X.1 X.2.1 dX0_sortThoseThatStay_78 (by decide) ?_
          refine lv_isub X.1 X.2.1 dX0_sortThoseThatStay_79 ?_
          refine q_iald X hK hP kz_110 o_2 dX0_sortThoseThatStay_80 ?_
          obtain ⟨o_18, h⟩ := h
          refine q_iast X hK hP hS kz_110 o_18 dX0_sortThoseThatStay_81 (fun S_19 H locs eS_19 hP hS => ?_)
          have h := h S_19 eS_19
          obtain ⟨x3_20, e3_20⟩ : ∃ y : Int32, y = x3 + (-1) := ⟨_, rfl⟩
          have h := h x3_20 e3_20
          refine lv_iinc (v := x3_20) (lv' := [(3, .int x3_20), (0, .ref (G.1 + 104)), (1, .int x1), (2, .int x2)]) X.1 X.2.1 dX0_sortThoseThatStay_82 hl (k := 3) rfl (by rw [e3_20]; first | rfl | decide) (by decide) rfl (fun ls hl => ?_)
          refine lv_goto (tgt := 22) X.1 X.2.1 dX0_sortThoseThatStay_85 (by decide) ?_
          exact hk22 x3_20 S_19 _ (lv_sub hl [1, 2, 3, 0] rfl) h _ _ hP hS
  have B4 : ∀ (f : Nat) (x1 : Int32) (x2 : Int32) (S : St) (ls : Array Slot), lv_has ls 4 [(0, .ref (G.1 + 104)), (1, .int x1), (2, .int x2)] → q_it (fun _ _ _ => False) (w_X0_sortThoseThatStay_4 K) f x1 x2 S → q_W p l e (k2_rm 2 45) s m args below meth c 0 0 (MQ below (q_Qc G K v_i) args s 0 0 (fr_ G)) G 4 ls [] S := by
    intro f
    induction f with
    | zero => intro x1 x2 S ls hl h; exact False.elim h
    | succ f hk4 =>
      intro x1 x2 S ls hl h H locs hP hS
      have h : w_X0_sortThoseThatStay_4 K (q_it (fun _ _ _ => False) (w_X0_sortThoseThatStay_4 K) f) x1 x2 S := h
      generalize q_it (fun _ _ _ => False) (w_X0_sortThoseThatStay_4 K) f = k4 at h hk4
      refine lv_iload_n X.1 X.2.1 dX0_sortThoseThatStay_4 rfl (lv_at hl 2 rfl) ?_
      refine lv_aload_n X.1 X.2.1 dX0_sortThoseThatStay_5 rfl (lv_at hl 0 rfl) ?_
      refine gf_X0_size X hK hP tl_X0_44 dX0_sortThoseThatStay_6 ?_
      refine lv_icmp_ge (tgt := 104) X.1 X.2.1 dX0_sortThoseThatStay_9 (by decide) (fun c_1 => ?_) (fun c_1 => ?_)
      · have h := h.1 c_1
        refine lv_iload_n X.1 X.2.1 dX0_sortThoseThatStay_104 rfl (lv_at hl 1 rfl) ?_
        exact q_iret X hr hlocks hP hS rfl h dX0_sortThoseThatStay_105
      · have h := h.2 c_1
        refine lv_aload_n X.1 X.2.1 dX0_sortThoseThatStay_12 rfl (lv_at hl 0 rfl) ?_
        refine lv_iload_n X.1 X.2.1 dX0_sortThoseThatStay_13 rfl (lv_at hl 2 rfl) ?_
        refine q_callV (rest := []) (b := 104) X hK hP hS (c_X0_isNeedless l G x2 S _ h) my_X0_isNeedless tl_X0_161 dX0_sortThoseThatStay_14 kz_104 rfl rfl rfl ⟨Nat.le_of_ble_eq_true rfl, Nat.le_of_ble_eq_true rfl⟩ hl.1 rfl (Nat.le_of_ble_eq_true rfl) ⟨Nat.le_of_ble_eq_true rfl, Nat.le_of_ble_eq_true rfl⟩ (fun r_3 S_2 H locs h hP hS => ?_)
        refine W.eq (g2 := F0 m 17 ls [.int r_3]) rfl ?_
        refine lv_if_ne (tgt := 98) X.1 X.2.1 dX0_sortThoseThatStay_17 (by decide) (fun c_4 => ?_) (fun c_4 => ?_)
        · have h := h.1 c_4
          exact B98 x1 x2 k4 hk4 S_2 _ (lv_sub hl [0, 1, 2] rfl) h _ _ hP hS
        · have h := h.2 c_4
          refine lv_iload_n X.1 X.2.1 dX0_sortThoseThatStay_20 rfl (lv_at hl 1 rfl) ?_
          refine lv_istore_n (lv' := [(3, .int x1), (0, .ref (G.1 + 104)), (1, .int x1), (2, .int x2)]) X.1 X.2.1 dX0_sortThoseThatStay_21 rfl hl (by decide) rfl (fun ls hl => ?_)
          obtain ⟨f_5, h⟩ := h
          exact B22 x1 x2 k4 hk4 f_5 x1 S_2 _ (lv_sub hl [1, 2, 3, 0] rfl) h _ _ hP hS
  refine lv_iconst (v := 0) X.1 X.2.1 dX0_sortThoseThatStay_0 (by decide) ?_
  refine lv_istore_n (lv' := [(1, .int 0), (0, .ref (G.1 + 104))]) X.1 X.2.1 dX0_sortThoseThatStay_1 rfl hl (by decide) rfl (fun ls hl => ?_)
  refine lv_iconst (v := 0) X.1 X.2.1 dX0_sortThoseThatStay_2 (by decide) ?_
  refine lv_istore_n (lv' := [(2, .int 0), (1, .int 0), (0, .ref (G.1 + 104))]) X.1 X.2.1 dX0_sortThoseThatStay_3 rfl hl (by decide) rfl (fun ls hl => ?_)
  obtain ⟨f_1, h⟩ := h
  exact B4 f_1 0 0 S _ (lv_sub hl [2, 1, 0] rfl) h _ _ hP hS

set_option maxHeartbeats 4000000 in
set_option maxRecDepth 100000 in
theorem c_X0_reduceTail (l : Launch) (G : Cx) (x1 : Int32) (x2 : Int32) (S : St) (K : Int32 → St → Prop) (h : w_X0_reduceTail x1 x2 S K) : q_Met l yX0_reduceTail cX0_reduceTail 6 (some .int) 5 125 G [.ref (G.1 + 104), .int x1, .int x2] v_i S K := by
  refine q_enter (by decide +kernel) (Nat.le_of_ble_eq_true rfl) (fun p e s m args below meth c ls X hK hP hr hlocks hl => ?_)
  have hS : va_S (fr_ G) s.heap s.heap [] := va_S.rf
  have hl : lv_has ls 6 [(0, .ref (G.1 + 104)), (1, .int x1), (2, .int x2)] := hl
  have B51 : ∀ (q3 : Nat) (f : Nat) (x5 : Int32) (S : St) (ls : Array Slot), lv_has ls 6 [(0, .ref (G.1 + 104)), (3, .ref (G.1 + q3)), (5, .int x5)] → q_it (fun _ _ => False) (w_X0_reduceTail_51 x1 x2 K q3) f x5 S → q_W p l e (k2_rm 5 125) s m args below meth c 0 0 (MQ below (q_Qc G K v_i) args s 0 0 (fr_ G)) G 51 ls [] S := by
    intro q3 f
    induction f with
    | zero => intro x5 S ls hl h; exact False.elim h
    | succ f hk51 =>
      intro x5 S ls hl h H locs hP hS
      have h : w_X0_reduceTail_51 x1 x2 K q3 (q_it (fun _ _ => False) (w_X0_reduceTail_51 x1 x2 K q3) f) x5 S := h
      generalize q_it (fun _ _ => False) (w_X0_reduceTail_51 x1 x2 K q3) f = k51 at h hk51
      refine lv_iload X.1 X.2.1 dX0_reduceTail_51 (lv_at hl 2 rfl) ?_
      refine lv_aload_n X.1 X.2.1 dX0_reduceTail_53 rfl (lv_at hl 0 rfl) ?_
      refine gf_X0_reducer X hK hP tl_X0_40 dX0_reduceTail_54 ?_
      refine gf_X4_r X hK hP tl_X0_141 dX0_reduceTail_57 ?_
      refine gf_X3_size X hK hP kz_101 tl_X0_144 dX0_reduceTail_60 ?_
      refine lv_icmp_ge (tgt := 108) X.1 X.2.1 dX0_reduceTail_63 (by decide) (fun c_1 => ?_) (fun c_1 => ?_)
      · have h := h.1 c_1
        refine lv_iconst (v := 0) X.1 X.2.1 dX0_reduceTail_108 (by decide) ?_
        exact q_iret X hr hlocks hP hS rfl h dX0_reduceTail_109
      · have h := h.2 c_1
        refine lv_aload_n X.1 X.2.1 dX0_reduceTail_66 rfl (lv_at hl 1 rfl) ?_
        refine lv_aload_n X.1 X.2.1 dX0_reduceTail_67 rfl (lv_at hl 0 rfl) ?_
        refine gf_X0_reducer X hK hP tl_X0_40 dX0_reduceTail_68 ?_
        refine gf_X4_r X hK hP tl_X0_141 dX0_reduceTail_71 ?_
        refine gf_X3_numbers X hK hP kz_101 tl_X0_168 dX0_reduceTail_74 ?_
        refine lv_iload X.1 X.2.1 dX0_reduceTail_77 (lv_at hl 2 rfl) ?_
        obtain ⟨o_2, h⟩ := h
        refine q_iald X hK hP (isP_1 kz_101) o_2 dX0_reduceTail_79 ?_
        refine lv_aload_n X.1 X.2.1 dX0_reduceTail_80 rfl (lv_at hl 0 rfl) ?_
        refine gf_X0_reducer X hK hP tl_X0_40 dX0_reduceTail_81 ?_
        refine gf_X4_r X hK hP tl_X0_141 dX0_reduceTail_84 ?_
        refine gf_X3_monos X hK hP kz_101 tl_X0_171 dX0_reduceTail_87 ?_
        refine lv_iload X.1 X.2.1 dX0_reduceTail_90 (lv_at hl 2 rfl) ?_
        refine q_iald X hK hP (isP_2 kz_101) o_2 dX0_reduceTail_92 ?_
        obtain ⟨o_3, h⟩ := h
        refine q_callV (rest := []) (b := q3) X hK hP hS (c_X3_push l G q3 (S (101 + 1) (q_rf x5)) (S (101 + 2) (q_rf x5)) S _ o_3 h) my_X3_push tl_X0_174 dX0_reduceTail_93 o_3 rfl rfl rfl ⟨Nat.le_of_ble_eq_true rfl, Nat.le_of_ble_eq_true rfl⟩ hl.1 rfl (Nat.le_of_ble_eq_true rfl) ⟨Nat.le_of_ble_eq_true rfl, Nat.le_of_ble_eq_true rfl⟩ (fun r_5 S_4 H locs h hP hS => ?_)
        refine W.eq (g2 := F0 m 96 ls [.int r_5]) rfl ?_
        refine lv_if_ne (tgt := 102) X.1 X.2.1 dX0_reduceTail_96 (by decide) (fun c_6 => ?_) (fun c_6 => ?_)
        · have h := h.1 c_6
          obtain ⟨x5_7, e5_7⟩ : ∃ y : Int32, y = x5 + 1 := ⟨_, rfl⟩
          have h := h x5_7 e5_7
          refine lv_iinc (v := x5_7) (lv' := [(5, .int x5_7), (0, .ref (G.1 + 104)), (3, .ref (G.1 + q3))]) X.1 X.2.1 dX0_reduceTail_102 hl (k := 2) rfl (by rw [e5_7]; first | rfl | decide) (by decide) rfl (fun ls hl => ?_)
          refine lv_goto (tgt := 51) X.1 X.2.1 dX0_reduceTail_105 (by decide) ?_
          exact hk51 x5_7 S_4 _ (lv_sub hl [1, 2, 0] rfl) h _ _ hP hS
        · have h := h.2 c_6
          refine lv_bipush (v := (-6)) X.1 X.2.1 dX0_reduceTail_99 (by decide) ?_
          exact q_iret X hr hlocks hP hS rfl h dX0_reduceTail_101
  refine lv_aload_n X.1 X.2.1 dX0_reduceTail_0 rfl (lv_at hl 0 rfl) ?_
  refine gf_X0_spare X hK hP tl_X0_24 dX0_reduceTail_1 ?_
  refine lv_iload_n X.1 X.2.1 dX0_reduceTail_4 rfl (lv_at hl 1 rfl) ?_
  obtain ⟨o_1, h⟩ := h
  obtain ⟨o_2, h⟩ := h
  refine q_aald X hK hP (isR_kd o_1) o_2 dX0_reduceTail_5 ?_
  refine lv_astore_n (lv' := [(3, .ref (G.1 + (pidx (q_rf (S 104 4)) (q_rf x1)))), (0, .ref (G.1 + 104)), (1, .int x1), (2, .int x2)]) X.1 X.2.1 dX0_reduceTail_6 rfl hl (by decide) rfl (fun ls hl => ?_)
  refine lv_aload_n X.1 X.2.1 dX0_reduceTail_7 rfl (lv_at hl 1 rfl) ?_
  refine gf_X0_begun X hK hP tl_X0_32 dX0_reduceTail_8 ?_
  refine lv_aload_n X.1 X.2.1 dX0_reduceTail_11 rfl (lv_at hl 0 rfl) ?_
  refine lv_iconst (v := 1) X.1 X.2.1 dX0_reduceTail_12 (by decide) ?_
  obtain ⟨o_3, h⟩ := h
  refine q_callV (rest := []) (b := 111) X hK hP hS (c_X3_copyFrom l G 111 (pidx (q_rf (S 104 4)) (q_rf x1)) 1 S _ kz_111 o_3 h) my_X3_copyFrom tl_X0_164 dX0_reduceTail_13 kz_111 rfl rfl rfl ⟨Nat.le_of_ble_eq_true rfl, Nat.le_of_ble_eq_true rfl⟩ hl.1 rfl (Nat.le_of_ble_eq_true rfl) ⟨Nat.le_of_ble_eq_true rfl, Nat.le_of_ble_eq_true rfl⟩ (fun r_5 S_4 H locs h hP hS => ?_)
  refine W.eq (g2 := F0 m 16 ls []) rfl ?_
  refine lv_aload_n X.1 X.2.1 dX0_reduceTail_16 rfl (lv_at hl 1 rfl) ?_
  refine gf_X0_reducer X hK hP tl_X0_40 dX0_reduceTail_17 ?_
  refine lv_aload_n X.1 X.2.1 dX0_reduceTail_20 rfl (lv_at hl 1 rfl) ?_
  refine gf_X0_begun X hK hP tl_X0_32 dX0_reduceTail_21 ?_
  refine lv_aload_n X.1 X.2.1 dX0_reduceTail_24 rfl (lv_at hl 1 rfl) ?_
  refine gf_X0_spare X hK hP tl_X0_24 dX0_reduceTail_25 ?_
  refine lv_iload_n X.1 X.2.1 dX0_reduceTail_28 rfl (lv_at hl 3 rfl) ?_
  refine lv_iload_n X.1 X.2.1 dX0_reduceTail_29 rfl (lv_at hl 2 rfl) ?_
  obtain ⟨o_6, h⟩ := h
  refine q_callV (rest := []) (b := 94) X hK hP hS (c_X4_leave l G 111 (q_rf (S_4 104 4)) x2 x1 S_4 _ kz_111 o_6 h) my_X4_leave tl_X0_137 dX0_reduceTail_30 kz_94 rfl rfl rfl ⟨Nat.le_of_ble_eq_true rfl, Nat.le_of_ble_eq_true rfl⟩ hl.1 rfl (Nat.le_of_ble_eq_true rfl) ⟨Nat.le_of_ble_eq_true rfl, Nat.le_of_ble_eq_true rfl⟩ (fun r_8 S_7 H locs h hP hS => ?_)
  refine W.eq (g2 := F0 m 33 ls [.int r_8]) rfl ?_
  refine lv_istore (lv' := [(4, .int r_8), (3, .ref (G.1 + (pidx (q_rf (S 104 4)) (q_rf x1)))), (0, .ref (G.1 + 104)), (1, .int x1), (2, .int x2)]) X.1 X.2.1 dX0_reduceTail_33 hl (by decide) rfl (fun ls hl => ?_)
  refine lv_iload X.1 X.2.1 dX0_reduceTail_35 (lv_at hl 0 rfl) ?_
  refine lv_if_eq (tgt := 43) X.1 X.2.1 dX0_reduceTail_37 (by decide) (fun c_9 => ?_) (fun c_9 => ?_)
  · have h := h.1 c_9
    refine lv_aload_n X.1 X.2.1 dX0_reduceTail_43 rfl (lv_at hl 1 rfl) ?_
    refine lv_iconst (v := 1) X.1 X.2.1 dX0_reduceTail_44 (by decide) ?_
    refine pf_X3_size X hK hP hS o_3 tl_X0_144 dX0_reduceTail_45 (fun S_10 H locs eS_10 hP hS => ?_)
    have h := h S_10 eS_10
    refine lv_iconst (v := 0) X.1 X.2.1 dX0_reduceTail_48 (by decide) ?_
    refine lv_istore (lv' := [(5, .int 0), (4, .int r_8), (3, .ref (G.1 + (pidx (q_rf (S 104 4)) (q_rf x1)))), (0, .ref (G.1 + 104)), (1, .int x1), (2, .int x2)]) X.1 X.2.1 dX0_reduceTail_49 hl (by decide) rfl (fun ls hl => ?_)
    obtain ⟨f_11, h⟩ := h
    exact B51 (pidx (q_rf (S 104 4)) (q_rf x1)) f_11 0 S_10 _ (lv_sub hl [3, 2, 0] rfl) h _ _ hP hS
  · have h := h.2 c_9
    refine lv_iload X.1 X.2.1 dX0_reduceTail_40 (lv_at hl 0 rfl) ?_
    exact q_iret X hr hlocks hP hS rfl h dX0_reduceTail_42

set_option maxHeartbeats 4000000 in
set_option maxRecDepth 100000 in
theorem c_X0_makeTidy (l : Launch) (G : Cx) (S : St) (K : Int32 → St → Prop) (h : w_X0_makeTidy S K) : q_Met l yX0_makeTidy cX0_makeTidy 4 (some .int) 6 150 G [.ref (G.1 + 104)] v_i S K := by
  refine q_enter (by decide +kernel) (Nat.le_of_ble_eq_true rfl) (fun p e s m args below meth c ls X hK hP hr hlocks hl => ?_)
  have hS : va_S (fr_ G) s.heap s.heap [] := va_S.rf
  have hl : lv_has ls 4 [(0, .ref (G.1 + 104))] := hl
  have B47 : ∀ (x1 : Int32) (f : Nat) (x2 : Int32) (S : St) (ls : Array Slot), lv_has ls 4 [(0, .ref (G.1 + 104)), (1, .int x1), (2, .int x2)] → q_it (fun _ _ => False) (w_X0_makeTidy_47 K x1) f x2 S → q_W p l e (k2_rm 6 150) s m args below meth c 0 0 (MQ below (q_Qc G K v_i) args s 0 0 (fr_ G)) G 47 ls [] S := by
    intro x1 f
    induction f with
    | zero => intro x2 S ls hl h; exact False.elim h
    | succ f hk47 =>
      intro x2 S ls hl h H locs hP hS
      have h : w_X0_makeTidy_47 K x1 (q_it (fun _ _ => False) (w_X0_makeTidy_47 K x1) f) x2 S := h
      generalize q_it (fun _ _ => False) (w_X0_makeTidy_47 K x1) f = k47 at h hk47
      refine lv_iload_n X.1 X.2.1 dX0_makeTidy_47 rfl (lv_at hl 2 rfl) ?_
      refine lv_iload_n X.1 X.2.1 dX0_makeTidy_48 rfl (lv_at hl 1 rfl) ?_
      refine lv_icmp_ge (tgt := 71) X.1 X.2.1 dX0_makeTidy_49 (by decide) (fun c_1 => ?_) (fun c_1 => ?_)
      · have h := h.1 c_1
        refine lv_aload_n X.1 X.2.1 dX0_makeTidy_71 rfl (lv_at hl 0 rfl) ?_
        refine gf_X0_rows X hK hP tl_X0_20 dX0_makeTidy_72 ?_
        refine lv_astore_n (lv' := [(2, .ref (G.1 + q_rf (S 104 3))), (0, .ref (G.1 + 104)), (1, .int x1)]) X.1 X.2.1 dX0_makeTidy_75 rfl hl (by decide) rfl (fun ls hl => ?_)
        refine lv_aload_n X.1 X.2.1 dX0_makeTidy_76 rfl (lv_at hl 1 rfl) ?_
        refine lv_aload_n X.1 X.2.1 dX0_makeTidy_77 rfl (lv_at hl 1 rfl) ?_
        refine gf_X0_spare X hK hP tl_X0_24 dX0_makeTidy_78 ?_
        obtain ⟨o_3, h⟩ := h
        refine pf_X0_rows X hK hP hS o_3 tl_X0_20 dX0_makeTidy_81 (fun S_2 H locs eS_2 hP hS => ?_)
        have h := h S_2 eS_2
        refine lv_aload_n X.1 X.2.1 dX0_makeTidy_84 rfl (lv_at hl 1 rfl) ?_
        refine lv_aload_n X.1 X.2.1 dX0_makeTidy_85 rfl (lv_at hl 0 rfl) ?_
        obtain ⟨o_5, h⟩ := h
        refine pf_X0_spare X hK hP hS o_5 tl_X0_24 dX0_makeTidy_86 (fun S_4 H locs eS_4 hP hS => ?_)
        have h := h S_4 eS_4
        refine lv_aload_n X.1 X.2.1 dX0_makeTidy_89 rfl (lv_at hl 1 rfl) ?_
        refine lv_iload_n X.1 X.2.1 dX0_makeTidy_90 rfl (lv_at hl 2 rfl) ?_
        refine pf_X0_size X hK hP hS tl_X0_44 dX0_makeTidy_91 (fun S_6 H locs eS_6 hP hS => ?_)
        have h := h S_6 eS_6
        refine lv_aload_n X.1 X.2.1 dX0_makeTidy_94 rfl (lv_at hl 1 rfl) ?_
        refine lv_iconst (v := 1) X.1 X.2.1 dX0_makeTidy_95 (by decide) ?_
        refine pf_X0_isTidy X hK hP hS ⟨rfl, rfl⟩ tl_X0_49 dX0_makeTidy_96 (fun S_7 H locs eS_7 hP hS => ?_)
        have h := h S_7 eS_7
        refine lv_iload_n X.1 X.2.1 dX0_makeTidy_99 rfl (lv_at hl 2 rfl) ?_
        exact q_iret X hr hlocks hP hS rfl h dX0_makeTidy_100
      · have h := h.2 c_1
        refine lv_aload_n X.1 X.2.1 dX0_makeTidy_52 rfl (lv_at hl 0 rfl) ?_
        refine lv_iload_n X.1 X.2.1 dX0_makeTidy_53 rfl (lv_at hl 2 rfl) ?_
        refine lv_iload_n X.1 X.2.1 dX0_makeTidy_54 rfl (lv_at hl 1 rfl) ?_
        refine q_callV (rest := []) (b := 104) X hK hP hS (c_X0_reduceTail l G x2 x1 S _ h) my_X0_reduceTail tl_X0_158 dX0_makeTidy_55 kz_104 rfl rfl rfl ⟨Nat.le_of_ble_eq_true rfl, Nat.le_of_ble_eq_true rfl⟩ hl.1 rfl (Nat.le_of_ble_eq_true rfl) ⟨Nat.le_of_ble_eq_true rfl, Nat.le_of_ble_eq_true rfl⟩ (fun r_9 S_8 H locs h hP hS => ?_)
        refine W.eq (g2 := F0 m 58 ls [.int r_9]) rfl ?_
        refine lv_istore_n (lv' := [(3, .int r_9), (0, .ref (G.1 + 104)), (1, .int x1), (2, .int x2)]) X.1 X.2.1 dX0_makeTidy_58 rfl hl (by decide) rfl (fun ls hl => ?_)
        refine lv_iload_n X.1 X.2.1 dX0_makeTidy_59 rfl (lv_at hl 0 rfl) ?_
        refine lv_if_eq (tgt := 65) X.1 X.2.1 dX0_makeTidy_60 (by decide) (fun c_10 => ?_) (fun c_10 => ?_)
        · have h := h.1 c_10
          obtain ⟨x2_11, e2_11⟩ : ∃ y : Int32, y = x2 + 1 := ⟨_, rfl⟩
          have h := h x2_11 e2_11
          refine lv_iinc (v := x2_11) (lv' := [(2, .int x2_11), (3, .int r_9), (0, .ref (G.1 + 104)), (1, .int x1)]) X.1 X.2.1 dX0_makeTidy_65 hl (k := 3) rfl (by rw [e2_11]; first | rfl | decide) (by decide) rfl (fun ls hl => ?_)
          refine lv_goto (tgt := 47) X.1 X.2.1 dX0_makeTidy_68 (by decide) ?_
          exact hk47 x2_11 S_8 _ (lv_sub hl [2, 3, 0] rfl) h _ _ hP hS
        · have h := h.2 c_10
          refine lv_iload_n X.1 X.2.1 dX0_makeTidy_63 rfl (lv_at hl 0 rfl) ?_
          exact q_iret X hr hlocks hP hS rfl h dX0_makeTidy_64
  have B14 : ∀ (x1 : Int32) (f : Nat) (x2 : Int32) (S : St) (ls : Array Slot), lv_has ls 4 [(0, .ref (G.1 + 104)), (1, .int x1), (2, .int x2)] → q_it (fun _ _ => False) (w_X0_makeTidy_14 K x1) f x2 S → q_W p l e (k2_rm 6 150) s m args below meth c 0 0 (MQ below (q_Qc G K v_i) args s 0 0 (fr_ G)) G 14 ls [] S := by
    intro x1 f
    induction f with
    | zero => intro x2 S ls hl h; exact False.elim h
    | succ f hk14 =>
      intro x2 S ls hl h H locs hP hS
      have h : w_X0_makeTidy_14 K x1 (q_it (fun _ _ => False) (w_X0_makeTidy_14 K x1) f) x2 S := h
      generalize q_it (fun _ _ => False) (w_X0_makeTidy_14 K x1) f = k14 at h hk14
      refine lv_iload_n X.1 X.2.1 dX0_makeTidy_14 rfl (lv_at hl 2 rfl) ?_
      refine lv_iload_n X.1 X.2.1 dX0_makeTidy_15 rfl (lv_at hl 1 rfl) ?_
      refine lv_icmp_ge (tgt := 45) X.1 X.2.1 dX0_makeTidy_16 (by decide) (fun c_1 => ?_) (fun c_1 => ?_)
      · have h := h.1 c_1
        refine lv_iconst (v := 0) X.1 X.2.1 dX0_makeTidy_45 (by decide) ?_
        refine lv_istore_n (lv' := [(2, .int 0), (0, .ref (G.1 + 104)), (1, .int x1)]) X.1 X.2.1 dX0_makeTidy_46 rfl hl (by decide) rfl (fun ls hl => ?_)
        obtain ⟨f_2, h⟩ := h
        exact B47 x1 f_2 0 S _ (lv_sub hl [1, 2, 0] rfl) h _ _ hP hS
      · have h := h.2 c_1
        refine lv_aload_n X.1 X.2.1 dX0_makeTidy_19 rfl (lv_at hl 0 rfl) ?_
        refine gf_X0_spare X hK hP tl_X0_24 dX0_makeTidy_20 ?_
        refine lv_iload_n X.1 X.2.1 dX0_makeTidy_23 rfl (lv_at hl 2 rfl) ?_
        obtain ⟨o_3, h⟩ := h
        obtain ⟨o_4, h⟩ := h
        refine q_aald X hK hP (isR_kd o_3) o_4 dX0_makeTidy_24 ?_
        refine lv_aload_n X.1 X.2.1 dX0_makeTidy_25 rfl (lv_at hl 0 rfl) ?_
        refine gf_X0_rows X hK hP tl_X0_20 dX0_makeTidy_26 ?_
        refine lv_aload_n X.1 X.2.1 dX0_makeTidy_29 rfl (lv_at hl 0 rfl) ?_
        refine gf_X0_stay X hK hP tl_X0_27 dX0_makeTidy_30 ?_
        refine lv_iload_n X.1 X.2.1 dX0_makeTidy_33 rfl (lv_at hl 2 rfl) ?_
        refine q_iald X hK hP kz_110 o_4 dX0_makeTidy_34 ?_
        obtain ⟨o_5, h⟩ := h
        obtain ⟨o_6, h⟩ := h
        refine q_aald X hK hP (isR_kd o_5) o_6 dX0_makeTidy_35 ?_
        obtain ⟨o_7, h⟩ := h
        obtain ⟨o_8, h⟩ := h
        refine q_callV (rest := []) (b := (pidx (q_rf (S 104 4)) (q_rf x2))) X hK hP hS (c_X3_copyOf l G (pidx (q_rf (S 104 4)) (q_rf x2)) (pidx (q_rf (S 104 3)) (q_rf (S 110 (q_rf x2)))) S _ o_7 o_8 h) my_X3_copyOf tl_X0_57 dX0_makeTidy_36 o_7 rfl rfl rfl ⟨Nat.le_of_ble_eq_true rfl, Nat.le_of_ble_eq_true rfl⟩ hl.1 rfl (Nat.le_of_ble_eq_true rfl) ⟨Nat.le_of_ble_eq_true rfl, Nat.le_of_ble_eq_true rfl⟩ (fun r_10 S_9 H locs h hP hS => ?_)
        refine W.eq (g2 := F0 m 39 ls []) rfl ?_
        obtain ⟨x2_11, e2_11⟩ : ∃ y : Int32, y = x2 + 1 := ⟨_, rfl⟩
        have h := h x2_11 e2_11
        refine lv_iinc (v := x2_11) (lv' := [(2, .int x2_11), (0, .ref (G.1 + 104)), (1, .int x1)]) X.1 X.2.1 dX0_makeTidy_39 hl (k := 2) rfl (by rw [e2_11]; first | rfl | decide) (by decide) rfl (fun ls hl => ?_)
        refine lv_goto (tgt := 14) X.1 X.2.1 dX0_makeTidy_42 (by decide) ?_
        exact hk14 x2_11 S_9 _ (lv_sub hl [1, 2, 0] rfl) h _ _ hP hS
  refine lv_aload_n X.1 X.2.1 dX0_makeTidy_0 rfl (lv_at hl 0 rfl) ?_
  refine gf_X0_reducer X hK hP tl_X0_40 dX0_makeTidy_1 ?_
  refine q_callV (rest := []) (b := 94) X hK hP hS (c_X4_begin l G S _ h) my_X4_begin tl_X0_70 dX0_makeTidy_4 kz_94 rfl rfl rfl ⟨Nat.le_of_ble_eq_true rfl, Nat.le_of_ble_eq_true rfl⟩ hl.1 rfl (Nat.le_of_ble_eq_true rfl) ⟨Nat.le_of_ble_eq_true rfl, Nat.le_of_ble_eq_true rfl⟩ (fun r_2 S_1 H locs h hP hS => ?_)
  refine W.eq (g2 := F0 m 7 ls []) rfl ?_
  refine lv_aload_n X.1 X.2.1 dX0_makeTidy_7 rfl (lv_at hl 0 rfl) ?_
  refine q_callV (rest := []) (b := 104) X hK hP hS (c_X0_sortThoseThatStay l G S_1 _ h) my_X0_sortThoseThatStay tl_X0_155 dX0_makeTidy_8 kz_104 rfl rfl rfl ⟨Nat.le_of_ble_eq_true rfl, Nat.le_of_ble_eq_true rfl⟩ hl.1 rfl (Nat.le_of_ble_eq_true rfl) ⟨Nat.le_of_ble_eq_true rfl, Nat.le_of_ble_eq_true rfl⟩ (fun r_4 S_3 H locs h hP hS => ?_)
  refine W.eq (g2 := F0 m 11 ls [.int r_4]) rfl ?_
  refine lv_istore_n (lv' := [(1, .int r_4), (0, .ref (G.1 + 104))]) X.1 X.2.1 dX0_makeTidy_11 rfl hl (by decide) rfl (fun ls hl => ?_)
  refine lv_iconst (v := 0) X.1 X.2.1 dX0_makeTidy_12 (by decide) ?_
  refine lv_istore_n (lv' := [(2, .int 0), (1, .int r_4), (0, .ref (G.1 + 104))]) X.1 X.2.1 dX0_makeTidy_13 rfl hl (by decide) rfl (fun ls hl => ?_)
  obtain ⟨f_5, h⟩ := h
  exact B14 r_4 f_5 0 S_3 _ (lv_sub hl [2, 1, 0] rfl) h _ _ hP hS

set_option maxHeartbeats 4000000 in
set_option maxRecDepth 100000 in
theorem c_X0_hasOneOfFirst (l : Launch) (G : Cx) (q0 : Nat) (x1 : Int32) (S : St) (K : Int32 → St → Prop) (hq0 : isP q0) (h : w_X0_hasOneOfFirst q0 x1 S K) : q_Met l yX0_hasOneOfFirst cX0_hasOneOfFirst 4 (some .boolean) 1 21 G [.ref (G.1 + q0), .int x1] v_i S K := by
  refine q_enter (by decide +kernel) (Nat.le_of_ble_eq_true rfl) (fun p e s m args below meth c ls X hK hP hr hlocks hl => ?_)
  have hS : va_S (fr_ G) s.heap s.heap [] := va_S.rf
  have hl : lv_has ls 4 [(0, .ref (G.1 + q0)), (1, .int x1)] := hl
  have B12 : ∀ (x2 : Int32) (k2 : Int32 → St → Prop) (hk2 : ∀ (x2 : Int32) (S : St) (ls : Array Slot), lv_has ls 4 [(0, .ref (G.1 + q0)), (1, .int x1), (2, .int x2)] → k2 x2 S → q_W p l e (k2_rm 1 21) s m args below meth c 0 0 (MQ below (q_Qc G K v_i) args s 0 0 (fr_ G)) G 2 ls [] S) (f : Nat) (x3 : Int32) (S : St) (ls : Array Slot), lv_has ls 4 [(0, .ref (G.1 + q0)), (1, .int x1), (2, .int x2), (3, .int x3)] → q_it (fun _ _ => False) (w_X0_hasOneOfFirst_12 q0 x1 K k2 x2) f x3 S → q_W p l e (k2_rm 1 21) s m args below meth c 0 0 (MQ below (q_Qc G K v_i) args s 0 0 (fr_ G)) G 12 ls [] S := by
    intro x2 k2 hk2 f
    induction f with
    | zero => intro x3 S ls hl h; exact False.elim h
    | succ f hk12 =>
      intro x3 S ls hl h H locs hP hS
      have h : w_X0_hasOneOfFirst_12 q0 x1 K k2 x2 (q_it (fun _ _ => False) (w_X0_hasOneOfFirst_12 q0 x1 K k2 x2) f) x3 S := h
      generalize q_it (fun _ _ => False) (w_X0_hasOneOfFirst_12 q0 x1 K k2 x2) f = k12 at h hk12
      refine lv_iload_n X.1 X.2.1 dX0_hasOneOfFirst_12 rfl (lv_at hl 3 rfl) ?_
      refine lv_iload_n X.1 X.2.1 dX0_hasOneOfFirst_13 rfl (lv_at hl 1 rfl) ?_
      refine lv_icmp_ge (tgt := 38) X.1 X.2.1 dX0_hasOneOfFirst_14 (by decide) (fun c_1 => ?_) (fun c_1 => ?_)
      · have h := h.1 c_1
        obtain ⟨x2_2, e2_2⟩ : ∃ y : Int32, y = x2 + 1 := ⟨_, rfl⟩
        have h := h x2_2 e2_2
        refine lv_iinc (v := x2_2) (lv' := [(2, .int x2_2), (0, .ref (G.1 + q0)), (1, .int x1), (3, .int x3)]) X.1 X.2.1 dX0_hasOneOfFirst_38 hl (k := 2) rfl (by rw [e2_2]; first | rfl | decide) (by decide) rfl (fun ls hl => ?_)
        refine lv_goto (tgt := 2) X.1 X.2.1 dX0_hasOneOfFirst_41 (by decide) ?_
        exact hk2 x2_2 S _ (lv_sub hl [1, 2, 0] rfl) h _ _ hP hS
      · have h := h.2 c_1
        refine lv_aload_n X.1 X.2.1 dX0_hasOneOfFirst_17 rfl (lv_at hl 0 rfl) ?_
        refine gf_X3_monos X hK hP hq0 tl_X0_171 dX0_hasOneOfFirst_18 ?_
        refine lv_iload_n X.1 X.2.1 dX0_hasOneOfFirst_21 rfl (lv_at hl 2 rfl) ?_
        obtain ⟨o_3, h⟩ := h
        refine q_iald X hK hP (isP_2 hq0) o_3 dX0_hasOneOfFirst_22 ?_
        refine lv_iload_n X.1 X.2.1 dX0_hasOneOfFirst_23 rfl (lv_at hl 3 rfl) ?_
        refine q_callS (rest := []) X hK hP hS (c_X1_exponentOf l G (S (q0 + 2) (q_rf x2)) x3 S _ h) my_X1_exponentOf tl_X0_181 dX0_hasOneOfFirst_24 rfl ⟨Nat.le_of_ble_eq_true rfl, Nat.le_of_ble_eq_true rfl⟩ hl.1 rfl (Nat.le_of_ble_eq_true rfl) ⟨Nat.le_of_ble_eq_true rfl, Nat.le_of_ble_eq_true rfl⟩ (fun r_5 S_4 H locs h hP hS => ?_)
        refine W.eq (g2 := F0 m 27 ls [.int r_5]) rfl ?_
        refine lv_if_le (tgt := 32) X.1 X.2.1 dX0_hasOneOfFirst_27 (by decide) (fun c_6 => ?_) (fun c_6 => ?_)
        · have h := h.1 c_6
          obtain ⟨x3_7, e3_7⟩ : ∃ y : Int32, y = x3 + 1 := ⟨_, rfl⟩
          have h := h x3_7 e3_7
          refine lv_iinc (v := x3_7) (lv' := [(3, .int x3_7), (0, .ref (G.1 + q0)), (1, .int x1), (2, .int x2)]) X.1 X.2.1 dX0_hasOneOfFirst_32 hl (k := 3) rfl (by rw [e3_7]; first | rfl | decide) (by decide) rfl (fun ls hl => ?_)
          refine lv_goto (tgt := 12) X.1 X.2.1 dX0_hasOneOfFirst_35 (by decide) ?_
          exact hk12 x3_7 S_4 _ (lv_sub hl [1, 2, 3, 0] rfl) h _ _ hP hS
        · have h := h.2 c_6
          refine lv_iconst (v := 1) X.1 X.2.1 dX0_hasOneOfFirst_30 (by decide) ?_
          exact q_iret X hr hlocks hP hS rfl h dX0_hasOneOfFirst_31
  have B2 : ∀ (f : Nat) (x2 : Int32) (S : St) (ls : Array Slot), lv_has ls 4 [(0, .ref (G.1 + q0)), (1, .int x1), (2, .int x2)] → q_it (fun _ _ => False) (w_X0_hasOneOfFirst_2 q0 x1 K) f x2 S → q_W p l e (k2_rm 1 21) s m args below meth c 0 0 (MQ below (q_Qc G K v_i) args s 0 0 (fr_ G)) G 2 ls [] S := by
    intro f
    induction f with
    | zero => intro x2 S ls hl h; exact False.elim h
    | succ f hk2 =>
      intro x2 S ls hl h H locs hP hS
      have h : w_X0_hasOneOfFirst_2 q0 x1 K (q_it (fun _ _ => False) (w_X0_hasOneOfFirst_2 q0 x1 K) f) x2 S := h
      generalize q_it (fun _ _ => False) (w_X0_hasOneOfFirst_2 q0 x1 K) f = k2 at h hk2
      refine lv_iload_n X.1 X.2.1 dX0_hasOneOfFirst_2 rfl (lv_at hl 2 rfl) ?_
      refine lv_aload_n X.1 X.2.1 dX0_hasOneOfFirst_3 rfl (lv_at hl 0 rfl) ?_
      refine gf_X3_size X hK hP hq0 tl_X0_144 dX0_hasOneOfFirst_4 ?_
      refine lv_icmp_ge (tgt := 44) X.1 X.2.1 dX0_hasOneOfFirst_7 (by decide) (fun c_1 => ?_) (fun c_1 => ?_)
      · have h := h.1 c_1
        refine lv_iconst (v := 0) X.1 X.2.1 dX0_hasOneOfFirst_44 (by decide) ?_
        exact q_iret X hr hlocks hP hS rfl h dX0_hasOneOfFirst_45
      · have h := h.2 c_1
        refine lv_iconst (v := 0) X.1 X.2.1 dX0_hasOneOfFirst_10 (by decide) ?_
        refine lv_istore_n (lv' := [(3, .int 0), (0, .ref (G.1 + q0)), (1, .int x1), (2, .int x2)]) X.1 X.2.1 dX0_hasOneOfFirst_11 rfl hl (by decide) rfl (fun ls hl => ?_)
        obtain ⟨f_2, h⟩ := h
        exact B12 x2 k2 hk2 f_2 0 S _ (lv_sub hl [1, 2, 3, 0] rfl) h _ _ hP hS
  refine lv_iconst (v := 0) X.1 X.2.1 dX0_hasOneOfFirst_0 (by decide) ?_
  refine lv_istore_n (lv' := [(2, .int 0), (0, .ref (G.1 + q0)), (1, .int x1)]) X.1 X.2.1 dX0_hasOneOfFirst_1 rfl hl (by decide) rfl (fun ls hl => ?_)
  obtain ⟨f_1, h⟩ := h
  exact B2 f_1 0 S _ (lv_sub hl [1, 2, 0] rfl) h _ _ hP hS

set_option maxHeartbeats 4000000 in
set_option maxRecDepth 100000 in
theorem c_X0_countWithoutFirst (l : Launch) (G : Cx) (x1 : Int32) (S : St) (K : Int32 → St → Prop) (h : w_X0_countWithoutFirst x1 S K) : q_Met l yX0_countWithoutFirst cX0_countWithoutFirst 4 (some .int) 2 44 G [.ref (G.1 + 104), .int x1] v_i S K := by
  refine q_enter (by decide +kernel) (Nat.le_of_ble_eq_true rfl) (fun p e s m args below meth c ls X hK hP hr hlocks hl => ?_)
  have hS : va_S (fr_ G) s.heap s.heap [] := va_S.rf
  have hl : lv_has ls 4 [(0, .ref (G.1 + 104)), (1, .int x1)] := hl
  have B28 : ∀ (x2 : Int32) (x3 : Int32) (k4 : Int32 → Int32 → St → Prop) (hk4 : ∀ (x2 : Int32) (x3 : Int32) (S : St) (ls : Array Slot), lv_has ls 4 [(0, .ref (G.1 + 104)), (1, .int x1), (2, .int x2), (3, .int x3)] → k4 x2 x3 S → q_W p l e (k2_rm 2 44) s m args below meth c 0 0 (MQ below (q_Qc G K v_i) args s 0 0 (fr_ G)) G 4 ls [] S) (S : St) (ls : Array Slot), lv_has ls 4 [(0, .ref (G.1 + 104)), (1, .int x1), (2, .int x2), (3, .int x3)] → w_X0_countWithoutFirst_28 x1 K k4 x2 x3 S → q_W p l e (k2_rm 2 44) s m args below meth c 0 0 (MQ below (q_Qc G K v_i) args s 0 0 (fr_ G)) G 28 ls [] S := by
    intro x2 x3 k4 hk4 S ls hl h H locs hP hS
    obtain ⟨x3_1, e3_1⟩ : ∃ y : Int32, y = x3 + 1 := ⟨_, rfl⟩
    have h := h x3_1 e3_1
    refine lv_iinc (v := x3_1) (lv' := [(3, .int x3_1), (0, .ref (G.1 + 104)), (1, .int x1), (2, .int x2)]) X.1 X.2.1 dX0_countWithoutFirst_28 hl (k := 3) rfl (by rw [e3_1]; first | rfl | decide) (by decide) rfl (fun ls hl => ?_)
    refine lv_goto (tgt := 4) X.1 X.2.1 dX0_countWithoutFirst_31 (by decide) ?_
    exact hk4 x2 x3_1 S _ (lv_sub hl [1, 2, 3, 0] rfl) h _ _ hP hS
  have B4 : ∀ (f : Nat) (x2 : Int32) (x3 : Int32) (S : St) (ls : Array Slot), lv_has ls 4 [(0, .ref (G.1 + 104)), (1, .int x1), (2, .int x2), (3, .int x3)] → q_it (fun _ _ _ => False) (w_X0_countWithoutFirst_4 x1 K) f x2 x3 S → q_W p l e (k2_rm 2 44) s m args below meth c 0 0 (MQ below (q_Qc G K v_i) args s 0 0 (fr_ G)) G 4 ls [] S := by
    intro f
    induction f with
    | zero => intro x2 x3 S ls hl h; exact False.elim h
    | succ f hk4 =>
      intro x2 x3 S ls hl h H locs hP hS
      have h : w_X0_countWithoutFirst_4 x1 K (q_it (fun _ _ _ => False) (w_X0_countWithoutFirst_4 x1 K) f) x2 x3 S := h
      generalize q_it (fun _ _ _ => False) (w_X0_countWithoutFirst_4 x1 K) f = k4 at h hk4
      refine lv_iload_n X.1 X.2.1 dX0_countWithoutFirst_4 rfl (lv_at hl 3 rfl) ?_
      refine lv_aload_n X.1 X.2.1 dX0_countWithoutFirst_5 rfl (lv_at hl 0 rfl) ?_
      refine gf_X0_size X hK hP tl_X0_44 dX0_countWithoutFirst_6 ?_
      refine lv_icmp_ge (tgt := 34) X.1 X.2.1 dX0_countWithoutFirst_9 (by decide) (fun c_1 => ?_) (fun c_1 => ?_)
      · have h := h.1 c_1
        refine lv_iload_n X.1 X.2.1 dX0_countWithoutFirst_34 rfl (lv_at hl 2 rfl) ?_
        exact q_iret X hr hlocks hP hS rfl h dX0_countWithoutFirst_35
      · have h := h.2 c_1
        refine lv_aload_n X.1 X.2.1 dX0_countWithoutFirst_12 rfl (lv_at hl 0 rfl) ?_
        refine gf_X0_rows X hK hP tl_X0_20 dX0_countWithoutFirst_13 ?_
        refine lv_iload_n X.1 X.2.1 dX0_countWithoutFirst_16 rfl (lv_at hl 3 rfl) ?_
        obtain ⟨o_2, h⟩ := h
        obtain ⟨o_3, h⟩ := h
        refine q_aald X hK hP (isR_kd o_2) o_3 dX0_countWithoutFirst_17 ?_
        refine lv_iload_n X.1 X.2.1 dX0_countWithoutFirst_18 rfl (lv_at hl 1 rfl) ?_
        obtain ⟨o_4, h⟩ := h
        refine q_callS (rest := []) X hK hP hS (c_X0_hasOneOfFirst l G (pidx (q_rf (S 104 3)) (q_rf x3)) x1 S _ o_4 h) my_X0_hasOneOfFirst tl_X0_177 dX0_countWithoutFirst_19 rfl ⟨Nat.le_of_ble_eq_true rfl, Nat.le_of_ble_eq_true rfl⟩ hl.1 rfl (Nat.le_of_ble_eq_true rfl) ⟨Nat.le_of_ble_eq_true rfl, Nat.le_of_ble_eq_true rfl⟩ (fun r_6 S_5 H locs h hP hS => ?_)
        refine W.eq (g2 := F0 m 22 ls [.int r_6]) rfl ?_
        refine lv_if_ne (tgt := 28) X.1 X.2.1 dX0_countWithoutFirst_22 (by decide) (fun c_7 => ?_) (fun c_7 => ?_)
        · have h := h.1 c_7
          exact B28 x2 x3 k4 hk4 S_5 _ (lv_sub hl [0, 1, 2, 3] rfl) h _ _ hP hS
        · have h := h.2 c_7
          obtain ⟨x2_8, e2_8⟩ : ∃ y : Int32, y = x2 + 1 := ⟨_, rfl⟩
          have h := h x2_8 e2_8
          refine lv_iinc (v := x2_8) (lv' := [(2, .int x2_8), (0, .ref (G.1 + 104)), (1, .int x1), (3, .int x3)]) X.1 X.2.1 dX0_countWithoutFirst_25 hl (k := 2) rfl (by rw [e2_8]; first | rfl | decide) (by decide) rfl (fun ls hl => ?_)
          exact B28 x2_8 x3 k4 hk4 S_5 _ (lv_sub hl [1, 2, 0, 3] rfl) h _ _ hP hS
  refine lv_iconst (v := 0) X.1 X.2.1 dX0_countWithoutFirst_0 (by decide) ?_
  refine lv_istore_n (lv' := [(2, .int 0), (0, .ref (G.1 + 104)), (1, .int x1)]) X.1 X.2.1 dX0_countWithoutFirst_1 rfl hl (by decide) rfl (fun ls hl => ?_)
  refine lv_iconst (v := 0) X.1 X.2.1 dX0_countWithoutFirst_2 (by decide) ?_
  refine lv_istore_n (lv' := [(3, .int 0), (2, .int 0), (0, .ref (G.1 + 104)), (1, .int x1)]) X.1 X.2.1 dX0_countWithoutFirst_3 rfl hl (by decide) rfl (fun ls hl => ?_)
  obtain ⟨f_1, h⟩ := h
  exact B4 f_1 0 0 S _ (lv_sub hl [2, 3, 1, 0] rfl) h _ _ hP hS

set_option maxHeartbeats 4000000 in
set_option maxRecDepth 100000 in
theorem c_X0_isZeroAtPoint (l : Launch) (G : Cx) (S : St) (K : Int32 → St → Prop) (h : w_X0_isZeroAtPoint S K) : q_Met l yX0_isZeroAtPoint cX0_isZeroAtPoint 2 (some .boolean) 3 68 G [.ref (G.1 + 104)] v_i S K := by
  refine q_enter (by decide +kernel) (Nat.le_of_ble_eq_true rfl) (fun p e s m args below meth c ls X hK hP hr hlocks hl => ?_)
  have hS : va_S (fr_ G) s.heap s.heap [] := va_S.rf
  have hl : lv_has ls 2 [(0, .ref (G.1 + 104))] := hl
  have B2 : ∀ (f : Nat) (x1 : Int32) (S : St) (ls : Array Slot), lv_has ls 2 [(0, .ref (G.1 + 104)), (1, .int x1)] → q_it (fun _ _ => False) (w_X0_isZeroAtPoint_2 K) f x1 S → q_W p l e (k2_rm 3 68) s m args below meth c 0 0 (MQ below (q_Qc G K v_i) args s 0 0 (fr_ G)) G 2 ls [] S := by
    intro f
    induction f with
    | zero => intro x1 S ls hl h; exact False.elim h
    | succ f hk2 =>
      intro x1 S ls hl h H locs hP hS
      have h : w_X0_isZeroAtPoint_2 K (q_it (fun _ _ => False) (w_X0_isZeroAtPoint_2 K) f) x1 S := h
      generalize q_it (fun _ _ => False) (w_X0_isZeroAtPoint_2 K) f = k2 at h hk2
      refine lv_iload_n X.1 X.2.1 dX0_isZeroAtPoint_2 rfl (lv_at hl 1 rfl) ?_
      refine lv_aload_n X.1 X.2.1 dX0_isZeroAtPoint_3 rfl (lv_at hl 0 rfl) ?_
      refine gf_X0_size X hK hP tl_X0_44 dX0_isZeroAtPoint_4 ?_
      refine lv_icmp_ge (tgt := 34) X.1 X.2.1 dX0_isZeroAtPoint_7 (by decide) (fun c_1 => ?_) (fun c_1 => ?_)
      · have h := h.1 c_1
        refine lv_iconst (v := 1) X.1 X.2.1 dX0_isZeroAtPoint_34 (by decide) ?_
        exact q_iret X hr hlocks hP hS rfl h dX0_isZeroAtPoint_35
      · have h := h.2 c_1
        refine lv_aload_n X.1 X.2.1 dX0_isZeroAtPoint_10 rfl (lv_at hl 0 rfl) ?_
        refine gf_X0_ring X hK hP tl_X0_36 dX0_isZeroAtPoint_11 ?_
        refine lv_aload_n X.1 X.2.1 dX0_isZeroAtPoint_14 rfl (lv_at hl 0 rfl) ?_
        refine gf_X0_rows X hK hP tl_X0_20 dX0_isZeroAtPoint_15 ?_
        refine lv_iload_n X.1 X.2.1 dX0_isZeroAtPoint_18 rfl (lv_at hl 1 rfl) ?_
        obtain ⟨o_2, h⟩ := h
        obtain ⟨o_3, h⟩ := h
        refine q_aald X hK hP (isR_kd o_2) o_3 dX0_isZeroAtPoint_19 ?_
        obtain ⟨o_4, h⟩ := h
        refine q_callV (rest := []) (b := 1) X hK hP hS (c_X5_valueAtPoint l G (pidx (q_rf (S 104 3)) (q_rf x1)) S _ o_4 h) my_X5_valueAtPoint tl_X0_184 dX0_isZeroAtPoint_20 kz_1 rfl rfl rfl ⟨Nat.le_of_ble_eq_true rfl, Nat.le_of_ble_eq_true rfl⟩ hl.1 rfl (Nat.le_of_ble_eq_true rfl) ⟨Nat.le_of_ble_eq_true rfl, Nat.le_of_ble_eq_true rfl⟩ (fun r_6 S_5 H locs h hP hS => ?_)
        refine W.eq (g2 := F0 m 23 ls [.int r_6]) rfl ?_
        refine lv_if_eq (tgt := 28) X.1 X.2.1 dX0_isZeroAtPoint_23 (by decide) (fun c_7 => ?_) (fun c_7 => ?_)
        · have h := h.1 c_7
          obtain ⟨x1_8, e1_8⟩ : ∃ y : Int32, y = x1 + 1 := ⟨_, rfl⟩
          have h := h x1_8 e1_8
          refine lv_iinc (v := x1_8) (lv' := [(1, .int x1_8), (0, .ref (G.1 + 104))]) X.1 X.2.1 dX0_isZeroAtPoint_28 hl (k := 1) rfl (by rw [e1_8]; first | rfl | decide) (by decide) rfl (fun ls hl => ?_)
          refine lv_goto (tgt := 2) X.1 X.2.1 dX0_isZeroAtPoint_31 (by decide) ?_
          exact hk2 x1_8 S_5 _ (lv_sub hl [1, 0] rfl) h _ _ hP hS
        · have h := h.2 c_7
          refine lv_iconst (v := 0) X.1 X.2.1 dX0_isZeroAtPoint_26 (by decide) ?_
          exact q_iret X hr hlocks hP hS rfl h dX0_isZeroAtPoint_27
  refine lv_iconst (v := 0) X.1 X.2.1 dX0_isZeroAtPoint_0 (by decide) ?_
  refine lv_istore_n (lv' := [(1, .int 0), (0, .ref (G.1 + 104))]) X.1 X.2.1 dX0_isZeroAtPoint_1 rfl hl (by decide) rfl (fun ls hl => ?_)
  obtain ⟨f_1, h⟩ := h
  exact B2 f_1 0 S _ (lv_sub hl [1, 0] rfl) h _ _ hP hS

set_option maxHeartbeats 4000000 in
set_option maxRecDepth 100000 in
theorem c_X0_hasHeadDividing (l : Launch) (G : Cx) (x1 : Int32) (S : St) (K : Int32 → St → Prop) (h : w_X0_hasHeadDividing x1 S K) : q_Met l yX0_hasHeadDividing cX0_hasHeadDividing 3 (some .boolean) 1 21 G [.ref (G.1 + 104), .int x1] v_i S K := by
  refine q_enter (by decide +kernel) (Nat.le_of_ble_eq_true rfl) (fun p e s m args below meth c ls X hK hP hr hlocks hl => ?_)
  have hS : va_S (fr_ G) s.heap s.heap [] := va_S.rf
  have hl : lv_has ls 3 [(0, .ref (G.1 + 104)), (1, .int x1)] := hl
  have B2 : ∀ (f : Nat) (x2 : Int32) (S : St) (ls : Array Slot), lv_has ls 3 [(0, .ref (G.1 + 104)), (1, .int x1), (2, .int x2)] → q_it (fun _ _ => False) (w_X0_hasHeadDividing_2 x1 K) f x2 S → q_W p l e (k2_rm 1 21) s m args below meth c 0 0 (MQ below (q_Qc G K v_i) args s 0 0 (fr_ G)) G 2 ls [] S := by
    intro f
    induction f with
    | zero => intro x2 S ls hl h; exact False.elim h
    | succ f hk2 =>
      intro x2 S ls hl h H locs hP hS
      have h : w_X0_hasHeadDividing_2 x1 K (q_it (fun _ _ => False) (w_X0_hasHeadDividing_2 x1 K) f) x2 S := h
      generalize q_it (fun _ _ => False) (w_X0_hasHeadDividing_2 x1 K) f = k2 at h hk2
      refine lv_iload_n X.1 X.2.1 dX0_hasHeadDividing_2 rfl (lv_at hl 2 rfl) ?_
      refine lv_aload_n X.1 X.2.1 dX0_hasHeadDividing_3 rfl (lv_at hl 0 rfl) ?_
      refine gf_X0_size X hK hP tl_X0_44 dX0_hasHeadDividing_4 ?_
      refine lv_icmp_ge (tgt := 34) X.1 X.2.1 dX0_hasHeadDividing_7 (by decide) (fun c_1 => ?_) (fun c_1 => ?_)
      · have h := h.1 c_1
        refine lv_iconst (v := 0) X.1 X.2.1 dX0_hasHeadDividing_34 (by decide) ?_
        exact q_iret X hr hlocks hP hS rfl h dX0_hasHeadDividing_35
      · have h := h.2 c_1
        refine lv_aload_n X.1 X.2.1 dX0_hasHeadDividing_10 rfl (lv_at hl 0 rfl) ?_
        refine gf_X0_rows X hK hP tl_X0_20 dX0_hasHeadDividing_11 ?_
        refine lv_iload_n X.1 X.2.1 dX0_hasHeadDividing_14 rfl (lv_at hl 2 rfl) ?_
        obtain ⟨o_2, h⟩ := h
        obtain ⟨o_3, h⟩ := h
        refine q_aald X hK hP (isR_kd o_2) o_3 dX0_hasHeadDividing_15 ?_
        obtain ⟨o_4, h⟩ := h
        refine q_callV (rest := []) (b := (pidx (q_rf (S 104 3)) (q_rf x2))) X hK hP hS (c_X3_head l G (pidx (q_rf (S 104 3)) (q_rf x2)) S _ o_4 h) my_X3_head tl_X0_114 dX0_hasHeadDividing_16 o_4 rfl rfl rfl ⟨Nat.le_of_ble_eq_true rfl, Nat.le_of_ble_eq_true rfl⟩ hl.1 rfl (Nat.le_of_ble_eq_true rfl) ⟨Nat.le_of_ble_eq_true rfl, Nat.le_of_ble_eq_true rfl⟩ (fun r_6 S_5 H locs h hP hS => ?_)
        refine W.eq (g2 := F0 m 19 ls [.int r_6]) rfl ?_
        refine lv_iload_n X.1 X.2.1 dX0_hasHeadDividing_19 rfl (lv_at hl 1 rfl) ?_
        refine q_callS (rest := []) X hK hP hS (c_X1_divides l G r_6 x1 S_5 _ h) my_X1_divides tl_X0_126 dX0_hasHeadDividing_20 rfl ⟨Nat.le_of_ble_eq_true rfl, Nat.le_of_ble_eq_true rfl⟩ hl.1 rfl (Nat.le_of_ble_eq_true rfl) ⟨Nat.le_of_ble_eq_true rfl, Nat.le_of_ble_eq_true rfl⟩ (fun r_8 S_7 H locs h hP hS => ?_)
        refine W.eq (g2 := F0 m 23 ls [.int r_8]) rfl ?_
        refine lv_if_eq (tgt := 28) X.1 X.2.1 dX0_hasHeadDividing_23 (by decide) (fun c_9 => ?_) (fun c_9 => ?_)
        · have h := h.1 c_9
          obtain ⟨x2_10, e2_10⟩ : ∃ y : Int32, y = x2 + 1 := ⟨_, rfl⟩
          have h := h x2_10 e2_10
          refine lv_iinc (v := x2_10) (lv' := [(2, .int x2_10), (0, .ref (G.1 + 104)), (1, .int x1)]) X.1 X.2.1 dX0_hasHeadDividing_28 hl (k := 2) rfl (by rw [e2_10]; first | rfl | decide) (by decide) rfl (fun ls hl => ?_)
          refine lv_goto (tgt := 2) X.1 X.2.1 dX0_hasHeadDividing_31 (by decide) ?_
          exact hk2 x2_10 S_7 _ (lv_sub hl [1, 2, 0] rfl) h _ _ hP hS
        · have h := h.2 c_9
          refine lv_iconst (v := 1) X.1 X.2.1 dX0_hasHeadDividing_26 (by decide) ?_
          exact q_iret X hr hlocks hP hS rfl h dX0_hasHeadDividing_27
  refine lv_iconst (v := 0) X.1 X.2.1 dX0_hasHeadDividing_0 (by decide) ?_
  refine lv_istore_n (lv' := [(2, .int 0), (0, .ref (G.1 + 104)), (1, .int x1)]) X.1 X.2.1 dX0_hasHeadDividing_1 rfl hl (by decide) rfl (fun ls hl => ?_)
  obtain ⟨f_1, h⟩ := h
  exact B2 f_1 0 S _ (lv_sub hl [1, 2, 0] rfl) h _ _ hP hS

set_option maxHeartbeats 4000000 in
set_option maxRecDepth 100000 in
theorem c_X7_insert (l : Launch) (G : Cx) (x1 : Int32) (x2 : Int32) (S : St) (K : Unit → St → Prop) (h : w_X7_insert x1 x2 S K) : q_Met l yX7_insert cX7_insert 5 none 1 27 G [.ref (G.1 + 222), .int x1, .int x2] v_v S K := by
  refine q_enter (by decide +kernel) (Nat.le_of_ble_eq_true rfl) (fun p e s m args below meth c ls X hK hP hr hlocks hl => ?_)
  have hS : va_S (fr_ G) s.heap s.heap [] := va_S.rf
  have hl : lv_has ls 5 [(0, .ref (G.1 + 222)), (1, .int x1), (2, .int x2)] := hl
  have B59 : ∀ (x4 : Int32) (S : St) (ls : Array Slot), lv_has ls 5 [(0, .ref (G.1 + 222)), (1, .int x1), (4, .int x4)] → w_X7_insert_59 x1 x2 K x4 S → q_W p l e (k2_rm 1 27) s m args below meth c 0 0 (MQ below (q_Qc G K v_v) args s 0 0 (fr_ G)) G 59 ls [] S := by
    intro x4 S ls hl h H locs hP hS
    refine lv_aload_n X.1 X.2.1 dX7_insert_59 rfl (lv_at hl 0 rfl) ?_
    refine gf_X7_monos X hK hP tl_X7_9 dX7_insert_60 ?_
    refine lv_iload X.1 X.2.1 dX7_insert_63 (lv_at hl 2 rfl) ?_
    refine lv_iload_n X.1 X.2.1 dX7_insert_65 rfl (lv_at hl 1 rfl) ?_
    obtain ⟨o_1, h⟩ := h
    refine q_iast X hK hP hS kz_223 o_1 dX7_insert_66 (fun S_2 H locs eS_2 hP hS => ?_)
    have h := h S_2 eS_2
    exact q_vret X hr hlocks hP hS h dX7_insert_67
  have B12 : ∀ (x3 : Int32) (f : Nat) (x4 : Int32) (S : St) (ls : Array Slot), lv_has ls 5 [(0, .ref (G.1 + 222)), (1, .int x1), (3, .int x3), (4, .int x4)] → q_it (fun _ _ => False) (w_X7_insert_12 x1 x2 K x3) f x4 S → q_W p l e (k2_rm 1 27) s m args below meth c 0 0 (MQ below (q_Qc G K v_v) args s 0 0 (fr_ G)) G 12 ls [] S := by
    intro x3 f
    induction f with
    | zero => intro x4 S ls hl h; exact False.elim h
    | succ f hk12 =>
      intro x4 S ls hl h H locs hP hS
      have h : w_X7_insert_12 x1 x2 K x3 (q_it (fun _ _ => False) (w_X7_insert_12 x1 x2 K x3) f) x4 S := h
      generalize q_it (fun _ _ => False) (w_X7_insert_12 x1 x2 K x3) f = k12 at h hk12
      refine lv_iload X.1 X.2.1 dX7_insert_12 (lv_at hl 3 rfl) ?_
      refine lv_if_le (tgt := 59) X.1 X.2.1 dX7_insert_14 (by decide) (fun c_1 => ?_) (fun c_1 => ?_)
      · have h := h.1 c_1
        exact B59 x4 S _ (lv_sub hl [0, 1, 3] rfl) h _ _ hP hS
      · have h := h.2 c_1
        refine lv_aload_n X.1 X.2.1 dX7_insert_17 rfl (lv_at hl 0 rfl) ?_
        refine gf_X7_ring X hK hP tl_X7_15 dX7_insert_18 ?_
        refine lv_aload_n X.1 X.2.1 dX7_insert_21 rfl (lv_at hl 0 rfl) ?_
        refine gf_X7_monos X hK hP tl_X7_9 dX7_insert_22 ?_
        refine lv_iload X.1 X.2.1 dX7_insert_25 (lv_at hl 3 rfl) ?_
        refine lv_iconst (v := 1) X.1 X.2.1 dX7_insert_27 (by decide) ?_
        refine lv_isub X.1 X.2.1 dX7_insert_28 ?_
        obtain ⟨o_2, h⟩ := h
        refine q_iald X hK hP kz_223 o_2 dX7_insert_29 ?_
        refine q_callV (rest := []) (b := 1) X hK hP hS (c_X5_rank l G (S 223 (q_rf (x4 - 1))) S _ h) my_X5_rank tl_X7_55 dX7_insert_30 kz_1 rfl rfl rfl ⟨Nat.le_of_ble_eq_true rfl, Nat.le_of_ble_eq_true rfl⟩ hl.1 rfl (Nat.le_of_ble_eq_true rfl) ⟨Nat.le_of_ble_eq_true rfl, Nat.le_of_ble_eq_true rfl⟩ (fun r_4 S_3 H locs h hP hS => ?_)
        refine W.eq (g2 := F0 m 33 ls [.int r_4]) rfl ?_
        refine lv_iload_n X.1 X.2.1 dX7_insert_33 rfl (lv_at hl 2 rfl) ?_
        refine lv_icmp_le (tgt := 59) X.1 X.2.1 dX7_insert_34 (by decide) (fun c_5 => ?_) (fun c_5 => ?_)
        · have h := h.1 c_5
          exact B59 x4 S_3 _ (lv_sub hl [0, 1, 3] rfl) h _ _ hP hS
        · have h := h.2 c_5
          refine lv_aload_n X.1 X.2.1 dX7_insert_37 rfl (lv_at hl 0 rfl) ?_
          refine gf_X7_monos X hK hP tl_X7_9 dX7_insert_38 ?_
          refine lv_iload X.1 X.2.1 dX7_insert_41 (lv_at hl 3 rfl) ?_
          refine lv_aload_n X.1 X.2.1 dX7_insert_43 rfl (lv_at hl 0 rfl) ?_
          refine gf_X7_monos X hK hP tl_X7_9 dX7_insert_44 ?_
          refine lv_iload X.1 X.2.1 dX7_insert_47 (lv_at hl 3 rfl) ?_
          refine lv_iconst (v := 1) X.1 X.2.1 dX7_insert_49 (by decide) ?_
          refine lv_isub X.1 X.2.1 dX7_insert_50 ?_
          refine q_iald X hK hP kz_223 o_2 dX7_insert_51 ?_
          obtain ⟨o_6, h⟩ := h
          refine q_iast X hK hP hS kz_223 o_6 dX7_insert_52 (fun S_7 H locs eS_7 hP hS => ?_)
          have h := h S_7 eS_7
          obtain ⟨x4_8, e4_8⟩ : ∃ y : Int32, y = x4 + (-1) := ⟨_, rfl⟩
          have h := h x4_8 e4_8
          refine lv_iinc (v := x4_8) (lv' := [(4, .int x4_8), (0, .ref (G.1 + 222)), (1, .int x1), (3, .int x3)]) X.1 X.2.1 dX7_insert_53 hl (k := 3) rfl (by rw [e4_8]; first | rfl | decide) (by decide) rfl (fun ls hl => ?_)
          refine lv_goto (tgt := 12) X.1 X.2.1 dX7_insert_56 (by decide) ?_
          exact hk12 x4_8 S_7 _ (lv_sub hl [1, 2, 3, 0] rfl) h _ _ hP hS
  refine lv_aload_n X.1 X.2.1 dX7_insert_0 rfl (lv_at hl 0 rfl) ?_
  refine gf_X7_ring X hK hP tl_X7_15 dX7_insert_1 ?_
  refine lv_iload_n X.1 X.2.1 dX7_insert_4 rfl (lv_at hl 1 rfl) ?_
  refine q_callV (rest := []) (b := 1) X hK hP hS (c_X5_rank l G x1 S _ h) my_X5_rank tl_X7_55 dX7_insert_5 kz_1 rfl rfl rfl ⟨Nat.le_of_ble_eq_true rfl, Nat.le_of_ble_eq_true rfl⟩ hl.1 rfl (Nat.le_of_ble_eq_true rfl) ⟨Nat.le_of_ble_eq_true rfl, Nat.le_of_ble_eq_true rfl⟩ (fun r_2 S_1 H locs h hP hS => ?_)
  refine W.eq (g2 := F0 m 8 ls [.int r_2]) rfl ?_
  refine lv_istore_n (lv' := [(3, .int r_2), (0, .ref (G.1 + 222)), (1, .int x1), (2, .int x2)]) X.1 X.2.1 dX7_insert_8 rfl hl (by decide) rfl (fun ls hl => ?_)
  refine lv_iload_n X.1 X.2.1 dX7_insert_9 rfl (lv_at hl 3 rfl) ?_
  refine lv_istore (lv' := [(4, .int x2), (3, .int r_2), (0, .ref (G.1 + 222)), (1, .int x1), (2, .int x2)]) X.1 X.2.1 dX7_insert_10 hl (by decide) rfl (fun ls hl => ?_)
  obtain ⟨f_3, h⟩ := h
  exact B12 r_2 f_3 x2 S_1 _ (lv_sub hl [2, 3, 1, 0] rfl) h _ _ hP hS

set_option maxHeartbeats 4000000 in
set_option maxRecDepth 100000 in
theorem c_X7_nextBehind (l : Launch) (G : Cx) (x1 : Int32) (S : St) (K : Int32 → St → Prop) (h : w_X7_nextBehind x1 S K) : q_Met l yX7_nextBehind cX7_nextBehind 4 (some .int) 2 43 G [.ref (G.1 + 222), .int x1] v_i S K := by
  refine q_enter (by decide +kernel) (Nat.le_of_ble_eq_true rfl) (fun p e s m args below meth c ls X hK hP hr hlocks hl => ?_)
  have hS : va_S (fr_ G) s.heap s.heap [] := va_S.rf
  have hl : lv_has ls 4 [(0, .ref (G.1 + 222)), (1, .int x1)] := hl
  have B12 : ∀ (f : Nat) (x2 : Int32) (x3 : Int32) (S : St) (ls : Array Slot), lv_has ls 4 [(0, .ref (G.1 + 222)), (2, .int x2), (3, .int x3)] → q_it (fun _ _ _ => False) (w_X7_nextBehind_12 x1 K) f x2 x3 S → q_W p l e (k2_rm 2 43) s m args below meth c 0 0 (MQ below (q_Qc G K v_i) args s 0 0 (fr_ G)) G 12 ls [] S := by
    intro f
    induction f with
    | zero => intro x2 x3 S ls hl h; exact False.elim h
    | succ f hk12 =>
      intro x2 x3 S ls hl h H locs hP hS
      have h : w_X7_nextBehind_12 x1 K (q_it (fun _ _ _ => False) (w_X7_nextBehind_12 x1 K) f) x2 x3 S := h
      generalize q_it (fun _ _ _ => False) (w_X7_nextBehind_12 x1 K) f = k12 at h hk12
      refine lv_iload_n X.1 X.2.1 dX7_nextBehind_12 rfl (lv_at hl 2 rfl) ?_
      refine lv_if_lt (tgt := 55) X.1 X.2.1 dX7_nextBehind_13 (by decide) (fun c_1 => ?_) (fun c_1 => ?_)
      · have h := h.1 c_1
        refine lv_iconst (v := (-1)) X.1 X.2.1 dX7_nextBehind_55 (by decide) ?_
        exact q_iret X hr hlocks hP hS rfl h dX7_nextBehind_56
      · have h := h.2 c_1
        refine lv_iload_n X.1 X.2.1 dX7_nextBehind_16 rfl (lv_at hl 1 rfl) ?_
        refine lv_iload_n X.1 X.2.1 dX7_nextBehind_17 rfl (lv_at hl 2 rfl) ?_
        refine q_callS (rest := [.int x2]) X hK hP hS (c_X1_variable l G x3 S _ h) my_X1_variable tl_X7_48 dX7_nextBehind_18 rfl ⟨Nat.le_of_ble_eq_true rfl, Nat.le_of_ble_eq_true rfl⟩ hl.1 rfl (Nat.le_of_ble_eq_true rfl) ⟨Nat.le_of_ble_eq_true rfl, Nat.le_of_ble_eq_true rfl⟩ (fun r_3 S_2 H locs h hP hS => ?_)
        refine W.eq (g2 := F0 m 21 ls [.int r_3, .int x2]) rfl ?_
        refine lv_iadd X.1 X.2.1 dX7_nextBehind_21 ?_
        refine lv_topi (fun x2_4 e2_4 => ?_)
        have h := h x2_4 e2_4
        refine lv_istore_n (lv' := [(2, .int x2_4), (0, .ref (G.1 + 222)), (3, .int x3)]) X.1 X.2.1 dX7_nextBehind_22 rfl hl (by decide) rfl (fun ls hl => ?_)
        refine lv_aload_n X.1 X.2.1 dX7_nextBehind_23 rfl (lv_at hl 1 rfl) ?_
        refine gf_X7_basis X hK hP tl_X7_19 dX7_nextBehind_24 ?_
        refine lv_iload_n X.1 X.2.1 dX7_nextBehind_27 rfl (lv_at hl 0 rfl) ?_
        refine q_callV (rest := []) (b := 104) X hK hP hS (c_X0_hasHeadDividing l G x2_4 S_2 _ h) my_X0_hasHeadDividing tl_X7_23 dX7_nextBehind_28 kz_104 rfl rfl rfl ⟨Nat.le_of_ble_eq_true rfl, Nat.le_of_ble_eq_true rfl⟩ hl.1 rfl (Nat.le_of_ble_eq_true rfl) ⟨Nat.le_of_ble_eq_true rfl, Nat.le_of_ble_eq_true rfl⟩ (fun r_6 S_5 H locs h hP hS => ?_)
        refine W.eq (g2 := F0 m 31 ls [.int r_6]) rfl ?_
        refine lv_if_ne (tgt := 36) X.1 X.2.1 dX7_nextBehind_31 (by decide) (fun c_7 => ?_) (fun c_7 => ?_)
        · have h := h.1 c_7
          refine lv_iload_n X.1 X.2.1 dX7_nextBehind_36 rfl (lv_at hl 0 rfl) ?_
          refine lv_iload_n X.1 X.2.1 dX7_nextBehind_37 rfl (lv_at hl 0 rfl) ?_
          refine lv_iload_n X.1 X.2.1 dX7_nextBehind_38 rfl (lv_at hl 2 rfl) ?_
          refine q_callS (rest := [.int x2_4]) X hK hP hS (c_X1_exponentOf l G x2_4 x3 S_5 _ h) my_X1_exponentOf tl_X7_51 dX7_nextBehind_39 rfl ⟨Nat.le_of_ble_eq_true rfl, Nat.le_of_ble_eq_true rfl⟩ hl.1 rfl (Nat.le_of_ble_eq_true rfl) ⟨Nat.le_of_ble_eq_true rfl, Nat.le_of_ble_eq_true rfl⟩ (fun r_9 S_8 H locs h hP hS => ?_)
          refine W.eq (g2 := F0 m 42 ls [.int r_9, .int x2_4]) rfl ?_
          refine lv_iload_n X.1 X.2.1 dX7_nextBehind_42 rfl (lv_at hl 2 rfl) ?_
          refine q_callS (rest := [.int r_9, .int x2_4]) X hK hP hS (c_X1_variable l G x3 S_8 _ h) my_X1_variable tl_X7_48 dX7_nextBehind_43 rfl ⟨Nat.le_of_ble_eq_true rfl, Nat.le_of_ble_eq_true rfl⟩ hl.1 rfl (Nat.le_of_ble_eq_true rfl) ⟨Nat.le_of_ble_eq_true rfl, Nat.le_of_ble_eq_true rfl⟩ (fun r_11 S_10 H locs h hP hS => ?_)
          refine W.eq (g2 := F0 m 46 ls [.int r_11, .int r_9, .int x2_4]) rfl ?_
          refine lv_imul X.1 X.2.1 dX7_nextBehind_46 ?_
          refine lv_isub X.1 X.2.1 dX7_nextBehind_47 ?_
          refine lv_topi (fun x2_12 e2_12 => ?_)
          have h := h x2_12 e2_12
          refine lv_istore_n (lv' := [(2, .int x2_12), (0, .ref (G.1 + 222)), (3, .int x3)]) X.1 X.2.1 dX7_nextBehind_48 rfl hl (by decide) rfl (fun ls hl => ?_)
          obtain ⟨x3_13, e3_13⟩ : ∃ y : Int32, y = x3 + (-1) := ⟨_, rfl⟩
          have h := h x3_13 e3_13
          refine lv_iinc (v := x3_13) (lv' := [(3, .int x3_13), (2, .int x2_12), (0, .ref (G.1 + 222))]) X.1 X.2.1 dX7_nextBehind_49 hl (k := 2) rfl (by rw [e3_13]; first | rfl | decide) (by decide) rfl (fun ls hl => ?_)
          refine lv_goto (tgt := 12) X.1 X.2.1 dX7_nextBehind_52 (by decide) ?_
          exact hk12 x2_12 x3_13 S_10 _ (lv_sub hl [2, 1, 0] rfl) h _ _ hP hS
        · have h := h.2 c_7
          refine lv_iload_n X.1 X.2.1 dX7_nextBehind_34 rfl (lv_at hl 0 rfl) ?_
          exact q_iret X hr hlocks hP hS rfl h dX7_nextBehind_35
  refine lv_iload_n X.1 X.2.1 dX7_nextBehind_0 rfl (lv_at hl 1 rfl) ?_
  refine lv_istore_n (lv' := [(2, .int x1), (0, .ref (G.1 + 222)), (1, .int x1)]) X.1 X.2.1 dX7_nextBehind_1 rfl hl (by decide) rfl (fun ls hl => ?_)
  refine lv_aload_n X.1 X.2.1 dX7_nextBehind_2 rfl (lv_at hl 1 rfl) ?_
  refine gf_X7_ring X hK hP tl_X7_15 dX7_nextBehind_3 ?_
  refine gf_X5_n X hK hP tl_X7_42 dX7_nextBehind_6 ?_
  refine lv_iconst (v := 1) X.1 X.2.1 dX7_nextBehind_9 (by decide) ?_
  refine lv_isub X.1 X.2.1 dX7_nextBehind_10 ?_
  refine lv_topi (fun x3_1 e3_1 => ?_)
  have h := h x3_1 e3_1
  refine lv_istore_n (lv' := [(3, .int x3_1), (2, .int x1), (0, .ref (G.1 + 222)), (1, .int x1)]) X.1 X.2.1 dX7_nextBehind_11 rfl hl (by decide) rfl (fun ls hl => ?_)
  obtain ⟨f_2, h⟩ := h
  exact B12 f_2 x1 x3_1 S _ (lv_sub hl [2, 1, 0] rfl) h _ _ hP hS

set_option maxHeartbeats 4000000 in
set_option maxRecDepth 100000 in
theorem c_X7_find (l : Launch) (G : Cx) (S : St) (K : Int32 → St → Prop) (h : w_X7_find S K) : q_Met l yX7_find cX7_find 3 (some .int) 3 66 G [.ref (G.1 + 222)] v_i S K := by
  refine q_enter (by decide +kernel) (Nat.le_of_ble_eq_true rfl) (fun p e s m args below meth c ls X hK hP hr hlocks hl => ?_)
  have hS : va_S (fr_ G) s.heap s.heap [] := va_S.rf
  have hl : lv_has ls 3 [(0, .ref (G.1 + 222))] := hl
  have B37 : ∀ (S : St) (ls : Array Slot), lv_has ls 3 [] → w_X7_find_37 K S → q_W p l e (k2_rm 3 66) s m args below meth c 0 0 (MQ below (q_Qc G K v_i) args s 0 0 (fr_ G)) G 37 ls [] S := by
    intro S ls hl h H locs hP hS
    refine lv_iconst (v := (-1)) X.1 X.2.1 dX7_find_37 (by decide) ?_
    exact q_iret X hr hlocks hP hS rfl h dX7_find_38
  have B19 : ∀ (f : Nat) (x1 : Int32) (x2 : Int32) (S : St) (ls : Array Slot), lv_has ls 3 [(0, .ref (G.1 + 222)), (1, .int x1), (2, .int x2)] → q_it (fun _ _ _ => False) (w_X7_find_19 K) f x1 x2 S → q_W p l e (k2_rm 3 66) s m args below meth c 0 0 (MQ below (q_Qc G K v_i) args s 0 0 (fr_ G)) G 19 ls [] S := by
    intro f
    induction f with
    | zero => intro x1 x2 S ls hl h; exact False.elim h
    | succ f hk19 =>
      intro x1 x2 S ls hl h H locs hP hS
      have h : w_X7_find_19 K (q_it (fun _ _ _ => False) (w_X7_find_19 K) f) x1 x2 S := h
      generalize q_it (fun _ _ _ => False) (w_X7_find_19 K) f = k19 at h hk19
      refine lv_iload_n X.1 X.2.1 dX7_find_19 rfl (lv_at hl 2 rfl) ?_
      refine lv_if_lt (tgt := 57) X.1 X.2.1 dX7_find_20 (by decide) (fun c_1 => ?_) (fun c_1 => ?_)
      · have h := h.1 c_1
        refine lv_iload_n X.1 X.2.1 dX7_find_57 rfl (lv_at hl 1 rfl) ?_
        exact q_iret X hr hlocks hP hS rfl h dX7_find_58
      · have h := h.2 c_1
        refine lv_iload_n X.1 X.2.1 dX7_find_23 rfl (lv_at hl 1 rfl) ?_
        refine lv_sipush (v := 300) X.1 X.2.1 dX7_find_24 (by decide) ?_
        refine lv_icmp_ge (tgt := 37) X.1 X.2.1 dX7_find_27 (by decide) (fun c_2 => ?_) (fun c_2 => ?_)
        · have h := h.1 c_2
          exact B37 S _ (lv_sub hl [] rfl) h _ _ hP hS
        · have h := h.2 c_2
          refine lv_iload_n X.1 X.2.1 dX7_find_30 rfl (lv_at hl 2 rfl) ?_
          refine q_callS (rest := []) X hK hP hS (c_X1_isGreat l G x2 S _ h) my_X1_isGreat tl_X7_29 dX7_find_31 rfl ⟨Nat.le_of_ble_eq_true rfl, Nat.le_of_ble_eq_true rfl⟩ hl.1 rfl (Nat.le_of_ble_eq_true rfl) ⟨Nat.le_of_ble_eq_true rfl, Nat.le_of_ble_eq_true rfl⟩ (fun r_4 S_3 H locs h hP hS => ?_)
          refine W.eq (g2 := F0 m 34 ls [.int r_4]) rfl ?_
          refine lv_if_eq (tgt := 39) X.1 X.2.1 dX7_find_34 (by decide) (fun c_5 => ?_) (fun c_5 => ?_)
          · have h := h.1 c_5
            refine lv_aload_n X.1 X.2.1 dX7_find_39 rfl (lv_at hl 0 rfl) ?_
            refine lv_iload_n X.1 X.2.1 dX7_find_40 rfl (lv_at hl 2 rfl) ?_
            refine lv_iload_n X.1 X.2.1 dX7_find_41 rfl (lv_at hl 1 rfl) ?_
            refine q_callV (rest := []) (b := 222) X hK hP hS (c_X7_insert l G x2 x1 S_3 _ h) my_X7_insert tl_X7_34 dX7_find_42 kz_222 rfl rfl rfl ⟨Nat.le_of_ble_eq_true rfl, Nat.le_of_ble_eq_true rfl⟩ hl.1 rfl (Nat.le_of_ble_eq_true rfl) ⟨Nat.le_of_ble_eq_true rfl, Nat.le_of_ble_eq_true rfl⟩ (fun r_7 S_6 H locs h hP hS => ?_)
            refine W.eq (g2 := F0 m 45 ls []) rfl ?_
            obtain ⟨x1_8, e1_8⟩ : ∃ y : Int32, y = x1 + 1 := ⟨_, rfl⟩
            have h := h x1_8 e1_8
            refine lv_iinc (v := x1_8) (lv' := [(1, .int x1_8), (0, .ref (G.1 + 222)), (2, .int x2)]) X.1 X.2.1 dX7_find_45 hl (k := 1) rfl (by rw [e1_8]; first | rfl | decide) (by decide) rfl (fun ls hl => ?_)
            refine lv_aload_n X.1 X.2.1 dX7_find_48 rfl (lv_at hl 1 rfl) ?_
            refine lv_iload_n X.1 X.2.1 dX7_find_49 rfl (lv_at hl 2 rfl) ?_
            refine q_callV (rest := []) (b := 222) X hK hP hS (c_X7_nextBehind l G x2 S_6 _ h) my_X7_nextBehind tl_X7_38 dX7_find_50 kz_222 rfl rfl rfl ⟨Nat.le_of_ble_eq_true rfl, Nat.le_of_ble_eq_true rfl⟩ hl.1 rfl (Nat.le_of_ble_eq_true rfl) ⟨Nat.le_of_ble_eq_true rfl, Nat.le_of_ble_eq_true rfl⟩ (fun r_10 S_9 H locs h hP hS => ?_)
            refine W.eq (g2 := F0 m 53 ls [.int r_10]) rfl ?_
            refine lv_istore_n (lv' := [(2, .int r_10), (1, .int x1_8), (0, .ref (G.1 + 222))]) X.1 X.2.1 dX7_find_53 rfl hl (by decide) rfl (fun ls hl => ?_)
            refine lv_goto (tgt := 19) X.1 X.2.1 dX7_find_54 (by decide) ?_
            exact hk19 x1_8 r_10 S_9 _ (lv_sub hl [2, 1, 0] rfl) h _ _ hP hS
          · have h := h.2 c_5
            exact B37 S_3 _ (lv_sub hl [] rfl) h _ _ hP hS
  have B18 : ∀ (x1 : Int32) (z0 : Int32) (S : St) (ls : Array Slot), lv_has ls 3 [(0, .ref (G.1 + 222)), (1, .int x1)] → w_X7_find_18 K x1 z0 S → q_W p l e (k2_rm 3 66) s m args below meth c 0 0 (MQ below (q_Qc G K v_i) args s 0 0 (fr_ G)) G 18 ls [.int z0] S := by
    intro x1 z0 S ls hl h H locs hP hS
    refine lv_istore_n (lv' := [(2, .int z0), (0, .ref (G.1 + 222)), (1, .int x1)]) X.1 X.2.1 dX7_find_18 rfl hl (by decide) rfl (fun ls hl => ?_)
    obtain ⟨f_1, h⟩ := h
    exact B19 f_1 x1 z0 S _ (lv_sub hl [1, 2, 0] rfl) h _ _ hP hS
  refine lv_iconst (v := 0) X.1 X.2.1 dX7_find_0 (by decide) ?_
  refine lv_istore_n (lv' := [(1, .int 0), (0, .ref (G.1 + 222))]) X.1 X.2.1 dX7_find_1 rfl hl (by decide) rfl (fun ls hl => ?_)
  refine lv_aload_n X.1 X.2.1 dX7_find_2 rfl (lv_at hl 1 rfl) ?_
  refine gf_X7_basis X hK hP tl_X7_19 dX7_find_3 ?_
  refine lv_iconst (v := 0) X.1 X.2.1 dX7_find_6 (by decide) ?_
  refine q_callV (rest := []) (b := 104) X hK hP hS (c_X0_hasHeadDividing l G 0 S _ h) my_X0_hasHeadDividing tl_X7_23 dX7_find_7 kz_104 rfl rfl rfl ⟨Nat.le_of_ble_eq_true rfl, Nat.le_of_ble_eq_true rfl⟩ hl.1 rfl (Nat.le_of_ble_eq_true rfl) ⟨Nat.le_of_ble_eq_true rfl, Nat.le_of_ble_eq_true rfl⟩ (fun r_2 S_1 H locs h hP hS => ?_)
  refine W.eq (g2 := F0 m 10 ls [.int r_2]) rfl ?_
  refine lv_if_eq (tgt := 17) X.1 X.2.1 dX7_find_10 (by decide) (fun c_3 => ?_) (fun c_3 => ?_)
  · have h := h.1 c_3
    refine lv_iconst (v := 0) X.1 X.2.1 dX7_find_17 (by decide) ?_
    exact B18 0 0 S_1 _ (lv_sub hl [1, 0] rfl) h _ _ hP hS
  · have h := h.2 c_3
    refine lv_iconst (v := (-1)) X.1 X.2.1 dX7_find_13 (by decide) ?_
    refine lv_goto (tgt := 18) X.1 X.2.1 dX7_find_14 (by decide) ?_
    exact B18 0 (-1) S_1 _ (lv_sub hl [1, 0] rfl) h _ _ hP hS
