set_option maxHeartbeats 4000000 in
set_option maxRecDepth 100000 in
theorem c2_X9_in (l : Launch) (G : Cx) (E : Nat) (x0 : Int32) (x1 : Int32) (x2 : Int32) (S : St) (K : Int32 → St → Prop) (h : w2_X9_in E x0 x1 x2 S K) : q_Met2 l yX9_in cX9_in 3 (some .boolean) 0 0 0 0 G [.int x0, .int x1, .int x2] v_i E E S K := by
  refine q_enter2 (by decide +kernel) (Nat.le_of_ble_eq_true rfl) (fun p e s m args below meth c ls X hK hN hP hr hlocks hnm hl => ?_)
  have hS : va_S (fr_ G) s.heap s.heap [] := va_S.rf
  have hG : G.1 ≤ s.heap.size := by rw [hP.2]; exact Nat.le_add_right _ _
  have hl : lv_has ls 3 [(0, .int x0), (1, .int x1), (2, .int x2)] := hl
  have hca : 0 + 0 ≤ 0 := by decide
  have hsa : 0 + 0 ≤ 0 := by decide
  have B14 : ∀ (S : St) (ls : Array Slot), lv_has ls 3 [] → w2_X9_in_14 E x0 x1 x2 K S → q_W2 p l e (q_rm 0 0 0 0) s m args below meth c 0 0 (0) (0) (MQ below (q_Qc2 G E K v_i) args s 0 0 (fr_ G)) G 14 ls [] E S := by
    intro S ls hl h H locs cells slots hca hsa hP hS
    refine lv_iconst (v := 0) X.1 X.2.1 dX9_in_14 (by decide) ?_
    exact q2_iret X hr hlocks hP hS rfl h (by omega) (by omega) dX9_in_15
  refine lv_iload_n X.1 X.2.1 dX9_in_0 rfl (lv_at hl 0 rfl) ?_
  refine lv_iload_n X.1 X.2.1 dX9_in_1 rfl (lv_at hl 1 rfl) ?_
  refine lv_icmp_lt (tgt := 14) X.1 X.2.1 dX9_in_2 (by decide) (fun c_1 => ?_) (fun c_1 => ?_)
  · have h := h.1 c_1
    exact B14 S _ (lv_sub hl [] rfl) h _ _ _ _ (by omega) (by omega) hP hS
  · have h := h.2 c_1
    refine lv_iload_n X.1 X.2.1 dX9_in_5 rfl (lv_at hl 0 rfl) ?_
    refine lv_iload_n X.1 X.2.1 dX9_in_6 rfl (lv_at hl 2 rfl) ?_
    refine lv_icmp_gt (tgt := 14) X.1 X.2.1 dX9_in_7 (by decide) (fun c_2 => ?_) (fun c_2 => ?_)
    · have h := h.1 c_2
      exact B14 S _ (lv_sub hl [] rfl) h _ _ _ _ (by omega) (by omega) hP hS
    · have h := h.2 c_2
      refine lv_iconst (v := 1) X.1 X.2.1 dX9_in_10 (by decide) ?_
      refine lv_goto (tgt := 15) X.1 X.2.1 dX9_in_11 (by decide) ?_
      exact q2_iret X hr hlocks hP hS rfl h (by omega) (by omega) dX9_in_15

set_option maxHeartbeats 4000000 in
set_option maxRecDepth 100000 in
theorem c2_X9_isPrime (l : Launch) (G : Cx) (E : Nat) (x0 : Int32) (S : St) (K : Int32 → St → Prop) (h : w2_X9_isPrime E x0 S K) : q_Met2 l yX9_isPrime cX9_isPrime 2 (some .boolean) 1 22 0 0 G [.int x0] v_i E E S K := by
  refine q_enter2 (by decide +kernel) (Nat.le_of_ble_eq_true rfl) (fun p e s m args below meth c ls X hK hN hP hr hlocks hnm hl => ?_)
  have hS : va_S (fr_ G) s.heap s.heap [] := va_S.rf
  have hG : G.1 ≤ s.heap.size := by rw [hP.2]; exact Nat.le_add_right _ _
  have hl : lv_has ls 2 [(0, .int x0)] := hl
  have hca : 0 + 0 ≤ 0 := by decide
  have hsa : 0 + 0 ≤ 0 := by decide
  have B15 : ∀ (f : Nat) (x1 : Int32) (S : St) (ls : Array Slot), lv_has ls 2 [(0, .int x0), (1, .int x1)] → q_it (fun _ _ => False) (w2_X9_isPrime_15 E x0 K) f x1 S → q_W2 p l e (q_rm 1 22 0 0) s m args below meth c 0 0 (0) (0) (MQ below (q_Qc2 G E K v_i) args s 0 0 (fr_ G)) G 15 ls [] E S := by
    intro f
    induction f with
    | zero => intro x1 S ls hl h; exact False.elim h
    | succ f hk15 =>
      intro x1 S ls hl h H locs cells slots hca hsa hP hS
      have h : w2_X9_isPrime_15 E x0 K (q_it (fun _ _ => False) (w2_X9_isPrime_15 E x0 K) f) x1 S := h
      generalize q_it (fun _ _ => False) (w2_X9_isPrime_15 E x0 K) f = k15 at h hk15
      refine lv_iload_n X.1 X.2.1 dX9_isPrime_15 rfl (lv_at hl 1 rfl) ?_
      refine lv_iload_n X.1 X.2.1 dX9_isPrime_16 rfl (lv_at hl 1 rfl) ?_
      refine lv_imul X.1 X.2.1 dX9_isPrime_17 ?_
      refine lv_iload_n X.1 X.2.1 dX9_isPrime_18 rfl (lv_at hl 0 rfl) ?_
      refine lv_icmp_gt (tgt := 36) X.1 X.2.1 dX9_isPrime_19 (by decide) (fun c_1 => ?_) (fun c_1 => ?_)
      · have h := h.1 c_1
        refine lv_iconst (v := 1) X.1 X.2.1 dX9_isPrime_36 (by decide) ?_
        exact q2_iret X hr hlocks hP hS rfl h (by omega) (by omega) dX9_isPrime_37
      · have h := h.2 c_1
        refine lv_iload_n X.1 X.2.1 dX9_isPrime_22 rfl (lv_at hl 0 rfl) ?_
        refine lv_iload_n X.1 X.2.1 dX9_isPrime_23 rfl (lv_at hl 1 rfl) ?_
        obtain ⟨o_2, h⟩ := h
        refine lv_irem X.1 X.2.1 dX9_isPrime_24 o_2 ?_
        refine lv_if_ne (tgt := 30) X.1 X.2.1 dX9_isPrime_25 (by decide) (fun c_3 => ?_) (fun c_3 => ?_)
        · have h := h.1 c_3
          obtain ⟨x1_4, e1_4⟩ : ∃ y : Int32, y = x1 + 1 := ⟨_, rfl⟩
          have h := h x1_4 e1_4
          refine lv_iinc (v := x1_4) (lv' := [(1, .int x1_4), (0, .int x0)]) X.1 X.2.1 dX9_isPrime_30 hl (k := 1) rfl (by rw [e1_4]; first | rfl | decide) (by decide) rfl (fun ls hl => ?_)
          refine lv_goto (tgt := 15) X.1 X.2.1 dX9_isPrime_33 (by decide) ?_
          exact hk15 x1_4 S _ (lv_sub hl [1, 0] rfl) h _ _ _ _ (by omega) (by omega) hP hS
        · have h := h.2 c_3
          refine lv_iconst (v := 0) X.1 X.2.1 dX9_isPrime_28 (by decide) ?_
          exact q2_iret X hr hlocks hP hS rfl h (by omega) (by omega) dX9_isPrime_29
  refine lv_iload_n X.1 X.2.1 dX9_isPrime_0 rfl (lv_at hl 0 rfl) ?_
  refine lv_iconst (v := 2) X.1 X.2.1 dX9_isPrime_1 (by decide) ?_
  refine lv_sipush (v := 251) X.1 X.2.1 dX9_isPrime_2 (by decide) ?_
  refine q2_callS (rest := []) X hK hN hP hS (c2_X9_in l G E x0 2 251 S _ h) my_X9_in tl_X9_78 dX9_isPrime_5 rfl ⟨Nat.le_of_ble_eq_true rfl, Nat.le_of_ble_eq_true rfl⟩ hl.1 rfl (Nat.le_of_ble_eq_true rfl) ⟨show 0 + 0 ≤ 0 by omega, show 0 + 0 ≤ 0 by omega⟩ (fun r_2 S_1 H locs h hP hS => ?_)
  refine W.eq (g2 := F0 m 8 ls [.int r_2]) rfl ?_
  refine lv_if_ne (tgt := 13) X.1 X.2.1 dX9_isPrime_8 (by decide) (fun c_3 => ?_) (fun c_3 => ?_)
  · have h := h.1 c_3
    refine lv_iconst (v := 2) X.1 X.2.1 dX9_isPrime_13 (by decide) ?_
    refine lv_istore_n (lv' := [(1, .int 2), (0, .int x0)]) X.1 X.2.1 dX9_isPrime_14 rfl hl (by decide) rfl (fun ls hl => ?_)
    obtain ⟨f_4, h⟩ := h
    exact B15 f_4 2 S_1 _ (lv_sub hl [1, 0] rfl) h _ _ _ _ (by omega) (by omega) hP hS
  · have h := h.2 c_3
    refine lv_iconst (v := 0) X.1 X.2.1 dX9_isPrime_11 (by decide) ?_
    exact q2_iret X hr hlocks hP hS rfl h (by omega) (by omega) dX9_isPrime_12

set_option maxHeartbeats 4000000 in
set_option maxRecDepth 100000 in
theorem c2_X8_isPrimeInRange (l : Launch) (G : Cx) (E : Nat) (x0 : Int32) (S : St) (K : Int32 → St → Prop) (h : w2_X8_isPrimeInRange E x0 S K) : q_Met2 l yX8_isPrimeInRange cX8_isPrimeInRange 2 (some .boolean) 0 0 0 0 G [.int x0] v_i E E S K := by
  refine q_enter2 (by decide +kernel) (Nat.le_of_ble_eq_true rfl) (fun p e s m args below meth c ls X hK hN hP hr hlocks hnm hl => ?_)
  have hS : va_S (fr_ G) s.heap s.heap [] := va_S.rf
  have hG : G.1 ≤ s.heap.size := by rw [hP.2]; exact Nat.le_add_right _ _
  have hl : lv_has ls 2 [(0, .int x0)] := hl
  have hca : 0 + 0 ≤ 0 := by decide
  have hsa : 0 + 0 ≤ 0 := by decide
  have B12 : ∀ (S : St) (ls : Array Slot), lv_has ls 2 [] → w2_X8_isPrimeInRange_12 E x0 K S → q_W2 p l e (q_rm 0 0 0 0) s m args below meth c 0 0 (0) (0) (MQ below (q_Qc2 G E K v_i) args s 0 0 (fr_ G)) G 12 ls [] E S := by
    intro S ls hl h H locs cells slots hca hsa hP hS
    refine lv_iconst (v := 0) X.1 X.2.1 dX8_isPrimeInRange_12 (by decide) ?_
    exact q2_iret X hr hlocks hP hS rfl h (by omega) (by omega) dX8_isPrimeInRange_13
  have B16 : ∀ (f : Nat) (x1 : Int32) (S : St) (ls : Array Slot), lv_has ls 2 [(0, .int x0), (1, .int x1)] → q_it (fun _ _ => False) (w2_X8_isPrimeInRange_16 E x0 K) f x1 S → q_W2 p l e (q_rm 0 0 0 0) s m args below meth c 0 0 (0) (0) (MQ below (q_Qc2 G E K v_i) args s 0 0 (fr_ G)) G 16 ls [] E S := by
    intro f
    induction f with
    | zero => intro x1 S ls hl h; exact False.elim h
    | succ f hk16 =>
      intro x1 S ls hl h H locs cells slots hca hsa hP hS
      have h : w2_X8_isPrimeInRange_16 E x0 K (q_it (fun _ _ => False) (w2_X8_isPrimeInRange_16 E x0 K) f) x1 S := h
      generalize q_it (fun _ _ => False) (w2_X8_isPrimeInRange_16 E x0 K) f = k16 at h hk16
      refine lv_iload_n X.1 X.2.1 dX8_isPrimeInRange_16 rfl (lv_at hl 1 rfl) ?_
      refine lv_iload_n X.1 X.2.1 dX8_isPrimeInRange_17 rfl (lv_at hl 0 rfl) ?_
      refine lv_icmp_ge (tgt := 35) X.1 X.2.1 dX8_isPrimeInRange_18 (by decide) (fun c_1 => ?_) (fun c_1 => ?_)
      · have h := h.1 c_1
        refine lv_iconst (v := 1) X.1 X.2.1 dX8_isPrimeInRange_35 (by decide) ?_
        exact q2_iret X hr hlocks hP hS rfl h (by omega) (by omega) dX8_isPrimeInRange_36
      · have h := h.2 c_1
        refine lv_iload_n X.1 X.2.1 dX8_isPrimeInRange_21 rfl (lv_at hl 0 rfl) ?_
        refine lv_iload_n X.1 X.2.1 dX8_isPrimeInRange_22 rfl (lv_at hl 1 rfl) ?_
        obtain ⟨o_2, h⟩ := h
        refine lv_irem X.1 X.2.1 dX8_isPrimeInRange_23 o_2 ?_
        refine lv_if_ne (tgt := 29) X.1 X.2.1 dX8_isPrimeInRange_24 (by decide) (fun c_3 => ?_) (fun c_3 => ?_)
        · have h := h.1 c_3
          obtain ⟨x1_4, e1_4⟩ : ∃ y : Int32, y = x1 + 1 := ⟨_, rfl⟩
          have h := h x1_4 e1_4
          refine lv_iinc (v := x1_4) (lv' := [(1, .int x1_4), (0, .int x0)]) X.1 X.2.1 dX8_isPrimeInRange_29 hl (k := 1) rfl (by rw [e1_4]; first | rfl | decide) (by decide) rfl (fun ls hl => ?_)
          refine lv_goto (tgt := 16) X.1 X.2.1 dX8_isPrimeInRange_32 (by decide) ?_
          exact hk16 x1_4 S _ (lv_sub hl [1, 0] rfl) h _ _ _ _ (by omega) (by omega) hP hS
        · have h := h.2 c_3
          refine lv_iconst (v := 0) X.1 X.2.1 dX8_isPrimeInRange_27 (by decide) ?_
          exact q2_iret X hr hlocks hP hS rfl h (by omega) (by omega) dX8_isPrimeInRange_28
  refine lv_iload_n X.1 X.2.1 dX8_isPrimeInRange_0 rfl (lv_at hl 0 rfl) ?_
  refine lv_iconst (v := 2) X.1 X.2.1 dX8_isPrimeInRange_1 (by decide) ?_
  refine lv_icmp_lt (tgt := 12) X.1 X.2.1 dX8_isPrimeInRange_2 (by decide) (fun c_1 => ?_) (fun c_1 => ?_)
  · have h := h.1 c_1
    exact B12 S _ (lv_sub hl [] rfl) h _ _ _ _ (by omega) (by omega) hP hS
  · have h := h.2 c_1
    refine lv_iload_n X.1 X.2.1 dX8_isPrimeInRange_5 rfl (lv_at hl 0 rfl) ?_
    refine lv_sipush (v := 251) X.1 X.2.1 dX8_isPrimeInRange_6 (by decide) ?_
    refine lv_icmp_le (tgt := 14) X.1 X.2.1 dX8_isPrimeInRange_9 (by decide) (fun c_2 => ?_) (fun c_2 => ?_)
    · have h := h.1 c_2
      refine lv_iconst (v := 2) X.1 X.2.1 dX8_isPrimeInRange_14 (by decide) ?_
      refine lv_istore_n (lv' := [(1, .int 2), (0, .int x0)]) X.1 X.2.1 dX8_isPrimeInRange_15 rfl hl (by decide) rfl (fun ls hl => ?_)
      obtain ⟨f_3, h⟩ := h
      exact B16 f_3 2 S _ (lv_sub hl [1, 0] rfl) h _ _ _ _ (by omega) (by omega) hP hS
    · have h := h.2 c_2
      exact B12 S _ (lv_sub hl [] rfl) h _ _ _ _ (by omega) (by omega) hP hS

set_option maxHeartbeats 4000000 in
set_option maxRecDepth 100000 in
theorem c2_X3_push (l : Launch) (G : Cx) (x1 : Int32) (x2 : Int32) (S : St) (K : Int32 → St → Prop) (h : w2_X3_push x1 x2 S K) : q_Met2 l yX3_push cX3_push 3 (some .boolean) 0 0 0 0 G [.ref (G.1 + 13), .int x1, .int x2] v_i 16 16 S K := by
  refine q_enter2 (by decide +kernel) (Nat.le_of_ble_eq_true rfl) (fun p e s m args below meth c ls X hK hN hP hr hlocks hnm hl => ?_)
  have hS : va_S (fr_ G) s.heap s.heap [] := va_S.rf
  have hG : G.1 ≤ s.heap.size := by rw [hP.2]; exact Nat.le_add_right _ _
  have hl : lv_has ls 3 [(0, .ref (G.1 + 13)), (1, .int x1), (2, .int x2)] := hl
  have hca : 0 + 0 ≤ 0 := by decide
  have hsa : 0 + 0 ≤ 0 := by decide
  refine lv_aload_n X.1 X.2.1 dX3_push_0 rfl (lv_at hl 0 rfl) ?_
  refine q2_get (v := .int (S 13 2)) X hK hP 13 2 2 (C := RX3) (T := TX3) (N := 3) rfl in_X3 (by decide +kernel) (by decide) tl_X3_18 rfl rfl dX3_push_1 ?_
  refine lv_bipush (v := 40) X.1 X.2.1 dX3_push_4 (by decide) ?_
  refine lv_icmp_lt (tgt := 11) X.1 X.2.1 dX3_push_6 (by decide) (fun c_1 => ?_) (fun c_1 => ?_)
  · have h := h.1 c_1
    refine lv_aload_n X.1 X.2.1 dX3_push_11 rfl (lv_at hl 0 rfl) ?_
    obtain ⟨o_2, h⟩ := h
    refine q2_get (v := .ref (G.1 + 14)) X hK hP 13 2 0 (C := RX3) (T := TX3) (N := 3) rfl in_X3 (by decide +kernel) (by decide) tl_X3_9 rfl (by show some (va_rf (q_or G (S 13 0))) = _; rw [o_2, q_or_nI (by decide)]; rfl) dX3_push_12 ?_
    refine lv_aload_n X.1 X.2.1 dX3_push_15 rfl (lv_at hl 0 rfl) ?_
    refine q2_get (v := .int (S 13 2)) X hK hP 13 2 2 (C := RX3) (T := TX3) (N := 3) rfl in_X3 (by decide +kernel) (by decide) tl_X3_18 rfl rfl dX3_push_16 ?_
    refine lv_iload_n X.1 X.2.1 dX3_push_19 rfl (lv_at hl 1 rfl) ?_
    obtain ⟨o_3, h⟩ := h
    refine q2_iast X hK hP hS (by decide +kernel) o_3 dX3_push_20 (fun S_4 H locs eS_4 hP hS => ?_)
    have h := h S_4 eS_4
    refine lv_aload_n X.1 X.2.1 dX3_push_21 rfl (lv_at hl 0 rfl) ?_
    obtain ⟨o_5, h⟩ := h
    refine q2_get (v := .ref (G.1 + 15)) X hK hP 13 2 1 (C := RX3) (T := TX3) (N := 3) rfl in_X3 (by decide +kernel) (by decide) tl_X3_15 rfl (by show some (va_rf (q_or G (S_4 13 1))) = _; rw [o_5, q_or_nI (by decide)]; rfl) dX3_push_22 ?_
    refine lv_aload_n X.1 X.2.1 dX3_push_25 rfl (lv_at hl 0 rfl) ?_
    refine q2_get (v := .int (S_4 13 2)) X hK hP 13 2 2 (C := RX3) (T := TX3) (N := 3) rfl in_X3 (by decide +kernel) (by decide) tl_X3_18 rfl rfl dX3_push_26 ?_
    refine lv_iload_n X.1 X.2.1 dX3_push_29 rfl (lv_at hl 2 rfl) ?_
    obtain ⟨o_6, h⟩ := h
    refine q2_iast X hK hP hS (by decide +kernel) o_6 dX3_push_30 (fun S_7 H locs eS_7 hP hS => ?_)
    have h := h S_7 eS_7
    refine lv_aload_n X.1 X.2.1 dX3_push_31 rfl (lv_at hl 0 rfl) ?_
    refine lv_dup X.1 X.2.1 dX3_push_32 rfl ?_
    refine q2_get (v := .int (S_7 13 2)) X hK hP 13 2 2 (C := RX3) (T := TX3) (N := 3) rfl in_X3 (by decide +kernel) (by decide) tl_X3_18 rfl rfl dX3_push_33 ?_
    refine lv_iconst (v := 1) X.1 X.2.1 dX3_push_36 (by decide) ?_
    refine lv_iadd X.1 X.2.1 dX3_push_37 ?_
    refine q2_put X hK hP hS 13 2 2 (C := RX3) (T := TX3) (N := 3) rfl in_X3 tyX3 tyX3_ok nmX3 (by decide +kernel) (by decide) tl_X3_18 rfl rfl (ty := .int) (by decide +kernel) rfl rfl (x := ((S_7 13 2) + 1)) (by simp [objF2, su, upd]) (by simp [objF2]) dX3_push_38 (fun S_8 H locs eS_8 hP hS => ?_)
    have h := h S_8 eS_8
    refine lv_iconst (v := 1) X.1 X.2.1 dX3_push_41 (by decide) ?_
    exact q2_iret X hr hlocks hP hS rfl h (by omega) (by omega) dX3_push_42
  · have h := h.2 c_1
    refine lv_iconst (v := 0) X.1 X.2.1 dX3_push_9 (by decide) ?_
    exact q2_iret X hr hlocks hP hS rfl h (by omega) (by omega) dX3_push_10

set_option maxHeartbeats 4000000 in
set_option maxRecDepth 100000 in
theorem c2_X3_init (l : Launch) (G : Cx) (q0 : Nat) (S : St) (K : Unit → St → Prop) (hq0 : isP q0) (h : w2_X3_init q0 S K) : q_Met2 l yX3_init cX3_init 1 none 1 12 2 80 G [.ref (G.1 + q0)] v_v (q0 + 1) (q0 + 3) S K := by
  refine q_enter2 (by decide +kernel) (Nat.le_of_ble_eq_true rfl) (fun p e s m args below meth c ls X hK hN hP hr hlocks hnm hl => ?_)
  have hS : va_S (fr_ G) s.heap s.heap [] := va_S.rf
  have hG : G.1 ≤ s.heap.size := by rw [hP.2]; exact Nat.le_add_right _ _
  have hl : lv_has ls 1 [(0, .ref (G.1 + q0))] := hl
  have hca : 0 + 2 ≤ 2 := by decide
  have hsa : 0 + 80 ≤ 80 := by decide
  refine lv_aload_n X.1 X.2.1 dX3_init_0 rfl (lv_at hl 0 rfl) ?_
  refine W.objInit X.1 X.2.1 X.2.2.2.1 (X.2.2.2.2 _ to_X3) (X.2.2.2.2 _ toi) (X.2.2.2.2 _ toc) rfl (by rw [X.2.2.1]; exact hl.1) rfl dX3_init_1 (Nat.le_of_ble_eq_true rfl) (Nat.le_of_ble_eq_true rfl) ?_
  refine W.eq (g2 := F0 m 4 ls []) rfl ?_
  refine lv_aload_n X.1 X.2.1 dX3_init_4 rfl (lv_at hl 0 rfl) ?_
  refine lv_bipush (v := 40) X.1 X.2.1 dX3_init_5 (by decide) ?_
  refine q2_newi X hK hP hS (isP_1 hq0).2 ta_0 (by decide) (by decide) (by decide) (show 0 + 1 ≤ 2 by omega) (show 0 + 40 ≤ 80 by omega) dX3_init_7 (fun S_1 H eS_1 hP hS => ?_)
  have h := h S_1 eS_1
  refine q2_putF X hK hP hS q0 2 0 (C := RX3) (T := TX3) (N := 3) rfl in_X3 tyX3 tyX3_ok nmX3 ⟨by omega, hq0.2⟩ (by decide) tl_X3_9 rfl rfl hnm rfl (ty := (.array .int)) (by decide +kernel) rfl rfl (x := (nI (q0 + 1))) (by simp [objF2, su, upd, q_or_nI (G := G) (b := (q0 + 1)) (by have := hq0.1; omega), va_rf]) (by simp [objF2]) dX3_init_9 (fun S_2 H locs eS_2 hP hS => ?_)
  have h := h S_2 eS_2
  refine lv_aload_n X.1 X.2.1 dX3_init_12 rfl (lv_at hl 0 rfl) ?_
  refine lv_bipush (v := 40) X.1 X.2.1 dX3_init_13 (by decide) ?_
  refine q2_newi X hK hP hS (isP_2 hq0).2 ta_0 (by decide) (by decide) (by decide) (show 0 + 1 + 1 ≤ 2 by omega) (show 0 + 40 + 40 ≤ 80 by omega) dX3_init_15 (fun S_3 H eS_3 hP hS => ?_)
  have h := h S_3 eS_3
  refine q2_putF X hK hP hS q0 2 1 (C := RX3) (T := TX3) (N := 3) rfl in_X3 tyX3 tyX3_ok nmX3 ⟨by omega, hq0.2⟩ (by decide) tl_X3_15 rfl rfl hnm rfl (ty := (.array .int)) (by decide +kernel) rfl rfl (x := (nI (q0 + 2))) (by simp [objF2, su, upd, q_or_nI (G := G) (b := (q0 + 2)) (by have := hq0.1; omega), va_rf]) (by simp [objF2]) dX3_init_17 (fun S_4 H locs eS_4 hP hS => ?_)
  have h := h S_4 eS_4
  exact q2_vret X hr hlocks hP hS h (by omega) (by omega) dX3_init_20

set_option maxHeartbeats 4000000 in
set_option maxRecDepth 100000 in
theorem c2_X2_init (l : Launch) (G : Cx) (S : St) (K : Unit → St → Prop) (h : w2_X2_init S K) : q_Met2 l yX2_init cX2_init 1 none 1 12 2 306 G [.ref (G.1 + 105)] v_v 106 108 S K := by
  refine q_enter2 (by decide +kernel) (Nat.le_of_ble_eq_true rfl) (fun p e s m args below meth c ls X hK hN hP hr hlocks hnm hl => ?_)
  have hS : va_S (fr_ G) s.heap s.heap [] := va_S.rf
  have hG : G.1 ≤ s.heap.size := by rw [hP.2]; exact Nat.le_add_right _ _
  have hl : lv_has ls 1 [(0, .ref (G.1 + 105))] := hl
  have hca : 0 + 2 ≤ 2 := by decide
  have hsa : 0 + 306 ≤ 306 := by decide
  refine lv_aload_n X.1 X.2.1 dX2_init_0 rfl (lv_at hl 0 rfl) ?_
  refine W.objInit X.1 X.2.1 X.2.2.2.1 (X.2.2.2.2 _ to_X2) (X.2.2.2.2 _ toi) (X.2.2.2.2 _ toc) rfl (by rw [X.2.2.1]; exact hl.1) rfl dX2_init_1 (Nat.le_of_ble_eq_true rfl) (Nat.le_of_ble_eq_true rfl) ?_
  refine W.eq (g2 := F0 m 4 ls []) rfl ?_
  refine lv_aload_n X.1 X.2.1 dX2_init_4 rfl (lv_at hl 0 rfl) ?_
  refine lv_sipush (v := 153) X.1 X.2.1 dX2_init_5 (by decide) ?_
  refine q2_newi X hK hP hS (by decide +kernel) ta_0 (by decide) (by decide) (by decide) (show 0 + 1 ≤ 2 by omega) (show 0 + 153 ≤ 306 by omega) dX2_init_8 (fun S_1 H eS_1 hP hS => ?_)
  have h := h S_1 eS_1
  refine q2_putF X hK hP hS 105 1 0 (C := RX2) (T := TX2) (N := 3) rfl in_X2 tyX2 tyX2_ok nmX2 (by decide +kernel) (by decide) tl_X2_9 rfl rfl hnm rfl (ty := (.array .int)) (by decide +kernel) rfl rfl (x := (nI 106)) (by simp [objF2, su, upd, q_or_nI (G := G) (b := 106) (by decide), va_rf]) (by simp [objF2]) dX2_init_10 (fun S_2 H locs eS_2 hP hS => ?_)
  have h := h S_2 eS_2
  refine lv_aload_n X.1 X.2.1 dX2_init_13 rfl (lv_at hl 0 rfl) ?_
  refine lv_sipush (v := 153) X.1 X.2.1 dX2_init_14 (by decide) ?_
  refine q2_newi X hK hP hS (by decide +kernel) ta_0 (by decide) (by decide) (by decide) (show 0 + 1 + 1 ≤ 2 by omega) (show 0 + 153 + 153 ≤ 306 by omega) dX2_init_17 (fun S_3 H eS_3 hP hS => ?_)
  have h := h S_3 eS_3
  refine q2_putF X hK hP hS 105 1 1 (C := RX2) (T := TX2) (N := 3) rfl in_X2 tyX2 tyX2_ok nmX2 (by decide +kernel) (by decide) tl_X2_15 rfl rfl hnm rfl (ty := (.array .int)) (by decide +kernel) rfl rfl (x := (nI 107)) (by simp [objF2, su, upd, q_or_nI (G := G) (b := 107) (by decide), va_rf]) (by simp [objF2]) dX2_init_19 (fun S_4 H locs eS_4 hP hS => ?_)
  have h := h S_4 eS_4
  exact q2_vret X hr hlocks hP hS h (by omega) (by omega) dX2_init_22

set_option maxHeartbeats 4000000 in
set_option maxRecDepth 100000 in
theorem c2_X5_init (l : Launch) (G : Cx) (x1 : Int32) (x2 : Int32) (S : St) (K : Unit → St → Prop) (h : w2_X5_init x1 x2 S K) : q_Met2 l yX5_init cX5_init 3 none 2 32 8 210 G [.ref (G.1 + 1), .int x1, .int x2] v_v 2 10 S K := by
  refine q_enter2 (by decide +kernel) (Nat.le_of_ble_eq_true rfl) (fun p e s m args below meth c ls X hK hN hP hr hlocks hnm hl => ?_)
  have hS : va_S (fr_ G) s.heap s.heap [] := va_S.rf
  have hG : G.1 ≤ s.heap.size := by rw [hP.2]; exact Nat.le_add_right _ _
  have hl : lv_has ls 3 [(0, .ref (G.1 + 1)), (1, .int x1), (2, .int x2)] := hl
  have hca : 0 + 8 ≤ 8 := by decide
  have hsa : 0 + 210 ≤ 210 := by decide
  refine lv_aload_n X.1 X.2.1 dX5_init_0 rfl (lv_at hl 0 rfl) ?_
  refine W.objInit X.1 X.2.1 X.2.2.2.1 (X.2.2.2.2 _ to_X5) (X.2.2.2.2 _ toi) (X.2.2.2.2 _ toc) rfl (by rw [X.2.2.1]; exact hl.1) rfl dX5_init_1 (Nat.le_of_ble_eq_true rfl) (Nat.le_of_ble_eq_true rfl) ?_
  refine W.eq (g2 := F0 m 4 ls []) rfl ?_
  refine lv_aload_n X.1 X.2.1 dX5_init_4 rfl (lv_at hl 0 rfl) ?_
  refine lv_iconst (v := 2) X.1 X.2.1 dX5_init_5 (by decide) ?_
  refine q2_put X hK hP hS 1 4 2 (C := RX5) (T := TX5) (N := 7) rfl in_X5 tyX5 tyX5_ok nmX5 (by decide +kernel) (by decide) tl_X5_9 rfl rfl (ty := .int) (by decide +kernel) rfl rfl (x := 2) (by simp [objF2, su, upd]) (by simp [objF2]) dX5_init_6 (fun S_1 H locs eS_1 hP hS => ?_)
  have h := h S_1 eS_1
  refine lv_aload_n X.1 X.2.1 dX5_init_9 rfl (lv_at hl 0 rfl) ?_
  refine lv_iconst (v := 4) X.1 X.2.1 dX5_init_10 (by decide) ?_
  refine q2_newi X hK hP hS (by decide +kernel) ta_0 (by decide) (by decide) (by decide) (show 0 + 1 ≤ 8 by omega) (show 0 + 4 ≤ 210 by omega) dX5_init_11 (fun S_2 H eS_2 hP hS => ?_)
  have h := h S_2 eS_2
  refine q2_putF X hK hP hS 1 4 3 (C := RX5) (T := TX5) (N := 7) rfl in_X5 tyX5 tyX5_ok nmX5 (by decide +kernel) (by decide) tl_X5_15 rfl rfl hnm rfl (ty := (.array .int)) (by decide +kernel) rfl rfl (x := (nI 2)) (by simp [objF2, su, upd, q_or_nI (G := G) (b := 2) (by decide), va_rf]) (by simp [objF2]) dX5_init_13 (fun S_3 H locs eS_3 hP hS => ?_)
  have h := h S_3 eS_3
  refine lv_aload_n X.1 X.2.1 dX5_init_16 rfl (lv_at hl 0 rfl) ?_
  refine lv_bipush (v := 40) X.1 X.2.1 dX5_init_17 (by decide) ?_
  refine q2_newi X hK hP hS (by decide +kernel) ta_0 (by decide) (by decide) (by decide) (show 0 + 1 + 1 ≤ 8 by omega) (show 0 + 4 + 40 ≤ 210 by omega) dX5_init_19 (fun S_4 H eS_4 hP hS => ?_)
  have h := h S_4 eS_4
  refine q2_putF X hK hP hS 1 4 4 (C := RX5) (T := TX5) (N := 7) rfl in_X5 tyX5 tyX5_ok nmX5 (by decide +kernel) (by decide) tl_X5_19 rfl rfl hnm rfl (ty := (.array .int)) (by decide +kernel) rfl rfl (x := (nI 3)) (by simp [objF2, su, upd, q_or_nI (G := G) (b := 3) (by decide), va_rf]) (by simp [objF2]) dX5_init_21 (fun S_5 H locs eS_5 hP hS => ?_)
  have h := h S_5 eS_5
  refine lv_aload_n X.1 X.2.1 dX5_init_24 rfl (lv_at hl 0 rfl) ?_
  refine q2_new X hK hP hS hG (ci := 2) (C := RX3) (T := TX3) (N := 3) rfl in_X3 tyX3 tyX3_ok (by decide +kernel) fresh_2 (hfr_2 G _ _) tl_X5_22 ti_X3 tz_X3 (show 0 + 1 + 1 + 1 ≤ 8 by omega) (show 0 + 4 + 40 + 3 ≤ 210 by omega) dX5_init_25 (fun S_6 H eS_6 hP hS => ?_)
  have h := h S_6 eS_6
  refine lv_dup X.1 X.2.1 dX5_init_28 rfl ?_
  refine q2_callN (rest := [.ref (G.1 + 4), .ref (G.1 + 1)]) (b := 4) X hK hN hP hS (c2_X3_init l G 4 S_6 _ (by unfold isP; decide +kernel) h) mi_X3_init hN.2.1 dX5_init_29 rfl ⟨Nat.le_of_ble_eq_true rfl, Nat.le_of_ble_eq_true rfl⟩ hl.1 rfl (Nat.le_of_ble_eq_true rfl) ⟨show 0 + 1 + 1 + 1 + 2 ≤ 8 by omega, show 0 + 4 + 40 + 3 + 80 ≤ 210 by omega⟩ (fun r_8 S_7 H locs h hP hS => ?_)
  refine W.eq (g2 := F0 m 32 ls [.ref (G.1 + 4), .ref (G.1 + 1)]) rfl ?_
  refine q2_putF X hK hP hS 1 4 5 (C := RX5) (T := TX5) (N := 7) rfl in_X5 tyX5 tyX5_ok nmX5 (by decide +kernel) (by decide) tl_X5_25 rfl rfl hnm rfl (ty := (.object "IdealBench$Poly")) (by decide +kernel) rfl rfl (x := (nI 4)) (by simp [objF2, su, upd, q_or_nI (G := G) (b := 4) (by decide), va_rf]) (by simp [objF2]) dX5_init_32 (fun S_9 H locs eS_9 hP hS => ?_)
  have h := h S_9 eS_9
  refine lv_aload_n X.1 X.2.1 dX5_init_35 rfl (lv_at hl 0 rfl) ?_
  refine q2_new X hK hP hS hG (ci := 2) (C := RX3) (T := TX3) (N := 3) rfl in_X3 tyX3 tyX3_ok (by decide +kernel) fresh_2 (hfr_2 G _ _) tl_X5_22 ti_X3 tz_X3 (show 0 + 1 + 1 + 1 + 2 + 1 ≤ 8 by omega) (show 0 + 4 + 40 + 3 + 80 + 3 ≤ 210 by omega) dX5_init_36 (fun S_10 H eS_10 hP hS => ?_)
  have h := h S_10 eS_10
  refine lv_dup X.1 X.2.1 dX5_init_39 rfl ?_
  refine q2_callN (rest := [.ref (G.1 + 7), .ref (G.1 + 1)]) (b := 7) X hK hN hP hS (c2_X3_init l G 7 S_10 _ (by unfold isP; decide +kernel) h) mi_X3_init hN.2.1 dX5_init_40 rfl ⟨Nat.le_of_ble_eq_true rfl, Nat.le_of_ble_eq_true rfl⟩ hl.1 rfl (Nat.le_of_ble_eq_true rfl) ⟨show 0 + 1 + 1 + 1 + 2 + 1 + 2 ≤ 8 by omega, show 0 + 4 + 40 + 3 + 80 + 3 + 80 ≤ 210 by omega⟩ (fun r_12 S_11 H locs h hP hS => ?_)
  refine W.eq (g2 := F0 m 43 ls [.ref (G.1 + 7), .ref (G.1 + 1)]) rfl ?_
  refine q2_putF X hK hP hS 1 4 6 (C := RX5) (T := TX5) (N := 7) rfl in_X5 tyX5 tyX5_ok nmX5 (by decide +kernel) (by decide) tl_X5_29 rfl rfl hnm rfl (ty := (.object "IdealBench$Poly")) (by decide +kernel) rfl rfl (x := (nI 7)) (by simp [objF2, su, upd, q_or_nI (G := G) (b := 7) (by decide), va_rf]) (by simp [objF2]) dX5_init_43 (fun S_13 H locs eS_13 hP hS => ?_)
  have h := h S_13 eS_13
  refine lv_aload_n X.1 X.2.1 dX5_init_46 rfl (lv_at hl 0 rfl) ?_
  refine lv_iload_n X.1 X.2.1 dX5_init_47 rfl (lv_at hl 1 rfl) ?_
  refine q2_putF X hK hP hS 1 4 0 (C := RX5) (T := TX5) (N := 7) rfl in_X5 tyX5 tyX5_ok nmX5 (by decide +kernel) (by decide) tl_X5_32 rfl rfl hnm rfl (ty := .int) (by decide +kernel) rfl rfl (x := x1) (by simp [objF2, su, upd]) (by simp [objF2]) dX5_init_48 (fun S_14 H locs eS_14 hP hS => ?_)
  have h := h S_14 eS_14
  refine lv_aload_n X.1 X.2.1 dX5_init_51 rfl (lv_at hl 0 rfl) ?_
  refine lv_iload_n X.1 X.2.1 dX5_init_52 rfl (lv_at hl 2 rfl) ?_
  refine q2_putF X hK hP hS 1 4 1 (C := RX5) (T := TX5) (N := 7) rfl in_X5 tyX5 tyX5_ok nmX5 (by decide +kernel) (by decide) tl_X5_35 rfl rfl hnm rfl (ty := .int) (by decide +kernel) rfl rfl (x := x2) (by simp [objF2, su, upd]) (by simp [objF2]) dX5_init_53 (fun S_15 H locs eS_15 hP hS => ?_)
  have h := h S_15 eS_15
  exact q2_vret X hr hlocks hP hS h (by omega) (by omega) dX5_init_56

set_option maxHeartbeats 4000000 in
set_option maxRecDepth 100000 in
theorem c2_X6_init (l : Launch) (G : Cx) (S : St) (K : Unit → St → Prop) (h : w2_X6_init S K) : q_Met2 l yX6_init cX6_init 2 none 2 32 77 2123 G [.ref (G.1 + 19)] v_v 20 94 S K := by
  refine q_enter2 (by decide +kernel) (Nat.le_of_ble_eq_true rfl) (fun p e s m args below meth c ls X hK hN hP hr hlocks hnm hl => ?_)
  have hS : va_S (fr_ G) s.heap s.heap [] := va_S.rf
  have hG : G.1 ≤ s.heap.size := by rw [hP.2]; exact Nat.le_add_right _ _
  have hl : lv_has ls 2 [(0, .ref (G.1 + 19))] := hl
  have hca : 0 + 77 ≤ 77 := by decide
  have hsa : 0 + 2123 ≤ 2123 := by decide
  have B23 : ∀ (f : Nat) (E : Nat) (x1 : Int32) (S : St) (ls : Array Slot), lv_has ls 2 [(0, .ref (G.1 + 19)), (1, .int x1)] → q_it (fun _ _ _ => False) (w2_X6_init_23 K) f E x1 S → q_W2 p l e (q_rm 2 32 77 2123) s m args below meth c 77 2123 (3 * f) (83 * f) (MQ below (q_Qc2 G 94 K v_v) args s 77 2123 (fr_ G)) G 23 ls [] E S := by
    intro f
    induction f with
    | zero => intro E x1 S ls hl h; exact False.elim h
    | succ f hk23 =>
      intro E x1 S ls hl h H locs cells slots hca hsa hP hS
      have h : w2_X6_init_23 K (q_it (fun _ _ _ => False) (w2_X6_init_23 K) f) E x1 S := h
      generalize q_it (fun _ _ _ => False) (w2_X6_init_23 K) f = k23 at h hk23
      refine lv_iload_n X.1 X.2.1 dX6_init_23 rfl (lv_at hl 1 rfl) ?_
      refine lv_bipush (v := 24) X.1 X.2.1 dX6_init_24 (by decide) ?_
      refine lv_icmp_ge (tgt := 48) X.1 X.2.1 dX6_init_26 (by decide) (fun c_1 => ?_) (fun c_1 => ?_)
      · have h := h.1 c_1
        obtain ⟨o_2, h⟩ := h
        rw [o_2] at hP
        exact q2_vret X hr hlocks hP hS h (by omega) (by omega) dX6_init_48
      · have h := h.2 c_1
        refine lv_aload_n X.1 X.2.1 dX6_init_29 rfl (lv_at hl 0 rfl) ?_
        obtain ⟨o_3, h⟩ := h
        obtain ⟨o_4, h⟩ := h
        refine q2_get (v := .ref (G.1 + 20)) X hK hP 19 5 0 (C := RX6) (T := TX6) (N := 3) rfl in_X6 o_3 (by decide) tl_X6_11 rfl (by show some (va_rf (q_or G (S 19 0))) = _; rw [o_4, q_or_nI (by decide)]; rfl) dX6_init_30 ?_
        refine lv_iload_n X.1 X.2.1 dX6_init_33 rfl (lv_at hl 1 rfl) ?_
        obtain ⟨o_6, h⟩ := h
        refine q2_new X hK hP hS hG (ci := 2) (C := RX3) (T := TX3) (N := 3) rfl in_X3 tyX3 tyX3_ok o_6 fresh_2 (hfr_2 G _ _) tl_X6_9 ti_X3 tz_X3 (show cells + 1 ≤ 77 by omega) (show slots + 3 ≤ 2123 by omega) dX6_init_34 (fun S_5 H eS_5 hP hS => ?_)
        have h := h S_5 eS_5
        refine lv_dup X.1 X.2.1 dX6_init_37 rfl ?_
        obtain ⟨o_7, h⟩ := h
        refine q2_callN (rest := [.ref (G.1 + E), .int x1, .ref (G.1 + 20)]) (b := E) X hK hN hP hS (c2_X3_init l G E S_5 _ o_7 h) mi_X3_init hN.2.2.2.1 dX6_init_38 rfl ⟨Nat.le_of_ble_eq_true rfl, Nat.le_of_ble_eq_true rfl⟩ hl.1 rfl (Nat.le_of_ble_eq_true rfl) ⟨show cells + 1 + 2 ≤ 77 by omega, show slots + 3 + 80 ≤ 2123 by omega⟩ (fun r_9 S_8 H locs h hP hS => ?_)
        refine W.eq (g2 := F0 m 41 ls [.ref (G.1 + E), .int x1, .ref (G.1 + 20)]) rfl ?_
        obtain ⟨o_10, h⟩ := h
        obtain ⟨o_11, h⟩ := h
        obtain ⟨o_12, h⟩ := h
        refine q2_aast X hK hP hS o_10 o_11 o_12 dX6_init_41 (fun S_13 H locs eS_13 hP hS => ?_)
        have h := h S_13 eS_13
        obtain ⟨x1_14, e1_14⟩ : ∃ y : Int32, y = x1 + 1 := ⟨_, rfl⟩
        have h := h x1_14 e1_14
        refine lv_iinc (v := x1_14) (lv' := [(1, .int x1_14), (0, .ref (G.1 + 19))]) X.1 X.2.1 dX6_init_42 hl (k := 1) rfl (by rw [e1_14]; first | rfl | decide) (by decide) rfl (fun ls hl => ?_)
        refine lv_goto (tgt := 23) X.1 X.2.1 dX6_init_45 (by decide) ?_
        exact hk23 (E + 3) x1_14 S_13 _ (lv_sub hl [1, 0] rfl) h _ _ _ _ (by omega) (by omega) hP hS
  refine lv_aload_n X.1 X.2.1 dX6_init_0 rfl (lv_at hl 0 rfl) ?_
  refine W.objInit X.1 X.2.1 X.2.2.2.1 (X.2.2.2.2 _ to_X6) (X.2.2.2.2 _ toi) (X.2.2.2.2 _ toc) rfl (by rw [X.2.2.1]; exact hl.1) rfl dX6_init_1 (Nat.le_of_ble_eq_true rfl) (Nat.le_of_ble_eq_true rfl) ?_
  refine W.eq (g2 := F0 m 4 ls []) rfl ?_
  refine lv_aload_n X.1 X.2.1 dX6_init_4 rfl (lv_at hl 0 rfl) ?_
  refine lv_bipush (v := 24) X.1 X.2.1 dX6_init_5 (by decide) ?_
  refine q2_newr X hK hN hP hS (by decide +kernel) tl_X6_9 (by decide) (by decide) (by decide) (show 0 + 1 ≤ 77 by omega) (show 0 + 24 ≤ 2123 by omega) dX6_init_7 (fun S_1 H eS_1 hP hS => ?_)
  have h := h S_1 eS_1
  refine q2_putF X hK hP hS 19 5 0 (C := RX6) (T := TX6) (N := 3) rfl in_X6 tyX6 tyX6_ok nmX6 (by decide +kernel) (by decide) tl_X6_11 rfl rfl hnm rfl (ty := (.array (.object "IdealBench$Poly"))) (by decide +kernel) rfl rfl (x := (nI 20)) (by simp [objF2, su, upd, q_or_nI (G := G) (b := 20) (by decide), va_rf]) (by simp [objF2]) dX6_init_10 (fun S_2 H locs eS_2 hP hS => ?_)
  have h := h S_2 eS_2
  refine lv_aload_n X.1 X.2.1 dX6_init_13 rfl (lv_at hl 0 rfl) ?_
  refine lv_bipush (v := 24) X.1 X.2.1 dX6_init_14 (by decide) ?_
  refine q2_newz X hK hP hS (by decide +kernel) ta_1 (by decide) (by decide) (by decide) (show 0 + 1 + 1 ≤ 77 by omega) (show 0 + 24 + 24 ≤ 2123 by omega) dX6_init_16 (fun S_3 H eS_3 hP hS => ?_)
  have h := h S_3 eS_3
  refine q2_putF X hK hP hS 19 5 1 (C := RX6) (T := TX6) (N := 3) rfl in_X6 tyX6 tyX6_ok nmX6 (by decide +kernel) (by decide) tl_X6_17 rfl rfl hnm rfl (ty := (.array .boolean)) (by decide +kernel) rfl rfl (x := (nI 21)) (by simp [objF2, su, upd, q_or_nI (G := G) (b := 21) (by decide), va_rf]) (by simp [objF2]) dX6_init_18 (fun S_4 H locs eS_4 hP hS => ?_)
  have h := h S_4 eS_4
  refine lv_iconst (v := 0) X.1 X.2.1 dX6_init_21 (by decide) ?_
  refine lv_istore_n (lv' := [(1, .int 0), (0, .ref (G.1 + 19))]) X.1 X.2.1 dX6_init_22 rfl hl (by decide) rfl (fun ls hl => ?_)
  exact B23 25 22 0 S_4 _ (lv_sub hl [1, 0] rfl) h _ _ _ _ (by omega) (by omega) hP hS

set_option maxHeartbeats 4000000 in
set_option maxRecDepth 100000 in
theorem c2_X4_init (l : Launch) (G : Cx) (S : St) (K : Unit → St → Prop) (h : w2_X4_init S K) : q_Met2 l yX4_init cX4_init 2 none 2 32 9 249 G [.ref (G.1 + 94), .ref (G.1 + 1)] v_v 95 104 S K := by
  refine q_enter2 (by decide +kernel) (Nat.le_of_ble_eq_true rfl) (fun p e s m args below meth c ls X hK hN hP hr hlocks hnm hl => ?_)
  have hS : va_S (fr_ G) s.heap s.heap [] := va_S.rf
  have hG : G.1 ≤ s.heap.size := by rw [hP.2]; exact Nat.le_add_right _ _
  have hl : lv_has ls 2 [(0, .ref (G.1 + 94)), (1, .ref (G.1 + 1))] := hl
  have hca : 0 + 9 ≤ 9 := by decide
  have hsa : 0 + 249 ≤ 249 := by decide
  refine lv_aload_n X.1 X.2.1 dX4_init_0 rfl (lv_at hl 0 rfl) ?_
  refine W.objInit X.1 X.2.1 X.2.2.2.1 (X.2.2.2.2 _ to_X4) (X.2.2.2.2 _ toi) (X.2.2.2.2 _ toc) rfl (by rw [X.2.2.1]; exact hl.1) rfl dX4_init_1 (Nat.le_of_ble_eq_true rfl) (Nat.le_of_ble_eq_true rfl) ?_
  refine W.eq (g2 := F0 m 4 ls []) rfl ?_
  refine lv_aload_n X.1 X.2.1 dX4_init_4 rfl (lv_at hl 0 rfl) ?_
  refine q2_new X hK hP hS hG (ci := 2) (C := RX3) (T := TX3) (N := 3) rfl in_X3 tyX3 tyX3_ok (by decide +kernel) fresh_2 (hfr_2 G _ _) tl_X4_9 ti_X3 tz_X3 (show 0 + 1 ≤ 9 by omega) (show 0 + 3 ≤ 249 by omega) dX4_init_5 (fun S_1 H eS_1 hP hS => ?_)
  have h := h S_1 eS_1
  refine lv_dup X.1 X.2.1 dX4_init_8 rfl ?_
  refine q2_callN (rest := [.ref (G.1 + 95), .ref (G.1 + 94)]) (b := 95) X hK hN hP hS (c2_X3_init l G 95 S_1 _ (by unfold isP; decide +kernel) h) mi_X3_init hN.2.2.2.2.1 dX4_init_9 rfl ⟨Nat.le_of_ble_eq_true rfl, Nat.le_of_ble_eq_true rfl⟩ hl.1 rfl (Nat.le_of_ble_eq_true rfl) ⟨show 0 + 1 + 2 ≤ 9 by omega, show 0 + 3 + 80 ≤ 249 by omega⟩ (fun r_3 S_2 H locs h hP hS => ?_)
  refine W.eq (g2 := F0 m 12 ls [.ref (G.1 + 95), .ref (G.1 + 94)]) rfl ?_
  refine q2_put X hK hP hS 94 3 1 (C := RX4) (T := TX4) (N := 7) rfl in_X4 tyX4 tyX4_ok nmX4 (by decide +kernel) (by decide) tl_X4_12 rfl rfl (ty := (.object "IdealBench$Poly")) (by decide +kernel) rfl rfl (x := (nI 95)) (by simp [objF2, su, upd, q_or_nI (G := G) (b := 95) (by decide), va_rf]) (by simp [objF2]) dX4_init_12 (fun S_4 H locs eS_4 hP hS => ?_)
  have h := h S_4 eS_4
  refine lv_aload_n X.1 X.2.1 dX4_init_15 rfl (lv_at hl 0 rfl) ?_
  refine q2_new X hK hP hS hG (ci := 2) (C := RX3) (T := TX3) (N := 3) rfl in_X3 tyX3 tyX3_ok (by decide +kernel) fresh_2 (hfr_2 G _ _) tl_X4_9 ti_X3 tz_X3 (show 0 + 1 + 2 + 1 ≤ 9 by omega) (show 0 + 3 + 80 + 3 ≤ 249 by omega) dX4_init_16 (fun S_5 H eS_5 hP hS => ?_)
  have h := h S_5 eS_5
  refine lv_dup X.1 X.2.1 dX4_init_19 rfl ?_
  refine q2_callN (rest := [.ref (G.1 + 98), .ref (G.1 + 94)]) (b := 98) X hK hN hP hS (c2_X3_init l G 98 S_5 _ (by unfold isP; decide +kernel) h) mi_X3_init hN.2.2.2.2.1 dX4_init_20 rfl ⟨Nat.le_of_ble_eq_true rfl, Nat.le_of_ble_eq_true rfl⟩ hl.1 rfl (Nat.le_of_ble_eq_true rfl) ⟨show 0 + 1 + 2 + 1 + 2 ≤ 9 by omega, show 0 + 3 + 80 + 3 + 80 ≤ 249 by omega⟩ (fun r_7 S_6 H locs h hP hS => ?_)
  refine W.eq (g2 := F0 m 23 ls [.ref (G.1 + 98), .ref (G.1 + 94)]) rfl ?_
  refine q2_put X hK hP hS 94 3 2 (C := RX4) (T := TX4) (N := 7) rfl in_X4 tyX4 tyX4_ok nmX4 (by decide +kernel) (by decide) tl_X4_18 rfl rfl (ty := (.object "IdealBench$Poly")) (by decide +kernel) rfl rfl (x := (nI 98)) (by simp [objF2, su, upd, q_or_nI (G := G) (b := 98) (by decide), va_rf]) (by simp [objF2]) dX4_init_23 (fun S_8 H locs eS_8 hP hS => ?_)
  have h := h S_8 eS_8
  refine lv_aload_n X.1 X.2.1 dX4_init_26 rfl (lv_at hl 0 rfl) ?_
  refine q2_new X hK hP hS hG (ci := 2) (C := RX3) (T := TX3) (N := 3) rfl in_X3 tyX3 tyX3_ok (by decide +kernel) fresh_2 (hfr_2 G _ _) tl_X4_9 ti_X3 tz_X3 (show 0 + 1 + 2 + 1 + 2 + 1 ≤ 9 by omega) (show 0 + 3 + 80 + 3 + 80 + 3 ≤ 249 by omega) dX4_init_27 (fun S_9 H eS_9 hP hS => ?_)
  have h := h S_9 eS_9
  refine lv_dup X.1 X.2.1 dX4_init_30 rfl ?_
  refine q2_callN (rest := [.ref (G.1 + 101), .ref (G.1 + 94)]) (b := 101) X hK hN hP hS (c2_X3_init l G 101 S_9 _ (by unfold isP; decide +kernel) h) mi_X3_init hN.2.2.2.2.1 dX4_init_31 rfl ⟨Nat.le_of_ble_eq_true rfl, Nat.le_of_ble_eq_true rfl⟩ hl.1 rfl (Nat.le_of_ble_eq_true rfl) ⟨show 0 + 1 + 2 + 1 + 2 + 1 + 2 ≤ 9 by omega, show 0 + 3 + 80 + 3 + 80 + 3 + 80 ≤ 249 by omega⟩ (fun r_11 S_10 H locs h hP hS => ?_)
  refine W.eq (g2 := F0 m 34 ls [.ref (G.1 + 101), .ref (G.1 + 94)]) rfl ?_
  refine q2_putF X hK hP hS 94 3 3 (C := RX4) (T := TX4) (N := 7) rfl in_X4 tyX4 tyX4_ok nmX4 (by decide +kernel) (by decide) tl_X4_21 rfl rfl hnm rfl (ty := (.object "IdealBench$Poly")) (by decide +kernel) rfl rfl (x := (nI 101)) (by simp [objF2, su, upd, q_or_nI (G := G) (b := 101) (by decide), va_rf]) (by simp [objF2]) dX4_init_34 (fun S_12 H locs eS_12 hP hS => ?_)
  have h := h S_12 eS_12
  refine lv_aload_n X.1 X.2.1 dX4_init_37 rfl (lv_at hl 0 rfl) ?_
  refine lv_sipush (v := 500) X.1 X.2.1 dX4_init_38 (by decide) ?_
  refine q2_put X hK hP hS 94 3 4 (C := RX4) (T := TX4) (N := 7) rfl in_X4 tyX4 tyX4_ok nmX4 (by decide +kernel) (by decide) tl_X4_24 rfl rfl (ty := .int) (by decide +kernel) rfl rfl (x := 500) (by simp [objF2, su, upd]) (by simp [objF2]) dX4_init_41 (fun S_13 H locs eS_13 hP hS => ?_)
  have h := h S_13 eS_13
  refine lv_aload_n X.1 X.2.1 dX4_init_44 rfl (lv_at hl 0 rfl) ?_
  refine lv_aload_n X.1 X.2.1 dX4_init_45 rfl (lv_at hl 1 rfl) ?_
  refine q2_putF X hK hP hS 94 3 0 (C := RX4) (T := TX4) (N := 7) rfl in_X4 tyX4 tyX4_ok nmX4 (by decide +kernel) (by decide) tl_X4_28 rfl rfl hnm rfl (ty := (.object "IdealBench$Ring")) (by decide +kernel) rfl rfl (x := (nI 1)) (by simp [objF2, su, upd, q_or_nI (G := G) (b := 1) (by decide), va_rf]) (by simp [objF2]) dX4_init_46 (fun S_14 H locs eS_14 hP hS => ?_)
  have h := h S_14 eS_14
  exact q2_vret X hr hlocks hP hS h (by omega) (by omega) dX4_init_49

set_option maxHeartbeats 4000000 in
set_option maxRecDepth 100000 in
theorem c2_X0_init (l : Launch) (G : Cx) (S : St) (K : Unit → St → Prop) (h : w2_X0_init S K) : q_Met2 l yX0_init cX0_init 4 none 2 32 123 3600 G [.ref (G.1 + 104), .ref (G.1 + 1), .ref (G.1 + 94)] v_v 105 222 S K := by
  refine q_enter2 (by decide +kernel) (Nat.le_of_ble_eq_true rfl) (fun p e s m args below meth c ls X hK hN hP hr hlocks hnm hl => ?_)
  have hS : va_S (fr_ G) s.heap s.heap [] := va_S.rf
  have hG : G.1 ≤ s.heap.size := by rw [hP.2]; exact Nat.le_add_right _ _
  have hl : lv_has ls 4 [(0, .ref (G.1 + 104)), (1, .ref (G.1 + 1)), (2, .ref (G.1 + 94))] := hl
  have hca : 0 + 123 ≤ 123 := by decide
  have hsa : 0 + 3600 ≤ 3600 := by decide
  have B64 : ∀ (f : Nat) (E : Nat) (x3 : Int32) (S : St) (ls : Array Slot), lv_has ls 4 [(0, .ref (G.1 + 104)), (3, .int x3)] → q_it (fun _ _ _ => False) (w2_X0_init_64 K) f E x3 S → q_W2 p l e (q_rm 2 32 123 3600) s m args below meth c 123 3600 (6 * f) (166 * f) (MQ below (q_Qc2 G 222 K v_v) args s 123 3600 (fr_ G)) G 64 ls [] E S := by
    intro f
    induction f with
    | zero => intro E x3 S ls hl h; exact False.elim h
    | succ f hk64 =>
      intro E x3 S ls hl h H locs cells slots hca hsa hP hS
      have h : w2_X0_init_64 K (q_it (fun _ _ _ => False) (w2_X0_init_64 K) f) E x3 S := h
      generalize q_it (fun _ _ _ => False) (w2_X0_init_64 K) f = k64 at h hk64
      refine lv_iload_n X.1 X.2.1 dX0_init_64 rfl (lv_at hl 1 rfl) ?_
      refine lv_bipush (v := 18) X.1 X.2.1 dX0_init_65 (by decide) ?_
      refine lv_icmp_ge (tgt := 102) X.1 X.2.1 dX0_init_67 (by decide) (fun c_1 => ?_) (fun c_1 => ?_)
      · have h := h.1 c_1
        obtain ⟨o_2, h⟩ := h
        rw [o_2] at hP
        exact q2_vret X hr hlocks hP hS h (by omega) (by omega) dX0_init_102
      · have h := h.2 c_1
        refine lv_aload_n X.1 X.2.1 dX0_init_70 rfl (lv_at hl 0 rfl) ?_
        obtain ⟨o_3, h⟩ := h
        obtain ⟨o_4, h⟩ := h
        refine q2_get (v := .ref (G.1 + 108)) X hK hP 104 0 3 (C := RX0) (T := TX0) (N := 15) rfl in_X0 o_3 (by decide) tl_X0_20 rfl (by show some (va_rf (q_or G (S 104 3))) = _; rw [o_4, q_or_nI (by decide)]; rfl) dX0_init_71 ?_
        refine lv_iload_n X.1 X.2.1 dX0_init_74 rfl (lv_at hl 1 rfl) ?_
        obtain ⟨o_6, h⟩ := h
        refine q2_new X hK hP hS hG (ci := 2) (C := RX3) (T := TX3) (N := 3) rfl in_X3 tyX3 tyX3_ok o_6 fresh_2 (hfr_2 G _ _) tl_X0_18 ti_X3 tz_X3 (show cells + 1 ≤ 123 by omega) (show slots + 3 ≤ 3600 by omega) dX0_init_75 (fun S_5 H eS_5 hP hS => ?_)
        have h := h S_5 eS_5
        refine lv_dup X.1 X.2.1 dX0_init_78 rfl ?_
        obtain ⟨o_7, h⟩ := h
        refine q2_callN (rest := [.ref (G.1 + E), .int x3, .ref (G.1 + 108)]) (b := E) X hK hN hP hS (c2_X3_init l G E S_5 _ o_7 h) mi_X3_init hN.2.2.2.2.2.2 dX0_init_79 rfl ⟨Nat.le_of_ble_eq_true rfl, Nat.le_of_ble_eq_true rfl⟩ hl.1 rfl (Nat.le_of_ble_eq_true rfl) ⟨show cells + 1 + 2 ≤ 123 by omega, show slots + 3 + 80 ≤ 3600 by omega⟩ (fun r_9 S_8 H locs h hP hS => ?_)
        refine W.eq (g2 := F0 m 82 ls [.ref (G.1 + E), .int x3, .ref (G.1 + 108)]) rfl ?_
        obtain ⟨o_10, h⟩ := h
        obtain ⟨o_11, h⟩ := h
        obtain ⟨o_12, h⟩ := h
        refine q2_aast X hK hP hS o_10 o_11 o_12 dX0_init_82 (fun S_13 H locs eS_13 hP hS => ?_)
        have h := h S_13 eS_13
        refine lv_aload_n X.1 X.2.1 dX0_init_83 rfl (lv_at hl 0 rfl) ?_
        obtain ⟨o_14, h⟩ := h
        obtain ⟨o_15, h⟩ := h
        refine q2_get (v := .ref (G.1 + 109)) X hK hP 104 0 4 (C := RX0) (T := TX0) (N := 15) rfl in_X0 o_14 (by decide) tl_X0_24 rfl (by show some (va_rf (q_or G (S_13 104 4))) = _; rw [o_15, q_or_nI (by decide)]; rfl) dX0_init_84 ?_
        refine lv_iload_n X.1 X.2.1 dX0_init_87 rfl (lv_at hl 1 rfl) ?_
        obtain ⟨o_17, h⟩ := h
        refine q2_new X hK hP hS hG (ci := 2) (C := RX3) (T := TX3) (N := 3) rfl in_X3 tyX3 tyX3_ok o_17 fresh_2 (hfr_2 G _ _) tl_X0_18 ti_X3 tz_X3 (show cells + 1 + 2 + 1 ≤ 123 by omega) (show slots + 3 + 80 + 3 ≤ 3600 by omega) dX0_init_88 (fun S_16 H eS_16 hP hS => ?_)
        have h := h S_16 eS_16
        refine lv_dup X.1 X.2.1 dX0_init_91 rfl ?_
        obtain ⟨o_18, h⟩ := h
        refine q2_callN (rest := [.ref (G.1 + (E + 3)), .int x3, .ref (G.1 + 109)]) (b := (E + 3)) X hK hN hP hS (c2_X3_init l G (E + 3) S_16 _ o_18 h) mi_X3_init hN.2.2.2.2.2.2 dX0_init_92 rfl ⟨Nat.le_of_ble_eq_true rfl, Nat.le_of_ble_eq_true rfl⟩ hl.1 rfl (Nat.le_of_ble_eq_true rfl) ⟨show cells + 1 + 2 + 1 + 2 ≤ 123 by omega, show slots + 3 + 80 + 3 + 80 ≤ 3600 by omega⟩ (fun r_20 S_19 H locs h hP hS => ?_)
        refine W.eq (g2 := F0 m 95 ls [.ref (G.1 + (E + 3)), .int x3, .ref (G.1 + 109)]) rfl ?_
        obtain ⟨o_21, h⟩ := h
        obtain ⟨o_22, h⟩ := h
        refine q2_aast X hK hP hS o_21 o_22 o_12 dX0_init_95 (fun S_23 H locs eS_23 hP hS => ?_)
        have h := h S_23 eS_23
        obtain ⟨x3_24, e3_24⟩ : ∃ y : Int32, y = x3 + 1 := ⟨_, rfl⟩
        have h := h x3_24 e3_24
        refine lv_iinc (v := x3_24) (lv' := [(3, .int x3_24), (0, .ref (G.1 + 104))]) X.1 X.2.1 dX0_init_96 hl (k := 1) rfl (by rw [e3_24]; first | rfl | decide) (by decide) rfl (fun ls hl => ?_)
        refine lv_goto (tgt := 64) X.1 X.2.1 dX0_init_99 (by decide) ?_
        exact hk64 (E + 6) x3_24 S_23 _ (lv_sub hl [1, 0] rfl) h _ _ _ _ (by omega) (by omega) hP hS
  refine lv_aload_n X.1 X.2.1 dX0_init_0 rfl (lv_at hl 0 rfl) ?_
  refine W.objInit X.1 X.2.1 X.2.2.2.1 (X.2.2.2.2 _ to_X0) (X.2.2.2.2 _ toi) (X.2.2.2.2 _ toc) rfl (by rw [X.2.2.1]; exact hl.1) rfl dX0_init_1 (Nat.le_of_ble_eq_true rfl) (Nat.le_of_ble_eq_true rfl) ?_
  refine W.eq (g2 := F0 m 4 ls []) rfl ?_
  refine lv_aload_n X.1 X.2.1 dX0_init_4 rfl (lv_at hl 0 rfl) ?_
  refine q2_new X hK hP hS hG (ci := 1) (C := RX2) (T := TX2) (N := 3) rfl in_X2 tyX2 tyX2_ok (by decide +kernel) fresh_1 (hfr_1 G _ _) tl_X0_9 ti_X2 tz_X2 (show 0 + 1 ≤ 123 by omega) (show 0 + 3 ≤ 3600 by omega) dX0_init_5 (fun S_1 H eS_1 hP hS => ?_)
  have h := h S_1 eS_1
  refine lv_dup X.1 X.2.1 dX0_init_8 rfl ?_
  refine q2_callN (rest := [.ref (G.1 + 105), .ref (G.1 + 104)]) (b := 105) X hK hN hP hS (c2_X2_init l G S_1 _ h) mi_X2_init hN.2.2.2.2.2.1 dX0_init_9 rfl ⟨Nat.le_of_ble_eq_true rfl, Nat.le_of_ble_eq_true rfl⟩ hl.1 rfl (Nat.le_of_ble_eq_true rfl) ⟨show 0 + 1 + 2 ≤ 123 by omega, show 0 + 3 + 306 ≤ 3600 by omega⟩ (fun r_3 S_2 H locs h hP hS => ?_)
  refine W.eq (g2 := F0 m 12 ls [.ref (G.1 + 105), .ref (G.1 + 104)]) rfl ?_
  refine q2_putF X hK hP hS 104 0 2 (C := RX0) (T := TX0) (N := 15) rfl in_X0 tyX0 tyX0_ok nmX0 (by decide +kernel) (by decide) tl_X0_12 rfl rfl hnm rfl (ty := (.object "IdealBench$Pairs")) (by decide +kernel) rfl rfl (x := (nI 105)) (by simp [objF2, su, upd, q_or_nI (G := G) (b := 105) (by decide), va_rf]) (by simp [objF2]) dX0_init_12 (fun S_4 H locs eS_4 hP hS => ?_)
  have h := h S_4 eS_4
  refine lv_aload_n X.1 X.2.1 dX0_init_15 rfl (lv_at hl 0 rfl) ?_
  refine lv_bipush (v := 18) X.1 X.2.1 dX0_init_16 (by decide) ?_
  refine q2_newr X hK hN hP hS (by decide +kernel) tl_X0_18 (by decide) (by decide) (by decide) (show 0 + 1 + 2 + 1 ≤ 123 by omega) (show 0 + 3 + 306 + 18 ≤ 3600 by omega) dX0_init_18 (fun S_5 H eS_5 hP hS => ?_)
  have h := h S_5 eS_5
  refine q2_put X hK hP hS 104 0 3 (C := RX0) (T := TX0) (N := 15) rfl in_X0 tyX0 tyX0_ok nmX0 (by decide +kernel) (by decide) tl_X0_20 rfl rfl (ty := (.array (.object "IdealBench$Poly"))) (by decide +kernel) rfl rfl (x := (nI 108)) (by simp [objF2, su, upd, q_or_nI (G := G) (b := 108) (by decide), va_rf]) (by simp [objF2]) dX0_init_21 (fun S_6 H locs eS_6 hP hS => ?_)
  have h := h S_6 eS_6
  refine lv_aload_n X.1 X.2.1 dX0_init_24 rfl (lv_at hl 0 rfl) ?_
  refine lv_bipush (v := 18) X.1 X.2.1 dX0_init_25 (by decide) ?_
  refine q2_newr X hK hN hP hS (by decide +kernel) tl_X0_18 (by decide) (by decide) (by decide) (show 0 + 1 + 2 + 1 + 1 ≤ 123 by omega) (show 0 + 3 + 306 + 18 + 18 ≤ 3600 by omega) dX0_init_27 (fun S_7 H eS_7 hP hS => ?_)
  have h := h S_7 eS_7
  refine q2_put X hK hP hS 104 0 4 (C := RX0) (T := TX0) (N := 15) rfl in_X0 tyX0 tyX0_ok nmX0 (by decide +kernel) (by decide) tl_X0_24 rfl rfl (ty := (.array (.object "IdealBench$Poly"))) (by decide +kernel) rfl rfl (x := (nI 109)) (by simp [objF2, su, upd, q_or_nI (G := G) (b := 109) (by decide), va_rf]) (by simp [objF2]) dX0_init_30 (fun S_8 H locs eS_8 hP hS => ?_)
  have h := h S_8 eS_8
  refine lv_aload_n X.1 X.2.1 dX0_init_33 rfl (lv_at hl 0 rfl) ?_
  refine lv_bipush (v := 18) X.1 X.2.1 dX0_init_34 (by decide) ?_
  refine q2_newi X hK hP hS (by decide +kernel) ta_0 (by decide) (by decide) (by decide) (show 0 + 1 + 2 + 1 + 1 + 1 ≤ 123 by omega) (show 0 + 3 + 306 + 18 + 18 + 18 ≤ 3600 by omega) dX0_init_36 (fun S_9 H eS_9 hP hS => ?_)
  have h := h S_9 eS_9
  refine q2_putF X hK hP hS 104 0 5 (C := RX0) (T := TX0) (N := 15) rfl in_X0 tyX0 tyX0_ok nmX0 (by decide +kernel) (by decide) tl_X0_27 rfl rfl hnm rfl (ty := (.array .int)) (by decide +kernel) rfl rfl (x := (nI 110)) (by simp [objF2, su, upd, q_or_nI (G := G) (b := 110) (by decide), va_rf]) (by simp [objF2]) dX0_init_38 (fun S_10 H locs eS_10 hP hS => ?_)
  have h := h S_10 eS_10
  refine lv_aload_n X.1 X.2.1 dX0_init_41 rfl (lv_at hl 0 rfl) ?_
  refine q2_new X hK hP hS hG (ci := 2) (C := RX3) (T := TX3) (N := 3) rfl in_X3 tyX3 tyX3_ok (by decide +kernel) fresh_2 (hfr_2 G _ _) tl_X0_18 ti_X3 tz_X3 (show 0 + 1 + 2 + 1 + 1 + 1 + 1 ≤ 123 by omega) (show 0 + 3 + 306 + 18 + 18 + 18 + 3 ≤ 3600 by omega) dX0_init_42 (fun S_11 H eS_11 hP hS => ?_)
  have h := h S_11 eS_11
  refine lv_dup X.1 X.2.1 dX0_init_45 rfl ?_
  refine q2_callN (rest := [.ref (G.1 + 111), .ref (G.1 + 104)]) (b := 111) X hK hN hP hS (c2_X3_init l G 111 S_11 _ (by unfold isP; decide +kernel) h) mi_X3_init hN.2.2.2.2.2.2 dX0_init_46 rfl ⟨Nat.le_of_ble_eq_true rfl, Nat.le_of_ble_eq_true rfl⟩ hl.1 rfl (Nat.le_of_ble_eq_true rfl) ⟨show 0 + 1 + 2 + 1 + 1 + 1 + 1 + 2 ≤ 123 by omega, show 0 + 3 + 306 + 18 + 18 + 18 + 3 + 80 ≤ 3600 by omega⟩ (fun r_13 S_12 H locs h hP hS => ?_)
  refine W.eq (g2 := F0 m 49 ls [.ref (G.1 + 111), .ref (G.1 + 104)]) rfl ?_
  refine q2_putF X hK hP hS 104 0 6 (C := RX0) (T := TX0) (N := 15) rfl in_X0 tyX0 tyX0_ok nmX0 (by decide +kernel) (by decide) tl_X0_32 rfl rfl hnm rfl (ty := (.object "IdealBench$Poly")) (by decide +kernel) rfl rfl (x := (nI 111)) (by simp [objF2, su, upd, q_or_nI (G := G) (b := 111) (by decide), va_rf]) (by simp [objF2]) dX0_init_49 (fun S_14 H locs eS_14 hP hS => ?_)
  have h := h S_14 eS_14
  refine lv_aload_n X.1 X.2.1 dX0_init_52 rfl (lv_at hl 0 rfl) ?_
  refine lv_aload_n X.1 X.2.1 dX0_init_53 rfl (lv_at hl 1 rfl) ?_
  refine q2_putF X hK hP hS 104 0 0 (C := RX0) (T := TX0) (N := 15) rfl in_X0 tyX0 tyX0_ok nmX0 (by decide +kernel) (by decide) tl_X0_36 rfl rfl hnm rfl (ty := (.object "IdealBench$Ring")) (by decide +kernel) rfl rfl (x := (nI 1)) (by simp [objF2, su, upd, q_or_nI (G := G) (b := 1) (by decide), va_rf]) (by simp [objF2]) dX0_init_54 (fun S_15 H locs eS_15 hP hS => ?_)
  have h := h S_15 eS_15
  refine lv_aload_n X.1 X.2.1 dX0_init_57 rfl (lv_at hl 0 rfl) ?_
  refine lv_aload_n X.1 X.2.1 dX0_init_58 rfl (lv_at hl 2 rfl) ?_
  refine q2_putF X hK hP hS 104 0 1 (C := RX0) (T := TX0) (N := 15) rfl in_X0 tyX0 tyX0_ok nmX0 (by decide +kernel) (by decide) tl_X0_40 rfl rfl hnm rfl (ty := (.object "IdealBench$Reduce\x72")) (by decide +kernel) rfl rfl (x := (nI 94)) (by simp [objF2, su, upd, q_or_nI (G := G) (b := 94) (by decide), va_rf]) (by simp [objF2]) dX0_init_59 (fun S_16 H locs eS_16 hP hS => ?_)
  have h := h S_16 eS_16
  refine lv_iconst (v := 0) X.1 X.2.1 dX0_init_62 (by decide) ?_
  refine lv_istore_n (lv' := [(3, .int 0), (0, .ref (G.1 + 104)), (1, .ref (G.1 + 1)), (2, .ref (G.1 + 94))]) X.1 X.2.1 dX0_init_63 rfl hl (by decide) rfl (fun ls hl => ?_)
  exact B64 19 114 0 S_16 _ (lv_sub hl [1, 0] rfl) h _ _ _ _ (by omega) (by omega) hP hS

set_option maxHeartbeats 4000000 in
set_option maxRecDepth 100000 in
theorem c2_X7_init (l : Launch) (G : Cx) (S : St) (K : Unit → St → Prop) (h : w2_X7_init S K) : q_Met2 l yX7_init cX7_init 3 none 1 12 1 300 G [.ref (G.1 + 222), .ref (G.1 + 1), .ref (G.1 + 104)] v_v 223 224 S K := by
  refine q_enter2 (by decide +kernel) (Nat.le_of_ble_eq_true rfl) (fun p e s m args below meth c ls X hK hN hP hr hlocks hnm hl => ?_)
  have hS : va_S (fr_ G) s.heap s.heap [] := va_S.rf
  have hG : G.1 ≤ s.heap.size := by rw [hP.2]; exact Nat.le_add_right _ _
  have hl : lv_has ls 3 [(0, .ref (G.1 + 222)), (1, .ref (G.1 + 1)), (2, .ref (G.1 + 104))] := hl
  have hca : 0 + 1 ≤ 1 := by decide
  have hsa : 0 + 300 ≤ 300 := by decide
  refine lv_aload_n X.1 X.2.1 dX7_init_0 rfl (lv_at hl 0 rfl) ?_
  refine W.objInit X.1 X.2.1 X.2.2.2.1 (X.2.2.2.2 _ to_X7) (X.2.2.2.2 _ toi) (X.2.2.2.2 _ toc) rfl (by rw [X.2.2.1]; exact hl.1) rfl dX7_init_1 (Nat.le_of_ble_eq_true rfl) (Nat.le_of_ble_eq_true rfl) ?_
  refine W.eq (g2 := F0 m 4 ls []) rfl ?_
  refine lv_aload_n X.1 X.2.1 dX7_init_4 rfl (lv_at hl 0 rfl) ?_
  refine lv_sipush (v := 300) X.1 X.2.1 dX7_init_5 (by decide) ?_
  refine q2_newi X hK hP hS (by decide +kernel) ta_0 (by decide) (by decide) (by decide) (show 0 + 1 ≤ 1 by omega) (show 0 + 300 ≤ 300 by omega) dX7_init_8 (fun S_1 H eS_1 hP hS => ?_)
  have h := h S_1 eS_1
  refine q2_putF X hK hP hS 222 6 2 (C := RX7) (T := TX7) (N := 3) rfl in_X7 tyX7 tyX7_ok nmX7 (by decide +kernel) (by decide) tl_X7_9 rfl rfl hnm rfl (ty := (.array .int)) (by decide +kernel) rfl rfl (x := (nI 223)) (by simp [objF2, su, upd, q_or_nI (G := G) (b := 223) (by decide), va_rf]) (by simp [objF2]) dX7_init_10 (fun S_2 H locs eS_2 hP hS => ?_)
  have h := h S_2 eS_2
  refine lv_aload_n X.1 X.2.1 dX7_init_13 rfl (lv_at hl 0 rfl) ?_
  refine lv_aload_n X.1 X.2.1 dX7_init_14 rfl (lv_at hl 1 rfl) ?_
  refine q2_putF X hK hP hS 222 6 0 (C := RX7) (T := TX7) (N := 3) rfl in_X7 tyX7 tyX7_ok nmX7 (by decide +kernel) (by decide) tl_X7_15 rfl rfl hnm rfl (ty := (.object "IdealBench$Ring")) (by decide +kernel) rfl rfl (x := (nI 1)) (by simp [objF2, su, upd, q_or_nI (G := G) (b := 1) (by decide), va_rf]) (by simp [objF2]) dX7_init_15 (fun S_3 H locs eS_3 hP hS => ?_)
  have h := h S_3 eS_3
  refine lv_aload_n X.1 X.2.1 dX7_init_18 rfl (lv_at hl 0 rfl) ?_
  refine lv_aload_n X.1 X.2.1 dX7_init_19 rfl (lv_at hl 2 rfl) ?_
  refine q2_putF X hK hP hS 222 6 1 (C := RX7) (T := TX7) (N := 3) rfl in_X7 tyX7 tyX7_ok nmX7 (by decide +kernel) (by decide) tl_X7_19 rfl rfl hnm rfl (ty := (.object "IdealBench$Basis")) (by decide +kernel) rfl rfl (x := (nI 104)) (by simp [objF2, su, upd, q_or_nI (G := G) (b := 104) (by decide), va_rf]) (by simp [objF2]) dX7_init_20 (fun S_4 H locs eS_4 hP hS => ?_)
  have h := h S_4 eS_4
  exact q2_vret X hr hlocks hP hS h (by omega) (by omega) dX7_init_23

set_option maxHeartbeats 4000000 in
set_option maxRecDepth 100000 in
theorem c2_X8_init (l : Launch) (G : Cx) (x1 : Int32) (x2 : Int32) (S : St) (K : Unit → St → Prop) (h : w2_X8_init x1 x2 S K) : q_Met2 l yX8_init cX8_init 3 none 3 55 232 6766 G [.ref (G.1 + 0), .int x1, .int x2] v_v 1 224 S K := by
  refine q_enter2 (by decide +kernel) (Nat.le_of_ble_eq_true rfl) (fun p e s m args below meth c ls X hK hN hP hr hlocks hnm hl => ?_)
  have hS : va_S (fr_ G) s.heap s.heap [] := va_S.rf
  have hG : G.1 ≤ s.heap.size := by rw [hP.2]; exact Nat.le_add_right _ _
  have hl : lv_has ls 3 [(0, .ref (G.1 + 0)), (1, .int x1), (2, .int x2)] := hl
  have hca : 0 + 232 ≤ 232 := by decide
  have hsa : 0 + 6766 ≤ 6766 := by decide
  have B37 : ∀ (z3 : Int32) (z4 : Int32) (S : St) (ls : Array Slot), lv_has ls 3 [(0, .ref (G.1 + 0))] → w2_X8_init_37 x1 x2 K z3 z4 S → q_W2 p l e (q_rm 3 55 232 6766) s m args below meth c 232 6766 (231) (6759) (MQ below (q_Qc2 G 224 K v_v) args s 232 6766 (fr_ G)) G 37 ls [.int z4, .int z3, .ref (G.1 + 1), .ref (G.1 + 1), .ref (G.1 + 0)] 2 S := by
    intro z3 z4 S ls hl h H locs cells slots hca hsa hP hS
    refine q2_callI (rest := [.ref (G.1 + 1), .ref (G.1 + 0)]) (b := 1) X hK hN hP hS (c2_X5_init l G z3 z4 S _ h) mi_X5_init tl_X8_15 dX8_init_37 rfl ⟨Nat.le_of_ble_eq_true rfl, Nat.le_of_ble_eq_true rfl⟩ hl.1 rfl (Nat.le_of_ble_eq_true rfl) ⟨show cells + 8 ≤ 232 by omega, show slots + 210 ≤ 6766 by omega⟩ (fun r_2 S_1 H locs h hP hS => ?_)
    refine W.eq (g2 := F0 m 40 ls [.ref (G.1 + 1), .ref (G.1 + 0)]) rfl ?_
    refine q2_putF X hK hP hS 0 7 0 (C := RX8) (T := TX8) (N := 8) rfl in_X8 tyX8 tyX8_ok nmX8 (by decide +kernel) (by decide) tl_X8_18 rfl rfl hnm rfl (ty := (.object "IdealBench$Ring")) (by decide +kernel) rfl rfl (x := (nI 1)) (by simp [objF2, su, upd, q_or_nI (G := G) (b := 1) (by decide), va_rf]) (by simp [objF2]) dX8_init_40 (fun S_3 H locs eS_3 hP hS => ?_)
    have h := h S_3 eS_3
    refine lv_aload_n X.1 X.2.1 dX8_init_43 rfl (lv_at hl 0 rfl) ?_
    refine q2_new X hK hP hS hG (ci := 2) (C := RX3) (T := TX3) (N := 3) rfl in_X3 tyX3 tyX3_ok (by decide +kernel) fresh_2 (hfr_2 G _ _) tl_X8_22 ti_X3 tz_X3 (show cells + 8 + 1 ≤ 232 by omega) (show slots + 210 + 3 ≤ 6766 by omega) dX8_init_44 (fun S_4 H eS_4 hP hS => ?_)
    have h := h S_4 eS_4
    refine lv_dup X.1 X.2.1 dX8_init_47 rfl ?_
    refine q2_callN (rest := [.ref (G.1 + 10), .ref (G.1 + 0)]) (b := 10) X hK hN hP hS (c2_X3_init l G 10 S_4 _ (by unfold isP; decide +kernel) h) mi_X3_init hN.2.2.1 dX8_init_48 rfl ⟨Nat.le_of_ble_eq_true rfl, Nat.le_of_ble_eq_true rfl⟩ hl.1 rfl (Nat.le_of_ble_eq_true rfl) ⟨show cells + 8 + 1 + 2 ≤ 232 by omega, show slots + 210 + 3 + 80 ≤ 6766 by omega⟩ (fun r_6 S_5 H locs h hP hS => ?_)
    refine W.eq (g2 := F0 m 51 ls [.ref (G.1 + 10), .ref (G.1 + 0)]) rfl ?_
    refine q2_putF X hK hP hS 0 7 1 (C := RX8) (T := TX8) (N := 8) rfl in_X8 tyX8 tyX8_ok nmX8 (by decide +kernel) (by decide) tl_X8_25 rfl rfl hnm rfl (ty := (.object "IdealBench$Poly")) (by decide +kernel) rfl rfl (x := (nI 10)) (by simp [objF2, su, upd, q_or_nI (G := G) (b := 10) (by decide), va_rf]) (by simp [objF2]) dX8_init_51 (fun S_7 H locs eS_7 hP hS => ?_)
    have h := h S_7 eS_7
    refine lv_aload_n X.1 X.2.1 dX8_init_54 rfl (lv_at hl 0 rfl) ?_
    refine q2_new X hK hP hS hG (ci := 2) (C := RX3) (T := TX3) (N := 3) rfl in_X3 tyX3 tyX3_ok (by decide +kernel) fresh_2 (hfr_2 G _ _) tl_X8_22 ti_X3 tz_X3 (show cells + 8 + 1 + 2 + 1 ≤ 232 by omega) (show slots + 210 + 3 + 80 + 3 ≤ 6766 by omega) dX8_init_55 (fun S_8 H eS_8 hP hS => ?_)
    have h := h S_8 eS_8
    refine lv_dup X.1 X.2.1 dX8_init_58 rfl ?_
    refine q2_callN (rest := [.ref (G.1 + 13), .ref (G.1 + 0)]) (b := 13) X hK hN hP hS (c2_X3_init l G 13 S_8 _ (by unfold isP; decide +kernel) h) mi_X3_init hN.2.2.1 dX8_init_59 rfl ⟨Nat.le_of_ble_eq_true rfl, Nat.le_of_ble_eq_true rfl⟩ hl.1 rfl (Nat.le_of_ble_eq_true rfl) ⟨show cells + 8 + 1 + 2 + 1 + 2 ≤ 232 by omega, show slots + 210 + 3 + 80 + 3 + 80 ≤ 6766 by omega⟩ (fun r_10 S_9 H locs h hP hS => ?_)
    refine W.eq (g2 := F0 m 62 ls [.ref (G.1 + 13), .ref (G.1 + 0)]) rfl ?_
    refine q2_putF X hK hP hS 0 7 2 (C := RX8) (T := TX8) (N := 8) rfl in_X8 tyX8 tyX8_ok nmX8 (by decide +kernel) (by decide) tl_X8_29 rfl rfl hnm rfl (ty := (.object "IdealBench$Poly")) (by decide +kernel) rfl rfl (x := (nI 13)) (by simp [objF2, su, upd, q_or_nI (G := G) (b := 13) (by decide), va_rf]) (by simp [objF2]) dX8_init_62 (fun S_11 H locs eS_11 hP hS => ?_)
    have h := h S_11 eS_11
    refine lv_aload_n X.1 X.2.1 dX8_init_65 rfl (lv_at hl 0 rfl) ?_
    obtain ⟨o_12, h⟩ := h
    refine q2_get (v := .ref (G.1 + 13)) X hK hP 0 7 2 (C := RX8) (T := TX8) (N := 8) rfl in_X8 (by decide +kernel) (by decide) tl_X8_29 rfl (by show some (va_rf (q_or G (S_11 0 2))) = _; rw [o_12, q_or_nI (by decide)]; rfl) dX8_init_66 ?_
    refine lv_iconst (v := 1) X.1 X.2.1 dX8_init_69 (by decide) ?_
    refine lv_iconst (v := 0) X.1 X.2.1 dX8_init_70 (by decide) ?_
    refine q2_callV (rest := []) (b := 13) (ci := 2) X hK hN hP hS (c2_X3_push l G 1 0 S_11 _ h) my_X3_push tl_X8_32 dX8_init_71 (by decide +kernel) rfl rfl rfl ⟨Nat.le_of_ble_eq_true rfl, Nat.le_of_ble_eq_true rfl⟩ hl.1 rfl (Nat.le_of_ble_eq_true rfl) ⟨show cells + 8 + 1 + 2 + 1 + 2 + 0 ≤ 232 by omega, show slots + 210 + 3 + 80 + 3 + 80 + 0 ≤ 6766 by omega⟩ (fun r_14 S_13 H locs h hP hS => ?_)
    refine W.eq (g2 := F0 m 74 ls [.int r_14]) rfl ?_
    refine lv_pop X.1 X.2.1 dX8_init_74 rfl ?_
    refine lv_aload_n X.1 X.2.1 dX8_init_75 rfl (lv_at hl 0 rfl) ?_
    refine q2_new X hK hP hS hG (ci := 2) (C := RX3) (T := TX3) (N := 3) rfl in_X3 tyX3 tyX3_ok (by decide +kernel) fresh_2 (hfr_2 G _ _) tl_X8_22 ti_X3 tz_X3 (show cells + 8 + 1 + 2 + 1 + 2 + 0 + 1 ≤ 232 by omega) (show slots + 210 + 3 + 80 + 3 + 80 + 0 + 3 ≤ 6766 by omega) dX8_init_76 (fun S_15 H eS_15 hP hS => ?_)
    have h := h S_15 eS_15
    refine lv_dup X.1 X.2.1 dX8_init_79 rfl ?_
    refine q2_callN (rest := [.ref (G.1 + 16), .ref (G.1 + 0)]) (b := 16) X hK hN hP hS (c2_X3_init l G 16 S_15 _ (by unfold isP; decide +kernel) h) mi_X3_init hN.2.2.1 dX8_init_80 rfl ⟨Nat.le_of_ble_eq_true rfl, Nat.le_of_ble_eq_true rfl⟩ hl.1 rfl (Nat.le_of_ble_eq_true rfl) ⟨show cells + 8 + 1 + 2 + 1 + 2 + 0 + 1 + 2 ≤ 232 by omega, show slots + 210 + 3 + 80 + 3 + 80 + 0 + 3 + 80 ≤ 6766 by omega⟩ (fun r_17 S_16 H locs h hP hS => ?_)
    refine W.eq (g2 := F0 m 83 ls [.ref (G.1 + 16), .ref (G.1 + 0)]) rfl ?_
    refine q2_putF X hK hP hS 0 7 3 (C := RX8) (T := TX8) (N := 8) rfl in_X8 tyX8 tyX8_ok nmX8 (by decide +kernel) (by decide) tl_X8_36 rfl rfl hnm rfl (ty := (.object "IdealBench$Poly")) (by decide +kernel) rfl rfl (x := (nI 16)) (by simp [objF2, su, upd, q_or_nI (G := G) (b := 16) (by decide), va_rf]) (by simp [objF2]) dX8_init_83 (fun S_18 H locs eS_18 hP hS => ?_)
    have h := h S_18 eS_18
    refine lv_aload_n X.1 X.2.1 dX8_init_86 rfl (lv_at hl 0 rfl) ?_
    refine q2_new X hK hP hS hG (ci := 5) (C := RX6) (T := TX6) (N := 3) rfl in_X6 tyX6 tyX6_ok (by decide +kernel) fresh_5 (hfr_5 G _ _) tl_X8_39 ti_X6 tz_X6 (show cells + 8 + 1 + 2 + 1 + 2 + 0 + 1 + 2 + 1 ≤ 232 by omega) (show slots + 210 + 3 + 80 + 3 + 80 + 0 + 3 + 80 + 3 ≤ 6766 by omega) dX8_init_87 (fun S_19 H eS_19 hP hS => ?_)
    have h := h S_19 eS_19
    refine lv_dup X.1 X.2.1 dX8_init_90 rfl ?_
    refine q2_callI (rest := [.ref (G.1 + 19), .ref (G.1 + 0)]) (b := 19) X hK hN hP hS (c2_X6_init l G S_19 _ h) mi_X6_init tl_X8_41 dX8_init_91 rfl ⟨Nat.le_of_ble_eq_true rfl, Nat.le_of_ble_eq_true rfl⟩ hl.1 rfl (Nat.le_of_ble_eq_true rfl) ⟨show cells + 8 + 1 + 2 + 1 + 2 + 0 + 1 + 2 + 1 + 77 ≤ 232 by omega, show slots + 210 + 3 + 80 + 3 + 80 + 0 + 3 + 80 + 3 + 2123 ≤ 6766 by omega⟩ (fun r_21 S_20 H locs h hP hS => ?_)
    refine W.eq (g2 := F0 m 94 ls [.ref (G.1 + 19), .ref (G.1 + 0)]) rfl ?_
    refine q2_putF X hK hP hS 0 7 4 (C := RX8) (T := TX8) (N := 8) rfl in_X8 tyX8 tyX8_ok nmX8 (by decide +kernel) (by decide) tl_X8_42 rfl rfl hnm rfl (ty := (.object "IdealBench$Shelf")) (by decide +kernel) rfl rfl (x := (nI 19)) (by simp [objF2, su, upd, q_or_nI (G := G) (b := 19) (by decide), va_rf]) (by simp [objF2]) dX8_init_94 (fun S_22 H locs eS_22 hP hS => ?_)
    have h := h S_22 eS_22
    refine lv_aload_n X.1 X.2.1 dX8_init_97 rfl (lv_at hl 0 rfl) ?_
    refine q2_new X hK hP hS hG (ci := 3) (C := RX4) (T := TX4) (N := 7) rfl in_X4 tyX4 tyX4_ok (by decide +kernel) fresh_3 (hfr_3 G _ _) tl_X8_46 ti_X4 tz_X4 (show cells + 8 + 1 + 2 + 1 + 2 + 0 + 1 + 2 + 1 + 77 + 1 ≤ 232 by omega) (show slots + 210 + 3 + 80 + 3 + 80 + 0 + 3 + 80 + 3 + 2123 + 7 ≤ 6766 by omega) dX8_init_98 (fun S_23 H eS_23 hP hS => ?_)
    have h := h S_23 eS_23
    refine lv_dup X.1 X.2.1 dX8_init_101 rfl ?_
    refine lv_aload_n X.1 X.2.1 dX8_init_102 rfl (lv_at hl 0 rfl) ?_
    obtain ⟨o_24, h⟩ := h
    refine q2_get (v := .ref (G.1 + 1)) X hK hP 0 7 0 (C := RX8) (T := TX8) (N := 8) rfl in_X8 (by decide +kernel) (by decide) tl_X8_18 rfl (by show some (va_rf (q_or G (S_23 0 0))) = _; rw [o_24, q_or_nI (by decide)]; rfl) dX8_init_103 ?_
    refine q2_callI (rest := [.ref (G.1 + 94), .ref (G.1 + 0)]) (b := 94) X hK hN hP hS (c2_X4_init l G S_23 _ h) mi_X4_init tl_X8_48 dX8_init_106 rfl ⟨Nat.le_of_ble_eq_true rfl, Nat.le_of_ble_eq_true rfl⟩ hl.1 rfl (Nat.le_of_ble_eq_true rfl) ⟨show cells + 8 + 1 + 2 + 1 + 2 + 0 + 1 + 2 + 1 + 77 + 1 + 9 ≤ 232 by omega, show slots + 210 + 3 + 80 + 3 + 80 + 0 + 3 + 80 + 3 + 2123 + 7 + 249 ≤ 6766 by omega⟩ (fun r_26 S_25 H locs h hP hS => ?_)
    refine W.eq (g2 := F0 m 109 ls [.ref (G.1 + 94), .ref (G.1 + 0)]) rfl ?_
    refine q2_putF X hK hP hS 0 7 5 (C := RX8) (T := TX8) (N := 8) rfl in_X8 tyX8 tyX8_ok nmX8 (by decide +kernel) (by decide) tl_X8_51 rfl rfl hnm rfl (ty := (.object "IdealBench$Reduce\x72")) (by decide +kernel) rfl rfl (x := (nI 94)) (by simp [objF2, su, upd, q_or_nI (G := G) (b := 94) (by decide), va_rf]) (by simp [objF2]) dX8_init_109 (fun S_27 H locs eS_27 hP hS => ?_)
    have h := h S_27 eS_27
    refine lv_aload_n X.1 X.2.1 dX8_init_112 rfl (lv_at hl 0 rfl) ?_
    refine q2_new X hK hP hS hG (ci := 0) (C := RX0) (T := TX0) (N := 15) rfl in_X0 tyX0 tyX0_ok (by decide +kernel) fresh_0 (hfr_0 G _ _) tl_X8_55 ti_X0 tz_X0 (show cells + 8 + 1 + 2 + 1 + 2 + 0 + 1 + 2 + 1 + 77 + 1 + 9 + 1 ≤ 232 by omega) (show slots + 210 + 3 + 80 + 3 + 80 + 0 + 3 + 80 + 3 + 2123 + 7 + 249 + 15 ≤ 6766 by omega) dX8_init_113 (fun S_28 H eS_28 hP hS => ?_)
    have h := h S_28 eS_28
    refine lv_dup X.1 X.2.1 dX8_init_116 rfl ?_
    refine lv_aload_n X.1 X.2.1 dX8_init_117 rfl (lv_at hl 0 rfl) ?_
    obtain ⟨o_29, h⟩ := h
    refine q2_get (v := .ref (G.1 + 1)) X hK hP 0 7 0 (C := RX8) (T := TX8) (N := 8) rfl in_X8 (by decide +kernel) (by decide) tl_X8_18 rfl (by show some (va_rf (q_or G (S_28 0 0))) = _; rw [o_29, q_or_nI (by decide)]; rfl) dX8_init_118 ?_
    refine lv_aload_n X.1 X.2.1 dX8_init_121 rfl (lv_at hl 0 rfl) ?_
    obtain ⟨o_30, h⟩ := h
    refine q2_get (v := .ref (G.1 + 94)) X hK hP 0 7 5 (C := RX8) (T := TX8) (N := 8) rfl in_X8 (by decide +kernel) (by decide) tl_X8_51 rfl (by show some (va_rf (q_or G (S_28 0 5))) = _; rw [o_30, q_or_nI (by decide)]; rfl) dX8_init_122 ?_
    refine q2_callI (rest := [.ref (G.1 + 104), .ref (G.1 + 0)]) (b := 104) X hK hN hP hS (c2_X0_init l G S_28 _ h) mi_X0_init tl_X8_57 dX8_init_125 rfl ⟨Nat.le_of_ble_eq_true rfl, Nat.le_of_ble_eq_true rfl⟩ hl.1 rfl (Nat.le_of_ble_eq_true rfl) ⟨show cells + 8 + 1 + 2 + 1 + 2 + 0 + 1 + 2 + 1 + 77 + 1 + 9 + 1 + 123 ≤ 232 by omega, show slots + 210 + 3 + 80 + 3 + 80 + 0 + 3 + 80 + 3 + 2123 + 7 + 249 + 15 + 3600 ≤ 6766 by omega⟩ (fun r_32 S_31 H locs h hP hS => ?_)
    refine W.eq (g2 := F0 m 128 ls [.ref (G.1 + 104), .ref (G.1 + 0)]) rfl ?_
    refine q2_putF X hK hP hS 0 7 6 (C := RX8) (T := TX8) (N := 8) rfl in_X8 tyX8 tyX8_ok nmX8 (by decide +kernel) (by decide) tl_X8_60 rfl rfl hnm rfl (ty := (.object "IdealBench$Basis")) (by decide +kernel) rfl rfl (x := (nI 104)) (by simp [objF2, su, upd, q_or_nI (G := G) (b := 104) (by decide), va_rf]) (by simp [objF2]) dX8_init_128 (fun S_33 H locs eS_33 hP hS => ?_)
    have h := h S_33 eS_33
    refine lv_aload_n X.1 X.2.1 dX8_init_131 rfl (lv_at hl 0 rfl) ?_
    refine q2_new X hK hP hS hG (ci := 6) (C := RX7) (T := TX7) (N := 3) rfl in_X7 tyX7 tyX7_ok (by decide +kernel) fresh_6 (hfr_6 G _ _) tl_X8_64 ti_X7 tz_X7 (show cells + 8 + 1 + 2 + 1 + 2 + 0 + 1 + 2 + 1 + 77 + 1 + 9 + 1 + 123 + 1 ≤ 232 by omega) (show slots + 210 + 3 + 80 + 3 + 80 + 0 + 3 + 80 + 3 + 2123 + 7 + 249 + 15 + 3600 + 3 ≤ 6766 by omega) dX8_init_132 (fun S_34 H eS_34 hP hS => ?_)
    have h := h S_34 eS_34
    refine lv_dup X.1 X.2.1 dX8_init_135 rfl ?_
    refine lv_aload_n X.1 X.2.1 dX8_init_136 rfl (lv_at hl 0 rfl) ?_
    obtain ⟨o_35, h⟩ := h
    refine q2_get (v := .ref (G.1 + 1)) X hK hP 0 7 0 (C := RX8) (T := TX8) (N := 8) rfl in_X8 (by decide +kernel) (by decide) tl_X8_18 rfl (by show some (va_rf (q_or G (S_34 0 0))) = _; rw [o_35, q_or_nI (by decide)]; rfl) dX8_init_137 ?_
    refine lv_aload_n X.1 X.2.1 dX8_init_140 rfl (lv_at hl 0 rfl) ?_
    obtain ⟨o_36, h⟩ := h
    refine q2_get (v := .ref (G.1 + 104)) X hK hP 0 7 6 (C := RX8) (T := TX8) (N := 8) rfl in_X8 (by decide +kernel) (by decide) tl_X8_60 rfl (by show some (va_rf (q_or G (S_34 0 6))) = _; rw [o_36, q_or_nI (by decide)]; rfl) dX8_init_141 ?_
    refine q2_callI (rest := [.ref (G.1 + 222), .ref (G.1 + 0)]) (b := 222) X hK hN hP hS (c2_X7_init l G S_34 _ h) mi_X7_init tl_X8_66 dX8_init_144 rfl ⟨Nat.le_of_ble_eq_true rfl, Nat.le_of_ble_eq_true rfl⟩ hl.1 rfl (Nat.le_of_ble_eq_true rfl) ⟨show cells + 8 + 1 + 2 + 1 + 2 + 0 + 1 + 2 + 1 + 77 + 1 + 9 + 1 + 123 + 1 + 1 ≤ 232 by omega, show slots + 210 + 3 + 80 + 3 + 80 + 0 + 3 + 80 + 3 + 2123 + 7 + 249 + 15 + 3600 + 3 + 300 ≤ 6766 by omega⟩ (fun r_38 S_37 H locs h hP hS => ?_)
    refine W.eq (g2 := F0 m 147 ls [.ref (G.1 + 222), .ref (G.1 + 0)]) rfl ?_
    refine q2_putF X hK hP hS 0 7 7 (C := RX8) (T := TX8) (N := 8) rfl in_X8 tyX8 tyX8_ok nmX8 (by decide +kernel) (by decide) tl_X8_69 rfl rfl hnm rfl (ty := (.object "IdealBench$Stai\x72")) (by decide +kernel) rfl rfl (x := (nI 222)) (by simp [objF2, su, upd, q_or_nI (G := G) (b := 222) (by decide), va_rf]) (by simp [objF2]) dX8_init_147 (fun S_39 H locs eS_39 hP hS => ?_)
    have h := h S_39 eS_39
    exact q2_vret X hr hlocks hP hS h (by omega) (by omega) dX8_init_150
  have B36 : ∀ (z3 : Int32) (S : St) (ls : Array Slot), lv_has ls 3 [(0, .ref (G.1 + 0))] → w2_X8_init_36 x1 x2 K z3 S → q_W2 p l e (q_rm 3 55 232 6766) s m args below meth c 232 6766 (231) (6759) (MQ below (q_Qc2 G 224 K v_v) args s 232 6766 (fr_ G)) G 36 ls [.int z3, .ref (G.1 + 1), .ref (G.1 + 1), .ref (G.1 + 0)] 2 S := by
    intro z3 S ls hl h H locs cells slots hca hsa hP hS
    refine lv_iconst (v := 3) X.1 X.2.1 dX8_init_36 (by decide) ?_
    exact B37 z3 3 S _ (lv_sub hl [0] rfl) h _ _ _ _ (by omega) (by omega) hP hS
  have B22 : ∀ (z3 : Int32) (S : St) (ls : Array Slot), lv_has ls 3 [(0, .ref (G.1 + 0)), (2, .int x2)] → w2_X8_init_22 x1 x2 K z3 S → q_W2 p l e (q_rm 3 55 232 6766) s m args below meth c 232 6766 (231) (6759) (MQ below (q_Qc2 G 224 K v_v) args s 232 6766 (fr_ G)) G 22 ls [.int z3, .ref (G.1 + 1), .ref (G.1 + 1), .ref (G.1 + 0)] 2 S := by
    intro z3 S ls hl h H locs cells slots hca hsa hP hS
    refine lv_iload_n X.1 X.2.1 dX8_init_22 rfl (lv_at hl 1 rfl) ?_
    refine lv_iconst (v := 1) X.1 X.2.1 dX8_init_23 (by decide) ?_
    refine lv_icmp_lt (tgt := 36) X.1 X.2.1 dX8_init_24 (by decide) (fun c_1 => ?_) (fun c_1 => ?_)
    · have h := h.1 c_1
      exact B36 z3 S _ (lv_sub hl [0] rfl) h _ _ _ _ (by omega) (by omega) hP hS
    · have h := h.2 c_1
      refine lv_iload_n X.1 X.2.1 dX8_init_27 rfl (lv_at hl 1 rfl) ?_
      refine lv_iconst (v := 4) X.1 X.2.1 dX8_init_28 (by decide) ?_
      refine lv_icmp_gt (tgt := 36) X.1 X.2.1 dX8_init_29 (by decide) (fun c_2 => ?_) (fun c_2 => ?_)
      · have h := h.1 c_2
        exact B36 z3 S _ (lv_sub hl [0] rfl) h _ _ _ _ (by omega) (by omega) hP hS
      · have h := h.2 c_2
        refine lv_iload_n X.1 X.2.1 dX8_init_32 rfl (lv_at hl 1 rfl) ?_
        refine lv_goto (tgt := 37) X.1 X.2.1 dX8_init_33 (by decide) ?_
        exact B37 z3 x2 S _ (lv_sub hl [0] rfl) h _ _ _ _ (by omega) (by omega) hP hS
  refine lv_aload_n X.1 X.2.1 dX8_init_0 rfl (lv_at hl 0 rfl) ?_
  refine W.objInit X.1 X.2.1 X.2.2.2.1 (X.2.2.2.2 _ to_X8) (X.2.2.2.2 _ toi) (X.2.2.2.2 _ toc) rfl (by rw [X.2.2.1]; exact hl.1) rfl dX8_init_1 (Nat.le_of_ble_eq_true rfl) (Nat.le_of_ble_eq_true rfl) ?_
  refine W.eq (g2 := F0 m 4 ls []) rfl ?_
  refine lv_aload_n X.1 X.2.1 dX8_init_4 rfl (lv_at hl 0 rfl) ?_
  refine q2_new X hK hP hS hG (ci := 4) (C := RX5) (T := TX5) (N := 7) rfl in_X5 tyX5 tyX5_ok (by decide +kernel) fresh_4 (hfr_4 G _ _) tl_X8_9 ti_X5 tz_X5 (show 0 + 1 ≤ 232 by omega) (show 0 + 7 ≤ 6766 by omega) dX8_init_5 (fun S_1 H eS_1 hP hS => ?_)
  have h := h S_1 eS_1
  refine lv_dup X.1 X.2.1 dX8_init_8 rfl ?_
  refine lv_iload_n X.1 X.2.1 dX8_init_9 rfl (lv_at hl 1 rfl) ?_
  refine q2_callS (rest := [.ref (G.1 + 1), .ref (G.1 + 1), .ref (G.1 + 0)]) X hK hN hP hS (c2_X8_isPrimeInRange l G 2 x1 S_1 _ h) my_X8_isPrimeInRange tl_X8_11 dX8_init_10 rfl ⟨Nat.le_of_ble_eq_true rfl, Nat.le_of_ble_eq_true rfl⟩ hl.1 rfl (Nat.le_of_ble_eq_true rfl) ⟨show 0 + 1 + 0 ≤ 232 by omega, show 0 + 7 + 0 ≤ 6766 by omega⟩ (fun r_3 S_2 H locs h hP hS => ?_)
  refine W.eq (g2 := F0 m 13 ls [.int r_3, .ref (G.1 + 1), .ref (G.1 + 1), .ref (G.1 + 0)]) rfl ?_
  refine lv_if_eq (tgt := 20) X.1 X.2.1 dX8_init_13 (by decide) (fun c_4 => ?_) (fun c_4 => ?_)
  · have h := h.1 c_4
    refine lv_bipush (v := 7) X.1 X.2.1 dX8_init_20 (by decide) ?_
    exact B22 7 S_2 _ (lv_sub hl [0, 2] rfl) h _ _ _ _ (by omega) (by omega) hP hS
  · have h := h.2 c_4
    refine lv_iload_n X.1 X.2.1 dX8_init_16 rfl (lv_at hl 1 rfl) ?_
    refine lv_goto (tgt := 22) X.1 X.2.1 dX8_init_17 (by decide) ?_
    exact B22 x1 S_2 _ (lv_sub hl [0, 2] rfl) h _ _ _ _ (by omega) (by omega) hP hS

set_option maxHeartbeats 4000000 in
set_option maxRecDepth 100000 in
theorem c2_X9_init (l : Launch) (G : Cx) (x1 : Int32) (x2 : Int32) (S : St) (K : Unit → St → Prop) (h : w2_X9_init x1 x2 S K) : q_Met2 l yX9_init cX9_init 4 none 2 43 17 22527 G [.ref (G.1 + 224), .int x1, .int x2] v_v 225 242 S K := by
  refine q_enter2 (by decide +kernel) (Nat.le_of_ble_eq_true rfl) (fun p e s m args below meth c ls X hK hN hP hr hlocks hnm hl => ?_)
  have hS : va_S (fr_ G) s.heap s.heap [] := va_S.rf
  have hG : G.1 ≤ s.heap.size := by rw [hP.2]; exact Nat.le_add_right _ _
  have hl : lv_has ls 4 [(0, .ref (G.1 + 224)), (1, .int x1), (2, .int x2)] := hl
  have hca : 0 + 17 ≤ 17 := by decide
  have hsa : 0 + 22527 ≤ 22527 := by decide
  have B192 : ∀ (f : Nat) (x3 : Int32) (S : St) (ls : Array Slot), lv_has ls 4 [(0, .ref (G.1 + 224)), (3, .int x3)] → q_it (fun _ _ => False) (w2_X9_init_192 x1 x2 K) f x3 S → q_W2 p l e (q_rm 2 43 17 22527) s m args below meth c 17 22527 (0) (0) (MQ below (q_Qc2 G 242 K v_v) args s 17 22527 (fr_ G)) G 192 ls [] 242 S := by
    intro f
    induction f with
    | zero => intro x3 S ls hl h; exact False.elim h
    | succ f hk192 =>
      intro x3 S ls hl h H locs cells slots hca hsa hP hS
      have h : w2_X9_init_192 x1 x2 K (q_it (fun _ _ => False) (w2_X9_init_192 x1 x2 K) f) x3 S := h
      generalize q_it (fun _ _ => False) (w2_X9_init_192 x1 x2 K) f = k192 at h hk192
      refine lv_iload_n X.1 X.2.1 dX9_init_192 rfl (lv_at hl 1 rfl) ?_
      refine lv_bipush (v := 25) X.1 X.2.1 dX9_init_193 (by decide) ?_
      refine lv_icmp_ge (tgt := 211) X.1 X.2.1 dX9_init_195 (by decide) (fun c_1 => ?_) (fun c_1 => ?_)
      · have h := h.1 c_1
        exact q2_vret X hr hlocks hP hS h (by omega) (by omega) dX9_init_211
      · have h := h.2 c_1
        refine lv_aload_n X.1 X.2.1 dX9_init_198 rfl (lv_at hl 0 rfl) ?_
        obtain ⟨o_2, h⟩ := h
        refine q2_get (v := .ref (G.1 + 225)) X hK hP 224 8 3 (C := RX9) (T := TX9) (N := 38) rfl in_X9 (by decide +kernel) (by decide) tl_X9_13 rfl (by show some (va_rf (q_or G (S 224 3))) = _; rw [o_2, q_or_nI (by decide)]; rfl) dX9_init_199 ?_
        refine lv_iload_n X.1 X.2.1 dX9_init_202 rfl (lv_at hl 1 rfl) ?_
        refine lv_iconst (v := (-1)) X.1 X.2.1 dX9_init_203 (by decide) ?_
        obtain ⟨o_3, h⟩ := h
        refine q2_iast X hK hP hS (by decide +kernel) o_3 dX9_init_204 (fun S_4 H locs eS_4 hP hS => ?_)
        have h := h S_4 eS_4
        obtain ⟨x3_5, e3_5⟩ : ∃ y : Int32, y = x3 + 1 := ⟨_, rfl⟩
        have h := h x3_5 e3_5
        refine lv_iinc (v := x3_5) (lv' := [(3, .int x3_5), (0, .ref (G.1 + 224))]) X.1 X.2.1 dX9_init_205 hl (k := 1) rfl (by rw [e3_5]; first | rfl | decide) (by decide) rfl (fun ls hl => ?_)
        refine lv_goto (tgt := 192) X.1 X.2.1 dX9_init_208 (by decide) ?_
        exact hk192 x3_5 S_4 _ (lv_sub hl [1, 0] rfl) h _ _ _ _ (by omega) (by omega) hP hS
  have B187 : ∀ (z1 : Int32) (S : St) (ls : Array Slot), lv_has ls 4 [(0, .ref (G.1 + 224))] → w2_X9_init_187 x1 x2 K z1 S → q_W2 p l e (q_rm 2 43 17 22527) s m args below meth c 17 22527 (0) (0) (MQ below (q_Qc2 G 242 K v_v) args s 17 22527 (fr_ G)) G 187 ls [.int z1, .ref (G.1 + 224)] 242 S := by
    intro z1 S ls hl h H locs cells slots hca hsa hP hS
    refine q2_putF X hK hP hS 224 8 1 (C := RX9) (T := TX9) (N := 38) rfl in_X9 tyX9 tyX9_ok nmX9 (by decide +kernel) (by decide) tl_X9_75 rfl rfl hnm rfl (ty := .int) (by decide +kernel) rfl rfl (x := z1) (by simp [objF2, su, upd]) (by simp [objF2]) dX9_init_187 (fun S_1 H locs eS_1 hP hS => ?_)
    have h := h S_1 eS_1
    refine lv_iconst (v := 1) X.1 X.2.1 dX9_init_190 (by decide) ?_
    refine lv_istore_n (lv' := [(3, .int 1), (0, .ref (G.1 + 224))]) X.1 X.2.1 dX9_init_191 rfl hl (by decide) rfl (fun ls hl => ?_)
    obtain ⟨f_2, h⟩ := h
    exact B192 f_2 1 S_1 _ (lv_sub hl [1, 0] rfl) h _ _ _ _ (by omega) (by omega) hP hS
  have B186 : ∀ (S : St) (ls : Array Slot), lv_has ls 4 [(0, .ref (G.1 + 224))] → w2_X9_init_186 x1 x2 K S → q_W2 p l e (q_rm 2 43 17 22527) s m args below meth c 17 22527 (0) (0) (MQ below (q_Qc2 G 242 K v_v) args s 17 22527 (fr_ G)) G 186 ls [.ref (G.1 + 224)] 242 S := by
    intro S ls hl h H locs cells slots hca hsa hP hS
    refine lv_iconst (v := 3) X.1 X.2.1 dX9_init_186 (by decide) ?_
    exact B187 3 S _ (lv_sub hl [0] rfl) h _ _ _ _ (by omega) (by omega) hP hS
  have B168 : ∀ (z1 : Int32) (S : St) (ls : Array Slot), lv_has ls 4 [(0, .ref (G.1 + 224)), (2, .int x2)] → w2_X9_init_168 x1 x2 K z1 S → q_W2 p l e (q_rm 2 43 17 22527) s m args below meth c 17 22527 (0) (0) (MQ below (q_Qc2 G 242 K v_v) args s 17 22527 (fr_ G)) G 168 ls [.int z1, .ref (G.1 + 224)] 242 S := by
    intro z1 S ls hl h H locs cells slots hca hsa hP hS
    refine q2_putF X hK hP hS 224 8 0 (C := RX9) (T := TX9) (N := 38) rfl in_X9 tyX9 tyX9_ok nmX9 (by decide +kernel) (by decide) tl_X9_72 rfl rfl hnm rfl (ty := .int) (by decide +kernel) rfl rfl (x := z1) (by simp [objF2, su, upd]) (by simp [objF2]) dX9_init_168 (fun S_1 H locs eS_1 hP hS => ?_)
    have h := h S_1 eS_1
    refine lv_aload_n X.1 X.2.1 dX9_init_171 rfl (lv_at hl 0 rfl) ?_
    refine lv_iload_n X.1 X.2.1 dX9_init_172 rfl (lv_at hl 1 rfl) ?_
    refine lv_iconst (v := 1) X.1 X.2.1 dX9_init_173 (by decide) ?_
    refine lv_icmp_lt (tgt := 186) X.1 X.2.1 dX9_init_174 (by decide) (fun c_2 => ?_) (fun c_2 => ?_)
    · have h := h.1 c_2
      exact B186 S_1 _ (lv_sub hl [0] rfl) h _ _ _ _ (by omega) (by omega) hP hS
    · have h := h.2 c_2
      refine lv_iload_n X.1 X.2.1 dX9_init_177 rfl (lv_at hl 1 rfl) ?_
      refine lv_iconst (v := 4) X.1 X.2.1 dX9_init_178 (by decide) ?_
      refine lv_icmp_gt (tgt := 186) X.1 X.2.1 dX9_init_179 (by decide) (fun c_3 => ?_) (fun c_3 => ?_)
      · have h := h.1 c_3
        exact B186 S_1 _ (lv_sub hl [0] rfl) h _ _ _ _ (by omega) (by omega) hP hS
      · have h := h.2 c_3
        refine lv_iload_n X.1 X.2.1 dX9_init_182 rfl (lv_at hl 1 rfl) ?_
        refine lv_goto (tgt := 187) X.1 X.2.1 dX9_init_183 (by decide) ?_
        exact B187 x2 S_1 _ (lv_sub hl [0] rfl) h _ _ _ _ (by omega) (by omega) hP hS
  refine lv_aload_n X.1 X.2.1 dX9_init_0 rfl (lv_at hl 0 rfl) ?_
  refine W.objInit X.1 X.2.1 X.2.2.2.1 (X.2.2.2.2 _ to_X9) (X.2.2.2.2 _ toi) (X.2.2.2.2 _ toc) rfl (by rw [X.2.2.1]; exact hl.1) rfl dX9_init_1 (Nat.le_of_ble_eq_true rfl) (Nat.le_of_ble_eq_true rfl) ?_
  refine W.eq (g2 := F0 m 4 ls []) rfl ?_
  refine lv_aload_n X.1 X.2.1 dX9_init_4 rfl (lv_at hl 0 rfl) ?_
  refine lv_iconst (v := 2) X.1 X.2.1 dX9_init_5 (by decide) ?_
  refine q2_put X hK hP hS 224 8 2 (C := RX9) (T := TX9) (N := 38) rfl in_X9 tyX9 tyX9_ok nmX9 (by decide +kernel) (by decide) tl_X9_7 rfl rfl (ty := .int) (by decide +kernel) rfl rfl (x := 2) (by simp [objF2, su, upd]) (by simp [objF2]) dX9_init_6 (fun S_1 H locs eS_1 hP hS => ?_)
  have h := h S_1 eS_1
  refine lv_aload_n X.1 X.2.1 dX9_init_9 rfl (lv_at hl 0 rfl) ?_
  refine lv_bipush (v := 61) X.1 X.2.1 dX9_init_10 (by decide) ?_
  refine q2_newi X hK hP hS (by decide +kernel) ta_0 (by decide) (by decide) (by decide) (show 0 + 1 ≤ 17 by omega) (show 0 + 61 ≤ 22527 by omega) dX9_init_12 (fun S_2 H eS_2 hP hS => ?_)
  have h := h S_2 eS_2
  refine q2_putF X hK hP hS 224 8 3 (C := RX9) (T := TX9) (N := 38) rfl in_X9 tyX9 tyX9_ok nmX9 (by decide +kernel) (by decide) tl_X9_13 rfl rfl hnm rfl (ty := (.array .int)) (by decide +kernel) rfl rfl (x := (nI 225)) (by simp [objF2, su, upd, q_or_nI (G := G) (b := 225) (by decide), va_rf]) (by simp [objF2]) dX9_init_14 (fun S_3 H locs eS_3 hP hS => ?_)
  have h := h S_3 eS_3
  refine lv_aload_n X.1 X.2.1 dX9_init_17 rfl (lv_at hl 0 rfl) ?_
  refine lv_sipush (v := 2440) X.1 X.2.1 dX9_init_18 (by decide) ?_
  refine q2_newi X hK hP hS (by decide +kernel) ta_0 (by decide) (by decide) (by decide) (show 0 + 1 + 1 ≤ 17 by omega) (show 0 + 61 + 2440 ≤ 22527 by omega) dX9_init_21 (fun S_4 H eS_4 hP hS => ?_)
  have h := h S_4 eS_4
  refine q2_putF X hK hP hS 224 8 4 (C := RX9) (T := TX9) (N := 38) rfl in_X9 tyX9 tyX9_ok nmX9 (by decide +kernel) (by decide) tl_X9_17 rfl rfl hnm rfl (ty := (.array .int)) (by decide +kernel) rfl rfl (x := (nI 226)) (by simp [objF2, su, upd, q_or_nI (G := G) (b := 226) (by decide), va_rf]) (by simp [objF2]) dX9_init_23 (fun S_5 H locs eS_5 hP hS => ?_)
  have h := h S_5 eS_5
  refine lv_aload_n X.1 X.2.1 dX9_init_26 rfl (lv_at hl 0 rfl) ?_
  refine lv_sipush (v := 9760) X.1 X.2.1 dX9_init_27 (by decide) ?_
  refine q2_newi X hK hP hS (by decide +kernel) ta_0 (by decide) (by decide) (by decide) (show 0 + 1 + 1 + 1 ≤ 17 by omega) (show 0 + 61 + 2440 + 9760 ≤ 22527 by omega) dX9_init_30 (fun S_6 H eS_6 hP hS => ?_)
  have h := h S_6 eS_6
  refine q2_putF X hK hP hS 224 8 5 (C := RX9) (T := TX9) (N := 38) rfl in_X9 tyX9 tyX9_ok nmX9 (by decide +kernel) (by decide) tl_X9_20 rfl rfl hnm rfl (ty := (.array .int)) (by decide +kernel) rfl rfl (x := (nI 227)) (by simp [objF2, su, upd, q_or_nI (G := G) (b := 227) (by decide), va_rf]) (by simp [objF2]) dX9_init_32 (fun S_7 H locs eS_7 hP hS => ?_)
  have h := h S_7 eS_7
  refine lv_aload_n X.1 X.2.1 dX9_init_35 rfl (lv_at hl 0 rfl) ?_
  refine lv_sipush (v := 160) X.1 X.2.1 dX9_init_36 (by decide) ?_
  refine q2_newi X hK hP hS (by decide +kernel) ta_0 (by decide) (by decide) (by decide) (show 0 + 1 + 1 + 1 + 1 ≤ 17 by omega) (show 0 + 61 + 2440 + 9760 + 160 ≤ 22527 by omega) dX9_init_39 (fun S_8 H eS_8 hP hS => ?_)
  have h := h S_8 eS_8
  refine q2_putF X hK hP hS 224 8 8 (C := RX9) (T := TX9) (N := 38) rfl in_X9 tyX9 tyX9_ok nmX9 (by decide +kernel) (by decide) tl_X9_23 rfl rfl hnm rfl (ty := (.array .int)) (by decide +kernel) rfl rfl (x := (nI 228)) (by simp [objF2, su, upd, q_or_nI (G := G) (b := 228) (by decide), va_rf]) (by simp [objF2]) dX9_init_41 (fun S_9 H locs eS_9 hP hS => ?_)
  have h := h S_9 eS_9
  refine lv_aload_n X.1 X.2.1 dX9_init_44 rfl (lv_at hl 0 rfl) ?_
  refine lv_sipush (v := 160) X.1 X.2.1 dX9_init_45 (by decide) ?_
  refine q2_newi X hK hP hS (by decide +kernel) ta_0 (by decide) (by decide) (by decide) (show 0 + 1 + 1 + 1 + 1 + 1 ≤ 17 by omega) (show 0 + 61 + 2440 + 9760 + 160 + 160 ≤ 22527 by omega) dX9_init_48 (fun S_10 H eS_10 hP hS => ?_)
  have h := h S_10 eS_10
  refine q2_putF X hK hP hS 224 8 9 (C := RX9) (T := TX9) (N := 38) rfl in_X9 tyX9 tyX9_ok nmX9 (by decide +kernel) (by decide) tl_X9_26 rfl rfl hnm rfl (ty := (.array .int)) (by decide +kernel) rfl rfl (x := (nI 229)) (by simp [objF2, su, upd, q_or_nI (G := G) (b := 229) (by decide), va_rf]) (by simp [objF2]) dX9_init_50 (fun S_11 H locs eS_11 hP hS => ?_)
  have h := h S_11 eS_11
  refine lv_aload_n X.1 X.2.1 dX9_init_53 rfl (lv_at hl 0 rfl) ?_
  refine lv_sipush (v := 500) X.1 X.2.1 dX9_init_54 (by decide) ?_
  refine q2_put X hK hP hS 224 8 10 (C := RX9) (T := TX9) (N := 38) rfl in_X9 tyX9 tyX9_ok nmX9 (by decide +kernel) (by decide) tl_X9_29 rfl rfl (ty := .int) (by decide +kernel) rfl rfl (x := 500) (by simp [objF2, su, upd]) (by simp [objF2]) dX9_init_57 (fun S_12 H locs eS_12 hP hS => ?_)
  have h := h S_12 eS_12
  refine lv_aload_n X.1 X.2.1 dX9_init_60 rfl (lv_at hl 0 rfl) ?_
  refine lv_sipush (v := 1700) X.1 X.2.1 dX9_init_61 (by decide) ?_
  refine q2_newi X hK hP hS (by decide +kernel) ta_0 (by decide) (by decide) (by decide) (show 0 + 1 + 1 + 1 + 1 + 1 + 1 ≤ 17 by omega) (show 0 + 61 + 2440 + 9760 + 160 + 160 + 1700 ≤ 22527 by omega) dX9_init_64 (fun S_13 H eS_13 hP hS => ?_)
  have h := h S_13 eS_13
  refine q2_putF X hK hP hS 224 8 21 (C := RX9) (T := TX9) (N := 38) rfl in_X9 tyX9 tyX9_ok nmX9 (by decide +kernel) (by decide) tl_X9_32 rfl rfl hnm rfl (ty := (.array .int)) (by decide +kernel) rfl rfl (x := (nI 230)) (by simp [objF2, su, upd, q_or_nI (G := G) (b := 230) (by decide), va_rf]) (by simp [objF2]) dX9_init_66 (fun S_14 H locs eS_14 hP hS => ?_)
  have h := h S_14 eS_14
  refine lv_aload_n X.1 X.2.1 dX9_init_69 rfl (lv_at hl 0 rfl) ?_
  refine lv_sipush (v := 6800) X.1 X.2.1 dX9_init_70 (by decide) ?_
  refine q2_newi X hK hP hS (by decide +kernel) ta_0 (by decide) (by decide) (by decide) (show 0 + 1 + 1 + 1 + 1 + 1 + 1 + 1 ≤ 17 by omega) (show 0 + 61 + 2440 + 9760 + 160 + 160 + 1700 + 6800 ≤ 22527 by omega) dX9_init_73 (fun S_15 H eS_15 hP hS => ?_)
  have h := h S_15 eS_15
  refine q2_putF X hK hP hS 224 8 22 (C := RX9) (T := TX9) (N := 38) rfl in_X9 tyX9 tyX9_ok nmX9 (by decide +kernel) (by decide) tl_X9_35 rfl rfl hnm rfl (ty := (.array .int)) (by decide +kernel) rfl rfl (x := (nI 231)) (by simp [objF2, su, upd, q_or_nI (G := G) (b := 231) (by decide), va_rf]) (by simp [objF2]) dX9_init_75 (fun S_16 H locs eS_16 hP hS => ?_)
  have h := h S_16 eS_16
  refine lv_aload_n X.1 X.2.1 dX9_init_78 rfl (lv_at hl 0 rfl) ?_
  refine lv_iconst (v := 4) X.1 X.2.1 dX9_init_79 (by decide) ?_
  refine q2_newi X hK hP hS (by decide +kernel) ta_0 (by decide) (by decide) (by decide) (show 0 + 1 + 1 + 1 + 1 + 1 + 1 + 1 + 1 ≤ 17 by omega) (show 0 + 61 + 2440 + 9760 + 160 + 160 + 1700 + 6800 + 4 ≤ 22527 by omega) dX9_init_80 (fun S_17 H eS_17 hP hS => ?_)
  have h := h S_17 eS_17
  refine q2_putF X hK hP hS 224 8 23 (C := RX9) (T := TX9) (N := 38) rfl in_X9 tyX9 tyX9_ok nmX9 (by decide +kernel) (by decide) tl_X9_38 rfl rfl hnm rfl (ty := (.array .int)) (by decide +kernel) rfl rfl (x := (nI 232)) (by simp [objF2, su, upd, q_or_nI (G := G) (b := 232) (by decide), va_rf]) (by simp [objF2]) dX9_init_82 (fun S_18 H locs eS_18 hP hS => ?_)
  have h := h S_18 eS_18
  refine lv_aload_n X.1 X.2.1 dX9_init_85 rfl (lv_at hl 0 rfl) ?_
  refine lv_iconst (v := 4) X.1 X.2.1 dX9_init_86 (by decide) ?_
  refine q2_newi X hK hP hS (by decide +kernel) ta_0 (by decide) (by decide) (by decide) (show 0 + 1 + 1 + 1 + 1 + 1 + 1 + 1 + 1 + 1 ≤ 17 by omega) (show 0 + 61 + 2440 + 9760 + 160 + 160 + 1700 + 6800 + 4 + 4 ≤ 22527 by omega) dX9_init_87 (fun S_19 H eS_19 hP hS => ?_)
  have h := h S_19 eS_19
  refine q2_putF X hK hP hS 224 8 24 (C := RX9) (T := TX9) (N := 38) rfl in_X9 tyX9 tyX9_ok nmX9 (by decide +kernel) (by decide) tl_X9_41 rfl rfl hnm rfl (ty := (.array .int)) (by decide +kernel) rfl rfl (x := (nI 233)) (by simp [objF2, su, upd, q_or_nI (G := G) (b := 233) (by decide), va_rf]) (by simp [objF2]) dX9_init_89 (fun S_20 H locs eS_20 hP hS => ?_)
  have h := h S_20 eS_20
  refine lv_aload_n X.1 X.2.1 dX9_init_92 rfl (lv_at hl 0 rfl) ?_
  refine lv_iconst (v := 4) X.1 X.2.1 dX9_init_93 (by decide) ?_
  refine q2_newi X hK hP hS (by decide +kernel) ta_0 (by decide) (by decide) (by decide) (show 0 + 1 + 1 + 1 + 1 + 1 + 1 + 1 + 1 + 1 + 1 ≤ 17 by omega) (show 0 + 61 + 2440 + 9760 + 160 + 160 + 1700 + 6800 + 4 + 4 + 4 ≤ 22527 by omega) dX9_init_94 (fun S_21 H eS_21 hP hS => ?_)
  have h := h S_21 eS_21
  refine q2_putF X hK hP hS 224 8 25 (C := RX9) (T := TX9) (N := 38) rfl in_X9 tyX9 tyX9_ok nmX9 (by decide +kernel) (by decide) tl_X9_44 rfl rfl hnm rfl (ty := (.array .int)) (by decide +kernel) rfl rfl (x := (nI 234)) (by simp [objF2, su, upd, q_or_nI (G := G) (b := 234) (by decide), va_rf]) (by simp [objF2]) dX9_init_96 (fun S_22 H locs eS_22 hP hS => ?_)
  have h := h S_22 eS_22
  refine lv_aload_n X.1 X.2.1 dX9_init_99 rfl (lv_at hl 0 rfl) ?_
  refine lv_iconst (v := 4) X.1 X.2.1 dX9_init_100 (by decide) ?_
  refine q2_newi X hK hP hS (by decide +kernel) ta_0 (by decide) (by decide) (by decide) (show 0 + 1 + 1 + 1 + 1 + 1 + 1 + 1 + 1 + 1 + 1 + 1 ≤ 17 by omega) (show 0 + 61 + 2440 + 9760 + 160 + 160 + 1700 + 6800 + 4 + 4 + 4 + 4 ≤ 22527 by omega) dX9_init_101 (fun S_23 H eS_23 hP hS => ?_)
  have h := h S_23 eS_23
  refine q2_putF X hK hP hS 224 8 26 (C := RX9) (T := TX9) (N := 38) rfl in_X9 tyX9 tyX9_ok nmX9 (by decide +kernel) (by decide) tl_X9_47 rfl rfl hnm rfl (ty := (.array .int)) (by decide +kernel) rfl rfl (x := (nI 235)) (by simp [objF2, su, upd, q_or_nI (G := G) (b := 235) (by decide), va_rf]) (by simp [objF2]) dX9_init_103 (fun S_24 H locs eS_24 hP hS => ?_)
  have h := h S_24 eS_24
  refine lv_aload_n X.1 X.2.1 dX9_init_106 rfl (lv_at hl 0 rfl) ?_
  refine lv_bipush (v := 18) X.1 X.2.1 dX9_init_107 (by decide) ?_
  refine q2_newi X hK hP hS (by decide +kernel) ta_0 (by decide) (by decide) (by decide) (show 0 + 1 + 1 + 1 + 1 + 1 + 1 + 1 + 1 + 1 + 1 + 1 + 1 ≤ 17 by omega) (show 0 + 61 + 2440 + 9760 + 160 + 160 + 1700 + 6800 + 4 + 4 + 4 + 4 + 18 ≤ 22527 by omega) dX9_init_109 (fun S_25 H eS_25 hP hS => ?_)
  have h := h S_25 eS_25
  refine q2_putF X hK hP hS 224 8 28 (C := RX9) (T := TX9) (N := 38) rfl in_X9 tyX9 tyX9_ok nmX9 (by decide +kernel) (by decide) tl_X9_50 rfl rfl hnm rfl (ty := (.array .int)) (by decide +kernel) rfl rfl (x := (nI 236)) (by simp [objF2, su, upd, q_or_nI (G := G) (b := 236) (by decide), va_rf]) (by simp [objF2]) dX9_init_111 (fun S_26 H locs eS_26 hP hS => ?_)
  have h := h S_26 eS_26
  refine lv_aload_n X.1 X.2.1 dX9_init_114 rfl (lv_at hl 0 rfl) ?_
  refine lv_bipush (v := 40) X.1 X.2.1 dX9_init_115 (by decide) ?_
  refine q2_newi X hK hP hS (by decide +kernel) ta_0 (by decide) (by decide) (by decide) (show 0 + 1 + 1 + 1 + 1 + 1 + 1 + 1 + 1 + 1 + 1 + 1 + 1 + 1 ≤ 17 by omega) (show 0 + 61 + 2440 + 9760 + 160 + 160 + 1700 + 6800 + 4 + 4 + 4 + 4 + 18 + 40 ≤ 22527 by omega) dX9_init_117 (fun S_27 H eS_27 hP hS => ?_)
  have h := h S_27 eS_27
  refine q2_putF X hK hP hS 224 8 31 (C := RX9) (T := TX9) (N := 38) rfl in_X9 tyX9 tyX9_ok nmX9 (by decide +kernel) (by decide) tl_X9_53 rfl rfl hnm rfl (ty := (.array .int)) (by decide +kernel) rfl rfl (x := (nI 237)) (by simp [objF2, su, upd, q_or_nI (G := G) (b := 237) (by decide), va_rf]) (by simp [objF2]) dX9_init_119 (fun S_28 H locs eS_28 hP hS => ?_)
  have h := h S_28 eS_28
  refine lv_aload_n X.1 X.2.1 dX9_init_122 rfl (lv_at hl 0 rfl) ?_
  refine lv_sipush (v := 160) X.1 X.2.1 dX9_init_123 (by decide) ?_
  refine q2_newi X hK hP hS (by decide +kernel) ta_0 (by decide) (by decide) (by decide) (show 0 + 1 + 1 + 1 + 1 + 1 + 1 + 1 + 1 + 1 + 1 + 1 + 1 + 1 + 1 ≤ 17 by omega) (show 0 + 61 + 2440 + 9760 + 160 + 160 + 1700 + 6800 + 4 + 4 + 4 + 4 + 18 + 40 + 160 ≤ 22527 by omega) dX9_init_126 (fun S_29 H eS_29 hP hS => ?_)
  have h := h S_29 eS_29
  refine q2_putF X hK hP hS 224 8 32 (C := RX9) (T := TX9) (N := 38) rfl in_X9 tyX9 tyX9_ok nmX9 (by decide +kernel) (by decide) tl_X9_56 rfl rfl hnm rfl (ty := (.array .int)) (by decide +kernel) rfl rfl (x := (nI 238)) (by simp [objF2, su, upd, q_or_nI (G := G) (b := 238) (by decide), va_rf]) (by simp [objF2]) dX9_init_128 (fun S_30 H locs eS_30 hP hS => ?_)
  have h := h S_30 eS_30
  refine lv_aload_n X.1 X.2.1 dX9_init_131 rfl (lv_at hl 0 rfl) ?_
  refine lv_iconst (v := 4) X.1 X.2.1 dX9_init_132 (by decide) ?_
  refine q2_newi X hK hP hS (by decide +kernel) ta_0 (by decide) (by decide) (by decide) (show 0 + 1 + 1 + 1 + 1 + 1 + 1 + 1 + 1 + 1 + 1 + 1 + 1 + 1 + 1 + 1 ≤ 17 by omega) (show 0 + 61 + 2440 + 9760 + 160 + 160 + 1700 + 6800 + 4 + 4 + 4 + 4 + 18 + 40 + 160 + 4 ≤ 22527 by omega) dX9_init_133 (fun S_31 H eS_31 hP hS => ?_)
  have h := h S_31 eS_31
  refine q2_putF X hK hP hS 224 8 33 (C := RX9) (T := TX9) (N := 38) rfl in_X9 tyX9 tyX9_ok nmX9 (by decide +kernel) (by decide) tl_X9_59 rfl rfl hnm rfl (ty := (.array .int)) (by decide +kernel) rfl rfl (x := (nI 239)) (by simp [objF2, su, upd, q_or_nI (G := G) (b := 239) (by decide), va_rf]) (by simp [objF2]) dX9_init_135 (fun S_32 H locs eS_32 hP hS => ?_)
  have h := h S_32 eS_32
  refine lv_aload_n X.1 X.2.1 dX9_init_138 rfl (lv_at hl 0 rfl) ?_
  refine lv_sipush (v := 1204) X.1 X.2.1 dX9_init_139 (by decide) ?_
  refine q2_newi X hK hP hS (by decide +kernel) ta_0 (by decide) (by decide) (by decide) (show 0 + 1 + 1 + 1 + 1 + 1 + 1 + 1 + 1 + 1 + 1 + 1 + 1 + 1 + 1 + 1 + 1 ≤ 17 by omega) (show 0 + 61 + 2440 + 9760 + 160 + 160 + 1700 + 6800 + 4 + 4 + 4 + 4 + 18 + 40 + 160 + 4 + 1204 ≤ 22527 by omega) dX9_init_142 (fun S_33 H eS_33 hP hS => ?_)
  have h := h S_33 eS_33
  refine q2_putF X hK hP hS 224 8 36 (C := RX9) (T := TX9) (N := 38) rfl in_X9 tyX9 tyX9_ok nmX9 (by decide +kernel) (by decide) tl_X9_62 rfl rfl hnm rfl (ty := (.array .int)) (by decide +kernel) rfl rfl (x := (nI 240)) (by simp [objF2, su, upd, q_or_nI (G := G) (b := 240) (by decide), va_rf]) (by simp [objF2]) dX9_init_144 (fun S_34 H locs eS_34 hP hS => ?_)
  have h := h S_34 eS_34
  refine lv_aload_n X.1 X.2.1 dX9_init_147 rfl (lv_at hl 0 rfl) ?_
  refine lv_iconst (v := 4) X.1 X.2.1 dX9_init_148 (by decide) ?_
  refine q2_newi X hK hP hS (by decide +kernel) ta_0 (by decide) (by decide) (by decide) (show 0 + 1 + 1 + 1 + 1 + 1 + 1 + 1 + 1 + 1 + 1 + 1 + 1 + 1 + 1 + 1 + 1 + 1 ≤ 17 by omega) (show 0 + 61 + 2440 + 9760 + 160 + 160 + 1700 + 6800 + 4 + 4 + 4 + 4 + 18 + 40 + 160 + 4 + 1204 + 4 ≤ 22527 by omega) dX9_init_149 (fun S_35 H eS_35 hP hS => ?_)
  have h := h S_35 eS_35
  refine q2_putF X hK hP hS 224 8 37 (C := RX9) (T := TX9) (N := 38) rfl in_X9 tyX9 tyX9_ok nmX9 (by decide +kernel) (by decide) tl_X9_65 rfl rfl hnm rfl (ty := (.array .int)) (by decide +kernel) rfl rfl (x := (nI 241)) (by simp [objF2, su, upd, q_or_nI (G := G) (b := 241) (by decide), va_rf]) (by simp [objF2]) dX9_init_151 (fun S_36 H locs eS_36 hP hS => ?_)
  have h := h S_36 eS_36
  refine lv_aload_n X.1 X.2.1 dX9_init_154 rfl (lv_at hl 0 rfl) ?_
  refine lv_iload_n X.1 X.2.1 dX9_init_155 rfl (lv_at hl 1 rfl) ?_
  refine q2_callS (rest := [.ref (G.1 + 224)]) X hK hN hP hS (c2_X9_isPrime l G 242 x1 S_36 _ h) my_X9_isPrime tl_X9_68 dX9_init_156 rfl ⟨Nat.le_of_ble_eq_true rfl, Nat.le_of_ble_eq_true rfl⟩ hl.1 rfl (Nat.le_of_ble_eq_true rfl) ⟨show 0 + 1 + 1 + 1 + 1 + 1 + 1 + 1 + 1 + 1 + 1 + 1 + 1 + 1 + 1 + 1 + 1 + 1 + 0 ≤ 17 by omega, show 0 + 61 + 2440 + 9760 + 160 + 160 + 1700 + 6800 + 4 + 4 + 4 + 4 + 18 + 40 + 160 + 4 + 1204 + 4 + 0 ≤ 22527 by omega⟩ (fun r_38 S_37 H locs h hP hS => ?_)
  refine W.eq (g2 := F0 m 159 ls [.int r_38, .ref (G.1 + 224)]) rfl ?_
  refine lv_if_eq (tgt := 166) X.1 X.2.1 dX9_init_159 (by decide) (fun c_39 => ?_) (fun c_39 => ?_)
  · have h := h.1 c_39
    refine lv_bipush (v := 7) X.1 X.2.1 dX9_init_166 (by decide) ?_
    exact B168 7 S_37 _ (lv_sub hl [0, 2] rfl) h _ _ _ _ (by omega) (by omega) hP hS
  · have h := h.2 c_39
    refine lv_iload_n X.1 X.2.1 dX9_init_162 rfl (lv_at hl 1 rfl) ?_
    refine lv_goto (tgt := 168) X.1 X.2.1 dX9_init_163 (by decide) ?_
    exact B168 x1 S_37 _ (lv_sub hl [0, 2] rfl) h _ _ _ _ (by omega) (by omega) hP hS
