set_option maxHeartbeats 4000000 in
set_option maxRecDepth 100000 in
theorem c_X9_reduce (l : Launch) (G : Cx) (x1 : Int32) (S : St) (K : Int32 → St → Prop) (h : w_X9_reduce x1 S K) : q_Met l yX9_reduce cX9_reduce 3 (some .int) 4 102 G [.ref (G.1 + 224), .int x1] v_i S K := by
  refine q_enter (by decide +kernel) (Nat.le_of_ble_eq_true rfl) (fun p e s m args below meth c ls X hK hP hr hlocks hl => ?_)
  have hS : va_S (fr_ G) s.heap s.heap [] := va_S.rf
  have hl : lv_has ls 3 [(0, .ref (G.1 + 224)), (1, .int x1)] := hl
  have B36 : ∀ (f : Nat) (x2 : Int32) (S : St) (ls : Array Slot), lv_has ls 3 [(0, .ref (G.1 + 224)), (1, .int x1), (2, .int x2)] → q_it (fun _ _ => False) (w_X9_reduce_36 x1 K) f x2 S → q_W p l e (k2_rm 4 102) s m args below meth c 0 0 (MQ below (q_Qc G K v_i) args s 0 0 (fr_ G)) G 36 ls [] S := by
    intro f
    induction f with
    | zero => intro x2 S ls hl h; exact False.elim h
    | succ f hk36 =>
      intro x2 S ls hl h H locs hP hS
      have h : w_X9_reduce_36 x1 K (q_it (fun _ _ => False) (w_X9_reduce_36 x1 K) f) x2 S := h
      generalize q_it (fun _ _ => False) (w_X9_reduce_36 x1 K) f = k36 at h hk36
      refine lv_iload_n X.1 X.2.1 dX9_reduce_36 rfl (lv_at hl 2 rfl) ?_
      refine lv_iconst (v := 4) X.1 X.2.1 dX9_reduce_37 (by decide) ?_
      refine lv_icmp_ge (tgt := 72) X.1 X.2.1 dX9_reduce_38 (by decide) (fun c_1 => ?_) (fun c_1 => ?_)
      · have h := h.1 c_1
        refine lv_aload_n X.1 X.2.1 dX9_reduce_72 rfl (lv_at hl 0 rfl) ?_
        refine gf_X9_rowNumber X hK hP tl_X9_32 dX9_reduce_73 ?_
        refine lv_iconst (v := 0) X.1 X.2.1 dX9_reduce_76 (by decide) ?_
        refine q_iald X hK hP kz_230 (q_vin (by decide)) dX9_reduce_77 ?_
        refine lv_aload_n X.1 X.2.1 dX9_reduce_78 rfl (lv_at hl 0 rfl) ?_
        refine lv_aload_n X.1 X.2.1 dX9_reduce_79 rfl (lv_at hl 0 rfl) ?_
        refine gf_X9_numbers X hK hP tl_X9_17 dX9_reduce_80 ?_
        refine lv_bipush (v := 40) X.1 X.2.1 dX9_reduce_83 (by decide) ?_
        refine lv_iload_n X.1 X.2.1 dX9_reduce_85 rfl (lv_at hl 1 rfl) ?_
        refine lv_imul X.1 X.2.1 dX9_reduce_86 ?_
        obtain ⟨o_2, h⟩ := h
        refine q_iald X hK hP kz_226 o_2 dX9_reduce_87 ?_
        refine q_callV (rest := [.int (S 230 (q_rf 0))]) (b := 224) X hK hP hS (c_X9_inverse l G (S 226 (q_rf (40 * x1))) S _ h) my_X9_inverse tl_X9_141 dX9_reduce_88 kz_224 rfl rfl rfl ⟨Nat.le_of_ble_eq_true rfl, Nat.le_of_ble_eq_true rfl⟩ hl.1 rfl (Nat.le_of_ble_eq_true rfl) ⟨Nat.le_of_ble_eq_true rfl, Nat.le_of_ble_eq_true rfl⟩ (fun r_4 S_3 H locs h hP hS => ?_)
        refine W.eq (g2 := F0 m 91 ls [.int r_4, .int (S 230 (q_rf 0))]) rfl ?_
        refine lv_imul X.1 X.2.1 dX9_reduce_91 ?_
        refine lv_aload_n X.1 X.2.1 dX9_reduce_92 rfl (lv_at hl 0 rfl) ?_
        refine gf_X9_p X hK hP tl_X9_72 dX9_reduce_93 ?_
        obtain ⟨o_5, h⟩ := h
        refine lv_irem X.1 X.2.1 dX9_reduce_96 o_5 ?_
        refine lv_topi (fun x2_6 e2_6 => ?_)
        have h := h x2_6 e2_6
        refine lv_istore_n (lv' := [(2, .int x2_6), (0, .ref (G.1 + 224)), (1, .int x1)]) X.1 X.2.1 dX9_reduce_97 rfl hl (by decide) rfl (fun ls hl => ?_)
        refine lv_aload_n X.1 X.2.1 dX9_reduce_98 rfl (lv_at hl 1 rfl) ?_
        refine lv_iload_n X.1 X.2.1 dX9_reduce_99 rfl (lv_at hl 2 rfl) ?_
        refine lv_aload_n X.1 X.2.1 dX9_reduce_100 rfl (lv_at hl 1 rfl) ?_
        refine gf_X9_p X hK hP tl_X9_72 dX9_reduce_101 ?_
        refine lv_iload_n X.1 X.2.1 dX9_reduce_104 rfl (lv_at hl 0 rfl) ?_
        refine lv_isub X.1 X.2.1 dX9_reduce_105 ?_
        refine lv_aload_n X.1 X.2.1 dX9_reduce_106 rfl (lv_at hl 1 rfl) ?_
        refine gf_X9_p X hK hP tl_X9_72 dX9_reduce_107 ?_
        refine lv_irem X.1 X.2.1 dX9_reduce_110 o_5 ?_
        refine q_callV (rest := []) (b := 224) X hK hP hS (c_X9_addTimes l G x1 (((S_3 224 0) - x2_6) - ((S_3 224 0) - x2_6) / (S_3 224 0) * (S_3 224 0)) S_3 _ h) my_X9_addTimes tl_X9_116 dX9_reduce_111 kz_224 rfl rfl rfl ⟨Nat.le_of_ble_eq_true rfl, Nat.le_of_ble_eq_true rfl⟩ hl.1 rfl (Nat.le_of_ble_eq_true rfl) ⟨Nat.le_of_ble_eq_true rfl, Nat.le_of_ble_eq_true rfl⟩ (fun r_8 S_7 H locs h hP hS => ?_)
        refine W.eq (g2 := F0 m 114 ls [.int r_8]) rfl ?_
        refine lv_if_ne (tgt := 120) X.1 X.2.1 dX9_reduce_114 (by decide) (fun c_9 => ?_) (fun c_9 => ?_)
        · have h := h.1 c_9
          refine lv_aload_n X.1 X.2.1 dX9_reduce_120 rfl (lv_at hl 1 rfl) ?_
          refine q_callV (rest := []) (b := 224) X hK hP hS (c_X9_clean l G S_7 _ h) my_X9_clean tl_X9_110 dX9_reduce_121 kz_224 rfl rfl rfl ⟨Nat.le_of_ble_eq_true rfl, Nat.le_of_ble_eq_true rfl⟩ hl.1 rfl (Nat.le_of_ble_eq_true rfl) ⟨Nat.le_of_ble_eq_true rfl, Nat.le_of_ble_eq_true rfl⟩ (fun r_11 S_10 H locs h hP hS => ?_)
          refine W.eq (g2 := F0 m 124 ls []) rfl ?_
          refine lv_aload_n X.1 X.2.1 dX9_reduce_124 rfl (lv_at hl 1 rfl) ?_
          refine gf_X9_row X hK hP tl_X9_90 dX9_reduce_125 ?_
          refine lv_bipush (v := 40) X.1 X.2.1 dX9_reduce_128 (by decide) ?_
          refine lv_icmp_le (tgt := 138) X.1 X.2.1 dX9_reduce_130 (by decide) (fun c_12 => ?_) (fun c_12 => ?_)
          · have h := h.1 c_12
            refine lv_iconst (v := 0) X.1 X.2.1 dX9_reduce_138 (by decide) ?_
            exact q_iret X hr hlocks hP hS rfl h dX9_reduce_139
          · have h := h.2 c_12
            refine lv_bipush (v := (-6)) X.1 X.2.1 dX9_reduce_133 (by decide) ?_
            refine lv_goto (tgt := 139) X.1 X.2.1 dX9_reduce_135 (by decide) ?_
            exact q_iret X hr hlocks hP hS rfl h dX9_reduce_139
        · have h := h.2 c_9
          refine lv_bipush (v := (-5)) X.1 X.2.1 dX9_reduce_117 (by decide) ?_
          exact q_iret X hr hlocks hP hS rfl h dX9_reduce_119
      · have h := h.2 c_1
        refine lv_aload_n X.1 X.2.1 dX9_reduce_41 rfl (lv_at hl 0 rfl) ?_
        refine gf_X9_by X hK hP tl_X9_41 dX9_reduce_42 ?_
        refine lv_iload_n X.1 X.2.1 dX9_reduce_45 rfl (lv_at hl 2 rfl) ?_
        refine lv_aload_n X.1 X.2.1 dX9_reduce_46 rfl (lv_at hl 0 rfl) ?_
        refine gf_X9_rowExponents X hK hP tl_X9_35 dX9_reduce_47 ?_
        refine lv_iload_n X.1 X.2.1 dX9_reduce_50 rfl (lv_at hl 2 rfl) ?_
        obtain ⟨o_13, h⟩ := h
        refine q_iald X hK hP kz_231 o_13 dX9_reduce_51 ?_
        refine lv_aload_n X.1 X.2.1 dX9_reduce_52 rfl (lv_at hl 0 rfl) ?_
        refine gf_X9_exponents X hK hP tl_X9_20 dX9_reduce_53 ?_
        refine lv_sipush (v := 160) X.1 X.2.1 dX9_reduce_56 (by decide) ?_
        refine lv_iload_n X.1 X.2.1 dX9_reduce_59 rfl (lv_at hl 1 rfl) ?_
        refine lv_imul X.1 X.2.1 dX9_reduce_60 ?_
        refine lv_iload_n X.1 X.2.1 dX9_reduce_61 rfl (lv_at hl 2 rfl) ?_
        refine lv_iadd X.1 X.2.1 dX9_reduce_62 ?_
        obtain ⟨o_14, h⟩ := h
        refine q_iald X hK hP kz_227 o_14 dX9_reduce_63 ?_
        refine lv_isub X.1 X.2.1 dX9_reduce_64 ?_
        obtain ⟨o_15, h⟩ := h
        refine q_iast X hK hP hS kz_233 o_15 dX9_reduce_65 (fun S_16 H locs eS_16 hP hS => ?_)
        have h := h S_16 eS_16
        obtain ⟨x2_17, e2_17⟩ : ∃ y : Int32, y = x2 + 1 := ⟨_, rfl⟩
        have h := h x2_17 e2_17
        refine lv_iinc (v := x2_17) (lv' := [(2, .int x2_17), (0, .ref (G.1 + 224)), (1, .int x1)]) X.1 X.2.1 dX9_reduce_66 hl (k := 2) rfl (by rw [e2_17]; first | rfl | decide) (by decide) rfl (fun ls hl => ?_)
        refine lv_goto (tgt := 36) X.1 X.2.1 dX9_reduce_69 (by decide) ?_
        exact hk36 x2_17 S_16 _ (lv_sub hl [1, 2, 0] rfl) h _ _ hP hS
  refine lv_aload_n X.1 X.2.1 dX9_reduce_0 rfl (lv_at hl 0 rfl) ?_
  refine gf_X9_used X hK hP tl_X9_158 dX9_reduce_1 ?_
  refine lv_aload_n X.1 X.2.1 dX9_reduce_4 rfl (lv_at hl 0 rfl) ?_
  refine gf_X9_fuel X hK hP tl_X9_29 dX9_reduce_5 ?_
  refine lv_icmp_ne (tgt := 14) X.1 X.2.1 dX9_reduce_8 (by decide) (fun c_1 => ?_) (fun c_1 => ?_)
  · have h := h.1 c_1
    refine lv_aload_n X.1 X.2.1 dX9_reduce_14 rfl (lv_at hl 0 rfl) ?_
    refine lv_dup X.1 X.2.1 dX9_reduce_15 rfl ?_
    refine gf_X9_used X hK hP tl_X9_158 dX9_reduce_16 ?_
    refine lv_iconst (v := 1) X.1 X.2.1 dX9_reduce_19 (by decide) ?_
    refine lv_iadd X.1 X.2.1 dX9_reduce_20 ?_
    refine pf_X9_used X hK hP hS tl_X9_158 dX9_reduce_21 (fun S_2 H locs eS_2 hP hS => ?_)
    have h := h S_2 eS_2
    refine lv_aload_n X.1 X.2.1 dX9_reduce_24 rfl (lv_at hl 0 rfl) ?_
    refine lv_dup X.1 X.2.1 dX9_reduce_25 rfl ?_
    refine gf_X9_reductions X hK hP tl_X9_161 dX9_reduce_26 ?_
    refine lv_iconst (v := 1) X.1 X.2.1 dX9_reduce_29 (by decide) ?_
    refine lv_iadd X.1 X.2.1 dX9_reduce_30 ?_
    refine pf_X9_reductions X hK hP hS tl_X9_161 dX9_reduce_31 (fun S_3 H locs eS_3 hP hS => ?_)
    have h := h S_3 eS_3
    refine lv_iconst (v := 0) X.1 X.2.1 dX9_reduce_34 (by decide) ?_
    refine lv_istore_n (lv' := [(2, .int 0), (0, .ref (G.1 + 224)), (1, .int x1)]) X.1 X.2.1 dX9_reduce_35 rfl hl (by decide) rfl (fun ls hl => ?_)
    obtain ⟨f_4, h⟩ := h
    exact B36 f_4 0 S_3 _ (lv_sub hl [1, 2, 0] rfl) h _ _ hP hS
  · have h := h.2 c_1
    refine lv_bipush (v := (-7)) X.1 X.2.1 dX9_reduce_11 (by decide) ?_
    exact q_iret X hr hlocks hP hS rfl h dX9_reduce_13

set_option maxHeartbeats 4000000 in
set_option maxRecDepth 100000 in
theorem c_X9_goOver (l : Launch) (G : Cx) (S : St) (K : Int32 → St → Prop) (h : w_X9_goOver S K) : q_Met l yX9_goOver cX9_goOver 3 (some .int) 0 0 G [.ref (G.1 + 224)] v_i S K := by
  refine q_enter (by decide +kernel) (Nat.le_of_ble_eq_true rfl) (fun p e s m args below meth c ls X hK hP hr hlocks hl => ?_)
  have hS : va_S (fr_ G) s.heap s.heap [] := va_S.rf
  have hl : lv_has ls 3 [(0, .ref (G.1 + 224))] := hl
  have B105 : ∀ (x1 : Int32) (k81 : Int32 → St → Prop) (hk81 : ∀ (x1 : Int32) (S : St) (ls : Array Slot), lv_has ls 3 [(0, .ref (G.1 + 224)), (1, .int x1)] → k81 x1 S → q_W p l e (k2_rm 0 0) s m args below meth c 0 0 (MQ below (q_Qc G K v_i) args s 0 0 (fr_ G)) G 81 ls [] S) (f : Nat) (x2 : Int32) (S : St) (ls : Array Slot), lv_has ls 3 [(0, .ref (G.1 + 224)), (1, .int x1), (2, .int x2)] → q_it (fun _ _ => False) (w_X9_goOver_105 K k81 x1) f x2 S → q_W p l e (k2_rm 0 0) s m args below meth c 0 0 (MQ below (q_Qc G K v_i) args s 0 0 (fr_ G)) G 105 ls [] S := by
    intro x1 k81 hk81 f
    induction f with
    | zero => intro x2 S ls hl h; exact False.elim h
    | succ f hk105 =>
      intro x2 S ls hl h H locs hP hS
      have h : w_X9_goOver_105 K k81 x1 (q_it (fun _ _ => False) (w_X9_goOver_105 K k81 x1) f) x2 S := h
      generalize q_it (fun _ _ => False) (w_X9_goOver_105 K k81 x1) f = k105 at h hk105
      refine lv_iload_n X.1 X.2.1 dX9_goOver_105 rfl (lv_at hl 2 rfl) ?_
      refine lv_iconst (v := 4) X.1 X.2.1 dX9_goOver_106 (by decide) ?_
      refine lv_icmp_ge (tgt := 138) X.1 X.2.1 dX9_goOver_107 (by decide) (fun c_1 => ?_) (fun c_1 => ?_)
      · have h := h.1 c_1
        obtain ⟨x1_2, e1_2⟩ : ∃ y : Int32, y = x1 + 1 := ⟨_, rfl⟩
        have h := h x1_2 e1_2
        refine lv_iinc (v := x1_2) (lv' := [(1, .int x1_2), (0, .ref (G.1 + 224)), (2, .int x2)]) X.1 X.2.1 dX9_goOver_138 hl (k := 1) rfl (by rw [e1_2]; first | rfl | decide) (by decide) rfl (fun ls hl => ?_)
        refine lv_goto (tgt := 81) X.1 X.2.1 dX9_goOver_141 (by decide) ?_
        exact hk81 x1_2 S _ (lv_sub hl [1, 0] rfl) h _ _ hP hS
      · have h := h.2 c_1
        refine lv_aload_n X.1 X.2.1 dX9_goOver_110 rfl (lv_at hl 0 rfl) ?_
        refine gf_X9_rowExponents X hK hP tl_X9_35 dX9_goOver_111 ?_
        refine lv_iconst (v := 4) X.1 X.2.1 dX9_goOver_114 (by decide) ?_
        refine lv_iload_n X.1 X.2.1 dX9_goOver_115 rfl (lv_at hl 1 rfl) ?_
        refine lv_imul X.1 X.2.1 dX9_goOver_116 ?_
        refine lv_iload_n X.1 X.2.1 dX9_goOver_117 rfl (lv_at hl 2 rfl) ?_
        refine lv_iadd X.1 X.2.1 dX9_goOver_118 ?_
        refine lv_aload_n X.1 X.2.1 dX9_goOver_119 rfl (lv_at hl 0 rfl) ?_
        refine gf_X9_rowExponents X hK hP tl_X9_35 dX9_goOver_120 ?_
        refine lv_iconst (v := 4) X.1 X.2.1 dX9_goOver_123 (by decide) ?_
        refine lv_iload_n X.1 X.2.1 dX9_goOver_124 rfl (lv_at hl 1 rfl) ?_
        refine lv_imul X.1 X.2.1 dX9_goOver_125 ?_
        refine lv_iconst (v := 4) X.1 X.2.1 dX9_goOver_126 (by decide) ?_
        refine lv_iadd X.1 X.2.1 dX9_goOver_127 ?_
        refine lv_iload_n X.1 X.2.1 dX9_goOver_128 rfl (lv_at hl 2 rfl) ?_
        refine lv_iadd X.1 X.2.1 dX9_goOver_129 ?_
        obtain ⟨o_3, h⟩ := h
        refine q_iald X hK hP kz_231 o_3 dX9_goOver_130 ?_
        obtain ⟨o_4, h⟩ := h
        refine q_iast X hK hP hS kz_231 o_4 dX9_goOver_131 (fun S_5 H locs eS_5 hP hS => ?_)
        have h := h S_5 eS_5
        obtain ⟨x2_6, e2_6⟩ : ∃ y : Int32, y = x2 + 1 := ⟨_, rfl⟩
        have h := h x2_6 e2_6
        refine lv_iinc (v := x2_6) (lv' := [(2, .int x2_6), (0, .ref (G.1 + 224)), (1, .int x1)]) X.1 X.2.1 dX9_goOver_132 hl (k := 2) rfl (by rw [e2_6]; first | rfl | decide) (by decide) rfl (fun ls hl => ?_)
        refine lv_goto (tgt := 105) X.1 X.2.1 dX9_goOver_135 (by decide) ?_
        exact hk105 x2_6 S_5 _ (lv_sub hl [1, 2, 0] rfl) h _ _ hP hS
  have B81 : ∀ (f : Nat) (x1 : Int32) (S : St) (ls : Array Slot), lv_has ls 3 [(0, .ref (G.1 + 224)), (1, .int x1)] → q_it (fun _ _ => False) (w_X9_goOver_81 K) f x1 S → q_W p l e (k2_rm 0 0) s m args below meth c 0 0 (MQ below (q_Qc G K v_i) args s 0 0 (fr_ G)) G 81 ls [] S := by
    intro f
    induction f with
    | zero => intro x1 S ls hl h; exact False.elim h
    | succ f hk81 =>
      intro x1 S ls hl h H locs hP hS
      have h : w_X9_goOver_81 K (q_it (fun _ _ => False) (w_X9_goOver_81 K) f) x1 S := h
      generalize q_it (fun _ _ => False) (w_X9_goOver_81 K) f = k81 at h hk81
      refine lv_iload_n X.1 X.2.1 dX9_goOver_81 rfl (lv_at hl 1 rfl) ?_
      refine lv_aload_n X.1 X.2.1 dX9_goOver_82 rfl (lv_at hl 0 rfl) ?_
      refine gf_X9_row X hK hP tl_X9_90 dX9_goOver_83 ?_
      refine lv_icmp_ge (tgt := 144) X.1 X.2.1 dX9_goOver_86 (by decide) (fun c_1 => ?_) (fun c_1 => ?_)
      · have h := h.1 c_1
        refine lv_iconst (v := 0) X.1 X.2.1 dX9_goOver_144 (by decide) ?_
        exact q_iret X hr hlocks hP hS rfl h dX9_goOver_145
      · have h := h.2 c_1
        refine lv_aload_n X.1 X.2.1 dX9_goOver_89 rfl (lv_at hl 0 rfl) ?_
        refine gf_X9_rowNumber X hK hP tl_X9_32 dX9_goOver_90 ?_
        refine lv_iload_n X.1 X.2.1 dX9_goOver_93 rfl (lv_at hl 1 rfl) ?_
        refine lv_aload_n X.1 X.2.1 dX9_goOver_94 rfl (lv_at hl 0 rfl) ?_
        refine gf_X9_rowNumber X hK hP tl_X9_32 dX9_goOver_95 ?_
        refine lv_iload_n X.1 X.2.1 dX9_goOver_98 rfl (lv_at hl 1 rfl) ?_
        refine lv_iconst (v := 1) X.1 X.2.1 dX9_goOver_99 (by decide) ?_
        refine lv_iadd X.1 X.2.1 dX9_goOver_100 ?_
        obtain ⟨o_2, h⟩ := h
        refine q_iald X hK hP kz_230 o_2 dX9_goOver_101 ?_
        obtain ⟨o_3, h⟩ := h
        refine q_iast X hK hP hS kz_230 o_3 dX9_goOver_102 (fun S_4 H locs eS_4 hP hS => ?_)
        have h := h S_4 eS_4
        refine lv_iconst (v := 0) X.1 X.2.1 dX9_goOver_103 (by decide) ?_
        refine lv_istore_n (lv' := [(2, .int 0), (0, .ref (G.1 + 224)), (1, .int x1)]) X.1 X.2.1 dX9_goOver_104 rfl hl (by decide) rfl (fun ls hl => ?_)
        obtain ⟨f_5, h⟩ := h
        exact B105 x1 k81 hk81 f_5 0 S_4 _ (lv_sub hl [1, 2, 0] rfl) h _ _ hP hS
  have B29 : ∀ (f : Nat) (x1 : Int32) (S : St) (ls : Array Slot), lv_has ls 3 [(0, .ref (G.1 + 224)), (1, .int x1)] → q_it (fun _ _ => False) (w_X9_goOver_29 K) f x1 S → q_W p l e (k2_rm 0 0) s m args below meth c 0 0 (MQ below (q_Qc G K v_i) args s 0 0 (fr_ G)) G 29 ls [] S := by
    intro f
    induction f with
    | zero => intro x1 S ls hl h; exact False.elim h
    | succ f hk29 =>
      intro x1 S ls hl h H locs hP hS
      have h : w_X9_goOver_29 K (q_it (fun _ _ => False) (w_X9_goOver_29 K) f) x1 S := h
      generalize q_it (fun _ _ => False) (w_X9_goOver_29 K) f = k29 at h hk29
      refine lv_iload_n X.1 X.2.1 dX9_goOver_29 rfl (lv_at hl 1 rfl) ?_
      refine lv_iconst (v := 4) X.1 X.2.1 dX9_goOver_30 (by decide) ?_
      refine lv_icmp_ge (tgt := 59) X.1 X.2.1 dX9_goOver_31 (by decide) (fun c_1 => ?_) (fun c_1 => ?_)
      · have h := h.1 c_1
        refine lv_aload_n X.1 X.2.1 dX9_goOver_59 rfl (lv_at hl 0 rfl) ?_
        refine lv_dup X.1 X.2.1 dX9_goOver_60 rfl ?_
        refine gf_X9_rest X hK hP tl_X9_164 dX9_goOver_61 ?_
        refine lv_iconst (v := 1) X.1 X.2.1 dX9_goOver_64 (by decide) ?_
        refine lv_iadd X.1 X.2.1 dX9_goOver_65 ?_
        refine pf_X9_rest X hK hP hS tl_X9_164 dX9_goOver_66 (fun S_2 H locs eS_2 hP hS => ?_)
        have h := h S_2 eS_2
        refine lv_aload_n X.1 X.2.1 dX9_goOver_69 rfl (lv_at hl 0 rfl) ?_
        refine lv_dup X.1 X.2.1 dX9_goOver_70 rfl ?_
        refine gf_X9_row X hK hP tl_X9_90 dX9_goOver_71 ?_
        refine lv_iconst (v := 1) X.1 X.2.1 dX9_goOver_74 (by decide) ?_
        refine lv_isub X.1 X.2.1 dX9_goOver_75 ?_
        refine pf_X9_row X hK hP hS tl_X9_90 dX9_goOver_76 (fun S_3 H locs eS_3 hP hS => ?_)
        have h := h S_3 eS_3
        refine lv_iconst (v := 0) X.1 X.2.1 dX9_goOver_79 (by decide) ?_
        refine lv_istore_n (lv' := [(1, .int 0), (0, .ref (G.1 + 224))]) X.1 X.2.1 dX9_goOver_80 rfl hl (by decide) rfl (fun ls hl => ?_)
        obtain ⟨f_4, h⟩ := h
        exact B81 f_4 0 S_3 _ (lv_sub hl [1, 0] rfl) h _ _ hP hS
      · have h := h.2 c_1
        refine lv_aload_n X.1 X.2.1 dX9_goOver_34 rfl (lv_at hl 0 rfl) ?_
        refine gf_X9_restExponents X hK hP tl_X9_56 dX9_goOver_35 ?_
        refine lv_iconst (v := 4) X.1 X.2.1 dX9_goOver_38 (by decide) ?_
        refine lv_aload_n X.1 X.2.1 dX9_goOver_39 rfl (lv_at hl 0 rfl) ?_
        refine gf_X9_rest X hK hP tl_X9_164 dX9_goOver_40 ?_
        refine lv_imul X.1 X.2.1 dX9_goOver_43 ?_
        refine lv_iload_n X.1 X.2.1 dX9_goOver_44 rfl (lv_at hl 1 rfl) ?_
        refine lv_iadd X.1 X.2.1 dX9_goOver_45 ?_
        refine lv_aload_n X.1 X.2.1 dX9_goOver_46 rfl (lv_at hl 0 rfl) ?_
        refine gf_X9_rowExponents X hK hP tl_X9_35 dX9_goOver_47 ?_
        refine lv_iload_n X.1 X.2.1 dX9_goOver_50 rfl (lv_at hl 1 rfl) ?_
        obtain ⟨o_5, h⟩ := h
        refine q_iald X hK hP kz_231 o_5 dX9_goOver_51 ?_
        obtain ⟨o_6, h⟩ := h
        refine q_iast X hK hP hS kz_238 o_6 dX9_goOver_52 (fun S_7 H locs eS_7 hP hS => ?_)
        have h := h S_7 eS_7
        obtain ⟨x1_8, e1_8⟩ : ∃ y : Int32, y = x1 + 1 := ⟨_, rfl⟩
        have h := h x1_8 e1_8
        refine lv_iinc (v := x1_8) (lv' := [(1, .int x1_8), (0, .ref (G.1 + 224))]) X.1 X.2.1 dX9_goOver_53 hl (k := 1) rfl (by rw [e1_8]; first | rfl | decide) (by decide) rfl (fun ls hl => ?_)
        refine lv_goto (tgt := 29) X.1 X.2.1 dX9_goOver_56 (by decide) ?_
        exact hk29 x1_8 S_7 _ (lv_sub hl [1, 0] rfl) h _ _ hP hS
  refine lv_aload_n X.1 X.2.1 dX9_goOver_0 rfl (lv_at hl 0 rfl) ?_
  refine gf_X9_rest X hK hP tl_X9_164 dX9_goOver_1 ?_
  refine lv_bipush (v := 40) X.1 X.2.1 dX9_goOver_4 (by decide) ?_
  refine lv_icmp_ne (tgt := 12) X.1 X.2.1 dX9_goOver_6 (by decide) (fun c_1 => ?_) (fun c_1 => ?_)
  · have h := h.1 c_1
    refine lv_aload_n X.1 X.2.1 dX9_goOver_12 rfl (lv_at hl 0 rfl) ?_
    refine gf_X9_restNumber X hK hP tl_X9_53 dX9_goOver_13 ?_
    refine lv_aload_n X.1 X.2.1 dX9_goOver_16 rfl (lv_at hl 0 rfl) ?_
    refine gf_X9_rest X hK hP tl_X9_164 dX9_goOver_17 ?_
    refine lv_aload_n X.1 X.2.1 dX9_goOver_20 rfl (lv_at hl 0 rfl) ?_
    refine gf_X9_rowNumber X hK hP tl_X9_32 dX9_goOver_21 ?_
    refine lv_iconst (v := 0) X.1 X.2.1 dX9_goOver_24 (by decide) ?_
    refine q_iald X hK hP kz_230 (q_vin (by decide)) dX9_goOver_25 ?_
    obtain ⟨o_2, h⟩ := h
    refine q_iast X hK hP hS kz_237 o_2 dX9_goOver_26 (fun S_3 H locs eS_3 hP hS => ?_)
    have h := h S_3 eS_3
    refine lv_iconst (v := 0) X.1 X.2.1 dX9_goOver_27 (by decide) ?_
    refine lv_istore_n (lv' := [(1, .int 0), (0, .ref (G.1 + 224))]) X.1 X.2.1 dX9_goOver_28 rfl hl (by decide) rfl (fun ls hl => ?_)
    obtain ⟨f_4, h⟩ := h
    exact B29 f_4 0 S_3 _ (lv_sub hl [1, 0] rfl) h _ _ hP hS
  · have h := h.2 c_1
    refine lv_bipush (v := (-6)) X.1 X.2.1 dX9_goOver_9 (by decide) ?_
    exact q_iret X hr hlocks hP hS rfl h dX9_goOver_11

set_option maxHeartbeats 4000000 in
set_option maxRecDepth 100000 in
theorem c_X9_leave (l : Launch) (G : Cx) (S : St) (K : Int32 → St → Prop) (h : w_X9_leave S K) : q_Met l yX9_leave cX9_leave 3 (some .int) 5 124 G [.ref (G.1 + 224)] v_i S K := by
  refine q_enter (by decide +kernel) (Nat.le_of_ble_eq_true rfl) (fun p e s m args below meth c ls X hK hP hr hlocks hl => ?_)
  have hS : va_S (fr_ G) s.heap s.heap [] := va_S.rf
  have hl : lv_has ls 3 [(0, .ref (G.1 + 224))] := hl
  have B76 : ∀ (x1 : Int32) (k54 : Int32 → St → Prop) (hk54 : ∀ (x1 : Int32) (S : St) (ls : Array Slot), lv_has ls 3 [(0, .ref (G.1 + 224)), (1, .int x1)] → k54 x1 S → q_W p l e (k2_rm 5 124) s m args below meth c 0 0 (MQ below (q_Qc G K v_i) args s 0 0 (fr_ G)) G 54 ls [] S) (f : Nat) (x2 : Int32) (S : St) (ls : Array Slot), lv_has ls 3 [(0, .ref (G.1 + 224)), (1, .int x1), (2, .int x2)] → q_it (fun _ _ => False) (w_X9_leave_76 K k54 x1) f x2 S → q_W p l e (k2_rm 5 124) s m args below meth c 0 0 (MQ below (q_Qc G K v_i) args s 0 0 (fr_ G)) G 76 ls [] S := by
    intro x1 k54 hk54 f
    induction f with
    | zero => intro x2 S ls hl h; exact False.elim h
    | succ f hk76 =>
      intro x2 S ls hl h H locs hP hS
      have h : w_X9_leave_76 K k54 x1 (q_it (fun _ _ => False) (w_X9_leave_76 K k54 x1) f) x2 S := h
      generalize q_it (fun _ _ => False) (w_X9_leave_76 K k54 x1) f = k76 at h hk76
      refine lv_iload_n X.1 X.2.1 dX9_leave_76 rfl (lv_at hl 2 rfl) ?_
      refine lv_iconst (v := 4) X.1 X.2.1 dX9_leave_77 (by decide) ?_
      refine lv_icmp_ge (tgt := 107) X.1 X.2.1 dX9_leave_78 (by decide) (fun c_1 => ?_) (fun c_1 => ?_)
      · have h := h.1 c_1
        obtain ⟨x1_2, e1_2⟩ : ∃ y : Int32, y = x1 + 1 := ⟨_, rfl⟩
        have h := h x1_2 e1_2
        refine lv_iinc (v := x1_2) (lv' := [(1, .int x1_2), (0, .ref (G.1 + 224)), (2, .int x2)]) X.1 X.2.1 dX9_leave_107 hl (k := 1) rfl (by rw [e1_2]; first | rfl | decide) (by decide) rfl (fun ls hl => ?_)
        refine lv_goto (tgt := 54) X.1 X.2.1 dX9_leave_110 (by decide) ?_
        exact hk54 x1_2 S _ (lv_sub hl [1, 0] rfl) h _ _ hP hS
      · have h := h.2 c_1
        refine lv_aload_n X.1 X.2.1 dX9_leave_81 rfl (lv_at hl 0 rfl) ?_
        refine gf_X9_rowExponents X hK hP tl_X9_35 dX9_leave_82 ?_
        refine lv_iconst (v := 4) X.1 X.2.1 dX9_leave_85 (by decide) ?_
        refine lv_iload_n X.1 X.2.1 dX9_leave_86 rfl (lv_at hl 1 rfl) ?_
        refine lv_imul X.1 X.2.1 dX9_leave_87 ?_
        refine lv_iload_n X.1 X.2.1 dX9_leave_88 rfl (lv_at hl 2 rfl) ?_
        refine lv_iadd X.1 X.2.1 dX9_leave_89 ?_
        refine lv_aload_n X.1 X.2.1 dX9_leave_90 rfl (lv_at hl 0 rfl) ?_
        refine gf_X9_restExponents X hK hP tl_X9_56 dX9_leave_91 ?_
        refine lv_iconst (v := 4) X.1 X.2.1 dX9_leave_94 (by decide) ?_
        refine lv_iload_n X.1 X.2.1 dX9_leave_95 rfl (lv_at hl 1 rfl) ?_
        refine lv_imul X.1 X.2.1 dX9_leave_96 ?_
        refine lv_iload_n X.1 X.2.1 dX9_leave_97 rfl (lv_at hl 2 rfl) ?_
        refine lv_iadd X.1 X.2.1 dX9_leave_98 ?_
        obtain ⟨o_3, h⟩ := h
        refine q_iald X hK hP kz_238 o_3 dX9_leave_99 ?_
        obtain ⟨o_4, h⟩ := h
        refine q_iast X hK hP hS kz_231 o_4 dX9_leave_100 (fun S_5 H locs eS_5 hP hS => ?_)
        have h := h S_5 eS_5
        obtain ⟨x2_6, e2_6⟩ : ∃ y : Int32, y = x2 + 1 := ⟨_, rfl⟩
        have h := h x2_6 e2_6
        refine lv_iinc (v := x2_6) (lv' := [(2, .int x2_6), (0, .ref (G.1 + 224)), (1, .int x1)]) X.1 X.2.1 dX9_leave_101 hl (k := 2) rfl (by rw [e2_6]; first | rfl | decide) (by decide) rfl (fun ls hl => ?_)
        refine lv_goto (tgt := 76) X.1 X.2.1 dX9_leave_104 (by decide) ?_
        exact hk76 x2_6 S_5 _ (lv_sub hl [1, 2, 0] rfl) h _ _ hP hS
  have B54 : ∀ (f : Nat) (x1 : Int32) (S : St) (ls : Array Slot), lv_has ls 3 [(0, .ref (G.1 + 224)), (1, .int x1)] → q_it (fun _ _ => False) (w_X9_leave_54 K) f x1 S → q_W p l e (k2_rm 5 124) s m args below meth c 0 0 (MQ below (q_Qc G K v_i) args s 0 0 (fr_ G)) G 54 ls [] S := by
    intro f
    induction f with
    | zero => intro x1 S ls hl h; exact False.elim h
    | succ f hk54 =>
      intro x1 S ls hl h H locs hP hS
      have h : w_X9_leave_54 K (q_it (fun _ _ => False) (w_X9_leave_54 K) f) x1 S := h
      generalize q_it (fun _ _ => False) (w_X9_leave_54 K) f = k54 at h hk54
      refine lv_iload_n X.1 X.2.1 dX9_leave_54 rfl (lv_at hl 1 rfl) ?_
      refine lv_aload_n X.1 X.2.1 dX9_leave_55 rfl (lv_at hl 0 rfl) ?_
      refine gf_X9_rest X hK hP tl_X9_164 dX9_leave_56 ?_
      refine lv_icmp_ge (tgt := 113) X.1 X.2.1 dX9_leave_59 (by decide) (fun c_1 => ?_) (fun c_1 => ?_)
      · have h := h.1 c_1
        refine lv_iconst (v := 0) X.1 X.2.1 dX9_leave_113 (by decide) ?_
        exact q_iret X hr hlocks hP hS rfl h dX9_leave_114
      · have h := h.2 c_1
        refine lv_aload_n X.1 X.2.1 dX9_leave_62 rfl (lv_at hl 0 rfl) ?_
        refine gf_X9_rowNumber X hK hP tl_X9_32 dX9_leave_63 ?_
        refine lv_iload_n X.1 X.2.1 dX9_leave_66 rfl (lv_at hl 1 rfl) ?_
        refine lv_aload_n X.1 X.2.1 dX9_leave_67 rfl (lv_at hl 0 rfl) ?_
        refine gf_X9_restNumber X hK hP tl_X9_53 dX9_leave_68 ?_
        refine lv_iload_n X.1 X.2.1 dX9_leave_71 rfl (lv_at hl 1 rfl) ?_
        obtain ⟨o_2, h⟩ := h
        refine q_iald X hK hP kz_237 o_2 dX9_leave_72 ?_
        obtain ⟨o_3, h⟩ := h
        refine q_iast X hK hP hS kz_230 o_3 dX9_leave_73 (fun S_4 H locs eS_4 hP hS => ?_)
        have h := h S_4 eS_4
        refine lv_iconst (v := 0) X.1 X.2.1 dX9_leave_74 (by decide) ?_
        refine lv_istore_n (lv' := [(2, .int 0), (0, .ref (G.1 + 224)), (1, .int x1)]) X.1 X.2.1 dX9_leave_75 rfl hl (by decide) rfl (fun ls hl => ?_)
        obtain ⟨f_5, h⟩ := h
        exact B76 x1 k54 hk54 f_5 0 S_4 _ (lv_sub hl [1, 2, 0] rfl) h _ _ hP hS
  have B34 : ∀ (z0 : Int32) (k5 : St → Prop) (hk5 : ∀ (S : St) (ls : Array Slot), lv_has ls 3 [(0, .ref (G.1 + 224))] → k5 S → q_W p l e (k2_rm 5 124) s m args below meth c 0 0 (MQ below (q_Qc G K v_i) args s 0 0 (fr_ G)) G 5 ls [] S) (S : St) (ls : Array Slot), lv_has ls 3 [(0, .ref (G.1 + 224))] → w_X9_leave_34 K k5 z0 S → q_W p l e (k2_rm 5 124) s m args below meth c 0 0 (MQ below (q_Qc G K v_i) args s 0 0 (fr_ G)) G 34 ls [.int z0] S := by
    intro z0 k5 hk5 S ls hl h H locs hP hS
    refine lv_istore_n (lv' := [(2, .int z0), (0, .ref (G.1 + 224))]) X.1 X.2.1 dX9_leave_34 rfl hl (by decide) rfl (fun ls hl => ?_)
    refine lv_iload_n X.1 X.2.1 dX9_leave_35 rfl (lv_at hl 0 rfl) ?_
    refine lv_if_ge (tgt := 41) X.1 X.2.1 dX9_leave_36 (by decide) (fun c_1 => ?_) (fun c_1 => ?_)
    · have h := h.1 c_1
      refine lv_goto (tgt := 5) X.1 X.2.1 dX9_leave_41 (by decide) ?_
      exact hk5 S _ (lv_sub hl [1] rfl) h _ _ hP hS
    · have h := h.2 c_1
      refine lv_iload_n X.1 X.2.1 dX9_leave_39 rfl (lv_at hl 0 rfl) ?_
      exact q_iret X hr hlocks hP hS rfl h dX9_leave_40
  have B5 : ∀ (f : Nat) (S : St) (ls : Array Slot), lv_has ls 3 [(0, .ref (G.1 + 224))] → q_it (fun _ => False) (w_X9_leave_5 K) f S → q_W p l e (k2_rm 5 124) s m args below meth c 0 0 (MQ below (q_Qc G K v_i) args s 0 0 (fr_ G)) G 5 ls [] S := by
    intro f
    induction f with
    | zero => intro S ls hl h; exact False.elim h
    | succ f hk5 =>
      intro S ls hl h H locs hP hS
      have h : w_X9_leave_5 K (q_it (fun _ => False) (w_X9_leave_5 K) f) S := h
      generalize q_it (fun _ => False) (w_X9_leave_5 K) f = k5 at h hk5
      refine lv_aload_n X.1 X.2.1 dX9_leave_5 rfl (lv_at hl 0 rfl) ?_
      refine gf_X9_row X hK hP tl_X9_90 dX9_leave_6 ?_
      refine lv_if_le (tgt := 44) X.1 X.2.1 dX9_leave_9 (by decide) (fun c_1 => ?_) (fun c_1 => ?_)
      · have h := h.1 c_1
        refine lv_aload_n X.1 X.2.1 dX9_leave_44 rfl (lv_at hl 0 rfl) ?_
        refine lv_aload_n X.1 X.2.1 dX9_leave_45 rfl (lv_at hl 0 rfl) ?_
        refine gf_X9_rest X hK hP tl_X9_164 dX9_leave_46 ?_
        refine pf_X9_row X hK hP hS tl_X9_90 dX9_leave_49 (fun S_2 H locs eS_2 hP hS => ?_)
        have h := h S_2 eS_2
        refine lv_iconst (v := 0) X.1 X.2.1 dX9_leave_52 (by decide) ?_
        refine lv_istore_n (lv' := [(1, .int 0), (0, .ref (G.1 + 224))]) X.1 X.2.1 dX9_leave_53 rfl hl (by decide) rfl (fun ls hl => ?_)
        obtain ⟨f_3, h⟩ := h
        exact B54 f_3 0 S_2 _ (lv_sub hl [1, 0] rfl) h _ _ hP hS
      · have h := h.2 c_1
        refine lv_aload_n X.1 X.2.1 dX9_leave_12 rfl (lv_at hl 0 rfl) ?_
        refine q_callV (rest := []) (b := 224) X hK hP hS (c_X9_reducer l G S _ h) my_X9_reducer tl_X9_166 dX9_leave_13 kz_224 rfl rfl rfl ⟨Nat.le_of_ble_eq_true rfl, Nat.le_of_ble_eq_true rfl⟩ hl.1 rfl (Nat.le_of_ble_eq_true rfl) ⟨Nat.le_of_ble_eq_true rfl, Nat.le_of_ble_eq_true rfl⟩ (fun r_5 S_4 H locs h hP hS => ?_)
        refine W.eq (g2 := F0 m 16 ls [.int r_5]) rfl ?_
        refine lv_istore_n (lv' := [(1, .int r_5), (0, .ref (G.1 + 224))]) X.1 X.2.1 dX9_leave_16 rfl hl (by decide) rfl (fun ls hl => ?_)
        refine lv_iload_n X.1 X.2.1 dX9_leave_17 rfl (lv_at hl 0 rfl) ?_
        refine lv_iconst (v := (-1)) X.1 X.2.1 dX9_leave_18 (by decide) ?_
        refine lv_icmp_ne (tgt := 29) X.1 X.2.1 dX9_leave_19 (by decide) (fun c_6 => ?_) (fun c_6 => ?_)
        · have h := h.1 c_6
          refine lv_aload_n X.1 X.2.1 dX9_leave_29 rfl (lv_at hl 1 rfl) ?_
          refine lv_iload_n X.1 X.2.1 dX9_leave_30 rfl (lv_at hl 0 rfl) ?_
          refine q_callV (rest := []) (b := 224) X hK hP hS (c_X9_reduce l G r_5 S_4 _ h) my_X9_reduce tl_X9_172 dX9_leave_31 kz_224 rfl rfl rfl ⟨Nat.le_of_ble_eq_true rfl, Nat.le_of_ble_eq_true rfl⟩ hl.1 rfl (Nat.le_of_ble_eq_true rfl) ⟨Nat.le_of_ble_eq_true rfl, Nat.le_of_ble_eq_true rfl⟩ (fun r_8 S_7 H locs h hP hS => ?_)
          refine W.eq (g2 := F0 m 34 ls [.int r_8]) rfl ?_
          exact B34 r_8 k5 hk5 S_7 _ (lv_sub hl [1] rfl) h _ _ hP hS
        · have h := h.2 c_6
          refine lv_aload_n X.1 X.2.1 dX9_leave_22 rfl (lv_at hl 1 rfl) ?_
          refine q_callV (rest := []) (b := 224) X hK hP hS (c_X9_goOver l G S_4 _ h) my_X9_goOver tl_X9_169 dX9_leave_23 kz_224 rfl rfl rfl ⟨Nat.le_of_ble_eq_true rfl, Nat.le_of_ble_eq_true rfl⟩ hl.1 rfl (Nat.le_of_ble_eq_true rfl) ⟨Nat.le_of_ble_eq_true rfl, Nat.le_of_ble_eq_true rfl⟩ (fun r_10 S_9 H locs h hP hS => ?_)
          refine W.eq (g2 := F0 m 26 ls [.int r_10]) rfl ?_
          refine lv_goto (tgt := 34) X.1 X.2.1 dX9_leave_26 (by decide) ?_
          exact B34 r_10 k5 hk5 S_9 _ (lv_sub hl [1] rfl) h _ _ hP hS
  refine lv_aload_n X.1 X.2.1 dX9_leave_0 rfl (lv_at hl 0 rfl) ?_
  refine lv_iconst (v := 0) X.1 X.2.1 dX9_leave_1 (by decide) ?_
  refine pf_X9_rest X hK hP hS tl_X9_164 dX9_leave_2 (fun S_1 H locs eS_1 hP hS => ?_)
  have h := h S_1 eS_1
  obtain ⟨f_2, h⟩ := h
  exact B5 f_2 S_1 _ (lv_sub hl [0] rfl) h _ _ hP hS

set_option maxHeartbeats 4000000 in
set_option maxRecDepth 100000 in
theorem c_X9_byBasis (l : Launch) (G : Cx) (S : St) (K : Unit → St → Prop) (h : w_X9_byBasis S K) : q_Met l yX9_byBasis cX9_byBasis 2 none 0 0 G [.ref (G.1 + 224)] v_v S K := by
  refine q_enter (by decide +kernel) (Nat.le_of_ble_eq_true rfl) (fun p e s m args below meth c ls X hK hP hr hlocks hl => ?_)
  have hS : va_S (fr_ G) s.heap s.heap [] := va_S.rf
  have hl : lv_has ls 2 [(0, .ref (G.1 + 224))] := hl
  have B10 : ∀ (f : Nat) (x1 : Int32) (S : St) (ls : Array Slot), lv_has ls 2 [(0, .ref (G.1 + 224)), (1, .int x1)] → q_it (fun _ _ => False) (w_X9_byBasis_10 K) f x1 S → q_W p l e (k2_rm 0 0) s m args below meth c 0 0 (MQ below (q_Qc G K v_v) args s 0 0 (fr_ G)) G 10 ls [] S := by
    intro f
    induction f with
    | zero => intro x1 S ls hl h; exact False.elim h
    | succ f hk10 =>
      intro x1 S ls hl h H locs hP hS
      have h : w_X9_byBasis_10 K (q_it (fun _ _ => False) (w_X9_byBasis_10 K) f) x1 S := h
      generalize q_it (fun _ _ => False) (w_X9_byBasis_10 K) f = k10 at h hk10
      refine lv_iload_n X.1 X.2.1 dX9_byBasis_10 rfl (lv_at hl 1 rfl) ?_
      refine lv_aload_n X.1 X.2.1 dX9_byBasis_11 rfl (lv_at hl 0 rfl) ?_
      refine gf_X9_basis X hK hP tl_X9_107 dX9_byBasis_12 ?_
      refine lv_icmp_ge (tgt := 34) X.1 X.2.1 dX9_byBasis_15 (by decide) (fun c_1 => ?_) (fun c_1 => ?_)
      · have h := h.1 c_1
        exact q_vret X hr hlocks hP hS h dX9_byBasis_34
      · have h := h.2 c_1
        refine lv_aload_n X.1 X.2.1 dX9_byBasis_18 rfl (lv_at hl 0 rfl) ?_
        refine gf_X9_place X hK hP tl_X9_50 dX9_byBasis_19 ?_
        refine lv_iload_n X.1 X.2.1 dX9_byBasis_22 rfl (lv_at hl 1 rfl) ?_
        refine lv_bipush (v := 25) X.1 X.2.1 dX9_byBasis_23 (by decide) ?_
        refine lv_iload_n X.1 X.2.1 dX9_byBasis_25 rfl (lv_at hl 1 rfl) ?_
        refine lv_iadd X.1 X.2.1 dX9_byBasis_26 ?_
        obtain ⟨o_2, h⟩ := h
        refine q_iast X hK hP hS kz_236 o_2 dX9_byBasis_27 (fun S_3 H locs eS_3 hP hS => ?_)
        have h := h S_3 eS_3
        obtain ⟨x1_4, e1_4⟩ : ∃ y : Int32, y = x1 + 1 := ⟨_, rfl⟩
        have h := h x1_4 e1_4
        refine lv_iinc (v := x1_4) (lv' := [(1, .int x1_4), (0, .ref (G.1 + 224))]) X.1 X.2.1 dX9_byBasis_28 hl (k := 1) rfl (by rw [e1_4]; first | rfl | decide) (by decide) rfl (fun ls hl => ?_)
        refine lv_goto (tgt := 10) X.1 X.2.1 dX9_byBasis_31 (by decide) ?_
        exact hk10 x1_4 S_3 _ (lv_sub hl [1, 0] rfl) h _ _ hP hS
  refine lv_aload_n X.1 X.2.1 dX9_byBasis_0 rfl (lv_at hl 0 rfl) ?_
  refine lv_aload_n X.1 X.2.1 dX9_byBasis_1 rfl (lv_at hl 0 rfl) ?_
  refine gf_X9_basis X hK hP tl_X9_107 dX9_byBasis_2 ?_
  refine pf_X9_places X hK hP hS tl_X9_151 dX9_byBasis_5 (fun S_1 H locs eS_1 hP hS => ?_)
  have h := h S_1 eS_1
  refine lv_iconst (v := 0) X.1 X.2.1 dX9_byBasis_8 (by decide) ?_
  refine lv_istore_n (lv' := [(1, .int 0), (0, .ref (G.1 + 224))]) X.1 X.2.1 dX9_byBasis_9 rfl hl (by decide) rfl (fun ls hl => ?_)
  obtain ⟨f_2, h⟩ := h
  exact B10 f_2 0 S_1 _ (lv_sub hl [1, 0] rfl) h _ _ hP hS

set_option maxHeartbeats 4000000 in
set_option maxRecDepth 100000 in
theorem c_X9_fuel (l : Launch) (G : Cx) (x1 : Int32) (S : St) (K : Int32 → St → Prop) (h : w_X9_fuel x1 S K) : q_Met l yX9_fuel cX9_fuel 3 (some .int) 1 22 G [.ref (G.1 + 224), .int x1] v_i S K := by
  refine q_enter (by decide +kernel) (Nat.le_of_ble_eq_true rfl) (fun p e s m args below meth c ls X hK hP hr hlocks hl => ?_)
  have hS : va_S (fr_ G) s.heap s.heap [] := va_S.rf
  have hl : lv_has ls 3 [(0, .ref (G.1 + 224)), (1, .int x1)] := hl
  refine lv_iload_n X.1 X.2.1 dX9_fuel_0 rfl (lv_at hl 1 rfl) ?_
  refine lv_iconst (v := 0) X.1 X.2.1 dX9_fuel_1 (by decide) ?_
  refine lv_sipush (v := 2000) X.1 X.2.1 dX9_fuel_2 (by decide) ?_
  refine q_callS (rest := []) X hK hP hS (c_X9_in l G x1 0 2000 S _ h) my_X9_in tl_X9_78 dX9_fuel_5 rfl ⟨Nat.le_of_ble_eq_true rfl, Nat.le_of_ble_eq_true rfl⟩ hl.1 rfl (Nat.le_of_ble_eq_true rfl) ⟨Nat.le_of_ble_eq_true rfl, Nat.le_of_ble_eq_true rfl⟩ (fun r_2 S_1 H locs h hP hS => ?_)
  refine W.eq (g2 := F0 m 8 ls [.int r_2]) rfl ?_
  refine lv_if_ne (tgt := 14) X.1 X.2.1 dX9_fuel_8 (by decide) (fun c_3 => ?_) (fun c_3 => ?_)
  · have h := h.1 c_3
    refine lv_aload_n X.1 X.2.1 dX9_fuel_14 rfl (lv_at hl 0 rfl) ?_
    refine gf_X9_fuel X hK hP tl_X9_29 dX9_fuel_15 ?_
    refine lv_topi (fun x2_4 e2_4 => ?_)
    have h := h x2_4 e2_4
    refine lv_istore_n (lv' := [(2, .int x2_4), (0, .ref (G.1 + 224)), (1, .int x1)]) X.1 X.2.1 dX9_fuel_18 rfl hl (by decide) rfl (fun ls hl => ?_)
    refine lv_aload_n X.1 X.2.1 dX9_fuel_19 rfl (lv_at hl 1 rfl) ?_
    refine lv_iload_n X.1 X.2.1 dX9_fuel_20 rfl (lv_at hl 2 rfl) ?_
    refine pf_X9_fuel X hK hP hS tl_X9_29 dX9_fuel_21 (fun S_5 H locs eS_5 hP hS => ?_)
    have h := h S_5 eS_5
    refine lv_iload_n X.1 X.2.1 dX9_fuel_24 rfl (lv_at hl 0 rfl) ?_
    exact q_iret X hr hlocks hP hS rfl h dX9_fuel_25
  · have h := h.2 c_3
    refine lv_bipush (v := (-2)) X.1 X.2.1 dX9_fuel_11 (by decide) ?_
    exact q_iret X hr hlocks hP hS rfl h dX9_fuel_13

set_option maxHeartbeats 4000000 in
set_option maxRecDepth 100000 in
theorem c_X9_way (l : Launch) (G : Cx) (x1 : Int32) (S : St) (K : Int32 → St → Prop) (h : w_X9_way x1 S K) : q_Met l yX9_way cX9_way 3 (some .int) 1 22 G [.ref (G.1 + 224), .int x1] v_i S K := by
  refine q_enter (by decide +kernel) (Nat.le_of_ble_eq_true rfl) (fun p e s m args below meth c ls X hK hP hr hlocks hl => ?_)
  have hS : va_S (fr_ G) s.heap s.heap [] := va_S.rf
  have hl : lv_has ls 3 [(0, .ref (G.1 + 224)), (1, .int x1)] := hl
  refine lv_iload_n X.1 X.2.1 dX9_way_0 rfl (lv_at hl 1 rfl) ?_
  refine lv_iconst (v := 0) X.1 X.2.1 dX9_way_1 (by decide) ?_
  refine lv_iconst (v := 1) X.1 X.2.1 dX9_way_2 (by decide) ?_
  refine q_callS (rest := []) X hK hP hS (c_X9_in l G x1 0 1 S _ h) my_X9_in tl_X9_78 dX9_way_3 rfl ⟨Nat.le_of_ble_eq_true rfl, Nat.le_of_ble_eq_true rfl⟩ hl.1 rfl (Nat.le_of_ble_eq_true rfl) ⟨Nat.le_of_ble_eq_true rfl, Nat.le_of_ble_eq_true rfl⟩ (fun r_2 S_1 H locs h hP hS => ?_)
  refine W.eq (g2 := F0 m 6 ls [.int r_2]) rfl ?_
  refine lv_if_ne (tgt := 12) X.1 X.2.1 dX9_way_6 (by decide) (fun c_3 => ?_) (fun c_3 => ?_)
  · have h := h.1 c_3
    refine lv_aload_n X.1 X.2.1 dX9_way_12 rfl (lv_at hl 0 rfl) ?_
    refine gf_X9_way X hK hP tl_X9_175 dX9_way_13 ?_
    refine lv_topi (fun x2_4 e2_4 => ?_)
    have h := h x2_4 e2_4
    refine lv_istore_n (lv' := [(2, .int x2_4), (0, .ref (G.1 + 224)), (1, .int x1)]) X.1 X.2.1 dX9_way_16 rfl hl (by decide) rfl (fun ls hl => ?_)
    refine lv_aload_n X.1 X.2.1 dX9_way_17 rfl (lv_at hl 1 rfl) ?_
    refine lv_iload_n X.1 X.2.1 dX9_way_18 rfl (lv_at hl 2 rfl) ?_
    refine pf_X9_way X hK hP hS tl_X9_175 dX9_way_19 (fun S_5 H locs eS_5 hP hS => ?_)
    have h := h S_5 eS_5
    refine lv_iload_n X.1 X.2.1 dX9_way_22 rfl (lv_at hl 0 rfl) ?_
    exact q_iret X hr hlocks hP hS rfl h dX9_way_23
  · have h := h.2 c_3
    refine lv_bipush (v := (-2)) X.1 X.2.1 dX9_way_9 (by decide) ?_
    exact q_iret X hr hlocks hP hS rfl h dX9_way_11

set_option maxHeartbeats 4000000 in
set_option maxRecDepth 100000 in
theorem c_X9_rules (l : Launch) (G : Cx) (x1 : Int32) (S : St) (K : Int32 → St → Prop) (h : w_X9_rules x1 S K) : q_Met l yX9_rules cX9_rules 3 (some .int) 1 22 G [.ref (G.1 + 224), .int x1] v_i S K := by
  refine q_enter (by decide +kernel) (Nat.le_of_ble_eq_true rfl) (fun p e s m args below meth c ls X hK hP hr hlocks hl => ?_)
  have hS : va_S (fr_ G) s.heap s.heap [] := va_S.rf
  have hl : lv_has ls 3 [(0, .ref (G.1 + 224)), (1, .int x1)] := hl
  refine lv_iload_n X.1 X.2.1 dX9_rules_0 rfl (lv_at hl 1 rfl) ?_
  refine lv_iconst (v := 0) X.1 X.2.1 dX9_rules_1 (by decide) ?_
  refine lv_iconst (v := 3) X.1 X.2.1 dX9_rules_2 (by decide) ?_
  refine q_callS (rest := []) X hK hP hS (c_X9_in l G x1 0 3 S _ h) my_X9_in tl_X9_78 dX9_rules_3 rfl ⟨Nat.le_of_ble_eq_true rfl, Nat.le_of_ble_eq_true rfl⟩ hl.1 rfl (Nat.le_of_ble_eq_true rfl) ⟨Nat.le_of_ble_eq_true rfl, Nat.le_of_ble_eq_true rfl⟩ (fun r_2 S_1 H locs h hP hS => ?_)
  refine W.eq (g2 := F0 m 6 ls [.int r_2]) rfl ?_
  refine lv_if_ne (tgt := 12) X.1 X.2.1 dX9_rules_6 (by decide) (fun c_3 => ?_) (fun c_3 => ?_)
  · have h := h.1 c_3
    refine lv_aload_n X.1 X.2.1 dX9_rules_12 rfl (lv_at hl 0 rfl) ?_
    refine gf_X9_rules X hK hP tl_X9_178 dX9_rules_13 ?_
    refine lv_topi (fun x2_4 e2_4 => ?_)
    have h := h x2_4 e2_4
    refine lv_istore_n (lv' := [(2, .int x2_4), (0, .ref (G.1 + 224)), (1, .int x1)]) X.1 X.2.1 dX9_rules_16 rfl hl (by decide) rfl (fun ls hl => ?_)
    refine lv_aload_n X.1 X.2.1 dX9_rules_17 rfl (lv_at hl 1 rfl) ?_
    refine lv_iload_n X.1 X.2.1 dX9_rules_18 rfl (lv_at hl 2 rfl) ?_
    refine pf_X9_rules X hK hP hS tl_X9_178 dX9_rules_19 (fun S_5 H locs eS_5 hP hS => ?_)
    have h := h S_5 eS_5
    refine lv_iload_n X.1 X.2.1 dX9_rules_22 rfl (lv_at hl 0 rfl) ?_
    exact q_iret X hr hlocks hP hS rfl h dX9_rules_23
  · have h := h.2 c_3
    refine lv_bipush (v := (-2)) X.1 X.2.1 dX9_rules_9 (by decide) ?_
    exact q_iret X hr hlocks hP hS rfl h dX9_rules_11

set_option maxHeartbeats 4000000 in
set_option maxRecDepth 100000 in
theorem c_X9_come (l : Launch) (G : Cx) (S : St) (K : Unit → St → Prop) (h : w_X9_come S K) : q_Met l yX9_come cX9_come 2 none 1 24 G [.ref (G.1 + 224)] v_v S K := by
  refine q_enter (by decide +kernel) (Nat.le_of_ble_eq_true rfl) (fun p e s m args below meth c ls X hK hP hr hlocks hl => ?_)
  have hS : va_S (fr_ G) s.heap s.heap [] := va_S.rf
  have hl : lv_has ls 2 [(0, .ref (G.1 + 224))] := hl
  have B23 : ∀ (f : Nat) (x1 : Int32) (S : St) (ls : Array Slot), lv_has ls 2 [(0, .ref (G.1 + 224)), (1, .int x1)] → q_it (fun _ _ => False) (w_X9_come_23 K) f x1 S → q_W p l e (k2_rm 1 24) s m args below meth c 0 0 (MQ below (q_Qc G K v_v) args s 0 0 (fr_ G)) G 23 ls [] S := by
    intro f
    induction f with
    | zero => intro x1 S ls hl h; exact False.elim h
    | succ f hk23 =>
      intro x1 S ls hl h H locs hP hS
      have h : w_X9_come_23 K (q_it (fun _ _ => False) (w_X9_come_23 K) f) x1 S := h
      generalize q_it (fun _ _ => False) (w_X9_come_23 K) f = k23 at h hk23
      refine lv_iload_n X.1 X.2.1 dX9_come_23 rfl (lv_at hl 1 rfl) ?_
      refine lv_aload_n X.1 X.2.1 dX9_come_24 rfl (lv_at hl 0 rfl) ?_
      refine gf_X9_basis X hK hP tl_X9_107 dX9_come_25 ?_
      refine lv_icmp_ge (tgt := 70) X.1 X.2.1 dX9_come_28 (by decide) (fun c_1 => ?_) (fun c_1 => ?_)
      · have h := h.1 c_1
        refine lv_aload_n X.1 X.2.1 dX9_come_70 rfl (lv_at hl 0 rfl) ?_
        refine lv_dup X.1 X.2.1 dX9_come_71 rfl ?_
        refine gf_X9_basis X hK hP tl_X9_107 dX9_come_72 ?_
        refine lv_iconst (v := 1) X.1 X.2.1 dX9_come_75 (by decide) ?_
        refine lv_iadd X.1 X.2.1 dX9_come_76 ?_
        refine pf_X9_basis X hK hP hS tl_X9_107 dX9_come_77 (fun S_2 H locs eS_2 hP hS => ?_)
        have h := h S_2 eS_2
        exact q_vret X hr hlocks hP hS h dX9_come_80
      · have h := h.2 c_1
        refine lv_aload_n X.1 X.2.1 dX9_come_31 rfl (lv_at hl 0 rfl) ?_
        refine gf_X9_pairI X hK hP tl_X9_23 dX9_come_32 ?_
        refine lv_aload_n X.1 X.2.1 dX9_come_35 rfl (lv_at hl 0 rfl) ?_
        refine gf_X9_pairs X hK hP tl_X9_181 dX9_come_36 ?_
        refine lv_iload_n X.1 X.2.1 dX9_come_39 rfl (lv_at hl 1 rfl) ?_
        obtain ⟨o_3, h⟩ := h
        refine q_iast X hK hP hS kz_228 o_3 dX9_come_40 (fun S_4 H locs eS_4 hP hS => ?_)
        have h := h S_4 eS_4
        refine lv_aload_n X.1 X.2.1 dX9_come_41 rfl (lv_at hl 0 rfl) ?_
        refine gf_X9_pairJ X hK hP tl_X9_26 dX9_come_42 ?_
        refine lv_aload_n X.1 X.2.1 dX9_come_45 rfl (lv_at hl 0 rfl) ?_
        refine gf_X9_pairs X hK hP tl_X9_181 dX9_come_46 ?_
        refine lv_aload_n X.1 X.2.1 dX9_come_49 rfl (lv_at hl 0 rfl) ?_
        refine gf_X9_basis X hK hP tl_X9_107 dX9_come_50 ?_
        obtain ⟨o_5, h⟩ := h
        refine q_iast X hK hP hS kz_229 o_5 dX9_come_53 (fun S_6 H locs eS_6 hP hS => ?_)
        have h := h S_6 eS_6
        refine lv_aload_n X.1 X.2.1 dX9_come_54 rfl (lv_at hl 0 rfl) ?_
        refine lv_dup X.1 X.2.1 dX9_come_55 rfl ?_
        refine gf_X9_pairs X hK hP tl_X9_181 dX9_come_56 ?_
        refine lv_iconst (v := 1) X.1 X.2.1 dX9_come_59 (by decide) ?_
        refine lv_iadd X.1 X.2.1 dX9_come_60 ?_
        refine pf_X9_pairs X hK hP hS tl_X9_181 dX9_come_61 (fun S_7 H locs eS_7 hP hS => ?_)
        have h := h S_7 eS_7
        obtain ⟨x1_8, e1_8⟩ : ∃ y : Int32, y = x1 + 1 := ⟨_, rfl⟩
        have h := h x1_8 e1_8
        refine lv_iinc (v := x1_8) (lv' := [(1, .int x1_8), (0, .ref (G.1 + 224))]) X.1 X.2.1 dX9_come_64 hl (k := 1) rfl (by rw [e1_8]; first | rfl | decide) (by decide) rfl (fun ls hl => ?_)
        refine lv_goto (tgt := 23) X.1 X.2.1 dX9_come_67 (by decide) ?_
        exact hk23 x1_8 S_7 _ (lv_sub hl [1, 0] rfl) h _ _ hP hS
  refine lv_aload_n X.1 X.2.1 dX9_come_0 rfl (lv_at hl 0 rfl) ?_
  refine lv_bipush (v := 25) X.1 X.2.1 dX9_come_1 (by decide) ?_
  refine lv_aload_n X.1 X.2.1 dX9_come_3 rfl (lv_at hl 0 rfl) ?_
  refine gf_X9_basis X hK hP tl_X9_107 dX9_come_4 ?_
  refine lv_iadd X.1 X.2.1 dX9_come_7 ?_
  refine lv_aload_n X.1 X.2.1 dX9_come_8 rfl (lv_at hl 0 rfl) ?_
  refine lv_aload_n X.1 X.2.1 dX9_come_9 rfl (lv_at hl 0 rfl) ?_
  refine gf_X9_rowNumber X hK hP tl_X9_32 dX9_come_10 ?_
  refine lv_iconst (v := 0) X.1 X.2.1 dX9_come_13 (by decide) ?_
  refine q_iald X hK hP kz_230 (q_vin (by decide)) dX9_come_14 ?_
  refine q_callV (rest := [.int (25 + (S 224 6)), .ref (G.1 + 224)]) (b := 224) X hK hP hS (c_X9_inverse l G (S 230 (q_rf 0)) S _ h) my_X9_inverse tl_X9_141 dX9_come_15 kz_224 rfl rfl rfl ⟨Nat.le_of_ble_eq_true rfl, Nat.le_of_ble_eq_true rfl⟩ hl.1 rfl (Nat.le_of_ble_eq_true rfl) ⟨Nat.le_of_ble_eq_true rfl, Nat.le_of_ble_eq_true rfl⟩ (fun r_2 S_1 H locs h hP hS => ?_)
  refine W.eq (g2 := F0 m 18 ls [.int r_2, .int (25 + (S 224 6)), .ref (G.1 + 224)]) rfl ?_
  refine q_callV (rest := []) (b := 224) X hK hP hS (c_X9_lay l G (25 + (S 224 6)) r_2 S_1 _ h) my_X9_lay tl_X9_103 dX9_come_18 kz_224 rfl rfl rfl ⟨Nat.le_of_ble_eq_true rfl, Nat.le_of_ble_eq_true rfl⟩ hl.1 rfl (Nat.le_of_ble_eq_true rfl) ⟨Nat.le_of_ble_eq_true rfl, Nat.le_of_ble_eq_true rfl⟩ (fun r_4 S_3 H locs h hP hS => ?_)
  refine W.eq (g2 := F0 m 21 ls []) rfl ?_
  refine lv_iconst (v := 0) X.1 X.2.1 dX9_come_21 (by decide) ?_
  refine lv_istore_n (lv' := [(1, .int 0), (0, .ref (G.1 + 224))]) X.1 X.2.1 dX9_come_22 rfl hl (by decide) rfl (fun ls hl => ?_)
  obtain ⟨f_5, h⟩ := h
  exact B23 f_5 0 S_3 _ (lv_sub hl [1, 0] rfl) h _ _ hP hS

set_option maxHeartbeats 4000000 in
set_option maxRecDepth 100000 in
theorem c_X9_enter (l : Launch) (G : Cx) (x1 : Int32) (S : St) (K : Int32 → St → Prop) (h : w_X9_enter x1 S K) : q_Met l yX9_enter cX9_enter 3 (some .int) 2 45 G [.ref (G.1 + 224), .int x1] v_i S K := by
  refine q_enter (by decide +kernel) (Nat.le_of_ble_eq_true rfl) (fun p e s m args below meth c ls X hK hP hr hlocks hl => ?_)
  have hS : va_S (fr_ G) s.heap s.heap [] := va_S.rf
  have hl : lv_has ls 3 [(0, .ref (G.1 + 224)), (1, .int x1)] := hl
  have B19 : ∀ (S : St) (ls : Array Slot), lv_has ls 3 [] → w_X9_enter_19 x1 K S → q_W p l e (k2_rm 2 45) s m args below meth c 0 0 (MQ below (q_Qc G K v_i) args s 0 0 (fr_ G)) G 19 ls [] S := by
    intro S ls hl h H locs hP hS
    refine lv_bipush (v := (-2)) X.1 X.2.1 dX9_enter_19 (by decide) ?_
    exact q_iret X hr hlocks hP hS rfl h dX9_enter_21
  refine lv_aload_n X.1 X.2.1 dX9_enter_0 rfl (lv_at hl 0 rfl) ?_
  refine lv_iload_n X.1 X.2.1 dX9_enter_1 rfl (lv_at hl 1 rfl) ?_
  refine q_callV (rest := []) (b := 224) X hK hP hS (c_X9_placeOf l G x1 S _ h) my_X9_placeOf tl_X9_131 dX9_enter_2 kz_224 rfl rfl rfl ⟨Nat.le_of_ble_eq_true rfl, Nat.le_of_ble_eq_true rfl⟩ hl.1 rfl (Nat.le_of_ble_eq_true rfl) ⟨Nat.le_of_ble_eq_true rfl, Nat.le_of_ble_eq_true rfl⟩ (fun r_2 S_1 H locs h hP hS => ?_)
  refine W.eq (g2 := F0 m 5 ls [.int r_2]) rfl ?_
  refine lv_istore_n (lv' := [(2, .int r_2), (0, .ref (G.1 + 224)), (1, .int x1)]) X.1 X.2.1 dX9_enter_5 rfl hl (by decide) rfl (fun ls hl => ?_)
  refine lv_iload_n X.1 X.2.1 dX9_enter_6 rfl (lv_at hl 0 rfl) ?_
  refine lv_if_lt (tgt := 19) X.1 X.2.1 dX9_enter_7 (by decide) (fun c_3 => ?_) (fun c_3 => ?_)
  · have h := h.1 c_3
    exact B19 S_1 _ (lv_sub hl [] rfl) h _ _ hP hS
  · have h := h.2 c_3
    refine lv_aload_n X.1 X.2.1 dX9_enter_10 rfl (lv_at hl 1 rfl) ?_
    refine gf_X9_many X hK hP tl_X9_13 dX9_enter_11 ?_
    refine lv_iload_n X.1 X.2.1 dX9_enter_14 rfl (lv_at hl 0 rfl) ?_
    obtain ⟨o_4, h⟩ := h
    refine q_iald X hK hP kz_225 o_4 dX9_enter_15 ?_
    refine lv_if_ne (tgt := 22) X.1 X.2.1 dX9_enter_16 (by decide) (fun c_5 => ?_) (fun c_5 => ?_)
    · have h := h.1 c_5
      refine lv_aload_n X.1 X.2.1 dX9_enter_22 rfl (lv_at hl 1 rfl) ?_
      refine gf_X9_basis X hK hP tl_X9_107 dX9_enter_23 ?_
      refine lv_bipush (v := 18) X.1 X.2.1 dX9_enter_26 (by decide) ?_
      refine lv_icmp_ne (tgt := 34) X.1 X.2.1 dX9_enter_28 (by decide) (fun c_6 => ?_) (fun c_6 => ?_)
      · have h := h.1 c_6
        refine lv_aload_n X.1 X.2.1 dX9_enter_34 rfl (lv_at hl 1 rfl) ?_
        refine lv_iload_n X.1 X.2.1 dX9_enter_35 rfl (lv_at hl 0 rfl) ?_
        refine q_callV (rest := []) (b := 224) X hK hP hS (c_X9_fetch l G r_2 S_1 _ h) my_X9_fetch tl_X9_100 dX9_enter_36 kz_224 rfl rfl rfl ⟨Nat.le_of_ble_eq_true rfl, Nat.le_of_ble_eq_true rfl⟩ hl.1 rfl (Nat.le_of_ble_eq_true rfl) ⟨Nat.le_of_ble_eq_true rfl, Nat.le_of_ble_eq_true rfl⟩ (fun r_8 S_7 H locs h hP hS => ?_)
        refine W.eq (g2 := F0 m 39 ls []) rfl ?_
        refine lv_aload_n X.1 X.2.1 dX9_enter_39 rfl (lv_at hl 1 rfl) ?_
        refine q_callV (rest := []) (b := 224) X hK hP hS (c_X9_come l G S_7 _ h) my_X9_come tl_X9_184 dX9_enter_40 kz_224 rfl rfl rfl ⟨Nat.le_of_ble_eq_true rfl, Nat.le_of_ble_eq_true rfl⟩ hl.1 rfl (Nat.le_of_ble_eq_true rfl) ⟨Nat.le_of_ble_eq_true rfl, Nat.le_of_ble_eq_true rfl⟩ (fun r_10 S_9 H locs h hP hS => ?_)
        refine W.eq (g2 := F0 m 43 ls []) rfl ?_
        refine lv_aload_n X.1 X.2.1 dX9_enter_43 rfl (lv_at hl 1 rfl) ?_
        refine lv_iconst (v := 0) X.1 X.2.1 dX9_enter_44 (by decide) ?_
        refine pf_X9_isTidy X hK hP hS ⟨rfl, rfl⟩ tl_X9_187 dX9_enter_45 (fun S_11 H locs eS_11 hP hS => ?_)
        have h := h S_11 eS_11
        refine lv_aload_n X.1 X.2.1 dX9_enter_48 rfl (lv_at hl 1 rfl) ?_
        refine gf_X9_basis X hK hP tl_X9_107 dX9_enter_49 ?_
        refine lv_iconst (v := 1) X.1 X.2.1 dX9_enter_52 (by decide) ?_
        refine lv_isub X.1 X.2.1 dX9_enter_53 ?_
        exact q_iret X hr hlocks hP hS rfl h dX9_enter_54
      · have h := h.2 c_6
        refine lv_bipush (v := (-4)) X.1 X.2.1 dX9_enter_31 (by decide) ?_
        exact q_iret X hr hlocks hP hS rfl h dX9_enter_33
    · have h := h.2 c_5
      exact B19 S_1 _ (lv_sub hl [] rfl) h _ _ hP hS

set_option maxHeartbeats 4000000 in
set_option maxRecDepth 100000 in
theorem c_X9_clear (l : Launch) (G : Cx) (S : St) (K : Int32 → St → Prop) (h : w_X9_clear S K) : q_Met l yX9_clear cX9_clear 2 (some .int) 0 0 G [.ref (G.1 + 224)] v_i S K := by
  refine q_enter (by decide +kernel) (Nat.le_of_ble_eq_true rfl) (fun p e s m args below meth c ls X hK hP hr hlocks hl => ?_)
  have hS : va_S (fr_ G) s.heap s.heap [] := va_S.rf
  have hl : lv_has ls 2 [(0, .ref (G.1 + 224))] := hl
  refine lv_aload_n X.1 X.2.1 dX9_clear_0 rfl (lv_at hl 0 rfl) ?_
  refine gf_X9_basis X hK hP tl_X9_107 dX9_clear_1 ?_
  refine lv_topi (fun x1_1 e1_1 => ?_)
  have h := h x1_1 e1_1
  refine lv_istore_n (lv' := [(1, .int x1_1), (0, .ref (G.1 + 224))]) X.1 X.2.1 dX9_clear_4 rfl hl (by decide) rfl (fun ls hl => ?_)
  refine lv_aload_n X.1 X.2.1 dX9_clear_5 rfl (lv_at hl 1 rfl) ?_
  refine lv_iconst (v := 0) X.1 X.2.1 dX9_clear_6 (by decide) ?_
  refine pf_X9_basis X hK hP hS tl_X9_107 dX9_clear_7 (fun S_2 H locs eS_2 hP hS => ?_)
  have h := h S_2 eS_2
  refine lv_aload_n X.1 X.2.1 dX9_clear_10 rfl (lv_at hl 1 rfl) ?_
  refine lv_iconst (v := 0) X.1 X.2.1 dX9_clear_11 (by decide) ?_
  refine pf_X9_pairs X hK hP hS tl_X9_181 dX9_clear_12 (fun S_3 H locs eS_3 hP hS => ?_)
  have h := h S_3 eS_3
  refine lv_aload_n X.1 X.2.1 dX9_clear_15 rfl (lv_at hl 1 rfl) ?_
  refine lv_iconst (v := 0) X.1 X.2.1 dX9_clear_16 (by decide) ?_
  refine pf_X9_isTidy X hK hP hS ⟨rfl, rfl⟩ tl_X9_187 dX9_clear_17 (fun S_4 H locs eS_4 hP hS => ?_)
  have h := h S_4 eS_4
  refine lv_iload_n X.1 X.2.1 dX9_clear_20 rfl (lv_at hl 0 rfl) ?_
  exact q_iret X hr hlocks hP hS rfl h dX9_clear_21

set_option maxHeartbeats 4000000 in
set_option maxRecDepth 100000 in
theorem c_X9_nextPair (l : Launch) (G : Cx) (S : St) (K : Int32 → St → Prop) (h : w_X9_nextPair S K) : q_Met l yX9_nextPair cX9_nextPair 4 (some .int) 2 53 G [.ref (G.1 + 224)] v_i S K := by
  refine q_enter (by decide +kernel) (Nat.le_of_ble_eq_true rfl) (fun p e s m args below meth c ls X hK hP hr hlocks hl => ?_)
  have hS : va_S (fr_ G) s.heap s.heap [] := va_S.rf
  have hl : lv_has ls 4 [(0, .ref (G.1 + 224))] := hl
  have B91 : ∀ (x1 : Int32) (x2 : Int32) (k13 : Int32 → Int32 → St → Prop) (hk13 : ∀ (x1 : Int32) (x2 : Int32) (S : St) (ls : Array Slot), lv_has ls 4 [(0, .ref (G.1 + 224)), (1, .int x1), (2, .int x2)] → k13 x1 x2 S → q_W p l e (k2_rm 2 53) s m args below meth c 0 0 (MQ below (q_Qc G K v_i) args s 0 0 (fr_ G)) G 13 ls [] S) (S : St) (ls : Array Slot), lv_has ls 4 [(0, .ref (G.1 + 224)), (1, .int x1), (2, .int x2)] → w_X9_nextPair_91 K k13 x1 x2 S → q_W p l e (k2_rm 2 53) s m args below meth c 0 0 (MQ below (q_Qc G K v_i) args s 0 0 (fr_ G)) G 91 ls [] S := by
    intro x1 x2 k13 hk13 S ls hl h H locs hP hS
    obtain ⟨x2_1, e2_1⟩ : ∃ y : Int32, y = x2 + 1 := ⟨_, rfl⟩
    have h := h x2_1 e2_1
    refine lv_iinc (v := x2_1) (lv' := [(2, .int x2_1), (0, .ref (G.1 + 224)), (1, .int x1)]) X.1 X.2.1 dX9_nextPair_91 hl (k := 2) rfl (by rw [e2_1]; first | rfl | decide) (by decide) rfl (fun ls hl => ?_)
    refine lv_goto (tgt := 13) X.1 X.2.1 dX9_nextPair_94 (by decide) ?_
    exact hk13 x1 x2_1 S _ (lv_sub hl [1, 2, 0] rfl) h _ _ hP hS
  have B68 : ∀ (x1 : Int32) (x2 : Int32) (k13 : Int32 → Int32 → St → Prop) (hk13 : ∀ (x1 : Int32) (x2 : Int32) (S : St) (ls : Array Slot), lv_has ls 4 [(0, .ref (G.1 + 224)), (1, .int x1), (2, .int x2)] → k13 x1 x2 S → q_W p l e (k2_rm 2 53) s m args below meth c 0 0 (MQ below (q_Qc G K v_i) args s 0 0 (fr_ G)) G 13 ls [] S) (f : Nat) (x3 : Int32) (S : St) (ls : Array Slot), lv_has ls 4 [(0, .ref (G.1 + 224)), (1, .int x1), (2, .int x2), (3, .int x3)] → q_it (fun _ _ => False) (w_X9_nextPair_68 K k13 x1 x2) f x3 S → q_W p l e (k2_rm 2 53) s m args below meth c 0 0 (MQ below (q_Qc G K v_i) args s 0 0 (fr_ G)) G 68 ls [] S := by
    intro x1 x2 k13 hk13 f
    induction f with
    | zero => intro x3 S ls hl h; exact False.elim h
    | succ f hk68 =>
      intro x3 S ls hl h H locs hP hS
      have h : w_X9_nextPair_68 K k13 x1 x2 (q_it (fun _ _ => False) (w_X9_nextPair_68 K k13 x1 x2) f) x3 S := h
      generalize q_it (fun _ _ => False) (w_X9_nextPair_68 K k13 x1 x2) f = k68 at h hk68
      refine lv_iload_n X.1 X.2.1 dX9_nextPair_68 rfl (lv_at hl 3 rfl) ?_
      refine lv_iconst (v := 4) X.1 X.2.1 dX9_nextPair_69 (by decide) ?_
      refine lv_icmp_ge (tgt := 91) X.1 X.2.1 dX9_nextPair_70 (by decide) (fun c_1 => ?_) (fun c_1 => ?_)
      · have h := h.1 c_1
        exact B91 x1 x2 k13 hk13 S _ (lv_sub hl [0, 1, 2] rfl) h _ _ hP hS
      · have h := h.2 c_1
        refine lv_aload_n X.1 X.2.1 dX9_nextPair_73 rfl (lv_at hl 0 rfl) ?_
        refine gf_X9_best X hK hP tl_X9_59 dX9_nextPair_74 ?_
        refine lv_iload_n X.1 X.2.1 dX9_nextPair_77 rfl (lv_at hl 3 rfl) ?_
        refine lv_aload_n X.1 X.2.1 dX9_nextPair_78 rfl (lv_at hl 0 rfl) ?_
        refine gf_X9_least X hK hP tl_X9_44 dX9_nextPair_79 ?_
        refine lv_iload_n X.1 X.2.1 dX9_nextPair_82 rfl (lv_at hl 3 rfl) ?_
        obtain ⟨o_2, h⟩ := h
        refine q_iald X hK hP kz_234 o_2 dX9_nextPair_83 ?_
        refine q_iast X hK hP hS kz_239 o_2 dX9_nextPair_84 (fun S_3 H locs eS_3 hP hS => ?_)
        have h := h S_3 eS_3
        obtain ⟨x3_4, e3_4⟩ : ∃ y : Int32, y = x3 + 1 := ⟨_, rfl⟩
        have h := h x3_4 e3_4
        refine lv_iinc (v := x3_4) (lv' := [(3, .int x3_4), (0, .ref (G.1 + 224)), (1, .int x1), (2, .int x2)]) X.1 X.2.1 dX9_nextPair_85 hl (k := 3) rfl (by rw [e3_4]; first | rfl | decide) (by decide) rfl (fun ls hl => ?_)
        refine lv_goto (tgt := 68) X.1 X.2.1 dX9_nextPair_88 (by decide) ?_
        exact hk68 x3_4 S_3 _ (lv_sub hl [1, 2, 3, 0] rfl) h _ _ hP hS
  have B64 : ∀ (x2 : Int32) (k13 : Int32 → Int32 → St → Prop) (hk13 : ∀ (x1 : Int32) (x2 : Int32) (S : St) (ls : Array Slot), lv_has ls 4 [(0, .ref (G.1 + 224)), (1, .int x1), (2, .int x2)] → k13 x1 x2 S → q_W p l e (k2_rm 2 53) s m args below meth c 0 0 (MQ below (q_Qc G K v_i) args s 0 0 (fr_ G)) G 13 ls [] S) (S : St) (ls : Array Slot), lv_has ls 4 [(0, .ref (G.1 + 224)), (2, .int x2)] → w_X9_nextPair_64 K k13 x2 S → q_W p l e (k2_rm 2 53) s m args below meth c 0 0 (MQ below (q_Qc G K v_i) args s 0 0 (fr_ G)) G 64 ls [] S := by
    intro x2 k13 hk13 S ls hl h H locs hP hS
    refine lv_iload_n X.1 X.2.1 dX9_nextPair_64 rfl (lv_at hl 1 rfl) ?_
    refine lv_istore_n (lv' := [(1, .int x2), (0, .ref (G.1 + 224)), (2, .int x2)]) X.1 X.2.1 dX9_nextPair_65 rfl hl (by decide) rfl (fun ls hl => ?_)
    refine lv_iconst (v := 0) X.1 X.2.1 dX9_nextPair_66 (by decide) ?_
    refine lv_istore_n (lv' := [(3, .int 0), (1, .int x2), (0, .ref (G.1 + 224)), (2, .int x2)]) X.1 X.2.1 dX9_nextPair_67 rfl hl (by decide) rfl (fun ls hl => ?_)
    obtain ⟨f_1, h⟩ := h
    exact B68 x2 x2 k13 hk13 f_1 0 S _ (lv_sub hl [2, 1, 3, 0] rfl) h _ _ hP hS
  have B13 : ∀ (f : Nat) (x1 : Int32) (x2 : Int32) (S : St) (ls : Array Slot), lv_has ls 4 [(0, .ref (G.1 + 224)), (1, .int x1), (2, .int x2)] → q_it (fun _ _ _ => False) (w_X9_nextPair_13 K) f x1 x2 S → q_W p l e (k2_rm 2 53) s m args below meth c 0 0 (MQ below (q_Qc G K v_i) args s 0 0 (fr_ G)) G 13 ls [] S := by
    intro f
    induction f with
    | zero => intro x1 x2 S ls hl h; exact False.elim h
    | succ f hk13 =>
      intro x1 x2 S ls hl h H locs hP hS
      have h : w_X9_nextPair_13 K (q_it (fun _ _ _ => False) (w_X9_nextPair_13 K) f) x1 x2 S := h
      generalize q_it (fun _ _ _ => False) (w_X9_nextPair_13 K) f = k13 at h hk13
      refine lv_iload_n X.1 X.2.1 dX9_nextPair_13 rfl (lv_at hl 2 rfl) ?_
      refine lv_aload_n X.1 X.2.1 dX9_nextPair_14 rfl (lv_at hl 0 rfl) ?_
      refine gf_X9_pairs X hK hP tl_X9_181 dX9_nextPair_15 ?_
      refine lv_icmp_ge (tgt := 97) X.1 X.2.1 dX9_nextPair_18 (by decide) (fun c_1 => ?_) (fun c_1 => ?_)
      · have h := h.1 c_1
        refine lv_iload_n X.1 X.2.1 dX9_nextPair_97 rfl (lv_at hl 1 rfl) ?_
        exact q_iret X hr hlocks hP hS rfl h dX9_nextPair_98
      · have h := h.2 c_1
        refine lv_aload_n X.1 X.2.1 dX9_nextPair_21 rfl (lv_at hl 0 rfl) ?_
        refine lv_bipush (v := 25) X.1 X.2.1 dX9_nextPair_22 (by decide) ?_
        refine lv_aload_n X.1 X.2.1 dX9_nextPair_24 rfl (lv_at hl 0 rfl) ?_
        refine gf_X9_pairI X hK hP tl_X9_23 dX9_nextPair_25 ?_
        refine lv_iload_n X.1 X.2.1 dX9_nextPair_28 rfl (lv_at hl 2 rfl) ?_
        obtain ⟨o_2, h⟩ := h
        refine q_iald X hK hP kz_228 o_2 dX9_nextPair_29 ?_
        refine lv_iadd X.1 X.2.1 dX9_nextPair_30 ?_
        refine lv_bipush (v := 25) X.1 X.2.1 dX9_nextPair_31 (by decide) ?_
        refine lv_aload_n X.1 X.2.1 dX9_nextPair_33 rfl (lv_at hl 0 rfl) ?_
        refine gf_X9_pairJ X hK hP tl_X9_26 dX9_nextPair_34 ?_
        refine lv_iload_n X.1 X.2.1 dX9_nextPair_37 rfl (lv_at hl 2 rfl) ?_
        refine q_iald X hK hP kz_229 o_2 dX9_nextPair_38 ?_
        refine lv_iadd X.1 X.2.1 dX9_nextPair_39 ?_
        refine q_callV (rest := []) (b := 224) X hK hP hS (c_X9_leastOf l G (25 + (S 228 (q_rf x2))) (25 + (S 229 (q_rf x2))) S _ h) my_X9_leastOf tl_X9_138 dX9_nextPair_40 kz_224 rfl rfl rfl ⟨Nat.le_of_ble_eq_true rfl, Nat.le_of_ble_eq_true rfl⟩ hl.1 rfl (Nat.le_of_ble_eq_true rfl) ⟨Nat.le_of_ble_eq_true rfl, Nat.le_of_ble_eq_true rfl⟩ (fun r_4 S_3 H locs h hP hS => ?_)
        refine W.eq (g2 := F0 m 43 ls []) rfl ?_
        refine lv_iload_n X.1 X.2.1 dX9_nextPair_43 rfl (lv_at hl 2 rfl) ?_
        refine lv_if_eq (tgt := 64) X.1 X.2.1 dX9_nextPair_44 (by decide) (fun c_5 => ?_) (fun c_5 => ?_)
        · have h := h.1 c_5
          exact B64 x2 k13 hk13 S_3 _ (lv_sub hl [0, 2] rfl) h _ _ hP hS
        · have h := h.2 c_5
          refine lv_aload_n X.1 X.2.1 dX9_nextPair_47 rfl (lv_at hl 0 rfl) ?_
          refine lv_aload_n X.1 X.2.1 dX9_nextPair_48 rfl (lv_at hl 0 rfl) ?_
          refine gf_X9_least X hK hP tl_X9_44 dX9_nextPair_49 ?_
          refine lv_iconst (v := 0) X.1 X.2.1 dX9_nextPair_52 (by decide) ?_
          refine lv_aload_n X.1 X.2.1 dX9_nextPair_53 rfl (lv_at hl 0 rfl) ?_
          refine gf_X9_best X hK hP tl_X9_59 dX9_nextPair_54 ?_
          refine lv_iconst (v := 0) X.1 X.2.1 dX9_nextPair_57 (by decide) ?_
          refine q_callV (rest := []) (b := 224) X hK hP hS (c_X9_stand l G 234 0 239 0 S_3 _ ⟨kz_234.1, rfl⟩ ⟨kz_239.1, rfl⟩ h) my_X9_stand tl_X9_93 dX9_nextPair_58 kz_224 rfl rfl rfl ⟨Nat.le_of_ble_eq_true rfl, Nat.le_of_ble_eq_true rfl⟩ hl.1 rfl (Nat.le_of_ble_eq_true rfl) ⟨Nat.le_of_ble_eq_true rfl, Nat.le_of_ble_eq_true rfl⟩ (fun r_7 S_6 H locs h hP hS => ?_)
          refine W.eq (g2 := F0 m 61 ls [.int r_7]) rfl ?_
          refine lv_if_ge (tgt := 91) X.1 X.2.1 dX9_nextPair_61 (by decide) (fun c_8 => ?_) (fun c_8 => ?_)
          · have h := h.1 c_8
            exact B91 x1 x2 k13 hk13 S_6 _ (lv_sub hl [0, 1, 2] rfl) h _ _ hP hS
          · have h := h.2 c_8
            exact B64 x2 k13 hk13 S_6 _ (lv_sub hl [0, 2] rfl) h _ _ hP hS
  refine lv_iconst (v := 0) X.1 X.2.1 dX9_nextPair_0 (by decide) ?_
  refine lv_istore_n (lv' := [(1, .int 0), (0, .ref (G.1 + 224))]) X.1 X.2.1 dX9_nextPair_1 rfl hl (by decide) rfl (fun ls hl => ?_)
  refine lv_aload_n X.1 X.2.1 dX9_nextPair_2 rfl (lv_at hl 1 rfl) ?_
  refine gf_X9_way X hK hP tl_X9_175 dX9_nextPair_3 ?_
  refine lv_if_ne (tgt := 11) X.1 X.2.1 dX9_nextPair_6 (by decide) (fun c_1 => ?_) (fun c_1 => ?_)
  · have h := h.1 c_1
    refine lv_iconst (v := 0) X.1 X.2.1 dX9_nextPair_11 (by decide) ?_
    refine lv_istore_n (lv' := [(2, .int 0), (1, .int 0), (0, .ref (G.1 + 224))]) X.1 X.2.1 dX9_nextPair_12 rfl hl (by decide) rfl (fun ls hl => ?_)
    obtain ⟨f_2, h⟩ := h
    exact B13 f_2 0 0 S _ (lv_sub hl [2, 1, 0] rfl) h _ _ hP hS
  · have h := h.2 c_1
    refine lv_iload_n X.1 X.2.1 dX9_nextPair_9 rfl (lv_at hl 0 rfl) ?_
    exact q_iret X hr hlocks hP hS rfl h dX9_nextPair_10

set_option maxHeartbeats 4000000 in
set_option maxRecDepth 100000 in
theorem c_X9_waits (l : Launch) (G : Cx) (x1 : Int32) (x2 : Int32) (S : St) (K : Int32 → St → Prop) (h : w_X9_waits x1 x2 S K) : q_Met l yX9_waits cX9_waits 4 (some .boolean) 0 0 G [.ref (G.1 + 224), .int x1, .int x2] v_i S K := by
  refine q_enter (by decide +kernel) (Nat.le_of_ble_eq_true rfl) (fun p e s m args below meth c ls X hK hP hr hlocks hl => ?_)
  have hS : va_S (fr_ G) s.heap s.heap [] := va_S.rf
  have hl : lv_has ls 4 [(0, .ref (G.1 + 224)), (1, .int x1), (2, .int x2)] := hl
  have B52 : ∀ (x3 : Int32) (k2 : Int32 → St → Prop) (hk2 : ∀ (x3 : Int32) (S : St) (ls : Array Slot), lv_has ls 4 [(0, .ref (G.1 + 224)), (1, .int x1), (2, .int x2), (3, .int x3)] → k2 x3 S → q_W p l e (k2_rm 0 0) s m args below meth c 0 0 (MQ below (q_Qc G K v_i) args s 0 0 (fr_ G)) G 2 ls [] S) (S : St) (ls : Array Slot), lv_has ls 4 [(0, .ref (G.1 + 224)), (1, .int x1), (2, .int x2), (3, .int x3)] → w_X9_waits_52 x1 x2 K k2 x3 S → q_W p l e (k2_rm 0 0) s m args below meth c 0 0 (MQ below (q_Qc G K v_i) args s 0 0 (fr_ G)) G 52 ls [] S := by
    intro x3 k2 hk2 S ls hl h H locs hP hS
    obtain ⟨x3_1, e3_1⟩ : ∃ y : Int32, y = x3 + 1 := ⟨_, rfl⟩
    have h := h x3_1 e3_1
    refine lv_iinc (v := x3_1) (lv' := [(3, .int x3_1), (0, .ref (G.1 + 224)), (1, .int x1), (2, .int x2)]) X.1 X.2.1 dX9_waits_52 hl (k := 3) rfl (by rw [e3_1]; first | rfl | decide) (by decide) rfl (fun ls hl => ?_)
    refine lv_goto (tgt := 2) X.1 X.2.1 dX9_waits_55 (by decide) ?_
    exact hk2 x3_1 S _ (lv_sub hl [1, 2, 3, 0] rfl) h _ _ hP hS
  have B50 : ∀ (S : St) (ls : Array Slot), lv_has ls 4 [] → w_X9_waits_50 x1 x2 K S → q_W p l e (k2_rm 0 0) s m args below meth c 0 0 (MQ below (q_Qc G K v_i) args s 0 0 (fr_ G)) G 50 ls [] S := by
    intro S ls hl h H locs hP hS
    refine lv_iconst (v := 1) X.1 X.2.1 dX9_waits_50 (by decide) ?_
    exact q_iret X hr hlocks hP hS rfl h dX9_waits_51
  have B30 : ∀ (x3 : Int32) (k2 : Int32 → St → Prop) (hk2 : ∀ (x3 : Int32) (S : St) (ls : Array Slot), lv_has ls 4 [(0, .ref (G.1 + 224)), (1, .int x1), (2, .int x2), (3, .int x3)] → k2 x3 S → q_W p l e (k2_rm 0 0) s m args below meth c 0 0 (MQ below (q_Qc G K v_i) args s 0 0 (fr_ G)) G 2 ls [] S) (S : St) (ls : Array Slot), lv_has ls 4 [(0, .ref (G.1 + 224)), (1, .int x1), (2, .int x2), (3, .int x3)] → w_X9_waits_30 x1 x2 K k2 x3 S → q_W p l e (k2_rm 0 0) s m args below meth c 0 0 (MQ below (q_Qc G K v_i) args s 0 0 (fr_ G)) G 30 ls [] S := by
    intro x3 k2 hk2 S ls hl h H locs hP hS
    refine lv_aload_n X.1 X.2.1 dX9_waits_30 rfl (lv_at hl 0 rfl) ?_
    refine gf_X9_pairI X hK hP tl_X9_23 dX9_waits_31 ?_
    refine lv_iload_n X.1 X.2.1 dX9_waits_34 rfl (lv_at hl 3 rfl) ?_
    obtain ⟨o_1, h⟩ := h
    refine q_iald X hK hP kz_228 o_1 dX9_waits_35 ?_
    refine lv_iload_n X.1 X.2.1 dX9_waits_36 rfl (lv_at hl 2 rfl) ?_
    refine lv_icmp_ne (tgt := 52) X.1 X.2.1 dX9_waits_37 (by decide) (fun c_2 => ?_) (fun c_2 => ?_)
    · have h := h.1 c_2
      exact B52 x3 k2 hk2 S _ (lv_sub hl [0, 1, 2, 3] rfl) h _ _ hP hS
    · have h := h.2 c_2
      refine lv_aload_n X.1 X.2.1 dX9_waits_40 rfl (lv_at hl 0 rfl) ?_
      refine gf_X9_pairJ X hK hP tl_X9_26 dX9_waits_41 ?_
      refine lv_iload_n X.1 X.2.1 dX9_waits_44 rfl (lv_at hl 3 rfl) ?_
      refine q_iald X hK hP kz_229 o_1 dX9_waits_45 ?_
      refine lv_iload_n X.1 X.2.1 dX9_waits_46 rfl (lv_at hl 1 rfl) ?_
      refine lv_icmp_ne (tgt := 52) X.1 X.2.1 dX9_waits_47 (by decide) (fun c_3 => ?_) (fun c_3 => ?_)
      · have h := h.1 c_3
        exact B52 x3 k2 hk2 S _ (lv_sub hl [0, 1, 2, 3] rfl) h _ _ hP hS
      · have h := h.2 c_3
        exact B50 S _ (lv_sub hl [] rfl) h _ _ hP hS
  have B2 : ∀ (f : Nat) (x3 : Int32) (S : St) (ls : Array Slot), lv_has ls 4 [(0, .ref (G.1 + 224)), (1, .int x1), (2, .int x2), (3, .int x3)] → q_it (fun _ _ => False) (w_X9_waits_2 x1 x2 K) f x3 S → q_W p l e (k2_rm 0 0) s m args below meth c 0 0 (MQ below (q_Qc G K v_i) args s 0 0 (fr_ G)) G 2 ls [] S := by
    intro f
    induction f with
    | zero => intro x3 S ls hl h; exact False.elim h
    | succ f hk2 =>
      intro x3 S ls hl h H locs hP hS
      have h : w_X9_waits_2 x1 x2 K (q_it (fun _ _ => False) (w_X9_waits_2 x1 x2 K) f) x3 S := h
      generalize q_it (fun _ _ => False) (w_X9_waits_2 x1 x2 K) f = k2 at h hk2
      refine lv_iload_n X.1 X.2.1 dX9_waits_2 rfl (lv_at hl 3 rfl) ?_
      refine lv_aload_n X.1 X.2.1 dX9_waits_3 rfl (lv_at hl 0 rfl) ?_
      refine gf_X9_pairs X hK hP tl_X9_181 dX9_waits_4 ?_
      refine lv_icmp_ge (tgt := 58) X.1 X.2.1 dX9_waits_7 (by decide) (fun c_1 => ?_) (fun c_1 => ?_)
      · have h := h.1 c_1
        refine lv_iconst (v := 0) X.1 X.2.1 dX9_waits_58 (by decide) ?_
        exact q_iret X hr hlocks hP hS rfl h dX9_waits_59
      · have h := h.2 c_1
        refine lv_aload_n X.1 X.2.1 dX9_waits_10 rfl (lv_at hl 0 rfl) ?_
        refine gf_X9_pairI X hK hP tl_X9_23 dX9_waits_11 ?_
        refine lv_iload_n X.1 X.2.1 dX9_waits_14 rfl (lv_at hl 3 rfl) ?_
        obtain ⟨o_2, h⟩ := h
        refine q_iald X hK hP kz_228 o_2 dX9_waits_15 ?_
        refine lv_iload_n X.1 X.2.1 dX9_waits_16 rfl (lv_at hl 1 rfl) ?_
        refine lv_icmp_ne (tgt := 30) X.1 X.2.1 dX9_waits_17 (by decide) (fun c_3 => ?_) (fun c_3 => ?_)
        · have h := h.1 c_3
          exact B30 x3 k2 hk2 S _ (lv_sub hl [0, 1, 2, 3] rfl) h _ _ hP hS
        · have h := h.2 c_3
          refine lv_aload_n X.1 X.2.1 dX9_waits_20 rfl (lv_at hl 0 rfl) ?_
          refine gf_X9_pairJ X hK hP tl_X9_26 dX9_waits_21 ?_
          refine lv_iload_n X.1 X.2.1 dX9_waits_24 rfl (lv_at hl 3 rfl) ?_
          refine q_iald X hK hP kz_229 o_2 dX9_waits_25 ?_
          refine lv_iload_n X.1 X.2.1 dX9_waits_26 rfl (lv_at hl 2 rfl) ?_
          refine lv_icmp_eq (tgt := 50) X.1 X.2.1 dX9_waits_27 (by decide) (fun c_4 => ?_) (fun c_4 => ?_)
          · have h := h.1 c_4
            exact B50 S _ (lv_sub hl [] rfl) h _ _ hP hS
          · have h := h.2 c_4
            exact B30 x3 k2 hk2 S _ (lv_sub hl [0, 1, 2, 3] rfl) h _ _ hP hS
  refine lv_iconst (v := 0) X.1 X.2.1 dX9_waits_0 (by decide) ?_
  refine lv_istore_n (lv' := [(3, .int 0), (0, .ref (G.1 + 224)), (1, .int x1), (2, .int x2)]) X.1 X.2.1 dX9_waits_1 rfl hl (by decide) rfl (fun ls hl => ?_)
  obtain ⟨f_1, h⟩ := h
  exact B2 f_1 0 S _ (lv_sub hl [1, 2, 3, 0] rfl) h _ _ hP hS

set_option maxHeartbeats 4000000 in
set_option maxRecDepth 100000 in
theorem c_X9_areCoprime (l : Launch) (G : Cx) (x1 : Int32) (x2 : Int32) (S : St) (K : Int32 → St → Prop) (h : w_X9_areCoprime x1 x2 S K) : q_Met l yX9_areCoprime cX9_areCoprime 5 (some .boolean) 0 0 G [.ref (G.1 + 224), .int x1, .int x2] v_i S K := by
  refine q_enter (by decide +kernel) (Nat.le_of_ble_eq_true rfl) (fun p e s m args below meth c ls X hK hP hr hlocks hl => ?_)
  have hS : va_S (fr_ G) s.heap s.heap [] := va_S.rf
  have hl : lv_has ls 5 [(0, .ref (G.1 + 224)), (1, .int x1), (2, .int x2)] := hl
  have B55 : ∀ (x4 : Int32) (z0 : Int32) (z1 : Int32) (k5 : Int32 → Int32 → St → Prop) (hk5 : ∀ (x3 : Int32) (x4 : Int32) (S : St) (ls : Array Slot), lv_has ls 5 [(0, .ref (G.1 + 224)), (1, .int x1), (2, .int x2), (3, .int x3), (4, .int x4)] → k5 x3 x4 S → q_W p l e (k2_rm 0 0) s m args below meth c 0 0 (MQ below (q_Qc G K v_i) args s 0 0 (fr_ G)) G 5 ls [] S) (S : St) (ls : Array Slot), lv_has ls 5 [(0, .ref (G.1 + 224)), (1, .int x1), (2, .int x2), (4, .int x4)] → w_X9_areCoprime_55 x1 x2 K k5 x4 z0 z1 S → q_W p l e (k2_rm 0 0) s m args below meth c 0 0 (MQ below (q_Qc G K v_i) args s 0 0 (fr_ G)) G 55 ls [.int z1, .int z0] S := by
    intro x4 z0 z1 k5 hk5 S ls hl h H locs hP hS
    refine lv_iand X.1 X.2.1 dX9_areCoprime_55 ?_
    refine lv_topi (fun x3_1 e3_1 => ?_)
    have h := h x3_1 e3_1
    refine lv_istore_n (lv' := [(3, .int x3_1), (0, .ref (G.1 + 224)), (1, .int x1), (2, .int x2), (4, .int x4)]) X.1 X.2.1 dX9_areCoprime_56 rfl hl (by decide) rfl (fun ls hl => ?_)
    obtain ⟨x4_2, e4_2⟩ : ∃ y : Int32, y = x4 + 1 := ⟨_, rfl⟩
    have h := h x4_2 e4_2
    refine lv_iinc (v := x4_2) (lv' := [(4, .int x4_2), (3, .int x3_1), (0, .ref (G.1 + 224)), (1, .int x1), (2, .int x2)]) X.1 X.2.1 dX9_areCoprime_57 hl (k := 4) rfl (by rw [e4_2]; first | rfl | decide) (by decide) rfl (fun ls hl => ?_)
    refine lv_goto (tgt := 5) X.1 X.2.1 dX9_areCoprime_60 (by decide) ?_
    exact hk5 x3_1 x4_2 S _ (lv_sub hl [2, 3, 4, 1, 0] rfl) h _ _ hP hS
  have B50 : ∀ (x4 : Int32) (z0 : Int32) (k5 : Int32 → Int32 → St → Prop) (hk5 : ∀ (x3 : Int32) (x4 : Int32) (S : St) (ls : Array Slot), lv_has ls 5 [(0, .ref (G.1 + 224)), (1, .int x1), (2, .int x2), (3, .int x3), (4, .int x4)] → k5 x3 x4 S → q_W p l e (k2_rm 0 0) s m args below meth c 0 0 (MQ below (q_Qc G K v_i) args s 0 0 (fr_ G)) G 5 ls [] S) (S : St) (ls : Array Slot), lv_has ls 5 [(0, .ref (G.1 + 224)), (1, .int x1), (2, .int x2), (4, .int x4)] → w_X9_areCoprime_50 x1 x2 K k5 x4 z0 S → q_W p l e (k2_rm 0 0) s m args below meth c 0 0 (MQ below (q_Qc G K v_i) args s 0 0 (fr_ G)) G 50 ls [.int z0] S := by
    intro x4 z0 k5 hk5 S ls hl h H locs hP hS
    refine lv_iconst (v := 1) X.1 X.2.1 dX9_areCoprime_50 (by decide) ?_
    refine lv_goto (tgt := 55) X.1 X.2.1 dX9_areCoprime_51 (by decide) ?_
    exact B55 x4 z0 1 k5 hk5 S _ (lv_sub hl [0, 1, 2, 3] rfl) h _ _ hP hS
  have B5 : ∀ (f : Nat) (x3 : Int32) (x4 : Int32) (S : St) (ls : Array Slot), lv_has ls 5 [(0, .ref (G.1 + 224)), (1, .int x1), (2, .int x2), (3, .int x3), (4, .int x4)] → q_it (fun _ _ _ => False) (w_X9_areCoprime_5 x1 x2 K) f x3 x4 S → q_W p l e (k2_rm 0 0) s m args below meth c 0 0 (MQ below (q_Qc G K v_i) args s 0 0 (fr_ G)) G 5 ls [] S := by
    intro f
    induction f with
    | zero => intro x3 x4 S ls hl h; exact False.elim h
    | succ f hk5 =>
      intro x3 x4 S ls hl h H locs hP hS
      have h : w_X9_areCoprime_5 x1 x2 K (q_it (fun _ _ _ => False) (w_X9_areCoprime_5 x1 x2 K) f) x3 x4 S := h
      generalize q_it (fun _ _ _ => False) (w_X9_areCoprime_5 x1 x2 K) f = k5 at h hk5
      refine lv_iload X.1 X.2.1 dX9_areCoprime_5 (lv_at hl 4 rfl) ?_
      refine lv_iconst (v := 4) X.1 X.2.1 dX9_areCoprime_7 (by decide) ?_
      refine lv_icmp_ge (tgt := 63) X.1 X.2.1 dX9_areCoprime_8 (by decide) (fun c_1 => ?_) (fun c_1 => ?_)
      · have h := h.1 c_1
        refine lv_iload_n X.1 X.2.1 dX9_areCoprime_63 rfl (lv_at hl 3 rfl) ?_
        obtain ⟨o_2, h⟩ := h
        exact q_iret X hr hlocks hP hS o_2 h dX9_areCoprime_64
      · have h := h.2 c_1
        refine lv_iload_n X.1 X.2.1 dX9_areCoprime_11 rfl (lv_at hl 3 rfl) ?_
        refine lv_aload_n X.1 X.2.1 dX9_areCoprime_12 rfl (lv_at hl 0 rfl) ?_
        refine gf_X9_exponents X hK hP tl_X9_20 dX9_areCoprime_13 ?_
        refine lv_sipush (v := 160) X.1 X.2.1 dX9_areCoprime_16 (by decide) ?_
        refine lv_bipush (v := 25) X.1 X.2.1 dX9_areCoprime_19 (by decide) ?_
        refine lv_iload_n X.1 X.2.1 dX9_areCoprime_21 rfl (lv_at hl 1 rfl) ?_
        refine lv_iadd X.1 X.2.1 dX9_areCoprime_22 ?_
        refine lv_imul X.1 X.2.1 dX9_areCoprime_23 ?_
        refine lv_iload X.1 X.2.1 dX9_areCoprime_24 (lv_at hl 4 rfl) ?_
        refine lv_iadd X.1 X.2.1 dX9_areCoprime_26 ?_
        obtain ⟨o_3, h⟩ := h
        refine q_iald X hK hP kz_227 o_3 dX9_areCoprime_27 ?_
        refine lv_if_eq (tgt := 50) X.1 X.2.1 dX9_areCoprime_28 (by decide) (fun c_4 => ?_) (fun c_4 => ?_)
        · have h := h.1 c_4
          exact B50 x4 x3 k5 hk5 S _ (lv_sub hl [0, 1, 2, 4] rfl) h _ _ hP hS
        · have h := h.2 c_4
          refine lv_aload_n X.1 X.2.1 dX9_areCoprime_31 rfl (lv_at hl 0 rfl) ?_
          refine gf_X9_exponents X hK hP tl_X9_20 dX9_areCoprime_32 ?_
          refine lv_sipush (v := 160) X.1 X.2.1 dX9_areCoprime_35 (by decide) ?_
          refine lv_bipush (v := 25) X.1 X.2.1 dX9_areCoprime_38 (by decide) ?_
          refine lv_iload_n X.1 X.2.1 dX9_areCoprime_40 rfl (lv_at hl 2 rfl) ?_
          refine lv_iadd X.1 X.2.1 dX9_areCoprime_41 ?_
          refine lv_imul X.1 X.2.1 dX9_areCoprime_42 ?_
          refine lv_iload X.1 X.2.1 dX9_areCoprime_43 (lv_at hl 4 rfl) ?_
          refine lv_iadd X.1 X.2.1 dX9_areCoprime_45 ?_
          obtain ⟨o_5, h⟩ := h
          refine q_iald X hK hP kz_227 o_5 dX9_areCoprime_46 ?_
          refine lv_if_ne (tgt := 54) X.1 X.2.1 dX9_areCoprime_47 (by decide) (fun c_6 => ?_) (fun c_6 => ?_)
          · have h := h.1 c_6
            refine lv_iconst (v := 0) X.1 X.2.1 dX9_areCoprime_54 (by decide) ?_
            exact B55 x4 x3 0 k5 hk5 S _ (lv_sub hl [0, 1, 2, 4] rfl) h _ _ hP hS
          · have h := h.2 c_6
            exact B50 x4 x3 k5 hk5 S _ (lv_sub hl [0, 1, 2, 4] rfl) h _ _ hP hS
  refine lv_iconst (v := 1) X.1 X.2.1 dX9_areCoprime_0 (by decide) ?_
  refine lv_istore_n (lv' := [(3, .int 1), (0, .ref (G.1 + 224)), (1, .int x1), (2, .int x2)]) X.1 X.2.1 dX9_areCoprime_1 rfl hl (by decide) rfl (fun ls hl => ?_)
  refine lv_iconst (v := 0) X.1 X.2.1 dX9_areCoprime_2 (by decide) ?_
  refine lv_istore (lv' := [(4, .int 0), (3, .int 1), (0, .ref (G.1 + 224)), (1, .int x1), (2, .int x2)]) X.1 X.2.1 dX9_areCoprime_3 hl (by decide) rfl (fun ls hl => ?_)
  obtain ⟨f_1, h⟩ := h
  exact B5 f_1 1 0 S _ (lv_sub hl [2, 3, 4, 1, 0] rfl) h _ _ hP hS

set_option maxHeartbeats 4000000 in
set_option maxRecDepth 100000 in
theorem c_X9_isChained (l : Launch) (G : Cx) (x1 : Int32) (x2 : Int32) (S : St) (K : Int32 → St → Prop) (h : w_X9_isChained x1 x2 S K) : q_Met l yX9_isChained cX9_isChained 4 (some .boolean) 1 25 G [.ref (G.1 + 224), .int x1, .int x2] v_i S K := by
  refine q_enter (by decide +kernel) (Nat.le_of_ble_eq_true rfl) (fun p e s m args below meth c ls X hK hP hr hlocks hl => ?_)
  have hS : va_S (fr_ G) s.heap s.heap [] := va_S.rf
  have hl : lv_has ls 4 [(0, .ref (G.1 + 224)), (1, .int x1), (2, .int x2)] := hl
  have B75 : ∀ (x3 : Int32) (k14 : Int32 → St → Prop) (hk14 : ∀ (x3 : Int32) (S : St) (ls : Array Slot), lv_has ls 4 [(0, .ref (G.1 + 224)), (1, .int x1), (2, .int x2), (3, .int x3)] → k14 x3 S → q_W p l e (k2_rm 1 25) s m args below meth c 0 0 (MQ below (q_Qc G K v_i) args s 0 0 (fr_ G)) G 14 ls [] S) (S : St) (ls : Array Slot), lv_has ls 4 [(0, .ref (G.1 + 224)), (1, .int x1), (2, .int x2), (3, .int x3)] → w_X9_isChained_75 x1 x2 K k14 x3 S → q_W p l e (k2_rm 1 25) s m args below meth c 0 0 (MQ below (q_Qc G K v_i) args s 0 0 (fr_ G)) G 75 ls [] S := by
    intro x3 k14 hk14 S ls hl h H locs hP hS
    obtain ⟨x3_1, e3_1⟩ : ∃ y : Int32, y = x3 + 1 := ⟨_, rfl⟩
    have h := h x3_1 e3_1
    refine lv_iinc (v := x3_1) (lv' := [(3, .int x3_1), (0, .ref (G.1 + 224)), (1, .int x1), (2, .int x2)]) X.1 X.2.1 dX9_isChained_75 hl (k := 3) rfl (by rw [e3_1]; first | rfl | decide) (by decide) rfl (fun ls hl => ?_)
    refine lv_goto (tgt := 14) X.1 X.2.1 dX9_isChained_78 (by decide) ?_
    exact hk14 x3_1 S _ (lv_sub hl [1, 2, 3, 0] rfl) h _ _ hP hS
  have B14 : ∀ (f : Nat) (x3 : Int32) (S : St) (ls : Array Slot), lv_has ls 4 [(0, .ref (G.1 + 224)), (1, .int x1), (2, .int x2), (3, .int x3)] → q_it (fun _ _ => False) (w_X9_isChained_14 x1 x2 K) f x3 S → q_W p l e (k2_rm 1 25) s m args below meth c 0 0 (MQ below (q_Qc G K v_i) args s 0 0 (fr_ G)) G 14 ls [] S := by
    intro f
    induction f with
    | zero => intro x3 S ls hl h; exact False.elim h
    | succ f hk14 =>
      intro x3 S ls hl h H locs hP hS
      have h : w_X9_isChained_14 x1 x2 K (q_it (fun _ _ => False) (w_X9_isChained_14 x1 x2 K) f) x3 S := h
      generalize q_it (fun _ _ => False) (w_X9_isChained_14 x1 x2 K) f = k14 at h hk14
      refine lv_iload_n X.1 X.2.1 dX9_isChained_14 rfl (lv_at hl 3 rfl) ?_
      refine lv_aload_n X.1 X.2.1 dX9_isChained_15 rfl (lv_at hl 0 rfl) ?_
      refine gf_X9_basis X hK hP tl_X9_107 dX9_isChained_16 ?_
      refine lv_icmp_ge (tgt := 81) X.1 X.2.1 dX9_isChained_19 (by decide) (fun c_1 => ?_) (fun c_1 => ?_)
      · have h := h.1 c_1
        refine lv_iconst (v := 0) X.1 X.2.1 dX9_isChained_81 (by decide) ?_
        exact q_iret X hr hlocks hP hS rfl h dX9_isChained_82
      · have h := h.2 c_1
        refine lv_iload_n X.1 X.2.1 dX9_isChained_22 rfl (lv_at hl 3 rfl) ?_
        refine lv_iload_n X.1 X.2.1 dX9_isChained_23 rfl (lv_at hl 1 rfl) ?_
        refine lv_icmp_eq (tgt := 75) X.1 X.2.1 dX9_isChained_24 (by decide) (fun c_2 => ?_) (fun c_2 => ?_)
        · have h := h.1 c_2
          exact B75 x3 k14 hk14 S _ (lv_sub hl [0, 1, 2, 3] rfl) h _ _ hP hS
        · have h := h.2 c_2
          refine lv_iload_n X.1 X.2.1 dX9_isChained_27 rfl (lv_at hl 3 rfl) ?_
          refine lv_iload_n X.1 X.2.1 dX9_isChained_28 rfl (lv_at hl 2 rfl) ?_
          refine lv_icmp_eq (tgt := 75) X.1 X.2.1 dX9_isChained_29 (by decide) (fun c_3 => ?_) (fun c_3 => ?_)
          · have h := h.1 c_3
            exact B75 x3 k14 hk14 S _ (lv_sub hl [0, 1, 2, 3] rfl) h _ _ hP hS
          · have h := h.2 c_3
            refine lv_aload_n X.1 X.2.1 dX9_isChained_32 rfl (lv_at hl 0 rfl) ?_
            refine gf_X9_exponents X hK hP tl_X9_20 dX9_isChained_33 ?_
            refine lv_sipush (v := 160) X.1 X.2.1 dX9_isChained_36 (by decide) ?_
            refine lv_bipush (v := 25) X.1 X.2.1 dX9_isChained_39 (by decide) ?_
            refine lv_iload_n X.1 X.2.1 dX9_isChained_41 rfl (lv_at hl 3 rfl) ?_
            refine lv_iadd X.1 X.2.1 dX9_isChained_42 ?_
            refine lv_imul X.1 X.2.1 dX9_isChained_43 ?_
            refine lv_aload_n X.1 X.2.1 dX9_isChained_44 rfl (lv_at hl 0 rfl) ?_
            refine gf_X9_least X hK hP tl_X9_44 dX9_isChained_45 ?_
            refine lv_iconst (v := 0) X.1 X.2.1 dX9_isChained_48 (by decide) ?_
            refine q_callS (rest := []) X hK hP hS (c_X9_divides l G 227 (160 * (25 + x3)) 234 0 S _ ⟨kz_227.1, rfl⟩ ⟨kz_234.1, rfl⟩ h) my_X9_divides tl_X9_154 dX9_isChained_49 rfl ⟨Nat.le_of_ble_eq_true rfl, Nat.le_of_ble_eq_true rfl⟩ hl.1 rfl (Nat.le_of_ble_eq_true rfl) ⟨Nat.le_of_ble_eq_true rfl, Nat.le_of_ble_eq_true rfl⟩ (fun r_5 S_4 H locs h hP hS => ?_)
            refine W.eq (g2 := F0 m 52 ls [.int r_5]) rfl ?_
            refine lv_if_eq (tgt := 75) X.1 X.2.1 dX9_isChained_52 (by decide) (fun c_6 => ?_) (fun c_6 => ?_)
            · have h := h.1 c_6
              exact B75 x3 k14 hk14 S_4 _ (lv_sub hl [0, 1, 2, 3] rfl) h _ _ hP hS
            · have h := h.2 c_6
              refine lv_aload_n X.1 X.2.1 dX9_isChained_55 rfl (lv_at hl 0 rfl) ?_
              refine lv_iload_n X.1 X.2.1 dX9_isChained_56 rfl (lv_at hl 1 rfl) ?_
              refine lv_iload_n X.1 X.2.1 dX9_isChained_57 rfl (lv_at hl 3 rfl) ?_
              refine q_callV (rest := []) (b := 224) X hK hP hS (c_X9_waits l G x1 x3 S_4 _ h) my_X9_waits tl_X9_191 dX9_isChained_58 kz_224 rfl rfl rfl ⟨Nat.le_of_ble_eq_true rfl, Nat.le_of_ble_eq_true rfl⟩ hl.1 rfl (Nat.le_of_ble_eq_true rfl) ⟨Nat.le_of_ble_eq_true rfl, Nat.le_of_ble_eq_true rfl⟩ (fun r_8 S_7 H locs h hP hS => ?_)
              refine W.eq (g2 := F0 m 61 ls [.int r_8]) rfl ?_
              refine lv_if_ne (tgt := 75) X.1 X.2.1 dX9_isChained_61 (by decide) (fun c_9 => ?_) (fun c_9 => ?_)
              · have h := h.1 c_9
                exact B75 x3 k14 hk14 S_7 _ (lv_sub hl [0, 1, 2, 3] rfl) h _ _ hP hS
              · have h := h.2 c_9
                refine lv_aload_n X.1 X.2.1 dX9_isChained_64 rfl (lv_at hl 0 rfl) ?_
                refine lv_iload_n X.1 X.2.1 dX9_isChained_65 rfl (lv_at hl 2 rfl) ?_
                refine lv_iload_n X.1 X.2.1 dX9_isChained_66 rfl (lv_at hl 3 rfl) ?_
                refine q_callV (rest := []) (b := 224) X hK hP hS (c_X9_waits l G x2 x3 S_7 _ h) my_X9_waits tl_X9_191 dX9_isChained_67 kz_224 rfl rfl rfl ⟨Nat.le_of_ble_eq_true rfl, Nat.le_of_ble_eq_true rfl⟩ hl.1 rfl (Nat.le_of_ble_eq_true rfl) ⟨Nat.le_of_ble_eq_true rfl, Nat.le_of_ble_eq_true rfl⟩ (fun r_11 S_10 H locs h hP hS => ?_)
                refine W.eq (g2 := F0 m 70 ls [.int r_11]) rfl ?_
                refine lv_if_ne (tgt := 75) X.1 X.2.1 dX9_isChained_70 (by decide) (fun c_12 => ?_) (fun c_12 => ?_)
                · have h := h.1 c_12
                  exact B75 x3 k14 hk14 S_10 _ (lv_sub hl [0, 1, 2, 3] rfl) h _ _ hP hS
                · have h := h.2 c_12
                  refine lv_iconst (v := 1) X.1 X.2.1 dX9_isChained_73 (by decide) ?_
                  exact q_iret X hr hlocks hP hS rfl h dX9_isChained_74
  refine lv_aload_n X.1 X.2.1 dX9_isChained_0 rfl (lv_at hl 0 rfl) ?_
  refine lv_bipush (v := 25) X.1 X.2.1 dX9_isChained_1 (by decide) ?_
  refine lv_iload_n X.1 X.2.1 dX9_isChained_3 rfl (lv_at hl 1 rfl) ?_
  refine lv_iadd X.1 X.2.1 dX9_isChained_4 ?_
  refine lv_bipush (v := 25) X.1 X.2.1 dX9_isChained_5 (by decide) ?_
  refine lv_iload_n X.1 X.2.1 dX9_isChained_7 rfl (lv_at hl 2 rfl) ?_
  refine lv_iadd X.1 X.2.1 dX9_isChained_8 ?_
  refine q_callV (rest := []) (b := 224) X hK hP hS (c_X9_leastOf l G (25 + x1) (25 + x2) S _ h) my_X9_leastOf tl_X9_138 dX9_isChained_9 kz_224 rfl rfl rfl ⟨Nat.le_of_ble_eq_true rfl, Nat.le_of_ble_eq_true rfl⟩ hl.1 rfl (Nat.le_of_ble_eq_true rfl) ⟨Nat.le_of_ble_eq_true rfl, Nat.le_of_ble_eq_true rfl⟩ (fun r_2 S_1 H locs h hP hS => ?_)
  refine W.eq (g2 := F0 m 12 ls []) rfl ?_
  refine lv_iconst (v := 0) X.1 X.2.1 dX9_isChained_12 (by decide) ?_
  refine lv_istore_n (lv' := [(3, .int 0), (0, .ref (G.1 + 224)), (1, .int x1), (2, .int x2)]) X.1 X.2.1 dX9_isChained_13 rfl hl (by decide) rfl (fun ls hl => ?_)
  obtain ⟨f_3, h⟩ := h
  exact B14 f_3 0 S_1 _ (lv_sub hl [1, 2, 3, 0] rfl) h _ _ hP hS

set_option maxHeartbeats 4000000 in
set_option maxRecDepth 100000 in
theorem c_X9_goes (l : Launch) (G : Cx) (x1 : Int32) (S : St) (K : Unit → St → Prop) (h : w_X9_goes x1 S K) : q_Met l yX9_goes cX9_goes 3 none 0 0 G [.ref (G.1 + 224), .int x1] v_v S K := by
  refine q_enter (by decide +kernel) (Nat.le_of_ble_eq_true rfl) (fun p e s m args below meth c ls X hK hP hr hlocks hl => ?_)
  have hS : va_S (fr_ G) s.heap s.heap [] := va_S.rf
  have hl : lv_has ls 3 [(0, .ref (G.1 + 224)), (1, .int x1)] := hl
  have B12 : ∀ (f : Nat) (x2 : Int32) (S : St) (ls : Array Slot), lv_has ls 3 [(0, .ref (G.1 + 224)), (2, .int x2)] → q_it (fun _ _ => False) (w_X9_goes_12 x1 K) f x2 S → q_W p l e (k2_rm 0 0) s m args below meth c 0 0 (MQ below (q_Qc G K v_v) args s 0 0 (fr_ G)) G 12 ls [] S := by
    intro f
    induction f with
    | zero => intro x2 S ls hl h; exact False.elim h
    | succ f hk12 =>
      intro x2 S ls hl h H locs hP hS
      have h : w_X9_goes_12 x1 K (q_it (fun _ _ => False) (w_X9_goes_12 x1 K) f) x2 S := h
      generalize q_it (fun _ _ => False) (w_X9_goes_12 x1 K) f = k12 at h hk12
      refine lv_iload_n X.1 X.2.1 dX9_goes_12 rfl (lv_at hl 1 rfl) ?_
      refine lv_aload_n X.1 X.2.1 dX9_goes_13 rfl (lv_at hl 0 rfl) ?_
      refine gf_X9_pairs X hK hP tl_X9_181 dX9_goes_14 ?_
      refine lv_icmp_ge (tgt := 54) X.1 X.2.1 dX9_goes_17 (by decide) (fun c_1 => ?_) (fun c_1 => ?_)
      · have h := h.1 c_1
        exact q_vret X hr hlocks hP hS h dX9_goes_54
      · have h := h.2 c_1
        refine lv_aload_n X.1 X.2.1 dX9_goes_20 rfl (lv_at hl 0 rfl) ?_
        refine gf_X9_pairI X hK hP tl_X9_23 dX9_goes_21 ?_
        refine lv_iload_n X.1 X.2.1 dX9_goes_24 rfl (lv_at hl 1 rfl) ?_
        refine lv_aload_n X.1 X.2.1 dX9_goes_25 rfl (lv_at hl 0 rfl) ?_
        refine gf_X9_pairI X hK hP tl_X9_23 dX9_goes_26 ?_
        refine lv_iload_n X.1 X.2.1 dX9_goes_29 rfl (lv_at hl 1 rfl) ?_
        refine lv_iconst (v := 1) X.1 X.2.1 dX9_goes_30 (by decide) ?_
        refine lv_iadd X.1 X.2.1 dX9_goes_31 ?_
        obtain ⟨o_2, h⟩ := h
        refine q_iald X hK hP kz_228 o_2 dX9_goes_32 ?_
        obtain ⟨o_3, h⟩ := h
        refine q_iast X hK hP hS kz_228 o_3 dX9_goes_33 (fun S_4 H locs eS_4 hP hS => ?_)
        have h := h S_4 eS_4
        refine lv_aload_n X.1 X.2.1 dX9_goes_34 rfl (lv_at hl 0 rfl) ?_
        refine gf_X9_pairJ X hK hP tl_X9_26 dX9_goes_35 ?_
        refine lv_iload_n X.1 X.2.1 dX9_goes_38 rfl (lv_at hl 1 rfl) ?_
        refine lv_aload_n X.1 X.2.1 dX9_goes_39 rfl (lv_at hl 0 rfl) ?_
        refine gf_X9_pairJ X hK hP tl_X9_26 dX9_goes_40 ?_
        refine lv_iload_n X.1 X.2.1 dX9_goes_43 rfl (lv_at hl 1 rfl) ?_
        refine lv_iconst (v := 1) X.1 X.2.1 dX9_goes_44 (by decide) ?_
        refine lv_iadd X.1 X.2.1 dX9_goes_45 ?_
        refine q_iald X hK hP kz_229 o_2 dX9_goes_46 ?_
        refine q_iast X hK hP hS kz_229 o_3 dX9_goes_47 (fun S_5 H locs eS_5 hP hS => ?_)
        have h := h S_5 eS_5
        obtain ⟨x2_6, e2_6⟩ : ∃ y : Int32, y = x2 + 1 := ⟨_, rfl⟩
        have h := h x2_6 e2_6
        refine lv_iinc (v := x2_6) (lv' := [(2, .int x2_6), (0, .ref (G.1 + 224))]) X.1 X.2.1 dX9_goes_48 hl (k := 1) rfl (by rw [e2_6]; first | rfl | decide) (by decide) rfl (fun ls hl => ?_)
        refine lv_goto (tgt := 12) X.1 X.2.1 dX9_goes_51 (by decide) ?_
        exact hk12 x2_6 S_5 _ (lv_sub hl [1, 0] rfl) h _ _ hP hS
  refine lv_aload_n X.1 X.2.1 dX9_goes_0 rfl (lv_at hl 0 rfl) ?_
  refine lv_dup X.1 X.2.1 dX9_goes_1 rfl ?_
  refine gf_X9_pairs X hK hP tl_X9_181 dX9_goes_2 ?_
  refine lv_iconst (v := 1) X.1 X.2.1 dX9_goes_5 (by decide) ?_
  refine lv_isub X.1 X.2.1 dX9_goes_6 ?_
  refine pf_X9_pairs X hK hP hS tl_X9_181 dX9_goes_7 (fun S_1 H locs eS_1 hP hS => ?_)
  have h := h S_1 eS_1
  refine lv_iload_n X.1 X.2.1 dX9_goes_10 rfl (lv_at hl 1 rfl) ?_
  refine lv_istore_n (lv' := [(2, .int x1), (0, .ref (G.1 + 224)), (1, .int x1)]) X.1 X.2.1 dX9_goes_11 rfl hl (by decide) rfl (fun ls hl => ?_)
  obtain ⟨f_2, h⟩ := h
  exact B12 f_2 x1 S_1 _ (lv_sub hl [1, 0] rfl) h _ _ hP hS

set_option maxHeartbeats 4000000 in
set_option maxRecDepth 100000 in
theorem c_X9_workOf (l : Launch) (G : Cx) (x1 : Int32) (S : St) (K : Int32 → St → Prop) (h : w_X9_workOf x1 S K) : q_Met l yX9_workOf cX9_workOf 5 (some .int) 6 146 G [.ref (G.1 + 224), .int x1] v_i S K := by
  refine q_enter (by decide +kernel) (Nat.le_of_ble_eq_true rfl) (fun p e s m args below meth c ls X hK hP hr hlocks hl => ?_)
  have hS : va_S (fr_ G) s.heap s.heap [] := va_S.rf
  have hl : lv_has ls 5 [(0, .ref (G.1 + 224)), (1, .int x1)] := hl
  have B182 : ∀ (S : St) (ls : Array Slot), lv_has ls 5 [] → w_X9_workOf_182 x1 K S → q_W p l e (k2_rm 6 146) s m args below meth c 0 0 (MQ below (q_Qc G K v_i) args s 0 0 (fr_ G)) G 182 ls [] S := by
    intro S ls hl h H locs hP hS
    refine lv_iconst (v := 0) X.1 X.2.1 dX9_workOf_182 (by decide) ?_
    exact q_iret X hr hlocks hP hS rfl h dX9_workOf_183
  have B143 : ∀ (S : St) (ls : Array Slot), lv_has ls 5 [(0, .ref (G.1 + 224)), (1, .int x1)] → w_X9_workOf_143 x1 K S → q_W p l e (k2_rm 6 146) s m args below meth c 0 0 (MQ below (q_Qc G K v_i) args s 0 0 (fr_ G)) G 143 ls [] S := by
    intro S ls hl h H locs hP hS
    refine lv_aload_n X.1 X.2.1 dX9_workOf_143 rfl (lv_at hl 0 rfl) ?_
    refine lv_iload_n X.1 X.2.1 dX9_workOf_144 rfl (lv_at hl 1 rfl) ?_
    refine q_callV (rest := []) (b := 224) X hK hP hS (c_X9_goes l G x1 S _ h) my_X9_goes tl_X9_200 dX9_workOf_145 kz_224 rfl rfl rfl ⟨Nat.le_of_ble_eq_true rfl, Nat.le_of_ble_eq_true rfl⟩ hl.1 rfl (Nat.le_of_ble_eq_true rfl) ⟨Nat.le_of_ble_eq_true rfl, Nat.le_of_ble_eq_true rfl⟩ (fun r_2 S_1 H locs h hP hS => ?_)
    refine W.eq (g2 := F0 m 148 ls []) rfl ?_
    refine lv_aload_n X.1 X.2.1 dX9_workOf_148 rfl (lv_at hl 0 rfl) ?_
    refine gf_X9_row X hK hP tl_X9_90 dX9_workOf_149 ?_
    refine lv_if_le (tgt := 172) X.1 X.2.1 dX9_workOf_152 (by decide) (fun c_3 => ?_) (fun c_3 => ?_)
    · have h := h.1 c_3
      refine lv_aload_n X.1 X.2.1 dX9_workOf_172 rfl (lv_at hl 0 rfl) ?_
      refine lv_dup X.1 X.2.1 dX9_workOf_173 rfl ?_
      refine gf_X9_leftNothing X hK hP tl_X9_218 dX9_workOf_174 ?_
      refine lv_iconst (v := 1) X.1 X.2.1 dX9_workOf_177 (by decide) ?_
      refine lv_iadd X.1 X.2.1 dX9_workOf_178 ?_
      refine pf_X9_leftNothing X hK hP hS tl_X9_218 dX9_workOf_179 (fun S_4 H locs eS_4 hP hS => ?_)
      have h := h S_4 eS_4
      exact B182 S_4 _ (lv_sub hl [] rfl) h _ _ hP hS
    · have h := h.2 c_3
      refine lv_aload_n X.1 X.2.1 dX9_workOf_155 rfl (lv_at hl 0 rfl) ?_
      refine lv_dup X.1 X.2.1 dX9_workOf_156 rfl ?_
      refine gf_X9_leftSome X hK hP tl_X9_215 dX9_workOf_157 ?_
      refine lv_iconst (v := 1) X.1 X.2.1 dX9_workOf_160 (by decide) ?_
      refine lv_iadd X.1 X.2.1 dX9_workOf_161 ?_
      refine pf_X9_leftSome X hK hP hS tl_X9_215 dX9_workOf_162 (fun S_5 H locs eS_5 hP hS => ?_)
      have h := h S_5 eS_5
      refine lv_aload_n X.1 X.2.1 dX9_workOf_165 rfl (lv_at hl 0 rfl) ?_
      refine q_callV (rest := []) (b := 224) X hK hP hS (c_X9_come l G S_5 _ h) my_X9_come tl_X9_184 dX9_workOf_166 kz_224 rfl rfl rfl ⟨Nat.le_of_ble_eq_true rfl, Nat.le_of_ble_eq_true rfl⟩ hl.1 rfl (Nat.le_of_ble_eq_true rfl) ⟨Nat.le_of_ble_eq_true rfl, Nat.le_of_ble_eq_true rfl⟩ (fun r_7 S_6 H locs h hP hS => ?_)
      refine W.eq (g2 := F0 m 169 ls []) rfl ?_
      refine lv_goto (tgt := 182) X.1 X.2.1 dX9_workOf_169 (by decide) ?_
      exact B182 S_6 _ (lv_sub hl [] rfl) h _ _ hP hS
  have B84 : ∀ (x2 : Int32) (x3 : Int32) (S : St) (ls : Array Slot), lv_has ls 5 [(0, .ref (G.1 + 224)), (1, .int x1), (2, .int x2), (3, .int x3)] → w_X9_workOf_84 x1 K x2 x3 S → q_W p l e (k2_rm 6 146) s m args below meth c 0 0 (MQ below (q_Qc G K v_i) args s 0 0 (fr_ G)) G 84 ls [] S := by
    intro x2 x3 S ls hl h H locs hP hS
    refine lv_aload_n X.1 X.2.1 dX9_workOf_84 rfl (lv_at hl 0 rfl) ?_
    refine lv_bipush (v := 25) X.1 X.2.1 dX9_workOf_85 (by decide) ?_
    refine lv_iload_n X.1 X.2.1 dX9_workOf_87 rfl (lv_at hl 2 rfl) ?_
    refine lv_iadd X.1 X.2.1 dX9_workOf_88 ?_
    refine lv_bipush (v := 25) X.1 X.2.1 dX9_workOf_89 (by decide) ?_
    refine lv_iload_n X.1 X.2.1 dX9_workOf_91 rfl (lv_at hl 3 rfl) ?_
    refine lv_iadd X.1 X.2.1 dX9_workOf_92 ?_
    refine q_callV (rest := []) (b := 224) X hK hP hS (c_X9_makeS l G (25 + x2) (25 + x3) S _ h) my_X9_makeS tl_X9_144 dX9_workOf_93 kz_224 rfl rfl rfl ⟨Nat.le_of_ble_eq_true rfl, Nat.le_of_ble_eq_true rfl⟩ hl.1 rfl (Nat.le_of_ble_eq_true rfl) ⟨Nat.le_of_ble_eq_true rfl, Nat.le_of_ble_eq_true rfl⟩ (fun r_2 S_1 H locs h hP hS => ?_)
    refine W.eq (g2 := F0 m 96 ls [.int r_2]) rfl ?_
    refine lv_istore (lv' := [(4, .int r_2), (0, .ref (G.1 + 224)), (1, .int x1), (2, .int x2), (3, .int x3)]) X.1 X.2.1 dX9_workOf_96 hl (by decide) rfl (fun ls hl => ?_)
    refine lv_iload X.1 X.2.1 dX9_workOf_98 (lv_at hl 0 rfl) ?_
    refine lv_if_ge (tgt := 106) X.1 X.2.1 dX9_workOf_100 (by decide) (fun c_3 => ?_) (fun c_3 => ?_)
    · have h := h.1 c_3
      refine lv_aload_n X.1 X.2.1 dX9_workOf_106 rfl (lv_at hl 1 rfl) ?_
      refine q_callV (rest := []) (b := 224) X hK hP hS (c_X9_byBasis l G S_1 _ h) my_X9_byBasis tl_X9_209 dX9_workOf_107 kz_224 rfl rfl rfl ⟨Nat.le_of_ble_eq_true rfl, Nat.le_of_ble_eq_true rfl⟩ hl.1 rfl (Nat.le_of_ble_eq_true rfl) ⟨Nat.le_of_ble_eq_true rfl, Nat.le_of_ble_eq_true rfl⟩ (fun r_5 S_4 H locs h hP hS => ?_)
      refine W.eq (g2 := F0 m 110 ls []) rfl ?_
      refine lv_aload_n X.1 X.2.1 dX9_workOf_110 rfl (lv_at hl 1 rfl) ?_
      refine q_callV (rest := []) (b := 224) X hK hP hS (c_X9_leave l G S_4 _ h) my_X9_leave tl_X9_212 dX9_workOf_111 kz_224 rfl rfl rfl ⟨Nat.le_of_ble_eq_true rfl, Nat.le_of_ble_eq_true rfl⟩ hl.1 rfl (Nat.le_of_ble_eq_true rfl) ⟨Nat.le_of_ble_eq_true rfl, Nat.le_of_ble_eq_true rfl⟩ (fun r_7 S_6 H locs h hP hS => ?_)
      refine W.eq (g2 := F0 m 114 ls [.int r_7]) rfl ?_
      refine lv_istore (lv' := [(4, .int r_7), (0, .ref (G.1 + 224)), (1, .int x1), (2, .int x2), (3, .int x3)]) X.1 X.2.1 dX9_workOf_114 hl (by decide) rfl (fun ls hl => ?_)
      refine lv_iload X.1 X.2.1 dX9_workOf_116 (lv_at hl 0 rfl) ?_
      refine lv_if_ge (tgt := 124) X.1 X.2.1 dX9_workOf_118 (by decide) (fun c_8 => ?_) (fun c_8 => ?_)
      · have h := h.1 c_8
        refine lv_aload_n X.1 X.2.1 dX9_workOf_124 rfl (lv_at hl 1 rfl) ?_
        refine gf_X9_row X hK hP tl_X9_90 dX9_workOf_125 ?_
        refine lv_if_le (tgt := 143) X.1 X.2.1 dX9_workOf_128 (by decide) (fun c_9 => ?_) (fun c_9 => ?_)
        · have h := h.1 c_9
          exact B143 S_6 _ (lv_sub hl [1, 2] rfl) h _ _ hP hS
        · have h := h.2 c_9
          refine lv_aload_n X.1 X.2.1 dX9_workOf_131 rfl (lv_at hl 1 rfl) ?_
          refine gf_X9_basis X hK hP tl_X9_107 dX9_workOf_132 ?_
          refine lv_bipush (v := 18) X.1 X.2.1 dX9_workOf_135 (by decide) ?_
          refine lv_icmp_ne (tgt := 143) X.1 X.2.1 dX9_workOf_137 (by decide) (fun c_10 => ?_) (fun c_10 => ?_)
          · have h := h.1 c_10
            exact B143 S_6 _ (lv_sub hl [1, 2] rfl) h _ _ hP hS
          · have h := h.2 c_10
            refine lv_bipush (v := (-4)) X.1 X.2.1 dX9_workOf_140 (by decide) ?_
            exact q_iret X hr hlocks hP hS rfl h dX9_workOf_142
      · have h := h.2 c_8
        refine lv_iload X.1 X.2.1 dX9_workOf_121 (lv_at hl 0 rfl) ?_
        exact q_iret X hr hlocks hP hS rfl h dX9_workOf_123
    · have h := h.2 c_3
      refine lv_iload X.1 X.2.1 dX9_workOf_103 (lv_at hl 0 rfl) ?_
      exact q_iret X hr hlocks hP hS rfl h dX9_workOf_105
  have B50 : ∀ (x2 : Int32) (x3 : Int32) (S : St) (ls : Array Slot), lv_has ls 5 [(0, .ref (G.1 + 224)), (1, .int x1), (2, .int x2), (3, .int x3)] → w_X9_workOf_50 x1 K x2 x3 S → q_W p l e (k2_rm 6 146) s m args below meth c 0 0 (MQ below (q_Qc G K v_i) args s 0 0 (fr_ G)) G 50 ls [] S := by
    intro x2 x3 S ls hl h H locs hP hS
    refine lv_aload_n X.1 X.2.1 dX9_workOf_50 rfl (lv_at hl 0 rfl) ?_
    refine gf_X9_rules X hK hP tl_X9_178 dX9_workOf_51 ?_
    refine lv_iconst (v := 1) X.1 X.2.1 dX9_workOf_54 (by decide) ?_
    refine lv_icmp_le (tgt := 84) X.1 X.2.1 dX9_workOf_55 (by decide) (fun c_1 => ?_) (fun c_1 => ?_)
    · have h := h.1 c_1
      exact B84 x2 x3 S _ (lv_sub hl [0, 1, 2, 3] rfl) h _ _ hP hS
    · have h := h.2 c_1
      refine lv_aload_n X.1 X.2.1 dX9_workOf_58 rfl (lv_at hl 0 rfl) ?_
      refine lv_iload_n X.1 X.2.1 dX9_workOf_59 rfl (lv_at hl 2 rfl) ?_
      refine lv_iload_n X.1 X.2.1 dX9_workOf_60 rfl (lv_at hl 3 rfl) ?_
      refine q_callV (rest := []) (b := 224) X hK hP hS (c_X9_isChained l G x2 x3 S _ h) my_X9_isChained tl_X9_203 dX9_workOf_61 kz_224 rfl rfl rfl ⟨Nat.le_of_ble_eq_true rfl, Nat.le_of_ble_eq_true rfl⟩ hl.1 rfl (Nat.le_of_ble_eq_true rfl) ⟨Nat.le_of_ble_eq_true rfl, Nat.le_of_ble_eq_true rfl⟩ (fun r_3 S_2 H locs h hP hS => ?_)
      refine W.eq (g2 := F0 m 64 ls [.int r_3]) rfl ?_
      refine lv_if_eq (tgt := 84) X.1 X.2.1 dX9_workOf_64 (by decide) (fun c_4 => ?_) (fun c_4 => ?_)
      · have h := h.1 c_4
        exact B84 x2 x3 S_2 _ (lv_sub hl [0, 1, 2, 3] rfl) h _ _ hP hS
      · have h := h.2 c_4
        refine lv_aload_n X.1 X.2.1 dX9_workOf_67 rfl (lv_at hl 0 rfl) ?_
        refine lv_dup X.1 X.2.1 dX9_workOf_68 rfl ?_
        refine gf_X9_passedChain X hK hP tl_X9_206 dX9_workOf_69 ?_
        refine lv_iconst (v := 1) X.1 X.2.1 dX9_workOf_72 (by decide) ?_
        refine lv_iadd X.1 X.2.1 dX9_workOf_73 ?_
        refine pf_X9_passedChain X hK hP hS tl_X9_206 dX9_workOf_74 (fun S_5 H locs eS_5 hP hS => ?_)
        have h := h S_5 eS_5
        refine lv_aload_n X.1 X.2.1 dX9_workOf_77 rfl (lv_at hl 0 rfl) ?_
        refine lv_iload_n X.1 X.2.1 dX9_workOf_78 rfl (lv_at hl 1 rfl) ?_
        refine q_callV (rest := []) (b := 224) X hK hP hS (c_X9_goes l G x1 S_5 _ h) my_X9_goes tl_X9_200 dX9_workOf_79 kz_224 rfl rfl rfl ⟨Nat.le_of_ble_eq_true rfl, Nat.le_of_ble_eq_true rfl⟩ hl.1 rfl (Nat.le_of_ble_eq_true rfl) ⟨Nat.le_of_ble_eq_true rfl, Nat.le_of_ble_eq_true rfl⟩ (fun r_7 S_6 H locs h hP hS => ?_)
        refine W.eq (g2 := F0 m 82 ls []) rfl ?_
        refine lv_iconst (v := 0) X.1 X.2.1 dX9_workOf_82 (by decide) ?_
        exact q_iret X hr hlocks hP hS rfl h dX9_workOf_83
  refine lv_aload_n X.1 X.2.1 dX9_workOf_0 rfl (lv_at hl 0 rfl) ?_
  refine gf_X9_pairI X hK hP tl_X9_23 dX9_workOf_1 ?_
  refine lv_iload_n X.1 X.2.1 dX9_workOf_4 rfl (lv_at hl 1 rfl) ?_
  obtain ⟨o_1, h⟩ := h
  refine q_iald X hK hP kz_228 o_1 dX9_workOf_5 ?_
  refine lv_topi (fun x2_2 e2_2 => ?_)
  have h := h x2_2 e2_2
  refine lv_istore_n (lv' := [(2, .int x2_2), (0, .ref (G.1 + 224)), (1, .int x1)]) X.1 X.2.1 dX9_workOf_6 rfl hl (by decide) rfl (fun ls hl => ?_)
  refine lv_aload_n X.1 X.2.1 dX9_workOf_7 rfl (lv_at hl 1 rfl) ?_
  refine gf_X9_pairJ X hK hP tl_X9_26 dX9_workOf_8 ?_
  refine lv_iload_n X.1 X.2.1 dX9_workOf_11 rfl (lv_at hl 2 rfl) ?_
  refine q_iald X hK hP kz_229 o_1 dX9_workOf_12 ?_
  refine lv_topi (fun x3_3 e3_3 => ?_)
  have h := h x3_3 e3_3
  refine lv_istore_n (lv' := [(3, .int x3_3), (2, .int x2_2), (0, .ref (G.1 + 224)), (1, .int x1)]) X.1 X.2.1 dX9_workOf_13 rfl hl (by decide) rfl (fun ls hl => ?_)
  refine lv_aload_n X.1 X.2.1 dX9_workOf_14 rfl (lv_at hl 2 rfl) ?_
  refine gf_X9_rules X hK hP tl_X9_178 dX9_workOf_15 ?_
  refine lv_iconst (v := 1) X.1 X.2.1 dX9_workOf_18 (by decide) ?_
  refine lv_iand X.1 X.2.1 dX9_workOf_19 ?_
  refine lv_iconst (v := 1) X.1 X.2.1 dX9_workOf_20 (by decide) ?_
  refine lv_icmp_ne (tgt := 50) X.1 X.2.1 dX9_workOf_21 (by decide) (fun c_4 => ?_) (fun c_4 => ?_)
  · have h := h.1 c_4
    exact B50 x2_2 x3_3 S _ (lv_sub hl [2, 3, 1, 0] rfl) h _ _ hP hS
  · have h := h.2 c_4
    refine lv_aload_n X.1 X.2.1 dX9_workOf_24 rfl (lv_at hl 2 rfl) ?_
    refine lv_iload_n X.1 X.2.1 dX9_workOf_25 rfl (lv_at hl 1 rfl) ?_
    refine lv_iload_n X.1 X.2.1 dX9_workOf_26 rfl (lv_at hl 0 rfl) ?_
    refine q_callV (rest := []) (b := 224) X hK hP hS (c_X9_areCoprime l G x2_2 x3_3 S _ h) my_X9_areCoprime tl_X9_194 dX9_workOf_27 kz_224 rfl rfl rfl ⟨Nat.le_of_ble_eq_true rfl, Nat.le_of_ble_eq_true rfl⟩ hl.1 rfl (Nat.le_of_ble_eq_true rfl) ⟨Nat.le_of_ble_eq_true rfl, Nat.le_of_ble_eq_true rfl⟩ (fun r_6 S_5 H locs h hP hS => ?_)
    refine W.eq (g2 := F0 m 30 ls [.int r_6]) rfl ?_
    refine lv_if_eq (tgt := 50) X.1 X.2.1 dX9_workOf_30 (by decide) (fun c_7 => ?_) (fun c_7 => ?_)
    · have h := h.1 c_7
      exact B50 x2_2 x3_3 S_5 _ (lv_sub hl [2, 3, 1, 0] rfl) h _ _ hP hS
    · have h := h.2 c_7
      refine lv_aload_n X.1 X.2.1 dX9_workOf_33 rfl (lv_at hl 2 rfl) ?_
      refine lv_dup X.1 X.2.1 dX9_workOf_34 rfl ?_
      refine gf_X9_passedCoprime X hK hP tl_X9_197 dX9_workOf_35 ?_
      refine lv_iconst (v := 1) X.1 X.2.1 dX9_workOf_38 (by decide) ?_
      refine lv_iadd X.1 X.2.1 dX9_workOf_39 ?_
      refine pf_X9_passedCoprime X hK hP hS tl_X9_197 dX9_workOf_40 (fun S_8 H locs eS_8 hP hS => ?_)
      have h := h S_8 eS_8
      refine lv_aload_n X.1 X.2.1 dX9_workOf_43 rfl (lv_at hl 2 rfl) ?_
      refine lv_iload_n X.1 X.2.1 dX9_workOf_44 rfl (lv_at hl 3 rfl) ?_
      refine q_callV (rest := []) (b := 224) X hK hP hS (c_X9_goes l G x1 S_8 _ h) my_X9_goes tl_X9_200 dX9_workOf_45 kz_224 rfl rfl rfl ⟨Nat.le_of_ble_eq_true rfl, Nat.le_of_ble_eq_true rfl⟩ hl.1 rfl (Nat.le_of_ble_eq_true rfl) ⟨Nat.le_of_ble_eq_true rfl, Nat.le_of_ble_eq_true rfl⟩ (fun r_10 S_9 H locs h hP hS => ?_)
      refine W.eq (g2 := F0 m 48 ls []) rfl ?_
      refine lv_iconst (v := 0) X.1 X.2.1 dX9_workOf_48 (by decide) ?_
      exact q_iret X hr hlocks hP hS rfl h dX9_workOf_49

set_option maxHeartbeats 4000000 in
set_option maxRecDepth 100000 in
theorem c_X9_work (l : Launch) (G : Cx) (x1 : Int32) (S : St) (K : Int32 → St → Prop) (h : w_X9_work x1 S K) : q_Met l yX9_work cX9_work 4 (some .int) 7 170 G [.ref (G.1 + 224), .int x1] v_i S K := by
  refine q_enter (by decide +kernel) (Nat.le_of_ble_eq_true rfl) (fun p e s m args below meth c ls X hK hP hr hlocks hl => ?_)
  have hS : va_S (fr_ G) s.heap s.heap [] := va_S.rf
  have hl : lv_has ls 4 [(0, .ref (G.1 + 224)), (1, .int x1)] := hl
  have B67 : ∀ (x2 : Int32) (S : St) (ls : Array Slot), lv_has ls 4 [(2, .int x2)] → w_X9_work_67 x1 K x2 S → q_W p l e (k2_rm 7 170) s m args below meth c 0 0 (MQ below (q_Qc G K v_i) args s 0 0 (fr_ G)) G 67 ls [] S := by
    intro x2 S ls hl h H locs hP hS
    refine lv_iload_n X.1 X.2.1 dX9_work_67 rfl (lv_at hl 0 rfl) ?_
    exact q_iret X hr hlocks hP hS rfl h dX9_work_68
  have B21 : ∀ (f : Nat) (x2 : Int32) (S : St) (ls : Array Slot), lv_has ls 4 [(0, .ref (G.1 + 224)), (1, .int x1), (2, .int x2)] → q_it (fun _ _ => False) (w_X9_work_21 x1 K) f x2 S → q_W p l e (k2_rm 7 170) s m args below meth c 0 0 (MQ below (q_Qc G K v_i) args s 0 0 (fr_ G)) G 21 ls [] S := by
    intro f
    induction f with
    | zero => intro x2 S ls hl h; exact False.elim h
    | succ f hk21 =>
      intro x2 S ls hl h H locs hP hS
      have h : w_X9_work_21 x1 K (q_it (fun _ _ => False) (w_X9_work_21 x1 K) f) x2 S := h
      generalize q_it (fun _ _ => False) (w_X9_work_21 x1 K) f = k21 at h hk21
      refine lv_iload_n X.1 X.2.1 dX9_work_21 rfl (lv_at hl 2 rfl) ?_
      refine lv_iload_n X.1 X.2.1 dX9_work_22 rfl (lv_at hl 1 rfl) ?_
      refine lv_icmp_ge (tgt := 67) X.1 X.2.1 dX9_work_23 (by decide) (fun c_1 => ?_) (fun c_1 => ?_)
      · have h := h.1 c_1
        exact B67 x2 S _ (lv_sub hl [2] rfl) h _ _ hP hS
      · have h := h.2 c_1
        refine lv_aload_n X.1 X.2.1 dX9_work_26 rfl (lv_at hl 0 rfl) ?_
        refine gf_X9_pairs X hK hP tl_X9_181 dX9_work_27 ?_
        refine lv_if_le (tgt := 67) X.1 X.2.1 dX9_work_30 (by decide) (fun c_2 => ?_) (fun c_2 => ?_)
        · have h := h.1 c_2
          exact B67 x2 S _ (lv_sub hl [2] rfl) h _ _ hP hS
        · have h := h.2 c_2
          refine lv_aload_n X.1 X.2.1 dX9_work_33 rfl (lv_at hl 0 rfl) ?_
          refine lv_iconst (v := 0) X.1 X.2.1 dX9_work_34 (by decide) ?_
          refine pf_X9_used X hK hP hS tl_X9_158 dX9_work_35 (fun S_3 H locs eS_3 hP hS => ?_)
          have h := h S_3 eS_3
          refine lv_aload_n X.1 X.2.1 dX9_work_38 rfl (lv_at hl 0 rfl) ?_
          refine lv_aload_n X.1 X.2.1 dX9_work_39 rfl (lv_at hl 0 rfl) ?_
          refine q_callV (rest := [.ref (G.1 + 224)]) (b := 224) X hK hP hS (c_X9_nextPair l G S_3 _ h) my_X9_nextPair tl_X9_224 dX9_work_40 kz_224 rfl rfl rfl ⟨Nat.le_of_ble_eq_true rfl, Nat.le_of_ble_eq_true rfl⟩ hl.1 rfl (Nat.le_of_ble_eq_true rfl) ⟨Nat.le_of_ble_eq_true rfl, Nat.le_of_ble_eq_true rfl⟩ (fun r_5 S_4 H locs h hP hS => ?_)
          refine W.eq (g2 := F0 m 43 ls [.int r_5, .ref (G.1 + 224)]) rfl ?_
          refine q_callV (rest := []) (b := 224) X hK hP hS (c_X9_workOf l G r_5 S_4 _ h) my_X9_workOf tl_X9_227 dX9_work_43 kz_224 rfl rfl rfl ⟨Nat.le_of_ble_eq_true rfl, Nat.le_of_ble_eq_true rfl⟩ hl.1 rfl (Nat.le_of_ble_eq_true rfl) ⟨Nat.le_of_ble_eq_true rfl, Nat.le_of_ble_eq_true rfl⟩ (fun r_7 S_6 H locs h hP hS => ?_)
          refine W.eq (g2 := F0 m 46 ls [.int r_7]) rfl ?_
          refine lv_istore_n (lv' := [(3, .int r_7), (0, .ref (G.1 + 224)), (1, .int x1), (2, .int x2)]) X.1 X.2.1 dX9_work_46 rfl hl (by decide) rfl (fun ls hl => ?_)
          refine lv_aload_n X.1 X.2.1 dX9_work_47 rfl (lv_at hl 1 rfl) ?_
          refine lv_aload_n X.1 X.2.1 dX9_work_48 rfl (lv_at hl 1 rfl) ?_
          refine gf_X9_used X hK hP tl_X9_158 dX9_work_49 ?_
          refine pf_X9_latest X hK hP hS tl_X9_221 dX9_work_52 (fun S_8 H locs eS_8 hP hS => ?_)
          have h := h S_8 eS_8
          refine lv_iload_n X.1 X.2.1 dX9_work_55 rfl (lv_at hl 0 rfl) ?_
          refine lv_if_ge (tgt := 61) X.1 X.2.1 dX9_work_56 (by decide) (fun c_9 => ?_) (fun c_9 => ?_)
          · have h := h.1 c_9
            obtain ⟨x2_10, e2_10⟩ : ∃ y : Int32, y = x2 + 1 := ⟨_, rfl⟩
            have h := h x2_10 e2_10
            refine lv_iinc (v := x2_10) (lv' := [(2, .int x2_10), (3, .int r_7), (0, .ref (G.1 + 224)), (1, .int x1)]) X.1 X.2.1 dX9_work_61 hl (k := 3) rfl (by rw [e2_10]; first | rfl | decide) (by decide) rfl (fun ls hl => ?_)
            refine lv_goto (tgt := 21) X.1 X.2.1 dX9_work_64 (by decide) ?_
            exact hk21 x2_10 S_8 _ (lv_sub hl [2, 3, 0] rfl) h _ _ hP hS
          · have h := h.2 c_9
            refine lv_iload_n X.1 X.2.1 dX9_work_59 rfl (lv_at hl 0 rfl) ?_
            exact q_iret X hr hlocks hP hS rfl h dX9_work_60
  refine lv_iload_n X.1 X.2.1 dX9_work_0 rfl (lv_at hl 1 rfl) ?_
  refine lv_iconst (v := 1) X.1 X.2.1 dX9_work_1 (by decide) ?_
  refine lv_sipush (v := 200) X.1 X.2.1 dX9_work_2 (by decide) ?_
  refine q_callS (rest := []) X hK hP hS (c_X9_in l G x1 1 200 S _ h) my_X9_in tl_X9_78 dX9_work_5 rfl ⟨Nat.le_of_ble_eq_true rfl, Nat.le_of_ble_eq_true rfl⟩ hl.1 rfl (Nat.le_of_ble_eq_true rfl) ⟨Nat.le_of_ble_eq_true rfl, Nat.le_of_ble_eq_true rfl⟩ (fun r_2 S_1 H locs h hP hS => ?_)
  refine W.eq (g2 := F0 m 8 ls [.int r_2]) rfl ?_
  refine lv_if_ne (tgt := 14) X.1 X.2.1 dX9_work_8 (by decide) (fun c_3 => ?_) (fun c_3 => ?_)
  · have h := h.1 c_3
    refine lv_aload_n X.1 X.2.1 dX9_work_14 rfl (lv_at hl 0 rfl) ?_
    refine lv_iconst (v := 0) X.1 X.2.1 dX9_work_15 (by decide) ?_
    refine pf_X9_latest X hK hP hS tl_X9_221 dX9_work_16 (fun S_4 H locs eS_4 hP hS => ?_)
    have h := h S_4 eS_4
    refine lv_iconst (v := 0) X.1 X.2.1 dX9_work_19 (by decide) ?_
    refine lv_istore_n (lv' := [(2, .int 0), (0, .ref (G.1 + 224)), (1, .int x1)]) X.1 X.2.1 dX9_work_20 rfl hl (by decide) rfl (fun ls hl => ?_)
    obtain ⟨f_5, h⟩ := h
    exact B21 f_5 0 S_4 _ (lv_sub hl [1, 2, 0] rfl) h _ _ hP hS
  · have h := h.2 c_3
    refine lv_bipush (v := (-2)) X.1 X.2.1 dX9_work_11 (by decide) ?_
    exact q_iret X hr hlocks hP hS rfl h dX9_work_13

set_option maxHeartbeats 4000000 in
set_option maxRecDepth 100000 in
theorem c_X9_isGone (l : Launch) (G : Cx) (x1 : Int32) (S : St) (K : Int32 → St → Prop) (h : w_X9_isGone x1 S K) : q_Met l yX9_isGone cX9_isGone 5 (some .boolean) 1 25 G [.ref (G.1 + 224), .int x1] v_i S K := by
  refine q_enter (by decide +kernel) (Nat.le_of_ble_eq_true rfl) (fun p e s m args below meth c ls X hK hP hr hlocks hl => ?_)
  have hS : va_S (fr_ G) s.heap s.heap [] := va_S.rf
  have hl : lv_has ls 5 [(0, .ref (G.1 + 224)), (1, .int x1)] := hl
  have B108 : ∀ (x2 : Int32) (k2 : Int32 → St → Prop) (hk2 : ∀ (x2 : Int32) (S : St) (ls : Array Slot), lv_has ls 5 [(0, .ref (G.1 + 224)), (1, .int x1), (2, .int x2)] → k2 x2 S → q_W p l e (k2_rm 1 25) s m args below meth c 0 0 (MQ below (q_Qc G K v_i) args s 0 0 (fr_ G)) G 2 ls [] S) (S : St) (ls : Array Slot), lv_has ls 5 [(0, .ref (G.1 + 224)), (1, .int x1), (2, .int x2)] → w_X9_isGone_108 x1 K k2 x2 S → q_W p l e (k2_rm 1 25) s m args below meth c 0 0 (MQ below (q_Qc G K v_i) args s 0 0 (fr_ G)) G 108 ls [] S := by
    intro x2 k2 hk2 S ls hl h H locs hP hS
    obtain ⟨x2_1, e2_1⟩ : ∃ y : Int32, y = x2 + 1 := ⟨_, rfl⟩
    have h := h x2_1 e2_1
    refine lv_iinc (v := x2_1) (lv' := [(2, .int x2_1), (0, .ref (G.1 + 224)), (1, .int x1)]) X.1 X.2.1 dX9_isGone_108 hl (k := 2) rfl (by rw [e2_1]; first | rfl | decide) (by decide) rfl (fun ls hl => ?_)
    refine lv_goto (tgt := 2) X.1 X.2.1 dX9_isGone_111 (by decide) ?_
    exact hk2 x2_1 S _ (lv_sub hl [1, 2, 0] rfl) h _ _ hP hS
  have B106 : ∀ (S : St) (ls : Array Slot), lv_has ls 5 [] → w_X9_isGone_106 x1 K S → q_W p l e (k2_rm 1 25) s m args below meth c 0 0 (MQ below (q_Qc G K v_i) args s 0 0 (fr_ G)) G 106 ls [] S := by
    intro S ls hl h H locs hP hS
    refine lv_iconst (v := 1) X.1 X.2.1 dX9_isGone_106 (by decide) ?_
    exact q_iret X hr hlocks hP hS rfl h dX9_isGone_107
  have B90 : ∀ (x2 : Int32) (x3 : Int32) (z0 : Int32) (k2 : Int32 → St → Prop) (hk2 : ∀ (x2 : Int32) (S : St) (ls : Array Slot), lv_has ls 5 [(0, .ref (G.1 + 224)), (1, .int x1), (2, .int x2)] → k2 x2 S → q_W p l e (k2_rm 1 25) s m args below meth c 0 0 (MQ below (q_Qc G K v_i) args s 0 0 (fr_ G)) G 2 ls [] S) (S : St) (ls : Array Slot), lv_has ls 5 [(0, .ref (G.1 + 224)), (1, .int x1), (2, .int x2), (3, .int x3)] → w_X9_isGone_90 x1 K k2 x2 x3 z0 S → q_W p l e (k2_rm 1 25) s m args below meth c 0 0 (MQ below (q_Qc G K v_i) args s 0 0 (fr_ G)) G 90 ls [.int z0] S := by
    intro x2 x3 z0 k2 hk2 S ls hl h H locs hP hS
    refine lv_istore (lv' := [(4, .int z0), (0, .ref (G.1 + 224)), (1, .int x1), (2, .int x2), (3, .int x3)]) X.1 X.2.1 dX9_isGone_90 hl (by decide) rfl (fun ls hl => ?_)
    refine lv_iload_n X.1 X.2.1 dX9_isGone_92 rfl (lv_at hl 4 rfl) ?_
    refine lv_if_eq (tgt := 108) X.1 X.2.1 dX9_isGone_93 (by decide) (fun c_1 => ?_) (fun c_1 => ?_)
    · have h := h.1 c_1
      exact B108 x2 k2 hk2 S _ (lv_sub hl [1, 2, 3] rfl) h _ _ hP hS
    · have h := h.2 c_1
      refine lv_iload X.1 X.2.1 dX9_isGone_96 (lv_at hl 0 rfl) ?_
      refine lv_if_eq (tgt := 106) X.1 X.2.1 dX9_isGone_98 (by decide) (fun c_2 => ?_) (fun c_2 => ?_)
      · have h := h.1 c_2
        exact B106 S _ (lv_sub hl [] rfl) h _ _ hP hS
      · have h := h.2 c_2
        refine lv_iload_n X.1 X.2.1 dX9_isGone_101 rfl (lv_at hl 3 rfl) ?_
        refine lv_iload_n X.1 X.2.1 dX9_isGone_102 rfl (lv_at hl 2 rfl) ?_
        refine lv_icmp_ge (tgt := 108) X.1 X.2.1 dX9_isGone_103 (by decide) (fun c_3 => ?_) (fun c_3 => ?_)
        · have h := h.1 c_3
          exact B108 x2 k2 hk2 S _ (lv_sub hl [1, 2, 3] rfl) h _ _ hP hS
        · have h := h.2 c_3
          exact B106 S _ (lv_sub hl [] rfl) h _ _ hP hS
  have B89 : ∀ (x2 : Int32) (x3 : Int32) (k2 : Int32 → St → Prop) (hk2 : ∀ (x2 : Int32) (S : St) (ls : Array Slot), lv_has ls 5 [(0, .ref (G.1 + 224)), (1, .int x1), (2, .int x2)] → k2 x2 S → q_W p l e (k2_rm 1 25) s m args below meth c 0 0 (MQ below (q_Qc G K v_i) args s 0 0 (fr_ G)) G 2 ls [] S) (S : St) (ls : Array Slot), lv_has ls 5 [(0, .ref (G.1 + 224)), (1, .int x1), (2, .int x2), (3, .int x3)] → w_X9_isGone_89 x1 K k2 x2 x3 S → q_W p l e (k2_rm 1 25) s m args below meth c 0 0 (MQ below (q_Qc G K v_i) args s 0 0 (fr_ G)) G 89 ls [] S := by
    intro x2 x3 k2 hk2 S ls hl h H locs hP hS
    refine lv_iconst (v := 0) X.1 X.2.1 dX9_isGone_89 (by decide) ?_
    exact B90 x2 x3 0 k2 hk2 S _ (lv_sub hl [0, 1, 2, 3] rfl) h _ _ hP hS
  have B50 : ∀ (x2 : Int32) (z0 : Int32) (k2 : Int32 → St → Prop) (hk2 : ∀ (x2 : Int32) (S : St) (ls : Array Slot), lv_has ls 5 [(0, .ref (G.1 + 224)), (1, .int x1), (2, .int x2)] → k2 x2 S → q_W p l e (k2_rm 1 25) s m args below meth c 0 0 (MQ below (q_Qc G K v_i) args s 0 0 (fr_ G)) G 2 ls [] S) (S : St) (ls : Array Slot), lv_has ls 5 [(0, .ref (G.1 + 224)), (1, .int x1), (2, .int x2)] → w_X9_isGone_50 x1 K k2 x2 z0 S → q_W p l e (k2_rm 1 25) s m args below meth c 0 0 (MQ below (q_Qc G K v_i) args s 0 0 (fr_ G)) G 50 ls [.int z0] S := by
    intro x2 z0 k2 hk2 S ls hl h H locs hP hS
    refine lv_istore_n (lv' := [(3, .int z0), (0, .ref (G.1 + 224)), (1, .int x1), (2, .int x2)]) X.1 X.2.1 dX9_isGone_50 rfl hl (by decide) rfl (fun ls hl => ?_)
    refine lv_iload_n X.1 X.2.1 dX9_isGone_51 rfl (lv_at hl 0 rfl) ?_
    refine lv_if_eq (tgt := 89) X.1 X.2.1 dX9_isGone_52 (by decide) (fun c_1 => ?_) (fun c_1 => ?_)
    · have h := h.1 c_1
      exact B89 x2 z0 k2 hk2 S _ (lv_sub hl [1, 2, 3, 0] rfl) h _ _ hP hS
    · have h := h.2 c_1
      refine lv_aload_n X.1 X.2.1 dX9_isGone_55 rfl (lv_at hl 1 rfl) ?_
      refine gf_X9_exponents X hK hP tl_X9_20 dX9_isGone_56 ?_
      refine lv_sipush (v := 160) X.1 X.2.1 dX9_isGone_59 (by decide) ?_
      refine lv_bipush (v := 25) X.1 X.2.1 dX9_isGone_62 (by decide) ?_
      refine lv_iload_n X.1 X.2.1 dX9_isGone_64 rfl (lv_at hl 2 rfl) ?_
      refine lv_iadd X.1 X.2.1 dX9_isGone_65 ?_
      refine lv_imul X.1 X.2.1 dX9_isGone_66 ?_
      refine lv_aload_n X.1 X.2.1 dX9_isGone_67 rfl (lv_at hl 1 rfl) ?_
      refine gf_X9_exponents X hK hP tl_X9_20 dX9_isGone_68 ?_
      refine lv_sipush (v := 160) X.1 X.2.1 dX9_isGone_71 (by decide) ?_
      refine lv_bipush (v := 25) X.1 X.2.1 dX9_isGone_74 (by decide) ?_
      refine lv_iload_n X.1 X.2.1 dX9_isGone_76 rfl (lv_at hl 3 rfl) ?_
      refine lv_iadd X.1 X.2.1 dX9_isGone_77 ?_
      refine lv_imul X.1 X.2.1 dX9_isGone_78 ?_
      refine q_callS (rest := []) X hK hP hS (c_X9_divides l G 227 (160 * (25 + x1)) 227 (160 * (25 + x2)) S _ ⟨kz_227.1, rfl⟩ ⟨kz_227.1, rfl⟩ h) my_X9_divides tl_X9_154 dX9_isGone_79 rfl ⟨Nat.le_of_ble_eq_true rfl, Nat.le_of_ble_eq_true rfl⟩ hl.1 rfl (Nat.le_of_ble_eq_true rfl) ⟨Nat.le_of_ble_eq_true rfl, Nat.le_of_ble_eq_true rfl⟩ (fun r_3 S_2 H locs h hP hS => ?_)
      refine W.eq (g2 := F0 m 82 ls [.int r_3]) rfl ?_
      refine lv_if_eq (tgt := 89) X.1 X.2.1 dX9_isGone_82 (by decide) (fun c_4 => ?_) (fun c_4 => ?_)
      · have h := h.1 c_4
        exact B89 x2 z0 k2 hk2 S_2 _ (lv_sub hl [1, 2, 3, 0] rfl) h _ _ hP hS
      · have h := h.2 c_4
        refine lv_iconst (v := 1) X.1 X.2.1 dX9_isGone_85 (by decide) ?_
        refine lv_goto (tgt := 90) X.1 X.2.1 dX9_isGone_86 (by decide) ?_
        exact B90 x2 z0 1 k2 hk2 S_2 _ (lv_sub hl [1, 2, 3, 0] rfl) h _ _ hP hS
  have B49 : ∀ (x2 : Int32) (k2 : Int32 → St → Prop) (hk2 : ∀ (x2 : Int32) (S : St) (ls : Array Slot), lv_has ls 5 [(0, .ref (G.1 + 224)), (1, .int x1), (2, .int x2)] → k2 x2 S → q_W p l e (k2_rm 1 25) s m args below meth c 0 0 (MQ below (q_Qc G K v_i) args s 0 0 (fr_ G)) G 2 ls [] S) (S : St) (ls : Array Slot), lv_has ls 5 [(0, .ref (G.1 + 224)), (1, .int x1), (2, .int x2)] → w_X9_isGone_49 x1 K k2 x2 S → q_W p l e (k2_rm 1 25) s m args below meth c 0 0 (MQ below (q_Qc G K v_i) args s 0 0 (fr_ G)) G 49 ls [] S := by
    intro x2 k2 hk2 S ls hl h H locs hP hS
    refine lv_iconst (v := 0) X.1 X.2.1 dX9_isGone_49 (by decide) ?_
    exact B50 x2 0 k2 hk2 S _ (lv_sub hl [0, 1, 2] rfl) h _ _ hP hS
  have B2 : ∀ (f : Nat) (x2 : Int32) (S : St) (ls : Array Slot), lv_has ls 5 [(0, .ref (G.1 + 224)), (1, .int x1), (2, .int x2)] → q_it (fun _ _ => False) (w_X9_isGone_2 x1 K) f x2 S → q_W p l e (k2_rm 1 25) s m args below meth c 0 0 (MQ below (q_Qc G K v_i) args s 0 0 (fr_ G)) G 2 ls [] S := by
    intro f
    induction f with
    | zero => intro x2 S ls hl h; exact False.elim h
    | succ f hk2 =>
      intro x2 S ls hl h H locs hP hS
      have h : w_X9_isGone_2 x1 K (q_it (fun _ _ => False) (w_X9_isGone_2 x1 K) f) x2 S := h
      generalize q_it (fun _ _ => False) (w_X9_isGone_2 x1 K) f = k2 at h hk2
      refine lv_iload_n X.1 X.2.1 dX9_isGone_2 rfl (lv_at hl 2 rfl) ?_
      refine lv_aload_n X.1 X.2.1 dX9_isGone_3 rfl (lv_at hl 0 rfl) ?_
      refine gf_X9_basis X hK hP tl_X9_107 dX9_isGone_4 ?_
      refine lv_icmp_ge (tgt := 114) X.1 X.2.1 dX9_isGone_7 (by decide) (fun c_1 => ?_) (fun c_1 => ?_)
      · have h := h.1 c_1
        refine lv_iconst (v := 0) X.1 X.2.1 dX9_isGone_114 (by decide) ?_
        exact q_iret X hr hlocks hP hS rfl h dX9_isGone_115
      · have h := h.2 c_1
        refine lv_iload_n X.1 X.2.1 dX9_isGone_10 rfl (lv_at hl 2 rfl) ?_
        refine lv_iload_n X.1 X.2.1 dX9_isGone_11 rfl (lv_at hl 1 rfl) ?_
        refine lv_icmp_eq (tgt := 49) X.1 X.2.1 dX9_isGone_12 (by decide) (fun c_2 => ?_) (fun c_2 => ?_)
        · have h := h.1 c_2
          exact B49 x2 k2 hk2 S _ (lv_sub hl [0, 1, 2] rfl) h _ _ hP hS
        · have h := h.2 c_2
          refine lv_aload_n X.1 X.2.1 dX9_isGone_15 rfl (lv_at hl 0 rfl) ?_
          refine gf_X9_exponents X hK hP tl_X9_20 dX9_isGone_16 ?_
          refine lv_sipush (v := 160) X.1 X.2.1 dX9_isGone_19 (by decide) ?_
          refine lv_bipush (v := 25) X.1 X.2.1 dX9_isGone_22 (by decide) ?_
          refine lv_iload_n X.1 X.2.1 dX9_isGone_24 rfl (lv_at hl 2 rfl) ?_
          refine lv_iadd X.1 X.2.1 dX9_isGone_25 ?_
          refine lv_imul X.1 X.2.1 dX9_isGone_26 ?_
          refine lv_aload_n X.1 X.2.1 dX9_isGone_27 rfl (lv_at hl 0 rfl) ?_
          refine gf_X9_exponents X hK hP tl_X9_20 dX9_isGone_28 ?_
          refine lv_sipush (v := 160) X.1 X.2.1 dX9_isGone_31 (by decide) ?_
          refine lv_bipush (v := 25) X.1 X.2.1 dX9_isGone_34 (by decide) ?_
          refine lv_iload_n X.1 X.2.1 dX9_isGone_36 rfl (lv_at hl 1 rfl) ?_
          refine lv_iadd X.1 X.2.1 dX9_isGone_37 ?_
          refine lv_imul X.1 X.2.1 dX9_isGone_38 ?_
          refine q_callS (rest := []) X hK hP hS (c_X9_divides l G 227 (160 * (25 + x2)) 227 (160 * (25 + x1)) S _ ⟨kz_227.1, rfl⟩ ⟨kz_227.1, rfl⟩ h) my_X9_divides tl_X9_154 dX9_isGone_39 rfl ⟨Nat.le_of_ble_eq_true rfl, Nat.le_of_ble_eq_true rfl⟩ hl.1 rfl (Nat.le_of_ble_eq_true rfl) ⟨Nat.le_of_ble_eq_true rfl, Nat.le_of_ble_eq_true rfl⟩ (fun r_4 S_3 H locs h hP hS => ?_)
          refine W.eq (g2 := F0 m 42 ls [.int r_4]) rfl ?_
          refine lv_if_eq (tgt := 49) X.1 X.2.1 dX9_isGone_42 (by decide) (fun c_5 => ?_) (fun c_5 => ?_)
          · have h := h.1 c_5
            exact B49 x2 k2 hk2 S_3 _ (lv_sub hl [0, 1, 2] rfl) h _ _ hP hS
          · have h := h.2 c_5
            refine lv_iconst (v := 1) X.1 X.2.1 dX9_isGone_45 (by decide) ?_
            refine lv_goto (tgt := 50) X.1 X.2.1 dX9_isGone_46 (by decide) ?_
            exact B50 x2 1 k2 hk2 S_3 _ (lv_sub hl [0, 1, 2] rfl) h _ _ hP hS
  refine lv_iconst (v := 0) X.1 X.2.1 dX9_isGone_0 (by decide) ?_
  refine lv_istore_n (lv' := [(2, .int 0), (0, .ref (G.1 + 224)), (1, .int x1)]) X.1 X.2.1 dX9_isGone_1 rfl hl (by decide) rfl (fun ls hl => ?_)
  obtain ⟨f_1, h⟩ := h
  exact B2 f_1 0 S _ (lv_sub hl [1, 2, 0] rfl) h _ _ hP hS

set_option maxHeartbeats 4000000 in
set_option maxRecDepth 100000 in
theorem c_X9_sort (l : Launch) (G : Cx) (S : St) (K : Unit → St → Prop) (h : w_X9_sort S K) : q_Met l yX9_sort cX9_sort 3 none 2 53 G [.ref (G.1 + 224)] v_v S K := by
  refine q_enter (by decide +kernel) (Nat.le_of_ble_eq_true rfl) (fun p e s m args below meth c ls X hK hP hr hlocks hl => ?_)
  have hS : va_S (fr_ G) s.heap s.heap [] := va_S.rf
  have hl : lv_has ls 3 [(0, .ref (G.1 + 224))] := hl
  have B107 : ∀ (x1 : Int32) (k7 : Int32 → St → Prop) (hk7 : ∀ (x1 : Int32) (S : St) (ls : Array Slot), lv_has ls 3 [(0, .ref (G.1 + 224)), (1, .int x1)] → k7 x1 S → q_W p l e (k2_rm 2 53) s m args below meth c 0 0 (MQ below (q_Qc G K v_v) args s 0 0 (fr_ G)) G 7 ls [] S) (S : St) (ls : Array Slot), lv_has ls 3 [(0, .ref (G.1 + 224)), (1, .int x1)] → w_X9_sort_107 K k7 x1 S → q_W p l e (k2_rm 2 53) s m args below meth c 0 0 (MQ below (q_Qc G K v_v) args s 0 0 (fr_ G)) G 107 ls [] S := by
    intro x1 k7 hk7 S ls hl h H locs hP hS
    obtain ⟨x1_1, e1_1⟩ : ∃ y : Int32, y = x1 + 1 := ⟨_, rfl⟩
    have h := h x1_1 e1_1
    refine lv_iinc (v := x1_1) (lv' := [(1, .int x1_1), (0, .ref (G.1 + 224))]) X.1 X.2.1 dX9_sort_107 hl (k := 1) rfl (by rw [e1_1]; first | rfl | decide) (by decide) rfl (fun ls hl => ?_)
    refine lv_goto (tgt := 7) X.1 X.2.1 dX9_sort_110 (by decide) ?_
    exact hk7 x1_1 S _ (lv_sub hl [1, 0] rfl) h _ _ hP hS
  have B85 : ∀ (x1 : Int32) (x2 : Int32) (k7 : Int32 → St → Prop) (hk7 : ∀ (x1 : Int32) (S : St) (ls : Array Slot), lv_has ls 3 [(0, .ref (G.1 + 224)), (1, .int x1)] → k7 x1 S → q_W p l e (k2_rm 2 53) s m args below meth c 0 0 (MQ below (q_Qc G K v_v) args s 0 0 (fr_ G)) G 7 ls [] S) (S : St) (ls : Array Slot), lv_has ls 3 [(0, .ref (G.1 + 224)), (1, .int x1), (2, .int x2)] → w_X9_sort_85 K k7 x1 x2 S → q_W p l e (k2_rm 2 53) s m args below meth c 0 0 (MQ below (q_Qc G K v_v) args s 0 0 (fr_ G)) G 85 ls [] S := by
    intro x1 x2 k7 hk7 S ls hl h H locs hP hS
    refine lv_aload_n X.1 X.2.1 dX9_sort_85 rfl (lv_at hl 0 rfl) ?_
    refine lv_bipush (v := 25) X.1 X.2.1 dX9_sort_86 (by decide) ?_
    refine lv_iload_n X.1 X.2.1 dX9_sort_88 rfl (lv_at hl 1 rfl) ?_
    refine lv_iadd X.1 X.2.1 dX9_sort_89 ?_
    refine lv_bipush (v := 43) X.1 X.2.1 dX9_sort_90 (by decide) ?_
    refine lv_iload_n X.1 X.2.1 dX9_sort_92 rfl (lv_at hl 2 rfl) ?_
    refine lv_iadd X.1 X.2.1 dX9_sort_93 ?_
    refine q_callV (rest := []) (b := 224) X hK hP hS (c_X9_copy l G (25 + x1) (43 + x2) S _ h) my_X9_copy tl_X9_128 dX9_sort_94 kz_224 rfl rfl rfl ⟨Nat.le_of_ble_eq_true rfl, Nat.le_of_ble_eq_true rfl⟩ hl.1 rfl (Nat.le_of_ble_eq_true rfl) ⟨Nat.le_of_ble_eq_true rfl, Nat.le_of_ble_eq_true rfl⟩ (fun r_2 S_1 H locs h hP hS => ?_)
    refine W.eq (g2 := F0 m 97 ls []) rfl ?_
    refine lv_aload_n X.1 X.2.1 dX9_sort_97 rfl (lv_at hl 0 rfl) ?_
    refine lv_dup X.1 X.2.1 dX9_sort_98 rfl ?_
    refine gf_X9_tidied X hK hP tl_X9_230 dX9_sort_99 ?_
    refine lv_iconst (v := 1) X.1 X.2.1 dX9_sort_102 (by decide) ?_
    refine lv_iadd X.1 X.2.1 dX9_sort_103 ?_
    refine pf_X9_tidied X hK hP hS tl_X9_230 dX9_sort_104 (fun S_3 H locs eS_3 hP hS => ?_)
    have h := h S_3 eS_3
    exact B107 x1 k7 hk7 S_3 _ (lv_sub hl [0, 1] rfl) h _ _ hP hS
  have B28 : ∀ (x1 : Int32) (k7 : Int32 → St → Prop) (hk7 : ∀ (x1 : Int32) (S : St) (ls : Array Slot), lv_has ls 3 [(0, .ref (G.1 + 224)), (1, .int x1)] → k7 x1 S → q_W p l e (k2_rm 2 53) s m args below meth c 0 0 (MQ below (q_Qc G K v_v) args s 0 0 (fr_ G)) G 7 ls [] S) (f : Nat) (x2 : Int32) (S : St) (ls : Array Slot), lv_has ls 3 [(0, .ref (G.1 + 224)), (1, .int x1), (2, .int x2)] → q_it (fun _ _ => False) (w_X9_sort_28 K k7 x1) f x2 S → q_W p l e (k2_rm 2 53) s m args below meth c 0 0 (MQ below (q_Qc G K v_v) args s 0 0 (fr_ G)) G 28 ls [] S := by
    intro x1 k7 hk7 f
    induction f with
    | zero => intro x2 S ls hl h; exact False.elim h
    | succ f hk28 =>
      intro x2 S ls hl h H locs hP hS
      have h : w_X9_sort_28 K k7 x1 (q_it (fun _ _ => False) (w_X9_sort_28 K k7 x1) f) x2 S := h
      generalize q_it (fun _ _ => False) (w_X9_sort_28 K k7 x1) f = k28 at h hk28
      refine lv_iload_n X.1 X.2.1 dX9_sort_28 rfl (lv_at hl 2 rfl) ?_
      refine lv_if_le (tgt := 85) X.1 X.2.1 dX9_sort_29 (by decide) (fun c_1 => ?_) (fun c_1 => ?_)
      · have h := h.1 c_1
        exact B85 x1 x2 k7 hk7 S _ (lv_sub hl [0, 1, 2] rfl) h _ _ hP hS
      · have h := h.2 c_1
        refine lv_aload_n X.1 X.2.1 dX9_sort_32 rfl (lv_at hl 0 rfl) ?_
        refine lv_aload_n X.1 X.2.1 dX9_sort_33 rfl (lv_at hl 0 rfl) ?_
        refine gf_X9_exponents X hK hP tl_X9_20 dX9_sort_34 ?_
        refine lv_sipush (v := 160) X.1 X.2.1 dX9_sort_37 (by decide) ?_
        refine lv_bipush (v := 43) X.1 X.2.1 dX9_sort_40 (by decide) ?_
        refine lv_iload_n X.1 X.2.1 dX9_sort_42 rfl (lv_at hl 2 rfl) ?_
        refine lv_iadd X.1 X.2.1 dX9_sort_43 ?_
        refine lv_iconst (v := 1) X.1 X.2.1 dX9_sort_44 (by decide) ?_
        refine lv_isub X.1 X.2.1 dX9_sort_45 ?_
        refine lv_imul X.1 X.2.1 dX9_sort_46 ?_
        refine lv_aload_n X.1 X.2.1 dX9_sort_47 rfl (lv_at hl 0 rfl) ?_
        refine gf_X9_exponents X hK hP tl_X9_20 dX9_sort_48 ?_
        refine lv_sipush (v := 160) X.1 X.2.1 dX9_sort_51 (by decide) ?_
        refine lv_bipush (v := 25) X.1 X.2.1 dX9_sort_54 (by decide) ?_
        refine lv_iload_n X.1 X.2.1 dX9_sort_56 rfl (lv_at hl 1 rfl) ?_
        refine lv_iadd X.1 X.2.1 dX9_sort_57 ?_
        refine lv_imul X.1 X.2.1 dX9_sort_58 ?_
        refine q_callV (rest := []) (b := 224) X hK hP hS (c_X9_stand l G 227 (160 * ((43 + x2) - 1)) 227 (160 * (25 + x1)) S _ ⟨kz_227.1, rfl⟩ ⟨kz_227.1, rfl⟩ h) my_X9_stand tl_X9_93 dX9_sort_59 kz_224 rfl rfl rfl ⟨Nat.le_of_ble_eq_true rfl, Nat.le_of_ble_eq_true rfl⟩ hl.1 rfl (Nat.le_of_ble_eq_true rfl) ⟨Nat.le_of_ble_eq_true rfl, Nat.le_of_ble_eq_true rfl⟩ (fun r_3 S_2 H locs h hP hS => ?_)
        refine W.eq (g2 := F0 m 62 ls [.int r_3]) rfl ?_
        refine lv_if_le (tgt := 85) X.1 X.2.1 dX9_sort_62 (by decide) (fun c_4 => ?_) (fun c_4 => ?_)
        · have h := h.1 c_4
          exact B85 x1 x2 k7 hk7 S_2 _ (lv_sub hl [0, 1, 2] rfl) h _ _ hP hS
        · have h := h.2 c_4
          refine lv_aload_n X.1 X.2.1 dX9_sort_65 rfl (lv_at hl 0 rfl) ?_
          refine lv_bipush (v := 43) X.1 X.2.1 dX9_sort_66 (by decide) ?_
          refine lv_iload_n X.1 X.2.1 dX9_sort_68 rfl (lv_at hl 2 rfl) ?_
          refine lv_iadd X.1 X.2.1 dX9_sort_69 ?_
          refine lv_iconst (v := 1) X.1 X.2.1 dX9_sort_70 (by decide) ?_
          refine lv_isub X.1 X.2.1 dX9_sort_71 ?_
          refine lv_bipush (v := 43) X.1 X.2.1 dX9_sort_72 (by decide) ?_
          refine lv_iload_n X.1 X.2.1 dX9_sort_74 rfl (lv_at hl 2 rfl) ?_
          refine lv_iadd X.1 X.2.1 dX9_sort_75 ?_
          refine q_callV (rest := []) (b := 224) X hK hP hS (c_X9_copy l G ((43 + x2) - 1) (43 + x2) S_2 _ h) my_X9_copy tl_X9_128 dX9_sort_76 kz_224 rfl rfl rfl ⟨Nat.le_of_ble_eq_true rfl, Nat.le_of_ble_eq_true rfl⟩ hl.1 rfl (Nat.le_of_ble_eq_true rfl) ⟨Nat.le_of_ble_eq_true rfl, Nat.le_of_ble_eq_true rfl⟩ (fun r_6 S_5 H locs h hP hS => ?_)
          refine W.eq (g2 := F0 m 79 ls []) rfl ?_
          obtain ⟨x2_7, e2_7⟩ : ∃ y : Int32, y = x2 + (-1) := ⟨_, rfl⟩
          have h := h x2_7 e2_7
          refine lv_iinc (v := x2_7) (lv' := [(2, .int x2_7), (0, .ref (G.1 + 224)), (1, .int x1)]) X.1 X.2.1 dX9_sort_79 hl (k := 2) rfl (by rw [e2_7]; first | rfl | decide) (by decide) rfl (fun ls hl => ?_)
          refine lv_goto (tgt := 28) X.1 X.2.1 dX9_sort_82 (by decide) ?_
          exact hk28 x2_7 S_5 _ (lv_sub hl [1, 2, 0] rfl) h _ _ hP hS
  have B7 : ∀ (f : Nat) (x1 : Int32) (S : St) (ls : Array Slot), lv_has ls 3 [(0, .ref (G.1 + 224)), (1, .int x1)] → q_it (fun _ _ => False) (w_X9_sort_7 K) f x1 S → q_W p l e (k2_rm 2 53) s m args below meth c 0 0 (MQ below (q_Qc G K v_v) args s 0 0 (fr_ G)) G 7 ls [] S := by
    intro f
    induction f with
    | zero => intro x1 S ls hl h; exact False.elim h
    | succ f hk7 =>
      intro x1 S ls hl h H locs hP hS
      have h : w_X9_sort_7 K (q_it (fun _ _ => False) (w_X9_sort_7 K) f) x1 S := h
      generalize q_it (fun _ _ => False) (w_X9_sort_7 K) f = k7 at h hk7
      refine lv_iload_n X.1 X.2.1 dX9_sort_7 rfl (lv_at hl 1 rfl) ?_
      refine lv_aload_n X.1 X.2.1 dX9_sort_8 rfl (lv_at hl 0 rfl) ?_
      refine gf_X9_basis X hK hP tl_X9_107 dX9_sort_9 ?_
      refine lv_icmp_ge (tgt := 113) X.1 X.2.1 dX9_sort_12 (by decide) (fun c_1 => ?_) (fun c_1 => ?_)
      · have h := h.1 c_1
        exact q_vret X hr hlocks hP hS h dX9_sort_113
      · have h := h.2 c_1
        refine lv_aload_n X.1 X.2.1 dX9_sort_15 rfl (lv_at hl 0 rfl) ?_
        refine lv_iload_n X.1 X.2.1 dX9_sort_16 rfl (lv_at hl 1 rfl) ?_
        refine q_callV (rest := []) (b := 224) X hK hP hS (c_X9_isGone l G x1 S _ h) my_X9_isGone tl_X9_233 dX9_sort_17 kz_224 rfl rfl rfl ⟨Nat.le_of_ble_eq_true rfl, Nat.le_of_ble_eq_true rfl⟩ hl.1 rfl (Nat.le_of_ble_eq_true rfl) ⟨Nat.le_of_ble_eq_true rfl, Nat.le_of_ble_eq_true rfl⟩ (fun r_3 S_2 H locs h hP hS => ?_)
        refine W.eq (g2 := F0 m 20 ls [.int r_3]) rfl ?_
        refine lv_if_ne (tgt := 107) X.1 X.2.1 dX9_sort_20 (by decide) (fun c_4 => ?_) (fun c_4 => ?_)
        · have h := h.1 c_4
          exact B107 x1 k7 hk7 S_2 _ (lv_sub hl [0, 1] rfl) h _ _ hP hS
        · have h := h.2 c_4
          refine lv_aload_n X.1 X.2.1 dX9_sort_23 rfl (lv_at hl 0 rfl) ?_
          refine gf_X9_tidied X hK hP tl_X9_230 dX9_sort_24 ?_
          refine lv_topi (fun x2_5 e2_5 => ?_)
          have h := h x2_5 e2_5
          refine lv_istore_n (lv' := [(2, .int x2_5), (0, .ref (G.1 + 224)), (1, .int x1)]) X.1 X.2.1 dX9_sort_27 rfl hl (by decide) rfl (fun ls hl => ?_)
          obtain ⟨f_6, h⟩ := h
          exact B28 x1 k7 hk7 f_6 x2_5 S_2 _ (lv_sub hl [1, 2, 0] rfl) h _ _ hP hS
  refine lv_aload_n X.1 X.2.1 dX9_sort_0 rfl (lv_at hl 0 rfl) ?_
  refine lv_iconst (v := 0) X.1 X.2.1 dX9_sort_1 (by decide) ?_
  refine pf_X9_tidied X hK hP hS tl_X9_230 dX9_sort_2 (fun S_1 H locs eS_1 hP hS => ?_)
  have h := h S_1 eS_1
  refine lv_iconst (v := 0) X.1 X.2.1 dX9_sort_5 (by decide) ?_
  refine lv_istore_n (lv' := [(1, .int 0), (0, .ref (G.1 + 224))]) X.1 X.2.1 dX9_sort_6 rfl hl (by decide) rfl (fun ls hl => ?_)
  obtain ⟨f_2, h⟩ := h
  exact B7 f_2 0 S_1 _ (lv_sub hl [1, 0] rfl) h _ _ hP hS

set_option maxHeartbeats 4000000 in
set_option maxRecDepth 100000 in
theorem c_X9_tidyOne (l : Launch) (G : Cx) (x1 : Int32) (S : St) (K : Int32 → St → Prop) (h : w_X9_tidyOne x1 S K) : q_Met l yX9_tidyOne cX9_tidyOne 6 (some .int) 6 146 G [.ref (G.1 + 224), .int x1] v_i S K := by
  refine q_enter (by decide +kernel) (Nat.le_of_ble_eq_true rfl) (fun p e s m args below meth c ls X hK hP hr hlocks hl => ?_)
  have hS : va_S (fr_ G) s.heap s.heap [] := va_S.rf
  have hl : lv_has ls 6 [(0, .ref (G.1 + 224)), (1, .int x1)] := hl
  have B205 : ∀ (x2 : Int32) (x4 : Int32) (k172 : Int32 → St → Prop) (hk172 : ∀ (x4 : Int32) (S : St) (ls : Array Slot), lv_has ls 6 [(0, .ref (G.1 + 224)), (2, .int x2), (4, .int x4)] → k172 x4 S → q_W p l e (k2_rm 6 146) s m args below meth c 0 0 (MQ below (q_Qc G K v_i) args s 0 0 (fr_ G)) G 172 ls [] S) (f : Nat) (x5 : Int32) (S : St) (ls : Array Slot), lv_has ls 6 [(0, .ref (G.1 + 224)), (2, .int x2), (4, .int x4), (5, .int x5)] → q_it (fun _ _ => False) (w_X9_tidyOne_205 x1 K k172 x2 x4) f x5 S → q_W p l e (k2_rm 6 146) s m args below meth c 0 0 (MQ below (q_Qc G K v_i) args s 0 0 (fr_ G)) G 205 ls [] S := by
    intro x2 x4 k172 hk172 f
    induction f with
    | zero => intro x5 S ls hl h; exact False.elim h
    | succ f hk205 =>
      intro x5 S ls hl h H locs hP hS
      have h : w_X9_tidyOne_205 x1 K k172 x2 x4 (q_it (fun _ _ => False) (w_X9_tidyOne_205 x1 K k172 x2 x4) f) x5 S := h
      generalize q_it (fun _ _ => False) (w_X9_tidyOne_205 x1 K k172 x2 x4) f = k205 at h hk205
      refine lv_iload X.1 X.2.1 dX9_tidyOne_205 (lv_at hl 3 rfl) ?_
      refine lv_iconst (v := 4) X.1 X.2.1 dX9_tidyOne_207 (by decide) ?_
      refine lv_icmp_ge (tgt := 249) X.1 X.2.1 dX9_tidyOne_208 (by decide) (fun c_1 => ?_) (fun c_1 => ?_)
      · have h := h.1 c_1
        obtain ⟨x4_2, e4_2⟩ : ∃ y : Int32, y = x4 + 1 := ⟨_, rfl⟩
        have h := h x4_2 e4_2
        refine lv_iinc (v := x4_2) (lv' := [(4, .int x4_2), (0, .ref (G.1 + 224)), (2, .int x2), (5, .int x5)]) X.1 X.2.1 dX9_tidyOne_249 hl (k := 2) rfl (by rw [e4_2]; first | rfl | decide) (by decide) rfl (fun ls hl => ?_)
        refine lv_goto (tgt := 172) X.1 X.2.1 dX9_tidyOne_252 (by decide) ?_
        exact hk172 x4_2 S _ (lv_sub hl [1, 2, 0] rfl) h _ _ hP hS
      · have h := h.2 c_1
        refine lv_aload_n X.1 X.2.1 dX9_tidyOne_211 rfl (lv_at hl 0 rfl) ?_
        refine gf_X9_exponents X hK hP tl_X9_20 dX9_tidyOne_212 ?_
        refine lv_sipush (v := 160) X.1 X.2.1 dX9_tidyOne_215 (by decide) ?_
        refine lv_iload_n X.1 X.2.1 dX9_tidyOne_218 rfl (lv_at hl 1 rfl) ?_
        refine lv_imul X.1 X.2.1 dX9_tidyOne_219 ?_
        refine lv_iconst (v := 4) X.1 X.2.1 dX9_tidyOne_220 (by decide) ?_
        refine lv_iload X.1 X.2.1 dX9_tidyOne_221 (lv_at hl 2 rfl) ?_
        refine lv_imul X.1 X.2.1 dX9_tidyOne_223 ?_
        refine lv_iadd X.1 X.2.1 dX9_tidyOne_224 ?_
        refine lv_iconst (v := 4) X.1 X.2.1 dX9_tidyOne_225 (by decide) ?_
        refine lv_iadd X.1 X.2.1 dX9_tidyOne_226 ?_
        refine lv_iload X.1 X.2.1 dX9_tidyOne_227 (lv_at hl 3 rfl) ?_
        refine lv_iadd X.1 X.2.1 dX9_tidyOne_229 ?_
        refine lv_aload_n X.1 X.2.1 dX9_tidyOne_230 rfl (lv_at hl 0 rfl) ?_
        refine gf_X9_rowExponents X hK hP tl_X9_35 dX9_tidyOne_231 ?_
        refine lv_iconst (v := 4) X.1 X.2.1 dX9_tidyOne_234 (by decide) ?_
        refine lv_iload X.1 X.2.1 dX9_tidyOne_235 (lv_at hl 2 rfl) ?_
        refine lv_imul X.1 X.2.1 dX9_tidyOne_237 ?_
        refine lv_iload X.1 X.2.1 dX9_tidyOne_238 (lv_at hl 3 rfl) ?_
        refine lv_iadd X.1 X.2.1 dX9_tidyOne_240 ?_
        obtain ⟨o_3, h⟩ := h
        refine q_iald X hK hP kz_231 o_3 dX9_tidyOne_241 ?_
        obtain ⟨o_4, h⟩ := h
        refine q_iast X hK hP hS kz_227 o_4 dX9_tidyOne_242 (fun S_5 H locs eS_5 hP hS => ?_)
        have h := h S_5 eS_5
        obtain ⟨x5_6, e5_6⟩ : ∃ y : Int32, y = x5 + 1 := ⟨_, rfl⟩
        have h := h x5_6 e5_6
        refine lv_iinc (v := x5_6) (lv' := [(5, .int x5_6), (0, .ref (G.1 + 224)), (2, .int x2), (4, .int x4)]) X.1 X.2.1 dX9_tidyOne_243 hl (k := 3) rfl (by rw [e5_6]; first | rfl | decide) (by decide) rfl (fun ls hl => ?_)
        refine lv_goto (tgt := 205) X.1 X.2.1 dX9_tidyOne_246 (by decide) ?_
        exact hk205 x5_6 S_5 _ (lv_sub hl [1, 2, 3, 0] rfl) h _ _ hP hS
  have B172 : ∀ (x2 : Int32) (f : Nat) (x4 : Int32) (S : St) (ls : Array Slot), lv_has ls 6 [(0, .ref (G.1 + 224)), (2, .int x2), (4, .int x4)] → q_it (fun _ _ => False) (w_X9_tidyOne_172 x1 K x2) f x4 S → q_W p l e (k2_rm 6 146) s m args below meth c 0 0 (MQ below (q_Qc G K v_i) args s 0 0 (fr_ G)) G 172 ls [] S := by
    intro x2 f
    induction f with
    | zero => intro x4 S ls hl h; exact False.elim h
    | succ f hk172 =>
      intro x4 S ls hl h H locs hP hS
      have h : w_X9_tidyOne_172 x1 K x2 (q_it (fun _ _ => False) (w_X9_tidyOne_172 x1 K x2) f) x4 S := h
      generalize q_it (fun _ _ => False) (w_X9_tidyOne_172 x1 K x2) f = k172 at h hk172
      refine lv_iload X.1 X.2.1 dX9_tidyOne_172 (lv_at hl 2 rfl) ?_
      refine lv_aload_n X.1 X.2.1 dX9_tidyOne_174 rfl (lv_at hl 0 rfl) ?_
      refine gf_X9_row X hK hP tl_X9_90 dX9_tidyOne_175 ?_
      refine lv_icmp_ge (tgt := 255) X.1 X.2.1 dX9_tidyOne_178 (by decide) (fun c_1 => ?_) (fun c_1 => ?_)
      · have h := h.1 c_1
        refine lv_aload_n X.1 X.2.1 dX9_tidyOne_255 rfl (lv_at hl 0 rfl) ?_
        refine gf_X9_many X hK hP tl_X9_13 dX9_tidyOne_256 ?_
        refine lv_iload_n X.1 X.2.1 dX9_tidyOne_259 rfl (lv_at hl 1 rfl) ?_
        refine lv_aload_n X.1 X.2.1 dX9_tidyOne_260 rfl (lv_at hl 0 rfl) ?_
        refine gf_X9_row X hK hP tl_X9_90 dX9_tidyOne_261 ?_
        refine lv_iconst (v := 1) X.1 X.2.1 dX9_tidyOne_264 (by decide) ?_
        refine lv_iadd X.1 X.2.1 dX9_tidyOne_265 ?_
        obtain ⟨o_2, h⟩ := h
        refine q_iast X hK hP hS kz_225 o_2 dX9_tidyOne_266 (fun S_3 H locs eS_3 hP hS => ?_)
        have h := h S_3 eS_3
        refine lv_iconst (v := 0) X.1 X.2.1 dX9_tidyOne_267 (by decide) ?_
        exact q_iret X hr hlocks hP hS rfl h dX9_tidyOne_268
      · have h := h.2 c_1
        refine lv_aload_n X.1 X.2.1 dX9_tidyOne_181 rfl (lv_at hl 0 rfl) ?_
        refine gf_X9_numbers X hK hP tl_X9_17 dX9_tidyOne_182 ?_
        refine lv_bipush (v := 40) X.1 X.2.1 dX9_tidyOne_185 (by decide) ?_
        refine lv_iload_n X.1 X.2.1 dX9_tidyOne_187 rfl (lv_at hl 1 rfl) ?_
        refine lv_imul X.1 X.2.1 dX9_tidyOne_188 ?_
        refine lv_iload X.1 X.2.1 dX9_tidyOne_189 (lv_at hl 2 rfl) ?_
        refine lv_iadd X.1 X.2.1 dX9_tidyOne_191 ?_
        refine lv_iconst (v := 1) X.1 X.2.1 dX9_tidyOne_192 (by decide) ?_
        refine lv_iadd X.1 X.2.1 dX9_tidyOne_193 ?_
        refine lv_aload_n X.1 X.2.1 dX9_tidyOne_194 rfl (lv_at hl 0 rfl) ?_
        refine gf_X9_rowNumber X hK hP tl_X9_32 dX9_tidyOne_195 ?_
        refine lv_iload X.1 X.2.1 dX9_tidyOne_198 (lv_at hl 2 rfl) ?_
        obtain ⟨o_4, h⟩ := h
        refine q_iald X hK hP kz_230 o_4 dX9_tidyOne_200 ?_
        obtain ⟨o_5, h⟩ := h
        refine q_iast X hK hP hS kz_226 o_5 dX9_tidyOne_201 (fun S_6 H locs eS_6 hP hS => ?_)
        have h := h S_6 eS_6
        refine lv_iconst (v := 0) X.1 X.2.1 dX9_tidyOne_202 (by decide) ?_
        refine lv_istore (lv' := [(5, .int 0), (0, .ref (G.1 + 224)), (2, .int x2), (4, .int x4)]) X.1 X.2.1 dX9_tidyOne_203 hl (by decide) rfl (fun ls hl => ?_)
        obtain ⟨f_7, h⟩ := h
        exact B205 x2 x4 k172 hk172 f_7 0 S_6 _ (lv_sub hl [1, 2, 3, 0] rfl) h _ _ hP hS
  have B98 : ∀ (x2 : Int32) (x3 : Int32) (k68 : Int32 → St → Prop) (hk68 : ∀ (x3 : Int32) (S : St) (ls : Array Slot), lv_has ls 6 [(0, .ref (G.1 + 224)), (2, .int x2), (3, .int x3)] → k68 x3 S → q_W p l e (k2_rm 6 146) s m args below meth c 0 0 (MQ below (q_Qc G K v_i) args s 0 0 (fr_ G)) G 68 ls [] S) (f : Nat) (x4 : Int32) (S : St) (ls : Array Slot), lv_has ls 6 [(0, .ref (G.1 + 224)), (2, .int x2), (3, .int x3), (4, .int x4)] → q_it (fun _ _ => False) (w_X9_tidyOne_98 x1 K k68 x2 x3) f x4 S → q_W p l e (k2_rm 6 146) s m args below meth c 0 0 (MQ below (q_Qc G K v_i) args s 0 0 (fr_ G)) G 98 ls [] S := by
    intro x2 x3 k68 hk68 f
    induction f with
    | zero => intro x4 S ls hl h; exact False.elim h
    | succ f hk98 =>
      intro x4 S ls hl h H locs hP hS
      have h : w_X9_tidyOne_98 x1 K k68 x2 x3 (q_it (fun _ _ => False) (w_X9_tidyOne_98 x1 K k68 x2 x3) f) x4 S := h
      generalize q_it (fun _ _ => False) (w_X9_tidyOne_98 x1 K k68 x2 x3) f = k98 at h hk98
      refine lv_iload X.1 X.2.1 dX9_tidyOne_98 (lv_at hl 3 rfl) ?_
      refine lv_iconst (v := 4) X.1 X.2.1 dX9_tidyOne_100 (by decide) ?_
      refine lv_icmp_ge (tgt := 140) X.1 X.2.1 dX9_tidyOne_101 (by decide) (fun c_1 => ?_) (fun c_1 => ?_)
      · have h := h.1 c_1
        obtain ⟨x3_2, e3_2⟩ : ∃ y : Int32, y = x3 + 1 := ⟨_, rfl⟩
        have h := h x3_2 e3_2
        refine lv_iinc (v := x3_2) (lv' := [(3, .int x3_2), (0, .ref (G.1 + 224)), (2, .int x2), (4, .int x4)]) X.1 X.2.1 dX9_tidyOne_140 hl (k := 2) rfl (by rw [e3_2]; first | rfl | decide) (by decide) rfl (fun ls hl => ?_)
        refine lv_goto (tgt := 68) X.1 X.2.1 dX9_tidyOne_143 (by decide) ?_
        exact hk68 x3_2 S _ (lv_sub hl [1, 2, 0] rfl) h _ _ hP hS
      · have h := h.2 c_1
        refine lv_aload_n X.1 X.2.1 dX9_tidyOne_104 rfl (lv_at hl 0 rfl) ?_
        refine gf_X9_rowExponents X hK hP tl_X9_35 dX9_tidyOne_105 ?_
        refine lv_iconst (v := 4) X.1 X.2.1 dX9_tidyOne_108 (by decide) ?_
        refine lv_iload_n X.1 X.2.1 dX9_tidyOne_109 rfl (lv_at hl 2 rfl) ?_
        refine lv_imul X.1 X.2.1 dX9_tidyOne_110 ?_
        refine lv_iload X.1 X.2.1 dX9_tidyOne_111 (lv_at hl 3 rfl) ?_
        refine lv_iadd X.1 X.2.1 dX9_tidyOne_113 ?_
        refine lv_aload_n X.1 X.2.1 dX9_tidyOne_114 rfl (lv_at hl 0 rfl) ?_
        refine gf_X9_exponents X hK hP tl_X9_20 dX9_tidyOne_115 ?_
        refine lv_sipush (v := 160) X.1 X.2.1 dX9_tidyOne_118 (by decide) ?_
        refine lv_iload_n X.1 X.2.1 dX9_tidyOne_121 rfl (lv_at hl 1 rfl) ?_
        refine lv_imul X.1 X.2.1 dX9_tidyOne_122 ?_
        refine lv_iconst (v := 4) X.1 X.2.1 dX9_tidyOne_123 (by decide) ?_
        refine lv_iload_n X.1 X.2.1 dX9_tidyOne_124 rfl (lv_at hl 2 rfl) ?_
        refine lv_imul X.1 X.2.1 dX9_tidyOne_125 ?_
        refine lv_iadd X.1 X.2.1 dX9_tidyOne_126 ?_
        refine lv_iconst (v := 4) X.1 X.2.1 dX9_tidyOne_127 (by decide) ?_
        refine lv_iadd X.1 X.2.1 dX9_tidyOne_128 ?_
        refine lv_iload X.1 X.2.1 dX9_tidyOne_129 (lv_at hl 3 rfl) ?_
        refine lv_iadd X.1 X.2.1 dX9_tidyOne_131 ?_
        obtain ⟨o_3, h⟩ := h
        refine q_iald X hK hP kz_227 o_3 dX9_tidyOne_132 ?_
        obtain ⟨o_4, h⟩ := h
        refine q_iast X hK hP hS kz_231 o_4 dX9_tidyOne_133 (fun S_5 H locs eS_5 hP hS => ?_)
        have h := h S_5 eS_5
        obtain ⟨x4_6, e4_6⟩ : ∃ y : Int32, y = x4 + 1 := ⟨_, rfl⟩
        have h := h x4_6 e4_6
        refine lv_iinc (v := x4_6) (lv' := [(4, .int x4_6), (0, .ref (G.1 + 224)), (2, .int x2), (3, .int x3)]) X.1 X.2.1 dX9_tidyOne_134 hl (k := 3) rfl (by rw [e4_6]; first | rfl | decide) (by decide) rfl (fun ls hl => ?_)
        refine lv_goto (tgt := 98) X.1 X.2.1 dX9_tidyOne_137 (by decide) ?_
        exact hk98 x4_6 S_5 _ (lv_sub hl [1, 2, 3, 0] rfl) h _ _ hP hS
  have B68 : ∀ (x2 : Int32) (f : Nat) (x3 : Int32) (S : St) (ls : Array Slot), lv_has ls 6 [(0, .ref (G.1 + 224)), (2, .int x2), (3, .int x3)] → q_it (fun _ _ => False) (w_X9_tidyOne_68 x1 K x2) f x3 S → q_W p l e (k2_rm 6 146) s m args below meth c 0 0 (MQ below (q_Qc G K v_i) args s 0 0 (fr_ G)) G 68 ls [] S := by
    intro x2 f
    induction f with
    | zero => intro x3 S ls hl h; exact False.elim h
    | succ f hk68 =>
      intro x3 S ls hl h H locs hP hS
      have h : w_X9_tidyOne_68 x1 K x2 (q_it (fun _ _ => False) (w_X9_tidyOne_68 x1 K x2) f) x3 S := h
      generalize q_it (fun _ _ => False) (w_X9_tidyOne_68 x1 K x2) f = k68 at h hk68
      refine lv_iload_n X.1 X.2.1 dX9_tidyOne_68 rfl (lv_at hl 2 rfl) ?_
      refine lv_aload_n X.1 X.2.1 dX9_tidyOne_69 rfl (lv_at hl 0 rfl) ?_
      refine gf_X9_row X hK hP tl_X9_90 dX9_tidyOne_70 ?_
      refine lv_icmp_ge (tgt := 146) X.1 X.2.1 dX9_tidyOne_73 (by decide) (fun c_1 => ?_) (fun c_1 => ?_)
      · have h := h.1 c_1
        refine lv_aload_n X.1 X.2.1 dX9_tidyOne_146 rfl (lv_at hl 0 rfl) ?_
        refine q_callV (rest := []) (b := 224) X hK hP hS (c_X9_leave l G S _ h) my_X9_leave tl_X9_212 dX9_tidyOne_147 kz_224 rfl rfl rfl ⟨Nat.le_of_ble_eq_true rfl, Nat.le_of_ble_eq_true rfl⟩ hl.1 rfl (Nat.le_of_ble_eq_true rfl) ⟨Nat.le_of_ble_eq_true rfl, Nat.le_of_ble_eq_true rfl⟩ (fun r_3 S_2 H locs h hP hS => ?_)
        refine W.eq (g2 := F0 m 150 ls [.int r_3]) rfl ?_
        refine lv_istore_n (lv' := [(3, .int r_3), (0, .ref (G.1 + 224)), (2, .int x2)]) X.1 X.2.1 dX9_tidyOne_150 rfl hl (by decide) rfl (fun ls hl => ?_)
        refine lv_iload_n X.1 X.2.1 dX9_tidyOne_151 rfl (lv_at hl 0 rfl) ?_
        refine lv_if_ge (tgt := 157) X.1 X.2.1 dX9_tidyOne_152 (by decide) (fun c_4 => ?_) (fun c_4 => ?_)
        · have h := h.1 c_4
          refine lv_aload_n X.1 X.2.1 dX9_tidyOne_157 rfl (lv_at hl 1 rfl) ?_
          refine gf_X9_row X hK hP tl_X9_90 dX9_tidyOne_158 ?_
          refine lv_bipush (v := 40) X.1 X.2.1 dX9_tidyOne_161 (by decide) ?_
          refine lv_icmp_ne (tgt := 169) X.1 X.2.1 dX9_tidyOne_163 (by decide) (fun c_5 => ?_) (fun c_5 => ?_)
          · have h := h.1 c_5
            refine lv_iconst (v := 0) X.1 X.2.1 dX9_tidyOne_169 (by decide) ?_
            refine lv_istore (lv' := [(4, .int 0), (3, .int r_3), (0, .ref (G.1 + 224)), (2, .int x2)]) X.1 X.2.1 dX9_tidyOne_170 hl (by decide) rfl (fun ls hl => ?_)
            obtain ⟨f_6, h⟩ := h
            exact B172 x2 f_6 0 S_2 _ (lv_sub hl [2, 3, 0] rfl) h _ _ hP hS
          · have h := h.2 c_5
            refine lv_bipush (v := (-6)) X.1 X.2.1 dX9_tidyOne_166 (by decide) ?_
            exact q_iret X hr hlocks hP hS rfl h dX9_tidyOne_168
        · have h := h.2 c_4
          refine lv_iload_n X.1 X.2.1 dX9_tidyOne_155 rfl (lv_at hl 0 rfl) ?_
          exact q_iret X hr hlocks hP hS rfl h dX9_tidyOne_156
      · have h := h.2 c_1
        refine lv_aload_n X.1 X.2.1 dX9_tidyOne_76 rfl (lv_at hl 0 rfl) ?_
        refine gf_X9_rowNumber X hK hP tl_X9_32 dX9_tidyOne_77 ?_
        refine lv_iload_n X.1 X.2.1 dX9_tidyOne_80 rfl (lv_at hl 2 rfl) ?_
        refine lv_aload_n X.1 X.2.1 dX9_tidyOne_81 rfl (lv_at hl 0 rfl) ?_
        refine gf_X9_numbers X hK hP tl_X9_17 dX9_tidyOne_82 ?_
        refine lv_bipush (v := 40) X.1 X.2.1 dX9_tidyOne_85 (by decide) ?_
        refine lv_iload_n X.1 X.2.1 dX9_tidyOne_87 rfl (lv_at hl 1 rfl) ?_
        refine lv_imul X.1 X.2.1 dX9_tidyOne_88 ?_
        refine lv_iload_n X.1 X.2.1 dX9_tidyOne_89 rfl (lv_at hl 2 rfl) ?_
        refine lv_iadd X.1 X.2.1 dX9_tidyOne_90 ?_
        refine lv_iconst (v := 1) X.1 X.2.1 dX9_tidyOne_91 (by decide) ?_
        refine lv_iadd X.1 X.2.1 dX9_tidyOne_92 ?_
        obtain ⟨o_7, h⟩ := h
        refine q_iald X hK hP kz_226 o_7 dX9_tidyOne_93 ?_
        obtain ⟨o_8, h⟩ := h
        refine q_iast X hK hP hS kz_230 o_8 dX9_tidyOne_94 (fun S_9 H locs eS_9 hP hS => ?_)
        have h := h S_9 eS_9
        refine lv_iconst (v := 0) X.1 X.2.1 dX9_tidyOne_95 (by decide) ?_
        refine lv_istore (lv' := [(4, .int 0), (0, .ref (G.1 + 224)), (2, .int x2), (3, .int x3)]) X.1 X.2.1 dX9_tidyOne_96 hl (by decide) rfl (fun ls hl => ?_)
        obtain ⟨f_10, h⟩ := h
        exact B98 x2 x3 k68 hk68 f_10 0 S_9 _ (lv_sub hl [1, 2, 3, 0] rfl) h _ _ hP hS
  have B43 : ∀ (x2 : Int32) (k7 : Int32 → St → Prop) (hk7 : ∀ (x2 : Int32) (S : St) (ls : Array Slot), lv_has ls 6 [(0, .ref (G.1 + 224)), (1, .int x1), (2, .int x2)] → k7 x2 S → q_W p l e (k2_rm 6 146) s m args below meth c 0 0 (MQ below (q_Qc G K v_i) args s 0 0 (fr_ G)) G 7 ls [] S) (S : St) (ls : Array Slot), lv_has ls 6 [(0, .ref (G.1 + 224)), (1, .int x1), (2, .int x2)] → w_X9_tidyOne_43 x1 K k7 x2 S → q_W p l e (k2_rm 6 146) s m args below meth c 0 0 (MQ below (q_Qc G K v_i) args s 0 0 (fr_ G)) G 43 ls [] S := by
    intro x2 k7 hk7 S ls hl h H locs hP hS
    obtain ⟨x2_1, e2_1⟩ : ∃ y : Int32, y = x2 + 1 := ⟨_, rfl⟩
    have h := h x2_1 e2_1
    refine lv_iinc (v := x2_1) (lv' := [(2, .int x2_1), (0, .ref (G.1 + 224)), (1, .int x1)]) X.1 X.2.1 dX9_tidyOne_43 hl (k := 2) rfl (by rw [e2_1]; first | rfl | decide) (by decide) rfl (fun ls hl => ?_)
    refine lv_goto (tgt := 7) X.1 X.2.1 dX9_tidyOne_46 (by decide) ?_
    exact hk7 x2_1 S _ (lv_sub hl [1, 2, 0] rfl) h _ _ hP hS
  have B7 : ∀ (f : Nat) (x2 : Int32) (S : St) (ls : Array Slot), lv_has ls 6 [(0, .ref (G.1 + 224)), (1, .int x1), (2, .int x2)] → q_it (fun _ _ => False) (w_X9_tidyOne_7 x1 K) f x2 S → q_W p l e (k2_rm 6 146) s m args below meth c 0 0 (MQ below (q_Qc G K v_i) args s 0 0 (fr_ G)) G 7 ls [] S := by
    intro f
    induction f with
    | zero => intro x2 S ls hl h; exact False.elim h
    | succ f hk7 =>
      intro x2 S ls hl h H locs hP hS
      have h : w_X9_tidyOne_7 x1 K (q_it (fun _ _ => False) (w_X9_tidyOne_7 x1 K) f) x2 S := h
      generalize q_it (fun _ _ => False) (w_X9_tidyOne_7 x1 K) f = k7 at h hk7
      refine lv_iload_n X.1 X.2.1 dX9_tidyOne_7 rfl (lv_at hl 2 rfl) ?_
      refine lv_aload_n X.1 X.2.1 dX9_tidyOne_8 rfl (lv_at hl 0 rfl) ?_
      refine gf_X9_tidied X hK hP tl_X9_230 dX9_tidyOne_9 ?_
      refine lv_icmp_ge (tgt := 49) X.1 X.2.1 dX9_tidyOne_12 (by decide) (fun c_1 => ?_) (fun c_1 => ?_)
      · have h := h.1 c_1
        refine lv_bipush (v := 43) X.1 X.2.1 dX9_tidyOne_49 (by decide) ?_
        refine lv_iload_n X.1 X.2.1 dX9_tidyOne_51 rfl (lv_at hl 1 rfl) ?_
        refine lv_iadd X.1 X.2.1 dX9_tidyOne_52 ?_
        refine lv_topi (fun x2_2 e2_2 => ?_)
        have h := h x2_2 e2_2
        refine lv_istore_n (lv' := [(2, .int x2_2), (0, .ref (G.1 + 224)), (1, .int x1)]) X.1 X.2.1 dX9_tidyOne_53 rfl hl (by decide) rfl (fun ls hl => ?_)
        refine lv_aload_n X.1 X.2.1 dX9_tidyOne_54 rfl (lv_at hl 1 rfl) ?_
        refine lv_aload_n X.1 X.2.1 dX9_tidyOne_55 rfl (lv_at hl 1 rfl) ?_
        refine gf_X9_many X hK hP tl_X9_13 dX9_tidyOne_56 ?_
        refine lv_iload_n X.1 X.2.1 dX9_tidyOne_59 rfl (lv_at hl 0 rfl) ?_
        obtain ⟨o_3, h⟩ := h
        refine q_iald X hK hP kz_225 o_3 dX9_tidyOne_60 ?_
        refine lv_iconst (v := 1) X.1 X.2.1 dX9_tidyOne_61 (by decide) ?_
        refine lv_isub X.1 X.2.1 dX9_tidyOne_62 ?_
        refine pf_X9_row X hK hP hS tl_X9_90 dX9_tidyOne_63 (fun S_4 H locs eS_4 hP hS => ?_)
        have h := h S_4 eS_4
        refine lv_iconst (v := 0) X.1 X.2.1 dX9_tidyOne_66 (by decide) ?_
        refine lv_istore_n (lv' := [(3, .int 0), (2, .int x2_2), (0, .ref (G.1 + 224)), (1, .int x1)]) X.1 X.2.1 dX9_tidyOne_67 rfl hl (by decide) rfl (fun ls hl => ?_)
        obtain ⟨f_5, h⟩ := h
        exact B68 x2_2 f_5 0 S_4 _ (lv_sub hl [2, 1, 0] rfl) h _ _ hP hS
      · have h := h.2 c_1
        refine lv_iload_n X.1 X.2.1 dX9_tidyOne_15 rfl (lv_at hl 2 rfl) ?_
        refine lv_iload_n X.1 X.2.1 dX9_tidyOne_16 rfl (lv_at hl 1 rfl) ?_
        refine lv_icmp_eq (tgt := 43) X.1 X.2.1 dX9_tidyOne_17 (by decide) (fun c_6 => ?_) (fun c_6 => ?_)
        · have h := h.1 c_6
          exact B43 x2 k7 hk7 S _ (lv_sub hl [0, 1, 2] rfl) h _ _ hP hS
        · have h := h.2 c_6
          refine lv_aload_n X.1 X.2.1 dX9_tidyOne_20 rfl (lv_at hl 0 rfl) ?_
          refine gf_X9_place X hK hP tl_X9_50 dX9_tidyOne_21 ?_
          refine lv_aload_n X.1 X.2.1 dX9_tidyOne_24 rfl (lv_at hl 0 rfl) ?_
          refine gf_X9_places X hK hP tl_X9_151 dX9_tidyOne_25 ?_
          refine lv_bipush (v := 43) X.1 X.2.1 dX9_tidyOne_28 (by decide) ?_
          refine lv_iload_n X.1 X.2.1 dX9_tidyOne_30 rfl (lv_at hl 2 rfl) ?_
          refine lv_iadd X.1 X.2.1 dX9_tidyOne_31 ?_
          obtain ⟨o_7, h⟩ := h
          refine q_iast X hK hP hS kz_236 o_7 dX9_tidyOne_32 (fun S_8 H locs eS_8 hP hS => ?_)
          have h := h S_8 eS_8
          refine lv_aload_n X.1 X.2.1 dX9_tidyOne_33 rfl (lv_at hl 0 rfl) ?_
          refine lv_dup X.1 X.2.1 dX9_tidyOne_34 rfl ?_
          refine gf_X9_places X hK hP tl_X9_151 dX9_tidyOne_35 ?_
          refine lv_iconst (v := 1) X.1 X.2.1 dX9_tidyOne_38 (by decide) ?_
          refine lv_iadd X.1 X.2.1 dX9_tidyOne_39 ?_
          refine pf_X9_places X hK hP hS tl_X9_151 dX9_tidyOne_40 (fun S_9 H locs eS_9 hP hS => ?_)
          have h := h S_9 eS_9
          exact B43 x2 k7 hk7 S_9 _ (lv_sub hl [0, 1, 2] rfl) h _ _ hP hS
  refine lv_aload_n X.1 X.2.1 dX9_tidyOne_0 rfl (lv_at hl 0 rfl) ?_
  refine lv_iconst (v := 0) X.1 X.2.1 dX9_tidyOne_1 (by decide) ?_
  refine pf_X9_places X hK hP hS tl_X9_151 dX9_tidyOne_2 (fun S_1 H locs eS_1 hP hS => ?_)
  have h := h S_1 eS_1
  refine lv_iconst (v := 0) X.1 X.2.1 dX9_tidyOne_5 (by decide) ?_
  refine lv_istore_n (lv' := [(2, .int 0), (0, .ref (G.1 + 224)), (1, .int x1)]) X.1 X.2.1 dX9_tidyOne_6 rfl hl (by decide) rfl (fun ls hl => ?_)
  obtain ⟨f_2, h⟩ := h
  exact B7 f_2 0 S_1 _ (lv_sub hl [1, 2, 0] rfl) h _ _ hP hS

set_option maxHeartbeats 4000000 in
set_option maxRecDepth 100000 in
theorem c_X9_tidy (l : Launch) (G : Cx) (S : St) (K : Int32 → St → Prop) (h : w_X9_tidy S K) : q_Met l yX9_tidy cX9_tidy 3 (some .int) 7 171 G [.ref (G.1 + 224)] v_i S K := by
  refine q_enter (by decide +kernel) (Nat.le_of_ble_eq_true rfl) (fun p e s m args below meth c ls X hK hP hr hlocks hl => ?_)
  have hS : va_S (fr_ G) s.heap s.heap [] := va_S.rf
  have hl : lv_has ls 3 [(0, .ref (G.1 + 224))] := hl
  have B62 : ∀ (f : Nat) (x1 : Int32) (S : St) (ls : Array Slot), lv_has ls 3 [(0, .ref (G.1 + 224)), (1, .int x1)] → q_it (fun _ _ => False) (w_X9_tidy_62 K) f x1 S → q_W p l e (k2_rm 7 171) s m args below meth c 0 0 (MQ below (q_Qc G K v_i) args s 0 0 (fr_ G)) G 62 ls [] S := by
    intro f
    induction f with
    | zero => intro x1 S ls hl h; exact False.elim h
    | succ f hk62 =>
      intro x1 S ls hl h H locs hP hS
      have h : w_X9_tidy_62 K (q_it (fun _ _ => False) (w_X9_tidy_62 K) f) x1 S := h
      generalize q_it (fun _ _ => False) (w_X9_tidy_62 K) f = k62 at h hk62
      refine lv_iload_n X.1 X.2.1 dX9_tidy_62 rfl (lv_at hl 1 rfl) ?_
      refine lv_aload_n X.1 X.2.1 dX9_tidy_63 rfl (lv_at hl 0 rfl) ?_
      refine gf_X9_tidied X hK hP tl_X9_230 dX9_tidy_64 ?_
      refine lv_icmp_ge (tgt := 88) X.1 X.2.1 dX9_tidy_67 (by decide) (fun c_1 => ?_) (fun c_1 => ?_)
      · have h := h.1 c_1
        refine lv_aload_n X.1 X.2.1 dX9_tidy_88 rfl (lv_at hl 0 rfl) ?_
        refine lv_aload_n X.1 X.2.1 dX9_tidy_89 rfl (lv_at hl 0 rfl) ?_
        refine gf_X9_tidied X hK hP tl_X9_230 dX9_tidy_90 ?_
        refine pf_X9_basis X hK hP hS tl_X9_107 dX9_tidy_93 (fun S_2 H locs eS_2 hP hS => ?_)
        have h := h S_2 eS_2
        refine lv_aload_n X.1 X.2.1 dX9_tidy_96 rfl (lv_at hl 0 rfl) ?_
        refine lv_iconst (v := 1) X.1 X.2.1 dX9_tidy_97 (by decide) ?_
        refine pf_X9_isTidy X hK hP hS ⟨rfl, rfl⟩ tl_X9_187 dX9_tidy_98 (fun S_3 H locs eS_3 hP hS => ?_)
        have h := h S_3 eS_3
        refine lv_aload_n X.1 X.2.1 dX9_tidy_101 rfl (lv_at hl 0 rfl) ?_
        refine gf_X9_basis X hK hP tl_X9_107 dX9_tidy_102 ?_
        exact q_iret X hr hlocks hP hS rfl h dX9_tidy_105
      · have h := h.2 c_1
        refine lv_aload_n X.1 X.2.1 dX9_tidy_70 rfl (lv_at hl 0 rfl) ?_
        refine lv_bipush (v := 43) X.1 X.2.1 dX9_tidy_71 (by decide) ?_
        refine lv_iload_n X.1 X.2.1 dX9_tidy_73 rfl (lv_at hl 1 rfl) ?_
        refine lv_iadd X.1 X.2.1 dX9_tidy_74 ?_
        refine lv_bipush (v := 25) X.1 X.2.1 dX9_tidy_75 (by decide) ?_
        refine lv_iload_n X.1 X.2.1 dX9_tidy_77 rfl (lv_at hl 1 rfl) ?_
        refine lv_iadd X.1 X.2.1 dX9_tidy_78 ?_
        refine q_callV (rest := []) (b := 224) X hK hP hS (c_X9_copy l G (43 + x1) (25 + x1) S _ h) my_X9_copy tl_X9_128 dX9_tidy_79 kz_224 rfl rfl rfl ⟨Nat.le_of_ble_eq_true rfl, Nat.le_of_ble_eq_true rfl⟩ hl.1 rfl (Nat.le_of_ble_eq_true rfl) ⟨Nat.le_of_ble_eq_true rfl, Nat.le_of_ble_eq_true rfl⟩ (fun r_5 S_4 H locs h hP hS => ?_)
        refine W.eq (g2 := F0 m 82 ls []) rfl ?_
        obtain ⟨x1_6, e1_6⟩ : ∃ y : Int32, y = x1 + 1 := ⟨_, rfl⟩
        have h := h x1_6 e1_6
        refine lv_iinc (v := x1_6) (lv' := [(1, .int x1_6), (0, .ref (G.1 + 224))]) X.1 X.2.1 dX9_tidy_82 hl (k := 1) rfl (by rw [e1_6]; first | rfl | decide) (by decide) rfl (fun ls hl => ?_)
        refine lv_goto (tgt := 62) X.1 X.2.1 dX9_tidy_85 (by decide) ?_
        exact hk62 x1_6 S_4 _ (lv_sub hl [1, 0] rfl) h _ _ hP hS
  have B26 : ∀ (f : Nat) (x1 : Int32) (S : St) (ls : Array Slot), lv_has ls 3 [(0, .ref (G.1 + 224)), (1, .int x1)] → q_it (fun _ _ => False) (w_X9_tidy_26 K) f x1 S → q_W p l e (k2_rm 7 171) s m args below meth c 0 0 (MQ below (q_Qc G K v_i) args s 0 0 (fr_ G)) G 26 ls [] S := by
    intro f
    induction f with
    | zero => intro x1 S ls hl h; exact False.elim h
    | succ f hk26 =>
      intro x1 S ls hl h H locs hP hS
      have h : w_X9_tidy_26 K (q_it (fun _ _ => False) (w_X9_tidy_26 K) f) x1 S := h
      generalize q_it (fun _ _ => False) (w_X9_tidy_26 K) f = k26 at h hk26
      refine lv_iload_n X.1 X.2.1 dX9_tidy_26 rfl (lv_at hl 1 rfl) ?_
      refine lv_aload_n X.1 X.2.1 dX9_tidy_27 rfl (lv_at hl 0 rfl) ?_
      refine gf_X9_tidied X hK hP tl_X9_230 dX9_tidy_28 ?_
      refine lv_icmp_ge (tgt := 60) X.1 X.2.1 dX9_tidy_31 (by decide) (fun c_1 => ?_) (fun c_1 => ?_)
      · have h := h.1 c_1
        refine lv_iconst (v := 0) X.1 X.2.1 dX9_tidy_60 (by decide) ?_
        refine lv_istore_n (lv' := [(1, .int 0), (0, .ref (G.1 + 224))]) X.1 X.2.1 dX9_tidy_61 rfl hl (by decide) rfl (fun ls hl => ?_)
        obtain ⟨f_2, h⟩ := h
        exact B62 f_2 0 S _ (lv_sub hl [1, 0] rfl) h _ _ hP hS
      · have h := h.2 c_1
        refine lv_aload_n X.1 X.2.1 dX9_tidy_34 rfl (lv_at hl 0 rfl) ?_
        refine lv_iload_n X.1 X.2.1 dX9_tidy_35 rfl (lv_at hl 1 rfl) ?_
        refine q_callV (rest := []) (b := 224) X hK hP hS (c_X9_tidyOne l G x1 S _ h) my_X9_tidyOne tl_X9_239 dX9_tidy_36 kz_224 rfl rfl rfl ⟨Nat.le_of_ble_eq_true rfl, Nat.le_of_ble_eq_true rfl⟩ hl.1 rfl (Nat.le_of_ble_eq_true rfl) ⟨Nat.le_of_ble_eq_true rfl, Nat.le_of_ble_eq_true rfl⟩ (fun r_4 S_3 H locs h hP hS => ?_)
        refine W.eq (g2 := F0 m 39 ls [.int r_4]) rfl ?_
        refine lv_istore_n (lv' := [(2, .int r_4), (0, .ref (G.1 + 224)), (1, .int x1)]) X.1 X.2.1 dX9_tidy_39 rfl hl (by decide) rfl (fun ls hl => ?_)
        refine lv_aload_n X.1 X.2.1 dX9_tidy_40 rfl (lv_at hl 1 rfl) ?_
        refine lv_aload_n X.1 X.2.1 dX9_tidy_41 rfl (lv_at hl 1 rfl) ?_
        refine gf_X9_used X hK hP tl_X9_158 dX9_tidy_42 ?_
        refine pf_X9_latest X hK hP hS tl_X9_221 dX9_tidy_45 (fun S_5 H locs eS_5 hP hS => ?_)
        have h := h S_5 eS_5
        refine lv_iload_n X.1 X.2.1 dX9_tidy_48 rfl (lv_at hl 0 rfl) ?_
        refine lv_if_ge (tgt := 54) X.1 X.2.1 dX9_tidy_49 (by decide) (fun c_6 => ?_) (fun c_6 => ?_)
        · have h := h.1 c_6
          obtain ⟨x1_7, e1_7⟩ : ∃ y : Int32, y = x1 + 1 := ⟨_, rfl⟩
          have h := h x1_7 e1_7
          refine lv_iinc (v := x1_7) (lv' := [(1, .int x1_7), (2, .int r_4), (0, .ref (G.1 + 224))]) X.1 X.2.1 dX9_tidy_54 hl (k := 2) rfl (by rw [e1_7]; first | rfl | decide) (by decide) rfl (fun ls hl => ?_)
          refine lv_goto (tgt := 26) X.1 X.2.1 dX9_tidy_57 (by decide) ?_
          exact hk26 x1_7 S_5 _ (lv_sub hl [2, 0] rfl) h _ _ hP hS
        · have h := h.2 c_6
          refine lv_iload_n X.1 X.2.1 dX9_tidy_52 rfl (lv_at hl 0 rfl) ?_
          exact q_iret X hr hlocks hP hS rfl h dX9_tidy_53
  refine lv_aload_n X.1 X.2.1 dX9_tidy_0 rfl (lv_at hl 0 rfl) ?_
  refine gf_X9_pairs X hK hP tl_X9_181 dX9_tidy_1 ?_
  refine lv_if_le (tgt := 10) X.1 X.2.1 dX9_tidy_4 (by decide) (fun c_1 => ?_) (fun c_1 => ?_)
  · have h := h.1 c_1
    refine lv_aload_n X.1 X.2.1 dX9_tidy_10 rfl (lv_at hl 0 rfl) ?_
    refine lv_iconst (v := 0) X.1 X.2.1 dX9_tidy_11 (by decide) ?_
    refine pf_X9_used X hK hP hS tl_X9_158 dX9_tidy_12 (fun S_2 H locs eS_2 hP hS => ?_)
    have h := h S_2 eS_2
    refine lv_aload_n X.1 X.2.1 dX9_tidy_15 rfl (lv_at hl 0 rfl) ?_
    refine lv_iconst (v := 0) X.1 X.2.1 dX9_tidy_16 (by decide) ?_
    refine pf_X9_latest X hK hP hS tl_X9_221 dX9_tidy_17 (fun S_3 H locs eS_3 hP hS => ?_)
    have h := h S_3 eS_3
    refine lv_aload_n X.1 X.2.1 dX9_tidy_20 rfl (lv_at hl 0 rfl) ?_
    refine q_callV (rest := []) (b := 224) X hK hP hS (c_X9_sort l G S_3 _ h) my_X9_sort tl_X9_236 dX9_tidy_21 kz_224 rfl rfl rfl ⟨Nat.le_of_ble_eq_true rfl, Nat.le_of_ble_eq_true rfl⟩ hl.1 rfl (Nat.le_of_ble_eq_true rfl) ⟨Nat.le_of_ble_eq_true rfl, Nat.le_of_ble_eq_true rfl⟩ (fun r_5 S_4 H locs h hP hS => ?_)
    refine W.eq (g2 := F0 m 24 ls []) rfl ?_
    refine lv_iconst (v := 0) X.1 X.2.1 dX9_tidy_24 (by decide) ?_
    refine lv_istore_n (lv' := [(1, .int 0), (0, .ref (G.1 + 224))]) X.1 X.2.1 dX9_tidy_25 rfl hl (by decide) rfl (fun ls hl => ?_)
    obtain ⟨f_6, h⟩ := h
    exact B26 f_6 0 S_4 _ (lv_sub hl [1, 0] rfl) h _ _ hP hS
  · have h := h.2 c_1
    refine lv_bipush (v := (-3)) X.1 X.2.1 dX9_tidy_7 (by decide) ?_
    exact q_iret X hr hlocks hP hS rfl h dX9_tidy_9

set_option maxHeartbeats 4000000 in
set_option maxRecDepth 100000 in
theorem c_X9_left (l : Launch) (G : Cx) (x1 : Int32) (S : St) (K : Int32 → St → Prop) (h : w_X9_left x1 S K) : q_Met l yX9_left cX9_left 5 (some .int) 6 146 G [.ref (G.1 + 224), .int x1] v_i S K := by
  refine q_enter (by decide +kernel) (Nat.le_of_ble_eq_true rfl) (fun p e s m args below meth c ls X hK hP hr hlocks hl => ?_)
  have hS : va_S (fr_ G) s.heap s.heap [] := va_S.rf
  have hl : lv_has ls 5 [(0, .ref (G.1 + 224)), (1, .int x1)] := hl
  refine lv_aload_n X.1 X.2.1 dX9_left_0 rfl (lv_at hl 0 rfl) ?_
  refine lv_iload_n X.1 X.2.1 dX9_left_1 rfl (lv_at hl 1 rfl) ?_
  refine q_callV (rest := []) (b := 224) X hK hP hS (c_X9_placeOf l G x1 S _ h) my_X9_placeOf tl_X9_131 dX9_left_2 kz_224 rfl rfl rfl ⟨Nat.le_of_ble_eq_true rfl, Nat.le_of_ble_eq_true rfl⟩ hl.1 rfl (Nat.le_of_ble_eq_true rfl) ⟨Nat.le_of_ble_eq_true rfl, Nat.le_of_ble_eq_true rfl⟩ (fun r_2 S_1 H locs h hP hS => ?_)
  refine W.eq (g2 := F0 m 5 ls [.int r_2]) rfl ?_
  refine lv_istore_n (lv' := [(2, .int r_2), (0, .ref (G.1 + 224)), (1, .int x1)]) X.1 X.2.1 dX9_left_5 rfl hl (by decide) rfl (fun ls hl => ?_)
  refine lv_iload_n X.1 X.2.1 dX9_left_6 rfl (lv_at hl 0 rfl) ?_
  refine lv_if_ge (tgt := 13) X.1 X.2.1 dX9_left_7 (by decide) (fun c_3 => ?_) (fun c_3 => ?_)
  · have h := h.1 c_3
    refine lv_aload_n X.1 X.2.1 dX9_left_13 rfl (lv_at hl 1 rfl) ?_
    refine lv_iconst (v := 0) X.1 X.2.1 dX9_left_14 (by decide) ?_
    refine pf_X9_latest X hK hP hS tl_X9_221 dX9_left_15 (fun S_4 H locs eS_4 hP hS => ?_)
    have h := h S_4 eS_4
    refine lv_aload_n X.1 X.2.1 dX9_left_18 rfl (lv_at hl 1 rfl) ?_
    refine q_callV (rest := []) (b := 224) X hK hP hS (c_X9_free l G S_4 _ h) my_X9_free tl_X9_124 dX9_left_19 kz_224 rfl rfl rfl ⟨Nat.le_of_ble_eq_true rfl, Nat.le_of_ble_eq_true rfl⟩ hl.1 rfl (Nat.le_of_ble_eq_true rfl) ⟨Nat.le_of_ble_eq_true rfl, Nat.le_of_ble_eq_true rfl⟩ (fun r_6 S_5 H locs h hP hS => ?_)
    refine W.eq (g2 := F0 m 22 ls [.int r_6]) rfl ?_
    refine lv_istore_n (lv' := [(3, .int r_6), (2, .int r_2), (0, .ref (G.1 + 224)), (1, .int x1)]) X.1 X.2.1 dX9_left_22 rfl hl (by decide) rfl (fun ls hl => ?_)
    refine lv_iload_n X.1 X.2.1 dX9_left_23 rfl (lv_at hl 0 rfl) ?_
    refine lv_bipush (v := 25) X.1 X.2.1 dX9_left_24 (by decide) ?_
    refine lv_icmp_ne (tgt := 32) X.1 X.2.1 dX9_left_26 (by decide) (fun c_7 => ?_) (fun c_7 => ?_)
    · have h := h.1 c_7
      refine lv_aload_n X.1 X.2.1 dX9_left_32 rfl (lv_at hl 2 rfl) ?_
      refine lv_iconst (v := 0) X.1 X.2.1 dX9_left_33 (by decide) ?_
      refine pf_X9_used X hK hP hS tl_X9_158 dX9_left_34 (fun S_8 H locs eS_8 hP hS => ?_)
      have h := h S_8 eS_8
      refine lv_aload_n X.1 X.2.1 dX9_left_37 rfl (lv_at hl 2 rfl) ?_
      refine lv_iload_n X.1 X.2.1 dX9_left_38 rfl (lv_at hl 1 rfl) ?_
      refine q_callV (rest := []) (b := 224) X hK hP hS (c_X9_fetch l G r_2 S_8 _ h) my_X9_fetch tl_X9_100 dX9_left_39 kz_224 rfl rfl rfl ⟨Nat.le_of_ble_eq_true rfl, Nat.le_of_ble_eq_true rfl⟩ hl.1 rfl (Nat.le_of_ble_eq_true rfl) ⟨Nat.le_of_ble_eq_true rfl, Nat.le_of_ble_eq_true rfl⟩ (fun r_10 S_9 H locs h hP hS => ?_)
      refine W.eq (g2 := F0 m 42 ls []) rfl ?_
      refine lv_aload_n X.1 X.2.1 dX9_left_42 rfl (lv_at hl 2 rfl) ?_
      refine q_callV (rest := []) (b := 224) X hK hP hS (c_X9_byBasis l G S_9 _ h) my_X9_byBasis tl_X9_209 dX9_left_43 kz_224 rfl rfl rfl ⟨Nat.le_of_ble_eq_true rfl, Nat.le_of_ble_eq_true rfl⟩ hl.1 rfl (Nat.le_of_ble_eq_true rfl) ⟨Nat.le_of_ble_eq_true rfl, Nat.le_of_ble_eq_true rfl⟩ (fun r_12 S_11 H locs h hP hS => ?_)
      refine W.eq (g2 := F0 m 46 ls []) rfl ?_
      refine lv_aload_n X.1 X.2.1 dX9_left_46 rfl (lv_at hl 2 rfl) ?_
      refine q_callV (rest := []) (b := 224) X hK hP hS (c_X9_leave l G S_11 _ h) my_X9_leave tl_X9_212 dX9_left_47 kz_224 rfl rfl rfl ⟨Nat.le_of_ble_eq_true rfl, Nat.le_of_ble_eq_true rfl⟩ hl.1 rfl (Nat.le_of_ble_eq_true rfl) ⟨Nat.le_of_ble_eq_true rfl, Nat.le_of_ble_eq_true rfl⟩ (fun r_14 S_13 H locs h hP hS => ?_)
      refine W.eq (g2 := F0 m 50 ls [.int r_14]) rfl ?_
      refine lv_istore (lv' := [(4, .int r_14), (3, .int r_6), (2, .int r_2), (0, .ref (G.1 + 224)), (1, .int x1)]) X.1 X.2.1 dX9_left_50 hl (by decide) rfl (fun ls hl => ?_)
      refine lv_aload_n X.1 X.2.1 dX9_left_52 rfl (lv_at hl 3 rfl) ?_
      refine lv_aload_n X.1 X.2.1 dX9_left_53 rfl (lv_at hl 3 rfl) ?_
      refine gf_X9_used X hK hP tl_X9_158 dX9_left_54 ?_
      refine pf_X9_latest X hK hP hS tl_X9_221 dX9_left_57 (fun S_15 H locs eS_15 hP hS => ?_)
      have h := h S_15 eS_15
      refine lv_iload X.1 X.2.1 dX9_left_60 (lv_at hl 0 rfl) ?_
      refine lv_if_ge (tgt := 68) X.1 X.2.1 dX9_left_62 (by decide) (fun c_16 => ?_) (fun c_16 => ?_)
      · have h := h.1 c_16
        refine lv_aload_n X.1 X.2.1 dX9_left_68 rfl (lv_at hl 3 rfl) ?_
        refine lv_iload_n X.1 X.2.1 dX9_left_69 rfl (lv_at hl 1 rfl) ?_
        refine lv_iconst (v := 1) X.1 X.2.1 dX9_left_70 (by decide) ?_
        refine q_callV (rest := []) (b := 224) X hK hP hS (c_X9_lay l G r_6 1 S_15 _ h) my_X9_lay tl_X9_103 dX9_left_71 kz_224 rfl rfl rfl ⟨Nat.le_of_ble_eq_true rfl, Nat.le_of_ble_eq_true rfl⟩ hl.1 rfl (Nat.le_of_ble_eq_true rfl) ⟨Nat.le_of_ble_eq_true rfl, Nat.le_of_ble_eq_true rfl⟩ (fun r_18 S_17 H locs h hP hS => ?_)
        refine W.eq (g2 := F0 m 74 ls []) rfl ?_
        refine lv_iload_n X.1 X.2.1 dX9_left_74 rfl (lv_at hl 1 rfl) ?_
        refine lv_iconst (v := 1) X.1 X.2.1 dX9_left_75 (by decide) ?_
        refine lv_isub X.1 X.2.1 dX9_left_76 ?_
        exact q_iret X hr hlocks hP hS rfl h dX9_left_77
      · have h := h.2 c_16
        refine lv_iload X.1 X.2.1 dX9_left_65 (lv_at hl 0 rfl) ?_
        exact q_iret X hr hlocks hP hS rfl h dX9_left_67
    · have h := h.2 c_7
      refine lv_bipush (v := (-4)) X.1 X.2.1 dX9_left_29 (by decide) ?_
      exact q_iret X hr hlocks hP hS rfl h dX9_left_31
  · have h := h.2 c_3
    refine lv_bipush (v := (-2)) X.1 X.2.1 dX9_left_10 (by decide) ?_
    exact q_iret X hr hlocks hP hS rfl h dX9_left_12

set_option maxHeartbeats 4000000 in
set_option maxRecDepth 100000 in
theorem c_X9_member (l : Launch) (G : Cx) (x1 : Int32) (S : St) (K : Int32 → St → Prop) (h : w_X9_member x1 S K) : q_Met l yX9_member cX9_member 4 (some .int) 6 146 G [.ref (G.1 + 224), .int x1] v_i S K := by
  refine q_enter (by decide +kernel) (Nat.le_of_ble_eq_true rfl) (fun p e s m args below meth c ls X hK hP hr hlocks hl => ?_)
  have hS : va_S (fr_ G) s.heap s.heap [] := va_S.rf
  have hl : lv_has ls 4 [(0, .ref (G.1 + 224)), (1, .int x1)] := hl
  refine lv_aload_n X.1 X.2.1 dX9_member_0 rfl (lv_at hl 0 rfl) ?_
  refine lv_iload_n X.1 X.2.1 dX9_member_1 rfl (lv_at hl 1 rfl) ?_
  refine q_callV (rest := []) (b := 224) X hK hP hS (c_X9_placeOf l G x1 S _ h) my_X9_placeOf tl_X9_131 dX9_member_2 kz_224 rfl rfl rfl ⟨Nat.le_of_ble_eq_true rfl, Nat.le_of_ble_eq_true rfl⟩ hl.1 rfl (Nat.le_of_ble_eq_true rfl) ⟨Nat.le_of_ble_eq_true rfl, Nat.le_of_ble_eq_true rfl⟩ (fun r_2 S_1 H locs h hP hS => ?_)
  refine W.eq (g2 := F0 m 5 ls [.int r_2]) rfl ?_
  refine lv_istore_n (lv' := [(2, .int r_2), (0, .ref (G.1 + 224)), (1, .int x1)]) X.1 X.2.1 dX9_member_5 rfl hl (by decide) rfl (fun ls hl => ?_)
  refine lv_iload_n X.1 X.2.1 dX9_member_6 rfl (lv_at hl 0 rfl) ?_
  refine lv_if_ge (tgt := 13) X.1 X.2.1 dX9_member_7 (by decide) (fun c_3 => ?_) (fun c_3 => ?_)
  · have h := h.1 c_3
    refine lv_aload_n X.1 X.2.1 dX9_member_13 rfl (lv_at hl 1 rfl) ?_
    refine gf_X9_isTidy X hK hP tl_X9_187 dX9_member_14 ?_
    refine lv_if_ne (tgt := 23) X.1 X.2.1 dX9_member_17 (by decide) (fun c_4 => ?_) (fun c_4 => ?_)
    · have h := h.1 c_4
      refine lv_aload_n X.1 X.2.1 dX9_member_23 rfl (lv_at hl 1 rfl) ?_
      refine lv_iconst (v := 0) X.1 X.2.1 dX9_member_24 (by decide) ?_
      refine pf_X9_used X hK hP hS tl_X9_158 dX9_member_25 (fun S_5 H locs eS_5 hP hS => ?_)
      have h := h S_5 eS_5
      refine lv_aload_n X.1 X.2.1 dX9_member_28 rfl (lv_at hl 1 rfl) ?_
      refine lv_iload_n X.1 X.2.1 dX9_member_29 rfl (lv_at hl 0 rfl) ?_
      refine q_callV (rest := []) (b := 224) X hK hP hS (c_X9_fetch l G r_2 S_5 _ h) my_X9_fetch tl_X9_100 dX9_member_30 kz_224 rfl rfl rfl ⟨Nat.le_of_ble_eq_true rfl, Nat.le_of_ble_eq_true rfl⟩ hl.1 rfl (Nat.le_of_ble_eq_true rfl) ⟨Nat.le_of_ble_eq_true rfl, Nat.le_of_ble_eq_true rfl⟩ (fun r_7 S_6 H locs h hP hS => ?_)
      refine W.eq (g2 := F0 m 33 ls []) rfl ?_
      refine lv_aload_n X.1 X.2.1 dX9_member_33 rfl (lv_at hl 1 rfl) ?_
      refine q_callV (rest := []) (b := 224) X hK hP hS (c_X9_byBasis l G S_6 _ h) my_X9_byBasis tl_X9_209 dX9_member_34 kz_224 rfl rfl rfl ⟨Nat.le_of_ble_eq_true rfl, Nat.le_of_ble_eq_true rfl⟩ hl.1 rfl (Nat.le_of_ble_eq_true rfl) ⟨Nat.le_of_ble_eq_true rfl, Nat.le_of_ble_eq_true rfl⟩ (fun r_9 S_8 H locs h hP hS => ?_)
      refine W.eq (g2 := F0 m 37 ls []) rfl ?_
      refine lv_aload_n X.1 X.2.1 dX9_member_37 rfl (lv_at hl 1 rfl) ?_
      refine q_callV (rest := []) (b := 224) X hK hP hS (c_X9_leave l G S_8 _ h) my_X9_leave tl_X9_212 dX9_member_38 kz_224 rfl rfl rfl ⟨Nat.le_of_ble_eq_true rfl, Nat.le_of_ble_eq_true rfl⟩ hl.1 rfl (Nat.le_of_ble_eq_true rfl) ⟨Nat.le_of_ble_eq_true rfl, Nat.le_of_ble_eq_true rfl⟩ (fun r_11 S_10 H locs h hP hS => ?_)
      refine W.eq (g2 := F0 m 41 ls [.int r_11]) rfl ?_
      refine lv_istore_n (lv' := [(3, .int r_11), (2, .int r_2), (0, .ref (G.1 + 224)), (1, .int x1)]) X.1 X.2.1 dX9_member_41 rfl hl (by decide) rfl (fun ls hl => ?_)
      refine lv_aload_n X.1 X.2.1 dX9_member_42 rfl (lv_at hl 2 rfl) ?_
      refine lv_aload_n X.1 X.2.1 dX9_member_43 rfl (lv_at hl 2 rfl) ?_
      refine gf_X9_used X hK hP tl_X9_158 dX9_member_44 ?_
      refine pf_X9_latest X hK hP hS tl_X9_221 dX9_member_47 (fun S_12 H locs eS_12 hP hS => ?_)
      have h := h S_12 eS_12
      refine lv_iload_n X.1 X.2.1 dX9_member_50 rfl (lv_at hl 0 rfl) ?_
      refine lv_if_ge (tgt := 58) X.1 X.2.1 dX9_member_51 (by decide) (fun c_13 => ?_) (fun c_13 => ?_)
      · have h := h.1 c_13
        refine lv_aload_n X.1 X.2.1 dX9_member_58 rfl (lv_at hl 2 rfl) ?_
        refine gf_X9_row X hK hP tl_X9_90 dX9_member_59 ?_
        refine lv_if_ne (tgt := 69) X.1 X.2.1 dX9_member_62 (by decide) (fun c_14 => ?_) (fun c_14 => ?_)
        · have h := h.1 c_14
          refine lv_iconst (v := 0) X.1 X.2.1 dX9_member_69 (by decide) ?_
          exact q_iret X hr hlocks hP hS rfl h dX9_member_70
        · have h := h.2 c_14
          refine lv_iconst (v := 1) X.1 X.2.1 dX9_member_65 (by decide) ?_
          refine lv_goto (tgt := 70) X.1 X.2.1 dX9_member_66 (by decide) ?_
          exact q_iret X hr hlocks hP hS rfl h dX9_member_70
      · have h := h.2 c_13
        refine lv_iload_n X.1 X.2.1 dX9_member_54 rfl (lv_at hl 0 rfl) ?_
        refine lv_goto (tgt := 70) X.1 X.2.1 dX9_member_55 (by decide) ?_
        exact q_iret X hr hlocks hP hS rfl h dX9_member_70
    · have h := h.2 c_4
      refine lv_bipush (v := (-3)) X.1 X.2.1 dX9_member_20 (by decide) ?_
      exact q_iret X hr hlocks hP hS rfl h dX9_member_22
  · have h := h.2 c_3
    refine lv_bipush (v := (-2)) X.1 X.2.1 dX9_member_10 (by decide) ?_
    exact q_iret X hr hlocks hP hS rfl h dX9_member_12

set_option maxHeartbeats 4000000 in
set_option maxRecDepth 100000 in
theorem c_X9_pair (l : Launch) (G : Cx) (x1 : Int32) (S : St) (K : Int32 → St → Prop) (h : w_X9_pair x1 S K) : q_Met l yX9_pair cX9_pair 2 (some .int) 1 22 G [.ref (G.1 + 224), .int x1] v_i S K := by
  refine q_enter (by decide +kernel) (Nat.le_of_ble_eq_true rfl) (fun p e s m args below meth c ls X hK hP hr hlocks hl => ?_)
  have hS : va_S (fr_ G) s.heap s.heap [] := va_S.rf
  have hl : lv_has ls 2 [(0, .ref (G.1 + 224)), (1, .int x1)] := hl
  refine lv_iload_n X.1 X.2.1 dX9_pair_0 rfl (lv_at hl 1 rfl) ?_
  refine lv_iconst (v := 0) X.1 X.2.1 dX9_pair_1 (by decide) ?_
  refine lv_aload_n X.1 X.2.1 dX9_pair_2 rfl (lv_at hl 0 rfl) ?_
  refine gf_X9_pairs X hK hP tl_X9_181 dX9_pair_3 ?_
  refine lv_iconst (v := 1) X.1 X.2.1 dX9_pair_6 (by decide) ?_
  refine lv_isub X.1 X.2.1 dX9_pair_7 ?_
  refine q_callS (rest := []) X hK hP hS (c_X9_in l G x1 0 ((S 224 7) - 1) S _ h) my_X9_in tl_X9_78 dX9_pair_8 rfl ⟨Nat.le_of_ble_eq_true rfl, Nat.le_of_ble_eq_true rfl⟩ hl.1 rfl (Nat.le_of_ble_eq_true rfl) ⟨Nat.le_of_ble_eq_true rfl, Nat.le_of_ble_eq_true rfl⟩ (fun r_2 S_1 H locs h hP hS => ?_)
  refine W.eq (g2 := F0 m 11 ls [.int r_2]) rfl ?_
  refine lv_if_eq (tgt := 33) X.1 X.2.1 dX9_pair_11 (by decide) (fun c_3 => ?_) (fun c_3 => ?_)
  · have h := h.1 c_3
    refine lv_iconst (v := (-1)) X.1 X.2.1 dX9_pair_33 (by decide) ?_
    exact q_iret X hr hlocks hP hS rfl h dX9_pair_34
  · have h := h.2 c_3
    refine lv_bipush (v := 100) X.1 X.2.1 dX9_pair_14 (by decide) ?_
    refine lv_aload_n X.1 X.2.1 dX9_pair_16 rfl (lv_at hl 0 rfl) ?_
    refine gf_X9_pairI X hK hP tl_X9_23 dX9_pair_17 ?_
    refine lv_iload_n X.1 X.2.1 dX9_pair_20 rfl (lv_at hl 1 rfl) ?_
    obtain ⟨o_4, h⟩ := h
    refine q_iald X hK hP kz_228 o_4 dX9_pair_21 ?_
    refine lv_imul X.1 X.2.1 dX9_pair_22 ?_
    refine lv_aload_n X.1 X.2.1 dX9_pair_23 rfl (lv_at hl 0 rfl) ?_
    refine gf_X9_pairJ X hK hP tl_X9_26 dX9_pair_24 ?_
    refine lv_iload_n X.1 X.2.1 dX9_pair_27 rfl (lv_at hl 1 rfl) ?_
    refine q_iald X hK hP kz_229 o_4 dX9_pair_28 ?_
    refine lv_iadd X.1 X.2.1 dX9_pair_29 ?_
    refine lv_goto (tgt := 34) X.1 X.2.1 dX9_pair_30 (by decide) ?_
    exact q_iret X hr hlocks hP hS rfl h dX9_pair_34

set_option maxHeartbeats 4000000 in
set_option maxRecDepth 100000 in
theorem c_X9_isOne (l : Launch) (G : Cx) (x1 : Int32) (S : St) (K : Int32 → St → Prop) (h : w_X9_isOne x1 S K) : q_Met l yX9_isOne cX9_isOne 4 (some .boolean) 0 0 G [.ref (G.1 + 224), .int x1] v_i S K := by
  refine q_enter (by decide +kernel) (Nat.le_of_ble_eq_true rfl) (fun p e s m args below meth c ls X hK hP hr hlocks hl => ?_)
  have hS : va_S (fr_ G) s.heap s.heap [] := va_S.rf
  have hl : lv_has ls 4 [(0, .ref (G.1 + 224)), (1, .int x1)] := hl
  have B4 : ∀ (f : Nat) (x2 : Int32) (x3 : Int32) (S : St) (ls : Array Slot), lv_has ls 4 [(0, .ref (G.1 + 224)), (1, .int x1), (2, .int x2), (3, .int x3)] → q_it (fun _ _ _ => False) (w_X9_isOne_4 x1 K) f x2 x3 S → q_W p l e (k2_rm 0 0) s m args below meth c 0 0 (MQ below (q_Qc G K v_i) args s 0 0 (fr_ G)) G 4 ls [] S := by
    intro f
    induction f with
    | zero => intro x2 x3 S ls hl h; exact False.elim h
    | succ f hk4 =>
      intro x2 x3 S ls hl h H locs hP hS
      have h : w_X9_isOne_4 x1 K (q_it (fun _ _ _ => False) (w_X9_isOne_4 x1 K) f) x2 x3 S := h
      generalize q_it (fun _ _ _ => False) (w_X9_isOne_4 x1 K) f = k4 at h hk4
      refine lv_iload_n X.1 X.2.1 dX9_isOne_4 rfl (lv_at hl 3 rfl) ?_
      refine lv_iconst (v := 4) X.1 X.2.1 dX9_isOne_5 (by decide) ?_
      refine lv_icmp_ge (tgt := 33) X.1 X.2.1 dX9_isOne_6 (by decide) (fun c_1 => ?_) (fun c_1 => ?_)
      · have h := h.1 c_1
        refine lv_iload_n X.1 X.2.1 dX9_isOne_33 rfl (lv_at hl 2 rfl) ?_
        refine lv_if_ne (tgt := 41) X.1 X.2.1 dX9_isOne_34 (by decide) (fun c_2 => ?_) (fun c_2 => ?_)
        · have h := h.1 c_2
          refine lv_iconst (v := 0) X.1 X.2.1 dX9_isOne_41 (by decide) ?_
          exact q_iret X hr hlocks hP hS rfl h dX9_isOne_42
        · have h := h.2 c_2
          refine lv_iconst (v := 1) X.1 X.2.1 dX9_isOne_37 (by decide) ?_
          refine lv_goto (tgt := 42) X.1 X.2.1 dX9_isOne_38 (by decide) ?_
          exact q_iret X hr hlocks hP hS rfl h dX9_isOne_42
      · have h := h.2 c_1
        refine lv_iload_n X.1 X.2.1 dX9_isOne_9 rfl (lv_at hl 2 rfl) ?_
        refine lv_aload_n X.1 X.2.1 dX9_isOne_10 rfl (lv_at hl 0 rfl) ?_
        refine gf_X9_exponents X hK hP tl_X9_20 dX9_isOne_11 ?_
        refine lv_sipush (v := 160) X.1 X.2.1 dX9_isOne_14 (by decide) ?_
        refine lv_bipush (v := 25) X.1 X.2.1 dX9_isOne_17 (by decide) ?_
        refine lv_iload_n X.1 X.2.1 dX9_isOne_19 rfl (lv_at hl 1 rfl) ?_
        refine lv_iadd X.1 X.2.1 dX9_isOne_20 ?_
        refine lv_imul X.1 X.2.1 dX9_isOne_21 ?_
        refine lv_iload_n X.1 X.2.1 dX9_isOne_22 rfl (lv_at hl 3 rfl) ?_
        refine lv_iadd X.1 X.2.1 dX9_isOne_23 ?_
        obtain ⟨o_3, h⟩ := h
        refine q_iald X hK hP kz_227 o_3 dX9_isOne_24 ?_
        refine lv_iadd X.1 X.2.1 dX9_isOne_25 ?_
        refine lv_topi (fun x2_4 e2_4 => ?_)
        have h := h x2_4 e2_4
        refine lv_istore_n (lv' := [(2, .int x2_4), (0, .ref (G.1 + 224)), (1, .int x1), (3, .int x3)]) X.1 X.2.1 dX9_isOne_26 rfl hl (by decide) rfl (fun ls hl => ?_)
        obtain ⟨x3_5, e3_5⟩ : ∃ y : Int32, y = x3 + 1 := ⟨_, rfl⟩
        have h := h x3_5 e3_5
        refine lv_iinc (v := x3_5) (lv' := [(3, .int x3_5), (2, .int x2_4), (0, .ref (G.1 + 224)), (1, .int x1)]) X.1 X.2.1 dX9_isOne_27 hl (k := 3) rfl (by rw [e3_5]; first | rfl | decide) (by decide) rfl (fun ls hl => ?_)
        refine lv_goto (tgt := 4) X.1 X.2.1 dX9_isOne_30 (by decide) ?_
        exact hk4 x2_4 x3_5 S _ (lv_sub hl [2, 3, 1, 0] rfl) h _ _ hP hS
  refine lv_iconst (v := 0) X.1 X.2.1 dX9_isOne_0 (by decide) ?_
  refine lv_istore_n (lv' := [(2, .int 0), (0, .ref (G.1 + 224)), (1, .int x1)]) X.1 X.2.1 dX9_isOne_1 rfl hl (by decide) rfl (fun ls hl => ?_)
  refine lv_iconst (v := 0) X.1 X.2.1 dX9_isOne_2 (by decide) ?_
  refine lv_istore_n (lv' := [(3, .int 0), (2, .int 0), (0, .ref (G.1 + 224)), (1, .int x1)]) X.1 X.2.1 dX9_isOne_3 rfl hl (by decide) rfl (fun ls hl => ?_)
  obtain ⟨f_1, h⟩ := h
  exact B4 f_1 0 0 S _ (lv_sub hl [2, 3, 1, 0] rfl) h _ _ hP hS

set_option maxHeartbeats 4000000 in
set_option maxRecDepth 100000 in
theorem c_X9_alone (l : Launch) (G : Cx) (x1 : Int32) (S : St) (K : Int32 → St → Prop) (h : w_X9_alone x1 S K) : q_Met l yX9_alone cX9_alone 7 (some .int) 0 0 G [.ref (G.1 + 224), .int x1] v_i S K := by
  refine q_enter (by decide +kernel) (Nat.le_of_ble_eq_true rfl) (fun p e s m args below meth c ls X hK hP hr hlocks hl => ?_)
  have hS : va_S (fr_ G) s.heap s.heap [] := va_S.rf
  have hl : lv_has ls 7 [(0, .ref (G.1 + 224)), (1, .int x1)] := hl
  have B97 : ∀ (x3 : Int32) (z0 : Int32) (k5 : Int32 → Int32 → St → Prop) (hk5 : ∀ (x2 : Int32) (x3 : Int32) (S : St) (ls : Array Slot), lv_has ls 7 [(0, .ref (G.1 + 224)), (1, .int x1), (2, .int x2), (3, .int x3)] → k5 x2 x3 S → q_W p l e (k2_rm 0 0) s m args below meth c 0 0 (MQ below (q_Qc G K v_i) args s 0 0 (fr_ G)) G 5 ls [] S) (S : St) (ls : Array Slot), lv_has ls 7 [(0, .ref (G.1 + 224)), (1, .int x1), (3, .int x3)] → w_X9_alone_97 x1 K k5 x3 z0 S → q_W p l e (k2_rm 0 0) s m args below meth c 0 0 (MQ below (q_Qc G K v_i) args s 0 0 (fr_ G)) G 97 ls [.int z0] S := by
    intro x3 z0 k5 hk5 S ls hl h H locs hP hS
    refine lv_istore_n (lv' := [(2, .int z0), (0, .ref (G.1 + 224)), (1, .int x1), (3, .int x3)]) X.1 X.2.1 dX9_alone_97 rfl hl (by decide) rfl (fun ls hl => ?_)
    obtain ⟨x3_1, e3_1⟩ : ∃ y : Int32, y = x3 + 1 := ⟨_, rfl⟩
    have h := h x3_1 e3_1
    refine lv_iinc (v := x3_1) (lv' := [(3, .int x3_1), (2, .int z0), (0, .ref (G.1 + 224)), (1, .int x1)]) X.1 X.2.1 dX9_alone_98 hl (k := 3) rfl (by rw [e3_1]; first | rfl | decide) (by decide) rfl (fun ls hl => ?_)
    refine lv_goto (tgt := 5) X.1 X.2.1 dX9_alone_101 (by decide) ?_
    exact hk5 z0 x3_1 S _ (lv_sub hl [2, 3, 1, 0] rfl) h _ _ hP hS
  have B96 : ∀ (x2 : Int32) (x3 : Int32) (k5 : Int32 → Int32 → St → Prop) (hk5 : ∀ (x2 : Int32) (x3 : Int32) (S : St) (ls : Array Slot), lv_has ls 7 [(0, .ref (G.1 + 224)), (1, .int x1), (2, .int x2), (3, .int x3)] → k5 x2 x3 S → q_W p l e (k2_rm 0 0) s m args below meth c 0 0 (MQ below (q_Qc G K v_i) args s 0 0 (fr_ G)) G 5 ls [] S) (S : St) (ls : Array Slot), lv_has ls 7 [(0, .ref (G.1 + 224)), (1, .int x1), (2, .int x2), (3, .int x3)] → w_X9_alone_96 x1 K k5 x2 x3 S → q_W p l e (k2_rm 0 0) s m args below meth c 0 0 (MQ below (q_Qc G K v_i) args s 0 0 (fr_ G)) G 96 ls [] S := by
    intro x2 x3 k5 hk5 S ls hl h H locs hP hS
    refine lv_iload_n X.1 X.2.1 dX9_alone_96 rfl (lv_at hl 2 rfl) ?_
    exact B97 x3 x2 k5 hk5 S _ (lv_sub hl [0, 1, 3] rfl) h _ _ hP hS
  have B57 : ∀ (x2 : Int32) (x3 : Int32) (x4 : Int32) (x6 : Int32) (z0 : Int32) (z1 : Int32) (k5 : Int32 → Int32 → St → Prop) (hk5 : ∀ (x2 : Int32) (x3 : Int32) (S : St) (ls : Array Slot), lv_has ls 7 [(0, .ref (G.1 + 224)), (1, .int x1), (2, .int x2), (3, .int x3)] → k5 x2 x3 S → q_W p l e (k2_rm 0 0) s m args below meth c 0 0 (MQ below (q_Qc G K v_i) args s 0 0 (fr_ G)) G 5 ls [] S) (k29 : Int32 → Int32 → St → Prop) (hk29 : ∀ (x5 : Int32) (x6 : Int32) (S : St) (ls : Array Slot), lv_has ls 7 [(0, .ref (G.1 + 224)), (1, .int x1), (2, .int x2), (3, .int x3), (4, .int x4), (5, .int x5), (6, .int x6)] → k29 x5 x6 S → q_W p l e (k2_rm 0 0) s m args below meth c 0 0 (MQ below (q_Qc G K v_i) args s 0 0 (fr_ G)) G 29 ls [] S) (S : St) (ls : Array Slot), lv_has ls 7 [(0, .ref (G.1 + 224)), (1, .int x1), (2, .int x2), (3, .int x3), (4, .int x4), (6, .int x6)] → w_X9_alone_57 x1 K k5 k29 x2 x3 x4 x6 z0 z1 S → q_W p l e (k2_rm 0 0) s m args below meth c 0 0 (MQ below (q_Qc G K v_i) args s 0 0 (fr_ G)) G 57 ls [.int z1, .int z0] S := by
    intro x2 x3 x4 x6 z0 z1 k5 hk5 k29 hk29 S ls hl h H locs hP hS
    refine lv_iadd X.1 X.2.1 dX9_alone_57 ?_
    refine lv_topi (fun x5_1 e5_1 => ?_)
    have h := h x5_1 e5_1
    refine lv_istore (lv' := [(5, .int x5_1), (0, .ref (G.1 + 224)), (1, .int x1), (2, .int x2), (3, .int x3), (4, .int x4), (6, .int x6)]) X.1 X.2.1 dX9_alone_58 hl (by decide) rfl (fun ls hl => ?_)
    obtain ⟨x6_2, e6_2⟩ : ∃ y : Int32, y = x6 + 1 := ⟨_, rfl⟩
    have h := h x6_2 e6_2
    refine lv_iinc (v := x6_2) (lv' := [(6, .int x6_2), (5, .int x5_1), (0, .ref (G.1 + 224)), (1, .int x1), (2, .int x2), (3, .int x3), (4, .int x4)]) X.1 X.2.1 dX9_alone_60 hl (k := 6) rfl (by rw [e6_2]; first | rfl | decide) (by decide) rfl (fun ls hl => ?_)
    refine lv_goto (tgt := 29) X.1 X.2.1 dX9_alone_63 (by decide) ?_
    exact hk29 x5_1 x6_2 S _ (lv_sub hl [2, 3, 4, 5, 6, 1, 0] rfl) h _ _ hP hS
  have B29 : ∀ (x2 : Int32) (x3 : Int32) (x4 : Int32) (k5 : Int32 → Int32 → St → Prop) (hk5 : ∀ (x2 : Int32) (x3 : Int32) (S : St) (ls : Array Slot), lv_has ls 7 [(0, .ref (G.1 + 224)), (1, .int x1), (2, .int x2), (3, .int x3)] → k5 x2 x3 S → q_W p l e (k2_rm 0 0) s m args below meth c 0 0 (MQ below (q_Qc G K v_i) args s 0 0 (fr_ G)) G 5 ls [] S) (f : Nat) (x5 : Int32) (x6 : Int32) (S : St) (ls : Array Slot), lv_has ls 7 [(0, .ref (G.1 + 224)), (1, .int x1), (2, .int x2), (3, .int x3), (4, .int x4), (5, .int x5), (6, .int x6)] → q_it (fun _ _ _ => False) (w_X9_alone_29 x1 K k5 x2 x3 x4) f x5 x6 S → q_W p l e (k2_rm 0 0) s m args below meth c 0 0 (MQ below (q_Qc G K v_i) args s 0 0 (fr_ G)) G 29 ls [] S := by
    intro x2 x3 x4 k5 hk5 f
    induction f with
    | zero => intro x5 x6 S ls hl h; exact False.elim h
    | succ f hk29 =>
      intro x5 x6 S ls hl h H locs hP hS
      have h : w_X9_alone_29 x1 K k5 x2 x3 x4 (q_it (fun _ _ _ => False) (w_X9_alone_29 x1 K k5 x2 x3 x4) f) x5 x6 S := h
      generalize q_it (fun _ _ _ => False) (w_X9_alone_29 x1 K k5 x2 x3 x4) f = k29 at h hk29
      refine lv_iload X.1 X.2.1 dX9_alone_29 (lv_at hl 6 rfl) ?_
      refine lv_iconst (v := 4) X.1 X.2.1 dX9_alone_31 (by decide) ?_
      refine lv_icmp_ge (tgt := 66) X.1 X.2.1 dX9_alone_32 (by decide) (fun c_1 => ?_) (fun c_1 => ?_)
      · have h := h.1 c_1
        refine lv_iload X.1 X.2.1 dX9_alone_66 (lv_at hl 5 rfl) ?_
        refine lv_if_ne (tgt := 96) X.1 X.2.1 dX9_alone_68 (by decide) (fun c_2 => ?_) (fun c_2 => ?_)
        · have h := h.1 c_2
          exact B96 x2 x3 k5 hk5 S _ (lv_sub hl [0, 1, 2, 3] rfl) h _ _ hP hS
        · have h := h.2 c_2
          refine lv_aload_n X.1 X.2.1 dX9_alone_71 rfl (lv_at hl 0 rfl) ?_
          refine gf_X9_exponents X hK hP tl_X9_20 dX9_alone_72 ?_
          refine lv_iload X.1 X.2.1 dX9_alone_75 (lv_at hl 4 rfl) ?_
          refine lv_iload_n X.1 X.2.1 dX9_alone_77 rfl (lv_at hl 1 rfl) ?_
          refine lv_iadd X.1 X.2.1 dX9_alone_78 ?_
          obtain ⟨o_3, h⟩ := h
          refine q_iald X hK hP kz_227 o_3 dX9_alone_79 ?_
          refine lv_iload_n X.1 X.2.1 dX9_alone_80 rfl (lv_at hl 2 rfl) ?_
          refine lv_icmp_ge (tgt := 96) X.1 X.2.1 dX9_alone_81 (by decide) (fun c_4 => ?_) (fun c_4 => ?_)
          · have h := h.1 c_4
            exact B96 x2 x3 k5 hk5 S _ (lv_sub hl [0, 1, 2, 3] rfl) h _ _ hP hS
          · have h := h.2 c_4
            refine lv_aload_n X.1 X.2.1 dX9_alone_84 rfl (lv_at hl 0 rfl) ?_
            refine gf_X9_exponents X hK hP tl_X9_20 dX9_alone_85 ?_
            refine lv_iload X.1 X.2.1 dX9_alone_88 (lv_at hl 4 rfl) ?_
            refine lv_iload_n X.1 X.2.1 dX9_alone_90 rfl (lv_at hl 1 rfl) ?_
            refine lv_iadd X.1 X.2.1 dX9_alone_91 ?_
            refine q_iald X hK hP kz_227 o_3 dX9_alone_92 ?_
            refine lv_goto (tgt := 97) X.1 X.2.1 dX9_alone_93 (by decide) ?_
            exact B97 x3 (S 227 (q_rf (x4 + x1))) k5 hk5 S _ (lv_sub hl [0, 1, 3] rfl) h _ _ hP hS
      · have h := h.2 c_1
        refine lv_iload X.1 X.2.1 dX9_alone_35 (lv_at hl 5 rfl) ?_
        refine lv_iload X.1 X.2.1 dX9_alone_37 (lv_at hl 6 rfl) ?_
        refine lv_iload_n X.1 X.2.1 dX9_alone_39 rfl (lv_at hl 1 rfl) ?_
        refine lv_icmp_ne (tgt := 47) X.1 X.2.1 dX9_alone_40 (by decide) (fun c_5 => ?_) (fun c_5 => ?_)
        · have h := h.1 c_5
          refine lv_aload_n X.1 X.2.1 dX9_alone_47 rfl (lv_at hl 0 rfl) ?_
          refine gf_X9_exponents X hK hP tl_X9_20 dX9_alone_48 ?_
          refine lv_iload X.1 X.2.1 dX9_alone_51 (lv_at hl 4 rfl) ?_
          refine lv_iload X.1 X.2.1 dX9_alone_53 (lv_at hl 6 rfl) ?_
          refine lv_iadd X.1 X.2.1 dX9_alone_55 ?_
          obtain ⟨o_6, h⟩ := h
          refine q_iald X hK hP kz_227 o_6 dX9_alone_56 ?_
          exact B57 x2 x3 x4 x6 x5 (S 227 (q_rf (x4 + x6))) k5 hk5 k29 hk29 S _ (lv_sub hl [0, 1, 2, 3, 4, 6] rfl) h _ _ hP hS
        · have h := h.2 c_5
          refine lv_iconst (v := 0) X.1 X.2.1 dX9_alone_43 (by decide) ?_
          refine lv_goto (tgt := 57) X.1 X.2.1 dX9_alone_44 (by decide) ?_
          exact B57 x2 x3 x4 x6 x5 0 k5 hk5 k29 hk29 S _ (lv_sub hl [0, 1, 2, 3, 4, 6] rfl) h _ _ hP hS
  have B5 : ∀ (f : Nat) (x2 : Int32) (x3 : Int32) (S : St) (ls : Array Slot), lv_has ls 7 [(0, .ref (G.1 + 224)), (1, .int x1), (2, .int x2), (3, .int x3)] → q_it (fun _ _ _ => False) (w_X9_alone_5 x1 K) f x2 x3 S → q_W p l e (k2_rm 0 0) s m args below meth c 0 0 (MQ below (q_Qc G K v_i) args s 0 0 (fr_ G)) G 5 ls [] S := by
    intro f
    induction f with
    | zero => intro x2 x3 S ls hl h; exact False.elim h
    | succ f hk5 =>
      intro x2 x3 S ls hl h H locs hP hS
      have h : w_X9_alone_5 x1 K (q_it (fun _ _ _ => False) (w_X9_alone_5 x1 K) f) x2 x3 S := h
      generalize q_it (fun _ _ _ => False) (w_X9_alone_5 x1 K) f = k5 at h hk5
      refine lv_iload_n X.1 X.2.1 dX9_alone_5 rfl (lv_at hl 3 rfl) ?_
      refine lv_aload_n X.1 X.2.1 dX9_alone_6 rfl (lv_at hl 0 rfl) ?_
      refine gf_X9_basis X hK hP tl_X9_107 dX9_alone_7 ?_
      refine lv_icmp_ge (tgt := 104) X.1 X.2.1 dX9_alone_10 (by decide) (fun c_1 => ?_) (fun c_1 => ?_)
      · have h := h.1 c_1
        refine lv_iload_n X.1 X.2.1 dX9_alone_104 rfl (lv_at hl 2 rfl) ?_
        exact q_iret X hr hlocks hP hS rfl h dX9_alone_105
      · have h := h.2 c_1
        refine lv_sipush (v := 160) X.1 X.2.1 dX9_alone_13 (by decide) ?_
        refine lv_bipush (v := 25) X.1 X.2.1 dX9_alone_16 (by decide) ?_
        refine lv_iload_n X.1 X.2.1 dX9_alone_18 rfl (lv_at hl 3 rfl) ?_
        refine lv_iadd X.1 X.2.1 dX9_alone_19 ?_
        refine lv_imul X.1 X.2.1 dX9_alone_20 ?_
        refine lv_topi (fun x4_2 e4_2 => ?_)
        have h := h x4_2 e4_2
        refine lv_istore (lv' := [(4, .int x4_2), (0, .ref (G.1 + 224)), (1, .int x1), (2, .int x2), (3, .int x3)]) X.1 X.2.1 dX9_alone_21 hl (by decide) rfl (fun ls hl => ?_)
        refine lv_iconst (v := 0) X.1 X.2.1 dX9_alone_23 (by decide) ?_
        refine lv_istore (lv' := [(5, .int 0), (4, .int x4_2), (0, .ref (G.1 + 224)), (1, .int x1), (2, .int x2), (3, .int x3)]) X.1 X.2.1 dX9_alone_24 hl (by decide) rfl (fun ls hl => ?_)
        refine lv_iconst (v := 0) X.1 X.2.1 dX9_alone_26 (by decide) ?_
        refine lv_istore (lv' := [(6, .int 0), (5, .int 0), (4, .int x4_2), (0, .ref (G.1 + 224)), (1, .int x1), (2, .int x2), (3, .int x3)]) X.1 X.2.1 dX9_alone_27 hl (by decide) rfl (fun ls hl => ?_)
        obtain ⟨f_3, h⟩ := h
        exact B29 x2 x3 x4_2 k5 hk5 f_3 0 0 S _ (lv_sub hl [3, 4, 5, 6, 2, 1, 0] rfl) h _ _ hP hS
  refine lv_bipush (v := 31) X.1 X.2.1 dX9_alone_0 (by decide) ?_
  refine lv_istore_n (lv' := [(2, .int 31), (0, .ref (G.1 + 224)), (1, .int x1)]) X.1 X.2.1 dX9_alone_2 rfl hl (by decide) rfl (fun ls hl => ?_)
  refine lv_iconst (v := 0) X.1 X.2.1 dX9_alone_3 (by decide) ?_
  refine lv_istore_n (lv' := [(3, .int 0), (2, .int 31), (0, .ref (G.1 + 224)), (1, .int x1)]) X.1 X.2.1 dX9_alone_4 rfl hl (by decide) rfl (fun ls hl => ?_)
  obtain ⟨f_1, h⟩ := h
  exact B5 f_1 31 0 S _ (lv_sub hl [2, 3, 1, 0] rfl) h _ _ hP hS

set_option maxHeartbeats 4000000 in
set_option maxRecDepth 100000 in
theorem c_X9_doesStand (l : Launch) (G : Cx) (S : St) (K : Int32 → St → Prop) (h : w_X9_doesStand S K) : q_Met l yX9_doesStand cX9_doesStand 2 (some .boolean) 1 25 G [.ref (G.1 + 224)] v_i S K := by
  refine q_enter (by decide +kernel) (Nat.le_of_ble_eq_true rfl) (fun p e s m args below meth c ls X hK hP hr hlocks hl => ?_)
  have hS : va_S (fr_ G) s.heap s.heap [] := va_S.rf
  have hl : lv_has ls 2 [(0, .ref (G.1 + 224))] := hl
  have B2 : ∀ (f : Nat) (x1 : Int32) (S : St) (ls : Array Slot), lv_has ls 2 [(0, .ref (G.1 + 224)), (1, .int x1)] → q_it (fun _ _ => False) (w_X9_doesStand_2 K) f x1 S → q_W p l e (k2_rm 1 25) s m args below meth c 0 0 (MQ below (q_Qc G K v_i) args s 0 0 (fr_ G)) G 2 ls [] S := by
    intro f
    induction f with
    | zero => intro x1 S ls hl h; exact False.elim h
    | succ f hk2 =>
      intro x1 S ls hl h H locs hP hS
      have h : w_X9_doesStand_2 K (q_it (fun _ _ => False) (w_X9_doesStand_2 K) f) x1 S := h
      generalize q_it (fun _ _ => False) (w_X9_doesStand_2 K) f = k2 at h hk2
      refine lv_iload_n X.1 X.2.1 dX9_doesStand_2 rfl (lv_at hl 1 rfl) ?_
      refine lv_aload_n X.1 X.2.1 dX9_doesStand_3 rfl (lv_at hl 0 rfl) ?_
      refine gf_X9_basis X hK hP tl_X9_107 dX9_doesStand_4 ?_
      refine lv_icmp_ge (tgt := 41) X.1 X.2.1 dX9_doesStand_7 (by decide) (fun c_1 => ?_) (fun c_1 => ?_)
      · have h := h.1 c_1
        refine lv_iconst (v := 1) X.1 X.2.1 dX9_doesStand_41 (by decide) ?_
        exact q_iret X hr hlocks hP hS rfl h dX9_doesStand_42
      · have h := h.2 c_1
        refine lv_aload_n X.1 X.2.1 dX9_doesStand_10 rfl (lv_at hl 0 rfl) ?_
        refine gf_X9_exponents X hK hP tl_X9_20 dX9_doesStand_11 ?_
        refine lv_sipush (v := 160) X.1 X.2.1 dX9_doesStand_14 (by decide) ?_
        refine lv_bipush (v := 25) X.1 X.2.1 dX9_doesStand_17 (by decide) ?_
        refine lv_iload_n X.1 X.2.1 dX9_doesStand_19 rfl (lv_at hl 1 rfl) ?_
        refine lv_iadd X.1 X.2.1 dX9_doesStand_20 ?_
        refine lv_imul X.1 X.2.1 dX9_doesStand_21 ?_
        refine lv_aload_n X.1 X.2.1 dX9_doesStand_22 rfl (lv_at hl 0 rfl) ?_
        refine gf_X9_one X hK hP tl_X9_38 dX9_doesStand_23 ?_
        refine lv_iconst (v := 0) X.1 X.2.1 dX9_doesStand_26 (by decide) ?_
        refine q_callS (rest := []) X hK hP hS (c_X9_divides l G 227 (160 * (25 + x1)) 232 0 S _ ⟨kz_227.1, rfl⟩ ⟨kz_232.1, rfl⟩ h) my_X9_divides tl_X9_154 dX9_doesStand_27 rfl ⟨Nat.le_of_ble_eq_true rfl, Nat.le_of_ble_eq_true rfl⟩ hl.1 rfl (Nat.le_of_ble_eq_true rfl) ⟨Nat.le_of_ble_eq_true rfl, Nat.le_of_ble_eq_true rfl⟩ (fun r_3 S_2 H locs h hP hS => ?_)
        refine W.eq (g2 := F0 m 30 ls [.int r_3]) rfl ?_
        refine lv_if_eq (tgt := 35) X.1 X.2.1 dX9_doesStand_30 (by decide) (fun c_4 => ?_) (fun c_4 => ?_)
        · have h := h.1 c_4
          obtain ⟨x1_5, e1_5⟩ : ∃ y : Int32, y = x1 + 1 := ⟨_, rfl⟩
          have h := h x1_5 e1_5
          refine lv_iinc (v := x1_5) (lv' := [(1, .int x1_5), (0, .ref (G.1 + 224))]) X.1 X.2.1 dX9_doesStand_35 hl (k := 1) rfl (by rw [e1_5]; first | rfl | decide) (by decide) rfl (fun ls hl => ?_)
          refine lv_goto (tgt := 2) X.1 X.2.1 dX9_doesStand_38 (by decide) ?_
          exact hk2 x1_5 S_2 _ (lv_sub hl [1, 0] rfl) h _ _ hP hS
        · have h := h.2 c_4
          refine lv_iconst (v := 0) X.1 X.2.1 dX9_doesStand_33 (by decide) ?_
          exact q_iret X hr hlocks hP hS rfl h dX9_doesStand_34
  refine lv_iconst (v := 0) X.1 X.2.1 dX9_doesStand_0 (by decide) ?_
  refine lv_istore_n (lv' := [(1, .int 0), (0, .ref (G.1 + 224))]) X.1 X.2.1 dX9_doesStand_1 rfl hl (by decide) rfl (fun ls hl => ?_)
  obtain ⟨f_1, h⟩ := h
  exact B2 f_1 0 S _ (lv_sub hl [1, 0] rfl) h _ _ hP hS

set_option maxHeartbeats 4000000 in
set_option maxRecDepth 100000 in
theorem c_X9_layStanding (l : Launch) (G : Cx) (S : St) (K : Unit → St → Prop) (h : w_X9_layStanding S K) : q_Met l yX9_layStanding cX9_layStanding 3 none 2 53 G [.ref (G.1 + 224)] v_v S K := by
  refine q_enter (by decide +kernel) (Nat.le_of_ble_eq_true rfl) (fun p e s m args below meth c ls X hK hP hr hlocks hl => ?_)
  have hS : va_S (fr_ G) s.heap s.heap [] := va_S.rf
  have hl : lv_has ls 3 [(0, .ref (G.1 + 224))] := hl
  have B73 : ∀ (x1 : Int32) (f : Nat) (x2 : Int32) (S : St) (ls : Array Slot), lv_has ls 3 [(0, .ref (G.1 + 224)), (1, .int x1), (2, .int x2)] → q_it (fun _ _ => False) (w_X9_layStanding_73 K x1) f x2 S → q_W p l e (k2_rm 2 53) s m args below meth c 0 0 (MQ below (q_Qc G K v_v) args s 0 0 (fr_ G)) G 73 ls [] S := by
    intro x1 f
    induction f with
    | zero => intro x2 S ls hl h; exact False.elim h
    | succ f hk73 =>
      intro x2 S ls hl h H locs hP hS
      have h : w_X9_layStanding_73 K x1 (q_it (fun _ _ => False) (w_X9_layStanding_73 K x1) f) x2 S := h
      generalize q_it (fun _ _ => False) (w_X9_layStanding_73 K x1) f = k73 at h hk73
      refine lv_iload_n X.1 X.2.1 dX9_layStanding_73 rfl (lv_at hl 2 rfl) ?_
      refine lv_iconst (v := 4) X.1 X.2.1 dX9_layStanding_74 (by decide) ?_
      refine lv_icmp_ge (tgt := 100) X.1 X.2.1 dX9_layStanding_75 (by decide) (fun c_1 => ?_) (fun c_1 => ?_)
      · have h := h.1 c_1
        refine lv_aload_n X.1 X.2.1 dX9_layStanding_100 rfl (lv_at hl 0 rfl) ?_
        refine lv_dup X.1 X.2.1 dX9_layStanding_101 rfl ?_
        refine gf_X9_stood X hK hP tl_X9_242 dX9_layStanding_102 ?_
        refine lv_iconst (v := 1) X.1 X.2.1 dX9_layStanding_105 (by decide) ?_
        refine lv_iadd X.1 X.2.1 dX9_layStanding_106 ?_
        refine pf_X9_stood X hK hP hS tl_X9_242 dX9_layStanding_107 (fun S_2 H locs eS_2 hP hS => ?_)
        have h := h S_2 eS_2
        exact q_vret X hr hlocks hP hS h dX9_layStanding_110
      · have h := h.2 c_1
        refine lv_aload_n X.1 X.2.1 dX9_layStanding_78 rfl (lv_at hl 0 rfl) ?_
        refine gf_X9_stoodExponents X hK hP tl_X9_62 dX9_layStanding_79 ?_
        refine lv_iconst (v := 4) X.1 X.2.1 dX9_layStanding_82 (by decide) ?_
        refine lv_iload_n X.1 X.2.1 dX9_layStanding_83 rfl (lv_at hl 1 rfl) ?_
        refine lv_imul X.1 X.2.1 dX9_layStanding_84 ?_
        refine lv_iload_n X.1 X.2.1 dX9_layStanding_85 rfl (lv_at hl 2 rfl) ?_
        refine lv_iadd X.1 X.2.1 dX9_layStanding_86 ?_
        refine lv_aload_n X.1 X.2.1 dX9_layStanding_87 rfl (lv_at hl 0 rfl) ?_
        refine gf_X9_one X hK hP tl_X9_38 dX9_layStanding_88 ?_
        refine lv_iload_n X.1 X.2.1 dX9_layStanding_91 rfl (lv_at hl 2 rfl) ?_
        obtain ⟨o_3, h⟩ := h
        refine q_iald X hK hP kz_232 o_3 dX9_layStanding_92 ?_
        obtain ⟨o_4, h⟩ := h
        refine q_iast X hK hP hS kz_240 o_4 dX9_layStanding_93 (fun S_5 H locs eS_5 hP hS => ?_)
        have h := h S_5 eS_5
        obtain ⟨x2_6, e2_6⟩ : ∃ y : Int32, y = x2 + 1 := ⟨_, rfl⟩
        have h := h x2_6 e2_6
        refine lv_iinc (v := x2_6) (lv' := [(2, .int x2_6), (0, .ref (G.1 + 224)), (1, .int x1)]) X.1 X.2.1 dX9_layStanding_94 hl (k := 2) rfl (by rw [e2_6]; first | rfl | decide) (by decide) rfl (fun ls hl => ?_)
        refine lv_goto (tgt := 73) X.1 X.2.1 dX9_layStanding_97 (by decide) ?_
        exact hk73 x2_6 S_5 _ (lv_sub hl [1, 2, 0] rfl) h _ _ hP hS
  have B71 : ∀ (x1 : Int32) (S : St) (ls : Array Slot), lv_has ls 3 [(0, .ref (G.1 + 224)), (1, .int x1)] → w_X9_layStanding_71 K x1 S → q_W p l e (k2_rm 2 53) s m args below meth c 0 0 (MQ below (q_Qc G K v_v) args s 0 0 (fr_ G)) G 71 ls [] S := by
    intro x1 S ls hl h H locs hP hS
    refine lv_iconst (v := 0) X.1 X.2.1 dX9_layStanding_71 (by decide) ?_
    refine lv_istore_n (lv' := [(2, .int 0), (0, .ref (G.1 + 224)), (1, .int x1)]) X.1 X.2.1 dX9_layStanding_72 rfl hl (by decide) rfl (fun ls hl => ?_)
    obtain ⟨f_1, h⟩ := h
    exact B73 x1 f_1 0 S _ (lv_sub hl [1, 2, 0] rfl) h _ _ hP hS
  have B32 : ∀ (x1 : Int32) (k5 : Int32 → St → Prop) (hk5 : ∀ (x1 : Int32) (S : St) (ls : Array Slot), lv_has ls 3 [(0, .ref (G.1 + 224)), (1, .int x1)] → k5 x1 S → q_W p l e (k2_rm 2 53) s m args below meth c 0 0 (MQ below (q_Qc G K v_v) args s 0 0 (fr_ G)) G 5 ls [] S) (f : Nat) (x2 : Int32) (S : St) (ls : Array Slot), lv_has ls 3 [(0, .ref (G.1 + 224)), (1, .int x1), (2, .int x2)] → q_it (fun _ _ => False) (w_X9_layStanding_32 K k5 x1) f x2 S → q_W p l e (k2_rm 2 53) s m args below meth c 0 0 (MQ below (q_Qc G K v_v) args s 0 0 (fr_ G)) G 32 ls [] S := by
    intro x1 k5 hk5 f
    induction f with
    | zero => intro x2 S ls hl h; exact False.elim h
    | succ f hk32 =>
      intro x2 S ls hl h H locs hP hS
      have h : w_X9_layStanding_32 K k5 x1 (q_it (fun _ _ => False) (w_X9_layStanding_32 K k5 x1) f) x2 S := h
      generalize q_it (fun _ _ => False) (w_X9_layStanding_32 K k5 x1) f = k32 at h hk32
      refine lv_iload_n X.1 X.2.1 dX9_layStanding_32 rfl (lv_at hl 2 rfl) ?_
      refine lv_iconst (v := 4) X.1 X.2.1 dX9_layStanding_33 (by decide) ?_
      refine lv_icmp_ge (tgt := 65) X.1 X.2.1 dX9_layStanding_34 (by decide) (fun c_1 => ?_) (fun c_1 => ?_)
      · have h := h.1 c_1
        obtain ⟨x1_2, e1_2⟩ : ∃ y : Int32, y = x1 + (-1) := ⟨_, rfl⟩
        have h := h x1_2 e1_2
        refine lv_iinc (v := x1_2) (lv' := [(1, .int x1_2), (0, .ref (G.1 + 224)), (2, .int x2)]) X.1 X.2.1 dX9_layStanding_65 hl (k := 1) rfl (by rw [e1_2]; first | rfl | decide) (by decide) rfl (fun ls hl => ?_)
        refine lv_goto (tgt := 5) X.1 X.2.1 dX9_layStanding_68 (by decide) ?_
        exact hk5 x1_2 S _ (lv_sub hl [1, 0] rfl) h _ _ hP hS
      · have h := h.2 c_1
        refine lv_aload_n X.1 X.2.1 dX9_layStanding_37 rfl (lv_at hl 0 rfl) ?_
        refine gf_X9_stoodExponents X hK hP tl_X9_62 dX9_layStanding_38 ?_
        refine lv_iconst (v := 4) X.1 X.2.1 dX9_layStanding_41 (by decide) ?_
        refine lv_iload_n X.1 X.2.1 dX9_layStanding_42 rfl (lv_at hl 1 rfl) ?_
        refine lv_imul X.1 X.2.1 dX9_layStanding_43 ?_
        refine lv_iload_n X.1 X.2.1 dX9_layStanding_44 rfl (lv_at hl 2 rfl) ?_
        refine lv_iadd X.1 X.2.1 dX9_layStanding_45 ?_
        refine lv_aload_n X.1 X.2.1 dX9_layStanding_46 rfl (lv_at hl 0 rfl) ?_
        refine gf_X9_stoodExponents X hK hP tl_X9_62 dX9_layStanding_47 ?_
        refine lv_iconst (v := 4) X.1 X.2.1 dX9_layStanding_50 (by decide) ?_
        refine lv_iload_n X.1 X.2.1 dX9_layStanding_51 rfl (lv_at hl 1 rfl) ?_
        refine lv_imul X.1 X.2.1 dX9_layStanding_52 ?_
        refine lv_iconst (v := 4) X.1 X.2.1 dX9_layStanding_53 (by decide) ?_
        refine lv_isub X.1 X.2.1 dX9_layStanding_54 ?_
        refine lv_iload_n X.1 X.2.1 dX9_layStanding_55 rfl (lv_at hl 2 rfl) ?_
        refine lv_iadd X.1 X.2.1 dX9_layStanding_56 ?_
        obtain ⟨o_3, h⟩ := h
        refine q_iald X hK hP kz_240 o_3 dX9_layStanding_57 ?_
        obtain ⟨o_4, h⟩ := h
        refine q_iast X hK hP hS kz_240 o_4 dX9_layStanding_58 (fun S_5 H locs eS_5 hP hS => ?_)
        have h := h S_5 eS_5
        obtain ⟨x2_6, e2_6⟩ : ∃ y : Int32, y = x2 + 1 := ⟨_, rfl⟩
        have h := h x2_6 e2_6
        refine lv_iinc (v := x2_6) (lv' := [(2, .int x2_6), (0, .ref (G.1 + 224)), (1, .int x1)]) X.1 X.2.1 dX9_layStanding_59 hl (k := 2) rfl (by rw [e2_6]; first | rfl | decide) (by decide) rfl (fun ls hl => ?_)
        refine lv_goto (tgt := 32) X.1 X.2.1 dX9_layStanding_62 (by decide) ?_
        exact hk32 x2_6 S_5 _ (lv_sub hl [1, 2, 0] rfl) h _ _ hP hS
  have B5 : ∀ (f : Nat) (x1 : Int32) (S : St) (ls : Array Slot), lv_has ls 3 [(0, .ref (G.1 + 224)), (1, .int x1)] → q_it (fun _ _ => False) (w_X9_layStanding_5 K) f x1 S → q_W p l e (k2_rm 2 53) s m args below meth c 0 0 (MQ below (q_Qc G K v_v) args s 0 0 (fr_ G)) G 5 ls [] S := by
    intro f
    induction f with
    | zero => intro x1 S ls hl h; exact False.elim h
    | succ f hk5 =>
      intro x1 S ls hl h H locs hP hS
      have h : w_X9_layStanding_5 K (q_it (fun _ _ => False) (w_X9_layStanding_5 K) f) x1 S := h
      generalize q_it (fun _ _ => False) (w_X9_layStanding_5 K) f = k5 at h hk5
      refine lv_iload_n X.1 X.2.1 dX9_layStanding_5 rfl (lv_at hl 1 rfl) ?_
      refine lv_if_le (tgt := 71) X.1 X.2.1 dX9_layStanding_6 (by decide) (fun c_1 => ?_) (fun c_1 => ?_)
      · have h := h.1 c_1
        exact B71 x1 S _ (lv_sub hl [0, 1] rfl) h _ _ hP hS
      · have h := h.2 c_1
        refine lv_aload_n X.1 X.2.1 dX9_layStanding_9 rfl (lv_at hl 0 rfl) ?_
        refine lv_aload_n X.1 X.2.1 dX9_layStanding_10 rfl (lv_at hl 0 rfl) ?_
        refine gf_X9_stoodExponents X hK hP tl_X9_62 dX9_layStanding_11 ?_
        refine lv_iconst (v := 4) X.1 X.2.1 dX9_layStanding_14 (by decide) ?_
        refine lv_iload_n X.1 X.2.1 dX9_layStanding_15 rfl (lv_at hl 1 rfl) ?_
        refine lv_imul X.1 X.2.1 dX9_layStanding_16 ?_
        refine lv_iconst (v := 4) X.1 X.2.1 dX9_layStanding_17 (by decide) ?_
        refine lv_isub X.1 X.2.1 dX9_layStanding_18 ?_
        refine lv_aload_n X.1 X.2.1 dX9_layStanding_19 rfl (lv_at hl 0 rfl) ?_
        refine gf_X9_one X hK hP tl_X9_38 dX9_layStanding_20 ?_
        refine lv_iconst (v := 0) X.1 X.2.1 dX9_layStanding_23 (by decide) ?_
        refine q_callV (rest := []) (b := 224) X hK hP hS (c_X9_stand l G 240 ((4 * x1) - 4) 232 0 S _ ⟨kz_240.1, rfl⟩ ⟨kz_232.1, rfl⟩ h) my_X9_stand tl_X9_93 dX9_layStanding_24 kz_224 rfl rfl rfl ⟨Nat.le_of_ble_eq_true rfl, Nat.le_of_ble_eq_true rfl⟩ hl.1 rfl (Nat.le_of_ble_eq_true rfl) ⟨Nat.le_of_ble_eq_true rfl, Nat.le_of_ble_eq_true rfl⟩ (fun r_3 S_2 H locs h hP hS => ?_)
        refine W.eq (g2 := F0 m 27 ls [.int r_3]) rfl ?_
        refine lv_if_le (tgt := 71) X.1 X.2.1 dX9_layStanding_27 (by decide) (fun c_4 => ?_) (fun c_4 => ?_)
        · have h := h.1 c_4
          exact B71 x1 S_2 _ (lv_sub hl [0, 1] rfl) h _ _ hP hS
        · have h := h.2 c_4
          refine lv_iconst (v := 0) X.1 X.2.1 dX9_layStanding_30 (by decide) ?_
          refine lv_istore_n (lv' := [(2, .int 0), (0, .ref (G.1 + 224)), (1, .int x1)]) X.1 X.2.1 dX9_layStanding_31 rfl hl (by decide) rfl (fun ls hl => ?_)
          obtain ⟨f_5, h⟩ := h
          exact B32 x1 k5 hk5 f_5 0 S_2 _ (lv_sub hl [1, 2, 0] rfl) h _ _ hP hS
  refine lv_aload_n X.1 X.2.1 dX9_layStanding_0 rfl (lv_at hl 0 rfl) ?_
  refine gf_X9_stood X hK hP tl_X9_242 dX9_layStanding_1 ?_
  refine lv_topi (fun x1_1 e1_1 => ?_)
  have h := h x1_1 e1_1
  refine lv_istore_n (lv' := [(1, .int x1_1), (0, .ref (G.1 + 224))]) X.1 X.2.1 dX9_layStanding_4 rfl hl (by decide) rfl (fun ls hl => ?_)
  obtain ⟨f_2, h⟩ := h
  exact B5 f_2 x1_1 S _ (lv_sub hl [1, 0] rfl) h _ _ hP hS

set_option maxHeartbeats 4000000 in
set_option maxRecDepth 100000 in
theorem c_X9_findStanding (l : Launch) (G : Cx) (S : St) (K : Int32 → St → Prop) (h : w_X9_findStanding S K) : q_Met l yX9_findStanding cX9_findStanding 2 (some .int) 3 75 G [.ref (G.1 + 224)] v_i S K := by
  refine q_enter (by decide +kernel) (Nat.le_of_ble_eq_true rfl) (fun p e s m args below meth c ls X hK hP hr hlocks hl => ?_)
  have hS : va_S (fr_ G) s.heap s.heap [] := va_S.rf
  have hl : lv_has ls 2 [(0, .ref (G.1 + 224))] := hl
  have B191 : ∀ (k87 : St → Prop) (hk87 : ∀ (S : St) (ls : Array Slot), lv_has ls 2 [(0, .ref (G.1 + 224))] → k87 S → q_W p l e (k2_rm 3 75) s m args below meth c 0 0 (MQ below (q_Qc G K v_i) args s 0 0 (fr_ G)) G 87 ls [] S) (k109 : St → Prop) (hk109 : ∀ (S : St) (ls : Array Slot), lv_has ls 2 [(0, .ref (G.1 + 224))] → k109 S → q_W p l e (k2_rm 3 75) s m args below meth c 0 0 (MQ below (q_Qc G K v_i) args s 0 0 (fr_ G)) G 109 ls [] S) (k131 : St → Prop) (hk131 : ∀ (S : St) (ls : Array Slot), lv_has ls 2 [(0, .ref (G.1 + 224))] → k131 S → q_W p l e (k2_rm 3 75) s m args below meth c 0 0 (MQ below (q_Qc G K v_i) args s 0 0 (fr_ G)) G 131 ls [] S) (k153 : St → Prop) (hk153 : ∀ (S : St) (ls : Array Slot), lv_has ls 2 [(0, .ref (G.1 + 224))] → k153 S → q_W p l e (k2_rm 3 75) s m args below meth c 0 0 (MQ below (q_Qc G K v_i) args s 0 0 (fr_ G)) G 153 ls [] S) (S : St) (ls : Array Slot), lv_has ls 2 [(0, .ref (G.1 + 224))] → w_X9_findStanding_191 K k87 k109 k131 k153 S → q_W p l e (k2_rm 3 75) s m args below meth c 0 0 (MQ below (q_Qc G K v_i) args s 0 0 (fr_ G)) G 191 ls [] S := by
    intro k87 hk87 k109 hk109 k131 hk131 k153 hk153 S ls hl h H locs hP hS
    refine lv_aload_n X.1 X.2.1 dX9_findStanding_191 rfl (lv_at hl 0 rfl) ?_
    refine gf_X9_one X hK hP tl_X9_38 dX9_findStanding_192 ?_
    refine lv_iconst (v := 3) X.1 X.2.1 dX9_findStanding_195 (by decide) ?_
    refine lv_dup2_11 X.1 X.2.1 dX9_findStanding_196 rfl rfl ?_
    refine q_iald X hK hP kz_232 (q_vin (by decide)) dX9_findStanding_197 ?_
    refine lv_iconst (v := 1) X.1 X.2.1 dX9_findStanding_198 (by decide) ?_
    refine lv_iadd X.1 X.2.1 dX9_findStanding_199 ?_
    refine q_iast X hK hP hS kz_232 (q_vin (by decide)) dX9_findStanding_200 (fun S_1 H locs eS_1 hP hS => ?_)
    have h := h S_1 eS_1
    refine lv_goto (tgt := 153) X.1 X.2.1 dX9_findStanding_201 (by decide) ?_
    exact hk153 S_1 _ (lv_sub hl [0] rfl) h _ _ hP hS
  have B153 : ∀ (k87 : St → Prop) (hk87 : ∀ (S : St) (ls : Array Slot), lv_has ls 2 [(0, .ref (G.1 + 224))] → k87 S → q_W p l e (k2_rm 3 75) s m args below meth c 0 0 (MQ below (q_Qc G K v_i) args s 0 0 (fr_ G)) G 87 ls [] S) (k109 : St → Prop) (hk109 : ∀ (S : St) (ls : Array Slot), lv_has ls 2 [(0, .ref (G.1 + 224))] → k109 S → q_W p l e (k2_rm 3 75) s m args below meth c 0 0 (MQ below (q_Qc G K v_i) args s 0 0 (fr_ G)) G 109 ls [] S) (k131 : St → Prop) (hk131 : ∀ (S : St) (ls : Array Slot), lv_has ls 2 [(0, .ref (G.1 + 224))] → k131 S → q_W p l e (k2_rm 3 75) s m args below meth c 0 0 (MQ below (q_Qc G K v_i) args s 0 0 (fr_ G)) G 131 ls [] S) (f : Nat) (S : St) (ls : Array Slot), lv_has ls 2 [(0, .ref (G.1 + 224))] → q_it (fun _ => False) (w_X9_findStanding_153 K k87 k109 k131) f S → q_W p l e (k2_rm 3 75) s m args below meth c 0 0 (MQ below (q_Qc G K v_i) args s 0 0 (fr_ G)) G 153 ls [] S := by
    intro k87 hk87 k109 hk109 k131 hk131 f
    induction f with
    | zero => intro S ls hl h; exact False.elim h
    | succ f hk153 =>
      intro S ls hl h H locs hP hS
      have h : w_X9_findStanding_153 K k87 k109 k131 (q_it (fun _ => False) (w_X9_findStanding_153 K k87 k109 k131) f) S := h
      generalize q_it (fun _ => False) (w_X9_findStanding_153 K k87 k109 k131) f = k153 at h hk153
      refine lv_aload_n X.1 X.2.1 dX9_findStanding_153 rfl (lv_at hl 0 rfl) ?_
      refine gf_X9_one X hK hP tl_X9_38 dX9_findStanding_154 ?_
      refine lv_iconst (v := 3) X.1 X.2.1 dX9_findStanding_157 (by decide) ?_
      refine q_iald X hK hP kz_232 (q_vin (by decide)) dX9_findStanding_158 ?_
      refine lv_aload_n X.1 X.2.1 dX9_findStanding_159 rfl (lv_at hl 0 rfl) ?_
      refine gf_X9_ends X hK hP tl_X9_65 dX9_findStanding_160 ?_
      refine lv_iconst (v := 3) X.1 X.2.1 dX9_findStanding_163 (by decide) ?_
      refine q_iald X hK hP kz_241 (q_vin (by decide)) dX9_findStanding_164 ?_
      refine lv_icmp_ge (tgt := 204) X.1 X.2.1 dX9_findStanding_165 (by decide) (fun c_1 => ?_) (fun c_1 => ?_)
      · have h := h.1 c_1
        refine lv_aload_n X.1 X.2.1 dX9_findStanding_204 rfl (lv_at hl 0 rfl) ?_
        refine gf_X9_one X hK hP tl_X9_38 dX9_findStanding_205 ?_
        refine lv_iconst (v := 2) X.1 X.2.1 dX9_findStanding_208 (by decide) ?_
        refine lv_dup2_11 X.1 X.2.1 dX9_findStanding_209 rfl rfl ?_
        refine q_iald X hK hP kz_232 (q_vin (by decide)) dX9_findStanding_210 ?_
        refine lv_iconst (v := 1) X.1 X.2.1 dX9_findStanding_211 (by decide) ?_
        refine lv_iadd X.1 X.2.1 dX9_findStanding_212 ?_
        refine q_iast X hK hP hS kz_232 (q_vin (by decide)) dX9_findStanding_213 (fun S_2 H locs eS_2 hP hS => ?_)
        have h := h S_2 eS_2
        refine lv_goto (tgt := 131) X.1 X.2.1 dX9_findStanding_214 (by decide) ?_
        exact hk131 S_2 _ (lv_sub hl [0] rfl) h _ _ hP hS
      · have h := h.2 c_1
        refine lv_aload_n X.1 X.2.1 dX9_findStanding_168 rfl (lv_at hl 0 rfl) ?_
        refine q_callV (rest := []) (b := 224) X hK hP hS (c_X9_doesStand l G S _ h) my_X9_doesStand tl_X9_251 dX9_findStanding_169 kz_224 rfl rfl rfl ⟨Nat.le_of_ble_eq_true rfl, Nat.le_of_ble_eq_true rfl⟩ hl.1 rfl (Nat.le_of_ble_eq_true rfl) ⟨Nat.le_of_ble_eq_true rfl, Nat.le_of_ble_eq_true rfl⟩ (fun r_4 S_3 H locs h hP hS => ?_)
        refine W.eq (g2 := F0 m 172 ls [.int r_4]) rfl ?_
        refine lv_if_eq (tgt := 191) X.1 X.2.1 dX9_findStanding_172 (by decide) (fun c_5 => ?_) (fun c_5 => ?_)
        · have h := h.1 c_5
          exact B191 k87 hk87 k109 hk109 k131 hk131 k153 hk153 S_3 _ (lv_sub hl [0] rfl) h _ _ hP hS
        · have h := h.2 c_5
          refine lv_aload_n X.1 X.2.1 dX9_findStanding_175 rfl (lv_at hl 0 rfl) ?_
          refine gf_X9_stood X hK hP tl_X9_242 dX9_findStanding_176 ?_
          refine lv_sipush (v := 300) X.1 X.2.1 dX9_findStanding_179 (by decide) ?_
          refine lv_icmp_ne (tgt := 187) X.1 X.2.1 dX9_findStanding_182 (by decide) (fun c_6 => ?_) (fun c_6 => ?_)
          · have h := h.1 c_6
            refine lv_aload_n X.1 X.2.1 dX9_findStanding_187 rfl (lv_at hl 0 rfl) ?_
            refine q_callV (rest := []) (b := 224) X hK hP hS (c_X9_layStanding l G S_3 _ h) my_X9_layStanding tl_X9_255 dX9_findStanding_188 kz_224 rfl rfl rfl ⟨Nat.le_of_ble_eq_true rfl, Nat.le_of_ble_eq_true rfl⟩ hl.1 rfl (Nat.le_of_ble_eq_true rfl) ⟨Nat.le_of_ble_eq_true rfl, Nat.le_of_ble_eq_true rfl⟩ (fun r_8 S_7 H locs h hP hS => ?_)
            refine W.eq (g2 := F0 m 191 ls []) rfl ?_
            exact B191 k87 hk87 k109 hk109 k131 hk131 k153 hk153 S_7 _ (lv_sub hl [0] rfl) h _ _ hP hS
          · have h := h.2 c_6
            refine lv_iconst (v := (-1)) X.1 X.2.1 dX9_findStanding_185 (by decide) ?_
            exact q_iret X hr hlocks hP hS rfl h dX9_findStanding_186
  have B131 : ∀ (k87 : St → Prop) (hk87 : ∀ (S : St) (ls : Array Slot), lv_has ls 2 [(0, .ref (G.1 + 224))] → k87 S → q_W p l e (k2_rm 3 75) s m args below meth c 0 0 (MQ below (q_Qc G K v_i) args s 0 0 (fr_ G)) G 87 ls [] S) (k109 : St → Prop) (hk109 : ∀ (S : St) (ls : Array Slot), lv_has ls 2 [(0, .ref (G.1 + 224))] → k109 S → q_W p l e (k2_rm 3 75) s m args below meth c 0 0 (MQ below (q_Qc G K v_i) args s 0 0 (fr_ G)) G 109 ls [] S) (f : Nat) (S : St) (ls : Array Slot), lv_has ls 2 [(0, .ref (G.1 + 224))] → q_it (fun _ => False) (w_X9_findStanding_131 K k87 k109) f S → q_W p l e (k2_rm 3 75) s m args below meth c 0 0 (MQ below (q_Qc G K v_i) args s 0 0 (fr_ G)) G 131 ls [] S := by
    intro k87 hk87 k109 hk109 f
    induction f with
    | zero => intro S ls hl h; exact False.elim h
    | succ f hk131 =>
      intro S ls hl h H locs hP hS
      have h : w_X9_findStanding_131 K k87 k109 (q_it (fun _ => False) (w_X9_findStanding_131 K k87 k109) f) S := h
      generalize q_it (fun _ => False) (w_X9_findStanding_131 K k87 k109) f = k131 at h hk131
      refine lv_aload_n X.1 X.2.1 dX9_findStanding_131 rfl (lv_at hl 0 rfl) ?_
      refine gf_X9_one X hK hP tl_X9_38 dX9_findStanding_132 ?_
      refine lv_iconst (v := 2) X.1 X.2.1 dX9_findStanding_135 (by decide) ?_
      refine q_iald X hK hP kz_232 (q_vin (by decide)) dX9_findStanding_136 ?_
      refine lv_aload_n X.1 X.2.1 dX9_findStanding_137 rfl (lv_at hl 0 rfl) ?_
      refine gf_X9_ends X hK hP tl_X9_65 dX9_findStanding_138 ?_
      refine lv_iconst (v := 2) X.1 X.2.1 dX9_findStanding_141 (by decide) ?_
      refine q_iald X hK hP kz_241 (q_vin (by decide)) dX9_findStanding_142 ?_
      refine lv_icmp_ge (tgt := 217) X.1 X.2.1 dX9_findStanding_143 (by decide) (fun c_1 => ?_) (fun c_1 => ?_)
      · have h := h.1 c_1
        refine lv_aload_n X.1 X.2.1 dX9_findStanding_217 rfl (lv_at hl 0 rfl) ?_
        refine gf_X9_one X hK hP tl_X9_38 dX9_findStanding_218 ?_
        refine lv_iconst (v := 1) X.1 X.2.1 dX9_findStanding_221 (by decide) ?_
        refine lv_dup2_11 X.1 X.2.1 dX9_findStanding_222 rfl rfl ?_
        refine q_iald X hK hP kz_232 (q_vin (by decide)) dX9_findStanding_223 ?_
        refine lv_iconst (v := 1) X.1 X.2.1 dX9_findStanding_224 (by decide) ?_
        refine lv_iadd X.1 X.2.1 dX9_findStanding_225 ?_
        refine q_iast X hK hP hS kz_232 (q_vin (by decide)) dX9_findStanding_226 (fun S_2 H locs eS_2 hP hS => ?_)
        have h := h S_2 eS_2
        refine lv_goto (tgt := 109) X.1 X.2.1 dX9_findStanding_227 (by decide) ?_
        exact hk109 S_2 _ (lv_sub hl [0] rfl) h _ _ hP hS
      · have h := h.2 c_1
        refine lv_aload_n X.1 X.2.1 dX9_findStanding_146 rfl (lv_at hl 0 rfl) ?_
        refine gf_X9_one X hK hP tl_X9_38 dX9_findStanding_147 ?_
        refine lv_iconst (v := 3) X.1 X.2.1 dX9_findStanding_150 (by decide) ?_
        refine lv_iconst (v := 0) X.1 X.2.1 dX9_findStanding_151 (by decide) ?_
        refine q_iast X hK hP hS kz_232 (q_vin (by decide)) dX9_findStanding_152 (fun S_3 H locs eS_3 hP hS => ?_)
        have h := h S_3 eS_3
        obtain ⟨f_4, h⟩ := h
        exact B153 k87 hk87 k109 hk109 k131 hk131 f_4 S_3 _ (lv_sub hl [0] rfl) h _ _ hP hS
  have B109 : ∀ (k87 : St → Prop) (hk87 : ∀ (S : St) (ls : Array Slot), lv_has ls 2 [(0, .ref (G.1 + 224))] → k87 S → q_W p l e (k2_rm 3 75) s m args below meth c 0 0 (MQ below (q_Qc G K v_i) args s 0 0 (fr_ G)) G 87 ls [] S) (f : Nat) (S : St) (ls : Array Slot), lv_has ls 2 [(0, .ref (G.1 + 224))] → q_it (fun _ => False) (w_X9_findStanding_109 K k87) f S → q_W p l e (k2_rm 3 75) s m args below meth c 0 0 (MQ below (q_Qc G K v_i) args s 0 0 (fr_ G)) G 109 ls [] S := by
    intro k87 hk87 f
    induction f with
    | zero => intro S ls hl h; exact False.elim h
    | succ f hk109 =>
      intro S ls hl h H locs hP hS
      have h : w_X9_findStanding_109 K k87 (q_it (fun _ => False) (w_X9_findStanding_109 K k87) f) S := h
      generalize q_it (fun _ => False) (w_X9_findStanding_109 K k87) f = k109 at h hk109
      refine lv_aload_n X.1 X.2.1 dX9_findStanding_109 rfl (lv_at hl 0 rfl) ?_
      refine gf_X9_one X hK hP tl_X9_38 dX9_findStanding_110 ?_
      refine lv_iconst (v := 1) X.1 X.2.1 dX9_findStanding_113 (by decide) ?_
      refine q_iald X hK hP kz_232 (q_vin (by decide)) dX9_findStanding_114 ?_
      refine lv_aload_n X.1 X.2.1 dX9_findStanding_115 rfl (lv_at hl 0 rfl) ?_
      refine gf_X9_ends X hK hP tl_X9_65 dX9_findStanding_116 ?_
      refine lv_iconst (v := 1) X.1 X.2.1 dX9_findStanding_119 (by decide) ?_
      refine q_iald X hK hP kz_241 (q_vin (by decide)) dX9_findStanding_120 ?_
      refine lv_icmp_ge (tgt := 230) X.1 X.2.1 dX9_findStanding_121 (by decide) (fun c_1 => ?_) (fun c_1 => ?_)
      · have h := h.1 c_1
        refine lv_aload_n X.1 X.2.1 dX9_findStanding_230 rfl (lv_at hl 0 rfl) ?_
        refine gf_X9_one X hK hP tl_X9_38 dX9_findStanding_231 ?_
        refine lv_iconst (v := 0) X.1 X.2.1 dX9_findStanding_234 (by decide) ?_
        refine lv_dup2_11 X.1 X.2.1 dX9_findStanding_235 rfl rfl ?_
        refine q_iald X hK hP kz_232 (q_vin (by decide)) dX9_findStanding_236 ?_
        refine lv_iconst (v := 1) X.1 X.2.1 dX9_findStanding_237 (by decide) ?_
        refine lv_iadd X.1 X.2.1 dX9_findStanding_238 ?_
        refine q_iast X hK hP hS kz_232 (q_vin (by decide)) dX9_findStanding_239 (fun S_2 H locs eS_2 hP hS => ?_)
        have h := h S_2 eS_2
        refine lv_goto (tgt := 87) X.1 X.2.1 dX9_findStanding_240 (by decide) ?_
        exact hk87 S_2 _ (lv_sub hl [0] rfl) h _ _ hP hS
      · have h := h.2 c_1
        refine lv_aload_n X.1 X.2.1 dX9_findStanding_124 rfl (lv_at hl 0 rfl) ?_
        refine gf_X9_one X hK hP tl_X9_38 dX9_findStanding_125 ?_
        refine lv_iconst (v := 2) X.1 X.2.1 dX9_findStanding_128 (by decide) ?_
        refine lv_iconst (v := 0) X.1 X.2.1 dX9_findStanding_129 (by decide) ?_
        refine q_iast X hK hP hS kz_232 (q_vin (by decide)) dX9_findStanding_130 (fun S_3 H locs eS_3 hP hS => ?_)
        have h := h S_3 eS_3
        obtain ⟨f_4, h⟩ := h
        exact B131 k87 hk87 k109 hk109 f_4 S_3 _ (lv_sub hl [0] rfl) h _ _ hP hS
  have B87 : ∀ (f : Nat) (S : St) (ls : Array Slot), lv_has ls 2 [(0, .ref (G.1 + 224))] → q_it (fun _ => False) (w_X9_findStanding_87 K) f S → q_W p l e (k2_rm 3 75) s m args below meth c 0 0 (MQ below (q_Qc G K v_i) args s 0 0 (fr_ G)) G 87 ls [] S := by
    intro f
    induction f with
    | zero => intro S ls hl h; exact False.elim h
    | succ f hk87 =>
      intro S ls hl h H locs hP hS
      have h : w_X9_findStanding_87 K (q_it (fun _ => False) (w_X9_findStanding_87 K) f) S := h
      generalize q_it (fun _ => False) (w_X9_findStanding_87 K) f = k87 at h hk87
      refine lv_aload_n X.1 X.2.1 dX9_findStanding_87 rfl (lv_at hl 0 rfl) ?_
      refine gf_X9_one X hK hP tl_X9_38 dX9_findStanding_88 ?_
      refine lv_iconst (v := 0) X.1 X.2.1 dX9_findStanding_91 (by decide) ?_
      refine q_iald X hK hP kz_232 (q_vin (by decide)) dX9_findStanding_92 ?_
      refine lv_aload_n X.1 X.2.1 dX9_findStanding_93 rfl (lv_at hl 0 rfl) ?_
      refine gf_X9_ends X hK hP tl_X9_65 dX9_findStanding_94 ?_
      refine lv_iconst (v := 0) X.1 X.2.1 dX9_findStanding_97 (by decide) ?_
      refine q_iald X hK hP kz_241 (q_vin (by decide)) dX9_findStanding_98 ?_
      refine lv_icmp_ge (tgt := 243) X.1 X.2.1 dX9_findStanding_99 (by decide) (fun c_1 => ?_) (fun c_1 => ?_)
      · have h := h.1 c_1
        refine lv_aload_n X.1 X.2.1 dX9_findStanding_243 rfl (lv_at hl 0 rfl) ?_
        refine gf_X9_stood X hK hP tl_X9_242 dX9_findStanding_244 ?_
        exact q_iret X hr hlocks hP hS rfl h dX9_findStanding_247
      · have h := h.2 c_1
        refine lv_aload_n X.1 X.2.1 dX9_findStanding_102 rfl (lv_at hl 0 rfl) ?_
        refine gf_X9_one X hK hP tl_X9_38 dX9_findStanding_103 ?_
        refine lv_iconst (v := 1) X.1 X.2.1 dX9_findStanding_106 (by decide) ?_
        refine lv_iconst (v := 0) X.1 X.2.1 dX9_findStanding_107 (by decide) ?_
        refine q_iast X hK hP hS kz_232 (q_vin (by decide)) dX9_findStanding_108 (fun S_2 H locs eS_2 hP hS => ?_)
        have h := h S_2 eS_2
        obtain ⟨f_3, h⟩ := h
        exact B109 k87 hk87 f_3 S_2 _ (lv_sub hl [0] rfl) h _ _ hP hS
  have B60 : ∀ (x1 : Int32) (z1 : Int32) (z2 : Int32) (k33 : Int32 → St → Prop) (hk33 : ∀ (x1 : Int32) (S : St) (ls : Array Slot), lv_has ls 2 [(0, .ref (G.1 + 224)), (1, .int x1)] → k33 x1 S → q_W p l e (k2_rm 3 75) s m args below meth c 0 0 (MQ below (q_Qc G K v_i) args s 0 0 (fr_ G)) G 33 ls [] S) (S : St) (ls : Array Slot), lv_has ls 2 [(0, .ref (G.1 + 224)), (1, .int x1)] → w_X9_findStanding_60 K k33 x1 z1 z2 S → q_W p l e (k2_rm 3 75) s m args below meth c 0 0 (MQ below (q_Qc G K v_i) args s 0 0 (fr_ G)) G 60 ls [.int z2, .int z1, .ref (G.1 + 241)] S := by
    intro x1 z1 z2 k33 hk33 S ls hl h H locs hP hS
    obtain ⟨o_1, h⟩ := h
    refine q_iast X hK hP hS kz_241 o_1 dX9_findStanding_60 (fun S_2 H locs eS_2 hP hS => ?_)
    have h := h S_2 eS_2
    refine lv_aload_n X.1 X.2.1 dX9_findStanding_61 rfl (lv_at hl 0 rfl) ?_
    refine gf_X9_ends X hK hP tl_X9_65 dX9_findStanding_62 ?_
    refine lv_iload_n X.1 X.2.1 dX9_findStanding_65 rfl (lv_at hl 1 rfl) ?_
    obtain ⟨o_3, h⟩ := h
    refine q_iald X hK hP kz_241 o_3 dX9_findStanding_66 ?_
    refine lv_bipush (v := 31) X.1 X.2.1 dX9_findStanding_67 (by decide) ?_
    refine lv_icmp_ne (tgt := 74) X.1 X.2.1 dX9_findStanding_69 (by decide) (fun c_4 => ?_) (fun c_4 => ?_)
    · have h := h.1 c_4
      obtain ⟨x1_5, e1_5⟩ : ∃ y : Int32, y = x1 + 1 := ⟨_, rfl⟩
      have h := h x1_5 e1_5
      refine lv_iinc (v := x1_5) (lv' := [(1, .int x1_5), (0, .ref (G.1 + 224))]) X.1 X.2.1 dX9_findStanding_74 hl (k := 1) rfl (by rw [e1_5]; first | rfl | decide) (by decide) rfl (fun ls hl => ?_)
      refine lv_goto (tgt := 33) X.1 X.2.1 dX9_findStanding_77 (by decide) ?_
      exact hk33 x1_5 S_2 _ (lv_sub hl [1, 0] rfl) h _ _ hP hS
    · have h := h.2 c_4
      refine lv_iconst (v := (-1)) X.1 X.2.1 dX9_findStanding_72 (by decide) ?_
      exact q_iret X hr hlocks hP hS rfl h dX9_findStanding_73
  have B33 : ∀ (f : Nat) (x1 : Int32) (S : St) (ls : Array Slot), lv_has ls 2 [(0, .ref (G.1 + 224)), (1, .int x1)] → q_it (fun _ _ => False) (w_X9_findStanding_33 K) f x1 S → q_W p l e (k2_rm 3 75) s m args below meth c 0 0 (MQ below (q_Qc G K v_i) args s 0 0 (fr_ G)) G 33 ls [] S := by
    intro f
    induction f with
    | zero => intro x1 S ls hl h; exact False.elim h
    | succ f hk33 =>
      intro x1 S ls hl h H locs hP hS
      have h : w_X9_findStanding_33 K (q_it (fun _ _ => False) (w_X9_findStanding_33 K) f) x1 S := h
      generalize q_it (fun _ _ => False) (w_X9_findStanding_33 K) f = k33 at h hk33
      refine lv_iload_n X.1 X.2.1 dX9_findStanding_33 rfl (lv_at hl 1 rfl) ?_
      refine lv_iconst (v := 4) X.1 X.2.1 dX9_findStanding_34 (by decide) ?_
      refine lv_icmp_ge (tgt := 80) X.1 X.2.1 dX9_findStanding_35 (by decide) (fun c_1 => ?_) (fun c_1 => ?_)
      · have h := h.1 c_1
        refine lv_aload_n X.1 X.2.1 dX9_findStanding_80 rfl (lv_at hl 0 rfl) ?_
        refine gf_X9_one X hK hP tl_X9_38 dX9_findStanding_81 ?_
        refine lv_iconst (v := 0) X.1 X.2.1 dX9_findStanding_84 (by decide) ?_
        refine lv_iconst (v := 0) X.1 X.2.1 dX9_findStanding_85 (by decide) ?_
        refine q_iast X hK hP hS kz_232 (q_vin (by decide)) dX9_findStanding_86 (fun S_2 H locs eS_2 hP hS => ?_)
        have h := h S_2 eS_2
        obtain ⟨f_3, h⟩ := h
        exact B87 f_3 S_2 _ (lv_sub hl [0] rfl) h _ _ hP hS
      · have h := h.2 c_1
        refine lv_aload_n X.1 X.2.1 dX9_findStanding_38 rfl (lv_at hl 0 rfl) ?_
        refine gf_X9_ends X hK hP tl_X9_65 dX9_findStanding_39 ?_
        refine lv_iload_n X.1 X.2.1 dX9_findStanding_42 rfl (lv_at hl 1 rfl) ?_
        refine lv_iload_n X.1 X.2.1 dX9_findStanding_43 rfl (lv_at hl 1 rfl) ?_
        refine lv_aload_n X.1 X.2.1 dX9_findStanding_44 rfl (lv_at hl 0 rfl) ?_
        refine gf_X9_n X hK hP tl_X9_75 dX9_findStanding_45 ?_
        refine lv_icmp_ge (tgt := 59) X.1 X.2.1 dX9_findStanding_48 (by decide) (fun c_4 => ?_) (fun c_4 => ?_)
        · have h := h.1 c_4
          refine lv_iconst (v := 1) X.1 X.2.1 dX9_findStanding_59 (by decide) ?_
          exact B60 x1 x1 1 k33 hk33 S _ (lv_sub hl [0, 1] rfl) h _ _ hP hS
        · have h := h.2 c_4
          refine lv_aload_n X.1 X.2.1 dX9_findStanding_51 rfl (lv_at hl 0 rfl) ?_
          refine lv_iload_n X.1 X.2.1 dX9_findStanding_52 rfl (lv_at hl 1 rfl) ?_
          refine q_callV (rest := [.int x1, .ref (G.1 + 241)]) (b := 224) X hK hP hS (c_X9_alone l G x1 S _ h) my_X9_alone tl_X9_248 dX9_findStanding_53 kz_224 rfl rfl rfl ⟨Nat.le_of_ble_eq_true rfl, Nat.le_of_ble_eq_true rfl⟩ hl.1 rfl (Nat.le_of_ble_eq_true rfl) ⟨Nat.le_of_ble_eq_true rfl, Nat.le_of_ble_eq_true rfl⟩ (fun r_6 S_5 H locs h hP hS => ?_)
          refine W.eq (g2 := F0 m 56 ls [.int r_6, .int x1, .ref (G.1 + 241)]) rfl ?_
          refine lv_goto (tgt := 60) X.1 X.2.1 dX9_findStanding_56 (by decide) ?_
          exact B60 x1 x1 r_6 k33 hk33 S_5 _ (lv_sub hl [0, 1] rfl) h _ _ hP hS
  have B7 : ∀ (f : Nat) (x1 : Int32) (S : St) (ls : Array Slot), lv_has ls 2 [(0, .ref (G.1 + 224)), (1, .int x1)] → q_it (fun _ _ => False) (w_X9_findStanding_7 K) f x1 S → q_W p l e (k2_rm 3 75) s m args below meth c 0 0 (MQ below (q_Qc G K v_i) args s 0 0 (fr_ G)) G 7 ls [] S := by
    intro f
    induction f with
    | zero => intro x1 S ls hl h; exact False.elim h
    | succ f hk7 =>
      intro x1 S ls hl h H locs hP hS
      have h : w_X9_findStanding_7 K (q_it (fun _ _ => False) (w_X9_findStanding_7 K) f) x1 S := h
      generalize q_it (fun _ _ => False) (w_X9_findStanding_7 K) f = k7 at h hk7
      refine lv_iload_n X.1 X.2.1 dX9_findStanding_7 rfl (lv_at hl 1 rfl) ?_
      refine lv_aload_n X.1 X.2.1 dX9_findStanding_8 rfl (lv_at hl 0 rfl) ?_
      refine gf_X9_basis X hK hP tl_X9_107 dX9_findStanding_9 ?_
      refine lv_icmp_ge (tgt := 31) X.1 X.2.1 dX9_findStanding_12 (by decide) (fun c_1 => ?_) (fun c_1 => ?_)
      · have h := h.1 c_1
        refine lv_iconst (v := 0) X.1 X.2.1 dX9_findStanding_31 (by decide) ?_
        refine lv_istore_n (lv' := [(1, .int 0), (0, .ref (G.1 + 224))]) X.1 X.2.1 dX9_findStanding_32 rfl hl (by decide) rfl (fun ls hl => ?_)
        obtain ⟨f_2, h⟩ := h
        exact B33 f_2 0 S _ (lv_sub hl [1, 0] rfl) h _ _ hP hS
      · have h := h.2 c_1
        refine lv_aload_n X.1 X.2.1 dX9_findStanding_15 rfl (lv_at hl 0 rfl) ?_
        refine lv_iload_n X.1 X.2.1 dX9_findStanding_16 rfl (lv_at hl 1 rfl) ?_
        refine q_callV (rest := []) (b := 224) X hK hP hS (c_X9_isOne l G x1 S _ h) my_X9_isOne tl_X9_245 dX9_findStanding_17 kz_224 rfl rfl rfl ⟨Nat.le_of_ble_eq_true rfl, Nat.le_of_ble_eq_true rfl⟩ hl.1 rfl (Nat.le_of_ble_eq_true rfl) ⟨Nat.le_of_ble_eq_true rfl, Nat.le_of_ble_eq_true rfl⟩ (fun r_4 S_3 H locs h hP hS => ?_)
        refine W.eq (g2 := F0 m 20 ls [.int r_4]) rfl ?_
        refine lv_if_eq (tgt := 25) X.1 X.2.1 dX9_findStanding_20 (by decide) (fun c_5 => ?_) (fun c_5 => ?_)
        · have h := h.1 c_5
          obtain ⟨x1_6, e1_6⟩ : ∃ y : Int32, y = x1 + 1 := ⟨_, rfl⟩
          have h := h x1_6 e1_6
          refine lv_iinc (v := x1_6) (lv' := [(1, .int x1_6), (0, .ref (G.1 + 224))]) X.1 X.2.1 dX9_findStanding_25 hl (k := 1) rfl (by rw [e1_6]; first | rfl | decide) (by decide) rfl (fun ls hl => ?_)
          refine lv_goto (tgt := 7) X.1 X.2.1 dX9_findStanding_28 (by decide) ?_
          exact hk7 x1_6 S_3 _ (lv_sub hl [1, 0] rfl) h _ _ hP hS
        · have h := h.2 c_5
          refine lv_iconst (v := 0) X.1 X.2.1 dX9_findStanding_23 (by decide) ?_
          exact q_iret X hr hlocks hP hS rfl h dX9_findStanding_24
  refine lv_aload_n X.1 X.2.1 dX9_findStanding_0 rfl (lv_at hl 0 rfl) ?_
  refine lv_iconst (v := 0) X.1 X.2.1 dX9_findStanding_1 (by decide) ?_
  refine pf_X9_stood X hK hP hS tl_X9_242 dX9_findStanding_2 (fun S_1 H locs eS_1 hP hS => ?_)
  have h := h S_1 eS_1
  refine lv_iconst (v := 0) X.1 X.2.1 dX9_findStanding_5 (by decide) ?_
  refine lv_istore_n (lv' := [(1, .int 0), (0, .ref (G.1 + 224))]) X.1 X.2.1 dX9_findStanding_6 rfl hl (by decide) rfl (fun ls hl => ?_)
  obtain ⟨f_2, h⟩ := h
  exact B7 f_2 0 S_1 _ (lv_sub hl [1, 0] rfl) h _ _ hP hS

set_option maxHeartbeats 4000000 in
set_option maxRecDepth 100000 in
theorem c_X9_standing (l : Launch) (G : Cx) (S : St) (K : Int32 → St → Prop) (h : w_X9_standing S K) : q_Met l yX9_standing cX9_standing 1 (some .int) 4 96 G [.ref (G.1 + 224)] v_i S K := by
  refine q_enter (by decide +kernel) (Nat.le_of_ble_eq_true rfl) (fun p e s m args below meth c ls X hK hP hr hlocks hl => ?_)
  have hS : va_S (fr_ G) s.heap s.heap [] := va_S.rf
  have hl : lv_has ls 1 [(0, .ref (G.1 + 224))] := hl
  refine lv_aload_n X.1 X.2.1 dX9_standing_0 rfl (lv_at hl 0 rfl) ?_
  refine gf_X9_isTidy X hK hP tl_X9_187 dX9_standing_1 ?_
  refine lv_if_eq (tgt := 14) X.1 X.2.1 dX9_standing_4 (by decide) (fun c_1 => ?_) (fun c_1 => ?_)
  · have h := h.1 c_1
    refine lv_bipush (v := (-3)) X.1 X.2.1 dX9_standing_14 (by decide) ?_
    exact q_iret X hr hlocks hP hS rfl h dX9_standing_16
  · have h := h.2 c_1
    refine lv_aload_n X.1 X.2.1 dX9_standing_7 rfl (lv_at hl 0 rfl) ?_
    refine q_callV (rest := []) (b := 224) X hK hP hS (c_X9_findStanding l G S _ h) my_X9_findStanding tl_X9_258 dX9_standing_8 kz_224 rfl rfl rfl ⟨Nat.le_of_ble_eq_true rfl, Nat.le_of_ble_eq_true rfl⟩ hl.1 rfl (Nat.le_of_ble_eq_true rfl) ⟨Nat.le_of_ble_eq_true rfl, Nat.le_of_ble_eq_true rfl⟩ (fun r_3 S_2 H locs h hP hS => ?_)
    refine W.eq (g2 := F0 m 11 ls [.int r_3]) rfl ?_
    refine lv_goto (tgt := 16) X.1 X.2.1 dX9_standing_11 (by decide) ?_
    exact q_iret X hr hlocks hP hS rfl h dX9_standing_16

set_option maxHeartbeats 4000000 in
set_option maxRecDepth 100000 in
theorem c_X9_stands (l : Launch) (G : Cx) (x1 : Int32) (x2 : Int32) (S : St) (K : Int32 → St → Prop) (h : w_X9_stands x1 x2 S K) : q_Met l yX9_stands cX9_stands 4 (some .int) 4 96 G [.ref (G.1 + 224), .int x1, .int x2] v_i S K := by
  refine q_enter (by decide +kernel) (Nat.le_of_ble_eq_true rfl) (fun p e s m args below meth c ls X hK hP hr hlocks hl => ?_)
  have hS : va_S (fr_ G) s.heap s.heap [] := va_S.rf
  have hl : lv_has ls 4 [(0, .ref (G.1 + 224)), (1, .int x1), (2, .int x2)] := hl
  have B53 : ∀ (S : St) (ls : Array Slot), lv_has ls 4 [] → w_X9_stands_53 x1 x2 K S → q_W p l e (k2_rm 4 96) s m args below meth c 0 0 (MQ below (q_Qc G K v_i) args s 0 0 (fr_ G)) G 53 ls [] S := by
    intro S ls hl h H locs hP hS
    refine lv_bipush (v := (-2)) X.1 X.2.1 dX9_stands_53 (by decide) ?_
    exact q_iret X hr hlocks hP hS rfl h dX9_stands_55
  refine lv_aload_n X.1 X.2.1 dX9_stands_0 rfl (lv_at hl 0 rfl) ?_
  refine gf_X9_isTidy X hK hP tl_X9_187 dX9_stands_1 ?_
  refine lv_if_ne (tgt := 10) X.1 X.2.1 dX9_stands_4 (by decide) (fun c_1 => ?_) (fun c_1 => ?_)
  · have h := h.1 c_1
    refine lv_aload_n X.1 X.2.1 dX9_stands_10 rfl (lv_at hl 0 rfl) ?_
    refine q_callV (rest := []) (b := 224) X hK hP hS (c_X9_findStanding l G S _ h) my_X9_findStanding tl_X9_258 dX9_stands_11 kz_224 rfl rfl rfl ⟨Nat.le_of_ble_eq_true rfl, Nat.le_of_ble_eq_true rfl⟩ hl.1 rfl (Nat.le_of_ble_eq_true rfl) ⟨Nat.le_of_ble_eq_true rfl, Nat.le_of_ble_eq_true rfl⟩ (fun r_3 S_2 H locs h hP hS => ?_)
    refine W.eq (g2 := F0 m 14 ls [.int r_3]) rfl ?_
    refine lv_istore_n (lv' := [(3, .int r_3), (0, .ref (G.1 + 224)), (1, .int x1), (2, .int x2)]) X.1 X.2.1 dX9_stands_14 rfl hl (by decide) rfl (fun ls hl => ?_)
    refine lv_iload_n X.1 X.2.1 dX9_stands_15 rfl (lv_at hl 2 rfl) ?_
    refine lv_iconst (v := 0) X.1 X.2.1 dX9_stands_16 (by decide) ?_
    refine lv_iload_n X.1 X.2.1 dX9_stands_17 rfl (lv_at hl 0 rfl) ?_
    refine lv_iconst (v := 1) X.1 X.2.1 dX9_stands_18 (by decide) ?_
    refine lv_isub X.1 X.2.1 dX9_stands_19 ?_
    refine q_callS (rest := []) X hK hP hS (c_X9_in l G x1 0 (r_3 - 1) S_2 _ h) my_X9_in tl_X9_78 dX9_stands_20 rfl ⟨Nat.le_of_ble_eq_true rfl, Nat.le_of_ble_eq_true rfl⟩ hl.1 rfl (Nat.le_of_ble_eq_true rfl) ⟨Nat.le_of_ble_eq_true rfl, Nat.le_of_ble_eq_true rfl⟩ (fun r_5 S_4 H locs h hP hS => ?_)
    refine W.eq (g2 := F0 m 23 ls [.int r_5]) rfl ?_
    refine lv_if_eq (tgt := 53) X.1 X.2.1 dX9_stands_23 (by decide) (fun c_6 => ?_) (fun c_6 => ?_)
    · have h := h.1 c_6
      exact B53 S_4 _ (lv_sub hl [] rfl) h _ _ hP hS
    · have h := h.2 c_6
      refine lv_iload_n X.1 X.2.1 dX9_stands_26 rfl (lv_at hl 3 rfl) ?_
      refine lv_iconst (v := 0) X.1 X.2.1 dX9_stands_27 (by decide) ?_
      refine lv_aload_n X.1 X.2.1 dX9_stands_28 rfl (lv_at hl 1 rfl) ?_
      refine gf_X9_n X hK hP tl_X9_75 dX9_stands_29 ?_
      refine lv_iconst (v := 1) X.1 X.2.1 dX9_stands_32 (by decide) ?_
      refine lv_isub X.1 X.2.1 dX9_stands_33 ?_
      refine q_callS (rest := []) X hK hP hS (c_X9_in l G x2 0 ((S_4 224 1) - 1) S_4 _ h) my_X9_in tl_X9_78 dX9_stands_34 rfl ⟨Nat.le_of_ble_eq_true rfl, Nat.le_of_ble_eq_true rfl⟩ hl.1 rfl (Nat.le_of_ble_eq_true rfl) ⟨Nat.le_of_ble_eq_true rfl, Nat.le_of_ble_eq_true rfl⟩ (fun r_8 S_7 H locs h hP hS => ?_)
      refine W.eq (g2 := F0 m 37 ls [.int r_8]) rfl ?_
      refine lv_if_eq (tgt := 53) X.1 X.2.1 dX9_stands_37 (by decide) (fun c_9 => ?_) (fun c_9 => ?_)
      · have h := h.1 c_9
        exact B53 S_7 _ (lv_sub hl [] rfl) h _ _ hP hS
      · have h := h.2 c_9
        refine lv_aload_n X.1 X.2.1 dX9_stands_40 rfl (lv_at hl 1 rfl) ?_
        refine gf_X9_stoodExponents X hK hP tl_X9_62 dX9_stands_41 ?_
        refine lv_iconst (v := 4) X.1 X.2.1 dX9_stands_44 (by decide) ?_
        refine lv_iload_n X.1 X.2.1 dX9_stands_45 rfl (lv_at hl 2 rfl) ?_
        refine lv_imul X.1 X.2.1 dX9_stands_46 ?_
        refine lv_iload_n X.1 X.2.1 dX9_stands_47 rfl (lv_at hl 3 rfl) ?_
        refine lv_iadd X.1 X.2.1 dX9_stands_48 ?_
        obtain ⟨o_10, h⟩ := h
        refine q_iald X hK hP kz_240 o_10 dX9_stands_49 ?_
        refine lv_goto (tgt := 55) X.1 X.2.1 dX9_stands_50 (by decide) ?_
        exact q_iret X hr hlocks hP hS rfl h dX9_stands_55
  · have h := h.2 c_1
    refine lv_bipush (v := (-3)) X.1 X.2.1 dX9_stands_7 (by decide) ?_
    exact q_iret X hr hlocks hP hS rfl h dX9_stands_9

set_option maxHeartbeats 4000000 in
set_option maxRecDepth 100000 in
theorem c_X9_without (l : Launch) (G : Cx) (x1 : Int32) (S : St) (K : Int32 → St → Prop) (h : w_X9_without x1 S K) : q_Met l yX9_without cX9_without 7 (some .int) 1 22 G [.ref (G.1 + 224), .int x1] v_i S K := by
  refine q_enter (by decide +kernel) (Nat.le_of_ble_eq_true rfl) (fun p e s m args below meth c ls X hK hP hr hlocks hl => ?_)
  have hS : va_S (fr_ G) s.heap s.heap [] := va_S.rf
  have hl : lv_has ls 7 [(0, .ref (G.1 + 224)), (1, .int x1)] := hl
  have B115 : ∀ (x3 : Int32) (z0 : Int32) (z1 : Int32) (k29 : Int32 → Int32 → St → Prop) (hk29 : ∀ (x2 : Int32) (x3 : Int32) (S : St) (ls : Array Slot), lv_has ls 7 [(0, .ref (G.1 + 224)), (1, .int x1), (2, .int x2), (3, .int x3)] → k29 x2 x3 S → q_W p l e (k2_rm 1 22) s m args below meth c 0 0 (MQ below (q_Qc G K v_i) args s 0 0 (fr_ G)) G 29 ls [] S) (S : St) (ls : Array Slot), lv_has ls 7 [(0, .ref (G.1 + 224)), (1, .int x1), (3, .int x3)] → w_X9_without_115 x1 K k29 x3 z0 z1 S → q_W p l e (k2_rm 1 22) s m args below meth c 0 0 (MQ below (q_Qc G K v_i) args s 0 0 (fr_ G)) G 115 ls [.int z1, .int z0] S := by
    intro x3 z0 z1 k29 hk29 S ls hl h H locs hP hS
    refine lv_iadd X.1 X.2.1 dX9_without_115 ?_
    refine lv_topi (fun x2_1 e2_1 => ?_)
    have h := h x2_1 e2_1
    refine lv_istore_n (lv' := [(2, .int x2_1), (0, .ref (G.1 + 224)), (1, .int x1), (3, .int x3)]) X.1 X.2.1 dX9_without_116 rfl hl (by decide) rfl (fun ls hl => ?_)
    obtain ⟨x3_2, e3_2⟩ : ∃ y : Int32, y = x3 + 1 := ⟨_, rfl⟩
    have h := h x3_2 e3_2
    refine lv_iinc (v := x3_2) (lv' := [(3, .int x3_2), (2, .int x2_1), (0, .ref (G.1 + 224)), (1, .int x1)]) X.1 X.2.1 dX9_without_117 hl (k := 3) rfl (by rw [e3_2]; first | rfl | decide) (by decide) rfl (fun ls hl => ?_)
    refine lv_goto (tgt := 29) X.1 X.2.1 dX9_without_120 (by decide) ?_
    exact hk29 x2_1 x3_2 S _ (lv_sub hl [2, 3, 1, 0] rfl) h _ _ hP hS
  have B60 : ∀ (x2 : Int32) (x3 : Int32) (x5 : Int32) (k29 : Int32 → Int32 → St → Prop) (hk29 : ∀ (x2 : Int32) (x3 : Int32) (S : St) (ls : Array Slot), lv_has ls 7 [(0, .ref (G.1 + 224)), (1, .int x1), (2, .int x2), (3, .int x3)] → k29 x2 x3 S → q_W p l e (k2_rm 1 22) s m args below meth c 0 0 (MQ below (q_Qc G K v_i) args s 0 0 (fr_ G)) G 29 ls [] S) (k43 : Int32 → Int32 → St → Prop) (hk43 : ∀ (x4 : Int32) (x5 : Int32) (S : St) (ls : Array Slot), lv_has ls 7 [(0, .ref (G.1 + 224)), (1, .int x1), (2, .int x2), (3, .int x3), (4, .int x4), (5, .int x5)] → k43 x4 x5 S → q_W p l e (k2_rm 1 22) s m args below meth c 0 0 (MQ below (q_Qc G K v_i) args s 0 0 (fr_ G)) G 43 ls [] S) (f : Nat) (x4 : Int32) (x6 : Int32) (S : St) (ls : Array Slot), lv_has ls 7 [(0, .ref (G.1 + 224)), (1, .int x1), (2, .int x2), (3, .int x3), (4, .int x4), (5, .int x5), (6, .int x6)] → q_it (fun _ _ _ => False) (w_X9_without_60 x1 K k29 k43 x2 x3 x5) f x4 x6 S → q_W p l e (k2_rm 1 22) s m args below meth c 0 0 (MQ below (q_Qc G K v_i) args s 0 0 (fr_ G)) G 60 ls [] S := by
    intro x2 x3 x5 k29 hk29 k43 hk43 f
    induction f with
    | zero => intro x4 x6 S ls hl h; exact False.elim h
    | succ f hk60 =>
      intro x4 x6 S ls hl h H locs hP hS
      have h : w_X9_without_60 x1 K k29 k43 x2 x3 x5 (q_it (fun _ _ _ => False) (w_X9_without_60 x1 K k29 k43 x2 x3 x5) f) x4 x6 S := h
      generalize q_it (fun _ _ _ => False) (w_X9_without_60 x1 K k29 k43 x2 x3 x5) f = k60 at h hk60
      refine lv_iload X.1 X.2.1 dX9_without_60 (lv_at hl 6 rfl) ?_
      refine lv_iload_n X.1 X.2.1 dX9_without_62 rfl (lv_at hl 1 rfl) ?_
      refine lv_icmp_ge (tgt := 98) X.1 X.2.1 dX9_without_63 (by decide) (fun c_1 => ?_) (fun c_1 => ?_)
      · have h := h.1 c_1
        obtain ⟨x5_2, e5_2⟩ : ∃ y : Int32, y = x5 + 1 := ⟨_, rfl⟩
        have h := h x5_2 e5_2
        refine lv_iinc (v := x5_2) (lv' := [(5, .int x5_2), (0, .ref (G.1 + 224)), (1, .int x1), (2, .int x2), (3, .int x3), (4, .int x4), (6, .int x6)]) X.1 X.2.1 dX9_without_98 hl (k := 5) rfl (by rw [e5_2]; first | rfl | decide) (by decide) rfl (fun ls hl => ?_)
        refine lv_goto (tgt := 43) X.1 X.2.1 dX9_without_101 (by decide) ?_
        exact hk43 x4 x5_2 S _ (lv_sub hl [1, 2, 3, 4, 5, 0] rfl) h _ _ hP hS
      · have h := h.2 c_1
        refine lv_iload X.1 X.2.1 dX9_without_66 (lv_at hl 4 rfl) ?_
        refine lv_aload_n X.1 X.2.1 dX9_without_68 rfl (lv_at hl 0 rfl) ?_
        refine gf_X9_exponents X hK hP tl_X9_20 dX9_without_69 ?_
        refine lv_sipush (v := 160) X.1 X.2.1 dX9_without_72 (by decide) ?_
        refine lv_bipush (v := 25) X.1 X.2.1 dX9_without_75 (by decide) ?_
        refine lv_iload_n X.1 X.2.1 dX9_without_77 rfl (lv_at hl 3 rfl) ?_
        refine lv_iadd X.1 X.2.1 dX9_without_78 ?_
        refine lv_imul X.1 X.2.1 dX9_without_79 ?_
        refine lv_iconst (v := 4) X.1 X.2.1 dX9_without_80 (by decide) ?_
        refine lv_iload X.1 X.2.1 dX9_without_81 (lv_at hl 5 rfl) ?_
        refine lv_imul X.1 X.2.1 dX9_without_83 ?_
        refine lv_iadd X.1 X.2.1 dX9_without_84 ?_
        refine lv_iload X.1 X.2.1 dX9_without_85 (lv_at hl 6 rfl) ?_
        refine lv_iadd X.1 X.2.1 dX9_without_87 ?_
        obtain ⟨o_3, h⟩ := h
        refine q_iald X hK hP kz_227 o_3 dX9_without_88 ?_
        refine lv_iadd X.1 X.2.1 dX9_without_89 ?_
        refine lv_topi (fun x4_4 e4_4 => ?_)
        have h := h x4_4 e4_4
        refine lv_istore (lv' := [(4, .int x4_4), (0, .ref (G.1 + 224)), (1, .int x1), (2, .int x2), (3, .int x3), (5, .int x5), (6, .int x6)]) X.1 X.2.1 dX9_without_90 hl (by decide) rfl (fun ls hl => ?_)
        obtain ⟨x6_5, e6_5⟩ : ∃ y : Int32, y = x6 + 1 := ⟨_, rfl⟩
        have h := h x6_5 e6_5
        refine lv_iinc (v := x6_5) (lv' := [(6, .int x6_5), (4, .int x4_4), (0, .ref (G.1 + 224)), (1, .int x1), (2, .int x2), (3, .int x3), (5, .int x5)]) X.1 X.2.1 dX9_without_92 hl (k := 6) rfl (by rw [e6_5]; first | rfl | decide) (by decide) rfl (fun ls hl => ?_)
        refine lv_goto (tgt := 60) X.1 X.2.1 dX9_without_95 (by decide) ?_
        exact hk60 x4_4 x6_5 S _ (lv_sub hl [2, 3, 4, 5, 1, 6, 0] rfl) h _ _ hP hS
  have B43 : ∀ (x2 : Int32) (x3 : Int32) (k29 : Int32 → Int32 → St → Prop) (hk29 : ∀ (x2 : Int32) (x3 : Int32) (S : St) (ls : Array Slot), lv_has ls 7 [(0, .ref (G.1 + 224)), (1, .int x1), (2, .int x2), (3, .int x3)] → k29 x2 x3 S → q_W p l e (k2_rm 1 22) s m args below meth c 0 0 (MQ below (q_Qc G K v_i) args s 0 0 (fr_ G)) G 29 ls [] S) (f : Nat) (x4 : Int32) (x5 : Int32) (S : St) (ls : Array Slot), lv_has ls 7 [(0, .ref (G.1 + 224)), (1, .int x1), (2, .int x2), (3, .int x3), (4, .int x4), (5, .int x5)] → q_it (fun _ _ _ => False) (w_X9_without_43 x1 K k29 x2 x3) f x4 x5 S → q_W p l e (k2_rm 1 22) s m args below meth c 0 0 (MQ below (q_Qc G K v_i) args s 0 0 (fr_ G)) G 43 ls [] S := by
    intro x2 x3 k29 hk29 f
    induction f with
    | zero => intro x4 x5 S ls hl h; exact False.elim h
    | succ f hk43 =>
      intro x4 x5 S ls hl h H locs hP hS
      have h : w_X9_without_43 x1 K k29 x2 x3 (q_it (fun _ _ _ => False) (w_X9_without_43 x1 K k29 x2 x3) f) x4 x5 S := h
      generalize q_it (fun _ _ _ => False) (w_X9_without_43 x1 K k29 x2 x3) f = k43 at h hk43
      refine lv_iload X.1 X.2.1 dX9_without_43 (lv_at hl 5 rfl) ?_
      refine lv_aload_n X.1 X.2.1 dX9_without_45 rfl (lv_at hl 0 rfl) ?_
      refine gf_X9_many X hK hP tl_X9_13 dX9_without_46 ?_
      refine lv_bipush (v := 25) X.1 X.2.1 dX9_without_49 (by decide) ?_
      refine lv_iload_n X.1 X.2.1 dX9_without_51 rfl (lv_at hl 3 rfl) ?_
      refine lv_iadd X.1 X.2.1 dX9_without_52 ?_
      obtain ⟨o_1, h⟩ := h
      refine q_iald X hK hP kz_225 o_1 dX9_without_53 ?_
      refine lv_icmp_ge (tgt := 104) X.1 X.2.1 dX9_without_54 (by decide) (fun c_2 => ?_) (fun c_2 => ?_)
      · have h := h.1 c_2
        refine lv_iload_n X.1 X.2.1 dX9_without_104 rfl (lv_at hl 2 rfl) ?_
        refine lv_iload X.1 X.2.1 dX9_without_105 (lv_at hl 4 rfl) ?_
        refine lv_if_ne (tgt := 114) X.1 X.2.1 dX9_without_107 (by decide) (fun c_3 => ?_) (fun c_3 => ?_)
        · have h := h.1 c_3
          refine lv_iconst (v := 0) X.1 X.2.1 dX9_without_114 (by decide) ?_
          exact B115 x3 x2 0 k29 hk29 S _ (lv_sub hl [0, 1, 3] rfl) h _ _ hP hS
        · have h := h.2 c_3
          refine lv_iconst (v := 1) X.1 X.2.1 dX9_without_110 (by decide) ?_
          refine lv_goto (tgt := 115) X.1 X.2.1 dX9_without_111 (by decide) ?_
          exact B115 x3 x2 1 k29 hk29 S _ (lv_sub hl [0, 1, 3] rfl) h _ _ hP hS
      · have h := h.2 c_2
        refine lv_iconst (v := 0) X.1 X.2.1 dX9_without_57 (by decide) ?_
        refine lv_istore (lv' := [(6, .int 0), (0, .ref (G.1 + 224)), (1, .int x1), (2, .int x2), (3, .int x3), (4, .int x4), (5, .int x5)]) X.1 X.2.1 dX9_without_58 hl (by decide) rfl (fun ls hl => ?_)
        obtain ⟨f_4, h⟩ := h
        exact B60 x2 x3 x5 k29 hk29 k43 hk43 f_4 x4 0 S _ (lv_sub hl [1, 2, 3, 4, 5, 6, 0] rfl) h _ _ hP hS
  have B29 : ∀ (f : Nat) (x2 : Int32) (x3 : Int32) (S : St) (ls : Array Slot), lv_has ls 7 [(0, .ref (G.1 + 224)), (1, .int x1), (2, .int x2), (3, .int x3)] → q_it (fun _ _ _ => False) (w_X9_without_29 x1 K) f x2 x3 S → q_W p l e (k2_rm 1 22) s m args below meth c 0 0 (MQ below (q_Qc G K v_i) args s 0 0 (fr_ G)) G 29 ls [] S := by
    intro f
    induction f with
    | zero => intro x2 x3 S ls hl h; exact False.elim h
    | succ f hk29 =>
      intro x2 x3 S ls hl h H locs hP hS
      have h : w_X9_without_29 x1 K (q_it (fun _ _ _ => False) (w_X9_without_29 x1 K) f) x2 x3 S := h
      generalize q_it (fun _ _ _ => False) (w_X9_without_29 x1 K) f = k29 at h hk29
      refine lv_iload_n X.1 X.2.1 dX9_without_29 rfl (lv_at hl 3 rfl) ?_
      refine lv_aload_n X.1 X.2.1 dX9_without_30 rfl (lv_at hl 0 rfl) ?_
      refine gf_X9_basis X hK hP tl_X9_107 dX9_without_31 ?_
      refine lv_icmp_ge (tgt := 123) X.1 X.2.1 dX9_without_34 (by decide) (fun c_1 => ?_) (fun c_1 => ?_)
      · have h := h.1 c_1
        refine lv_iload_n X.1 X.2.1 dX9_without_123 rfl (lv_at hl 2 rfl) ?_
        exact q_iret X hr hlocks hP hS rfl h dX9_without_124
      · have h := h.2 c_1
        refine lv_iconst (v := 0) X.1 X.2.1 dX9_without_37 (by decide) ?_
        refine lv_istore (lv' := [(4, .int 0), (0, .ref (G.1 + 224)), (1, .int x1), (2, .int x2), (3, .int x3)]) X.1 X.2.1 dX9_without_38 hl (by decide) rfl (fun ls hl => ?_)
        refine lv_iconst (v := 0) X.1 X.2.1 dX9_without_40 (by decide) ?_
        refine lv_istore (lv' := [(5, .int 0), (4, .int 0), (0, .ref (G.1 + 224)), (1, .int x1), (2, .int x2), (3, .int x3)]) X.1 X.2.1 dX9_without_41 hl (by decide) rfl (fun ls hl => ?_)
        obtain ⟨f_2, h⟩ := h
        exact B43 x2 x3 k29 hk29 f_2 0 0 S _ (lv_sub hl [2, 3, 4, 5, 1, 0] rfl) h _ _ hP hS
  refine lv_iload_n X.1 X.2.1 dX9_without_0 rfl (lv_at hl 1 rfl) ?_
  refine lv_iconst (v := 0) X.1 X.2.1 dX9_without_1 (by decide) ?_
  refine lv_aload_n X.1 X.2.1 dX9_without_2 rfl (lv_at hl 0 rfl) ?_
  refine gf_X9_n X hK hP tl_X9_75 dX9_without_3 ?_
  refine q_callS (rest := []) X hK hP hS (c_X9_in l G x1 0 (S 224 1) S _ h) my_X9_in tl_X9_78 dX9_without_6 rfl ⟨Nat.le_of_ble_eq_true rfl, Nat.le_of_ble_eq_true rfl⟩ hl.1 rfl (Nat.le_of_ble_eq_true rfl) ⟨Nat.le_of_ble_eq_true rfl, Nat.le_of_ble_eq_true rfl⟩ (fun r_2 S_1 H locs h hP hS => ?_)
  refine W.eq (g2 := F0 m 9 ls [.int r_2]) rfl ?_
  refine lv_if_ne (tgt := 15) X.1 X.2.1 dX9_without_9 (by decide) (fun c_3 => ?_) (fun c_3 => ?_)
  · have h := h.1 c_3
    refine lv_aload_n X.1 X.2.1 dX9_without_15 rfl (lv_at hl 0 rfl) ?_
    refine gf_X9_isTidy X hK hP tl_X9_187 dX9_without_16 ?_
    refine lv_if_ne (tgt := 25) X.1 X.2.1 dX9_without_19 (by decide) (fun c_4 => ?_) (fun c_4 => ?_)
    · have h := h.1 c_4
      refine lv_iconst (v := 0) X.1 X.2.1 dX9_without_25 (by decide) ?_
      refine lv_istore_n (lv' := [(2, .int 0), (0, .ref (G.1 + 224)), (1, .int x1)]) X.1 X.2.1 dX9_without_26 rfl hl (by decide) rfl (fun ls hl => ?_)
      refine lv_iconst (v := 0) X.1 X.2.1 dX9_without_27 (by decide) ?_
      refine lv_istore_n (lv' := [(3, .int 0), (2, .int 0), (0, .ref (G.1 + 224)), (1, .int x1)]) X.1 X.2.1 dX9_without_28 rfl hl (by decide) rfl (fun ls hl => ?_)
      obtain ⟨f_5, h⟩ := h
      exact B29 f_5 0 0 S_1 _ (lv_sub hl [2, 3, 1, 0] rfl) h _ _ hP hS
    · have h := h.2 c_4
      refine lv_bipush (v := (-3)) X.1 X.2.1 dX9_without_22 (by decide) ?_
      exact q_iret X hr hlocks hP hS rfl h dX9_without_24
  · have h := h.2 c_3
    refine lv_bipush (v := (-2)) X.1 X.2.1 dX9_without_12 (by decide) ?_
    exact q_iret X hr hlocks hP hS rfl h dX9_without_14

set_option maxHeartbeats 4000000 in
set_option maxRecDepth 100000 in
theorem c_X9_zeros (l : Launch) (G : Cx) (S : St) (K : Int32 → St → Prop) (h : w_X9_zeros S K) : q_Met l yX9_zeros cX9_zeros 7 (some .int) 1 26 G [.ref (G.1 + 224)] v_i S K := by
  refine q_enter (by decide +kernel) (Nat.le_of_ble_eq_true rfl) (fun p e s m args below meth c ls X hK hP hr hlocks hl => ?_)
  have hS : va_S (fr_ G) s.heap s.heap [] := va_S.rf
  have hl : lv_has ls 7 [(0, .ref (G.1 + 224))] := hl
  have B152 : ∀ (x1 : Int32) (x3 : Int32) (z0 : Int32) (z1 : Int32) (k50 : Int32 → Int32 → St → Prop) (hk50 : ∀ (x2 : Int32) (x3 : Int32) (S : St) (ls : Array Slot), lv_has ls 7 [(0, .ref (G.1 + 224)), (1, .int x1), (2, .int x2), (3, .int x3)] → k50 x2 x3 S → q_W p l e (k2_rm 1 26) s m args below meth c 0 0 (MQ below (q_Qc G K v_i) args s 0 0 (fr_ G)) G 50 ls [] S) (S : St) (ls : Array Slot), lv_has ls 7 [(0, .ref (G.1 + 224)), (1, .int x1), (3, .int x3)] → w_X9_zeros_152 K k50 x1 x3 z0 z1 S → q_W p l e (k2_rm 1 26) s m args below meth c 0 0 (MQ below (q_Qc G K v_i) args s 0 0 (fr_ G)) G 152 ls [.int z1, .int z0] S := by
    intro x1 x3 z0 z1 k50 hk50 S ls hl h H locs hP hS
    refine lv_iadd X.1 X.2.1 dX9_zeros_152 ?_
    refine lv_topi (fun x2_1 e2_1 => ?_)
    have h := h x2_1 e2_1
    refine lv_istore_n (lv' := [(2, .int x2_1), (0, .ref (G.1 + 224)), (1, .int x1), (3, .int x3)]) X.1 X.2.1 dX9_zeros_153 rfl hl (by decide) rfl (fun ls hl => ?_)
    obtain ⟨x3_2, e3_2⟩ : ∃ y : Int32, y = x3 + 1 := ⟨_, rfl⟩
    have h := h x3_2 e3_2
    refine lv_iinc (v := x3_2) (lv' := [(3, .int x3_2), (2, .int x2_1), (0, .ref (G.1 + 224)), (1, .int x1)]) X.1 X.2.1 dX9_zeros_154 hl (k := 3) rfl (by rw [e3_2]; first | rfl | decide) (by decide) rfl (fun ls hl => ?_)
    refine lv_goto (tgt := 50) X.1 X.2.1 dX9_zeros_157 (by decide) ?_
    exact hk50 x2_1 x3_2 S _ (lv_sub hl [2, 3, 1, 0] rfl) h _ _ hP hS
  have B141 : ∀ (x1 : Int32) (x2 : Int32) (x3 : Int32) (x5 : Int32) (k50 : Int32 → Int32 → St → Prop) (hk50 : ∀ (x2 : Int32) (x3 : Int32) (S : St) (ls : Array Slot), lv_has ls 7 [(0, .ref (G.1 + 224)), (1, .int x1), (2, .int x2), (3, .int x3)] → k50 x2 x3 S → q_W p l e (k2_rm 1 26) s m args below meth c 0 0 (MQ below (q_Qc G K v_i) args s 0 0 (fr_ G)) G 50 ls [] S) (S : St) (ls : Array Slot), lv_has ls 7 [(0, .ref (G.1 + 224)), (1, .int x1), (2, .int x2), (3, .int x3), (5, .int x5)] → w_X9_zeros_141 K k50 x1 x2 x3 x5 S → q_W p l e (k2_rm 1 26) s m args below meth c 0 0 (MQ below (q_Qc G K v_i) args s 0 0 (fr_ G)) G 141 ls [] S := by
    intro x1 x2 x3 x5 k50 hk50 S ls hl h H locs hP hS
    refine lv_iload_n X.1 X.2.1 dX9_zeros_141 rfl (lv_at hl 2 rfl) ?_
    refine lv_iload X.1 X.2.1 dX9_zeros_142 (lv_at hl 4 rfl) ?_
    refine lv_if_eq (tgt := 151) X.1 X.2.1 dX9_zeros_144 (by decide) (fun c_1 => ?_) (fun c_1 => ?_)
    · have h := h.1 c_1
      refine lv_iconst (v := 0) X.1 X.2.1 dX9_zeros_151 (by decide) ?_
      exact B152 x1 x3 x2 0 k50 hk50 S _ (lv_sub hl [0, 1, 3] rfl) h _ _ hP hS
    · have h := h.2 c_1
      refine lv_iconst (v := 1) X.1 X.2.1 dX9_zeros_147 (by decide) ?_
      refine lv_goto (tgt := 152) X.1 X.2.1 dX9_zeros_148 (by decide) ?_
      exact B152 x1 x3 x2 1 k50 hk50 S _ (lv_sub hl [0, 1, 3] rfl) h _ _ hP hS
  have B133 : ∀ (x1 : Int32) (x2 : Int32) (x3 : Int32) (x6 : Int32) (z0 : Int32) (k50 : Int32 → Int32 → St → Prop) (hk50 : ∀ (x2 : Int32) (x3 : Int32) (S : St) (ls : Array Slot), lv_has ls 7 [(0, .ref (G.1 + 224)), (1, .int x1), (2, .int x2), (3, .int x3)] → k50 x2 x3 S → q_W p l e (k2_rm 1 26) s m args below meth c 0 0 (MQ below (q_Qc G K v_i) args s 0 0 (fr_ G)) G 50 ls [] S) (k102 : Int32 → Int32 → St → Prop) (hk102 : ∀ (x5 : Int32) (x6 : Int32) (S : St) (ls : Array Slot), lv_has ls 7 [(0, .ref (G.1 + 224)), (1, .int x1), (2, .int x2), (3, .int x3), (5, .int x5), (6, .int x6)] → k102 x5 x6 S → q_W p l e (k2_rm 1 26) s m args below meth c 0 0 (MQ below (q_Qc G K v_i) args s 0 0 (fr_ G)) G 102 ls [] S) (S : St) (ls : Array Slot), lv_has ls 7 [(0, .ref (G.1 + 224)), (1, .int x1), (2, .int x2), (3, .int x3), (6, .int x6)] → w_X9_zeros_133 K k50 k102 x1 x2 x3 x6 z0 S → q_W p l e (k2_rm 1 26) s m args below meth c 0 0 (MQ below (q_Qc G K v_i) args s 0 0 (fr_ G)) G 133 ls [.int z0] S := by
    intro x1 x2 x3 x6 z0 k50 hk50 k102 hk102 S ls hl h H locs hP hS
    refine lv_istore (lv' := [(5, .int z0), (0, .ref (G.1 + 224)), (1, .int x1), (2, .int x2), (3, .int x3), (6, .int x6)]) X.1 X.2.1 dX9_zeros_133 hl (by decide) rfl (fun ls hl => ?_)
    obtain ⟨x6_1, e6_1⟩ : ∃ y : Int32, y = x6 + 1 := ⟨_, rfl⟩
    have h := h x6_1 e6_1
    refine lv_iinc (v := x6_1) (lv' := [(6, .int x6_1), (5, .int z0), (0, .ref (G.1 + 224)), (1, .int x1), (2, .int x2), (3, .int x3)]) X.1 X.2.1 dX9_zeros_135 hl (k := 5) rfl (by rw [e6_1]; first | rfl | decide) (by decide) rfl (fun ls hl => ?_)
    refine lv_goto (tgt := 102) X.1 X.2.1 dX9_zeros_138 (by decide) ?_
    exact hk102 z0 x6_1 S _ (lv_sub hl [2, 3, 4, 5, 1, 0] rfl) h _ _ hP hS
  have B102 : ∀ (x1 : Int32) (x2 : Int32) (x3 : Int32) (k50 : Int32 → Int32 → St → Prop) (hk50 : ∀ (x2 : Int32) (x3 : Int32) (S : St) (ls : Array Slot), lv_has ls 7 [(0, .ref (G.1 + 224)), (1, .int x1), (2, .int x2), (3, .int x3)] → k50 x2 x3 S → q_W p l e (k2_rm 1 26) s m args below meth c 0 0 (MQ below (q_Qc G K v_i) args s 0 0 (fr_ G)) G 50 ls [] S) (f : Nat) (x5 : Int32) (x6 : Int32) (S : St) (ls : Array Slot), lv_has ls 7 [(0, .ref (G.1 + 224)), (1, .int x1), (2, .int x2), (3, .int x3), (5, .int x5), (6, .int x6)] → q_it (fun _ _ _ => False) (w_X9_zeros_102 K k50 x1 x2 x3) f x5 x6 S → q_W p l e (k2_rm 1 26) s m args below meth c 0 0 (MQ below (q_Qc G K v_i) args s 0 0 (fr_ G)) G 102 ls [] S := by
    intro x1 x2 x3 k50 hk50 f
    induction f with
    | zero => intro x5 x6 S ls hl h; exact False.elim h
    | succ f hk102 =>
      intro x5 x6 S ls hl h H locs hP hS
      have h : w_X9_zeros_102 K k50 x1 x2 x3 (q_it (fun _ _ _ => False) (w_X9_zeros_102 K k50 x1 x2 x3) f) x5 x6 S := h
      generalize q_it (fun _ _ _ => False) (w_X9_zeros_102 K k50 x1 x2 x3) f = k102 at h hk102
      refine lv_iload X.1 X.2.1 dX9_zeros_102 (lv_at hl 5 rfl) ?_
      refine lv_aload_n X.1 X.2.1 dX9_zeros_104 rfl (lv_at hl 0 rfl) ?_
      refine gf_X9_basis X hK hP tl_X9_107 dX9_zeros_105 ?_
      refine lv_icmp_ge (tgt := 141) X.1 X.2.1 dX9_zeros_108 (by decide) (fun c_1 => ?_) (fun c_1 => ?_)
      · have h := h.1 c_1
        exact B141 x1 x2 x3 x5 k50 hk50 S _ (lv_sub hl [0, 1, 2, 3, 4] rfl) h _ _ hP hS
      · have h := h.2 c_1
        refine lv_iload X.1 X.2.1 dX9_zeros_111 (lv_at hl 4 rfl) ?_
        refine lv_if_eq (tgt := 141) X.1 X.2.1 dX9_zeros_113 (by decide) (fun c_2 => ?_) (fun c_2 => ?_)
        · have h := h.1 c_2
          exact B141 x1 x2 x3 x5 k50 hk50 S _ (lv_sub hl [0, 1, 2, 3, 4] rfl) h _ _ hP hS
        · have h := h.2 c_2
          refine lv_aload_n X.1 X.2.1 dX9_zeros_116 rfl (lv_at hl 0 rfl) ?_
          refine lv_bipush (v := 25) X.1 X.2.1 dX9_zeros_117 (by decide) ?_
          refine lv_iload X.1 X.2.1 dX9_zeros_119 (lv_at hl 5 rfl) ?_
          refine lv_iadd X.1 X.2.1 dX9_zeros_121 ?_
          refine q_callV (rest := []) (b := 224) X hK hP hS (c_X9_valueAt l G (25 + x6) S _ h) my_X9_valueAt tl_X9_148 dX9_zeros_122 kz_224 rfl rfl rfl ⟨Nat.le_of_ble_eq_true rfl, Nat.le_of_ble_eq_true rfl⟩ hl.1 rfl (Nat.le_of_ble_eq_true rfl) ⟨Nat.le_of_ble_eq_true rfl, Nat.le_of_ble_eq_true rfl⟩ (fun r_4 S_3 H locs h hP hS => ?_)
          refine W.eq (g2 := F0 m 125 ls [.int r_4]) rfl ?_
          refine lv_if_ne (tgt := 132) X.1 X.2.1 dX9_zeros_125 (by decide) (fun c_5 => ?_) (fun c_5 => ?_)
          · have h := h.1 c_5
            refine lv_iconst (v := 0) X.1 X.2.1 dX9_zeros_132 (by decide) ?_
            exact B133 x1 x2 x3 x6 0 k50 hk50 k102 hk102 S_3 _ (lv_sub hl [0, 1, 2, 3, 5] rfl) h _ _ hP hS
          · have h := h.2 c_5
            refine lv_iconst (v := 1) X.1 X.2.1 dX9_zeros_128 (by decide) ?_
            refine lv_goto (tgt := 133) X.1 X.2.1 dX9_zeros_129 (by decide) ?_
            exact B133 x1 x2 x3 x6 1 k50 hk50 k102 hk102 S_3 _ (lv_sub hl [0, 1, 2, 3, 5] rfl) h _ _ hP hS
  have B61 : ∀ (x1 : Int32) (x2 : Int32) (x3 : Int32) (k50 : Int32 → Int32 → St → Prop) (hk50 : ∀ (x2 : Int32) (x3 : Int32) (S : St) (ls : Array Slot), lv_has ls 7 [(0, .ref (G.1 + 224)), (1, .int x1), (2, .int x2), (3, .int x3)] → k50 x2 x3 S → q_W p l e (k2_rm 1 26) s m args below meth c 0 0 (MQ below (q_Qc G K v_i) args s 0 0 (fr_ G)) G 50 ls [] S) (f : Nat) (x4 : Int32) (x5 : Int32) (S : St) (ls : Array Slot), lv_has ls 7 [(0, .ref (G.1 + 224)), (1, .int x1), (2, .int x2), (3, .int x3), (4, .int x4), (5, .int x5)] → q_it (fun _ _ _ => False) (w_X9_zeros_61 K k50 x1 x2 x3) f x4 x5 S → q_W p l e (k2_rm 1 26) s m args below meth c 0 0 (MQ below (q_Qc G K v_i) args s 0 0 (fr_ G)) G 61 ls [] S := by
    intro x1 x2 x3 k50 hk50 f
    induction f with
    | zero => intro x4 x5 S ls hl h; exact False.elim h
    | succ f hk61 =>
      intro x4 x5 S ls hl h H locs hP hS
      have h : w_X9_zeros_61 K k50 x1 x2 x3 (q_it (fun _ _ _ => False) (w_X9_zeros_61 K k50 x1 x2 x3) f) x4 x5 S := h
      generalize q_it (fun _ _ _ => False) (w_X9_zeros_61 K k50 x1 x2 x3) f = k61 at h hk61
      refine lv_iload X.1 X.2.1 dX9_zeros_61 (lv_at hl 5 rfl) ?_
      refine lv_iconst (v := 4) X.1 X.2.1 dX9_zeros_63 (by decide) ?_
      refine lv_icmp_ge (tgt := 96) X.1 X.2.1 dX9_zeros_64 (by decide) (fun c_1 => ?_) (fun c_1 => ?_)
      · have h := h.1 c_1
        refine lv_iconst (v := 1) X.1 X.2.1 dX9_zeros_96 (by decide) ?_
        refine lv_istore (lv' := [(5, .int 1), (0, .ref (G.1 + 224)), (1, .int x1), (2, .int x2), (3, .int x3), (4, .int x4)]) X.1 X.2.1 dX9_zeros_97 hl (by decide) rfl (fun ls hl => ?_)
        refine lv_iconst (v := 0) X.1 X.2.1 dX9_zeros_99 (by decide) ?_
        refine lv_istore (lv' := [(6, .int 0), (5, .int 1), (0, .ref (G.1 + 224)), (1, .int x1), (2, .int x2), (3, .int x3), (4, .int x4)]) X.1 X.2.1 dX9_zeros_100 hl (by decide) rfl (fun ls hl => ?_)
        obtain ⟨f_2, h⟩ := h
        exact B102 x1 x2 x3 k50 hk50 f_2 1 0 S _ (lv_sub hl [2, 3, 4, 5, 1, 0] rfl) h _ _ hP hS
      · have h := h.2 c_1
        refine lv_aload_n X.1 X.2.1 dX9_zeros_67 rfl (lv_at hl 0 rfl) ?_
        refine gf_X9_point X hK hP tl_X9_47 dX9_zeros_68 ?_
        refine lv_iload X.1 X.2.1 dX9_zeros_71 (lv_at hl 5 rfl) ?_
        refine lv_iload X.1 X.2.1 dX9_zeros_73 (lv_at hl 4 rfl) ?_
        refine lv_aload_n X.1 X.2.1 dX9_zeros_75 rfl (lv_at hl 0 rfl) ?_
        refine gf_X9_p X hK hP tl_X9_72 dX9_zeros_76 ?_
        obtain ⟨o_3, h⟩ := h
        refine lv_irem X.1 X.2.1 dX9_zeros_79 o_3 ?_
        obtain ⟨o_4, h⟩ := h
        refine q_iast X hK hP hS kz_235 o_4 dX9_zeros_80 (fun S_5 H locs eS_5 hP hS => ?_)
        have h := h S_5 eS_5
        refine lv_iload X.1 X.2.1 dX9_zeros_81 (lv_at hl 4 rfl) ?_
        refine lv_aload_n X.1 X.2.1 dX9_zeros_83 rfl (lv_at hl 0 rfl) ?_
        refine gf_X9_p X hK hP tl_X9_72 dX9_zeros_84 ?_
        obtain ⟨o_6, h⟩ := h
        refine lv_idiv X.1 X.2.1 dX9_zeros_87 o_6 ?_
        refine lv_topi (fun x4_7 e4_7 => ?_)
        have h := h x4_7 e4_7
        refine lv_istore (lv' := [(4, .int x4_7), (0, .ref (G.1 + 224)), (1, .int x1), (2, .int x2), (3, .int x3), (5, .int x5)]) X.1 X.2.1 dX9_zeros_88 hl (by decide) rfl (fun ls hl => ?_)
        obtain ⟨x5_8, e5_8⟩ : ∃ y : Int32, y = x5 + 1 := ⟨_, rfl⟩
        have h := h x5_8 e5_8
        refine lv_iinc (v := x5_8) (lv' := [(5, .int x5_8), (4, .int x4_7), (0, .ref (G.1 + 224)), (1, .int x1), (2, .int x2), (3, .int x3)]) X.1 X.2.1 dX9_zeros_90 hl (k := 5) rfl (by rw [e5_8]; first | rfl | decide) (by decide) rfl (fun ls hl => ?_)
        refine lv_goto (tgt := 61) X.1 X.2.1 dX9_zeros_93 (by decide) ?_
        exact hk61 x4_7 x5_8 S_5 _ (lv_sub hl [2, 3, 4, 5, 1, 0] rfl) h _ _ hP hS
  have B50 : ∀ (x1 : Int32) (f : Nat) (x2 : Int32) (x3 : Int32) (S : St) (ls : Array Slot), lv_has ls 7 [(0, .ref (G.1 + 224)), (1, .int x1), (2, .int x2), (3, .int x3)] → q_it (fun _ _ _ => False) (w_X9_zeros_50 K x1) f x2 x3 S → q_W p l e (k2_rm 1 26) s m args below meth c 0 0 (MQ below (q_Qc G K v_i) args s 0 0 (fr_ G)) G 50 ls [] S := by
    intro x1 f
    induction f with
    | zero => intro x2 x3 S ls hl h; exact False.elim h
    | succ f hk50 =>
      intro x2 x3 S ls hl h H locs hP hS
      have h : w_X9_zeros_50 K x1 (q_it (fun _ _ _ => False) (w_X9_zeros_50 K x1) f) x2 x3 S := h
      generalize q_it (fun _ _ _ => False) (w_X9_zeros_50 K x1) f = k50 at h hk50
      refine lv_iload_n X.1 X.2.1 dX9_zeros_50 rfl (lv_at hl 3 rfl) ?_
      refine lv_iload_n X.1 X.2.1 dX9_zeros_51 rfl (lv_at hl 1 rfl) ?_
      refine lv_icmp_ge (tgt := 160) X.1 X.2.1 dX9_zeros_52 (by decide) (fun c_1 => ?_) (fun c_1 => ?_)
      · have h := h.1 c_1
        refine lv_iload_n X.1 X.2.1 dX9_zeros_160 rfl (lv_at hl 2 rfl) ?_
        exact q_iret X hr hlocks hP hS rfl h dX9_zeros_161
      · have h := h.2 c_1
        refine lv_iload_n X.1 X.2.1 dX9_zeros_55 rfl (lv_at hl 3 rfl) ?_
        refine lv_istore (lv' := [(4, .int x3), (0, .ref (G.1 + 224)), (1, .int x1), (2, .int x2), (3, .int x3)]) X.1 X.2.1 dX9_zeros_56 hl (by decide) rfl (fun ls hl => ?_)
        refine lv_iconst (v := 0) X.1 X.2.1 dX9_zeros_58 (by decide) ?_
        refine lv_istore (lv' := [(5, .int 0), (4, .int x3), (0, .ref (G.1 + 224)), (1, .int x1), (2, .int x2), (3, .int x3)]) X.1 X.2.1 dX9_zeros_59 hl (by decide) rfl (fun ls hl => ?_)
        obtain ⟨f_2, h⟩ := h
        exact B61 x1 x2 x3 k50 hk50 f_2 x3 0 S _ (lv_sub hl [2, 3, 4, 5, 1, 0] rfl) h _ _ hP hS
  have B29 : ∀ (x2 : Int32) (z0 : Int32) (k4 : Int32 → Int32 → St → Prop) (hk4 : ∀ (x1 : Int32) (x2 : Int32) (S : St) (ls : Array Slot), lv_has ls 7 [(0, .ref (G.1 + 224)), (1, .int x1), (2, .int x2)] → k4 x1 x2 S → q_W p l e (k2_rm 1 26) s m args below meth c 0 0 (MQ below (q_Qc G K v_i) args s 0 0 (fr_ G)) G 4 ls [] S) (S : St) (ls : Array Slot), lv_has ls 7 [(0, .ref (G.1 + 224)), (2, .int x2)] → w_X9_zeros_29 K k4 x2 z0 S → q_W p l e (k2_rm 1 26) s m args below meth c 0 0 (MQ below (q_Qc G K v_i) args s 0 0 (fr_ G)) G 29 ls [.int z0] S := by
    intro x2 z0 k4 hk4 S ls hl h H locs hP hS
    refine lv_istore_n (lv' := [(1, .int z0), (0, .ref (G.1 + 224)), (2, .int x2)]) X.1 X.2.1 dX9_zeros_29 rfl hl (by decide) rfl (fun ls hl => ?_)
    obtain ⟨x2_1, e2_1⟩ : ∃ y : Int32, y = x2 + 1 := ⟨_, rfl⟩
    have h := h x2_1 e2_1
    refine lv_iinc (v := x2_1) (lv' := [(2, .int x2_1), (1, .int z0), (0, .ref (G.1 + 224))]) X.1 X.2.1 dX9_zeros_30 hl (k := 2) rfl (by rw [e2_1]; first | rfl | decide) (by decide) rfl (fun ls hl => ?_)
    refine lv_goto (tgt := 4) X.1 X.2.1 dX9_zeros_33 (by decide) ?_
    exact hk4 z0 x2_1 S _ (lv_sub hl [2, 1, 0] rfl) h _ _ hP hS
  have B4 : ∀ (f : Nat) (x1 : Int32) (x2 : Int32) (S : St) (ls : Array Slot), lv_has ls 7 [(0, .ref (G.1 + 224)), (1, .int x1), (2, .int x2)] → q_it (fun _ _ _ => False) (w_X9_zeros_4 K) f x1 x2 S → q_W p l e (k2_rm 1 26) s m args below meth c 0 0 (MQ below (q_Qc G K v_i) args s 0 0 (fr_ G)) G 4 ls [] S := by
    intro f
    induction f with
    | zero => intro x1 x2 S ls hl h; exact False.elim h
    | succ f hk4 =>
      intro x1 x2 S ls hl h H locs hP hS
      have h : w_X9_zeros_4 K (q_it (fun _ _ _ => False) (w_X9_zeros_4 K) f) x1 x2 S := h
      generalize q_it (fun _ _ _ => False) (w_X9_zeros_4 K) f = k4 at h hk4
      refine lv_iload_n X.1 X.2.1 dX9_zeros_4 rfl (lv_at hl 2 rfl) ?_
      refine lv_aload_n X.1 X.2.1 dX9_zeros_5 rfl (lv_at hl 0 rfl) ?_
      refine gf_X9_n X hK hP tl_X9_75 dX9_zeros_6 ?_
      refine lv_icmp_ge (tgt := 36) X.1 X.2.1 dX9_zeros_9 (by decide) (fun c_1 => ?_) (fun c_1 => ?_)
      · have h := h.1 c_1
        refine lv_iload_n X.1 X.2.1 dX9_zeros_36 rfl (lv_at hl 1 rfl) ?_
        refine lv_sipush (v := 2500) X.1 X.2.1 dX9_zeros_37 (by decide) ?_
        refine lv_icmp_le (tgt := 46) X.1 X.2.1 dX9_zeros_40 (by decide) (fun c_2 => ?_) (fun c_2 => ?_)
        · have h := h.1 c_2
          refine lv_iconst (v := 0) X.1 X.2.1 dX9_zeros_46 (by decide) ?_
          refine lv_istore_n (lv' := [(2, .int 0), (0, .ref (G.1 + 224)), (1, .int x1)]) X.1 X.2.1 dX9_zeros_47 rfl hl (by decide) rfl (fun ls hl => ?_)
          refine lv_iconst (v := 0) X.1 X.2.1 dX9_zeros_48 (by decide) ?_
          refine lv_istore_n (lv' := [(3, .int 0), (2, .int 0), (0, .ref (G.1 + 224)), (1, .int x1)]) X.1 X.2.1 dX9_zeros_49 rfl hl (by decide) rfl (fun ls hl => ?_)
          obtain ⟨f_3, h⟩ := h
          exact B50 x1 f_3 0 0 S _ (lv_sub hl [2, 3, 1, 0] rfl) h _ _ hP hS
        · have h := h.2 c_2
          refine lv_bipush (v := (-3)) X.1 X.2.1 dX9_zeros_43 (by decide) ?_
          exact q_iret X hr hlocks hP hS rfl h dX9_zeros_45
      · have h := h.2 c_1
        refine lv_iload_n X.1 X.2.1 dX9_zeros_12 rfl (lv_at hl 1 rfl) ?_
        refine lv_sipush (v := 2500) X.1 X.2.1 dX9_zeros_13 (by decide) ?_
        refine lv_icmp_le (tgt := 23) X.1 X.2.1 dX9_zeros_16 (by decide) (fun c_4 => ?_) (fun c_4 => ?_)
        · have h := h.1 c_4
          refine lv_iload_n X.1 X.2.1 dX9_zeros_23 rfl (lv_at hl 1 rfl) ?_
          refine lv_aload_n X.1 X.2.1 dX9_zeros_24 rfl (lv_at hl 0 rfl) ?_
          refine gf_X9_p X hK hP tl_X9_72 dX9_zeros_25 ?_
          refine lv_imul X.1 X.2.1 dX9_zeros_28 ?_
          exact B29 x2 (x1 * (S 224 0)) k4 hk4 S _ (lv_sub hl [0, 2] rfl) h _ _ hP hS
        · have h := h.2 c_4
          refine lv_iload_n X.1 X.2.1 dX9_zeros_19 rfl (lv_at hl 1 rfl) ?_
          refine lv_goto (tgt := 29) X.1 X.2.1 dX9_zeros_20 (by decide) ?_
          exact B29 x2 x1 k4 hk4 S _ (lv_sub hl [0, 2] rfl) h _ _ hP hS
  refine lv_iconst (v := 1) X.1 X.2.1 dX9_zeros_0 (by decide) ?_
  refine lv_istore_n (lv' := [(1, .int 1), (0, .ref (G.1 + 224))]) X.1 X.2.1 dX9_zeros_1 rfl hl (by decide) rfl (fun ls hl => ?_)
  refine lv_iconst (v := 0) X.1 X.2.1 dX9_zeros_2 (by decide) ?_
  refine lv_istore_n (lv' := [(2, .int 0), (1, .int 1), (0, .ref (G.1 + 224))]) X.1 X.2.1 dX9_zeros_3 rfl hl (by decide) rfl (fun ls hl => ?_)
  obtain ⟨f_1, h⟩ := h
  exact B4 f_1 1 0 S _ (lv_sub hl [2, 1, 0] rfl) h _ _ hP hS

set_option maxHeartbeats 4000000 in
set_option maxRecDepth 100000 in
theorem c_X9_count (l : Launch) (G : Cx) (x1 : Int32) (S : St) (K : Int32 → St → Prop) (h : w_X9_count x1 S K) : q_Met l yX9_count cX9_count 4 (some .int) 0 0 G [.ref (G.1 + 224), .int x1] v_i S K := by
  refine q_enter (by decide +kernel) (Nat.le_of_ble_eq_true rfl) (fun p e s m args below meth c ls X hK hP hr hlocks hl => ?_)
  have hS : va_S (fr_ G) s.heap s.heap [] := va_S.rf
  have hl : lv_has ls 4 [(0, .ref (G.1 + 224)), (1, .int x1)] := hl
  have B148 : ∀ (x3 : Int32) (z0 : Int32) (z1 : Int32) (k126 : Int32 → Int32 → St → Prop) (hk126 : ∀ (x2 : Int32) (x3 : Int32) (S : St) (ls : Array Slot), lv_has ls 4 [(0, .ref (G.1 + 224)), (2, .int x2), (3, .int x3)] → k126 x2 x3 S → q_W p l e (k2_rm 0 0) s m args below meth c 0 0 (MQ below (q_Qc G K v_i) args s 0 0 (fr_ G)) G 126 ls [] S) (S : St) (ls : Array Slot), lv_has ls 4 [(0, .ref (G.1 + 224)), (3, .int x3)] → w_X9_count_148 x1 K k126 x3 z0 z1 S → q_W p l e (k2_rm 0 0) s m args below meth c 0 0 (MQ below (q_Qc G K v_i) args s 0 0 (fr_ G)) G 148 ls [.int z1, .int z0] S := by
    intro x3 z0 z1 k126 hk126 S ls hl h H locs hP hS
    refine lv_iadd X.1 X.2.1 dX9_count_148 ?_
    refine lv_topi (fun x2_1 e2_1 => ?_)
    have h := h x2_1 e2_1
    refine lv_istore_n (lv' := [(2, .int x2_1), (0, .ref (G.1 + 224)), (3, .int x3)]) X.1 X.2.1 dX9_count_149 rfl hl (by decide) rfl (fun ls hl => ?_)
    obtain ⟨x3_2, e3_2⟩ : ∃ y : Int32, y = x3 + 1 := ⟨_, rfl⟩
    have h := h x3_2 e3_2
    refine lv_iinc (v := x3_2) (lv' := [(3, .int x3_2), (2, .int x2_1), (0, .ref (G.1 + 224))]) X.1 X.2.1 dX9_count_150 hl (k := 2) rfl (by rw [e3_2]; first | rfl | decide) (by decide) rfl (fun ls hl => ?_)
    refine lv_goto (tgt := 126) X.1 X.2.1 dX9_count_153 (by decide) ?_
    exact hk126 x2_1 x3_2 S _ (lv_sub hl [2, 1, 0] rfl) h _ _ hP hS
  have B126 : ∀ (f : Nat) (x2 : Int32) (x3 : Int32) (S : St) (ls : Array Slot), lv_has ls 4 [(0, .ref (G.1 + 224)), (2, .int x2), (3, .int x3)] → q_it (fun _ _ _ => False) (w_X9_count_126 x1 K) f x2 x3 S → q_W p l e (k2_rm 0 0) s m args below meth c 0 0 (MQ below (q_Qc G K v_i) args s 0 0 (fr_ G)) G 126 ls [] S := by
    intro f
    induction f with
    | zero => intro x2 x3 S ls hl h; exact False.elim h
    | succ f hk126 =>
      intro x2 x3 S ls hl h H locs hP hS
      have h : w_X9_count_126 x1 K (q_it (fun _ _ _ => False) (w_X9_count_126 x1 K) f) x2 x3 S := h
      generalize q_it (fun _ _ _ => False) (w_X9_count_126 x1 K) f = k126 at h hk126
      refine lv_iload_n X.1 X.2.1 dX9_count_126 rfl (lv_at hl 2 rfl) ?_
      refine lv_bipush (v := 25) X.1 X.2.1 dX9_count_127 (by decide) ?_
      refine lv_icmp_ge (tgt := 156) X.1 X.2.1 dX9_count_129 (by decide) (fun c_1 => ?_) (fun c_1 => ?_)
      · have h := h.1 c_1
        refine lv_iload_n X.1 X.2.1 dX9_count_156 rfl (lv_at hl 1 rfl) ?_
        exact q_iret X hr hlocks hP hS rfl h dX9_count_157
      · have h := h.2 c_1
        refine lv_iload_n X.1 X.2.1 dX9_count_132 rfl (lv_at hl 1 rfl) ?_
        refine lv_aload_n X.1 X.2.1 dX9_count_133 rfl (lv_at hl 0 rfl) ?_
        refine gf_X9_many X hK hP tl_X9_13 dX9_count_134 ?_
        refine lv_iload_n X.1 X.2.1 dX9_count_137 rfl (lv_at hl 2 rfl) ?_
        obtain ⟨o_2, h⟩ := h
        refine q_iald X hK hP kz_225 o_2 dX9_count_138 ?_
        refine lv_iconst (v := (-1)) X.1 X.2.1 dX9_count_139 (by decide) ?_
        refine lv_icmp_ne (tgt := 147) X.1 X.2.1 dX9_count_140 (by decide) (fun c_3 => ?_) (fun c_3 => ?_)
        · have h := h.1 c_3
          refine lv_iconst (v := 1) X.1 X.2.1 dX9_count_147 (by decide) ?_
          exact B148 x3 x2 1 k126 hk126 S _ (lv_sub hl [0, 2] rfl) h _ _ hP hS
        · have h := h.2 c_3
          refine lv_iconst (v := 0) X.1 X.2.1 dX9_count_143 (by decide) ?_
          refine lv_goto (tgt := 148) X.1 X.2.1 dX9_count_144 (by decide) ?_
          exact B148 x3 x2 0 k126 hk126 S _ (lv_sub hl [0, 2] rfl) h _ _ hP hS
  refine lv_iload_n X.1 X.2.1 dX9_count_0 rfl (lv_at hl 1 rfl) ?_
  by_cases c_1 : x1.toInt < 0 ∨ 11 < x1.toInt
  · have h := h.1 c_1
    refine lv_tableOut (tgt := 163) X.1 X.2.1 dX9_count_1 c_1 (by decide) ?_
    refine lv_bipush (v := (-2)) X.1 X.2.1 dX9_count_163 (by decide) ?_
    exact q_iret X hr hlocks hP hS rfl h dX9_count_165
  · have h := h.2
    rcases q_sw11 c_1 with c_1 | c_1 | c_1 | c_1 | c_1 | c_1 | c_1 | c_1 | c_1 | c_1 | c_1 | c_1
    · have h := h.1 c_1
      refine lv_tableIn (off := 63) (tgt := 64) X.1 X.2.1 dX9_count_1 (by rw [c_1]; decide) (by rw [c_1]; decide) (by rw [c_1]; rfl) (by decide) ?_
      refine lv_aload_n X.1 X.2.1 dX9_count_64 rfl (lv_at hl 0 rfl) ?_
      refine gf_X9_p X hK hP tl_X9_72 dX9_count_65 ?_
      exact q_iret X hr hlocks hP hS rfl h dX9_count_68
    · have h := h.2.1 c_1
      refine lv_tableIn (off := 68) (tgt := 69) X.1 X.2.1 dX9_count_1 (by rw [c_1]; decide) (by rw [c_1]; decide) (by rw [c_1]; rfl) (by decide) ?_
      refine lv_aload_n X.1 X.2.1 dX9_count_69 rfl (lv_at hl 0 rfl) ?_
      refine gf_X9_n X hK hP tl_X9_75 dX9_count_70 ?_
      exact q_iret X hr hlocks hP hS rfl h dX9_count_73
    · have h := h.2.2.1 c_1
      refine lv_tableIn (off := 73) (tgt := 74) X.1 X.2.1 dX9_count_1 (by rw [c_1]; decide) (by rw [c_1]; decide) (by rw [c_1]; rfl) (by decide) ?_
      refine lv_aload_n X.1 X.2.1 dX9_count_74 rfl (lv_at hl 0 rfl) ?_
      refine gf_X9_basis X hK hP tl_X9_107 dX9_count_75 ?_
      exact q_iret X hr hlocks hP hS rfl h dX9_count_78
    · have h := h.2.2.2.1 c_1
      refine lv_tableIn (off := 78) (tgt := 79) X.1 X.2.1 dX9_count_1 (by rw [c_1]; decide) (by rw [c_1]; decide) (by rw [c_1]; rfl) (by decide) ?_
      refine lv_aload_n X.1 X.2.1 dX9_count_79 rfl (lv_at hl 0 rfl) ?_
      refine gf_X9_pairs X hK hP tl_X9_181 dX9_count_80 ?_
      exact q_iret X hr hlocks hP hS rfl h dX9_count_83
    · have h := h.2.2.2.2.1 c_1
      refine lv_tableIn (off := 83) (tgt := 84) X.1 X.2.1 dX9_count_1 (by rw [c_1]; decide) (by rw [c_1]; decide) (by rw [c_1]; rfl) (by decide) ?_
      refine lv_aload_n X.1 X.2.1 dX9_count_84 rfl (lv_at hl 0 rfl) ?_
      refine gf_X9_passedCoprime X hK hP tl_X9_197 dX9_count_85 ?_
      exact q_iret X hr hlocks hP hS rfl h dX9_count_88
    · have h := h.2.2.2.2.2.1 c_1
      refine lv_tableIn (off := 88) (tgt := 89) X.1 X.2.1 dX9_count_1 (by rw [c_1]; decide) (by rw [c_1]; decide) (by rw [c_1]; rfl) (by decide) ?_
      refine lv_aload_n X.1 X.2.1 dX9_count_89 rfl (lv_at hl 0 rfl) ?_
      refine gf_X9_passedChain X hK hP tl_X9_206 dX9_count_90 ?_
      exact q_iret X hr hlocks hP hS rfl h dX9_count_93
    · have h := h.2.2.2.2.2.2.1 c_1
      refine lv_tableIn (off := 93) (tgt := 94) X.1 X.2.1 dX9_count_1 (by rw [c_1]; decide) (by rw [c_1]; decide) (by rw [c_1]; rfl) (by decide) ?_
      refine lv_aload_n X.1 X.2.1 dX9_count_94 rfl (lv_at hl 0 rfl) ?_
      refine gf_X9_leftSome X hK hP tl_X9_215 dX9_count_95 ?_
      exact q_iret X hr hlocks hP hS rfl h dX9_count_98
    · have h := h.2.2.2.2.2.2.2.1 c_1
      refine lv_tableIn (off := 98) (tgt := 99) X.1 X.2.1 dX9_count_1 (by rw [c_1]; decide) (by rw [c_1]; decide) (by rw [c_1]; rfl) (by decide) ?_
      refine lv_aload_n X.1 X.2.1 dX9_count_99 rfl (lv_at hl 0 rfl) ?_
      refine gf_X9_leftNothing X hK hP tl_X9_218 dX9_count_100 ?_
      exact q_iret X hr hlocks hP hS rfl h dX9_count_103
    · have h := h.2.2.2.2.2.2.2.2.1 c_1
      refine lv_tableIn (off := 103) (tgt := 104) X.1 X.2.1 dX9_count_1 (by rw [c_1]; decide) (by rw [c_1]; decide) (by rw [c_1]; rfl) (by decide) ?_
      refine lv_aload_n X.1 X.2.1 dX9_count_104 rfl (lv_at hl 0 rfl) ?_
      refine gf_X9_reductions X hK hP tl_X9_161 dX9_count_105 ?_
      exact q_iret X hr hlocks hP hS rfl h dX9_count_108
    · have h := h.2.2.2.2.2.2.2.2.2.1 c_1
      refine lv_tableIn (off := 108) (tgt := 109) X.1 X.2.1 dX9_count_1 (by rw [c_1]; decide) (by rw [c_1]; decide) (by rw [c_1]; rfl) (by decide) ?_
      refine lv_aload_n X.1 X.2.1 dX9_count_109 rfl (lv_at hl 0 rfl) ?_
      refine gf_X9_isTidy X hK hP tl_X9_187 dX9_count_110 ?_
      refine lv_if_eq (tgt := 120) X.1 X.2.1 dX9_count_113 (by decide) (fun c_2 => ?_) (fun c_2 => ?_)
      · have h := h.1 c_2
        refine lv_iconst (v := 0) X.1 X.2.1 dX9_count_120 (by decide) ?_
        exact q_iret X hr hlocks hP hS rfl h dX9_count_121
      · have h := h.2 c_2
        refine lv_iconst (v := 1) X.1 X.2.1 dX9_count_116 (by decide) ?_
        refine lv_goto (tgt := 121) X.1 X.2.1 dX9_count_117 (by decide) ?_
        exact q_iret X hr hlocks hP hS rfl h dX9_count_121
    · have h := h.2.2.2.2.2.2.2.2.2.2.1 c_1
      refine lv_tableIn (off := 121) (tgt := 122) X.1 X.2.1 dX9_count_1 (by rw [c_1]; decide) (by rw [c_1]; decide) (by rw [c_1]; rfl) (by decide) ?_
      refine lv_iconst (v := 0) X.1 X.2.1 dX9_count_122 (by decide) ?_
      refine lv_istore_n (lv' := [(2, .int 0), (0, .ref (G.1 + 224)), (1, .int x1)]) X.1 X.2.1 dX9_count_123 rfl hl (by decide) rfl (fun ls hl => ?_)
      refine lv_iconst (v := 1) X.1 X.2.1 dX9_count_124 (by decide) ?_
      refine lv_istore_n (lv' := [(3, .int 1), (2, .int 0), (0, .ref (G.1 + 224)), (1, .int x1)]) X.1 X.2.1 dX9_count_125 rfl hl (by decide) rfl (fun ls hl => ?_)
      obtain ⟨f_3, h⟩ := h
      exact B126 f_3 0 1 S _ (lv_sub hl [2, 1, 0] rfl) h _ _ hP hS
    · have h := h.2.2.2.2.2.2.2.2.2.2.2 c_1
      refine lv_tableIn (off := 157) (tgt := 158) X.1 X.2.1 dX9_count_1 (by rw [c_1]; decide) (by rw [c_1]; decide) (by rw [c_1]; rfl) (by decide) ?_
      refine lv_aload_n X.1 X.2.1 dX9_count_158 rfl (lv_at hl 0 rfl) ?_
      refine gf_X9_latest X hK hP tl_X9_221 dX9_count_159 ?_
      exact q_iret X hr hlocks hP hS rfl h dX9_count_162

set_option maxHeartbeats 4000000 in
set_option maxRecDepth 100000 in
theorem c_X9_digested (l : Launch) (G : Cx) (y1 : Int64) (x3 : Int32) (S : St) (K : Int64 → St → Prop) (h : w_X9_digested y1 x3 S K) : q_Met l yX9_digested cX9_digested 8 (some .long) 0 0 G [.ref (G.1 + 224), .long y1, .int x3] v_l S K := by
  refine q_enter (by decide +kernel) (Nat.le_of_ble_eq_true rfl) (fun p e s m args below meth c ls X hK hP hr hlocks hl => ?_)
  have hS : va_S (fr_ G) s.heap s.heap [] := va_S.rf
  have hl : lv_has ls 8 [(0, .ref (G.1 + 224)), (1, .long y1), (3, .int x3)] := hl
  have B54 : ∀ (x6 : Int32) (k18 : Int64 → Int32 → St → Prop) (hk18 : ∀ (y4 : Int64) (x6 : Int32) (S : St) (ls : Array Slot), lv_has ls 8 [(0, .ref (G.1 + 224)), (3, .int x3), (4, .long y4), (6, .int x6)] → k18 y4 x6 S → q_W p l e (k2_rm 0 0) s m args below meth c 0 0 (MQ below (q_Qc G K v_l) args s 0 0 (fr_ G)) G 18 ls [] S) (f : Nat) (y4 : Int64) (x7 : Int32) (S : St) (ls : Array Slot), lv_has ls 8 [(0, .ref (G.1 + 224)), (3, .int x3), (4, .long y4), (6, .int x6), (7, .int x7)] → q_it (fun _ _ _ => False) (w_X9_digested_54 y1 x3 K k18 x6) f y4 x7 S → q_W p l e (k2_rm 0 0) s m args below meth c 0 0 (MQ below (q_Qc G K v_l) args s 0 0 (fr_ G)) G 54 ls [] S := by
    intro x6 k18 hk18 f
    induction f with
    | zero => intro y4 x7 S ls hl h; exact False.elim h
    | succ f hk54 =>
      intro y4 x7 S ls hl h H locs hP hS
      have h : w_X9_digested_54 y1 x3 K k18 x6 (q_it (fun _ _ _ => False) (w_X9_digested_54 y1 x3 K k18 x6) f) y4 x7 S := h
      generalize q_it (fun _ _ _ => False) (w_X9_digested_54 y1 x3 K k18 x6) f = k54 at h hk54
      refine lv_iload X.1 X.2.1 dX9_digested_54 (lv_at hl 4 rfl) ?_
      refine lv_aload_n X.1 X.2.1 dX9_digested_56 rfl (lv_at hl 0 rfl) ?_
      refine gf_X9_n X hK hP tl_X9_75 dX9_digested_57 ?_
      refine lv_icmp_ge (tgt := 97) X.1 X.2.1 dX9_digested_60 (by decide) (fun c_1 => ?_) (fun c_1 => ?_)
      · have h := h.1 c_1
        obtain ⟨x6_2, e6_2⟩ : ∃ y : Int32, y = x6 + 1 := ⟨_, rfl⟩
        have h := h x6_2 e6_2
        refine lv_iinc (v := x6_2) (lv' := [(6, .int x6_2), (0, .ref (G.1 + 224)), (3, .int x3), (4, .long y4), (7, .int x7)]) X.1 X.2.1 dX9_digested_97 hl (k := 3) rfl (by rw [e6_2]; first | rfl | decide) (by decide) rfl (fun ls hl => ?_)
        refine lv_goto (tgt := 18) X.1 X.2.1 dX9_digested_100 (by decide) ?_
        exact hk18 y4 x6_2 S _ (lv_sub hl [1, 2, 3, 0] rfl) h _ _ hP hS
      · have h := h.2 c_1
        refine lv_ldc2 X.1 X.2.1 X.2.2.2.1 (X.2.2.2.2 _ tl_X9_261) dX9_digested_63 ?_
        refine lv_lload X.1 X.2.1 dX9_digested_66 (lv_at hl 2 rfl) ?_
        refine lv_lmul X.1 X.2.1 dX9_digested_68 ?_
        refine lv_aload_n X.1 X.2.1 dX9_digested_69 rfl (lv_at hl 0 rfl) ?_
        refine gf_X9_exponents X hK hP tl_X9_20 dX9_digested_70 ?_
        refine lv_sipush (v := 160) X.1 X.2.1 dX9_digested_73 (by decide) ?_
        refine lv_iload_n X.1 X.2.1 dX9_digested_76 rfl (lv_at hl 1 rfl) ?_
        refine lv_imul X.1 X.2.1 dX9_digested_77 ?_
        refine lv_iconst (v := 4) X.1 X.2.1 dX9_digested_78 (by decide) ?_
        refine lv_iload X.1 X.2.1 dX9_digested_79 (lv_at hl 3 rfl) ?_
        refine lv_imul X.1 X.2.1 dX9_digested_81 ?_
        refine lv_iadd X.1 X.2.1 dX9_digested_82 ?_
        refine lv_iload X.1 X.2.1 dX9_digested_83 (lv_at hl 4 rfl) ?_
        refine lv_iadd X.1 X.2.1 dX9_digested_85 ?_
        obtain ⟨o_3, h⟩ := h
        refine q_iald X hK hP kz_227 o_3 dX9_digested_86 ?_
        refine lv_i2l X.1 X.2.1 dX9_digested_87 rfl ?_
        refine lv_ladd X.1 X.2.1 dX9_digested_88 ?_
        refine lv_topl (fun y4_4 e4_4 => ?_)
        have h := h y4_4 e4_4
        refine lv_lstore (lv' := [(4, .long y4_4), (0, .ref (G.1 + 224)), (3, .int x3), (6, .int x6), (7, .int x7)]) X.1 X.2.1 dX9_digested_89 hl (by decide) rfl (fun ls hl => ?_)
        obtain ⟨x7_5, e7_5⟩ : ∃ y : Int32, y = x7 + 1 := ⟨_, rfl⟩
        have h := h x7_5 e7_5
        refine lv_iinc (v := x7_5) (lv' := [(7, .int x7_5), (4, .long y4_4), (0, .ref (G.1 + 224)), (3, .int x3), (6, .int x6)]) X.1 X.2.1 dX9_digested_91 hl (k := 4) rfl (by rw [e7_5]; first | rfl | decide) (by decide) rfl (fun ls hl => ?_)
        refine lv_goto (tgt := 54) X.1 X.2.1 dX9_digested_94 (by decide) ?_
        exact hk54 y4_4 x7_5 S _ (lv_sub hl [2, 3, 1, 4, 0] rfl) h _ _ hP hS
  have B18 : ∀ (f : Nat) (y4 : Int64) (x6 : Int32) (S : St) (ls : Array Slot), lv_has ls 8 [(0, .ref (G.1 + 224)), (3, .int x3), (4, .long y4), (6, .int x6)] → q_it (fun _ _ _ => False) (w_X9_digested_18 y1 x3 K) f y4 x6 S → q_W p l e (k2_rm 0 0) s m args below meth c 0 0 (MQ below (q_Qc G K v_l) args s 0 0 (fr_ G)) G 18 ls [] S := by
    intro f
    induction f with
    | zero => intro y4 x6 S ls hl h; exact False.elim h
    | succ f hk18 =>
      intro y4 x6 S ls hl h H locs hP hS
      have h : w_X9_digested_18 y1 x3 K (q_it (fun _ _ _ => False) (w_X9_digested_18 y1 x3 K) f) y4 x6 S := h
      generalize q_it (fun _ _ _ => False) (w_X9_digested_18 y1 x3 K) f = k18 at h hk18
      refine lv_iload X.1 X.2.1 dX9_digested_18 (lv_at hl 3 rfl) ?_
      refine lv_aload_n X.1 X.2.1 dX9_digested_20 rfl (lv_at hl 0 rfl) ?_
      refine gf_X9_many X hK hP tl_X9_13 dX9_digested_21 ?_
      refine lv_iload_n X.1 X.2.1 dX9_digested_24 rfl (lv_at hl 1 rfl) ?_
      obtain ⟨o_1, h⟩ := h
      refine q_iald X hK hP kz_225 o_1 dX9_digested_25 ?_
      refine lv_icmp_ge (tgt := 103) X.1 X.2.1 dX9_digested_26 (by decide) (fun c_2 => ?_) (fun c_2 => ?_)
      · have h := h.1 c_2
        refine lv_lload X.1 X.2.1 dX9_digested_103 (lv_at hl 2 rfl) ?_
        exact q_lret X hr hlocks hP hS h dX9_digested_105
      · have h := h.2 c_2
        refine lv_ldc2 X.1 X.2.1 X.2.2.2.1 (X.2.2.2.2 _ tl_X9_261) dX9_digested_29 ?_
        refine lv_lload X.1 X.2.1 dX9_digested_32 (lv_at hl 2 rfl) ?_
        refine lv_lmul X.1 X.2.1 dX9_digested_34 ?_
        refine lv_aload_n X.1 X.2.1 dX9_digested_35 rfl (lv_at hl 0 rfl) ?_
        refine gf_X9_numbers X hK hP tl_X9_17 dX9_digested_36 ?_
        refine lv_bipush (v := 40) X.1 X.2.1 dX9_digested_39 (by decide) ?_
        refine lv_iload_n X.1 X.2.1 dX9_digested_41 rfl (lv_at hl 1 rfl) ?_
        refine lv_imul X.1 X.2.1 dX9_digested_42 ?_
        refine lv_iload X.1 X.2.1 dX9_digested_43 (lv_at hl 3 rfl) ?_
        refine lv_iadd X.1 X.2.1 dX9_digested_45 ?_
        obtain ⟨o_3, h⟩ := h
        refine q_iald X hK hP kz_226 o_3 dX9_digested_46 ?_
        refine lv_i2l X.1 X.2.1 dX9_digested_47 rfl ?_
        refine lv_ladd X.1 X.2.1 dX9_digested_48 ?_
        refine lv_topl (fun y4_4 e4_4 => ?_)
        have h := h y4_4 e4_4
        refine lv_lstore (lv' := [(4, .long y4_4), (0, .ref (G.1 + 224)), (3, .int x3), (6, .int x6)]) X.1 X.2.1 dX9_digested_49 hl (by decide) rfl (fun ls hl => ?_)
        refine lv_iconst (v := 0) X.1 X.2.1 dX9_digested_51 (by decide) ?_
        refine lv_istore (lv' := [(7, .int 0), (4, .long y4_4), (0, .ref (G.1 + 224)), (3, .int x3), (6, .int x6)]) X.1 X.2.1 dX9_digested_52 hl (by decide) rfl (fun ls hl => ?_)
        obtain ⟨f_5, h⟩ := h
        exact B54 x6 k18 hk18 f_5 y4_4 0 S _ (lv_sub hl [2, 3, 1, 4, 0] rfl) h _ _ hP hS
  refine lv_ldc2 X.1 X.2.1 X.2.2.2.1 (X.2.2.2.2 _ tl_X9_261) dX9_digested_0 ?_
  refine lv_lload_n X.1 X.2.1 dX9_digested_3 rfl (lv_at hl 1 rfl) ?_
  refine lv_lmul X.1 X.2.1 dX9_digested_4 ?_
  refine lv_aload_n X.1 X.2.1 dX9_digested_5 rfl (lv_at hl 0 rfl) ?_
  refine gf_X9_many X hK hP tl_X9_13 dX9_digested_6 ?_
  refine lv_iload_n X.1 X.2.1 dX9_digested_9 rfl (lv_at hl 2 rfl) ?_
  obtain ⟨o_1, h⟩ := h
  refine q_iald X hK hP kz_225 o_1 dX9_digested_10 ?_
  refine lv_i2l X.1 X.2.1 dX9_digested_11 rfl ?_
  refine lv_ladd X.1 X.2.1 dX9_digested_12 ?_
  refine lv_topl (fun y4_2 e4_2 => ?_)
  have h := h y4_2 e4_2
  refine lv_lstore (lv' := [(4, .long y4_2), (0, .ref (G.1 + 224)), (1, .long y1), (3, .int x3)]) X.1 X.2.1 dX9_digested_13 hl (by decide) rfl (fun ls hl => ?_)
  refine lv_iconst (v := 0) X.1 X.2.1 dX9_digested_15 (by decide) ?_
  refine lv_istore (lv' := [(6, .int 0), (4, .long y4_2), (0, .ref (G.1 + 224)), (1, .long y1), (3, .int x3)]) X.1 X.2.1 dX9_digested_16 hl (by decide) rfl (fun ls hl => ?_)
  obtain ⟨f_3, h⟩ := h
  exact B18 f_3 y4_2 0 S _ (lv_sub hl [2, 4, 1, 0] rfl) h _ _ hP hS

set_option maxHeartbeats 4000000 in
set_option maxRecDepth 100000 in
theorem c_X9_digest (l : Launch) (G : Cx) (S : St) (K : Int64 → St → Prop) (h : w_X9_digest S K) : q_Met l yX9_digest cX9_digest 4 (some .long) 1 27 G [.ref (G.1 + 224)] v_l S K := by
  refine q_enter (by decide +kernel) (Nat.le_of_ble_eq_true rfl) (fun p e s m args below meth c ls X hK hP hr hlocks hl => ?_)
  have hS : va_S (fr_ G) s.heap s.heap [] := va_S.rf
  have hl : lv_has ls 4 [(0, .ref (G.1 + 224))] := hl
  have B51 : ∀ (f : Nat) (y1 : Int64) (x3 : Int32) (S : St) (ls : Array Slot), lv_has ls 4 [(0, .ref (G.1 + 224)), (1, .long y1), (3, .int x3)] → q_it (fun _ _ _ => False) (w_X9_digest_51 K) f y1 x3 S → q_W p l e (k2_rm 1 27) s m args below meth c 0 0 (MQ below (q_Qc G K v_l) args s 0 0 (fr_ G)) G 51 ls [] S := by
    intro f
    induction f with
    | zero => intro y1 x3 S ls hl h; exact False.elim h
    | succ f hk51 =>
      intro y1 x3 S ls hl h H locs hP hS
      have h : w_X9_digest_51 K (q_it (fun _ _ _ => False) (w_X9_digest_51 K) f) y1 x3 S := h
      generalize q_it (fun _ _ _ => False) (w_X9_digest_51 K) f = k51 at h hk51
      refine lv_iload_n X.1 X.2.1 dX9_digest_51 rfl (lv_at hl 2 rfl) ?_
      refine lv_aload_n X.1 X.2.1 dX9_digest_52 rfl (lv_at hl 0 rfl) ?_
      refine gf_X9_basis X hK hP tl_X9_107 dX9_digest_53 ?_
      refine lv_icmp_ge (tgt := 75) X.1 X.2.1 dX9_digest_56 (by decide) (fun c_1 => ?_) (fun c_1 => ?_)
      · have h := h.1 c_1
        refine lv_lload_n X.1 X.2.1 dX9_digest_75 rfl (lv_at hl 1 rfl) ?_
        exact q_lret X hr hlocks hP hS h dX9_digest_76
      · have h := h.2 c_1
        refine lv_aload_n X.1 X.2.1 dX9_digest_59 rfl (lv_at hl 0 rfl) ?_
        refine lv_lload_n X.1 X.2.1 dX9_digest_60 rfl (lv_at hl 1 rfl) ?_
        refine lv_bipush (v := 25) X.1 X.2.1 dX9_digest_61 (by decide) ?_
        refine lv_iload_n X.1 X.2.1 dX9_digest_63 rfl (lv_at hl 2 rfl) ?_
        refine lv_iadd X.1 X.2.1 dX9_digest_64 ?_
        refine q_callV (rest := []) (b := 224) X hK hP hS (c_X9_digested l G y1 (25 + x3) S _ h) my_X9_digested tl_X9_265 dX9_digest_65 kz_224 rfl rfl rfl ⟨Nat.le_of_ble_eq_true rfl, Nat.le_of_ble_eq_true rfl⟩ hl.1 rfl (Nat.le_of_ble_eq_true rfl) ⟨Nat.le_of_ble_eq_true rfl, Nat.le_of_ble_eq_true rfl⟩ (fun r_3 S_2 H locs h hP hS => ?_)
        refine W.eq (g2 := F0 m 68 ls [.long r_3]) rfl ?_
        refine lv_lstore_n (lv' := [(1, .long r_3), (0, .ref (G.1 + 224)), (3, .int x3)]) X.1 X.2.1 dX9_digest_68 rfl hl (by decide) rfl (fun ls hl => ?_)
        obtain ⟨x3_4, e3_4⟩ : ∃ y : Int32, y = x3 + 1 := ⟨_, rfl⟩
        have h := h x3_4 e3_4
        refine lv_iinc (v := x3_4) (lv' := [(3, .int x3_4), (1, .long r_3), (0, .ref (G.1 + 224))]) X.1 X.2.1 dX9_digest_69 hl (k := 2) rfl (by rw [e3_4]; first | rfl | decide) (by decide) rfl (fun ls hl => ?_)
        refine lv_goto (tgt := 51) X.1 X.2.1 dX9_digest_72 (by decide) ?_
        exact hk51 r_3 x3_4 S_2 _ (lv_sub hl [2, 1, 0] rfl) h _ _ hP hS
  have B43 : ∀ (y1 : Int64) (x3 : Int32) (k11 : Int64 → Int32 → St → Prop) (hk11 : ∀ (y1 : Int64) (x3 : Int32) (S : St) (ls : Array Slot), lv_has ls 4 [(0, .ref (G.1 + 224)), (1, .long y1), (3, .int x3)] → k11 y1 x3 S → q_W p l e (k2_rm 1 27) s m args below meth c 0 0 (MQ below (q_Qc G K v_l) args s 0 0 (fr_ G)) G 11 ls [] S) (S : St) (ls : Array Slot), lv_has ls 4 [(0, .ref (G.1 + 224)), (1, .long y1), (3, .int x3)] → w_X9_digest_43 K k11 y1 x3 S → q_W p l e (k2_rm 1 27) s m args below meth c 0 0 (MQ below (q_Qc G K v_l) args s 0 0 (fr_ G)) G 43 ls [] S := by
    intro y1 x3 k11 hk11 S ls hl h H locs hP hS
    obtain ⟨x3_1, e3_1⟩ : ∃ y : Int32, y = x3 + 1 := ⟨_, rfl⟩
    have h := h x3_1 e3_1
    refine lv_iinc (v := x3_1) (lv' := [(3, .int x3_1), (0, .ref (G.1 + 224)), (1, .long y1)]) X.1 X.2.1 dX9_digest_43 hl (k := 2) rfl (by rw [e3_1]; first | rfl | decide) (by decide) rfl (fun ls hl => ?_)
    refine lv_goto (tgt := 11) X.1 X.2.1 dX9_digest_46 (by decide) ?_
    exact hk11 y1 x3_1 S _ (lv_sub hl [1, 2, 0] rfl) h _ _ hP hS
  have B11 : ∀ (f : Nat) (y1 : Int64) (x3 : Int32) (S : St) (ls : Array Slot), lv_has ls 4 [(0, .ref (G.1 + 224)), (1, .long y1), (3, .int x3)] → q_it (fun _ _ _ => False) (w_X9_digest_11 K) f y1 x3 S → q_W p l e (k2_rm 1 27) s m args below meth c 0 0 (MQ below (q_Qc G K v_l) args s 0 0 (fr_ G)) G 11 ls [] S := by
    intro f
    induction f with
    | zero => intro y1 x3 S ls hl h; exact False.elim h
    | succ f hk11 =>
      intro y1 x3 S ls hl h H locs hP hS
      have h : w_X9_digest_11 K (q_it (fun _ _ _ => False) (w_X9_digest_11 K) f) y1 x3 S := h
      generalize q_it (fun _ _ _ => False) (w_X9_digest_11 K) f = k11 at h hk11
      refine lv_iload_n X.1 X.2.1 dX9_digest_11 rfl (lv_at hl 2 rfl) ?_
      refine lv_bipush (v := 25) X.1 X.2.1 dX9_digest_12 (by decide) ?_
      refine lv_icmp_ge (tgt := 49) X.1 X.2.1 dX9_digest_14 (by decide) (fun c_1 => ?_) (fun c_1 => ?_)
      · have h := h.1 c_1
        refine lv_iconst (v := 0) X.1 X.2.1 dX9_digest_49 (by decide) ?_
        refine lv_istore_n (lv' := [(3, .int 0), (0, .ref (G.1 + 224)), (1, .long y1)]) X.1 X.2.1 dX9_digest_50 rfl hl (by decide) rfl (fun ls hl => ?_)
        obtain ⟨f_2, h⟩ := h
        exact B51 f_2 y1 0 S _ (lv_sub hl [1, 2, 0] rfl) h _ _ hP hS
      · have h := h.2 c_1
        refine lv_aload_n X.1 X.2.1 dX9_digest_17 rfl (lv_at hl 0 rfl) ?_
        refine gf_X9_many X hK hP tl_X9_13 dX9_digest_18 ?_
        refine lv_iload_n X.1 X.2.1 dX9_digest_21 rfl (lv_at hl 2 rfl) ?_
        obtain ⟨o_3, h⟩ := h
        refine q_iald X hK hP kz_225 o_3 dX9_digest_22 ?_
        refine lv_iconst (v := (-1)) X.1 X.2.1 dX9_digest_23 (by decide) ?_
        refine lv_icmp_eq (tgt := 43) X.1 X.2.1 dX9_digest_24 (by decide) (fun c_4 => ?_) (fun c_4 => ?_)
        · have h := h.1 c_4
          exact B43 y1 x3 k11 hk11 S _ (lv_sub hl [0, 1, 2] rfl) h _ _ hP hS
        · have h := h.2 c_4
          refine lv_aload_n X.1 X.2.1 dX9_digest_27 rfl (lv_at hl 0 rfl) ?_
          refine lv_ldc2 X.1 X.2.1 X.2.2.2.1 (X.2.2.2.2 _ tl_X9_261) dX9_digest_28 ?_
          refine lv_lload_n X.1 X.2.1 dX9_digest_31 rfl (lv_at hl 1 rfl) ?_
          refine lv_lmul X.1 X.2.1 dX9_digest_32 ?_
          refine lv_iload_n X.1 X.2.1 dX9_digest_33 rfl (lv_at hl 2 rfl) ?_
          refine lv_iconst (v := 1) X.1 X.2.1 dX9_digest_34 (by decide) ?_
          refine lv_isub X.1 X.2.1 dX9_digest_35 ?_
          refine lv_i2l X.1 X.2.1 dX9_digest_36 rfl ?_
          refine lv_ladd X.1 X.2.1 dX9_digest_37 ?_
          refine lv_iload_n X.1 X.2.1 dX9_digest_38 rfl (lv_at hl 2 rfl) ?_
          refine q_callV (rest := []) (b := 224) X hK hP hS (c_X9_digested l G ((31 * y1) + ((x3 - 1).toInt64)) x3 S _ h) my_X9_digested tl_X9_265 dX9_digest_39 kz_224 rfl rfl rfl ⟨Nat.le_of_ble_eq_true rfl, Nat.le_of_ble_eq_true rfl⟩ hl.1 rfl (Nat.le_of_ble_eq_true rfl) ⟨Nat.le_of_ble_eq_true rfl, Nat.le_of_ble_eq_true rfl⟩ (fun r_6 S_5 H locs h hP hS => ?_)
          refine W.eq (g2 := F0 m 42 ls [.long r_6]) rfl ?_
          refine lv_lstore_n (lv' := [(1, .long r_6), (0, .ref (G.1 + 224)), (3, .int x3)]) X.1 X.2.1 dX9_digest_42 rfl hl (by decide) rfl (fun ls hl => ?_)
          exact B43 r_6 x3 k11 hk11 S_5 _ (lv_sub hl [1, 0, 2] rfl) h _ _ hP hS
  refine lv_aload_n X.1 X.2.1 dX9_digest_0 rfl (lv_at hl 0 rfl) ?_
  refine lv_ldc2 X.1 X.2.1 X.2.2.2.1 (X.2.2.2.2 _ tl_X9_263) dX9_digest_1 ?_
  refine lv_iconst (v := 0) X.1 X.2.1 dX9_digest_4 (by decide) ?_
  refine q_callV (rest := []) (b := 224) X hK hP hS (c_X9_digested l G 17 0 S _ h) my_X9_digested tl_X9_265 dX9_digest_5 kz_224 rfl rfl rfl ⟨Nat.le_of_ble_eq_true rfl, Nat.le_of_ble_eq_true rfl⟩ hl.1 rfl (Nat.le_of_ble_eq_true rfl) ⟨Nat.le_of_ble_eq_true rfl, Nat.le_of_ble_eq_true rfl⟩ (fun r_2 S_1 H locs h hP hS => ?_)
  refine W.eq (g2 := F0 m 8 ls [.long r_2]) rfl ?_
  refine lv_lstore_n (lv' := [(1, .long r_2), (0, .ref (G.1 + 224))]) X.1 X.2.1 dX9_digest_8 rfl hl (by decide) rfl (fun ls hl => ?_)
  refine lv_iconst (v := 1) X.1 X.2.1 dX9_digest_9 (by decide) ?_
  refine lv_istore_n (lv' := [(3, .int 1), (1, .long r_2), (0, .ref (G.1 + 224))]) X.1 X.2.1 dX9_digest_10 rfl hl (by decide) rfl (fun ls hl => ?_)
  obtain ⟨f_3, h⟩ := h
  exact B11 f_3 r_2 1 S_1 _ (lv_sub hl [2, 1, 0] rfl) h _ _ hP hS
