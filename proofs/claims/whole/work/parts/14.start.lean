theorem ti_X8 : Cond.instantiable RX8 8 ∈ q_tbl := q_in 70 (by decide +kernel) rfl
theorem ti_X9 : Cond.instantiable RX9 38 ∈ q_tbl := q_in 762 (by decide +kernel) rfl
theorem tl_L_7 : Cond.classLink RL 7 RX8 ∈ q_tbl := q_in 69 (by decide +kernel) rfl
theorem tl_L_18 : Cond.classLink RL 18 RX9 ∈ q_tbl := q_in 761 (by decide +kernel) rfl
theorem tz_X8 : Cond.initialized RX8 ∈ q_tbl := q_in 56 (by decide +kernel) rfl
theorem tz_X9 : Cond.initialized RX9 ∈ q_tbl := q_in 64 (by decide +kernel) rfl
theorem tl_L_15 : Cond.methodLink RL 15 yX8_init ∈ q_tbl := q_in 71 (by decide +kernel) rfl
theorem tl_L_20 : Cond.methodLink RL 20 yX9_init ∈ q_tbl := q_in 763 (by decide +kernel) rfl
/-- what the makers leave in the fields that hold cells -/
def okS (S : St) : Prop :=
  (∀ q, q < 242 → kd q = (3, 2) → S q 0 = nI (q + 1) ∧ S q 1 = nI (q + 2)) ∧ (∀ j, j < 24 → S 20 j = nI (22 + 3 * j)) ∧ (∀ j, j < 18 → S 108 j = nI (114 + 6 * j)) ∧ (∀ j, j < 18 → S 109 j = nI (117 + 6 * j)) ∧
  S 104 0 = nI 1 ∧ S 104 1 = nI 94 ∧ S 104 2 = nI 105 ∧ S 104 3 = nI 108 ∧ S 104 4 = nI 109 ∧ S 104 5 = nI 110 ∧ S 104 6 = nI 111 ∧ S 105 0 = nI 106 ∧ S 105 1 = nI 107 ∧ S 94 0 = nI 1 ∧ S 94 1 = nI 95 ∧ S 94 2 = nI 98 ∧ S 94 3 = nI 101 ∧ S 1 3 = nI 2 ∧ S 1 4 = nI 3 ∧ S 1 5 = nI 4 ∧ S 1 6 = nI 7 ∧ S 19 0 = nI 20 ∧ S 19 1 = nI 21 ∧ S 222 0 = nI 1 ∧ S 222 1 = nI 104 ∧ S 222 2 = nI 223 ∧ S 0 0 = nI 1 ∧ S 0 1 = nI 10 ∧ S 0 2 = nI 13 ∧ S 0 3 = nI 16 ∧ S 0 4 = nI 19 ∧ S 0 5 = nI 94 ∧ S 0 6 = nI 104 ∧ S 0 7 = nI 222 ∧ S 224 3 = nI 225 ∧ S 224 4 = nI 226 ∧ S 224 5 = nI 227 ∧ S 224 8 = nI 228 ∧ S 224 9 = nI 229 ∧ S 224 21 = nI 230 ∧ S 224 22 = nI 231 ∧ S 224 23 = nI 232 ∧ S 224 24 = nI 233 ∧ S 224 25 = nI 234 ∧ S 224 26 = nI 235 ∧ S 224 28 = nI 236 ∧ S 224 31 = nI 237 ∧ S 224 32 = nI 238 ∧ S 224 33 = nI 239 ∧ S 224 36 = nI 240 ∧ S 224 37 = nI 241
theorem kd_tag : ∀ c, c < 242 → (kd c).1 ≤ 3 := by decide +kernel
theorem kd_rows : ∀ c, c < 242 → (kd c).1 = 2 → (c = 20 ∧ kd c = (2, 24)) ∨ (c = 108 ∧ kd c = (2, 18)) ∨ (c = 109 ∧ kd c = (2, 18)) := by decide +kernel
theorem kd_objs : ∀ c, c < 242 → (kd c).1 = 3 → (kd c).2 = 2 ∨ c ∈ [104, 105, 94, 1, 19, 222, 0, 224] := by decide +kernel
theorem arrV_congr {cI : ClassId} {N : Nat} {f g : Nat → Value} (h : ∀ j, j < N → f j = g j) : arrV cI N f = arrV cI N g := by
  unfold arrV
  congr 1
  apply Array.ext
  · simp
  · intro j h1 h2
    simp only [Array.size_ofFn] at h1
    simp [h j h1]
theorem q_or_at {G : Cx} {x : Int32} {b : Nat} (h : x = nI b) (hb : b < 2 ^ 31) : va_rf (q_or G x) = .ref (G.1 + b) := by
  rw [h, q_or_nI hb]
  rfl
theorem q_or_dyn {G : Cx} {x : Int32} {b : Nat} (h : x = nI b) (hb : b < 2 ^ 31) : va_rf (q_or G x) = .ref (G.1 + q_rf x) := by
  rw [h, q_or_nI hb]
  unfold q_rf
  rw [nI_clamp hb]
  rfl
set_option maxRecDepth 100000 in
theorem cell_conv {G : Cx} {S : St} (h : okS S) {H : Heap} {c : Nat} (hc : c < 242) (ha : va_at G.2.1 vwCl (G.1 + c, cellE2 G S c) H) : va_at G.2.1 vwCl (G.1 + c, cellE G S c) H := by
  obtain ⟨hp, h20, h108, h109, f_104_0, f_104_1, f_104_2, f_104_3, f_104_4, f_104_5, f_104_6, f_105_0, f_105_1, f_94_0, f_94_1, f_94_2, f_94_3, f_1_3, f_1_4, f_1_5, f_1_6, f_19_0, f_19_1, f_222_0, f_222_1, f_222_2, f_0_0, f_0_1, f_0_2, f_0_3, f_0_4, f_0_5, f_0_6, f_0_7, f_224_3, f_224_4, f_224_5, f_224_8, f_224_9, f_224_21, f_224_22, f_224_23, f_224_24, f_224_25, f_224_26, f_224_28, f_224_31, f_224_32, f_224_33, f_224_36, f_224_37⟩ := h
  have ht := kd_tag c hc
  rcases hkd : kd c with ⟨t, n⟩
  have ht : t ≤ 3 := by rw [hkd] at ht; exact ht
  rcases (show t = 0 ∨ t = 1 ∨ t = 2 ∨ t = 3 by omega) with rfl | rfl | rfl | rfl
  · rw [ce2_I hkd] at ha; rw [ce_I hkd]; exact ha
  · rw [ce2_Z hkd] at ha; rw [ce_Z hkd]; exact ha
  · rw [ce2_R hkd] at ha; rw [ce_R hkd]
    show H[G.1 + c]? = some (vp_cell _ _)
    have ha : H[G.1 + c]? = some (vp_cell _ _) := ha
    rw [ha, vp_cell_q, vp_cell_q]
    congr 1
    apply arrV_congr
    intro j hj
    rcases kd_rows c hc (by rw [hkd]) with ⟨rfl, e⟩ | ⟨rfl, e⟩ | ⟨rfl, e⟩ <;> (rw [hkd] at e; cases e)
    · exact q_or_at (b := 22 + 3 * j) (h20 j hj) (by omega)
    · exact q_or_at (b := 114 + 6 * j) (h108 j hj) (by omega)
    · exact q_or_at (b := 117 + 6 * j) (h109 j hj) (by omega)
  · rw [ce2_O hkd] at ha; rw [ce_O hkd]
    have key : objF2 G S c n = objF G S c n := by
      have ho := kd_objs c hc (by rw [hkd])
      simp only [List.mem_cons, List.not_mem_nil, or_false] at ho
      rcases ho with e | rfl | rfl | rfl | rfl | rfl | rfl | rfl | rfl
      · rw [hkd] at e
        have e : n = 2 := e
        subst e
        obtain ⟨e1, e2⟩ := hp c hc hkd
        show [va_rf (q_or G (S c 0)), va_rf (q_or G (S c 1)), .int (S c 2)] = [.ref (G.1 + (c + 1)), .ref (G.1 + (c + 2)), .int (S c 2)]
        rw [q_or_at e1 (by omega), q_or_at e2 (by omega)]
      · have e : kd 104 = (3, 0) := by decide +kernel
        rw [hkd] at e
        cases e
        simp only [objF2, objF, q_or_at f_104_0 (by decide), q_or_at f_104_1 (by decide), q_or_at f_104_2 (by decide), q_or_dyn f_104_3 (by decide), q_or_dyn f_104_4 (by decide), q_or_at f_104_5 (by decide), q_or_at f_104_6 (by decide)]
      · have e : kd 105 = (3, 1) := by decide +kernel
        rw [hkd] at e
        cases e
        simp only [objF2, objF, q_or_at f_105_0 (by decide), q_or_at f_105_1 (by decide)]
      · have e : kd 94 = (3, 3) := by decide +kernel
        rw [hkd] at e
        cases e
        simp only [objF2, objF, q_or_at f_94_0 (by decide), q_or_dyn f_94_1 (by decide), q_or_dyn f_94_2 (by decide), q_or_at f_94_3 (by decide)]
      · have e : kd 1 = (3, 4) := by decide +kernel
        rw [hkd] at e
        cases e
        simp only [objF2, objF, q_or_at f_1_3 (by decide), q_or_at f_1_4 (by decide), q_or_at f_1_5 (by decide), q_or_at f_1_6 (by decide)]
      · have e : kd 19 = (3, 5) := by decide +kernel
        rw [hkd] at e
        cases e
        simp only [objF2, objF, q_or_at f_19_0 (by decide), q_or_at f_19_1 (by decide)]
      · have e : kd 222 = (3, 6) := by decide +kernel
        rw [hkd] at e
        cases e
        simp only [objF2, objF, q_or_at f_222_0 (by decide), q_or_at f_222_1 (by decide), q_or_at f_222_2 (by decide)]
      · have e : kd 0 = (3, 7) := by decide +kernel
        rw [hkd] at e
        cases e
        simp only [objF2, objF, q_or_at f_0_0 (by decide), q_or_at f_0_1 (by decide), q_or_at f_0_2 (by decide), q_or_at f_0_3 (by decide), q_or_at f_0_4 (by decide), q_or_at f_0_5 (by decide), q_or_at f_0_6 (by decide), q_or_at f_0_7 (by decide)]
      · have e : kd 224 = (3, 8) := by decide +kernel
        rw [hkd] at e
        cases e
        simp only [objF2, objF, q_or_at f_224_3 (by decide), q_or_at f_224_4 (by decide), q_or_at f_224_5 (by decide), q_or_at f_224_8 (by decide), q_or_at f_224_9 (by decide), q_or_at f_224_21 (by decide), q_or_at f_224_22 (by decide), q_or_at f_224_23 (by decide), q_or_at f_224_24 (by decide), q_or_at f_224_25 (by decide), q_or_at f_224_26 (by decide), q_or_at f_224_28 (by decide), q_or_at f_224_31 (by decide), q_or_at f_224_32 (by decide), q_or_at f_224_33 (by decide), q_or_at f_224_36 (by decide), q_or_at f_224_37 (by decide)]
    rw [key] at ha
    exact ha
theorem all_conv {G : Cx} {S : St} (h : okS S) {H : Heap} (hP : q_P2 G 242 S H) : q_P G S H := by
  intro k q hq
  obtain ⟨rfl, hk⟩ := ws_inv hq
  exact cell_conv h hk (hP.1 k _ (ws2_at hk))
def cellv (xs : Nat → Int32) (L j : Nat) : Int32 := if j < L then xs j else 0
theorem tl_L_9 : Cond.methodLink RL 9 yL_cell ∈ q_tbl := q_in 758 (by decide +kernel) rfl
abbrev q_PcX (G : Cx) (av : List Value) (E : Nat) (S : St) (b L : Nat) (xs : Nat → Int32) : Array Value → State → Prop := va_Pc av (fun U => q_P2 G E S U.heap ∧ va_X b L xs U U.heap)
theorem c_cell (l : Launch) (G : Cx) {b L : Nat} {xs : Nat → Int32} (j : Nat) {k : Int32} (hk : k = nI j) (hj : j < 100) (hL : L < 2 ^ 31) (E : Nat) (S : St) (K : Int32 → St → Prop) (hb : b < G.1) (h : K (cellv xs L j) S) :
    Met l yL_cell (q_ws yL_cell cL_cell 2 (some .int)) (q_rm 0 0 0 0) (q_PcX G [.ref b, .int k] E S b L xs) (q_Qc2 G E K v_i) 0 0 (fr_ G) := by
  refine q_ofW (cc := cL_cell) (maxL := 2) (ret := some .int) (by decide +kernel) rfl ?_
  intro p e s m args below meth c s₁ B hml hv
  obtain ⟨rfl, hP, hX⟩ := hv
  have hts := atoms_spec (ws := q_ws yL_cell cL_cell 2 (some .int)) B.pre
  have hown : s.vm.findClass RL = some m.cls := findClass_of_methodNamed B.named
  have X : CallFix p m c cL_cell 2 s _ q_tbl RL := ⟨B.exec, B.bytes, hml, hown, fun w hw => hts w (List.mem_cons_of_mem _ hw)⟩
  have hr := B.returns
  have hlocks := B.notSynchronized
  have hl := lv_entry ([.ref b, .int k]) (n := 2) (Nat.le_of_ble_eq_true rfl)
  rw [lg_entry_eq]
  generalize (lg_sl ([.ref b, .int k]) ++ List.replicate (2 - (lg_sl ([.ref b, .int k])).length) Slot.unset).toArray = ls at hl ⊢
  have hl : lv_has ls 2 [(0, .ref b), (1, .int k)] := hl
  have hS : va_S (fr_ G) s.heap s.heap [] := va_S.rf
  have hbl : b < s.heap.size := by rw [hP.2]; omega
  have hbA : ¬ fr_ G b := Nat.not_le.mpr hb
  refine lv_iload_n X.1 X.2.1 dL_cell_0 rfl (lv_at hl 1 rfl) ?_
  refine lv_aload_n X.1 X.2.1 dL_cell_1 rfl (lv_at hl 0 rfl) ?_
  refine va_slen X.1 X.2.1 hX hbl hbA hS dL_cell_2 ?_
  refine lv_icmp_ge (tgt := 12) X.1 X.2.1 dL_cell_3 (by decide) (fun c_1 => ?_) (fun c_1 => ?_)
  · have hv : cellv xs L j = 0 := by
      have c_1 : nI L ≤ k := c_1
      rw [hk, nI_leI hL (by omega)] at c_1
      unfold cellv
      rw [if_neg (by omega)]
    rw [hv] at h
    refine lv_iconst (v := 0) X.1 X.2.1 dL_cell_12 (by decide) ?_
    exact q2_iret X hr hlocks hP hS rfl h (by omega) (by omega) dL_cell_13
  · have hjL : j < L := by
      have c_1 : ¬ nI L ≤ k := c_1
      rw [hk, nI_leI hL (by omega)] at c_1
      omega
    have hv : cellv xs L j = xs k.toNatClampNeg := by
      unfold cellv
      rw [if_pos hjL, hk, nI_clamp (by omega)]
    rw [hv] at h
    refine lv_aload_n X.1 X.2.1 dL_cell_6 rfl (lv_at hl 0 rfl) ?_
    refine lv_iload_n X.1 X.2.1 dL_cell_7 rfl (lv_at hl 1 rfl) ?_
    refine va_sld X.1 X.2.1 hX hbl hbA hS (by rw [hk]; exact vp_in_nI hjL hL) dL_cell_8 ?_
    refine lv_goto (tgt := 13) X.1 X.2.1 dL_cell_9 (by decide) ?_
    exact q2_iret X hr hlocks hP hS rfl h (by omega) (by omega) dL_cell_13
section QC
variable {p : Program} {l : Launch} {e : Env} {R : Room} {s : State} {m : MethodId} {args : Array Value} {below : List Frame} {meth : Method} {c : Code} {H : Heap} {locs : List Loc} {cells slots : Nat} {Q : State → Prop}
variable {cc : ByteArray} {pc nL : Nat} {ls : Array Slot} {rest : List Value} {G : Cx} {E : Nat} {S : St}
theorem q_callC {b L : Nat} {xs : Nat → Int32} (X : CallFix p m c cc nL s args q_tbl RL) (hP : q_P2 G E S H) (hS : va_S (fr_ G) s.heap H locs) (hX : va_X b L xs s s.heap) (hb : b < G.1) (hG : G.1 = s.heap.size) (hL : L < 2 ^ 31) (j : Nat) {k : Int32} (hk : k = nI j) (hj : j < 100) (hdg : decode cc pc = .ok (.invokestatic 9, 3)) (hR : 0 + 1 ≤ R.frames ∧ 8 + (2 + 11) + 0 ≤ R.locals) (hls : ls.size = nL) (hcat : (rest.map fun v => v.category).sum ≤ 8) (hroom : cells + 0 ≤ R.cells ∧ slots + 0 ≤ R.slots)
    (kk : ∀ (H1 : Heap) (locs1 : List Loc), q_P2 G E S H1 → va_S (fr_ G) s.heap H1 locs1 → W p l e R s m args below meth c H1 locs1 cells slots Q (F0 m (pc + 3) ls (.int (cellv xs L j) :: rest))) : W p l e R s m args below meth c H locs cells slots Q (F0 m pc ls (.int k :: .ref b :: rest)) := by
  have hbl : b < s.heap.size := by rw [← hG]; exact hb
  have hbA : ¬ fr_ G b := Nat.not_le.mpr hb
  refine q2_call (mc := 0) (ms := 0) (E' := E) (K := fun r S' => r = cellv xs L j ∧ S' = S) (val := v_i) (va_runS (As := [.ref b, .int k]) (rest := rest) X (c_cell l G j hk hj hL E S _ hb ⟨rfl, rfl⟩) ⟨q2_cb X my_L_cell.1 tl_L_9 hR, X.2.2.2.2 _ my_L_cell.2⟩ ⟨fun a U g mk q => by
    obtain ⟨q0, qP, qX⟩ := q
    exact ⟨q0, qP, va_X.moved (u := U) (U := U.calling g mk a) (Vm.Alike.refl U.vm) qX⟩, fun U hU hW => ⟨rfl, by rw [hU]; exact hP, by rw [hU]; exact (hX.kept (hS.2.1 b hbl hbA)).moved hW.alike⟩⟩ rfl rfl hls rfl (lv_room hcat) hdg hroom) hS (fun r S' H1 locs1 h hP1 hS1 => ?_)
  obtain ⟨rfl, rfl⟩ := h
  exact kk H1 locs1 hP1 hS1
end QC
/-- what the start gives: the classes are known -/
theorem start_K {p : Program} {s : State} {m : MethodId} {meth : Method} {c : Code} {b L : Nat} {xs : Nat → Int32} (C0 : lw_At p s m meth c b L xs) : ∃ G : Cx, G.1 = s.heap.size ∧ q_K G s ∧ q_N s := by
  have hts := C0.2.2.2.2.2.1
  have htq : ∀ w ∈ q_tbl, w.before #[Value.ref b] s = true := fun w hw => hts w (q_sub hw)
  obtain ⟨c0, iS0, hKn0⟩ := u_known (C := RX0) (T := TX0) (N := 15) (n := 15) htq in_X0 (htq (.instantiable RX0 15) ti_X0)
  obtain ⟨c1, iS1, hKn1⟩ := u_known (C := RX2) (T := TX2) (N := 3) (n := 3) htq in_X2 (htq (.instantiable RX2 3) ti_X2)
  obtain ⟨c2, iS2, hKn2⟩ := u_known (C := RX3) (T := TX3) (N := 3) (n := 3) htq in_X3 (htq (.instantiable RX3 3) ti_X3)
  obtain ⟨c3, iS3, hKn3⟩ := u_known (C := RX4) (T := TX4) (N := 7) (n := 7) htq in_X4 (htq (.instantiable RX4 7) ti_X4)
  obtain ⟨c4, iS4, hKn4⟩ := u_known (C := RX5) (T := TX5) (N := 7) (n := 7) htq in_X5 (htq (.instantiable RX5 7) ti_X5)
  obtain ⟨c5, iS5, hKn5⟩ := u_known (C := RX6) (T := TX6) (N := 3) (n := 3) htq in_X6 (htq (.instantiable RX6 3) ti_X6)
  obtain ⟨c6, iS6, hKn6⟩ := u_known (C := RX7) (T := TX7) (N := 3) (n := 3) htq in_X7 (htq (.instantiable RX7 3) ti_X7)
  obtain ⟨c7, iS7, hKn7⟩ := u_known (C := RX8) (T := TX8) (N := 8) (n := 8) htq in_X8 (htq (.instantiable RX8 8) ti_X8)
  obtain ⟨c8, iS8, hKn8⟩ := u_known (C := RX9) (T := TX9) (N := 38) (n := 38) htq in_X9 (htq (.instantiable RX9 38) ti_X9)
  obtain ⟨cI, kI, compI, a1, a2, a3⟩ := Cond.arrayClass_spec (htq _ ta_0)
  obtain ⟨cZ, kZ, compZ, z1, z2, z3⟩ := Cond.arrayClass_spec (htq _ ta_1)
  have hover : (Cond.arrayOver (.object RX3)).before #[Value.ref b] s = true := hts _ (List.mem_of_getElem? (i := 155) (by decide +kernel))
  obtain ⟨comp, cP, kP, o1, o2, o3, o4, o5⟩ := Cond.arrayOver_spec hover
  refine ⟨(s.heap.size, (fun k => [c0, c1, c2, c3, c4, c5, c6, c7, c8].getD k 0, fun k => [iS0, iS1, iS2, iS3, iS4, iS5, iS6, iS7, iS8].getD k (fun _ => 0)), fun k => [cI, cZ, cP].getD k 0), rfl, ⟨?_, ?_⟩, ⟨va_AO.of hover, va_Nw.of rfl (hts _ (List.mem_of_getElem? (i := 88) (by decide +kernel))), va_Nw.of rfl (hts _ (List.mem_of_getElem? (i := 143) (by decide +kernel))), va_Nw.of rfl (hts _ (List.mem_of_getElem? (i := 156) (by decide +kernel))), va_Nw.of rfl (hts _ (List.mem_of_getElem? (i := 176) (by decide +kernel))), va_Nw.of rfl (hts _ (List.mem_of_getElem? (i := 212) (by decide +kernel))), va_Nw.of rfl (hts _ (List.mem_of_getElem? (i := 233) (by decide +kernel)))⟩⟩
  · intro k q hq
    match k, hq with
    | 0, hq => cases hq; exact hKn0
    | 1, hq => cases hq; exact hKn1
    | 2, hq => cases hq; exact hKn2
    | 3, hq => cases hq; exact hKn3
    | 4, hq => cases hq; exact hKn4
    | 5, hq => cases hq; exact hKn5
    | 6, hq => cases hq; exact hKn6
    | 7, hq => cases hq; exact hKn7
    | 8, hq => cases hq; exact hKn8
    | k + 9, hq => simp [vwCl] at hq
  · intro k q hq
    match k, hq with
    | 0, hq => cases hq; exact ⟨fun N z => ⟨fun k h => (by cases h), kI, a2, compI, a3⟩, a1⟩
    | 1, hq => cases hq; exact ⟨fun N z => ⟨fun k h => (by cases h), kZ, z2, compZ, z3⟩, z1⟩
    | 2, hq => cases hq; exact ⟨fun N z => ⟨fun k h => (by cases h), kP, o3, comp, o4⟩, kP, comp, o3, o4, o1, o5⟩
    | k + 3, hq => simp [tysOf] at hq
/-- what the pure part owes of the makers -/
def init_ok (PI : St → Prop) : Prop := ∀ (x1 x2 : Int32) (S : St), w2_X8_init x1 x2 (sn S 0 fresh_7) (fun _ S1 => w2_X9_init x1 x2 (sn S1 224 fresh_8) (fun _ S2 => okS S2 ∧ PI S2))
set_option maxHeartbeats 4000000 in
set_option maxRecDepth 100000 in
theorem whole_open {p : Program} {e : Env} {s : State} {m : MethodId} {below : List Frame} {meth : Method} {c : Code} (l : Launch) {b L : Nat} {xs : Nat → Int32} (hL : L ≤ 3074) (C0 : lw_At p s m meth c b L xs) (PI : St → Prop) (hop : law_ok PI) (hini : init_ok PI) : W p l e room_1 s m #[Value.ref b] below meth c s.heap [] 0 0 (lw_Z below #[Value.ref b] s) (entryFrame m ([Value.ref b] : List Value).toArray 4) := by
  obtain ⟨G, hG, hK, hN⟩ := start_K C0
  have X := law_X C0
  have hX := C0.2.2.2.2.2.2.1
  have hbl := C0.2.2.2.2.2.2.2.1
  have hb : b < G.1 := by rw [hG]; exact hbl
  have hL31 : L < 2 ^ 31 := by omega
  have hS : va_S (fr_ G) s.heap s.heap [] := va_S.rf
  have hGs : G.1 ≤ s.heap.size := by rw [hG]; exact Nat.le_refl _
  have hP : q_P2 G 0 (fun _ _ => 0) s.heap := ⟨fun k q h => by simp [wsOf2] at h, by rw [hG]; rfl⟩
  have hl := lv_entry ([.ref b]) (n := 4) (Nat.le_of_ble_eq_true rfl)
  rw [lg_entry_eq]
  generalize (lg_sl ([.ref b]) ++ List.replicate (4 - (lg_sl ([.ref b])).length) Slot.unset).toArray = ls at hl ⊢
  have hl : lv_has ls 4 [(0, .ref b)] := hl
  refine q2_new X hK hP hS hGs (ci := 7) (C := RX8) (T := TX8) (N := 8) rfl in_X8 tyX8 tyX8_ok (by decide +kernel) fresh_7 (hfr_7 G _ _) tl_L_7 ti_X8 tz_X8 (Nat.le_of_ble_eq_true rfl) (Nat.le_of_ble_eq_true rfl) dL_law_0 (fun S1 H eS1 hP hS => ?_)
  refine lv_dup X.1 X.2.1 dL_law_3 rfl ?_
  refine lv_aload_n X.1 X.2.1 dL_law_4 rfl (lv_at hl 0 rfl) ?_
  refine lv_iconst (v := 0) X.1 X.2.1 dL_law_5 (by decide) ?_
  refine q_callC X hP hS hX hb hG hL31 0 (by decide) (by decide) dL_law_6 ⟨Nat.le_of_ble_eq_true rfl, Nat.le_of_ble_eq_true rfl⟩ hl.1 (Nat.le_of_ble_eq_true rfl) ⟨Nat.le_of_ble_eq_true rfl, Nat.le_of_ble_eq_true rfl⟩ (fun H locs hP hS => ?_)
  refine lv_aload_n X.1 X.2.1 dL_law_9 rfl (lv_at hl 0 rfl) ?_
  refine lv_iconst (v := 1) X.1 X.2.1 dL_law_10 (by decide) ?_
  refine q_callC X hP hS hX hb hG hL31 1 (by decide) (by decide) dL_law_11 ⟨Nat.le_of_ble_eq_true rfl, Nat.le_of_ble_eq_true rfl⟩ hl.1 (Nat.le_of_ble_eq_true rfl) ⟨Nat.le_of_ble_eq_true rfl, Nat.le_of_ble_eq_true rfl⟩ (fun H locs hP hS => ?_)
  have h := hini (cellv xs L 0) (cellv xs L 1) (fun _ _ => 0)
  rw [← eS1] at h
  refine q2_callI (rest := [.ref (G.1 + 0)]) (b := 0) X hK hN hP hS (c2_X8_init l G (cellv xs L 0) (cellv xs L 1) S1 _ h) mi_X8_init tl_L_15 dL_law_14 rfl ⟨Nat.le_of_ble_eq_true rfl, Nat.le_of_ble_eq_true rfl⟩ hl.1 rfl (Nat.le_of_ble_eq_true rfl) ⟨Nat.le_of_ble_eq_true rfl, Nat.le_of_ble_eq_true rfl⟩ (fun r S2 H locs h hP hS => ?_)
  refine W.eq (g2 := F0 m 17 ls [.ref (G.1 + 0)]) rfl ?_
  refine lv_astore_n (lv' := [(1, .ref (G.1 + 0)), (0, .ref b)]) X.1 X.2.1 dL_law_17 rfl hl (by decide) rfl (fun ls hl => ?_)
  refine q2_new X hK hP hS hGs (ci := 8) (C := RX9) (T := TX9) (N := 38) rfl in_X9 tyX9 tyX9_ok (by decide +kernel) fresh_8 (hfr_8 G _ _) tl_L_18 ti_X9 tz_X9 (Nat.le_of_ble_eq_true rfl) (Nat.le_of_ble_eq_true rfl) dL_law_18 (fun S3 H eS3 hP hS => ?_)
  refine lv_dup X.1 X.2.1 dL_law_21 rfl ?_
  refine lv_aload_n X.1 X.2.1 dL_law_22 rfl (lv_at hl 1 rfl) ?_
  refine lv_iconst (v := 0) X.1 X.2.1 dL_law_23 (by decide) ?_
  refine q_callC X hP hS hX hb hG hL31 0 (by decide) (by decide) dL_law_24 ⟨Nat.le_of_ble_eq_true rfl, Nat.le_of_ble_eq_true rfl⟩ hl.1 (Nat.le_of_ble_eq_true rfl) ⟨Nat.le_of_ble_eq_true rfl, Nat.le_of_ble_eq_true rfl⟩ (fun H locs hP hS => ?_)
  refine lv_aload_n X.1 X.2.1 dL_law_27 rfl (lv_at hl 1 rfl) ?_
  refine lv_iconst (v := 1) X.1 X.2.1 dL_law_28 (by decide) ?_
  refine q_callC X hP hS hX hb hG hL31 1 (by decide) (by decide) dL_law_29 ⟨Nat.le_of_ble_eq_true rfl, Nat.le_of_ble_eq_true rfl⟩ hl.1 (Nat.le_of_ble_eq_true rfl) ⟨Nat.le_of_ble_eq_true rfl, Nat.le_of_ble_eq_true rfl⟩ (fun H locs hP hS => ?_)
  have h : w2_X9_init (cellv xs L 0) (cellv xs L 1) (sn S2 224 fresh_8) (fun _ S2 => okS S2 ∧ PI S2) := h
  rw [← eS3] at h
  refine q2_callI (rest := [.ref (G.1 + 224)]) (b := 224) X hK hN hP hS (c2_X9_init l G (cellv xs L 0) (cellv xs L 1) S3 _ h) mi_X9_init tl_L_20 dL_law_32 rfl ⟨Nat.le_of_ble_eq_true rfl, Nat.le_of_ble_eq_true rfl⟩ hl.1 rfl (Nat.le_of_ble_eq_true rfl) ⟨Nat.le_of_ble_eq_true rfl, Nat.le_of_ble_eq_true rfl⟩ (fun r4 S4 H locs h hP hS => ?_)
  refine W.eq (g2 := F0 m 35 ls [.ref (G.1 + 224)]) rfl ?_
  obtain ⟨hok, hPI⟩ := h
  have hP := all_conv hok hP
  refine lv_astore_n (lv' := [(2, .ref (G.1 + 224)), (1, .ref (G.1 + 0)), (0, .ref b)]) X.1 X.2.1 dL_law_35 rfl hl (by decide) rfl (fun ls hl => ?_)
  refine lv_iconst (v := 2) X.1 X.2.1 dL_law_36 (by decide) ?_
  refine lv_istore_n (lv' := [(3, .int 2), (2, .ref (G.1 + 224)), (1, .ref (G.1 + 0)), (0, .ref b)]) X.1 X.2.1 dL_law_37 rfl hl (by decide) rfl (fun ls hl => ?_)
  refine W.widen (k := 600000) (n := 7302250) (Nat.le_of_ble_eq_true rfl) (Nat.le_of_ble_eq_true rfl) ?_
  exact law_loop l hL C0 hG hK PI hop (L + 1) 2 (by omega) (by omega) 2 S4 H locs ls (by decide) hPI hP hS hl
