/-! cells while they are laid: the first E of them stand; a reference is the number of its cell, below 0 is null -/
def q_or (G : Cx) (x : Int32) : Option Nat := if x < 0 then none else some (G.1 + q_rf x)
theorem q_or_pos {G : Cx} {x : Int32} (h : ¬ x < 0) : va_rf (q_or G x) = .ref (G.1 + q_rf x) := by simp [q_or, h, va_rf]
theorem q_or_nI {G : Cx} {b : Nat} (h : b < 2 ^ 31) : q_or G (nI b) = some (G.1 + b) := by
  unfold q_or
  rw [if_neg (nI_pos h)]
  unfold q_rf
  rw [nI_clamp h]
theorem q_or_m1 {G : Cx} : q_or G (-1) = none := by
  unfold q_or
  rw [if_pos (by decide)]
def sn (S : St) (E : Nat) (f : Nat → Int32) : St := fun c => if c = E then f else S c
theorem sn_eq (S : St) (E : Nat) (f : Nat → Int32) : sn S E f E = f := if_pos rfl
theorem sn_ne (S : St) {E c : Nat} (f : Nat → Int32) (h : c ≠ E) : sn S E f c = S c := if_neg h
def objF2 (G : Cx) (S : St) (c : Nat) : Nat → List Value
  | 0 => [va_rf (q_or G (S c 0)), va_rf (q_or G (S c 1)), va_rf (q_or G (S c 2)), va_rf (q_or G (S c 3)), va_rf (q_or G (S c 4)), va_rf (q_or G (S c 5)), va_rf (q_or G (S c 6)), .int (S c 7), .int (S c 8), .int (S c 9), .int (S c 10), .int (S c 11), .int (S c 12), .int (S c 13), .int (S c 14)]
  | 1 => [va_rf (q_or G (S c 0)), va_rf (q_or G (S c 1)), .int (S c 2)]
  | 2 => [va_rf (q_or G (S c 0)), va_rf (q_or G (S c 1)), .int (S c 2)]
  | 3 => [va_rf (q_or G (S c 0)), va_rf (q_or G (S c 1)), va_rf (q_or G (S c 2)), va_rf (q_or G (S c 3)), .int (S c 4), .int (S c 5), .int (S c 6)]
  | 4 => [.int (S c 0), .int (S c 1), .int (S c 2), va_rf (q_or G (S c 3)), va_rf (q_or G (S c 4)), va_rf (q_or G (S c 5)), va_rf (q_or G (S c 6))]
  | 5 => [va_rf (q_or G (S c 0)), va_rf (q_or G (S c 1)), .int (S c 2)]
  | 6 => [va_rf (q_or G (S c 0)), va_rf (q_or G (S c 1)), va_rf (q_or G (S c 2))]
  | 7 => [va_rf (q_or G (S c 0)), va_rf (q_or G (S c 1)), va_rf (q_or G (S c 2)), va_rf (q_or G (S c 3)), va_rf (q_or G (S c 4)), va_rf (q_or G (S c 5)), va_rf (q_or G (S c 6)), va_rf (q_or G (S c 7))]
  | 8 => [.int (S c 0), .int (S c 1), .int (S c 2), va_rf (q_or G (S c 3)), va_rf (q_or G (S c 4)), va_rf (q_or G (S c 5)), .int (S c 6), .int (S c 7), va_rf (q_or G (S c 8)), va_rf (q_or G (S c 9)), .int (S c 10), .int (S c 11), .int (S c 12), .int (S c 13), .int (S c 14), .int (S c 15), .int (S c 16), .int (S c 17), .int (S c 18), .int (S c 19), .int (S c 20), va_rf (q_or G (S c 21)), va_rf (q_or G (S c 22)), va_rf (q_or G (S c 23)), va_rf (q_or G (S c 24)), va_rf (q_or G (S c 25)), va_rf (q_or G (S c 26)), .int (S c 27), va_rf (q_or G (S c 28)), .int (S c 29), .int (S c 30), va_rf (q_or G (S c 31)), va_rf (q_or G (S c 32)), va_rf (q_or G (S c 33)), .int (S c 34), .int (S c 35), va_rf (q_or G (S c 36)), va_rf (q_or G (S c 37))]
  | _ => []
def fresh_0 : Nat → Int32 := fun k => ([-1, -1, -1, -1, -1, -1, -1, 0, 0, 0, 0, 0, 0, 0, 0] : List Int32).getD k 0
def fresh_1 : Nat → Int32 := fun k => ([-1, -1, 0] : List Int32).getD k 0
def fresh_2 : Nat → Int32 := fun k => ([-1, -1, 0] : List Int32).getD k 0
def fresh_3 : Nat → Int32 := fun k => ([-1, -1, -1, -1, 0, 0, 0] : List Int32).getD k 0
def fresh_4 : Nat → Int32 := fun k => ([0, 0, 0, -1, -1, -1, -1] : List Int32).getD k 0
def fresh_5 : Nat → Int32 := fun k => ([-1, -1, 0] : List Int32).getD k 0
def fresh_6 : Nat → Int32 := fun k => ([-1, -1, -1] : List Int32).getD k 0
def fresh_7 : Nat → Int32 := fun k => ([-1, -1, -1, -1, -1, -1, -1, -1] : List Int32).getD k 0
def fresh_8 : Nat → Int32 := fun k => ([0, 0, 0, -1, -1, -1, 0, 0, -1, -1, 0, 0, 0, 0, 0, 0, 0, 0, 0, 0, 0, -1, -1, -1, -1, -1, -1, 0, -1, 0, 0, -1, -1, -1, 0, 0, -1, -1] : List Int32).getD k 0
def cellE2 (G : Cx) (S : St) (c : Nat) : va_E := match kd c with
  | (0, n) => .inl (G.2.2 0, n, .inl (S c))
  | (1, n) => .inl (G.2.2 1, n, .inl (S c))
  | (2, n) => .inl (G.2.2 2, n, .inr (.inr (.inr (.inr (fun j => q_or G (S c j))))))
  | (_, k) => .inr (k, objF2 G S c k)
theorem ce2_I {G : Cx} {S : St} {c n : Nat} (h : kd c = (0, n)) : cellE2 G S c = .inl (G.2.2 0, n, .inl (S c)) := by simp [cellE2, h]
theorem ce2_Z {G : Cx} {S : St} {c n : Nat} (h : kd c = (1, n)) : cellE2 G S c = .inl (G.2.2 1, n, .inl (S c)) := by simp [cellE2, h]
theorem ce2_R {G : Cx} {S : St} {c n : Nat} (h : kd c = (2, n)) : cellE2 G S c = .inl (G.2.2 2, n, .inr (.inr (.inr (.inr (fun j => q_or G (S c j)))))) := by simp [cellE2, h]
theorem ce2_O {G : Cx} {S : St} {c k : Nat} (h : kd c = (3, k)) : cellE2 G S c = .inr (k, objF2 G S c k) := by simp [cellE2, h]
def wsOf2 (G : Cx) (E : Nat) (S : St) : va_W := (List.range E).map (fun c => (G.1 + c, cellE2 G S c))
theorem ws2_at {G : Cx} {S : St} {E c : Nat} (h : c < E) : (wsOf2 G E S)[c]? = some (G.1 + c, cellE2 G S c) := by
  simp [wsOf2, h]
theorem ws2_len {G : Cx} {S : St} {E : Nat} : (wsOf2 G E S).length = E := by simp [wsOf2]
theorem ws2_inv {G : Cx} {S : St} {E k : Nat} {q : Nat × va_E} (h : (wsOf2 G E S)[k]? = some q) : q = (G.1 + k, cellE2 G S k) ∧ k < E := by
  have hl := (List.getElem?_eq_some_iff.mp h).1
  rw [ws2_len] at hl
  rw [ws2_at hl] at h
  exact ⟨(Option.some.inj h).symm, hl⟩
theorem ws2_D {G : Cx} {S : St} {E : Nat} : va_D (fr_ G) (wsOf2 G E S) := by
  refine ⟨fun i j p q hi hj hpq => ?_, fun k q hk => ?_⟩
  · obtain ⟨rfl, -⟩ := ws2_inv hi
    obtain ⟨rfl, -⟩ := ws2_inv hj
    exact Nat.add_left_cancel hpq
  · obtain ⟨rfl, -⟩ := ws2_inv hk
    exact Nat.le_add_right _ _
theorem cellE2_congr {G : Cx} {S S' : St} {c : Nat} (h : S' c = S c) : cellE2 G S' c = cellE2 G S c := by
  have ho : ∀ k, objF2 G S' c k = objF2 G S c k := by
    intro k
    rcases k with _ | _ | _ | _ | _ | _ | _ | _ | _ | k <;> simp [objF2, h]
  unfold cellE2
  split <;> simp [h, ho]
theorem ws2_set {G : Cx} {S : St} {E c k : Nat} {v : Int32} {e : va_E} (he : cellE2 G (su S c k v) c = e) : (wsOf2 G E S).set c (G.1 + c, e) = wsOf2 G E (su S c k v) := by
  apply List.ext_getElem?
  intro i
  by_cases hi : i < E
  · rw [ws2_at hi]
    by_cases hic : i = c
    · subst hic
      rw [List.getElem?_set_self (by rw [ws2_len]; exact hi), he]
    · rw [List.getElem?_set_ne (Ne.symm hic), ws2_at hi, cellE2_congr (su_ne S k v hic)]
  · rw [List.getElem?_eq_none (by rw [List.length_set, ws2_len]; omega), List.getElem?_eq_none (by rw [ws2_len]; omega)]
theorem ws2_push {G : Cx} {S : St} {E : Nat} {f : Nat → Int32} : wsOf2 G E S ++ [(G.1 + E, cellE2 G (sn S E f) E)] = wsOf2 G (E + 1) (sn S E f) := by
  unfold wsOf2
  rw [List.range_succ, List.map_append]
  congr 1
  apply List.map_congr_left
  intro c hc
  rw [cellE2_congr (sn_ne S f (Nat.ne_of_lt (List.mem_range.mp hc)))]
abbrev q_P2 (G : Cx) (E : Nat) (S : St) (H : Heap) : Prop := va_P G.2.1 vwCl (wsOf2 G E S) H ∧ H.size = G.1 + E
/-- what the makers need of the table beside the kept words -/
abbrev q_N (U : State) : Prop := va_AO RX3 U ∧ va_Nw (.methodLinkNest RX5 24 yX3_init "IdealBench") U ∧ va_Nw (.methodLinkNest RX8 24 yX3_init "IdealBench") U ∧ va_Nw (.methodLinkNest RX6 21 yX3_init "IdealBench") U ∧ va_Nw (.methodLinkNest RX4 11 yX3_init "IdealBench") U ∧ va_Nw (.methodLinkNest RX0 11 yX2_init "IdealBench") U ∧ va_Nw (.methodLinkNest RX0 31 yX3_init "IdealBench") U
theorem q_N.warm {s U : State} (hW : s.WarmedH U.vm) (h : q_N s) : q_N U := ⟨va_AO.moved hW.alike h.1, va_Nw.warmM hW h.2.1, va_Nw.warmM hW h.2.2.1, va_Nw.warmM hW h.2.2.2.1, va_Nw.warmM hW h.2.2.2.2.1, va_Nw.warmM hW h.2.2.2.2.2.1, va_Nw.warmM hW h.2.2.2.2.2.2⟩
theorem q_N.same {u U : State} (e : u.vm = U.vm) (h : q_N u) : q_N U := ⟨va_AO.moved (by rw [e]; exact Vm.Alike.refl _) h.1, va_Nw.same rfl e h.2.1, va_Nw.same rfl e h.2.2.1, va_Nw.same rfl e h.2.2.2.1, va_Nw.same rfl e h.2.2.2.2.1, va_Nw.same rfl e h.2.2.2.2.2.1, va_Nw.same rfl e h.2.2.2.2.2.2⟩
abbrev q_Pc2 (G : Cx) (av : List Value) (E : Nat) (S : St) : Array Value → State → Prop := va_Pc av (fun U => q_P2 G E S U.heap ∧ q_K G U ∧ q_N U)
def q_Qc2 {Rt : Type} (G : Cx) (E : Nat) (K : Rt → St → Prop) (val : Rt → Option Value) : Array Value → State → Outcome → State → Prop := fun _ st oc t => (∃ (r : Rt) (S' : St), oc = .returned (val r) ∧ K r S' ∧ q_P2 G E S' t.heap) ∧ va_F (fr_ G) st t
abbrev q_rm (fr lo mc ms : Nat) : Room := { frames := fr, cells := mc, slots := ms, locals := lo }
def q_Met2 {Rt : Type} (l : Launch) (y : MethodName) (cb : ByteArray) (n : Nat) (ret : Option FieldType) (fr lo mc ms : Nat) (G : Cx) (av : List Value) (val : Rt → Option Value) (E E' : Nat) (S : St) (K : Rt → St → Prop) : Prop :=
  Met l y (q_ws y cb n ret) (q_rm fr lo mc ms) (q_Pc2 G av E S) (q_Qc2 G E' K val) mc ms (fr_ G)
theorem q_blind2 {G : Cx} {av : List Value} {E : Nat} {S : St} : FrameBlind (q_Pc2 G av E S) := fun a U g mk q => by
  obtain ⟨q0, qP, qK, qN⟩ := q
  exact ⟨q0, qP, va_K.moved (u := U) (U := U.calling g mk a) (Vm.Alike.refl U.vm) qK, qN.same rfl⟩
theorem q_enter2 {Rt : Type} {l : Launch} {G : Cx} {E E' : Nat} {S : St} {K : Rt → St → Prop} {val : Rt → Option Value} {y : MethodName} {cb : ByteArray} {n fr lo mc ms : Nat} {ret : Option FieldType} {av : List Value} (hy : plainFor y = true) (hn : (lg_sl av).length ≤ n)
    (body : ∀ (p : Program) (e : Env) (s : State) (m : MethodId) (args : Array Value) (below : List Frame) (meth : Method) (c : Code) (ls : Array Slot), CallFix p m c cb n s args q_tbl y.cls → q_K G s → q_N s → q_P2 G E S s.heap → meth.sig.returnType = ret → meth.locks = false → meth.name = y.name → lv_has ls n (lv_args 0 av) →
      W p l e (q_rm fr lo mc ms) s m args below meth c s.heap [] 0 0 (MQ below (q_Qc2 G E' K val) args s mc ms (fr_ G)) (F0 m 0 ls [])) : q_Met2 l y cb n ret fr lo mc ms G av val E E' S K := by
  unfold q_Met2
  refine q_ofW (cc := cb) (maxL := n) (ret := ret) hy rfl ?_
  intro p e s m args below meth c s₁ B hml hv
  obtain ⟨rfl, hP, hK, hN⟩ := hv
  have hts := atoms_spec (ws := q_ws y cb n ret) B.pre
  have hown : s.vm.findClass y.cls = some m.cls := findClass_of_methodNamed B.named
  have hl := lv_entry av (n := n) hn
  rw [lg_entry_eq]
  exact body p e s m _ below meth c _ ⟨B.exec, B.bytes, hml, hown, fun w hw => hts w (List.mem_cons_of_mem _ hw)⟩ hK hN hP B.returns B.notSynchronized (name_of_methodNamed B.named B.method).1 hl
section QR2
variable {p : Program} {l : Launch} {e : Env} {R : Room} {s : State} {m : MethodId} {args : Array Value} {below : List Frame} {meth : Method} {c : Code} {H : Heap} {locs : List Loc} {cells slots : Nat} {Q : State → Prop}
variable {cc : ByteArray} {pc nL : Nat} {ls : Array Slot} {rest : List Value} {G : Cx} {E : Nat} {S : St} {H0 : Heap} {own : String}
theorem q2_get (X : CallFix p m c cc nL s args q_tbl own) (hK : q_K G s) (hP : q_P2 G E S H) (a ci k : Nat) {C : String} {T : u_T} {N index : Nat} (hcl : vwCl[ci]? = some (C, T, N)) (hin : ∀ w ∈ u_ws C T N, w ∈ q_tbl) (ha : a < E ∧ kd a = (3, ci)) (hk : k < N)
    (hlink : Cond.fieldLink own index C (T k).2.1 (T k).2.2.1 ∈ q_tbl) (hTk : (T k).1 = C) {v : Value} (hv : (objF2 G S a ci)[k]? = some v) (hdg : decode cc pc = .ok (.getfield index, 3))
    (kk : W p l e R s m args below meth c H locs cells slots Q (F0 m (pc + 3) ls (v :: rest))) : W p l e R s m args below meth c H locs cells slots Q (F0 m pc ls (.ref (G.1 + a) :: rest)) :=
  va_get X.1 X.2.1 X.2.2.2.2 hin X.2.2.2.1 hK hP.1 a (by rw [ws2_at ha.1, ce2_O ha.2]) hcl k hk (X.2.2.2.2 _ hlink) (fun x h => by rw [hTk] at h; exact h) hv hdg kk
theorem q2_put (X : CallFix p m c cc nL s args q_tbl own) (hK : q_K G s) (hP : q_P2 G E S H) (hS : va_S (fr_ G) H0 H locs) (a ci k : Nat) {C : String} {T : u_T} {N index : Nat} (hcl : vwCl[ci]? = some (C, T, N)) (hin : ∀ w ∈ u_ws C T N, w ∈ q_tbl) (ty0 : Nat → FieldType) (hty : ∀ k, k < N → parseFieldDescriptor (T k).2.2.1 = some (ty0 k)) (hnm : ∀ a, a < N → ∀ b, b < N → a ≠ b → (T a).2.1 ≠ (T b).2.1) (ha : a < E ∧ kd a = (3, ci)) (hk : k < N)
    (hlink : Cond.fieldLink own index C (T k).2.1 (T k).2.2.1 ∈ q_tbl) (hTk : (T k).1 = C) (hfin : (T k).2.2.2 = false) {ty : FieldType} {v : Value} (hd : parseFieldDescriptor (T k).2.2.1 = some ty) (hn : narrow ty v = v) (hfit : fits ty v = true) {x : Int32} (hset : (objF2 G S a ci).set k v = objF2 G (su S a k x) a ci) (hl : k < (objF2 G S a ci).length)
    (hdg : decode cc pc = .ok (.putfield index, 3))
    (kk : ∀ (S1 : St) (H1 : Heap) (locs1 : List Loc), S1 = su S a k x → q_P2 G E S1 H1 → va_S (fr_ G) H0 H1 locs1 → W p l e R s m args below meth c H1 locs1 cells slots Q (F0 m (pc + 3) ls rest)) : W p l e R s m args below meth c H locs cells slots Q (F0 m pc ls (v :: .ref (G.1 + a) :: rest)) := by
  have hap := va_apart (own := own) X.2.2.2.2 hin ty0 hty hnm hK hcl
  obtain ⟨r, h1, cell, q1, q2, q3, q4⟩ := hP.1 a _ (by rw [ws2_at ha.1, ce2_O ha.2])
  have hr : r = (C, T, N) := Option.some.inj (h1.symm.trans hcl)
  subst hr
  obtain ⟨hSl, hfc, kC, hkC, hkind⟩ := hK.1 ci _ hcl
  obtain ⟨cf, kf, fi, f, hi, hsl⟩ := hSl k hk
  have hlay := X.2.2.2.2 _ (hin _ (u_in_lay hk))
  unfold u_lay at hlay
  rw [if_neg (by rw [hfin]; decide)] at hlay
  have hst := (u_facts hfc hkC (u_lays X.2.2.2.2 hin hk) hi).1
  have h6 := u_store hfc hkC hkind hlay hi hd hn hfit
  refine W.putK X.1 X.2.1 (f := f) ⟨X.2.2.2.1, X.2.2.2.2 _ hlink, ⟨_, _, _, by rw [hTk] at hi; exact hi⟩, hst⟩ (by rw [q2]; exact h6) q1 q3 (by rw [hsl]; exact k2_hasslot (q4 k hk)) rfl rfl hdg fun H' e1 e2 e3 => ?_
  rw [hsl] at e1 ⊢
  have hP1 := hP.1.set ws2_D (show (wsOf2 G E S)[a]? = some (G.1 + a, .inr (ci, objF2 G S a ci)) by rw [ws2_at ha.1, ce2_O ha.2]) (e := .inr (ci, (objF2 G S a ci).set k v)) ⟨_, hcl, t_OB.to (V := updV (vp_V (objF2 G S a ci)) k v) ⟨_, e1, q2, q3, t_set q4 hap hk v⟩ (fun j _ => vp_updV_set hl v j)⟩ e3
  rw [ws2_set (k := k) (v := x) (by rw [ce2_O ha.2, hset])] at hP1
  exact kk _ H' _ rfl ⟨hP1, by rw [e2]; exact hP.2⟩ (hS.put e2 e3 (Nat.le_add_right _ _))
theorem q2_putF (X : CallFix p m c cc nL s args q_tbl own) (hK : q_K G s) (hP : q_P2 G E S H) (hS : va_S (fr_ G) H0 H locs) (a ci k : Nat) {C : String} {T : u_T} {N index : Nat} (hcl : vwCl[ci]? = some (C, T, N)) (hin : ∀ w ∈ u_ws C T N, w ∈ q_tbl) (ty0 : Nat → FieldType) (hty : ∀ k, k < N → parseFieldDescriptor (T k).2.2.1 = some (ty0 k)) (hnm : ∀ a, a < N → ∀ b, b < N → a ≠ b → (T a).2.1 ≠ (T b).2.1) (ha : a < E ∧ kd a = (3, ci)) (hk : k < N)
    (hlink : Cond.fieldLink own index C (T k).2.1 (T k).2.2.1 ∈ q_tbl) (hTk : (T k).1 = C) (hfin : (T k).2.2.2 = true) (hin2 : meth.name = "<init>") (hdecl : (T k).1 = own) {ty : FieldType} {v : Value} (hd : parseFieldDescriptor (T k).2.2.1 = some ty) (hn : narrow ty v = v) (hfit : fits ty v = true) {x : Int32} (hset : (objF2 G S a ci).set k v = objF2 G (su S a k x) a ci) (hl : k < (objF2 G S a ci).length)
    (hdg : decode cc pc = .ok (.putfield index, 3))
    (kk : ∀ (S1 : St) (H1 : Heap) (locs1 : List Loc), S1 = su S a k x → q_P2 G E S1 H1 → va_S (fr_ G) H0 H1 locs1 → W p l e R s m args below meth c H1 locs1 cells slots Q (F0 m (pc + 3) ls rest)) : W p l e R s m args below meth c H locs cells slots Q (F0 m pc ls (v :: .ref (G.1 + a) :: rest)) := by
  have hap := va_apart (own := own) X.2.2.2.2 hin ty0 hty hnm hK hcl
  obtain ⟨r, h1, cell, q1, q2, q3, q4⟩ := hP.1 a _ (by rw [ws2_at ha.1, ce2_O ha.2])
  have hr : r = (C, T, N) := Option.some.inj (h1.symm.trans hcl)
  subst hr
  obtain ⟨hSl, hfc, kC, hkC, hkind⟩ := hK.1 ci _ hcl
  obtain ⟨cf, kf, fi, f, hi, hsl⟩ := hSl k hk
  have hlay := X.2.2.2.2 _ (hin _ (u_in_lay hk))
  unfold u_lay at hlay
  rw [if_pos hfin] at hlay
  have hst := (u_facts hfc hkC (u_lays X.2.2.2.2 hin hk) hi).1
  have hcf : m.cls = cf := by
    obtain ⟨_, _, c', _, _, _, -, -, hf', -, -, -, hown2, -⟩ := Cond.laysFinal_spec hlay
    have e1 : c' = cf := by have := hi.symm.trans hf'; simp at this; exact this.1.symm
    rw [hdecl] at hown2
    rw [← e1]; exact Option.some.inj (X.2.2.2.1.symm.trans hown2)
  have h6 := u_fits hfc hkC hkind (Or.inr hlay) hi hd hn hfit
  refine W.putFinK X.1 X.2.1 X.2.2.2.1 (X.2.2.2.2 _ hlink) (by rw [hTk] at hi; exact hi) hst hcf hin2 (by rw [q2]; exact h6) q1 q3 (by rw [hsl]; exact k2_hasslot (q4 k hk)) rfl rfl hdg fun H' e1 e2 e3 => ?_
  rw [hsl] at e1 ⊢
  have hP1 := hP.1.set ws2_D (show (wsOf2 G E S)[a]? = some (G.1 + a, .inr (ci, objF2 G S a ci)) by rw [ws2_at ha.1, ce2_O ha.2]) (e := .inr (ci, (objF2 G S a ci).set k v)) ⟨_, hcl, t_OB.to (V := updV (vp_V (objF2 G S a ci)) k v) ⟨_, e1, q2, q3, t_set q4 hap hk v⟩ (fun j _ => vp_updV_set hl v j)⟩ e3
  rw [ws2_set (k := k) (v := x) (by rw [ce2_O ha.2, hset])] at hP1
  exact kk _ H' _ rfl ⟨hP1, by rw [e2]; exact hP.2⟩ (hS.put e2 e3 (Nat.le_add_right _ _))
theorem q2_iast (X : CallFix p m c cc nL s args q_tbl own) (hK : q_K G s) (hP : q_P2 G E S H) (hS : va_S (fr_ G) H0 H locs) {a n : Nat} (ha : a < E ∧ kd a = (0, n)) {i x : Int32} (hin : vp_in i n) (hdg : decode cc pc = .ok (.iastore, 1))
    (kk : ∀ (S1 : St) (H1 : Heap) (locs1 : List Loc), S1 = su S a (q_rf i) x → q_P2 G E S1 H1 → va_S (fr_ G) H0 H1 locs1 → W p l e R s m args below meth c H1 locs1 cells slots Q (F0 m (pc + 1) ls rest)) : W p l e R s m args below meth c H locs cells slots Q (F0 m pc ls (.int x :: .int i :: .ref (G.1 + a) :: rest)) := by
  have he := hP.1 a _ (show (wsOf2 G E S)[a]? = some (G.1 + a, .inl (G.2.2 0, n, .inl (S a))) by rw [ws2_at ha.1, ce2_I ha.2])
  refine W.iast X.1 X.2.1 he ((hK.2 0 _ rfl).1 n (fun j => .int (S a j))) (fun q => by cases q) (by show ¬ (i < 0 ∨ (arrV _ _ _).slots.size ≤ _); rw [arrV_size]; exact hin) rfl rfl hdg fun H1 e z oq => ?_
  have hP1 := hP.1.set ws2_D (show (wsOf2 G E S)[a]? = some (G.1 + a, .inl (G.2.2 0, n, .inl (S a))) by rw [ws2_at ha.1, ce2_I ha.2]) (e := .inl (G.2.2 0, n, .inl (upd (S a) i.toNatClampNeg x))) (by
    show H1[G.1 + a]? = some (vp_cell _ _)
    rw [e]
    rw [vp_cell_i, vp_cell_i, arrV_store]
    congr 2
    funext q
    by_cases hq : q = i.toNatClampNeg
    · subst hq
      simp [updV, upd]
    · simp [updV, upd, hq]) oq
  rw [ws2_set (k := q_rf i) (v := x) (by rw [ce2_I ha.2, su_eq]; rfl)] at hP1
  exact kk _ H1 _ rfl ⟨hP1, by rw [z]; exact hP.2⟩ (hS.put z oq (Nat.le_add_right _ _))
theorem q2_aast (X : CallFix p m c cc nL s args q_tbl own) (hK : q_K G s) (hP : q_P2 G E S H) (hS : va_S (fr_ G) H0 H locs) {a b n : Nat} (ha : a < E ∧ kd a = (2, n)) (hb : b < E ∧ kd b = (3, 2)) {i : Int32} (hin : vp_in i n) (hdg : decode cc pc = .ok (.aastore, 1))
    (kk : ∀ (S1 : St) (H1 : Heap) (locs1 : List Loc), S1 = su S a (q_rf i) (nI b) → q_P2 G E S1 H1 → va_S (fr_ G) H0 H1 locs1 → W p l e R s m args below meth c H1 locs1 cells slots Q (F0 m (pc + 1) ls rest)) : W p l e R s m args below meth c H locs cells slots Q (F0 m pc ls (.ref (G.1 + b) :: .int i :: .ref (G.1 + a) :: rest)) := by
  have hlt : i.toNatClampNeg < n := Nat.not_le.mp fun q => hin (Or.inr q)
  have h0 : ¬ i < 0 := fun q => hin (Or.inl q)
  have hb31 : b < 2 ^ 31 := by
    have h1 : b < 242 := by
      have hkb := hb.2
      unfold kd at hkb
      rcases Nat.lt_or_ge b 242 with h | h
      · exact h
      · rw [List.getD_eq_getElem?_getD, List.getElem?_eq_none (by rw [show kdTab.length = 242 by decide +kernel]; exact h)] at hkb
        cases hkb
    omega
  have he := hP.1 a _ (show (wsOf2 G E S)[a]? = some (G.1 + a, .inl (G.2.2 2, n, .inr (.inr (.inr (.inr (fun j => q_or G (S a j))))))) by rw [ws2_at ha.1, ce2_R ha.2])
  obtain ⟨r', hr', cellV, g1, g2, g3, -⟩ := hP.1 b _ (show (wsOf2 G E S)[b]? = some (G.1 + b, .inr (2, objF2 G S b 2)) by rw [ws2_at hb.1, ce2_O hb.2])
  have hcls := (hK.1 2 (RX3, TX3, 3) rfl).2
  obtain ⟨kA, comp, k1, k2, k3, -⟩ := (hK.2 2 _ rfl).2
  have hcomp : comp = G.2.1.1 2 := Option.some.inj (k3.symm.trans hcls.1)
  subst hcomp
  obtain ⟨kC, hkC, -⟩ := hcls.2
  refine W.aast X.1 X.2.1 he (fun q h => by cases h) (fun h => by cases h) k1 k2 rfl hkC ⟨h0, by show _ < (arrV _ _ _).slots.size; rw [arrV_size]; exact hlt⟩ g1 (fun q h => by rw [g3] at h; cases h) (by rw [g2]; exact hkC) (by rw [g2]; exact va_assign hcls) rfl rfl hdg fun H1 e z oq => ?_
  have hP1 := hP.1.set ws2_D (show (wsOf2 G E S)[a]? = some (G.1 + a, .inl (G.2.2 2, n, .inr (.inr (.inr (.inr (fun j => q_or G (S a j))))))) by rw [ws2_at ha.1, ce2_R ha.2]) (e := .inl (G.2.2 2, n, .inr (.inr (.inr (.inr (fun j => q_or G (su S a (q_rf i) (nI b) a j))))))) (by
    show H1[G.1 + a]? = some (vp_cell _ _)
    rw [e]
    rw [vp_cell_q, vp_cell_q, arrV_store]
    congr 2
    funext q
    by_cases hq : q = i.toNatClampNeg
    · subst hq
      simp [updV, su, upd, q_rf, q_or_nI hb31, va_rf]
    · simp [updV, su, upd, q_rf, hq]) oq
  rw [ws2_set (k := q_rf i) (v := nI b) (by rw [ce2_R ha.2])] at hP1
  exact kk _ H1 _ rfl ⟨hP1, by rw [z]; exact hP.2⟩ (hS.put z oq (Nat.le_add_right _ _))
theorem q2_new (X : CallFix p m c cc nL s args q_tbl own) (hK : q_K G s) (hP : q_P2 G E S H) (hS : va_S (fr_ G) H0 H locs) (hH0 : G.1 ≤ H0.size) {C : String} {T : u_T} {N ci index : Nat} (hcl : vwCl[ci]? = some (C, T, N)) (hin : ∀ w ∈ u_ws C T N, w ∈ q_tbl) (ty : Nat → FieldType) (hty : ∀ k, k < N → parseFieldDescriptor (T k).2.2.1 = some (ty k)) (hE : kd E = (3, ci)) (f : Nat → Int32) (hfs : ∀ j, j < N → defaultValue (ty j) = vp_V (objF2 G (sn S E f) E ci) j)
    (hclk : Cond.classLink own index C ∈ q_tbl) (hinst : Cond.instantiable C N ∈ q_tbl) (hini : Cond.initialized C ∈ q_tbl) (hcells : cells + 1 ≤ R.cells) (hslots : slots + N ≤ R.slots) (hdg : decode cc pc = .ok (.new index, 3))
    (kk : ∀ (S1 : St) (H1 : Heap), S1 = sn S E f → q_P2 G (E + 1) S1 H1 → va_S (fr_ G) H0 H1 locs →
      W p l e R s m args below meth c H1 locs (cells + 1) (slots + N) Q (F0 m (pc + 3) ls (.ref (G.1 + E) :: rest))) : W p l e R s m args below meth c H locs cells slots Q (F0 m pc ls rest) := by
  have hKn := hK.1 ci _ hcl
  refine W.newcK X.1 X.2.1 X.2.2.2.1 (X.2.2.2.2 _ hclk) (X.2.2.2.2 _ hinst) (X.2.2.2.2 _ hini) rfl hdg hcells hslots hKn.2.1 hP.2 fun H1 kC hkC e1 z1 o1 => ?_
  have hk : ∀ (k : Nat) (x : Nat × va_E), (wsOf2 G E S)[k]? = some x → H1[x.1]? = H[x.1]? := fun k x hx => o1 x.1 (by rw [← hP.2]; exact (hP.1 k x hx).lt)
  refine kk _ H1 rfl ⟨?_, by rw [z1]; omega⟩ ⟨Nat.le_trans hS.1 (by rw [z1, hP.2]; omega), fun x h1 h2 => (o1 x (by rw [← hP.2]; exact Nat.lt_of_lt_of_le h1 hS.1)).trans (hS.2.1 x h1 h2), hS.2.2⟩
  rw [← ws2_push]
  refine (hP.1.kept hk).app (fun k x hx => ?_)
  have hz : k < 1 := (List.getElem?_eq_some_iff.mp hx).1
  rw [show k = 0 by omega] at hx
  cases hx
  show va_at _ _ (G.1 + E, cellE2 G (sn S E f) E) H1
  rw [ce2_O hE]
  exact ⟨_, hcl, (u_born ty X.2.2.2.2 hin hKn hkC e1 hty).to hfs⟩
theorem q2_newi (X : CallFix p m c cc nL s args q_tbl own) (hK : q_K G s) (hP : q_P2 G E S H) (hS : va_S (fr_ G) H0 H locs) {n : Int32} {N : Nat} (hE : kd E = (0, N)) (harr : Cond.arrayClass .int ∈ q_tbl) (hn : ¬ n < 0) (hN : n.toNatClampNeg = N) (hb : N * 4 ≤ 536870912) (hcells : cells + 1 ≤ R.cells) (hslots : slots + N ≤ R.slots) (hdg : decode cc pc = .ok (.newarray .int, 2))
    (kk : ∀ (S1 : St) (H1 : Heap), S1 = sn S E (fun _ => 0) → q_P2 G (E + 1) S1 H1 → va_S (fr_ G) H0 H1 locs →
      W p l e R s m args below meth c H1 locs (cells + 1) (slots + N) Q (F0 m (pc + 2) ls (.ref (G.1 + E) :: rest))) : W p l e R s m args below meth c H locs cells slots Q (F0 m pc ls (.int n :: rest)) := by
  refine va_newaK X.1 X.2.1 (atype := .int) (X.2.2.2.2 _ harr) rfl hdg rfl hn hN hb hcells hslots hP.2 fun H1 cA e1 z1 o1 hAr hNm => ?_
  have hc : cA = G.2.2 0 := Option.some.inj (hNm.symm.trans (hK.2 0 _ rfl).2)
  subst hc
  have hk : ∀ (k : Nat) (x : Nat × va_E), (wsOf2 G E S)[k]? = some x → H1[x.1]? = H[x.1]? := fun k x hx => o1 x.1 (by rw [← hP.2]; exact (hP.1 k x hx).lt)
  refine kk _ H1 rfl ⟨?_, by rw [z1]; omega⟩ ⟨Nat.le_trans hS.1 (by rw [z1, hP.2]; omega), fun x h1 h2 => (o1 x (by rw [← hP.2]; exact Nat.lt_of_lt_of_le h1 hS.1)).trans (hS.2.1 x h1 h2), hS.2.2⟩
  rw [← ws2_push]
  refine (hP.1.kept hk).app (fun k x hx => ?_)
  have hz : k < 1 := (List.getElem?_eq_some_iff.mp hx).1
  rw [show k = 0 by omega] at hx
  cases hx
  show va_at _ _ (G.1 + E, cellE2 G (sn S E (fun _ => 0)) E) H1
  rw [ce2_I hE, sn_eq]
  exact e1
theorem q2_newz (X : CallFix p m c cc nL s args q_tbl own) (hK : q_K G s) (hP : q_P2 G E S H) (hS : va_S (fr_ G) H0 H locs) {n : Int32} {N : Nat} (hE : kd E = (1, N)) (harr : Cond.arrayClass .boolean ∈ q_tbl) (hn : ¬ n < 0) (hN : n.toNatClampNeg = N) (hb : N * 1 ≤ 536870912) (hcells : cells + 1 ≤ R.cells) (hslots : slots + N ≤ R.slots) (hdg : decode cc pc = .ok (.newarray .boolean, 2))
    (kk : ∀ (S1 : St) (H1 : Heap), S1 = sn S E (fun _ => 0) → q_P2 G (E + 1) S1 H1 → va_S (fr_ G) H0 H1 locs →
      W p l e R s m args below meth c H1 locs (cells + 1) (slots + N) Q (F0 m (pc + 2) ls (.ref (G.1 + E) :: rest))) : W p l e R s m args below meth c H locs cells slots Q (F0 m pc ls (.int n :: rest)) := by
  refine va_newaK X.1 X.2.1 (atype := .boolean) (X.2.2.2.2 _ harr) rfl hdg rfl hn hN hb hcells hslots hP.2 fun H1 cA e1 z1 o1 hAr hNm => ?_
  have hc : cA = G.2.2 1 := Option.some.inj (hNm.symm.trans (hK.2 1 _ rfl).2)
  subst hc
  have hk : ∀ (k : Nat) (x : Nat × va_E), (wsOf2 G E S)[k]? = some x → H1[x.1]? = H[x.1]? := fun k x hx => o1 x.1 (by rw [← hP.2]; exact (hP.1 k x hx).lt)
  refine kk _ H1 rfl ⟨?_, by rw [z1]; omega⟩ ⟨Nat.le_trans hS.1 (by rw [z1, hP.2]; omega), fun x h1 h2 => (o1 x (by rw [← hP.2]; exact Nat.lt_of_lt_of_le h1 hS.1)).trans (hS.2.1 x h1 h2), hS.2.2⟩
  rw [← ws2_push]
  refine (hP.1.kept hk).app (fun k x hx => ?_)
  have hz : k < 1 := (List.getElem?_eq_some_iff.mp hx).1
  rw [show k = 0 by omega] at hx
  cases hx
  show va_at _ _ (G.1 + E, cellE2 G (sn S E (fun _ => 0)) E) H1
  rw [ce2_Z hE, sn_eq]
  exact e1
theorem q2_newr (X : CallFix p m c cc nL s args q_tbl own) (hK : q_K G s) (hN0 : q_N s) (hP : q_P2 G E S H) (hS : va_S (fr_ G) H0 H locs) {n : Int32} {N index : Nat} (hE : kd E = (2, N)) (hclk : Cond.classLink own index RX3 ∈ q_tbl) (hn : ¬ n < 0) (hN : n.toNatClampNeg = N) (hb : N * 4 ≤ 536870912) (hcells : cells + 1 ≤ R.cells) (hslots : slots + N ≤ R.slots) (hdg : decode cc pc = .ok (.anewarray index, 3))
    (kk : ∀ (S1 : St) (H1 : Heap), S1 = sn S E (fun _ => -1) → q_P2 G (E + 1) S1 H1 → va_S (fr_ G) H0 H1 locs →
      W p l e R s m args below meth c H1 locs (cells + 1) (slots + N) Q (F0 m (pc + 3) ls (.ref (G.1 + E) :: rest))) : W p l e R s m args below meth c H locs cells slots Q (F0 m pc ls (.int n :: rest)) := by
  subst hN
  refine W.anew X.1 X.2.1 X.2.2.2.1 (X.2.2.2.2 _ hclk) (va_AO.use hN0.1) rfl hdg rfl hn hb hcells hslots fun cA kA comp f1 f2 f3 f4 => ?_
  obtain ⟨kA', comp', k1, k2, k3, k4⟩ := (hK.2 2 _ rfl).2
  have hc : cA = G.2.2 2 := Option.some.inj (f1.symm.trans k4)
  subst hc
  rw [hP.2]
  generalize hH1 : H.push ({ cls := G.2.2 2, slots := Array.replicate n.toNatClampNeg .null, vm := .none } : Cell) = H1
  have z1 : H1.size = H.size + 1 := by rw [← hH1, Array.size_push]
  have e1 : H1[H.size]? = some (arrV (G.2.2 2) n.toNatClampNeg (fun _ => .null)) := by rw [← hH1, Array.getElem?_push_size, ← arrV_new]
  have o1 : ∀ q : Nat, q < H.size → H1[q]? = H[q]? := fun q hq => by rw [← hH1, Array.getElem?_push, if_neg (Nat.ne_of_lt hq)]
  have hk : ∀ (k : Nat) (x : Nat × va_E), (wsOf2 G E S)[k]? = some x → H1[x.1]? = H[x.1]? := fun k x hx => o1 x.1 ((hP.1 k x hx).lt)
  refine kk _ H1 rfl ⟨?_, by rw [z1, hP.2]; omega⟩ ⟨Nat.le_trans hS.1 (by rw [z1]; omega), fun x h1 h2 => (o1 x (Nat.lt_of_lt_of_le h1 hS.1)).trans (hS.2.1 x h1 h2), hS.2.2⟩
  rw [← ws2_push]
  refine (hP.1.kept hk).app (fun k x hx => ?_)
  have hz : k < 1 := (List.getElem?_eq_some_iff.mp hx).1
  rw [show k = 0 by omega] at hx
  cases hx
  show va_at _ _ (G.1 + E, cellE2 G (sn S E (fun _ => -1)) E) H1
  rw [ce2_R hE, sn_eq]
  show H1[G.1 + E]? = some (vp_cell _ _)
  rw [vp_cell_q, ← hP.2, e1]
  simp [q_or_m1, va_rf]
theorem q2_call {Rt : Type} {val : Rt → Option Value} {K : Rt → St → Prop} {st0 : List Value} {a : Array Value} {mc ms E' : Nat} (hr : va_Run p l e R s m args below meth c H locs cells slots mc ms (F0 m pc ls st0) rest (q_Qc2 G E' K val a) (fr_ G)) (hS : va_S (fr_ G) H0 H locs)
    (kk : ∀ (r : Rt) (S' : St) (H1 : Heap) (locs1 : List Loc), K r S' → q_P2 G E' S' H1 → va_S (fr_ G) H0 H1 locs1 → W p l e R s m args below meth c H1 locs1 (cells + mc) (slots + ms) Q (F0 m (pc + 3) ls ((val r).toList ++ rest))) : W p l e R s m args below meth c H locs cells slots Q (F0 m pc ls st0) := by
  intro T hT X
  obtain ⟨v, st₀, t, T', L, h0, X', hL, e1, e2, ⟨⟨r, S', hv, hk, hP⟩, hz, hkp⟩, st⟩ := hr T hT X
  cases hv
  rw [h0] at hz hkp
  obtain ⟨t2, a1, b1⟩ := kk r S' T'.heap (locs ++ L) hk (by rw [e1]; exact hP)
    ⟨Nat.le_trans hS.1 (by rw [e1]; exact hz), fun q h1 h2 => by rw [e1, hkp q (Nat.lt_of_lt_of_le h1 hS.1) h2]; exact hS.2.1 q h1 h2, fun q hq => by
      rcases List.mem_append.mp hq with h | h
      · exact hS.2.2 q h
      · exact hL q h⟩ T' rfl X'
  exact ⟨t2, st t2 a1, b1⟩
theorem q2_cb {y : MethodName} {cb : ByteArray} {n' fr lo mc ms idx k : Nat} {ret : Option FieldType} (X : CallFix p m c cc nL s args q_tbl own) (hy : q_B y cb n' ret k) (hlink : Cond.methodLink own idx y ∈ q_tbl) (hR : fr + 1 ≤ R.frames ∧ 8 + (n' + 11) + lo ≤ R.locals) :
    CallB R s args own idx y cb n' ret (q_ws y cb n' ret) (q_rm fr lo mc ms) mc ms k :=
  callB_of (Ts := q_tbl) k X.2.2.2.2 (q_goodIn (fun _ h => h) hy.1) rfl rfl rfl (X.2.2.2.2 _ hy.2.1) (X.2.2.2.2 _ hlink) hy.2.2 hR
theorem q2_callS {Rt : Type} {val : Rt → Option Value} {K : Rt → St → Prop} {y : MethodName} {cb : ByteArray} {n' fr lo mc ms E' idx k : Nat} {ret : Option FieldType} {As st0 : List Value}
    (X : CallFix p m c cc nL s args q_tbl own) (hK : q_K G s) (hN : q_N s) (hP : q_P2 G E S H) (hS : va_S (fr_ G) H0 H locs) (hM : q_Met2 l y cb n' ret fr lo mc ms G As val E E' S K) (hy : q_S y cb n' ret k)
    (hlink : Cond.methodLink own idx y ∈ q_tbl) (hdg : decode cc pc = .ok (.invokestatic idx, 3)) (hn : As.length = k) (hR : fr + 1 ≤ R.frames ∧ 8 + (n' + 11) + lo ≤ R.locals) (hls : ls.size = nL) (hst : st0 = As.reverse ++ rest) (hcat : (rest.map fun v => v.category).sum ≤ 8) (hroom : cells + mc ≤ R.cells ∧ slots + ms ≤ R.slots)
    (kk : ∀ (r : Rt) (S' : St) (H1 : Heap) (locs1 : List Loc), K r S' → q_P2 G E' S' H1 → va_S (fr_ G) H0 H1 locs1 → W p l e R s m args below meth c H1 locs1 (cells + mc) (slots + ms) Q (F0 m (pc + 3) ls ((val r).toList ++ rest))) : W p l e R s m args below meth c H locs cells slots Q (F0 m pc ls st0) := by
  subst hst
  exact q2_call (va_runS (As := As) (rest := rest) X hM ⟨q2_cb X hy.1 hlink hR, X.2.2.2.2 _ hy.2⟩ ⟨q_blind2, fun U hU hW => ⟨rfl, by rw [hU]; exact hP, va_K.moved hW.alike hK, hN.warm hW⟩⟩ rfl hn hls rfl (lv_room hcat) hdg hroom) hS kk
theorem q2_callV {Rt : Type} {val : Rt → Option Value} {K : Rt → St → Prop} {y : MethodName} {cb : ByteArray} {n' fr lo mc ms E' idx k : Nat} {ret : Option FieldType} {As st0 : List Value} {b ci : Nat} {r : vw_C}
    (X : CallFix p m c cc nL s args q_tbl own) (hK : q_K G s) (hN : q_N s) (hP : q_P2 G E S H) (hS : va_S (fr_ G) H0 H locs) (hM : q_Met2 l y cb n' ret fr lo mc ms G (.ref (G.1 + b) :: As) val E E' S K) (hy : q_V y cb n' ret k)
    (hlink : Cond.methodLink own idx y ∈ q_tbl) (hdg : decode cc pc = .ok (.invokevirtual idx, 3)) (hb : b < E ∧ kd b = (3, ci)) (hcl : vwCl[ci]? = some r) (hrc : r.1 = y.cls) (hn : As.length = k) (hR : fr + 1 ≤ R.frames ∧ 8 + (n' + 11) + lo ≤ R.locals) (hls : ls.size = nL) (hst : st0 = As.reverse ++ .ref (G.1 + b) :: rest) (hcat : (rest.map fun v => v.category).sum ≤ 8) (hroom : cells + mc ≤ R.cells ∧ slots + ms ≤ R.slots)
    (kk : ∀ (r : Rt) (S' : St) (H1 : Heap) (locs1 : List Loc), K r S' → q_P2 G E' S' H1 → va_S (fr_ G) H0 H1 locs1 → W p l e R s m args below meth c H1 locs1 (cells + mc) (slots + ms) Q (F0 m (pc + 3) ls ((val r).toList ++ rest))) : W p l e R s m args below meth c H locs cells slots Q (F0 m pc ls st0) := by
  subst hst
  have hrv := va_recv hK hP.1 hcl (q0 := b) (by rw [ws2_at hb.1, ce2_O hb.2])
  rw [hrc] at hrv
  exact q2_call (va_runV (As := As) (rest := rest) X hM ⟨q2_cb X hy.1 hlink hR, X.2.2.2.2 _ hy.2.1, X.2.2.2.2 _ hy.2.2⟩ ⟨q_blind2, hrv, fun U hU hW => ⟨rfl, by rw [hU]; exact hP, va_K.moved hW.alike hK, hN.warm hW⟩⟩ rfl hn hls rfl (lv_room hcat) hdg hroom) hS kk
/-- what the table says of a maker -/
def q_I (y : MethodName) (cb : ByteArray) (n : Nat) (k : Nat) : Prop := q_B y cb n none k ∧ y.name = "<init>" ∧ Cond.instanceMethod y ∈ q_tbl
theorem q2_callI {Rt : Type} {val : Rt → Option Value} {K : Rt → St → Prop} {y : MethodName} {cb : ByteArray} {n' fr lo mc ms E' idx k : Nat} {As st0 : List Value} {b : Nat}
    (X : CallFix p m c cc nL s args q_tbl own) (hK : q_K G s) (hN : q_N s) (hP : q_P2 G E S H) (hS : va_S (fr_ G) H0 H locs) (hM : q_Met2 l y cb n' none fr lo mc ms G (.ref (G.1 + b) :: As) val E E' S K) (hy : q_I y cb n' k)
    (hlink : Cond.methodLink own idx y ∈ q_tbl) (hdg : decode cc pc = .ok (.invokespecial idx, 3)) (hn : As.length = k) (hR : fr + 1 ≤ R.frames ∧ 8 + (n' + 11) + lo ≤ R.locals) (hls : ls.size = nL) (hst : st0 = As.reverse ++ .ref (G.1 + b) :: rest) (hcat : (rest.map fun v => v.category).sum ≤ 8) (hroom : cells + mc ≤ R.cells ∧ slots + ms ≤ R.slots)
    (kk : ∀ (r : Rt) (S' : St) (H1 : Heap) (locs1 : List Loc), K r S' → q_P2 G E' S' H1 → va_S (fr_ G) H0 H1 locs1 → W p l e R s m args below meth c H1 locs1 (cells + mc) (slots + ms) Q (F0 m (pc + 3) ls ((val r).toList ++ rest))) : W p l e R s m args below meth c H locs cells slots Q (F0 m pc ls st0) := by
  subst hst
  exact q2_call (va_runI (As := As) (rest := rest) X hM ⟨q2_cb X hy.1 hlink hR, hy.2.1, X.2.2.2.2 _ hy.2.2⟩ ⟨q_blind2, fun U hU hW => ⟨rfl, by rw [hU]; exact hP, va_K.moved hW.alike hK, hN.warm hW⟩⟩ rfl hn hls rfl (lv_room hcat) hdg hroom) hS kk
theorem q2_callN {Rt : Type} {val : Rt → Option Value} {K : Rt → St → Prop} {y : MethodName} {cb : ByteArray} {n' fr lo mc ms E' idx k : Nat} {host : String} {As st0 : List Value} {b : Nat}
    (X : CallFix p m c cc nL s args q_tbl own) (hK : q_K G s) (hN : q_N s) (hP : q_P2 G E S H) (hS : va_S (fr_ G) H0 H locs) (hM : q_Met2 l y cb n' none fr lo mc ms G (.ref (G.1 + b) :: As) val E E' S K) (hy : q_I y cb n' k)
    (hlink : va_Nw (.methodLinkNest own idx y host) s) (hdg : decode cc pc = .ok (.invokespecial idx, 3)) (hn : As.length = k) (hR : fr + 1 ≤ R.frames ∧ 8 + (n' + 11) + lo ≤ R.locals) (hls : ls.size = nL) (hst : st0 = As.reverse ++ .ref (G.1 + b) :: rest) (hcat : (rest.map fun v => v.category).sum ≤ 8) (hroom : cells + mc ≤ R.cells ∧ slots + ms ≤ R.slots)
    (kk : ∀ (r : Rt) (S' : St) (H1 : Heap) (locs1 : List Loc), K r S' → q_P2 G E' S' H1 → va_S (fr_ G) H0 H1 locs1 → W p l e R s m args below meth c H1 locs1 (cells + mc) (slots + ms) Q (F0 m (pc + 3) ls ((val r).toList ++ rest))) : W p l e R s m args below meth c H locs cells slots Q (F0 m pc ls st0) := by
  subst hst
  exact q2_call (va_runIN (As := As) (rest := rest) X hM ⟨va_cnB (Ts := q_tbl) k X.2.2.2.2 (q_goodIn (fun _ h => h) hy.1.1) rfl rfl rfl hlink (X.2.2.2.2 _ hy.1.2.1) hy.1.2.2 hR, hy.2.1, X.2.2.2.2 _ hy.2.2⟩ ⟨q_blind2, fun U hU hW => ⟨rfl, by rw [hU]; exact hP, va_K.moved hW.alike hK, hN.warm hW⟩⟩ rfl hn hls rfl (lv_room hcat) hdg hroom) hS kk
theorem q2_vret {K : Unit → St → Prop} {mc ms : Nat} (X : CallFix p m c cc nL s args q_tbl own) (hr : meth.sig.returnType = none) (hlocks : meth.locks = false) (hP : q_P2 G E S H) (hS : va_S (fr_ G) s.heap H locs) (hk : K () S) (hc : cells ≤ mc) (hs : slots ≤ ms) (hdg : decode cc pc = .ok (.return_, 1)) :
    W p l e R s m args below meth c H locs cells slots (MQ below (q_Qc2 G E K v_v) args s mc ms (fr_ G)) (F0 m pc ls []) :=
  W.widen hc hs (W.vret X.1 X.2.1 hr (fun t ht _ => ⟨⟨(), S, rfl, hk, by rw [ht]; exact hP⟩, hS.F ht⟩) hS.2.2 hdg hlocks)
theorem q2_iret {K : Int32 → St → Prop} {v : Int32} {ty : FieldType} {mc ms : Nat} (X : CallFix p m c cc nL s args q_tbl own) (hr : meth.sig.returnType = some ty) (hlocks : meth.locks = false) (hP : q_P2 G E S H) (hS : va_S (fr_ G) s.heap H locs) (hn : narrow ty (.int v) = .int v) (hk : K v S) (hc : cells ≤ mc) (hs : slots ≤ ms) (hdg : decode cc pc = .ok (.ireturn, 1)) :
    W p l e R s m args below meth c H locs cells slots (MQ below (q_Qc2 G E K v_i) args s mc ms (fr_ G)) (F0 m pc ls [.int v]) :=
  W.widen hc hs (W.zret X.1 X.2.1 hr hn (fun t ht _ => ⟨⟨v, S, rfl, hk, by rw [ht]; exact hP⟩, hS.F ht⟩) hS.2.2 hdg hlocks)
end QR2
def q_W2 (p : Program) (l : Launch) (e : Env) (R : Room) (s : State) (m : MethodId) (args : Array Value) (below : List Frame) (meth : Method) (c : Code) (mc ms ca sa : Nat) (Q : State → Prop) (G : Cx) (pc : Nat) (ls : Array Slot) (st : List Value) (E : Nat) (S : St) : Prop :=
  ∀ (H : Heap) (locs : List Loc) (cells slots : Nat), cells + ca ≤ mc → slots + sa ≤ ms → q_P2 G E S H → va_S (fr_ G) s.heap H locs → W p l e R s m args below meth c H locs cells slots Q (F0 m pc ls st)
