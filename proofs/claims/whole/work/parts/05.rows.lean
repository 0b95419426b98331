/-! rows over a state S of all cells: q_P holds it in a heap, q_K knows the classes -/
abbrev q_P (G : Cx) (S : St) (H : Heap) : Prop := va_P G.2.1 vwCl (wsOf G S) H
abbrev q_K (G : Cx) (U : State) : Prop := va_K G.2.1 vwCl (tysOf G) U
abbrev q_Pc (G : Cx) (av : List Value) (S : St) : Array Value → State → Prop := va_Pc av (fun U => q_P G S U.heap ∧ q_K G U)
def q_Qc {Rt : Type} (G : Cx) (K : Rt → St → Prop) (val : Rt → Option Value) : Array Value → State → Outcome → State → Prop := fun _ st oc t => (∃ (r : Rt) (S' : St), oc = .returned (val r) ∧ K r S' ∧ q_P G S' t.heap) ∧ va_F (fr_ G) st t
def q_Met {Rt : Type} (l : Launch) (y : MethodName) (cb : ByteArray) (n : Nat) (ret : Option FieldType) (fr lo : Nat) (G : Cx) (av : List Value) (val : Rt → Option Value) (S : St) (K : Rt → St → Prop) : Prop :=
  Met l y (q_ws y cb n ret) (k2_rm fr lo) (q_Pc G av S) (q_Qc G K val) 0 0 (fr_ G)
abbrev v_i : Int32 → Option Value := fun r => some (.int r)
abbrev v_l : Int64 → Option Value := fun r => some (.long r)
abbrev v_v : Unit → Option Value := fun _ => none
abbrev v_q (G : Cx) : Option Nat → Option Value := fun r => some (va_re (fun y => G.1 + y) r)
theorem q_blind {G : Cx} {av : List Value} {S : St} : FrameBlind (q_Pc G av S) := fun a U g mk q => by
  obtain ⟨q0, qP, qK⟩ := q
  exact ⟨q0, qP, va_K.moved (u := U) (U := U.calling g mk a) (Vm.Alike.refl U.vm) qK⟩
/-- loops: a body over its own end, so many times -/
def q_it {β : Type} (bot : β) (F : β → β) : Nat → β
  | 0 => bot
  | n + 1 => F (q_it bot F n)
/-- what the table says of a method -/
def q_B (y : MethodName) (cb : ByteArray) (n : Nat) (ret : Option FieldType) (k : Nat) : Prop :=
  Cond.code y cb n ret ∈ q_tbl ∧ Cond.initialized y.cls ∈ q_tbl ∧ (y.cls ≠ "java/lang/invoke/MethodHandle" ∧ y.cls ≠ "java/lang/invoke/VarHandle" ∧ (parseMethodDescriptor y.desc).map (fun d => d.parameters.length) = some k)
def q_V (y : MethodName) (cb : ByteArray) (n : Nat) (ret : Option FieldType) (k : Nat) : Prop := q_B y cb n ret k ∧ Cond.instanceMethod y ∈ q_tbl ∧ Cond.selects y.cls y y ∈ q_tbl
def q_S (y : MethodName) (cb : ByteArray) (n : Nat) (ret : Option FieldType) (k : Nat) : Prop := q_B y cb n ret k ∧ Cond.static y ∈ q_tbl
theorem q_ofW {y : MethodName} {l : Launch} {ws ws' : List Cond} {rm : Room} {Pc : Array Value → State → Prop} {Qc : Array Value → State → Outcome → State → Prop} {mc ms : Nat} {free : Addr → Prop} {cc : ByteArray} {maxL : Nat} {ret : Option FieldType}
    (hy : plainFor y = true) (hw : ws = Cond.code y cc maxL ret :: ws')
    (body : ∀ p e s m args below meth c s₁, BodyLoose p l y (headSpec ws rm) cc maxL ret e s m args below meth c s₁ → c.maxLocals = maxL → Pc args s →
      W p l e (headSpec ws rm).room s m args below meth c s.heap [] 0 0 (MQ below Qc args s mc ms free) (entryFrame m args maxL)) : Met l y ws rm Pc Qc mc ms free := by
  refine MetFree.of_bodySF (code := cc) (maxLocals := maxL) (ret := ret) hy ?_ ?_
  · intro args s m h hn
    obtain ⟨meth, c, h1, h2, h3, h4, h5, h6, -, -⟩ := Cond.code_spec hn (atoms_spec (ws := ws) h _ (by rw [hw]; exact List.mem_cons_self))
    exact ⟨meth, c, h1, h2, h3, h4, h5, h6⟩
  · intro p e s m args below meth c s₁ B hml hP _
    have hh0 : s₁.heap = s.heap := by rw [B.state]; rfl
    obtain ⟨t, a1, o, b1, b2, b3⟩ := body p e s m args below meth c s₁ B hml hP s₁ hh0 (Stand.of_body B)
    exact ⟨t, o, a1, b1, b2, ⟨b3.1, b3.2⟩⟩
theorem q_enter {Rt : Type} {l : Launch} {G : Cx} {S : St} {K : Rt → St → Prop} {val : Rt → Option Value} {y : MethodName} {cb : ByteArray} {n fr lo : Nat} {ret : Option FieldType} {av : List Value} (hy : plainFor y = true) (hn : (lg_sl av).length ≤ n)
    (body : ∀ (p : Program) (e : Env) (s : State) (m : MethodId) (args : Array Value) (below : List Frame) (meth : Method) (c : Code) (ls : Array Slot), CallFix p m c cb n s args q_tbl y.cls → q_K G s → q_P G S s.heap → meth.sig.returnType = ret → meth.locks = false → lv_has ls n (lv_args 0 av) →
      W p l e (k2_rm fr lo) s m args below meth c s.heap [] 0 0 (MQ below (q_Qc G K val) args s 0 0 (fr_ G)) (F0 m 0 ls [])) : q_Met l y cb n ret fr lo G av val S K := by
  unfold q_Met
  refine q_ofW (cc := cb) (maxL := n) (ret := ret) hy rfl ?_
  intro p e s m args below meth c s₁ B hml hv
  obtain ⟨rfl, hP, hK⟩ := hv
  have hts := atoms_spec (ws := q_ws y cb n ret) B.pre
  have hown : s.vm.findClass y.cls = some m.cls := findClass_of_methodNamed B.named
  have hl := lv_entry av (n := n) hn
  rw [lg_entry_eq]
  exact body p e s m _ below meth c _ ⟨B.exec, B.bytes, hml, hown, fun w hw => hts w (List.mem_cons_of_mem _ hw)⟩ hK hP B.returns B.notSynchronized hl
section QR
variable {p : Program} {l : Launch} {e : Env} {R : Room} {s : State} {m : MethodId} {args : Array Value} {below : List Frame} {meth : Method} {c : Code} {H : Heap} {locs : List Loc} {cells slots : Nat} {Q : State → Prop}
variable {cc : ByteArray} {pc nL : Nat} {ls : Array Slot} {rest : List Value} {G : Cx} {S : St} {H0 : Heap} {own : String}
theorem q_get (X : CallFix p m c cc nL s args q_tbl own) (hK : q_K G s) (hP : q_P G S H) (a ci k : Nat) {C : String} {T : u_T} {N index : Nat} (hcl : vwCl[ci]? = some (C, T, N)) (hin : ∀ w ∈ u_ws C T N, w ∈ q_tbl) (ha : a < 242 ∧ kd a = (3, ci)) (hk : k < N)
    (hlink : Cond.fieldLink own index C (T k).2.1 (T k).2.2.1 ∈ q_tbl) (hTk : (T k).1 = C) {v : Value} (hv : (objF G S a ci)[k]? = some v) (hdg : decode cc pc = .ok (.getfield index, 3))
    (kk : W p l e R s m args below meth c H locs cells slots Q (F0 m (pc + 3) ls (v :: rest))) : W p l e R s m args below meth c H locs cells slots Q (F0 m pc ls (.ref (G.1 + a) :: rest)) :=
  va_get X.1 X.2.1 X.2.2.2.2 hin X.2.2.2.1 hK hP a (by rw [ws_at ha.1, ce_O ha.2]) hcl k hk (X.2.2.2.2 _ hlink) (fun x h => by rw [hTk] at h; exact h) hv hdg kk
theorem q_put (X : CallFix p m c cc nL s args q_tbl own) (hK : q_K G s) (hP : q_P G S H) (hS : va_S (fr_ G) H0 H locs) (a ci k : Nat) {C : String} {T : u_T} {N index : Nat} (hcl : vwCl[ci]? = some (C, T, N)) (hin : ∀ w ∈ u_ws C T N, w ∈ q_tbl) (ty0 : Nat → FieldType) (hty : ∀ k, k < N → parseFieldDescriptor (T k).2.2.1 = some (ty0 k)) (hnm : ∀ a, a < N → ∀ b, b < N → a ≠ b → (T a).2.1 ≠ (T b).2.1) (ha : a < 242 ∧ kd a = (3, ci)) (hk : k < N)
    (hlink : Cond.fieldLink own index C (T k).2.1 (T k).2.2.1 ∈ q_tbl) (hTk : (T k).1 = C) (hfin : (T k).2.2.2 = false) {ty : FieldType} {v : Value} (hd : parseFieldDescriptor (T k).2.2.1 = some ty) (hn : narrow ty v = v) (hfit : fits ty v = true) {x : Int32} (hset : (objF G S a ci).set k v = objF G (su S a k x) a ci) (hl : k < (objF G S a ci).length)
    (hdg : decode cc pc = .ok (.putfield index, 3))
    (kk : ∀ (S1 : St) (H1 : Heap) (locs1 : List Loc), S1 = su S a k x → q_P G S1 H1 → va_S (fr_ G) H0 H1 locs1 → W p l e R s m args below meth c H1 locs1 cells slots Q (F0 m (pc + 3) ls rest)) : W p l e R s m args below meth c H locs cells slots Q (F0 m pc ls (v :: .ref (G.1 + a) :: rest)) :=
  va_put X.1 X.2.1 X.2.2.2.2 hin ty0 hty hnm X.2.2.2.1 hK hP ws_D hS a (by rw [ws_at ha.1, ce_O ha.2]) hcl k hk (X.2.2.2.2 _ hlink) (fun x h => by rw [hTk] at h; exact h) hfin hd hn hfit hl hdg
    (fun H1 locs1 hP1 _ hS1 => kk _ H1 locs1 rfl (by rw [ws_set (k := k) (v := x) (by rw [ce_O ha.2, hset])] at hP1; exact hP1) hS1)
theorem q_iald (X : CallFix p m c cc nL s args q_tbl own) (hK : q_K G s) (hP : q_P G S H) {a n : Nat} (ha : a < 242 ∧ kd a = (0, n)) {i : Int32} (hin : vp_in i n) (hdg : decode cc pc = .ok (.iaload, 1))
    (kk : W p l e R s m args below meth c H locs cells slots Q (F0 m (pc + 1) ls (.int (S a (q_rf i)) :: rest))) : W p l e R s m args below meth c H locs cells slots Q (F0 m pc ls (.int i :: .ref (G.1 + a) :: rest)) :=
  va_iald X.1 X.2.1 hK hP a 0 (by rw [ws_at ha.1, ce_I ha.2]) rfl hin hdg kk
theorem q_zald (X : CallFix p m c cc nL s args q_tbl own) (hK : q_K G s) (hP : q_P G S H) {a n : Nat} (ha : a < 242 ∧ kd a = (1, n)) {i : Int32} (hin : vp_in i n) (hdg : decode cc pc = .ok (.baload, 1))
    (kk : W p l e R s m args below meth c H locs cells slots Q (F0 m (pc + 1) ls (.int (S a (q_rf i)) :: rest))) : W p l e R s m args below meth c H locs cells slots Q (F0 m pc ls (.int i :: .ref (G.1 + a) :: rest)) :=
  va_zald X.1 X.2.1 hK hP a 1 (by rw [ws_at ha.1, ce_Z ha.2]) rfl hin hdg kk
theorem q_aald (X : CallFix p m c cc nL s args q_tbl own) (hK : q_K G s) (hP : q_P G S H) {a n : Nat} (ha : a < 242 ∧ kd a = (2, n)) {i : Int32} (hin : vp_in i n) (hdg : decode cc pc = .ok (.aaload, 1))
    (kk : W p l e R s m args below meth c H locs cells slots Q (F0 m (pc + 1) ls (.ref (G.1 + pidx a (q_rf i)) :: rest))) : W p l e R s m args below meth c H locs cells slots Q (F0 m pc ls (.int i :: .ref (G.1 + a) :: rest)) :=
  va_aldq (f := fun j => some (G.1 + pidx a j)) X.1 X.2.1 hK hP a 2 (by rw [ws_at ha.1, ce_R ha.2]) rfl hin hdg kk
theorem q_iast (X : CallFix p m c cc nL s args q_tbl own) (hK : q_K G s) (hP : q_P G S H) (hS : va_S (fr_ G) H0 H locs) {a n : Nat} (ha : a < 242 ∧ kd a = (0, n)) {i x : Int32} (hin : vp_in i n) (hdg : decode cc pc = .ok (.iastore, 1))
    (kk : ∀ (S1 : St) (H1 : Heap) (locs1 : List Loc), S1 = su S a (q_rf i) x → q_P G S1 H1 → va_S (fr_ G) H0 H1 locs1 → W p l e R s m args below meth c H1 locs1 cells slots Q (F0 m (pc + 1) ls rest)) : W p l e R s m args below meth c H locs cells slots Q (F0 m pc ls (.int x :: .int i :: .ref (G.1 + a) :: rest)) :=
  va_iast X.1 X.2.1 hK hP ws_D hS a 0 (by rw [ws_at ha.1, ce_I ha.2]) rfl hin hdg (fun H1 locs1 hP1 _ hS1 => kk _ H1 locs1 rfl (by rw [ws_set (k := q_rf i) (v := x) (by rw [ce_I ha.2, su_eq]; rfl)] at hP1; exact hP1) hS1)
theorem q_zast (X : CallFix p m c cc nL s args q_tbl own) (hK : q_K G s) (hP : q_P G S H) (hS : va_S (fr_ G) H0 H locs) {a n : Nat} (ha : a < 242 ∧ kd a = (1, n)) {i x : Int32} (hin : vp_in i n) (hdg : decode cc pc = .ok (.bastore, 1))
    (kk : ∀ (S1 : St) (H1 : Heap) (locs1 : List Loc), S1 = su S a (q_rf i) (vp_nar .boolean x) → q_P G S1 H1 → va_S (fr_ G) H0 H1 locs1 → W p l e R s m args below meth c H1 locs1 cells slots Q (F0 m (pc + 1) ls rest)) : W p l e R s m args below meth c H locs cells slots Q (F0 m pc ls (.int x :: .int i :: .ref (G.1 + a) :: rest)) :=
  va_zast X.1 X.2.1 hK hP ws_D hS a 1 (by rw [ws_at ha.1, ce_Z ha.2]) rfl hin hdg (fun H1 locs1 hP1 _ hS1 => kk _ H1 locs1 rfl (by rw [ws_set (k := q_rf i) (v := vp_nar .boolean x) (by rw [ce_Z ha.2, su_eq]; rfl)] at hP1; exact hP1) hS1)
theorem q_alen (X : CallFix p m c cc nL s args q_tbl own) (hK : q_K G s) (hP : q_P G S H) {a n : Nat} (ha : a < 242 ∧ kd a = (0, n)) (hdg : decode cc pc = .ok (.arraylength, 1))
    (kk : W p l e R s m args below meth c H locs cells slots Q (F0 m (pc + 1) ls (.int (nI n) :: rest))) : W p l e R s m args below meth c H locs cells slots Q (F0 m pc ls (.ref (G.1 + a) :: rest)) :=
  va_alen (x := (n, .inl (S a))) X.1 X.2.1 hK hP a 0 (by rw [ws_at ha.1, ce_I ha.2]) rfl rfl hdg kk
/-- a call, whatever runs it -/
theorem q_call {Rt : Type} {val : Rt → Option Value} {K : Rt → St → Prop} {st0 : List Value} {a : Array Value} (hr : va_Run p l e R s m args below meth c H locs cells slots 0 0 (F0 m pc ls st0) rest (q_Qc G K val a) (fr_ G)) (hS : va_S (fr_ G) H0 H locs)
    (kk : ∀ (r : Rt) (S' : St) (H1 : Heap) (locs1 : List Loc), K r S' → q_P G S' H1 → va_S (fr_ G) H0 H1 locs1 → W p l e R s m args below meth c H1 locs1 cells slots Q (F0 m (pc + 3) ls ((val r).toList ++ rest))) : W p l e R s m args below meth c H locs cells slots Q (F0 m pc ls st0) := by
  intro T hT X
  obtain ⟨v, st₀, t, T', L, h0, X', hL, e1, e2, ⟨⟨r, S', hv, hk, hP⟩, hz, hkp⟩, st⟩ := hr T hT X
  cases hv
  rw [h0] at hz hkp
  obtain ⟨t2, a1, b1⟩ := kk r S' T'.heap (locs ++ L) hk (by rw [e1]; exact hP)
    ⟨Nat.le_trans hS.1 (by rw [e1]; exact hz), fun q h1 h2 => by rw [e1, hkp q (Nat.lt_of_lt_of_le h1 hS.1) h2]; exact hS.2.1 q h1 h2, fun q hq => by
      rcases List.mem_append.mp hq with h | h
      · exact hS.2.2 q h
      · exact hL q h⟩ T' rfl X'
  exact ⟨t2, st t2 a1, b1⟩
theorem q_recv (hK : q_K G s) (hP : q_P G S H) {b ci : Nat} (hb : b < 242 ∧ kd b = (3, ci)) {r : vw_C} (hcl : vwCl[ci]? = some r) : ∃ cellB : Cell, H[G.1 + b]? = some cellB ∧ cellB.vm.isStatics = false ∧ s.vm.findClass r.1 = some cellB.cls :=
  va_recv hK hP hcl (q0 := b) (by rw [ws_at hb.1, ce_O hb.2])
theorem q_cb {y : MethodName} {cb : ByteArray} {n' fr lo idx k : Nat} {ret : Option FieldType} (X : CallFix p m c cc nL s args q_tbl own) (hy : q_B y cb n' ret k) (hlink : Cond.methodLink own idx y ∈ q_tbl) (hR : fr + 1 ≤ R.frames ∧ 8 + (n' + 11) + lo ≤ R.locals) :
    CallB R s args own idx y cb n' ret (q_ws y cb n' ret) (k2_rm fr lo) 0 0 k :=
  callB_of (Ts := q_tbl) k X.2.2.2.2 (q_goodIn (fun _ h => h) hy.1) rfl rfl rfl (X.2.2.2.2 _ hy.2.1) (X.2.2.2.2 _ hlink) hy.2.2 hR
theorem q_callV {Rt : Type} {val : Rt → Option Value} {K : Rt → St → Prop} {y : MethodName} {cb : ByteArray} {n' fr lo idx k : Nat} {ret : Option FieldType} {As st0 : List Value} {b ci : Nat} {r : vw_C}
    (X : CallFix p m c cc nL s args q_tbl own) (hK : q_K G s) (hP : q_P G S H) (hS : va_S (fr_ G) H0 H locs) (hM : q_Met l y cb n' ret fr lo G (.ref (G.1 + b) :: As) val S K) (hy : q_V y cb n' ret k)
    (hlink : Cond.methodLink own idx y ∈ q_tbl) (hdg : decode cc pc = .ok (.invokevirtual idx, 3)) (hb : b < 242 ∧ kd b = (3, ci)) (hcl : vwCl[ci]? = some r) (hrc : r.1 = y.cls) (hn : As.length = k) (hR : fr + 1 ≤ R.frames ∧ 8 + (n' + 11) + lo ≤ R.locals) (hls : ls.size = nL) (hst : st0 = As.reverse ++ .ref (G.1 + b) :: rest) (hcat : (rest.map fun v => v.category).sum ≤ 8) (hroom : cells + 0 ≤ R.cells ∧ slots + 0 ≤ R.slots)
    (kk : ∀ (r : Rt) (S' : St) (H1 : Heap) (locs1 : List Loc), K r S' → q_P G S' H1 → va_S (fr_ G) H0 H1 locs1 → W p l e R s m args below meth c H1 locs1 cells slots Q (F0 m (pc + 3) ls ((val r).toList ++ rest))) : W p l e R s m args below meth c H locs cells slots Q (F0 m pc ls st0) := by
  subst hst
  have hrv := q_recv hK hP hb hcl
  rw [hrc] at hrv
  exact q_call (va_runV (As := As) (rest := rest) X hM ⟨q_cb X hy.1 hlink hR, X.2.2.2.2 _ hy.2.1, X.2.2.2.2 _ hy.2.2⟩ ⟨q_blind, hrv, fun U hU hW => ⟨rfl, by rw [hU]; exact hP, va_K.moved hW.alike hK⟩⟩ rfl hn hls rfl (lv_room hcat) hdg hroom) hS kk
theorem q_callS {Rt : Type} {val : Rt → Option Value} {K : Rt → St → Prop} {y : MethodName} {cb : ByteArray} {n' fr lo idx k : Nat} {ret : Option FieldType} {As st0 : List Value}
    (X : CallFix p m c cc nL s args q_tbl own) (hK : q_K G s) (hP : q_P G S H) (hS : va_S (fr_ G) H0 H locs) (hM : q_Met l y cb n' ret fr lo G As val S K) (hy : q_S y cb n' ret k)
    (hlink : Cond.methodLink own idx y ∈ q_tbl) (hdg : decode cc pc = .ok (.invokestatic idx, 3)) (hn : As.length = k) (hR : fr + 1 ≤ R.frames ∧ 8 + (n' + 11) + lo ≤ R.locals) (hls : ls.size = nL) (hst : st0 = As.reverse ++ rest) (hcat : (rest.map fun v => v.category).sum ≤ 8) (hroom : cells + 0 ≤ R.cells ∧ slots + 0 ≤ R.slots)
    (kk : ∀ (r : Rt) (S' : St) (H1 : Heap) (locs1 : List Loc), K r S' → q_P G S' H1 → va_S (fr_ G) H0 H1 locs1 → W p l e R s m args below meth c H1 locs1 cells slots Q (F0 m (pc + 3) ls ((val r).toList ++ rest))) : W p l e R s m args below meth c H locs cells slots Q (F0 m pc ls st0) := by
  subst hst
  exact q_call (va_runS (As := As) (rest := rest) X hM ⟨q_cb X hy.1 hlink hR, X.2.2.2.2 _ hy.2⟩ ⟨q_blind, fun U hU hW => ⟨rfl, by rw [hU]; exact hP, va_K.moved hW.alike hK⟩⟩ rfl hn hls rfl (lv_room hcat) hdg hroom) hS kk
theorem q_iret {K : Int32 → St → Prop} {v : Int32} {ty : FieldType} (X : CallFix p m c cc nL s args q_tbl own) (hr : meth.sig.returnType = some ty) (hlocks : meth.locks = false) (hP : q_P G S H) (hS : va_S (fr_ G) s.heap H locs) (hn : narrow ty (.int v) = .int v) (hk : K v S) (hdg : decode cc pc = .ok (.ireturn, 1)) :
    W p l e R s m args below meth c H locs cells slots (MQ below (q_Qc G K v_i) args s cells slots (fr_ G)) (F0 m pc ls [.int v]) :=
  W.zret X.1 X.2.1 hr hn (fun t ht _ => ⟨⟨v, S, rfl, hk, by rw [ht]; exact hP⟩, hS.F ht⟩) hS.2.2 hdg hlocks
theorem q_lret {K : Int64 → St → Prop} {v : Int64} (X : CallFix p m c cc nL s args q_tbl own) (hr : meth.sig.returnType = some .long) (hlocks : meth.locks = false) (hP : q_P G S H) (hS : va_S (fr_ G) s.heap H locs) (hk : K v S) (hdg : decode cc pc = .ok (.lreturn, 1)) :
    W p l e R s m args below meth c H locs cells slots (MQ below (q_Qc G K v_l) args s cells slots (fr_ G)) (F0 m pc ls [.long v]) :=
  W.lret X.1 X.2.1 hr (fun t ht _ => ⟨⟨v, S, rfl, hk, by rw [ht]; exact hP⟩, hS.F ht⟩) hS.2.2 hdg hlocks
theorem q_vret {K : Unit → St → Prop} (X : CallFix p m c cc nL s args q_tbl own) (hr : meth.sig.returnType = none) (hlocks : meth.locks = false) (hP : q_P G S H) (hS : va_S (fr_ G) s.heap H locs) (hk : K () S) (hdg : decode cc pc = .ok (.return_, 1)) :
    W p l e R s m args below meth c H locs cells slots (MQ below (q_Qc G K v_v) args s cells slots (fr_ G)) (F0 m pc ls []) :=
  W.vret X.1 X.2.1 hr (fun t ht _ => ⟨⟨(), S, rfl, hk, by rw [ht]; exact hP⟩, hS.F ht⟩) hS.2.2 hdg hlocks
theorem q_aret {K : Option Nat → St → Prop} {q : Nat} {cn : String} (X : CallFix p m c cc nL s args q_tbl own) (hr : meth.sig.returnType = some (.object cn)) (hlocks : meth.locks = false) (hP : q_P G S H) (hS : va_S (fr_ G) s.heap H locs) (hk : K (some q) S) (hdg : decode cc pc = .ok (.areturn, 1)) :
    W p l e R s m args below meth c H locs cells slots (MQ below (q_Qc G K (v_q G)) args s cells slots (fr_ G)) (F0 m pc ls [.ref (G.1 + q)]) :=
  W.aret X.1 X.2.1 hr (Or.inl ⟨_, rfl⟩) (Or.inr ⟨_, rfl⟩) (fun t ht _ => ⟨⟨some q, S, rfl, hk, by rw [ht]; exact hP⟩, hS.F ht⟩) hS.2.2 hdg hlocks
theorem q_nret {K : Option Nat → St → Prop} {cn : String} (X : CallFix p m c cc nL s args q_tbl own) (hr : meth.sig.returnType = some (.object cn)) (hlocks : meth.locks = false) (hP : q_P G S H) (hS : va_S (fr_ G) s.heap H locs) (hk : K none S) (hdg : decode cc pc = .ok (.areturn, 1)) :
    W p l e R s m args below meth c H locs cells slots (MQ below (q_Qc G K (v_q G)) args s cells slots (fr_ G)) (F0 m pc ls [.null]) :=
  W.aret X.1 X.2.1 hr (Or.inl ⟨_, rfl⟩) (Or.inl rfl) (fun t ht _ => ⟨⟨none, S, rfl, hk, by rw [ht]; exact hP⟩, hS.F ht⟩) hS.2.2 hdg hlocks
end QR
/-- the machine at a place of a method, over a state -/
def q_W (p : Program) (l : Launch) (e : Env) (R : Room) (s : State) (m : MethodId) (args : Array Value) (below : List Frame) (meth : Method) (c : Code) (cells slots : Nat) (Q : State → Prop) (G : Cx) (pc : Nat) (ls : Array Slot) (st : List Value) (S : St) : Prop :=
  ∀ (H : Heap) (locs : List Loc), q_P G S H → va_S (fr_ G) s.heap H locs → W p l e R s m args below meth c H locs cells slots Q (F0 m pc ls st)
theorem q_vin {i : Int32} {n : Nat} (h : ¬ (i < 0 ∨ n ≤ i.toNatClampNeg)) : vp_in i n := h
theorem q_swk {x : Int32} {n : Nat} (hn : n < 2 ^ 31) (h : ¬ (x.toInt < 0 ∨ (n : Int) < x.toInt)) : ∃ k : Nat, k ≤ n ∧ x = nI k := by
  have h1 : ¬ x < 0 := fun q => h (Or.inl (by simpa [Int32.lt_iff_toInt_lt] using q))
  obtain ⟨j, hj, rfl⟩ := nI_of h1
  refine ⟨j, ?_, rfl⟩
  rw [nI_toInt hj] at h
  omega
theorem q_sw2 {x : Int32} (h : ¬ (x.toInt < 0 ∨ (2 : Int) < x.toInt)) : x = 0 ∨ x = 1 ∨ x = 2 := by
  obtain ⟨k, hk, rfl⟩ := q_swk (n := 2) (by decide) h
  rcases (show k = 0 ∨ k = 1 ∨ k = 2 by omega) with rfl | rfl | rfl <;> decide
theorem q_sw11 {x : Int32} (h : ¬ (x.toInt < 0 ∨ (11 : Int) < x.toInt)) : x = 0 ∨ x = 1 ∨ x = 2 ∨ x = 3 ∨ x = 4 ∨ x = 5 ∨ x = 6 ∨ x = 7 ∨ x = 8 ∨ x = 9 ∨ x = 10 ∨ x = 11 := by
  obtain ⟨k, hk, rfl⟩ := q_swk (n := 11) (by decide) h
  rcases (show k = 0 ∨ k = 1 ∨ k = 2 ∨ k = 3 ∨ k = 4 ∨ k = 5 ∨ k = 6 ∨ k = 7 ∨ k = 8 ∨ k = 9 ∨ k = 10 ∨ k = 11 by omega) with rfl | rfl | rfl | rfl | rfl | rfl | rfl | rfl | rfl | rfl | rfl | rfl <;> decide
