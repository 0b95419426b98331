/-! the reference: all that stand -/
theorem q_rf0 : q_rf 0 = 0 := by decide
theorem q_rf1 : q_rf 1 = 1 := by decide
theorem q_rf2 : q_rf 2 = 2 := by decide
theorem q_rf3 : q_rf 3 = 3 := by decide
def ZK (j : Nat) (m : Mo) (S : St) : Prop := ∀ v, v < j → S 232 v = nI (ex m v)
theorem ZK_le {i j : Nat} {m : Mo} {S : St} (h : ZK j m S) (hi : i ≤ j) : ZK i m S := fun v hv => h v (by omega)
theorem ZK_MA {m : Mo} {S : St} (h : ZK 4 m S) : MA S 232 0 m := fun v hv => by rw [Nat.zero_add]; exact h v hv
theorem zk0 {S : St} {a b c d x : Nat} : ZK 1 (x, b, c, d) (su S 232 0 (nI x)) := fun v hv => by
  rw [show v = 0 by omega, su_s]; rfl
theorem zk1 {S : St} {a b c d x : Nat} (h : ZK 1 (a, b, c, d) S) : ZK 2 (a, x, c, d) (su S 232 1 (nI x)) := fun v hv => by
  rcases (show v = 0 ∨ v = 1 by omega) with rfl | rfl
  · rw [su_n _ _ (Or.inr (by decide)), h 0 (by decide)]; rfl
  · rw [su_s]; rfl
theorem zk2 {S : St} {a b c d x : Nat} (h : ZK 2 (a, b, c, d) S) : ZK 3 (a, b, x, d) (su S 232 2 (nI x)) := fun v hv => by
  rcases (show v = 0 ∨ v = 1 ∨ v = 2 by omega) with rfl | rfl | rfl
  · rw [su_n _ _ (Or.inr (by decide)), h 0 (by decide)]; rfl
  · rw [su_n _ _ (Or.inr (by decide)), h 1 (by decide)]; rfl
  · rw [su_s]; rfl
theorem zk3 {S : St} {a b c d x : Nat} (h : ZK 3 (a, b, c, d) S) : ZK 4 (a, b, c, x) (su S 232 3 (nI x)) := fun v hv => by
  rcases (show v = 0 ∨ v = 1 ∨ v = 2 ∨ v = 3 by omega) with rfl | rfl | rfl | rfl
  · rw [su_n _ _ (Or.inr (by decide)), h 0 (by decide)]; rfl
  · rw [su_n _ _ (Or.inr (by decide)), h 1 (by decide)]; rfl
  · rw [su_n _ _ (Or.inr (by decide)), h 2 (by decide)]; rfl
  · rw [su_s]; rfl
section OPS
variable {N : Nat → Nat} {T : Nat → Option Po} {R : Nat → Nat × Nat} {S : St}
def prc (N : Nat → Nat) (T : Nat → Option Po) : List Mo → Po → Option Po
  | [], A => some A
  | m :: L, A => if stb N T m = true then (if A.length = 300 then none else prc N T L (inS (N 2) m A)) else prc N T L A
theorem prc_cons {m : Mo} {L : List Mo} {A : Po} : prc N T (m :: L) A = if stb N T m = true then (if A.length = 300 then none else prc N T L (inS (N 2) m A)) else prc N T L A := rfl
theorem prc_app {L M : List Mo} : ∀ {A : Po}, prc N T (L ++ M) A = (match prc N T L A with
    | none => none
    | some B => prc N T M B) := by
  induction L with
  | nil => intro A; rfl
  | cons m L ih =>
    intro A
    rw [List.cons_append, prc_cons, prc_cons]
    split
    · split
      · rfl
      · exact ih
    · exact ih
def b3 (a b c : Nat) : Nat → Nat → List Mo
  | _, 0 => []
  | d, r + 1 => (a, b, c, d) :: b3 a b c (d + 1) r
def b2 (e3 a b : Nat) : Nat → Nat → List Mo
  | _, 0 => []
  | c, r + 1 => b3 a b c 0 e3 ++ b2 e3 a b (c + 1) r
def b1 (e2 e3 a : Nat) : Nat → Nat → List Mo
  | _, 0 => []
  | b, r + 1 => b2 e3 a b 0 e2 ++ b1 e2 e3 a (b + 1) r
def b0 (e1 e2 e3 : Nat) : Nat → Nat → List Mo
  | _, 0 => []
  | a, r + 1 => b1 e2 e3 a 0 e1 ++ b0 e1 e2 e3 (a + 1) r
def ZS (j : Nat) (e : Nat → Nat) (S : St) (m : Mo) (A : Po) (S' : St) : Prop := (∀ v, v < 4 → S' 241 v = nI (e v)) ∧ ZK j m S' ∧ SA S' A ∧ fr9 [232, 240, 241] [35] S S' ∧ ∀ t ∈ A, mle 31 t.2
theorem ZS_su {e : Nat → Nat} {m m' : Mo} {A : Po} {S' : St} {i i' j : Nat} {x : Int32} (h : ZS i e S m A S') (h2 : ZK i' m' (su S' 232 j x)) : ZS i' e S m' A (su S' 232 j x) := by
  obtain ⟨a, b, c, d, f⟩ := h
  exact ⟨fun v hv => by rw [su_n _ _ (Or.inl (by decide))]; exact a v hv, h2, SA_fr c (su_n _ _ (Or.inl (by decide))) (su_ne _ _ _ (by decide)), fr9_tr d (fr9_su (by decide) (by decide)), f⟩
theorem inS_31 {o : Nat} {m : Mo} {A : Po} (h : ∀ t ∈ A, mle 31 t.2) (hm : mle 31 m) : ∀ t ∈ inS o m A, mle 31 t.2 := by
  intro t ht
  unfold inS at ht
  rcases List.mem_append.mp ht with q | q
  · exact h t (List.mem_of_mem_take q)
  · rcases List.mem_cons.mp q with z | z
    · rw [z]; exact hm
    · exact h t (List.mem_of_mem_drop z)
variable {K : Int32 → St → Prop} {e : Nat → Nat}
theorem L3 (w : WF N T R) (h : M9 N T R S) (he : ∀ v, v < 4 → e v ≤ 31) {a b c : Nat} (hab : a ≤ 31 ∧ b ≤ 31 ∧ c ≤ 31) {k87 k109 k131 : St → Prop} : ∀ (r d : Nat) (A : Po) (S' : St), d + r = e 3 → ZS 4 e S (a, b, c, d) A S' → (prc N T (b3 a b c d r) A = none → ∀ S'', fr9 [232, 240, 241] [35] S S'' → K (-1) S'') → (∀ A' S'', prc N T (b3 a b c d r) A = some A' → ZS 3 e S (a, b, c + 1, e 3) A' S'' → k131 S'') → q_it (fun _ => False) (w_X9_findStanding_153 K k87 k109 k131) (r + 1) S' := by
  intro r
  have e3 := he 3 (by decide)
  induction r with
  | zero =>
    intro d A S' hd hz _ hk
    obtain ⟨z1, z2, z3, z4, z5⟩ := hz
    have zd := z2 3 (by decide)
    rw [ex_3] at zd
    have zc := z2 2 (by decide)
    rw [ex_2] at zc
    rw [q_it_s]
    unfold w_X9_findStanding_153
    rw [q_rf3, q_rf2, z1 3 (by decide), zd, zc]
    refine pk_le (e 3) d (fun _ => ?_) (fun q => by omega)
    intro S2 e2
    rw [m_lit 1, nI_add] at e2
    rw [e2]
    have ed : d = e 3 := by omega
    subst ed
    exact hk A _ rfl (ZS_su ⟨z1, z2, z3, z4, z5⟩ (zk2 (ZK_le z2 (by decide))))
  | succ r ih =>
    intro d A S' hd hz hbad hk
    obtain ⟨z1, z2, z3, z4, z5⟩ := hz
    have zd := z2 3 (by decide)
    rw [ex_3] at zd
    rw [q_it_s]
    generalize q_it (fun _ => False) (w_X9_findStanding_153 K k87 k109 k131) (r + 1) = k2 at ih ⊢
    unfold w_X9_findStanding_153 w_X9_findStanding_191
    rw [q_rf3, z1 3 (by decide), zd]
    have m31 : mle 31 (a, b, c, d) := ⟨hab.1, hab.2.1, hab.2.2, show d ≤ 31 by omega⟩
    have ep : prc N T (b3 a b c d (r + 1)) A = if stb N T (a, b, c, d) = true then (if A.length = 300 then none else prc N T (b3 a b c (d + 1) r) (inS (N 2) (a, b, c, d) A)) else prc N T (b3 a b c (d + 1) r) A := rfl
    rw [ep] at hbad hk
    refine pk_le (e 3) d (fun q => by omega) (fun _ => ?_)
    refine sp_doesStand w h z4 (by decide) (by decide) (ZK_MA z2) m31 (fun q => ⟨fun z => absurd z (by decide), fun _ => ?_⟩) (fun q => ⟨fun _ => ?_, fun z => absurd rfl z⟩)
    · rw [if_pos q] at hbad hk
      have hl := z3.2.1
      rw [z3.1]
      refine pk_eq' (j := 300) (by omega) (by decide) (fun q2 => ?_) (fun q2 => ?_)
      · rw [if_neg q2] at hbad hk
        refine sp_layStanding (o := N 2) ((z4.2 2 (by decide)).trans (h.1 2 (by decide))) w.2.2.1 z3 (by omega) z5 (ZK_MA z2) m31 (fun S7 hS7 f7 => ?_)
        intro S1 e1
        have y2 : ZK 4 (a, b, c, d) S7 := fun v hv => by rw [f7.1 232 (by decide) (by decide)]; exact z2 v hv
        have yd := y2 3 (by decide)
        rw [ex_3] at yd
        rw [yd, m_lit 1, nI_add] at e1
        rw [e1]
        have y : ZS 4 e S (a, b, c, d) (inS (N 2) (a, b, c, d) A) S7 := ⟨fun v hv => by rw [f7.1 241 (by decide) (by decide)]; exact z1 v hv, y2, hS7, fr9_tr z4 (fr9_mono f7 (by decide) (by decide)), inS_31 z5 m31⟩
        exact ih (d + 1) _ _ (by omega) (ZS_su y (zk3 (ZK_le y2 (by decide)))) hbad hk
      · rw [if_pos q2] at hbad
        exact hbad rfl S' z4
    · rw [if_neg (by rw [q]; decide)] at hbad hk
      intro S1 e1
      rw [zd, m_lit 1, nI_add] at e1
      rw [e1]
      exact ih (d + 1) A _ (by omega) (ZS_su ⟨z1, z2, z3, z4, z5⟩ (zk3 (ZK_le z2 (by decide)))) hbad hk
theorem L2 (w : WF N T R) (h : M9 N T R S) (he : ∀ v, v < 4 → e v ≤ 31) {a b : Nat} (hab : a ≤ 31 ∧ b ≤ 31) {k87 k109 : St → Prop} : ∀ (r c d : Nat) (A : Po) (S' : St), c + r = e 2 → ZS 3 e S (a, b, c, d) A S' → (prc N T (b2 (e 3) a b c r) A = none → ∀ S'', fr9 [232, 240, 241] [35] S S'' → K (-1) S'') → (∀ d' A' S'', prc N T (b2 (e 3) a b c r) A = some A' → ZS 2 e S (a, b + 1, e 2, d') A' S'' → k109 S'') → q_it (fun _ => False) (w_X9_findStanding_131 K k87 k109) (r + 1) S' := by
  intro r
  have e2 := he 2 (by decide)
  induction r with
  | zero =>
    intro c d A S' hd hz _ hk
    obtain ⟨z1, z2, z3, z4, z5⟩ := hz
    have zb := z2 1 (by decide)
    rw [ex_1] at zb
    have zc := z2 2 (by decide)
    rw [ex_2] at zc
    rw [q_it_s]
    unfold w_X9_findStanding_131
    rw [q_rf1, q_rf2, z1 2 (by decide), zb, zc]
    refine pk_le (e 2) c (fun _ => ?_) (fun q => by omega)
    intro S2 e2
    rw [m_lit 1, nI_add] at e2
    rw [e2]
    have ed : c = e 2 := by omega
    subst ed
    exact hk d A _ rfl (ZS_su ⟨z1, z2, z3, z4, z5⟩ (zk1 (ZK_le z2 (by decide))))
  | succ r ih =>
    intro c d A S' hd hz hbad hk
    obtain ⟨z1, z2, z3, z4, z5⟩ := hz
    have zc := z2 2 (by decide)
    rw [ex_2] at zc
    rw [q_it_s]
    generalize q_it (fun _ => False) (w_X9_findStanding_131 K k87 k109) (r + 1) = k2 at ih ⊢
    unfold w_X9_findStanding_131
    rw [q_rf2, z1 2 (by decide), zc]
    have ep : prc N T (b2 (e 3) a b c (r + 1)) A = _ := prc_app (L := b3 a b c 0 (e 3)) (M := b2 (e 3) a b (c + 1) r)
    rw [ep] at hbad hk
    refine pk_le (e 2) c (fun q => by omega) (fun _ => ?_)
    intro S3 e3
    rw [q_rf3] at e3
    rw [e3]
    refine ⟨e 3 + 1, L3 w h he (show a ≤ 31 ∧ b ≤ 31 ∧ c ≤ 31 by omega) (e 3) 0 A _ (by omega) (ZS_su (x := nI 0) ⟨z1, z2, z3, z4, z5⟩ (zk3 z2)) (fun q => hbad (by rw [q])) (fun A' S'' q hz' => ?_)⟩
    rw [q] at hbad hk
    exact ih (c + 1) _ A' S'' (by omega) hz' hbad hk
theorem L1 (w : WF N T R) (h : M9 N T R S) (he : ∀ v, v < 4 → e v ≤ 31) {a : Nat} (ha : a ≤ 31) {k87 : St → Prop} : ∀ (r b c d : Nat) (A : Po) (S' : St), b + r = e 1 → ZS 2 e S (a, b, c, d) A S' → (prc N T (b1 (e 2) (e 3) a b r) A = none → ∀ S'', fr9 [232, 240, 241] [35] S S'' → K (-1) S'') → (∀ c' d' A' S'', prc N T (b1 (e 2) (e 3) a b r) A = some A' → ZS 1 e S (a + 1, e 1, c', d') A' S'' → k87 S'') → q_it (fun _ => False) (w_X9_findStanding_109 K k87) (r + 1) S' := by
  intro r
  have e1 := he 1 (by decide)
  induction r with
  | zero =>
    intro b c d A S' hd hz _ hk
    obtain ⟨z1, z2, z3, z4, z5⟩ := hz
    have zb := z2 1 (by decide)
    rw [ex_1] at zb
    have za := z2 0 (by decide)
    rw [ex_0] at za
    rw [q_it_s]
    unfold w_X9_findStanding_109
    rw [q_rf1, q_rf0, z1 1 (by decide), zb, za]
    refine pk_le (e 1) b (fun _ => ?_) (fun q => by omega)
    intro S2 e2
    rw [m_lit 1, nI_add] at e2
    rw [e2]
    have ed : b = e 1 := by omega
    subst ed
    exact hk c d A _ rfl (ZS_su ⟨z1, z2, z3, z4, z5⟩ (zk0 (a := a)))
  | succ r ih =>
    intro b c d A S' hd hz hbad hk
    obtain ⟨z1, z2, z3, z4, z5⟩ := hz
    have zb := z2 1 (by decide)
    rw [ex_1] at zb
    rw [q_it_s]
    generalize q_it (fun _ => False) (w_X9_findStanding_109 K k87) (r + 1) = k2 at ih ⊢
    unfold w_X9_findStanding_109
    rw [q_rf1, z1 1 (by decide), zb]
    have ep : prc N T (b1 (e 2) (e 3) a b (r + 1)) A = _ := prc_app (L := b2 (e 3) a b 0 (e 2)) (M := b1 (e 2) (e 3) a (b + 1) r)
    rw [ep] at hbad hk
    refine pk_le (e 1) b (fun q => by omega) (fun _ => ?_)
    intro S3 e3
    rw [q_rf2] at e3
    rw [e3]
    refine ⟨e 2 + 1, L2 w h he (show a ≤ 31 ∧ b ≤ 31 by omega) (e 2) 0 d A _ (by omega) (ZS_su (x := nI 0) ⟨z1, z2, z3, z4, z5⟩ (zk2 z2)) (fun q => hbad (by rw [q])) (fun d' A' S'' q hz' => ?_)⟩
    rw [q] at hbad hk
    exact ih (b + 1) _ _ A' S'' (by omega) hz' hbad hk
theorem L0 (w : WF N T R) (h : M9 N T R S) (he : ∀ v, v < 4 → e v ≤ 31) : ∀ (r a b c d : Nat) (A : Po) (S' : St), a + r = e 0 → ZS 1 e S (a, b, c, d) A S' → (prc N T (b0 (e 1) (e 2) (e 3) a r) A = none → ∀ S'', fr9 [232, 240, 241] [35] S S'' → K (-1) S'') → (∀ A' S'', prc N T (b0 (e 1) (e 2) (e 3) a r) A = some A' → SA S'' A' → fr9 [232, 240, 241] [35] S S'' → K (nI A'.length) S'') → q_it (fun _ => False) (w_X9_findStanding_87 K) (r + 1) S' := by
  intro r
  have e0 := he 0 (by decide)
  induction r with
  | zero =>
    intro a b c d A S' hd hz _ hk
    obtain ⟨z1, z2, z3, z4, z5⟩ := hz
    have za := z2 0 (by decide)
    rw [ex_0] at za
    rw [q_it_s]
    unfold w_X9_findStanding_87
    rw [q_rf0, z1 0 (by decide), za]
    refine pk_le (e 0) a (fun _ => ?_) (fun q => by omega)
    rw [z3.1]
    exact hk A S' rfl z3 z4
  | succ r ih =>
    intro a b c d A S' hd hz hbad hk
    obtain ⟨z1, z2, z3, z4, z5⟩ := hz
    have za := z2 0 (by decide)
    rw [ex_0] at za
    rw [q_it_s]
    generalize q_it (fun _ => False) (w_X9_findStanding_87 K) (r + 1) = k2 at ih ⊢
    unfold w_X9_findStanding_87
    rw [q_rf0, z1 0 (by decide), za]
    have ep : prc N T (b0 (e 1) (e 2) (e 3) a (r + 1)) A = _ := prc_app (L := b1 (e 2) (e 3) a 0 (e 1)) (M := b0 (e 1) (e 2) (e 3) (a + 1) r)
    rw [ep] at hbad hk
    refine pk_le (e 0) a (fun q => by omega) (fun _ => ?_)
    intro S3 e3
    rw [q_rf1] at e3
    rw [e3]
    refine ⟨e 1 + 1, L1 w h he (show a ≤ 31 by omega) (e 1) 0 c d A _ (by omega) (ZS_su (x := nI 0) ⟨z1, z2, z3, z4, z5⟩ (zk1 z2)) (fun q => hbad (by rw [q])) (fun c' d' A' S'' q hz' => ?_)⟩
    rw [q] at hbad hk
    exact ih (a + 1) _ _ _ A' S'' (by omega) hz' hbad hk
end OPS
