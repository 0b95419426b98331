/-! the makers: a table of what is known of a state -/
def Tab : Type := Nat → Nat → Option (Int32 ⊕ Bool)
def ev (z3 z4 : Int32) : Int32 ⊕ Bool → Int32
  | .inl v => v
  | .inr false => z3
  | .inr true => z4
def Hs (z3 z4 : Int32) (F : Tab) (S : St) : Prop := ∀ c k v, F c k = some v → S c k = ev z3 z4 v
def fsu (F : Tab) (c k : Nat) (v : Int32 ⊕ Bool) : Tab := fun d j => if d = c ∧ j = k then some v else F d j
def fsn (F : Tab) (E : Nat) (g : Nat → Int32) : Tab := fun d j => if d = E then some (.inl (g j)) else F d j
def F3 (F : Tab) (q : Nat) : Tab := fsu (fsn (fsu (fsn F (q + 1) (fun _ => 0)) q 0 (.inl (nI (q + 1)))) (q + 2) (fun _ => 0)) q 1 (.inl (nI (q + 2)))
section TB
variable {z3 z4 : Int32} {F : Tab} {S : St}
theorem Hs_su {S' : St} {c k : Nat} {w : Int32} (v : Int32 ⊕ Bool) (h : Hs z3 z4 F S) (e : S' = su S c k w) (hw : w = ev z3 z4 v) : Hs z3 z4 (fsu F c k v) S' := by
  intro d j u hu
  unfold fsu at hu
  rw [e, su_at]
  by_cases y : d = c ∧ j = k
  · rw [if_pos y] at hu ⊢
    injection hu with hu
    rw [hw, hu]
  · rw [if_neg y] at hu ⊢
    exact h d j u hu
theorem Hs_sn {S' : St} {E : Nat} {g : Nat → Int32} (h : Hs z3 z4 F S) (e : S' = sn S E g) : Hs z3 z4 (fsn F E g) S' := by
  intro d j u hu
  unfold fsn at hu
  by_cases y : d = E
  · rw [if_pos y] at hu
    injection hu with hu
    rw [e, y, sn_eq, ← hu]; rfl
  · rw [if_neg y] at hu
    rw [e, sn_ne _ _ y]
    exact h d j u hu
theorem Hs_mono {G : Tab} (h : Hs z3 z4 F S) (m : ∀ c k v, G c k = some v → F c k = some v) : Hs z3 z4 G S := fun c k v q => h c k v (m c k v q)
theorem i_X3 {q : Nat} {K : Unit → St → Prop} (h : Hs z3 z4 F S) (hK : ∀ S', Hs z3 z4 (F3 F q) S' → K () S') : w2_X3_init q S K := by
  unfold w2_X3_init
  intro S1 e1 S2 e2 S3 e3 S4 e4
  exact hK S4 (Hs_su (.inl (nI (q + 2))) (Hs_sn (Hs_su (.inl (nI (q + 1))) (Hs_sn h e1) e2 rfl) e3) e4 rfl)
def F5 (F : Tab) : Tab := fsu (fsu (fsu (F3 (fsn (fsu (F3 (fsn (fsu (fsn (fsu (fsn (fsu F 1 2 (.inl 2)) 2 (fun _ => 0)) 1 3 (.inl (nI 2))) 3 (fun _ => 0)) 1 4 (.inl (nI 3))) 4 fresh_2) 4) 1 5 (.inl (nI 4))) 7 fresh_2) 7) 1 6 (.inl (nI 7))) 1 0 (.inr false)) 1 1 (.inr true)
theorem i_X5 {K : Unit → St → Prop} (h : Hs z3 z4 F S) (hK : ∀ S', Hs z3 z4 (F5 F) S' → K () S') : w2_X5_init z3 z4 S K := by
  unfold w2_X5_init
  intro S1 e1 S2 e2 S3 e3 S4 e4 S5 e5 S6 e6
  have h5 := Hs_su (.inl (nI 3)) (Hs_sn (Hs_su (.inl (nI 2)) (Hs_sn (Hs_su (.inl 2) h e1 rfl) e2) e3 rfl) e4) e5 rfl
  refine i_X3 (Hs_sn h5 e6) (fun S7 h7 S9 e9 S10 e10 => ?_)
  refine i_X3 (Hs_sn (Hs_su (.inl (nI 4)) h7 e9 rfl) e10) (fun S11 h11 S13 e13 S14 e14 S15 e15 => ?_)
  exact hK S15 (Hs_su (.inr true) (Hs_su (.inr false) (Hs_su (.inl (nI 7)) h11 e13 rfl) e14 rfl) e15 rfl)
def F2 (F : Tab) : Tab := fsu (fsn (fsu (fsn F 106 (fun _ => 0)) 105 0 (.inl (nI 106))) 107 (fun _ => 0)) 105 1 (.inl (nI 107))
theorem i_X2 {K : Unit → St → Prop} (h : Hs z3 z4 F S) (hK : ∀ S', Hs z3 z4 (F2 F) S' → K () S') : w2_X2_init S K := by
  unfold w2_X2_init
  intro S1 e1 S2 e2 S3 e3 S4 e4
  exact hK S4 (Hs_su (.inl (nI 107)) (Hs_sn (Hs_su (.inl (nI 106)) (Hs_sn h e1) e2 rfl) e3) e4 rfl)
def F7 (F : Tab) : Tab := fsu (fsu (fsu (fsn F 223 (fun _ => 0)) 222 2 (.inl (nI 223))) 222 0 (.inl (nI 1))) 222 1 (.inl (nI 104))
theorem i_X7 {K : Unit → St → Prop} (h : Hs z3 z4 F S) (hK : ∀ S', Hs z3 z4 (F7 F) S' → K () S') : w2_X7_init S K := by
  unfold w2_X7_init
  intro S1 e1 S2 e2 S3 e3 S4 e4
  exact hK S4 (Hs_su (.inl (nI 104)) (Hs_su (.inl (nI 1)) (Hs_su (.inl (nI 223)) (Hs_sn h e1) e2 rfl) e3 rfl) e4 rfl)
def F4 (F : Tab) : Tab := fsu (fsu (fsu (F3 (fsn (fsu (F3 (fsn (fsu (F3 (fsn F 95 fresh_2) 95) 94 1 (.inl (nI 95))) 98 fresh_2) 98) 94 2 (.inl (nI 98))) 101 fresh_2) 101) 94 3 (.inl (nI 101))) 94 4 (.inl 500)) 94 0 (.inl (nI 1))
theorem i_X4 {K : Unit → St → Prop} (h : Hs z3 z4 F S) (hK : ∀ S', Hs z3 z4 (F4 F) S' → K () S') : w2_X4_init S K := by
  unfold w2_X4_init
  intro S1 e1
  refine i_X3 (Hs_sn h e1) (fun S2 h2 S4 e4 S5 e5 => ?_)
  refine i_X3 (Hs_sn (Hs_su (.inl (nI 95)) h2 e4 rfl) e5) (fun S6 h6 S8 e8 S9 e9 => ?_)
  refine i_X3 (Hs_sn (Hs_su (.inl (nI 98)) h6 e8 rfl) e9) (fun S10 h10 S12 e12 S13 e13 S14 e14 => ?_)
  exact hK S14 (Hs_su (.inl (nI 1)) (Hs_su (.inl 500) (Hs_su (.inl (nI 101)) h10 e12 rfl) e13 rfl) e14 rfl)
/-- what is known of a new polynomial's cells -/
def pv (d j : Nat) : Option (Int32 ⊕ Bool) := if j = 0 then some (.inl (nI (d + 1))) else if j = 1 then some (.inl (nI (d + 2))) else if j = 2 then some (.inl 0) else none
theorem F3_q {q j : Nat} {v : Int32 ⊕ Bool} (h : pv q j = some v) : F3 (fsn F q fresh_2) q q j = some v := by
  unfold pv at h
  unfold F3 fsu fsn
  by_cases j0 : j = 0
  · subst j0
    rw [if_pos rfl] at h
    simp; simpa using h
  · by_cases j1 : j = 1
    · subst j1
      simp at h ⊢; exact h
    · by_cases j2 : j = 2
      · subst j2
        simp at h ⊢; rw [← h]; rfl
      · rw [if_neg j0, if_neg j1, if_neg j2] at h
        cases h
theorem F3_n {q d j : Nat} {v : Int32 ⊕ Bool} (h0 : d ≠ q) (h1 : d ≠ q + 1) (h2 : d ≠ q + 2) (h : F d j = some v) : F3 (fsn F q fresh_2) q d j = some v := by
  unfold F3 fsu fsn
  simp [h0, h1, h2]; exact h
def lpS (F : Tab) (i : Nat) : Tab := fun d j => if 22 ≤ d ∧ d < 22 + 3 * i then (if (d - 22) % 3 = 0 then pv d j else none) else if d = 20 ∧ j < i then some (.inl (nI (22 + 3 * j))) else F d j
theorem kd_S : ∀ i, i < 24 → kd (22 + 3 * i) = (3, 2) := by decide +kernel
theorem S_loop {K : Unit → St → Prop} (hF : F 19 0 = some (.inl (nI 20))) (hK : ∀ S', Hs z3 z4 (lpS F 24) S' → K () S') : ∀ (d i : Nat) (S : St), i + d = 24 → Hs z3 z4 (lpS F i) S → q_it (fun _ _ _ => False) (w2_X6_init_23 K) (d + 1) (22 + 3 * i) (nI i) S := by
  intro d
  induction d with
  | zero =>
    intro i S hi h
    rw [q_it_s]
    unfold w2_X6_init_23
    refine pk_le 24 i (fun _ => ⟨by omega, ?_⟩) (fun z => by omega)
    rw [show i = 24 by omega] at h
    exact hK S h
  | succ d ih =>
    intro i S hi h
    have k2 := kd_S i (by omega)
    rw [q_it_s]
    generalize q_it (fun _ _ _ => False) (w2_X6_init_23 K) (d + 1) = k at ih ⊢
    unfold w2_X6_init_23
    refine pk_le 24 i (fun z => by omega) (fun _ => ⟨⟨by omega, by decide +kernel⟩, ?_, k2, fun S5 e5 => ⟨⟨by omega, k2⟩, ?_⟩⟩)
    · refine h 19 0 (.inl (nI 20)) ?_
      unfold lpS
      rw [if_neg (by omega), if_neg (by omega)]
      exact hF
    · refine i_X3 (Hs_sn h e5) (fun S8 h8 => ⟨⟨by omega, by decide +kernel⟩, ⟨by omega, k2⟩, vp_in_nI (by omega) (by decide), fun S13 e13 x1 ex => ?_⟩)
      rw [m_lit 1, nI_add] at ex
      rw [m_rf (by omega)] at e13
      subst ex
      have h13 := Hs_su (.inl (nI (22 + 3 * i))) h8 e13 rfl
      refine ih (i + 1) S13 (by omega) (Hs_mono h13 (fun c j v q => ?_))
      unfold lpS at q
      unfold fsu
      by_cases c20 : c = 20
      · subst c20
        rw [if_neg (by omega)] at q
        by_cases ji : j = i
        · subst ji
          rw [if_pos ⟨rfl, by omega⟩] at q
          rw [if_pos ⟨rfl, rfl⟩]; exact q
        · rw [if_neg (by omega)]
          refine F3_n (by omega) (by omega) (by omega) ?_
          unfold lpS
          rw [if_neg (by omega)]
          by_cases jl : j < i
          · rw [if_pos ⟨rfl, by omega⟩] at q
            rw [if_pos ⟨rfl, jl⟩]; exact q
          · rw [if_neg (by omega)] at q
            rw [if_neg (by omega)]; exact q
      · rw [if_neg (fun z => c20 z.1)]
        by_cases c0 : c = 22 + 3 * i
        · subst c0
          rw [if_pos ⟨by omega, by omega⟩, if_pos (by omega)] at q
          exact F3_q q
        · by_cases c1 : c = 22 + 3 * i + 1
          · subst c1
            rw [if_pos ⟨by omega, by omega⟩, if_neg (by omega)] at q
            cases q
          · by_cases c2 : c = 22 + 3 * i + 2
            · subst c2
              rw [if_pos ⟨by omega, by omega⟩, if_neg (by omega)] at q
              cases q
            · refine F3_n c0 c1 c2 ?_
              unfold lpS
              by_cases cr : 22 ≤ c ∧ c < 22 + 3 * i
              · rw [if_pos ⟨by omega, by omega⟩] at q
                rw [if_pos cr]; exact q
              · rw [if_neg (by omega), if_neg (fun z => c20 z.1)] at q
                rw [if_neg cr, if_neg (fun z => c20 z.1)]; exact q
def F6 (F : Tab) : Tab := lpS (fsu (fsn (fsu (fsn F 20 (fun _ => -1)) 19 0 (.inl (nI 20))) 21 (fun _ => 0)) 19 1 (.inl (nI 21))) 24
theorem i_X6 {K : Unit → St → Prop} (h : Hs z3 z4 F S) (hK : ∀ S', Hs z3 z4 (F6 F) S' → K () S') : w2_X6_init S K := by
  unfold w2_X6_init
  intro S1 e1 S2 e2 S3 e3 S4 e4
  have h4 := Hs_su (.inl (nI 21)) (Hs_sn (Hs_su (.inl (nI 20)) (Hs_sn h e1) e2 rfl) e3) e4 rfl
  refine S_loop (F := fsu (fsn (fsu (fsn F 20 (fun _ => -1)) 19 0 (.inl (nI 20))) 21 (fun _ => 0)) 19 1 (.inl (nI 21))) rfl hK 24 0 S4 (by decide) (Hs_mono h4 (fun c k v q => ?_))
  unfold lpS at q
  rw [if_neg (by omega), if_neg (by omega)] at q
  exact q
def lpB (F : Tab) (i : Nat) : Tab := fun d j => if 114 ≤ d ∧ d < 114 + 6 * i then (if (d - 114) % 3 = 0 then pv d j else none) else if d = 108 ∧ j < i then some (.inl (nI (114 + 6 * j))) else if d = 109 ∧ j < i then some (.inl (nI (117 + 6 * j))) else F d j
theorem kd_B : ∀ i, i < 18 → kd (114 + 6 * i) = (3, 2) ∧ kd (114 + 6 * i + 3) = (3, 2) := by decide +kernel
theorem B_loop {K : Unit → St → Prop} (hF3 : F 104 3 = some (.inl (nI 108))) (hF4 : F 104 4 = some (.inl (nI 109))) (hK : ∀ S', Hs z3 z4 (lpB F 18) S' → K () S') : ∀ (d i : Nat) (S : St), i + d = 18 → Hs z3 z4 (lpB F i) S → q_it (fun _ _ _ => False) (w2_X0_init_64 K) (d + 1) (114 + 6 * i) (nI i) S := by
  intro d
  induction d with
  | zero =>
    intro i S hi h
    rw [q_it_s]
    unfold w2_X0_init_64
    refine pk_le 18 i (fun _ => ⟨by omega, ?_⟩) (fun z => by omega)
    rw [show i = 18 by omega] at h
    exact hK S h
  | succ d ih =>
    intro i S hi h
    obtain ⟨k2, k3⟩ := kd_B i (by omega)
    rw [q_it_s]
    generalize q_it (fun _ _ _ => False) (w2_X0_init_64 K) (d + 1) = k at ih ⊢
    unfold w2_X0_init_64
    refine pk_le 18 i (fun z => by omega) (fun _ => ⟨⟨by omega, by decide +kernel⟩, ?_, k2, fun S5 e5 => ⟨⟨by omega, k2⟩, ?_⟩⟩)
    · refine h 104 3 (.inl (nI 108)) ?_
      unfold lpB
      rw [if_neg (by omega), if_neg (by omega), if_neg (by omega)]
      exact hF3
    · refine i_X3 (Hs_sn h e5) (fun S8 h8 => ⟨⟨by omega, by decide +kernel⟩, ⟨by omega, k2⟩, vp_in_nI (by omega) (by decide), fun S13 e13 => ⟨⟨by omega, by decide +kernel⟩, ?_, k3, fun S16 e16 => ⟨⟨by omega, k3⟩, ?_⟩⟩⟩)
      · rw [m_rf (by omega)] at e13
        have h13 := Hs_su (.inl (nI (114 + 6 * i))) h8 e13 rfl
        refine h13 104 4 (.inl (nI 109)) ?_
        unfold fsu
        rw [if_neg (by omega)]
        refine F3_n (by omega) (by omega) (by omega) ?_
        unfold lpB
        rw [if_neg (by omega), if_neg (by omega), if_neg (by omega)]
        exact hF4
      · rw [m_rf (by omega)] at e13
        have h13 := Hs_su (.inl (nI (114 + 6 * i))) h8 e13 rfl
        refine i_X3 (Hs_sn h13 e16) (fun S19 h19 => ⟨⟨by omega, by decide +kernel⟩, ⟨by omega, k3⟩, fun S23 e23 x3 ex => ?_⟩)
        rw [m_lit 1, nI_add] at ex
        rw [m_rf (by omega)] at e23
        subst ex
        have h23 := Hs_su (.inl (nI (114 + 6 * i + 3))) h19 e23 rfl
        refine ih (i + 1) S23 (by omega) (Hs_mono h23 (fun c j v q => ?_))
        unfold lpB at q
        unfold fsu
        by_cases c109 : c = 109
        · subst c109
          rw [if_neg (by omega), if_neg (by omega)] at q
          by_cases ji : j = i
          · subst ji
            rw [if_pos ⟨rfl, by omega⟩] at q
            rw [if_pos ⟨rfl, rfl⟩, ← q, show 114 + 6 * j + 3 = 117 + 6 * j by omega]
          · rw [if_neg (by omega)]
            refine F3_n (by omega) (by omega) (by omega) ?_
            rw [if_neg (by omega)]
            refine F3_n (by omega) (by omega) (by omega) ?_
            unfold lpB
            rw [if_neg (by omega), if_neg (by omega)]
            by_cases jl : j < i
            · rw [if_pos ⟨rfl, by omega⟩] at q
              rw [if_pos ⟨rfl, jl⟩]; exact q
            · rw [if_neg (by omega)] at q
              rw [if_neg (by omega)]; exact q
        · rw [if_neg (fun z => c109 z.1)]
          by_cases c108 : c = 108
          · subst c108
            rw [if_neg (by omega)] at q
            refine F3_n (by omega) (by omega) (by omega) ?_
            by_cases ji : j = i
            · subst ji
              rw [if_pos ⟨rfl, by omega⟩] at q
              rw [if_pos ⟨rfl, rfl⟩]; exact q
            · rw [if_neg (by omega)]
              refine F3_n (by omega) (by omega) (by omega) ?_
              unfold lpB
              rw [if_neg (by omega)]
              by_cases jl : j < i
              · rw [if_pos ⟨rfl, by omega⟩] at q
                rw [if_pos ⟨rfl, jl⟩]; exact q
              · rw [if_neg (by omega), if_neg (by omega)] at q
                rw [if_neg (by omega), if_neg (by omega)]; exact q
          · by_cases c3 : c = 114 + 6 * i + 3
            · subst c3
              rw [if_pos ⟨by omega, by omega⟩, if_pos (by omega)] at q
              exact F3_q q
            · by_cases c4 : c = 114 + 6 * i + 3 + 1
              · subst c4
                rw [if_pos ⟨by omega, by omega⟩, if_neg (by omega)] at q
                cases q
              · by_cases c5 : c = 114 + 6 * i + 3 + 2
                · subst c5
                  rw [if_pos ⟨by omega, by omega⟩, if_neg (by omega)] at q
                  cases q
                · refine F3_n c3 c4 c5 ?_
                  rw [if_neg (fun z => c108 z.1)]
                  by_cases c0 : c = 114 + 6 * i
                  · subst c0
                    rw [if_pos ⟨by omega, by omega⟩, if_pos (by omega)] at q
                    exact F3_q q
                  · by_cases c1 : c = 114 + 6 * i + 1
                    · subst c1
                      rw [if_pos ⟨by omega, by omega⟩, if_neg (by omega)] at q
                      cases q
                    · by_cases c2 : c = 114 + 6 * i + 2
                      · subst c2
                        rw [if_pos ⟨by omega, by omega⟩, if_neg (by omega)] at q
                        cases q
                      · refine F3_n c0 c1 c2 ?_
                        unfold lpB
                        by_cases cr : 114 ≤ c ∧ c < 114 + 6 * i
                        · rw [if_pos ⟨by omega, by omega⟩] at q
                          rw [if_pos cr]; exact q
                        · rw [if_neg (by omega), if_neg (fun z => c108 z.1), if_neg (fun z => c109 z.1)] at q
                          rw [if_neg cr, if_neg (fun z => c108 z.1), if_neg (fun z => c109 z.1)]; exact q
def FB (F : Tab) : Tab := lpB (fsu (fsu (fsu (F3 (fsn (fsu (fsn (fsu (fsn (fsu (fsn (fsu (F2 (fsn F 105 fresh_1)) 104 2 (.inl (nI 105))) 108 (fun _ => -1)) 104 3 (.inl (nI 108))) 109 (fun _ => -1)) 104 4 (.inl (nI 109))) 110 (fun _ => 0)) 104 5 (.inl (nI 110))) 111 fresh_2) 111) 104 6 (.inl (nI 111))) 104 0 (.inl (nI 1))) 104 1 (.inl (nI 94))) 18
theorem i_X0 {K : Unit → St → Prop} (h : Hs z3 z4 F S) (hK : ∀ S', Hs z3 z4 (FB F) S' → K () S') : w2_X0_init S K := by
  unfold w2_X0_init
  intro S1 e1
  refine i_X2 (Hs_sn h e1) (fun S2 h2 S4 e4 S5 e5 S6 e6 S7 e7 S8 e8 S9 e9 S10 e10 S11 e11 => ?_)
  have h10 := Hs_su (.inl (nI 110)) (Hs_sn (Hs_su (.inl (nI 109)) (Hs_sn (Hs_su (.inl (nI 108)) (Hs_sn (Hs_su (.inl (nI 105)) h2 e4 rfl) e5) e6 rfl) e7) e8 rfl) e9) e10 rfl
  refine i_X3 (Hs_sn h10 e11) (fun S12 h12 S14 e14 S15 e15 S16 e16 => ?_)
  have h16 := Hs_su (.inl (nI 94)) (Hs_su (.inl (nI 1)) (Hs_su (.inl (nI 111)) h12 e14 rfl) e15 rfl) e16 rfl
  refine B_loop (F := fsu (fsu (fsu (F3 (fsn (fsu (fsn (fsu (fsn (fsu (fsn (fsu (F2 (fsn F 105 fresh_1)) 104 2 (.inl (nI 105))) 108 (fun _ => -1)) 104 3 (.inl (nI 108))) 109 (fun _ => -1)) 104 4 (.inl (nI 109))) 110 (fun _ => 0)) 104 5 (.inl (nI 110))) 111 fresh_2) 111) 104 6 (.inl (nI 111))) 104 0 (.inl (nI 1))) 104 1 (.inl (nI 94))) rfl rfl hK 18 0 S16 (by decide) (Hs_mono h16 (fun c k v q => ?_))
  unfold lpB at q
  rw [if_neg (by omega), if_neg (by omega), if_neg (by omega)] at q
  exact q
end TB
