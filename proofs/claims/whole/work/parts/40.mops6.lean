/-! the reference's calls: fuel, way, rules, clear, pair, count, enter -/
section OPS
variable {N : Nat → Nat} {T : Nat → Option Po} {R : Nat → Nat × Nat} {S : St} {K : Int32 → St → Prop}
def f_set (j m : Nat) (N : Nat → Nat) (T : Nat → Option Po) (R : Nat → Nat × Nat) (x : Int32) : Int32 × (Nat → Nat) × (Nat → Option Po) × (Nat → Nat × Nat) :=
  if 0 ≤ x.toInt ∧ x.toInt ≤ m then (nI (N j), nu N j x.toInt.toNat, T, R) else (-2, N, T, R)
theorem m_fuel {x : Int32} (h : M9 N T R S) (hK : D9 (f_set 10 2000 N T R x) S K) : w_X9_fuel x S K := by
  unfold w_X9_fuel
  unfold f_set at hK
  refine sp_inI (H := 2000) (by decide) (fun v hv e1 e2 => ⟨fun _ => ?_, fun q => absurd q (by decide)⟩) (fun q => ⟨fun q => absurd rfl q, fun _ => ?_⟩)
  · rw [if_pos ⟨by omega, by omega⟩, e2, show (v : Int).toNat = v from rfl] at hK
    intro x2 e3 S5 e4
    rw [e3, h.1 10 (by decide)]
    rw [e1] at e4
    exact hK S5 (by rw [e4]; exact M9_nu h (by decide)) (by rw [e4]; exact lo_su (by decide))
  · rw [if_neg (fun z => q ⟨z.1, z.2⟩)] at hK
    exact hK S h lo_rf
theorem m_way {x : Int32} (h : M9 N T R S) (hK : D9 (f_set 11 1 N T R x) S K) : w_X9_way x S K := by
  unfold w_X9_way
  unfold f_set at hK
  refine sp_inI (H := 1) (by decide) (fun v hv e1 e2 => ⟨fun _ => ?_, fun q => absurd q (by decide)⟩) (fun q => ⟨fun q => absurd rfl q, fun _ => ?_⟩)
  · rw [if_pos ⟨by omega, by omega⟩, e2, show (v : Int).toNat = v from rfl] at hK
    intro x2 e3 S5 e4
    rw [e3, h.1 11 (by decide)]
    rw [e1] at e4
    exact hK S5 (by rw [e4]; exact M9_nu h (by decide)) (by rw [e4]; exact lo_su (by decide))
  · rw [if_neg (fun z => q ⟨z.1, z.2⟩)] at hK
    exact hK S h lo_rf
theorem m_rules {x : Int32} (h : M9 N T R S) (hK : D9 (f_set 12 3 N T R x) S K) : w_X9_rules x S K := by
  unfold w_X9_rules
  unfold f_set at hK
  refine sp_inI (H := 3) (by decide) (fun v hv e1 e2 => ⟨fun _ => ?_, fun q => absurd q (by decide)⟩) (fun q => ⟨fun q => absurd rfl q, fun _ => ?_⟩)
  · rw [if_pos ⟨by omega, by omega⟩, e2, show (v : Int).toNat = v from rfl] at hK
    intro x2 e3 S5 e4
    rw [e3, h.1 12 (by decide)]
    rw [e1] at e4
    exact hK S5 (by rw [e4]; exact M9_nu h (by decide)) (by rw [e4]; exact lo_su (by decide))
  · rw [if_neg (fun z => q ⟨z.1, z.2⟩)] at hK
    exact hK S h lo_rf
/-- no basis -/
def tcl (T : Nat → Option Po) : Nat → Option Po := fun i => if i < 25 then T i else none
def f_clear (N : Nat → Nat) (T : Nat → Option Po) (R : Nat → Nat × Nat) : Int32 × (Nat → Nat) × (Nat → Option Po) × (Nat → Nat × Nat) :=
  (nI (N 6), nu (nu (nu N 6 0) 7 0) 13 0, tcl T, R)
theorem m_clear (h : M9 N T R S) (hK : D9 (f_clear N T R) S K) : w_X9_clear S K := by
  unfold w_X9_clear
  unfold f_clear at hK
  intro x1 e1 S2 e2 S3 e3 S4 e4
  rw [e1, h.1 6 (by decide)]
  have f4 : fr9 [] [6, 7, 13] S S4 := by
    rw [e4, e3, e2]
    exact fr9_tr (fr9_tr (fr9_sf (by decide)) (fr9_sf (by decide))) (fr9_sf (by decide))
  refine hK S4 ⟨fun j hj => ?_, fun k P hk hT => ?_, fun k q1 q2 hT => ?_, fun t ht => ?_⟩ (lo_fr f4 (by decide))
  · show S4 224 j = nI (nu (nu (nu N 6 0) 7 0) 13 0 j)
    by_cases q : j = 13
    · rw [q, e4, su_s, nu_s]; rfl
    · rw [e4, su_n _ _ (Or.inr q), nu_n q]
      by_cases q7 : j = 7
      · rw [q7, e3, su_s, nu_s]; rfl
      · rw [e3, su_n _ _ (Or.inr q7), nu_n q7]
        by_cases q6 : j = 6
        · rw [q6, e2, su_s, nu_s]; rfl
        · rw [e2, su_n _ _ (Or.inr q6), nu_n q6]
          exact h.1 j hj
  · have hT : tcl T k = some P := hT
    unfold tcl at hT
    split at hT
    · exact PM_fr (h.2.1 k P hk hT) (f4.1 225 (by decide) (by decide)) (f4.1 226 (by decide) (by decide)) (f4.1 227 (by decide) (by decide))
    · cases hT
  · have hT : tcl T k = none := hT
    unfold tcl at hT
    rw [if_pos q2] at hT
    rw [f4.1 225 (by decide) (by decide)]
    exact h.2.2.1 k q1 q2 hT
  · have ht : t < nu (nu (nu N 6 0) 7 0) 13 0 7 := ht
    rw [nu_n (by decide), nu_s] at ht
    omega
def f_pair (N : Nat → Nat) (T : Nat → Option Po) (R : Nat → Nat × Nat) (x : Int32) : Int32 × (Nat → Nat) × (Nat → Option Po) × (Nat → Nat × Nat) :=
  if 0 ≤ x.toInt ∧ x.toInt ≤ (N 7 : Int) - 1 then (nI (100 * (R x.toInt.toNat).1 + (R x.toInt.toNat).2), N, T, R) else (-1, N, T, R)
theorem n7_le (w : WF N T R) : N 7 ≤ 153 ∧ (N 6 ≤ 17 → N 7 ≤ 136) := by
  have w6 : N 6 ≤ 18 := w.2.2.2.2.2.2.2.1
  have w7 : 2 * N 7 ≤ N 6 * (N 6 - 1) := w.2.2.2.2.2.2.2.2.1
  have e := Nat.mul_le_mul w6 (show N 6 - 1 ≤ 17 by omega)
  refine ⟨by omega, fun q => ?_⟩
  have e := Nat.mul_le_mul q (show N 6 - 1 ≤ 16 by omega)
  omega
theorem m_pair {x : Int32} (w : WF N T R) (h : M9 N T R S) (hK : D9 (f_pair N T R x) S K) : w_X9_pair x S K := by
  have h7 := (n7_le w).1
  unfold w_X9_pair
  unfold f_pair at hK
  rw [h.1 7 (by decide)]
  refine sp_inI (nI_m1 (by omega)) (fun v hv e1 e2 => ⟨fun q => absurd q (by decide), fun _ => ?_⟩) (fun q => ⟨fun _ => ?_, fun q => absurd rfl q⟩)
  · rw [if_pos ⟨by omega, by omega⟩, e2, show (v : Int).toNat = v from rfl] at hK
    rw [e1, m_rf (by omega), (h.2.2.2 v (by omega)).1, (h.2.2.2 v (by omega)).2]
    refine ⟨vp_in_nI (by omega) (by decide), ?_⟩
    have e3 : (100 * nI (R v).1 + nI (R v).2 : Int32) = nI (100 * (R v).1 + (R v).2) := by
      rw [← nI_add]
      congr 1
      exact pk_mul 100 _
    rw [e3]
    exact hK S h lo_rf
  · rw [if_neg q] at hK
    exact hK S h lo_rf
def cnt (T : Nat → Option Po) : Nat → Nat
  | 0 => 0
  | d + 1 => cnt T d + (match T (1 + d) with
    | some _ => 1
    | none => 0)
theorem cnt_le (T : Nat → Option Po) : ∀ d, cnt T d ≤ d
  | 0 => Nat.le_refl _
  | d + 1 => by
    unfold cnt
    have := cnt_le T d
    split <;> omega
def f_count (N : Nat → Nat) (T : Nat → Option Po) (R : Nat → Nat × Nat) (x : Int32) : Int32 × (Nat → Nat) × (Nat → Option Po) × (Nat → Nat × Nat) :=
  (if x = 0 then nI (N 0) else if x = 1 then nI (N 1) else if x = 2 then nI (N 6) else if x = 3 then nI (N 7) else if x = 4 then nI (N 14) else if x = 5 then nI (N 15) else if x = 6 then nI (N 16) else if x = 7 then nI (N 17) else if x = 8 then nI (N 18) else if x = 9 then nI (N 13) else if x = 10 then nI (cnt T 24) else if x = 11 then nI (N 19) else -2, N, T, R)
theorem m_count {x : Int32} (w : WF N T R) (h : M9 N T R S) (hK : D9 (f_count N T R x) S K) : w_X9_count x S K := by
  have w13 : N 13 ≤ 1 := w.2.2.2.2.2.2.1
  have hk := hK S h lo_rf
  unfold f_count at hk
  unfold w_X9_count
  have nq : ∀ v : Int32, (0 ≤ v.toInt ∧ v.toInt ≤ 11) → (x.toInt < 0 ∨ 11 < x.toInt) → x ≠ v := fun v h1 h2 e => by rw [e] at h2; omega
  refine ⟨fun q => ?_, fun q => ?_, fun q => ?_, fun q => ?_, fun q => ?_, fun q => ?_, fun q => ?_, fun q => ?_, fun q => ?_, fun q => ?_, fun q => ?_, fun q => ?_, fun q => ?_⟩
  · rw [if_neg (nq 0 (by decide) q), if_neg (nq 1 (by decide) q), if_neg (nq 2 (by decide) q), if_neg (nq 3 (by decide) q), if_neg (nq 4 (by decide) q), if_neg (nq 5 (by decide) q), if_neg (nq 6 (by decide) q), if_neg (nq 7 (by decide) q), if_neg (nq 8 (by decide) q), if_neg (nq 9 (by decide) q), if_neg (nq 10 (by decide) q), if_neg (nq 11 (by decide) q)] at hk
    exact hk
  all_goals subst q
  · rw [if_pos rfl] at hk; rw [h.1 0 (by decide)]; exact hk
  · rw [if_neg (by decide), if_pos rfl] at hk; rw [h.1 1 (by decide)]; exact hk
  · rw [if_neg (by decide), if_neg (by decide), if_pos rfl] at hk; rw [h.1 6 (by decide)]; exact hk
  · rw [if_neg (by decide), if_neg (by decide), if_neg (by decide), if_pos rfl] at hk; rw [h.1 7 (by decide)]; exact hk
  · rw [if_neg (by decide), if_neg (by decide), if_neg (by decide), if_neg (by decide), if_pos rfl] at hk; rw [h.1 14 (by decide)]; exact hk
  · rw [if_neg (by decide), if_neg (by decide), if_neg (by decide), if_neg (by decide), if_neg (by decide), if_pos rfl] at hk; rw [h.1 15 (by decide)]; exact hk
  · rw [if_neg (by decide), if_neg (by decide), if_neg (by decide), if_neg (by decide), if_neg (by decide), if_neg (by decide), if_pos rfl] at hk; rw [h.1 16 (by decide)]; exact hk
  · rw [if_neg (by decide), if_neg (by decide), if_neg (by decide), if_neg (by decide), if_neg (by decide), if_neg (by decide), if_neg (by decide), if_pos rfl] at hk; rw [h.1 17 (by decide)]; exact hk
  · rw [if_neg (by decide), if_neg (by decide), if_neg (by decide), if_neg (by decide), if_neg (by decide), if_neg (by decide), if_neg (by decide), if_neg (by decide), if_pos rfl] at hk; rw [h.1 18 (by decide)]; exact hk
  · rw [if_neg (by decide), if_neg (by decide), if_neg (by decide), if_neg (by decide), if_neg (by decide), if_neg (by decide), if_neg (by decide), if_neg (by decide), if_neg (by decide), if_pos rfl] at hk
    rw [h.1 13 (by decide)]
    rcases (show N 13 = 0 ∨ N 13 = 1 by omega) with e | e
    · rw [e] at hk ⊢
      exact ⟨fun _ => hk, fun q => absurd rfl q⟩
    · rw [e] at hk ⊢
      exact ⟨fun q => absurd q (by decide), fun _ => hk⟩
  · rw [if_neg (by decide), if_neg (by decide), if_neg (by decide), if_neg (by decide), if_neg (by decide), if_neg (by decide), if_neg (by decide), if_neg (by decide), if_neg (by decide), if_neg (by decide), if_pos rfl] at hk
    have hm : (-1 : Int32).toInt = -1 := by decide
    have loop : ∀ (d t : Nat), t + d = 24 → q_it (fun _ _ _ => False) (w_X9_count_126 10 K) (d + 1) (nI (cnt T t)) (nI (1 + t)) S := by
      intro d
      induction d with
      | zero =>
        intro t ht
        rw [q_it_s]
        unfold w_X9_count_126
        refine pk_le 25 (1 + t) (fun _ => ?_) (fun q => by omega)
        rw [show t = 24 by omega]
        exact hk
      | succ d ih =>
        intro t ht
        rw [q_it_s]
        generalize q_it (fun _ _ _ => False) (w_X9_count_126 10 K) (d + 1) = k2 at ih ⊢
        unfold w_X9_count_126 w_X9_count_148
        refine pk_le 25 (1 + t) (fun q => by omega) (fun _ => ⟨vp_in_nI (by omega) (by decide), ?_⟩)
        rw [m_rf (by omega)]
        have go := ih (t + 1) (by omega)
        have ec : cnt T (t + 1) = cnt T t + (match T (1 + t) with
          | some _ => 1
          | none => 0) := rfl
        cases hT : T (1 + t) with
        | none =>
          rw [hT] at ec
          rw [h.2.2.1 _ (by omega) (by omega) hT]
          refine ⟨fun q => absurd rfl q, fun _ => ?_⟩
          intro x2 e2 x3 e3
          rw [m_lit 1, nI_add] at e3
          rw [m_lit 0, nI_add] at e2
          subst e2; subst e3
          rw [ec] at go
          exact go
        | some P =>
          rw [hT] at ec
          have hP := h.2.1 _ P (by omega) hT
          have hl := hP.2.1
          rw [hP.1]
          refine ⟨fun _ => ?_, fun q => ?_⟩
          · intro x2 e2 x3 e3
            rw [m_lit 1, nI_add] at e3
            rw [m_lit 1, nI_add] at e2
            subst e2; subst e3
            rw [ec] at go
            exact go
          · have := congrArg Int32.toInt q
            rw [hm, nI_toInt (by omega)] at this
            omega
    exact ⟨25, loop 24 0 (by omega)⟩
  · rw [if_neg (by decide), if_neg (by decide), if_neg (by decide), if_neg (by decide), if_neg (by decide), if_neg (by decide), if_neg (by decide), if_neg (by decide), if_neg (by decide), if_neg (by decide), if_neg (by decide), if_pos rfl] at hk; rw [h.1 19 (by decide)]; exact hk
/-- a row comes into the basis -/
def cmN (N : Nat → Nat) : Nat → Nat := nu (nu N 7 (N 7 + N 6)) 6 (N 6 + 1)
def cmT (N : Nat → Nat) (T : Nat → Option Po) (L : Po) : Nat → Option Po := tu T (25 + N 6) (some (scl (N 0) (iv (N 0) (pc L 0)) L))
def cmR (N : Nat → Nat) (R : Nat → Nat × Nat) : Nat → Nat × Nat := fun t => if t < N 7 then R t else (t - N 7, N 6)
theorem sp_come {L : Po} {K : Unit → St → Prop} (w1 : prm (N 0) = true) (h6 : N 6 < 18) (h7 : N 7 ≤ 136) (h : M9 N T R S) (hR : RM S L) (h1 : 0 < L.length) (hl : L.length ≤ 40) (hp : Lp (N 0) L) (hz : Lz L) (hK : ∀ S', M9 (cmN N) (cmT N T L) (cmR N R) S' → (∃ fs, fr9 [225, 226, 227, 228, 229] fs S S') → (∀ j, j ≠ 6 → j ≠ 7 → S' 224 j = S 224 j) → K () S') : w_X9_come S K := by
  have hb := prm_b w1
  have c0 := (hR.2.2 0 h1).1
  unfold w_X9_come
  have r0 : q_rf 0 = 0 := by decide
  rw [r0, c0]
  refine sp_inverse9 (h.1 0 (by decide)) w1 (hz _ (pc_mem h1)) (hp _ (pc_mem h1)) ?_
  rw [h.1 6 (by decide)]
  have e25 : (25 + nI (N 6) : Int32) = nI (25 + N 6) := by rw [m_lit 25, nI_add]
  rw [e25]
  refine sp_lay hb (by omega) (h.1 0 (by decide)) hR hl hp (iv_lt w1) (fun S1 hP f1 hk => ?_)
  have hM1 := M9_lay h hP hk f1 (by decide) (by decide)
  have loop : ∀ (d t : Nat) (S' : St), t + d = N 6 → fr9 [228, 229] [7] S1 S' → S' 224 7 = nI (N 7 + t) → (∀ j, j < N 7 + t → S' 228 j = nI (cmR N R j).1 ∧ S' 229 j = nI (cmR N R j).2) → q_it (fun _ _ => False) (w_X9_come_23 K) (d + 1) (nI t) S' := by
    intro d
    induction d with
    | zero =>
      intro t S' ht f h7' hr
      rw [q_it_s]
      unfold w_X9_come_23
      rw [f.2 6 (by decide), hM1.1 6 (by decide)]
      refine pk_le (N 6) t (fun _ => ?_) (fun q => by omega)
      intro S2 e2
      rw [m_lit 1, nI_add] at e2
      have et : t = N 6 := by omega
      subst et
      have f2 : fr9 [] [6] S' S2 := by rw [e2]; exact fr9_sf (by decide)
      have fS : fr9 [225, 226, 227, 228, 229] [6, 7] S S2 := fr9_tr (fr9_mono f1 (by decide) (by decide)) (fr9_tr (fr9_mono f (by decide) (by decide)) (fr9_mono f2 (by decide) (by decide)))
      have fS1 : fr9 [228, 229] [6, 7] S1 S2 := fr9_tr (fr9_mono f (by decide) (by decide)) (fr9_mono f2 (by decide) (by decide))
      refine hK S2 ⟨fun j hj => ?_, fun k P hk2 hT => ?_, fun k q1 q2 hT => ?_, fun u hu => ?_⟩ ⟨_, fS⟩ (fun j a b => fS.2 j (by simp [a, b]))
      · unfold cmN
        by_cases q6 : j = 6
        · rw [q6, e2, su_s, nu_s]
        · rw [e2, su_n _ _ (Or.inr q6), nu_n q6]
          by_cases q7 : j = 7
          · rw [q7, h7', nu_s]
          · rw [nu_n q7, f.2 j (by simp [q7]), f1.2 j (by simp)]
            exact h.1 j hj
      · exact PM_fr (hM1.2.1 k P hk2 hT) (fS1.1 225 (by decide) (by decide)) (fS1.1 226 (by decide) (by decide)) (fS1.1 227 (by decide) (by decide))
      · rw [fS1.1 225 (by decide) (by decide)]
        exact hM1.2.2.1 k q1 q2 hT
      · have e7 : cmN N 7 = N 7 + N 6 := by unfold cmN; rw [nu_n (by decide), nu_s]
        rw [e7] at hu
        rw [f2.1 228 (by decide) (by decide), f2.1 229 (by decide) (by decide)]
        exact hr u hu
    | succ d ih =>
      intro t S' ht f h7' hr
      rw [q_it_s]
      generalize q_it (fun _ _ => False) (w_X9_come_23 K) (d + 1) = k2 at ih ⊢
      unfold w_X9_come_23
      rw [f.2 6 (by decide), hM1.1 6 (by decide), h7']
      refine pk_le (N 6) t (fun q => by omega) (fun _ => ⟨vp_in_nI (by omega) (by decide), ?_⟩)
      intro S4 e4
      rw [m_rf (by omega)] at e4
      have f4 : fr9 [228] [] S' S4 := by rw [e4]; exact fr9_su (by decide) (by decide)
      rw [f4.2 7 (by decide), f4.2 6 (by decide), h7', f.2 6 (by decide), hM1.1 6 (by decide), m_rf (by omega)]
      refine ⟨vp_in_nI (by omega) (by decide), ?_⟩
      intro S6 e6 S7 e7 x1 e1
      have f6 : fr9 [229] [] S4 S6 := by rw [e6]; exact fr9_su (by decide) (by decide)
      rw [f6.2 7 (by decide), f4.2 7 (by decide), h7', m_lit 1, nI_add] at e7
      have f7 : fr9 [] [7] S6 S7 := by rw [e7]; exact fr9_sf (by decide)
      rw [m_lit 1, nI_add] at e1
      subst e1
      refine ih (t + 1) S7 (by omega) (fr9_tr f (fr9_tr (fr9_mono f4 (by decide) (by decide)) (fr9_tr (fr9_mono f6 (by decide) (by decide)) (fr9_mono f7 (by decide) (by decide))))) (by rw [e7, su_s]; rfl) (fun j hj => ?_)
      rw [f7.1 228 (by decide) (by decide), f7.1 229 (by decide) (by decide), f6.1 228 (by decide) (by decide)]
      by_cases q : j = N 7 + t
      · rw [q, e6, su_s, e4, su_s]
        unfold cmR
        rw [if_neg (by omega), show N 7 + t - N 7 = t by omega]
        exact ⟨rfl, rfl⟩
      · rw [e6, su_n _ _ (Or.inr q), f4.1 229 (by decide) (by decide), e4, su_n _ _ (Or.inr q)]
        exact hr j (by omega)
  refine ⟨N 6 + 1, loop (N 6) 0 S1 (by omega) fr9_rf (hM1.1 7 (by decide)) (fun j hj => ?_)⟩
  have := hM1.2.2.2 j (by omega)
  unfold cmR
  rw [if_pos (by omega)]
  exact this
def f_enter (N : Nat → Nat) (T : Nat → Option Po) (R : Nat → Nat × Nat) (x : Int32) : Int32 × (Nat → Nat) × (Nat → Option Po) × (Nat → Nat × Nat) :=
  match plc N T x with
  | none => (-2, N, T, R)
  | some i => if (gt T i).length = 0 then (-2, N, T, R) else if N 6 = 18 then (-4, N, T, R) else (nI (N 6), nu (cmN N) 13 0, cmT N T (gt T i), cmR N R)
theorem m_enter {x : Int32} (w : WF N T R) (h : M9 N T R S) (hK : D9 (f_enter N T R x) S K) : w_X9_enter x S K := by
  have w6 : N 6 ≤ 18 := w.2.2.2.2.2.2.2.1
  unfold w_X9_enter w_X9_enter_19
  unfold f_enter at hK
  refine sp_placeOf w h (fun i P e hi hT g => ?_) (fun e => ?_)
  · rw [e] at hK
    simp only [gt_s hT] at hK
    have hP := h.2.1 i P hi hT
    refine ⟨fun q => absurd q (m_loop_ok (by omega)).2, fun _ => ⟨vp_in_nI (by omega) (by decide), ?_⟩⟩
    rw [m_rf (by omega), PM_pos hP]
    refine ⟨fun q1 => ?_, fun q => by rw [if_pos q] at hK; exact hK S h lo_rf⟩
    rw [if_neg q1] at hK
    rw [h.1 6 (by decide)]
    refine (fun (a : ¬ N 6 = 18 → _) (b : N 6 = 18 → _) => ⟨fun q => a (fun q2 => q (by rw [q2]; rfl)), fun q => b ((m_eq32 (by omega) (by decide)).mp q)⟩) (fun q => ?_) (fun q => ?_)
    · rw [if_neg q] at hK
      refine sp_fetch (by omega) hP (fun S1 hR1 f1 => ?_)
      refine sp_come w.1 (by omega) ((n7_le w).2 (by omega)) (M9_fr h f1 (by decide) (by decide)) hR1 (by omega) hP.2.1 g.1.2.2.1 g.1.2.1 (fun S2 h2 hf2 hj2 => ?_)
      obtain ⟨fs, f2⟩ := hf2
      intro S3 e3
      have h3 : M9 (nu (cmN N) 13 0) (cmT N T P) (cmR N R) S3 := by rw [e3]; exact M9_nu h2 (by decide)
      have e4 : S3 224 6 = nI (N 6 + 1) := by
        rw [h3.1 6 (by decide), nu_n (by decide)]
        unfold cmN
        rw [nu_s]
      have e5 : (nI (N 6 + 1) - 1 : Int32) = nI (N 6) := pk_sub (b := 1) (by omega)
      rw [e4, e5]
      exact hK S3 h3 (lo_tr (lo_fr f1 (by decide)) (lo_tr (lo_fr f2 (by decide)) (by rw [e3]; exact lo_su (by decide))))
    · rw [if_pos q] at hK
      exact hK S h lo_rf
  · rw [e] at hK
    exact ⟨fun _ => hK S h lo_rf, fun q => absurd (show (-2 : Int32) < 0 by decide) q⟩
end OPS
