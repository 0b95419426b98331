/-! the reference: pairs that wait, the next one, coprime heads, chains -/
section OPS
variable {N : Nat → Nat} {T : Nat → Option Po} {R : Nat → Nat × Nat} {S : St} {K : Int32 → St → Prop}
def wts (m : Nat) (R : Nat → Nat × Nat) (i j : Nat) : Bool := (List.range m).any (fun t => decide ((R t).1 = i ∧ (R t).2 = j ∨ (R t).1 = j ∧ (R t).2 = i))
theorem n7_18 (w : WF N T R) {t : Nat} (ht : t < N 7) : (R t).1 < 18 ∧ (R t).2 < 18 := by
  have w6 : N 6 ≤ 18 := w.2.2.2.2.2.2.2.1
  have := w.2.2.2.2.2.2.2.2.2.1 t ht
  omega
theorem pk_eq' {A B : Prop} {i j : Nat} (hi : i < 2 ^ 31) (hj : j < 2 ^ 31) (h0 : i ≠ j → A) (h1 : i = j → B) : (¬ (nI i : Int32) = nI j → A) ∧ ((nI i : Int32) = nI j → B) := ⟨fun q => h0 (fun q2 => q (by rw [q2])), fun q => h1 ((m_eq32 (by omega) (by omega)).mp q)⟩
theorem sp_waits {S0 : St} {cs fs : List Nat} {i j : Nat} (w : WF N T R) (h0 : M9 N T R S0) (f0 : fr9 cs fs S0 S) (hc : ∀ c ∈ cs, 230 ≤ c) (h7 : 7 ∉ fs) (hi : i < 18) (hj : j < 18) (h1 : wts (N 7) R i j = true → K 1 S) (hn : wts (N 7) R i j = false → K 0 S) : w_X9_waits (nI i) (nI j) S K := by
  have n7 := (n7_le w).1
  have s7 : S 224 7 = nI (N 7) := by rw [f0.2 7 h7]; exact h0.1 7 (by decide)
  have sr : ∀ t, t < N 7 → S 228 t = nI (R t).1 ∧ S 229 t = nI (R t).2 := fun t ht => by
    rw [f0.1 228 (by decide) (fun z => by have := hc _ z; omega), f0.1 229 (by decide) (fun z => by have := hc _ z; omega)]
    exact h0.2.2.2 t ht
  have loop : ∀ (d t : Nat), t + d = N 7 → (∀ u, u < t → ¬ ((R u).1 = i ∧ (R u).2 = j ∨ (R u).1 = j ∧ (R u).2 = i)) → q_it (fun _ _ => False) (w_X9_waits_2 (nI i) (nI j) K) (d + 1) (nI t) S := by
    intro d
    induction d with
    | zero =>
      intro t ht hu
      rw [q_it_s]
      unfold w_X9_waits_2
      rw [s7]
      refine pk_le (N 7) t (fun _ => hn ?_) (fun q => by omega)
      unfold wts
      rw [List.any_eq_false]
      intro u hu2
      rw [List.mem_range] at hu2
      rw [decide_eq_true_iff]
      exact hu u (by omega)
    | succ d ih =>
      intro t ht hu
      have htl : t < N 7 := by omega
      rw [q_it_s]
      generalize q_it (fun _ _ => False) (w_X9_waits_2 (nI i) (nI j) K) (d + 1) = k2 at ih ⊢
      unfold w_X9_waits_2
      rw [s7]
      refine pk_le (N 7) t (fun q => by omega) (fun _ => ⟨vp_in_nI (by omega) (by decide), ?_⟩)
      obtain ⟨e1, e2⟩ := sr t htl
      obtain ⟨l1, l2⟩ := n7_18 w htl
      rw [m_rf (by omega), e1, e2]
      have yes : ((R t).1 = i ∧ (R t).2 = j ∨ (R t).1 = j ∧ (R t).2 = i) → w_X9_waits_50 (nI i) (nI j) K S := fun q => by
        unfold w_X9_waits_50
        refine h1 ?_
        unfold wts
        rw [List.any_eq_true]
        exact ⟨t, List.mem_range.mpr htl, decide_eq_true q⟩
      have no : ¬ ((R t).1 = i ∧ (R t).2 = j ∨ (R t).1 = j ∧ (R t).2 = i) → w_X9_waits_52 (nI i) (nI j) K k2 (nI t) S := fun q => by
        unfold w_X9_waits_52
        intro x3 e3
        rw [m_lit 1, nI_add] at e3
        subst e3
        refine ih (t + 1) (by omega) (fun u hu2 => ?_)
        by_cases q2 : u = t
        · rw [q2]; exact q
        · exact hu u (by omega)
      have snd : ¬ ((R t).1 = i ∧ (R t).2 = j) → w_X9_waits_30 (nI i) (nI j) K k2 (nI t) S := fun q => by
        unfold w_X9_waits_30
        rw [m_rf (by omega), e1, e2]
        refine ⟨vp_in_nI (by omega) (by decide), ?_⟩
        refine pk_eq' (by omega) (by omega) (fun q1 => no (by omega)) (fun q1 => ?_)
        exact pk_eq' (by omega) (by omega) (fun q2 => no (by omega)) (fun q2 => yes (by omega))
      refine pk_eq' (by omega) (by omega) (fun q1 => snd (by omega)) (fun q1 => ?_)
      exact pk_eq (R t).2 j (fun q2 => yes (by omega)) (fun q2 => snd (by omega))
  unfold w_X9_waits
  exact ⟨N 7 + 1, loop (N 7) 0 (by omega) (fun u hu => by omega)⟩
def hdm (T : Nat → Option Po) (i : Nat) : Mo := pm (gt T (25 + i)) 0
theorem hd_ok (w : WF N T R) {i : Nat} (h : i < N 6) : T (25 + i) = some (gt T (25 + i)) ∧ GP N (gt T (25 + i)) ∧ 0 < (gt T (25 + i)).length ∧ pc (gt T (25 + i)) 0 = 1 ∧ mle 30 (hdm T i) ∧ ∀ v, N 1 ≤ v → v < 4 → ex (hdm T i) v = 0 := by
  have w6 : N 6 ≤ 18 := w.2.2.2.2.2.2.2.1
  have hT := bas_some w h
  have g := w.2.2.2.2.2.2.2.2.2.2.2.2.1 _ _ (by omega) hT
  have b := w.2.2.2.2.2.2.2.2.2.2.2.2.2 i _ h hT
  exact ⟨hT, g, b.1, b.2, g.1.2.2.2 _ (pc_mem b.1), g.2.2 _ (pc_mem b.1)⟩
/-- the head of one of the basis lies where it should -/
theorem hd_at {S0 : St} {cs fs : List Nat} (w : WF N T R) (h0 : M9 N T R S0) (f0 : fr9 cs fs S0 S) (hc : ∀ c ∈ cs, 230 ≤ c) {i : Nat} (hi : i < N 6) : PM S (25 + i) (gt T (25 + i)) ∧ MA S 227 (160 * (25 + i)) (hdm T i) := by
  have w6 : N 6 ≤ 18 := w.2.2.2.2.2.2.2.1
  obtain ⟨hT, g, b, _, _, _⟩ := hd_ok w hi
  have hP : PM S (25 + i) (gt T (25 + i)) := PM_fr (h0.2.1 _ _ (by omega) hT) (f0.1 225 (by decide) (fun z => by have := hc _ z; omega)) (f0.1 226 (by decide) (fun z => by have := hc _ z; omega)) (f0.1 227 (by decide) (fun z => by have := hc _ z; omega))
  have := (hP.2.2 0 b).2
  rw [Nat.mul_zero, Nat.add_zero] at this
  exact ⟨hP, this⟩
def cop (x y : Mo) : Bool := decide ((x.1 = 0 ∨ y.1 = 0) ∧ (x.2.1 = 0 ∨ y.2.1 = 0) ∧ (x.2.2.1 = 0 ∨ y.2.2.1 = 0) ∧ (x.2.2.2 = 0 ∨ y.2.2.2 = 0))
theorem cop_iff {x y : Mo} : cop x y = true ↔ ∀ v, v < 4 → ex x v = 0 ∨ ex y v = 0 := by
  unfold cop
  rw [decide_eq_true_iff]
  constructor
  · intro h v hv
    rcases (show v = 0 ∨ v = 1 ∨ v = 2 ∨ v = 3 by omega) with rfl | rfl | rfl | rfl
    · exact h.1
    · exact h.2.1
    · exact h.2.2.1
    · exact h.2.2.2
  · intro h
    exact ⟨h 0 (by decide), h 1 (by decide), h 2 (by decide), h 3 (by decide)⟩
theorem sp_areCoprime {S0 : St} {cs fs : List Nat} {i j : Nat} (w : WF N T R) (h0 : M9 N T R S0) (f0 : fr9 cs fs S0 S) (hc : ∀ c ∈ cs, 230 ≤ c) (hi : i < N 6) (hj : j < N 6) (h1 : cop (hdm T i) (hdm T j) = true → K 1 S) (hn : cop (hdm T i) (hdm T j) = false → K 0 S) : w_X9_areCoprime (nI i) (nI j) S K := by
  have w6 : N 6 ≤ 18 := w.2.2.2.2.2.2.2.1
  obtain ⟨_, ai⟩ := hd_at w h0 f0 hc hi
  obtain ⟨_, aj⟩ := hd_at w h0 f0 hc hj
  have mi := (hd_ok w hi).2.2.2.2.1
  have mj := (hd_ok w hj).2.2.2.2.1
  have loop : ∀ (d t : Nat) (r : Int32), t + d = 4 → ((∀ v, v < t → ex (hdm T i) v = 0 ∨ ex (hdm T j) v = 0) → r = 1) → (¬ (∀ v, v < t → ex (hdm T i) v = 0 ∨ ex (hdm T j) v = 0) → r = 0) → q_it (fun _ _ _ => False) (w_X9_areCoprime_5 (nI i) (nI j) K) (d + 1) r (nI t) S := by
    intro d
    induction d with
    | zero =>
      intro t r ht r1 r0
      rw [q_it_s]
      unfold w_X9_areCoprime_5
      rw [show t = 4 by omega] at r1 r0 ⊢
      refine pk_le 4 4 (fun _ => ?_) (fun q => by omega)
      by_cases q : ∀ v, v < 4 → ex (hdm T i) v = 0 ∨ ex (hdm T j) v = 0
      · rw [r1 q]
        exact ⟨rfl, h1 (cop_iff.mpr q)⟩
      · rw [r0 q]
        exact ⟨rfl, hn (Bool.eq_false_iff.mpr (fun z => q (cop_iff.mp z)))⟩
    | succ d ih =>
      intro t r ht r1 r0
      rw [q_it_s]
      generalize q_it (fun _ _ _ => False) (w_X9_areCoprime_5 (nI i) (nI j) K) (d + 1) = k2 at ih ⊢
      unfold w_X9_areCoprime_5 w_X9_areCoprime_50 w_X9_areCoprime_55
      refine pk_le 4 t (fun q => by omega) (fun _ => ?_)
      rw [m_lit 25, nI_add, nI_add, mul160, mul160, nI_add, nI_add, m_rf (by omega), m_rf (by omega), ai t (by omega), aj t (by omega)]
      refine ⟨vp_in_nI (by omega) (by decide), ?_⟩
      have b1 := ex_le mi t
      have b2 := ex_le mj t
      have hr : r = 1 ∨ r = 0 := by
        by_cases q : ∀ v, v < t → ex (hdm T i) v = 0 ∨ ex (hdm T j) v = 0
        · exact Or.inl (r1 q)
        · exact Or.inr (r0 q)
      have good : (ex (hdm T i) t = 0 ∨ ex (hdm T j) t = 0) → ∀ x3 : Int32, x3 = r &&& 1 → ∀ x4 : Int32, x4 = nI t + 1 → k2 x3 x4 S := fun q x3 e3 x4 e4 => by
        rw [m_lit 1, nI_add] at e4
        have e3' : x3 = r := by rw [e3]; rcases hr with e | e <;> rw [e] <;> decide
        subst e4
        rw [e3']
        refine ih (t + 1) r (by omega) (fun z => r1 (fun v hv => z v (by omega))) (fun z => r0 (fun z2 => z (fun v hv => ?_)))
        by_cases hvt : v = t
        · rw [hvt]; exact q
        · exact z2 v (by omega)
      refine pk_eq (ex (hdm T i) t) 0 (fun q => good (Or.inl q)) (fun q => ⟨vp_in_nI (by omega) (by decide), ?_⟩)
      refine pk_eq' (j := 0) (by omega) (by omega) (fun q2 => ?_) (fun q2 => good (Or.inr q2))
      intro x3 e3 x4 e4
      rw [m_lit 1, nI_add] at e4
      have e3' : x3 = 0 := by rw [e3]; rcases hr with e | e <;> rw [e] <;> decide
      subst e4
      rw [e3']
      refine ih (t + 1) 0 (by omega) (fun z => ?_) (fun _ => rfl)
      rcases z t (by omega) with c | c
      · exact absurd c q
      · exact absurd c q2
  unfold w_X9_areCoprime
  exact ⟨5, loop 4 0 1 (by omega) (fun _ => rfl) (fun z => absurd (fun v hv => absurd hv (Nat.not_lt_zero v)) z)⟩
def chk (N : Nat → Nat) (T : Nat → Option Po) (R : Nat → Nat × Nat) (i j k : Nat) : Bool := decide (k ≠ i ∧ k ≠ j) && dvb (hdm T k) (mx (hdm T i) (hdm T j)) && !wts (N 7) R i k && !wts (N 7) R j k
def chn (N : Nat → Nat) (T : Nat → Option Po) (R : Nat → Nat × Nat) (i j : Nat) : Bool := (List.range (N 6)).any (chk N T R i j)
theorem sp_isChained {S0 : St} {cs fs : List Nat} {i j : Nat} (w : WF N T R) (h0 : M9 N T R S0) (f0 : fr9 cs fs S0 S) (hc : ∀ c ∈ cs, 230 ≤ c) (hfs : 6 ∉ fs ∧ 7 ∉ fs) (hi : i < N 6) (hj : j < N 6) (h1 : chn N T R i j = true → ∀ S', fr9 [234] [] S S' → K 1 S') (hn : chn N T R i j = false → ∀ S', fr9 [234] [] S S' → K 0 S') : w_X9_isChained (nI i) (nI j) S K := by
  have w6 : N 6 ≤ 18 := w.2.2.2.2.2.2.2.1
  obtain ⟨pi, ai⟩ := hd_at w h0 f0 hc hi
  obtain ⟨pj, aj⟩ := hd_at w h0 f0 hc hj
  obtain ⟨_, gi, li, _, mi, _⟩ := hd_ok w hi
  obtain ⟨_, gj, lj, _, mj, _⟩ := hd_ok w hj
  unfold w_X9_isChained
  rw [m_lit 25, nI_add, nI_add]
  refine sp_leastOf (by omega) (by omega) pi pj li lj gi.1.2.2.2 gj.1.2.2.2 (fun S1 hA f1 => ?_)
  have f01 : fr9 (234 :: cs) fs S0 S1 := fr9_tr (fr9_mono f0 (fun c z => List.mem_cons_of_mem _ z) (fun c z => z)) (fr9_mono f1 (by simp) (by simp))
  have hc1 : ∀ c ∈ 234 :: cs, 230 ≤ c := fun c z => by
    rcases List.mem_cons.mp z with q | q
    · omega
    · exact hc c q
  have s6 : S1 224 6 = nI (N 6) := by rw [f01.2 6 hfs.1]; exact h0.1 6 (by decide)
  have m30 : mle 30 (mx (hdm T i) (hdm T j)) := mle_mx mi mj
  have hA : MA S1 234 0 (mx (hdm T i) (hdm T j)) := hA
  have loop : ∀ (d t : Nat), t + d = N 6 → (∀ u, u < t → chk N T R i j u = false) → q_it (fun _ _ => False) (w_X9_isChained_14 (nI i) (nI j) K) (d + 1) (nI t) S1 := by
    intro d
    induction d with
    | zero =>
      intro t ht hu
      rw [q_it_s]
      unfold w_X9_isChained_14
      rw [s6]
      refine pk_le (N 6) t (fun _ => hn ?_ S1 f1) (fun q => by omega)
      unfold chn
      rw [List.any_eq_false]
      intro u hu2
      rw [List.mem_range] at hu2
      rw [hu u (by omega)]
      decide
    | succ d ih =>
      intro t ht hu
      have htl : t < N 6 := by omega
      rw [q_it_s]
      generalize q_it (fun _ _ => False) (w_X9_isChained_14 (nI i) (nI j) K) (d + 1) = k2 at ih ⊢
      unfold w_X9_isChained_14
      rw [s6]
      have no : chk N T R i j t = false → w_X9_isChained_75 (nI i) (nI j) K k2 (nI t) S1 := fun q => by
        unfold w_X9_isChained_75
        intro x3 e3
        rw [m_lit 1, nI_add] at e3
        subst e3
        refine ih (t + 1) (by omega) (fun u hu2 => ?_)
        by_cases q2 : u = t
        · rw [q2]; exact q
        · exact hu u (by omega)
      refine pk_le (N 6) t (fun q => by omega) (fun _ => ?_)
      refine pk_eq t i (fun q => no (by unfold chk; rw [decide_eq_false (by omega)]; rfl)) (fun q => ?_)
      refine pk_eq t j (fun q2 => no (by unfold chk; rw [decide_eq_false (by omega)]; rfl)) (fun q2 => ?_)
      rw [m_lit 25, nI_add, mul160]
      obtain ⟨pt, at'⟩ := hd_at w h0 f01 hc1 htl
      have mt := (hd_ok w htl).2.2.2.2.1
      have dt : decide (t ≠ i ∧ t ≠ j) = true := decide_eq_true ⟨q, q2⟩
      refine sp_divides9 (j := 0) at' hA (mle_mono mt (by omega)) (mle_mono m30 (by omega)) (by rw [al_227]; omega) (by decide) (by rw [al_227]; decide) (by decide) (fun q3 => ⟨fun z => absurd z (by decide), fun _ => ?_⟩) (fun q3 => ⟨fun _ => no ?_, fun z => absurd rfl z⟩)
      · refine sp_waits w h0 f01 hc1 hfs.2 (by omega) (by omega) (fun q4 => ⟨fun _ => no ?_, fun z => absurd z (by decide)⟩) (fun q4 => ⟨fun z => absurd rfl z, fun _ => ?_⟩)
        · unfold chk; rw [q4]; simp
        · refine sp_waits w h0 f01 hc1 hfs.2 (by omega) (by omega) (fun q5 => ⟨fun _ => no ?_, fun z => absurd z (by decide)⟩) (fun q5 => ⟨fun z => absurd rfl z, fun _ => ?_⟩)
          · unfold chk; rw [q5]; simp
          · refine h1 ?_ S1 f1
            unfold chn
            rw [List.any_eq_true]
            refine ⟨t, List.mem_range.mpr htl, ?_⟩
            unfold chk
            rw [q4, q5, dt, dvb_iff.mpr q3]
            rfl
      · unfold chk
        rw [Bool.eq_false_iff.mpr (fun z => q3 (dvb_iff.mp z))]
        simp
  exact ⟨N 6 + 1, loop (N 6) 0 (by omega) (fun u hu => by omega)⟩
def goR (R : Nat → Nat × Nat) (a : Nat) : Nat → Nat × Nat := fun t => if t < a then R t else R (t + 1)
theorem sp_goes {K : Unit → St → Prop} {a : Nat} (w7 : N 7 ≤ 153) (ha : a < N 7) (h : M9 N T R S) (hK : ∀ S', M9 (nu N 7 (N 7 - 1)) T (goR R a) S' → fr9 [228, 229] [7] S S' → K () S') : w_X9_goes (nI a) S K := by
  unfold w_X9_goes
  intro S1 e1
  rw [h.1 7 (by decide)] at e1
  have e2 : (nI (N 7) - 1 : Int32) = nI (N 7 - 1) := pk_sub (b := 1) (by omega)
  rw [e2] at e1
  have f1 : fr9 [228, 229] [7] S S1 := by rw [e1]; exact fr9_sf (by decide)
  have s7 : S1 224 7 = nI (N 7 - 1) := by rw [e1, su_s]
  have loop : ∀ (d t : Nat) (S' : St), t + d = N 7 - 1 → a ≤ t → fr9 [228, 229] [] S1 S' → (∀ j, j < t → S' 228 j = nI (goR R a j).1 ∧ S' 229 j = nI (goR R a j).2) → (∀ j, t < j → j < N 7 → S' 228 j = nI (R j).1 ∧ S' 229 j = nI (R j).2) → q_it (fun _ _ => False) (w_X9_goes_12 (nI a) K) (d + 1) (nI t) S' := by
    intro d
    induction d with
    | zero =>
      intro t S' ht hat f hl hr
      rw [q_it_s]
      unfold w_X9_goes_12
      rw [f.2 7 (by decide), s7]
      refine pk_le (N 7 - 1) t (fun _ => ?_) (fun q => by omega)
      have fS : fr9 [228, 229] [7] S S' := fr9_tr f1 (fr9_mono f (by decide) (by decide))
      refine hK S' ⟨fun j hj => ?_, fun k P hk hT => PM_fr (h.2.1 k P hk hT) (fS.1 225 (by decide) (by decide)) (fS.1 226 (by decide) (by decide)) (fS.1 227 (by decide) (by decide)), fun k q1 q2 hT => by rw [fS.1 225 (by decide) (by decide)]; exact h.2.2.1 k q1 q2 hT, fun u hu => hl u ?_⟩ fS
      · by_cases q : j = 7
        · rw [q, nu_s, f.2 7 (by decide), s7]
        · rw [nu_n q, fS.2 j (by simp [q])]
          exact h.1 j hj
      · rw [nu_s] at hu; omega
    | succ d ih =>
      intro t S' ht hat f hl hr
      rw [q_it_s]
      generalize q_it (fun _ _ => False) (w_X9_goes_12 (nI a) K) (d + 1) = k2 at ih ⊢
      unfold w_X9_goes_12
      rw [f.2 7 (by decide), s7]
      refine pk_le (N 7 - 1) t (fun q => by omega) (fun _ => ?_)
      obtain ⟨g1, g2⟩ := hr (t + 1) (by omega) (by omega)
      rw [m_lit 1, nI_add, m_rf (by omega), m_rf (by omega), g1]
      refine ⟨vp_in_nI (by omega) (by decide), vp_in_nI (by omega) (by decide), ?_⟩
      intro S4 e4 S5 e5 x2 e6
      have e7 : S4 229 (t + 1) = nI (R (t + 1)).2 := by rw [e4, su_n _ _ (Or.inl (by decide)), g2]
      rw [e7] at e5
      subst e6
      have f5 : fr9 [228, 229] [] S1 S5 := by rw [e5, e4]; exact fr9_tr f (fr9_tr (fr9_su (by decide) (by decide)) (fr9_su (by decide) (by decide)))
      refine ih (t + 1) S5 (by omega) (by omega) f5 (fun j hj => ?_) (fun j j1 j2 => ?_)
      · by_cases q : j = t
        · rw [q, e5, su_n _ _ (Or.inl (by decide)), su_s, e4, su_s]
          unfold goR
          rw [if_neg (by omega)]
          exact ⟨rfl, rfl⟩
        · rw [e5, su_n _ _ (Or.inl (by decide)), su_n _ _ (Or.inr q), e4, su_n _ _ (Or.inr q), su_n _ _ (Or.inl (by decide))]
          exact hl j (by omega)
      · rw [e5, su_n _ _ (Or.inl (by decide)), su_n _ _ (Or.inr (by omega)), e4, su_n _ _ (Or.inr (by omega)), su_n _ _ (Or.inl (by decide))]
        exact hr j (by omega) j2
  have s0 : ∀ j, j < N 7 → S1 228 j = nI (R j).1 ∧ S1 229 j = nI (R j).2 := fun j hj => by
    rw [e1, su_n _ _ (Or.inl (by decide)), su_n _ _ (Or.inl (by decide))]
    exact h.2.2.2 j hj
  refine ⟨N 7 - 1 - a + 1, loop (N 7 - 1 - a) a S1 (by omega) (Nat.le_refl _) fr9_rf (fun j hj => ?_) (fun j _ j2 => s0 j j2)⟩
  unfold goR
  rw [if_pos hj]
  exact s0 j (by omega)
def pky (N : Nat → Nat) (T : Nat → Option Po) (R : Nat → Nat × Nat) (t : Nat) : Nat := mk (N 2) (mx (hdm T (R t).1) (hdm T (R t).2))
/-- the first of the least of the first ones -/
def nx (key : Nat → Nat) : Nat → Nat
  | 0 => 0
  | k + 1 => if key k < key (nx key k) then k else nx key k
theorem nx_lt (key : Nat → Nat) : ∀ k, 0 < k → nx key k < k
  | 0, h => by omega
  | k + 1, _ => by
    unfold nx
    split
    · omega
    · rcases Nat.eq_zero_or_pos k with q | q
      · rw [q]; show 0 < 1; decide
      · have := nx_lt key k q; omega
def nxt (N : Nat → Nat) (T : Nat → Option Po) (R : Nat → Nat × Nat) : Nat := if N 11 = 0 then 0 else nx (pky N T R) (N 7)
theorem sp_nextPair {S0 : St} {cs fs : List Nat} (w : WF N T R) (h0 : M9 N T R S0) (f0 : fr9 cs fs S0 S) (hc : ∀ c ∈ cs, 230 ≤ c) (hfs : ∀ j ∈ sc9, j ∉ fs) (h7 : 0 < N 7) (hK : ∀ S', fr9 [234, 239] [] S S' → K (nI (nxt N T R)) S') : w_X9_nextPair S K := by
  have w6 : N 6 ≤ 18 := w.2.2.2.2.2.2.2.1
  have w11 : N 11 ≤ 1 := w.2.2.2.2.1
  have n7 := (n7_le w).1
  have s11 : S 224 11 = nI (N 11) := by rw [f0.2 11 (hfs 11 (by decide))]; exact h0.1 11 (by decide)
  unfold w_X9_nextPair
  rw [s11]
  refine pk_eq' (j := 0) (by omega) (by omega) (fun q => ?_) (fun q => ?_)
  · unfold nxt at hK
    rw [if_neg q] at hK
    have hpr : ∀ t, t < N 7 → (R t).1 < N 6 ∧ (R t).2 < N 6 := fun t ht => by
      have := w.2.2.2.2.2.2.2.2.2.1 t ht
      omega
    have loop : ∀ (d t : Nat) (S' : St), t + d = N 7 → fr9 [234, 239] [] S S' → (0 < t → MA S' 239 0 (mx (hdm T (R (nx (pky N T R) t)).1) (hdm T (R (nx (pky N T R) t)).2))) → q_it (fun _ _ _ => False) (w_X9_nextPair_13 K) (d + 1) (nI (nx (pky N T R) t)) (nI t) S' := by
      intro d
      induction d with
      | zero =>
        intro t S' ht f hA
        rw [q_it_s]
        unfold w_X9_nextPair_13
        rw [f.2 7 (by decide), f0.2 7 (hfs 7 (by decide)), h0.1 7 (by decide)]
        refine pk_le (N 7) t (fun _ => ?_) (fun q => by omega)
        rw [show t = N 7 by omega]
        exact hK S' f
      | succ d ih =>
        intro t S' ht f hA
        have htl : t < N 7 := by omega
        rw [q_it_s]
        generalize q_it (fun _ _ _ => False) (w_X9_nextPair_13 K) (d + 1) = k2 at ih ⊢
        unfold w_X9_nextPair_13
        rw [f.2 7 (by decide), f0.2 7 (hfs 7 (by decide)), h0.1 7 (by decide)]
        refine pk_le (N 7) t (fun q => by omega) (fun _ => ⟨vp_in_nI (by omega) (by decide), ?_⟩)
        have f0' : fr9 (234 :: 239 :: cs) fs S0 S' := fr9_tr (fr9_mono f0 (fun c z => List.mem_cons_of_mem _ (List.mem_cons_of_mem _ z)) (fun c z => z)) (fr9_mono f (by simp) (by simp))
        have hc' : ∀ c ∈ 234 :: 239 :: cs, 230 ≤ c := fun c z => by
          rcases List.mem_cons.mp z with q | q
          · omega
          · rcases List.mem_cons.mp q with q | q
            · omega
            · exact hc c q
        have e8 : S' 228 t = nI (R t).1 ∧ S' 229 t = nI (R t).2 := by
          rw [f0'.1 228 (by decide) (fun z => by have := hc' _ z; omega), f0'.1 229 (by decide) (fun z => by have := hc' _ z; omega)]
          exact h0.2.2.2 t htl
        obtain ⟨l1, l2⟩ := hpr t htl
        rw [m_rf (by omega), e8.1, e8.2, m_lit 25, nI_add, nI_add]
        obtain ⟨p1, a1⟩ := hd_at w h0 f0' hc' l1
        obtain ⟨p2, a2⟩ := hd_at w h0 f0' hc' l2
        obtain ⟨_, g1, z1, _, m1', _⟩ := hd_ok w l1
        obtain ⟨_, g2, z2, _, m2', _⟩ := hd_ok w l2
        refine sp_leastOf (by omega) (by omega) p1 p2 z1 z2 g1.1.2.2.2 g2.1.2.2.2 (fun S3 hA3 f3 => ?_)
        have fS3 : fr9 [234, 239] [] S S3 := fr9_tr f (fr9_mono f3 (by decide) (by decide))
        have hA3 : MA S3 234 0 (mx (hdm T (R t).1) (hdm T (R t).2)) := hA3
        have take : nx (pky N T R) (t + 1) = t → w_X9_nextPair_64 K k2 (nI t) S3 := fun en => by
          unfold w_X9_nextPair_64
          refine loop4 (S := S3) (a := 239) (i := 0) (g := fun v => nI (ex (mx (hdm T (R t).1) (hdm T (R t).2)) v)) ?_ ?_
          · intro v kk hv hkk
            unfold w_X9_nextPair_68
            refine pk_le 4 v (fun q => by omega) (fun _ => ?_)
            have e1 := hA3 v hv
            rw [Nat.zero_add] at e1
            have e2 := w4_s S3 239 0 (fun v => nI (ex (mx (hdm T (R t).1) (hdm T (R t).2)) v)) v
            rw [Nat.zero_add] at e2
            rw [m_rf (by omega), w4_n _ _ _ _ _ (Or.inl (by decide)), e1, e2]
            refine ⟨vp_in_nI hv (by decide), ?_⟩
            intro S9 e9 x3 e10
            rw [m_lit 1, nI_add] at e10
            subst e9; subst e10
            exact hkk
          · intro kk
            unfold w_X9_nextPair_68 w_X9_nextPair_91
            refine pk_le 4 4 (fun _ => ?_) (fun q => by omega)
            intro x2 e2
            rw [m_lit 1, nI_add] at e2
            subst e2
            have := ih (t + 1) _ (by omega) (fr9_tr fS3 (fr9_w4 (a := 239) (i := 0) (t := 4) (g := fun v => nI (ex (mx (hdm T (R t).1) (hdm T (R t).2)) v)) (by decide) (by decide))) (fun _ => by rw [en]; exact MA_w4)
            rw [en] at this
            exact this
        rcases Nat.eq_zero_or_pos t with q0 | q0
        · subst q0
          refine ⟨fun _ => take ?_, fun z => absurd rfl z⟩
          unfold nx
          split <;> rfl
        · refine ⟨fun z => absurd ((m_eq32 (a := t) (b := 0) (by omega) (by decide)).mp z) (by omega), fun _ => ?_⟩
          have hA0 := hA q0
          have hlt := nx_lt (pky N T R) t q0
          obtain ⟨b1, b2⟩ := hpr (nx (pky N T R) t) (by omega)
          have mb := mle_mx (hd_ok w b1).2.2.2.2.1 (hd_ok w b2).2.2.2.2.1
          have o3 : S3 224 2 = nI (N 2) := by rw [fS3.2 2 (by decide), f0.2 2 (hfs 2 (by decide))]; exact h0.1 2 (by decide)
          have en : nx (pky N T R) (t + 1) = if pky N T R t < pky N T R (nx (pky N T R) t) then t else nx (pky N T R) t := rfl
          have stay : ¬ pky N T R t < pky N T R (nx (pky N T R) t) → w_X9_nextPair_91 K k2 (nI (nx (pky N T R) t)) (nI t) S3 := fun q1 => by
            unfold w_X9_nextPair_91
            intro x2 e2
            rw [m_lit 1, nI_add] at e2
            subst e2
            rw [if_neg q1] at en
            have := ih (t + 1) S3 (by omega) fS3 (fun _ => by rw [en]; exact MA_eq hA0 (fun v _ => by rw [f3.1 239 (by decide) (by decide)]))
            rw [en] at this
            exact this
          refine sp_stand (i := 0) (j := 0) o3 w.2.2.1 hA3 (MA_eq hA0 (fun v _ => by rw [f3.1 239 (by decide) (by decide)])) (mle_mono (mle_mx m1' m2') (by omega)) (mle_mono mb (by omega)) (by decide) (by decide) (by decide) (by decide) (fun q1 => ?_) (fun q1 => ?_) (fun q1 => ?_)
          · exact ⟨fun z => absurd z (by decide), fun _ => take (by rw [en]; exact if_pos q1)⟩
          · exact ⟨fun _ => stay (by unfold pky; rw [q1]; exact Nat.lt_irrefl _), fun z => absurd (show (0 : Int32) ≤ 0 by decide) z⟩
          · exact ⟨fun _ => stay (fun z => Nat.lt_asymm q1 z), fun z => absurd (show (0 : Int32) ≤ 1 by decide) z⟩
    exact ⟨N 7 + 1, loop (N 7) 0 S (by omega) fr9_rf (fun z => by omega)⟩
  · unfold nxt at hK
    rw [if_pos q] at hK
    exact hK S fr9_rf
end OPS
