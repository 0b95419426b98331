/-! the state that both keep, as numbers, polynomials by places and pairs -/
def Vn (n : Nat) (P : Po) : Prop := ∀ t ∈ P, ∀ v, n ≤ v → v < 4 → ex t.2 v = 0
def GP (N : Nat → Nat) (P : Po) : Prop := Cn (N 2) (N 0) P ∧ P.length ≤ 40 ∧ Vn (N 1) P
def nu (N : Nat → Nat) (j v : Nat) : Nat → Nat := fun i => if i = j then v else N i
def tu (T : Nat → Option Po) (k : Nat) (v : Option Po) : Nat → Option Po := fun i => if i = k then v else T i
theorem nu_s {N : Nat → Nat} {j v : Nat} : nu N j v j = v := if_pos rfl
theorem nu_n {N : Nat → Nat} {j v i : Nat} (h : i ≠ j) : nu N j v i = N i := if_neg h
theorem tu_s {T : Nat → Option Po} {k : Nat} {v : Option Po} : tu T k v k = v := if_pos rfl
theorem tu_n {T : Nat → Option Po} {k i : Nat} {v : Option Po} (h : i ≠ k) : tu T k v i = T i := if_neg h
def WF (N : Nat → Nat) (T : Nat → Option Po) (R : Nat → Nat × Nat) : Prop :=
  prm (N 0) = true ∧ (1 ≤ N 1 ∧ N 1 ≤ 4) ∧ N 2 < 4 ∧ N 10 ≤ 2000 ∧ N 11 ≤ 1 ∧ N 12 ≤ 3 ∧ N 13 ≤ 1 ∧ N 6 ≤ 18 ∧ 2 * N 7 ≤ N 6 * (N 6 - 1) ∧ (∀ t, t < N 7 → (R t).1 < (R t).2 ∧ (R t).2 < N 6) ∧ (∃ D, T 0 = some D) ∧
  (∀ i, i < 18 → (i < N 6 ↔ ∃ P, T (25 + i) = some P)) ∧ (∀ k P, k < 43 → T k = some P → GP N P) ∧ ∀ i P, i < N 6 → T (25 + i) = some P → 0 < P.length ∧ pc P 0 = 1
def sc9 : List Nat := [0, 1, 2, 6, 7, 10, 11, 12, 13, 14, 15, 16, 17, 18, 19]
def M9 (N : Nat → Nat) (T : Nat → Option Po) (R : Nat → Nat × Nat) (S : St) : Prop :=
  (∀ j, j ∈ sc9 → S 224 j = nI (N j)) ∧ (∀ k P, k < 43 → T k = some P → PM S k P) ∧ (∀ k, 1 ≤ k → k < 25 → T k = none → S 225 k = -1) ∧ ∀ t, t < N 7 → S 228 t = nI (R t).1 ∧ S 229 t = nI (R t).2
/-- what the reference does leaves the class alone -/
def lo (S S' : St) : Prop := ∀ c, c < 224 → S' c = S c
def hi (S S' : St) : Prop := ∀ c, 224 ≤ c → S' c = S c
theorem lo_rf {S : St} : lo S S := fun _ _ => rfl
theorem lo_tr {S S' S'' : St} (h : lo S S') (h' : lo S' S'') : lo S S'' := fun c q => (h' c q).trans (h c q)
theorem lo_fr {cs fs : List Nat} {S S' : St} (h : fr9 cs fs S S') (hc : ∀ c ∈ cs, 224 ≤ c) : lo S S' := fun c q => h.1 c (by omega) (fun z => by have := hc c z; omega)
theorem lo_su {S : St} {c k : Nat} {v : Int32} (h : 224 ≤ c) : lo S (su S c k v) := fun d q => su_ne S k v (by omega)
theorem M9_fr {N : Nat → Nat} {T : Nat → Option Po} {R : Nat → Nat × Nat} {S S' : St} {cs fs : List Nat} (h : M9 N T R S) (f : fr9 cs fs S S') (h1 : ∀ c ∈ cs, 230 ≤ c) (h2 : ∀ j ∈ sc9, j ∉ fs) : M9 N T R S' := by
  obtain ⟨a, b, c, d⟩ := h
  have e : ∀ c, 225 ≤ c → c < 230 → S' c = S c := fun c q1 q2 => f.1 c (by omega) (fun z => by have := h1 c z; omega)
  refine ⟨fun j hj => by rw [f.2 j (h2 j hj)]; exact a j hj, fun k P hk hT => PM_fr (b k P hk hT) (e 225 (by decide) (by decide)) (e 226 (by decide) (by decide)) (e 227 (by decide) (by decide)), fun k q1 q2 hT => by rw [e 225 (by decide) (by decide)]; exact c k q1 q2 hT, fun t ht => ?_⟩
  rw [e 228 (by decide) (by decide), e 229 (by decide) (by decide)]
  exact d t ht
/-- a polynomial comes to a place -/
theorem M9_lay {N : Nat → Nat} {T : Nat → Option Po} {R : Nat → Nat × Nat} {S S' : St} {k : Nat} {P : Po} {cs fs : List Nat} (h : M9 N T R S) (hP : PM S' k P) (hk : pkf k S S') (f : fr9 cs fs S S') (h1 : ∀ c ∈ cs, c ≠ 228 ∧ c ≠ 229) (h2 : ∀ j ∈ sc9, j ∉ fs) : M9 N (tu T k (some P)) R S' := by
  obtain ⟨a, b, c, d⟩ := h
  refine ⟨fun j hj => by rw [f.2 j (h2 j hj)]; exact a j hj, fun i Q hi hT => ?_, fun i q1 q2 hT => ?_, fun t ht => ?_⟩
  · by_cases q : i = k
    · rw [q, tu_s] at hT
      injection hT with hT
      rw [q, ← hT]; exact hP
    · rw [tu_n q] at hT
      exact PM_pkf hk q (b i Q hi hT)
  · by_cases q : i = k
    · rw [q, tu_s] at hT
      cases hT
    · rw [tu_n q] at hT
      rw [hk.1 i q]; exact c i q1 q2 hT
  · rw [f.1 228 (by decide) (fun z => (h1 _ z).1 rfl), f.1 229 (by decide) (fun z => (h1 _ z).2 rfl)]
    exact d t ht
theorem tu_id {T : Nat → Option Po} {k : Nat} {P : Po} (h : T k = some P) : tu T k (some P) = T := by
  funext i
  unfold tu
  split
  · rename_i e; rw [e, h]
  · rfl
theorem M9_nu {N : Nat → Nat} {T : Nat → Option Po} {R : Nat → Nat × Nat} {S : St} {j v : Nat} (h : M9 N T R S) (hj : j ≠ 7) : M9 (nu N j v) T R (su S 224 j (nI v)) := by
  obtain ⟨a, b, c, d⟩ := h
  refine ⟨fun i hi => ?_, fun i Q hi hT => ?_, fun i q1 q2 hT => ?_, fun t ht => ?_⟩
  · by_cases q : i = j
    · rw [q, su_s, nu_s]
    · rw [su_n _ _ (Or.inr q), nu_n q]; exact a i hi
  · exact PM_fr (b i Q hi hT) (su_ne _ _ _ (by decide)) (su_ne _ _ _ (by decide)) (su_ne _ _ _ (by decide))
  · rw [su_n _ _ (Or.inl (by decide))]; exact c i q1 q2 hT
  · rw [nu_n (Ne.symm hj)] at ht
    rw [su_n _ _ (Or.inl (by decide)), su_n _ _ (Or.inl (by decide))]
    exact d t ht
def plc (N : Nat → Nat) (T : Nat → Option Po) (x : Int32) : Option Nat :=
  if x.toInt = -1 then some 0 else if 0 ≤ x.toInt then (if x.toInt < 24 then (match T (1 + x.toInt.toNat) with | some _ => some (1 + x.toInt.toNat) | none => none) else none) else if -1 - (N 6 : Int) ≤ x.toInt then some (23 - x.toInt).toNat else none
theorem plc_some {N : Nat → Nat} {T : Nat → Option Po} {R : Nat → Nat × Nat} {x : Int32} {k : Nat} (w : WF N T R) (h : plc N T x = some k) : k < 43 ∧ ∃ P, T k = some P ∧ GP N P := by
  obtain ⟨_, _, _, _, _, _, _, w6, _, _, w0, wB, wG, _⟩ := w
  unfold plc at h
  split at h
  · injection h with h
    subst h
    obtain ⟨D, hD⟩ := w0
    exact ⟨by decide, D, hD, wG _ _ (by decide) hD⟩
  · split at h
    · split at h
      · split at h
        · rename_i P hP
          injection h with h
          subst h
          exact ⟨by omega, P, hP, wG _ _ (by omega) hP⟩
        · cases h
      · cases h
    · split at h
      · injection h with h
        have e : k = 25 + (-2 - x.toInt).toNat := by omega
        have hi : (-2 - x.toInt).toNat < N 6 := by omega
        obtain ⟨P, hP⟩ := (wB _ (by omega)).mp hi
        rw [← e] at hP
        exact ⟨by omega, P, hP, wG _ _ (by omega) hP⟩
      · cases h
theorem nI_nn {x : Int32} (h : 0 ≤ x.toInt) : x = nI x.toInt.toNat := by
  have := Int32.toInt_lt x
  apply Int32.toInt_inj.mp
  rw [nI_toInt (by omega)]
  omega
theorem alen_225 : alen 225 = 61 := by decide +kernel
section PLC
variable {N : Nat → Nat} {T : Nat → Option Po} {R : Nat → Nat × Nat} {S : St} {x : Int32}
theorem sp_placeOf {K : Int32 → St → Prop} (w : WF N T R) (h : M9 N T R S) (h1 : ∀ k P, plc N T x = some k → k < 43 → T k = some P → GP N P → K (nI k) S) (h0 : plc N T x = none → K (-2) S) : w_X9_placeOf x S K := by
  obtain ⟨a, b, c, d⟩ := h
  have w6 : N 6 ≤ 18 := w.2.2.2.2.2.2.2.1
  have hs : ∀ k, plc N T x = some k → K (nI k) S := fun k e => by
    obtain ⟨q1, P, q2, q3⟩ := plc_some w e
    exact h1 k P e q1 q2 q3
  have hm : (-1 : Int32).toInt = -1 := by decide
  have h24 : (24 : Int32).toInt = 24 := by decide
  have h23 : (23 : Int32).toInt = 23 := by decide
  have hx1 := Int32.le_toInt x
  unfold w_X9_placeOf w_X9_placeOf_35
  rw [a 6 (by decide)]
  refine ⟨fun q => ⟨fun q2 => ?_, fun q2 => ⟨fun q3 => ?_, fun q3 => ?_⟩⟩, fun q => ?_⟩
  · rw [Int32.lt_iff_toInt_lt, Int32.toInt_zero] at q2
    have hne : x.toInt ≠ -1 := fun z => q (Int32.toInt_inj.mp (by rw [z, hm]))
    have e1 : (-1 - nI (N 6)).toInt = -1 - (N 6 : Int) := by
      rw [Int32.toInt_sub, hm, nI_toInt (by omega)]
      apply Int.bmod_eq_of_le <;> omega
    refine ⟨fun q3 => h0 ?_, fun q3 => ?_⟩
    · rw [Int32.lt_iff_toInt_lt, e1] at q3
      unfold plc
      rw [if_neg hne, if_neg (by omega), if_neg (by omega)]
    · rw [Int32.lt_iff_toInt_lt, e1] at q3
      have e2 : (23 - x : Int32) = nI (23 - x.toInt).toNat := by
        apply Int32.toInt_inj.mp
        rw [Int32.toInt_sub, h23, nI_toInt (by omega)]
        rw [Int.bmod_eq_of_le (by omega) (by omega)]
        omega
      rw [e2]
      refine hs _ ?_
      unfold plc
      rw [if_neg hne, if_neg (by omega), if_pos (by omega)]
  · rw [Int32.lt_iff_toInt_lt, Int32.toInt_zero] at q2
    rw [Int32.le_iff_toInt_le, h24] at q3
    refine h0 ?_
    unfold plc
    rw [if_neg (by omega), if_pos (by omega), if_neg (by omega)]
  · rw [Int32.lt_iff_toInt_lt, Int32.toInt_zero] at q2
    rw [Int32.le_iff_toInt_le, h24] at q3
    have e := nI_nn (x := x) (by omega)
    generalize hk : x.toInt.toNat = k at e
    have e2 : (1 + x : Int32) = nI (1 + k) := by rw [e, m_lit 1, nI_add]
    rw [e2, m_rf (by omega)]
    refine ⟨vp_in_nI (by omega) (by decide), fun q4 => h0 ?_, fun q4 => hs _ ?_⟩
    · unfold plc
      rw [if_neg (by omega), if_pos (by omega), if_pos (by omega), hk]
      cases hT : T (1 + k) with
      | none => rfl
      | some P =>
        have z := (b _ _ (by omega) hT).1
        have zl := (b _ _ (by omega) hT).2.1
        rw [q4] at z
        have := congrArg Int32.toInt z
        rw [hm, nI_toInt (by omega)] at this
        omega
    · unfold plc
      rw [if_neg (by omega), if_pos (by omega), if_pos (by omega), hk]
      cases hT : T (1 + k) with
      | none => exact absurd (c _ (by omega) (by omega) hT) q4
      | some P => rfl
  · refine hs 0 ?_
    unfold plc
    rw [if_pos (by rw [q, hm])]
/-- the first free place -/
def frp (T : Nat → Option Po) : Nat → Nat → Nat
  | 0, k => k
  | d + 1, k => match T k with
    | none => k
    | some _ => frp T d (k + 1)
theorem frp_ok {T : Nat → Option Po} : ∀ d k, k ≤ frp T d k ∧ frp T d k ≤ k + d ∧ (frp T d k < k + d → T (frp T d k) = none)
  | 0, k => ⟨Nat.le_refl _, Nat.le_refl _, fun h => absurd h (Nat.lt_irrefl _)⟩
  | d + 1, k => by
    unfold frp
    split
    · rename_i h
      exact ⟨Nat.le_refl _, by omega, fun _ => h⟩
    · have := frp_ok (T := T) d (k + 1)
      refine ⟨by omega, by omega, fun q => this.2.2 (by omega)⟩
def fre (T : Nat → Option Po) : Nat := frp T 24 1
theorem sp_free {K : Int32 → St → Prop} (h : M9 N T R S) (hK : K (nI (fre T)) S) : w_X9_free S K := by
  obtain ⟨a, b, c, d⟩ := h
  have hm : (-1 : Int32).toInt = -1 := by decide
  have loop : ∀ d t, t + d = 25 → 1 ≤ t → fre T = frp T d t → q_it (fun _ _ => False) (w_X9_free_2 K) (d + 1) (nI t) S := by
    intro d
    induction d with
    | zero =>
      intro t ht _ e
      rw [q_it_s]
      unfold w_X9_free_2 w_X9_free_24
      refine pk_le 25 t (fun _ => ?_) (fun q => by omega)
      rw [e] at hK; exact hK
    | succ d ih =>
      intro t ht ht1 e
      rw [q_it_s]
      unfold w_X9_free_2 w_X9_free_24
      refine pk_le 25 t (fun q => by omega) (fun _ => ⟨vp_in_nI (by omega) (by decide), fun q => ?_, fun q => ?_⟩)
      · rw [m_rf (by omega)] at q
        have hT : T t = none := by
          cases hT : T t with
          | none => rfl
          | some P =>
            have z := (b _ _ (by omega) hT).1
            have zl := (b _ _ (by omega) hT).2.1
            rw [q] at z
            have := congrArg Int32.toInt z
            rw [hm, nI_toInt (by omega)] at this
            omega
        unfold frp at e
        rw [hT] at e
        rw [e] at hK; exact hK
      · rw [m_rf (by omega)] at q
        intro x ex
        rw [m_lit 1, nI_add] at ex
        subst ex
        refine ih (t + 1) (by omega) (by omega) ?_
        rw [e]
        conv => lhs; unfold frp
        cases hT : T t with
        | none => exact absurd (c _ (by omega) (by omega) hT) q
        | some P => rfl
  unfold w_X9_free
  exact ⟨25, loop 24 1 (by omega) (by omega) rfl⟩
end PLC
