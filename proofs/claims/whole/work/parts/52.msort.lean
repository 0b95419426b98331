/-! the reference: which go when a basis is tidied; the others in their order -/
section OPS
variable {N : Nat → Nat} {T : Nat → Option Po} {R : Nat → Nat × Nat} {S : St}
def gonk (T : Nat → Option Po) (i j : Nat) : Bool := decide (j ≠ i) && dvb (hdm T j) (hdm T i) && (!dvb (hdm T i) (hdm T j) || decide (j < i))
def gone (N : Nat → Nat) (T : Nat → Option Po) (i : Nat) : Bool := (List.range (N 6)).any (gonk T i)
theorem sp_isGone {i : Nat} {K : Int32 → St → Prop} (w : WF N T R) (hs : ∀ j, j < N 6 → MA S 227 (160 * (25 + j)) (hdm T j)) (s6 : S 224 6 = nI (N 6)) (hi : i < N 6) (h1 : gone N T i = true → K 1 S) (hn : gone N T i = false → K 0 S) : w_X9_isGone (nI i) S K := by
  have w6 : N 6 ≤ 18 := w.2.2.2.2.2.2.2.1
  have mi := (hd_ok w hi).2.2.2.2.1
  have loop : ∀ (d t : Nat), t + d = N 6 → (∀ u, u < t → gonk T i u = false) → q_it (fun _ _ => False) (w_X9_isGone_2 (nI i) K) (d + 1) (nI t) S := by
    intro d
    induction d with
    | zero =>
      intro t ht hu
      rw [q_it_s]
      unfold w_X9_isGone_2
      rw [s6]
      refine pk_le (N 6) t (fun _ => hn ?_) (fun q => by omega)
      unfold gone
      rw [List.any_eq_false]
      intro u hu2
      rw [List.mem_range] at hu2
      rw [hu u (by omega)]
      decide
    | succ d ih =>
      intro t ht hu
      have htl : t < N 6 := by omega
      have mt := (hd_ok w htl).2.2.2.2.1
      rw [q_it_s]
      generalize q_it (fun _ _ => False) (w_X9_isGone_2 (nI i) K) (d + 1) = k2 at ih ⊢
      unfold w_X9_isGone_2
      rw [s6]
      have no : gonk T i t = false → w_X9_isGone_108 (nI i) K k2 (nI t) S := fun q => by
        unfold w_X9_isGone_108
        intro x2 e2
        rw [m_lit 1, nI_add] at e2
        subst e2
        refine ih (t + 1) (by omega) (fun u hu2 => ?_)
        by_cases q2 : u = t
        · rw [q2]; exact q
        · exact hu u (by omega)
      have yes : gonk T i t = true → w_X9_isGone_106 (nI i) K S := fun q => by
        unfold w_X9_isGone_106
        refine h1 ?_
        unfold gone
        rw [List.any_eq_true]
        exact ⟨t, List.mem_range.mpr htl, q⟩
      have z49 : gonk T i t = false → w_X9_isGone_50 (nI i) K k2 (nI t) 0 S := fun q => by
        unfold w_X9_isGone_50 w_X9_isGone_89 w_X9_isGone_90
        exact ⟨fun _ => ⟨fun _ => no q, fun z => absurd rfl z⟩, fun z => absurd rfl z⟩
      refine pk_le (N 6) t (fun q => by omega) (fun _ => ?_)
      refine pk_eq t i (fun q => ?_) (fun q => ?_)
      · unfold w_X9_isGone_49
        exact z49 (by unfold gonk; rw [decide_eq_false (by omega)]; rfl)
      · rw [m_lit 25, nI_add, nI_add, mul160, mul160]
        have dt : decide (t ≠ i) = true := decide_eq_true q
        refine sp_divides9 (hs t htl) (hs i hi) (mle_mono mt (by omega)) (mle_mono mi (by omega)) (by rw [al_227]; omega) (by rw [al_227]; omega) (by rw [al_227]; decide) (by rw [al_227]; decide) (fun q2 => ⟨fun z => absurd z (by decide), fun _ => ?_⟩) (fun q2 => ⟨fun _ => ?_, fun z => absurd rfl z⟩)
        · unfold w_X9_isGone_50
          refine ⟨fun z => absurd z (by decide), fun _ => ?_⟩
          rw [m_lit 25, nI_add, nI_add, mul160, mul160]
          refine sp_divides9 (hs i hi) (hs t htl) (mle_mono mi (by omega)) (mle_mono mt (by omega)) (by rw [al_227]; omega) (by rw [al_227]; omega) (by rw [al_227]; decide) (by rw [al_227]; decide) (fun q3 => ⟨fun z => absurd z (by decide), fun _ => ?_⟩) (fun q3 => ⟨fun _ => ?_, fun z => absurd rfl z⟩)
          · unfold w_X9_isGone_90
            refine ⟨fun z => absurd z (by decide), fun _ => ⟨fun z => absurd z (by decide), fun _ => ?_⟩⟩
            refine pk_le i t (fun q4 => no ?_) (fun q4 => yes ?_)
            · unfold gonk; rw [dt, dvb_iff.mpr q2, dvb_iff.mpr q3, decide_eq_false (by omega)]; rfl
            · unfold gonk; rw [dt, dvb_iff.mpr q2, decide_eq_true q4, Bool.or_true]; rfl
          · unfold w_X9_isGone_89 w_X9_isGone_90
            refine ⟨fun z => absurd z (by decide), fun _ => ⟨fun _ => yes ?_, fun z => absurd rfl z⟩⟩
            unfold gonk
            rw [dt, dvb_iff.mpr q2, Bool.eq_false_iff.mpr (fun z => q3 (dvb_iff.mp z))]
            rfl
        · unfold w_X9_isGone_49
          exact z49 (by unfold gonk; rw [Bool.eq_false_iff.mpr (fun z => q2 (dvb_iff.mp z)), Bool.and_false, Bool.false_and])
  unfold w_X9_isGone
  exact ⟨N 6 + 1, loop (N 6) 0 (by omega) (fun u hu => by omega)⟩
def inI (o i : Nat) (m : Mo) (A : Po) : Po := A.take (bk o m A A.length) ++ (i, m) :: A.drop (bk o m A A.length)
theorem inI_len {o i : Nat} {m : Mo} {A : Po} : (inI o i m A).length = A.length + 1 := by
  have := bk_le (o := o) (m := m) (A := A) A.length
  unfold inI
  rw [List.length_append, List.length_cons, List.length_take, List.length_drop]
  omega
/-- those of the first ones that stay, by their heads -/
def srtF (N : Nat → Nat) (T : Nat → Option Po) : Nat → Po
  | 0 => []
  | i + 1 => if gone N T i = true then srtF N T i else inI (N 2) i (hdm T i) (srtF N T i)
theorem srtF_len : ∀ i, (srtF N T i).length ≤ i
  | 0 => Nat.le_refl _
  | i + 1 => by
    have := srtF_len i
    unfold srtF
    split
    · omega
    · rw [inI_len]; omega
theorem srtF_mem : ∀ {i : Nat} {t : Te}, t ∈ srtF N T i → t.1 < i ∧ t.2 = hdm T t.1
  | 0, _, h => nomatch h
  | i + 1, t, h => by
    unfold srtF at h
    split at h
    · have := srtF_mem h
      exact ⟨by omega, this.2⟩
    · unfold inI at h
      have old : t ∈ srtF N T i → t.1 < i + 1 ∧ t.2 = hdm T t.1 := fun q => by
        have := srtF_mem q
        exact ⟨by omega, this.2⟩
      rcases List.mem_append.mp h with q | q
      · exact old (List.mem_of_mem_take q)
      · rcases List.mem_cons.mp q with z | z
        · rw [z]; exact ⟨Nat.lt_succ_self i, rfl⟩
        · exact old (List.mem_of_mem_drop z)
/-- what the places behind the basis hold -/
def TM (S : St) (Ls : List Po) : Prop := S 224 34 = nI Ls.length ∧ ∀ k, k < Ls.length → PM S (43 + k) (Ls.getD k [])
theorem M9_hi {S' : St} {k : Nat} {cs fs : List Nat} (h : M9 N T R S) (hk : pkf k S S') (k43 : 43 ≤ k) (f : fr9 cs fs S S') (h1 : ∀ c ∈ cs, c ≠ 228 ∧ c ≠ 229) (h2 : ∀ j ∈ sc9, j ∉ fs) : M9 N T R S' := by
  obtain ⟨a, b, c, d⟩ := h
  refine ⟨fun j hj => by rw [f.2 j (h2 j hj)]; exact a j hj, fun i Q hi hT => PM_pkf hk (by omega) (b i Q hi hT), fun i q1 q2 hT => by rw [hk.1 i (by omega)]; exact c i q1 q2 hT, fun t ht => ?_⟩
  rw [f.1 228 (by decide) (fun z => (h1 _ z).1 rfl), f.1 229 (by decide) (fun z => (h1 _ z).2 rfl)]
  exact d t ht
end OPS
