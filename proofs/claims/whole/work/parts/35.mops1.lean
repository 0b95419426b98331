/-! the reference's calls: order, term, keep, drop, terms, number, exponent, sum -/
def gt (T : Nat → Option Po) (k : Nat) : Po := (T k).getD []
def D9 (f : Int32 × (Nat → Nat) × (Nat → Option Po) × (Nat → Nat × Nat)) (S : St) (K : Int32 → St → Prop) : Prop := ∀ S', M9 f.2.1 f.2.2.1 f.2.2.2 S' → lo S S' → K f.1 S'
theorem gt_s {T : Nat → Option Po} {k : Nat} {P : Po} (h : T k = some P) : gt T k = P := by unfold gt; rw [h]; rfl
theorem sp_inI {x hi : Int32} {H : Int} {S : St} {K : Int32 → St → Prop} (hH : hi.toInt = H) (h1 : ∀ v : Nat, (v : Int) ≤ H → x = nI v → x.toInt = v → K 1 S) (h0 : ¬ (0 ≤ x.toInt ∧ x.toInt ≤ H) → K 0 S) : w_X9_in x 0 hi S K := by
  refine sp_in (fun a b => ?_) (fun c => h0 (fun d => c ?_))
  · rw [Int32.le_iff_toInt_le, Int32.toInt_zero] at a
    rw [Int32.le_iff_toInt_le, hH] at b
    exact h1 x.toInt.toNat (by omega) (nI_nn a) (by omega)
  · rw [Int32.le_iff_toInt_le, Int32.toInt_zero, Int32.le_iff_toInt_le, hH]
    exact d
theorem nI_m1 {m : Nat} (h : m < 2 ^ 31) : (nI m - 1 : Int32).toInt = (m : Int) - 1 := by
  have e1 : (1 : Int32).toInt = 1 := by decide
  rw [Int32.toInt_sub, nI_toInt (by omega), e1]
  apply Int.bmod_eq_of_le <;> omega
section OPS
variable {N : Nat → Nat} {T : Nat → Option Po} {R : Nat → Nat × Nat} {S : St} {K : Int32 → St → Prop}
/-- what comes on the shelf -/
def shv (N : Nat → Nat) (T : Nat → Option Po) (R : Nat → Nat × Nat) (P : Po) : Int32 × (Nat → Nat) × (Nat → Option Po) × (Nat → Nat × Nat) :=
  if P.length ≤ 40 then (nI (fre T - 1), N, tu T (fre T) (some P), R) else (-6, N, T, R)
theorem fre_le : 1 ≤ fre T ∧ fre T ≤ 25 := by
  have := frp_ok (T := T) 24 1
  unfold fre
  omega
theorem sp_shelve {L : Po} (w : WF N T R) (h : M9 N T R S) (hf : fre T ≠ 25) (hR : RM S L) (hp : Lp (N 0) L) (hK : D9 (shv N T R (clean L)) S K) : w_X9_shelve (nI (fre T)) S K := by
  have hb := prm_b w.1
  have fl := fre_le (T := T)
  unfold w_X9_shelve
  refine sp_clean hR (Or.inl (fun t ht => by have := hp t ht; omega)) (fun S1 hR1 f1 => ?_)
  have hl := hR1.2.1
  have h1 := M9_fr h f1 (by decide) (by decide)
  rw [hR1.1]
  unfold D9 shv at hK
  refine pk_le (clean L).length 40 (fun q => ?_) (fun q => ?_)
  · rw [if_pos q] at hK
    refine sp_lay (a := 1) hb (by omega) (h1.1 0 (by decide)) hR1 q (clean_Lp hp) (by omega) (fun S2 hP f2 hk => ?_)
    rw [scl_one (clean_Lp hp)] at hP
    have e : (nI (fre T) - 1 : Int32) = nI (fre T - 1) := pk_sub (b := 1) (by omega)
    rw [e]
    exact hK S2 (M9_lay h1 hP hk f2 (by decide) (by decide)) (lo_tr (lo_fr f1 (by decide)) (lo_fr f2 (by decide)))
  · rw [if_neg (by omega)] at hK
    exact hK S1 h1 (lo_fr f1 (by decide))
def f_terms (N : Nat → Nat) (T : Nat → Option Po) (R : Nat → Nat × Nat) (x : Int32) : Int32 × (Nat → Nat) × (Nat → Option Po) × (Nat → Nat × Nat) :=
  match plc N T x with
  | none => (-2, N, T, R)
  | some k => (nI (gt T k).length, N, T, R)
theorem m_terms {x : Int32} (w : WF N T R) (h : M9 N T R S) (hK : D9 (f_terms N T R x) S K) : w_X9_terms x S K := by
  unfold w_X9_terms
  unfold f_terms D9 at hK
  refine sp_placeOf w h (fun k P e hk hT g => ?_) (fun e => ?_)
  · rw [e] at hK
    have hP := h.2.1 k P hk hT
    refine pk_le 0 k (fun _ => ⟨vp_in_nI (by omega) (by decide), ?_⟩) (fun q => by omega)
    rw [m_rf (by omega), hP.1, ← gt_s hT]
    exact hK S h lo_rf
  · rw [e] at hK
    exact ⟨fun q => absurd q (by decide), fun _ => hK S h lo_rf⟩
def f_number (N : Nat → Nat) (T : Nat → Option Po) (R : Nat → Nat × Nat) (x t : Int32) : Int32 × (Nat → Nat) × (Nat → Option Po) × (Nat → Nat × Nat) :=
  match plc N T x with
  | none => (-2, N, T, R)
  | some k => if 0 ≤ t.toInt ∧ t.toInt ≤ ((gt T k).length : Int) - 1 then (nI (pc (gt T k) t.toInt.toNat), N, T, R) else (-2, N, T, R)
theorem m_number {x t : Int32} (w : WF N T R) (h : M9 N T R S) (hK : D9 (f_number N T R x t) S K) : w_X9_number x t S K := by
  unfold w_X9_number w_X9_number_26
  unfold f_number D9 at hK
  refine sp_placeOf w h (fun k P e hk hT g => ?_) (fun e => ?_)
  · rw [e] at hK
    have hP := h.2.1 k P hk hT
    have hl := hP.2.1
    simp only [gt_s hT] at hK
    refine pk_lt k 0 (fun q => by omega) (fun _ => ⟨vp_in_nI (by omega) (by decide), ?_⟩)
    rw [m_rf (by omega), hP.1]
    refine sp_inI (nI_m1 (by omega)) (fun v hv e1 e2 => ?_) (fun q => ?_)
    · rw [if_pos (by omega), e2] at hK
      rw [e1, ix40, m_rf (by omega), (hP.2.2 v (by omega)).1]
      exact ⟨fun _ => ⟨vp_in_nI (by omega) (by decide), hK S h lo_rf⟩, fun q => absurd q (by decide)⟩
    · rw [if_neg q] at hK
      exact ⟨fun q => absurd rfl q, fun _ => hK S h lo_rf⟩
  · rw [e] at hK
    exact ⟨fun _ => hK S h lo_rf, fun q => absurd (show (-2 : Int32) < 0 by decide) q⟩
def f_exponent (N : Nat → Nat) (T : Nat → Option Po) (R : Nat → Nat × Nat) (x t v : Int32) : Int32 × (Nat → Nat) × (Nat → Option Po) × (Nat → Nat × Nat) :=
  match plc N T x with
  | none => (-2, N, T, R)
  | some k => if 0 ≤ t.toInt ∧ t.toInt ≤ ((gt T k).length : Int) - 1 then (if 0 ≤ v.toInt ∧ v.toInt ≤ (N 1 : Int) - 1 then (nI (ex (pm (gt T k) t.toInt.toNat) v.toInt.toNat), N, T, R) else (-2, N, T, R)) else (-2, N, T, R)
theorem m_exponent {x t v : Int32} (w : WF N T R) (h : M9 N T R S) (hK : D9 (f_exponent N T R x t v) S K) : w_X9_exponent x t v S K := by
  unfold w_X9_exponent w_X9_exponent_43
  unfold f_exponent D9 at hK
  have wn := w.2.1
  refine sp_placeOf w h (fun k P e hk hT g => ?_) (fun e => ?_)
  · rw [e] at hK
    have hP := h.2.1 k P hk hT
    have hl := hP.2.1
    simp only [gt_s hT] at hK
    refine pk_lt k 0 (fun q => by omega) (fun _ => ⟨vp_in_nI (by omega) (by decide), ?_⟩)
    rw [m_rf (by omega), hP.1]
    refine sp_inI (nI_m1 (by omega)) (fun j hj e1 e2 => ?_) (fun q => ?_)
    · rw [if_pos (by omega)] at hK
      refine ⟨fun q => absurd q (by decide), fun _ => ?_⟩
      rw [h.1 1 (by decide)]
      refine sp_inI (nI_m1 (by omega)) (fun u hu e3 e4 => ?_) (fun q => ?_)
      · rw [if_pos (by omega), e2, e4] at hK
        rw [e1, e3, ix160, m_rf (by omega), (hP.2.2 j (by omega)).2 u (by omega)]
        exact ⟨fun _ => ⟨vp_in_nI (by omega) (by decide), hK S h lo_rf⟩, fun q => absurd q (by decide)⟩
      · rw [if_neg q] at hK
        exact ⟨fun q => absurd rfl q, fun _ => hK S h lo_rf⟩
    · rw [if_neg q] at hK
      exact ⟨fun _ => hK S h lo_rf, fun q => absurd rfl q⟩
  · rw [e] at hK
    exact ⟨fun _ => hK S h lo_rf, fun q => absurd (show (-2 : Int32) < 0 by decide) q⟩
def f_keep (N : Nat → Nat) (T : Nat → Option Po) (R : Nat → Nat × Nat) : Int32 × (Nat → Nat) × (Nat → Option Po) × (Nat → Nat × Nat) :=
  if fre T = 25 then (-4, N, T, R) else (nI (fre T - 1), N, tu (tu T (fre T) (some (gt T 0))) 0 (some []), R)
theorem m_keep (w : WF N T R) (h : M9 N T R S) (hK : D9 (f_keep N T R) S K) : w_X9_keep S K := by
  have hb := prm_b w.1
  have fl := fre_le (T := T)
  unfold w_X9_keep
  unfold f_keep D9 at hK
  obtain ⟨D, hD⟩ := w.2.2.2.2.2.2.2.2.2.2.1
  have g := w.2.2.2.2.2.2.2.2.2.2.2.2.1 0 D (by decide) hD
  refine sp_free h ?_
  refine ⟨fun q => ?_, fun q => ?_⟩
  · have q' : fre T ≠ 25 := fun z => q (by rw [z]; rfl)
    rw [if_neg q', gt_s hD] at hK
    refine sp_copy (i := 0) hb (by omega) (by omega) (h.1 0 (by decide)) (h.2.1 0 D (by decide) hD) g.1.2.2.1 (fun S1 hP f hk => ?_)
    intro S2 e2
    have e : (nI (fre T) - 1 : Int32) = nI (fre T - 1) := pk_sub (b := 1) (by omega)
    rw [e]
    have m1 := M9_lay h hP hk f (by decide) (by decide)
    have f2 : fr9 [225] [] S1 S2 := by rw [e2]; exact fr9_su (by decide) (by decide)
    refine hK S2 (M9_lay m1 (P := []) ⟨by rw [e2]; exact su_s _ _ _ _, by decide, fun t ht => by cases ht⟩ ⟨fun j hj => by rw [e2]; exact su_n _ _ (Or.inr hj), fun i _ => by rw [e2]; exact su_n _ _ (Or.inl (by decide)), fun i _ => by rw [e2]; exact su_n _ _ (Or.inl (by decide))⟩ f2 (by decide) (by decide)) (lo_tr (lo_fr f (by decide)) (lo_fr f2 (by decide)))
  · have q' : fre T = 25 := (m_eq32 (by omega) (by decide)).mp q
    rw [if_pos q'] at hK
    exact hK S h lo_rf
def f_drop (N : Nat → Nat) (T : Nat → Option Po) (R : Nat → Nat × Nat) (x : Int32) : Int32 × (Nat → Nat) × (Nat → Option Po) × (Nat → Nat × Nat) :=
  if 0 ≤ x.toInt ∧ x.toInt ≤ 23 then (match T (1 + x.toInt.toNat) with
    | none => (-2, N, T, R)
    | some P => (nI P.length, N, tu T (1 + x.toInt.toNat) none, R)) else (-2, N, T, R)
theorem m_drop {x : Int32} (h : M9 N T R S) (hK : D9 (f_drop N T R x) S K) : w_X9_drop x S K := by
  unfold w_X9_drop w_X9_drop_22
  unfold f_drop D9 at hK
  have hm : (-1 : Int32).toInt = -1 := by decide
  refine sp_inI (H := 23) (by decide) (fun v hv e1 e2 => ?_) (fun q => ?_)
  · rw [if_pos (by omega), e2, show (v : Int).toNat = v from rfl] at hK
    refine ⟨fun q => absurd q (by decide), fun _ => ?_⟩
    have e3 : (1 + x : Int32) = nI (1 + v) := by rw [e1, m_lit 1, nI_add]
    rw [e3, m_rf (by omega)]
    refine ⟨vp_in_nI (by omega) (by decide), ?_⟩
    cases hT : T (1 + v) with
    | none =>
      rw [hT] at hK
      exact ⟨fun q => absurd (h.2.2.1 _ (by omega) (by omega) hT) q, fun _ => hK S h lo_rf⟩
    | some P =>
      rw [hT] at hK
      have hP := h.2.1 _ P (by omega) hT
      have hl := hP.2.1
      refine ⟨fun _ => ?_, fun q => ?_⟩
      · intro x2 e4 S7 e5
        rw [e4, hP.1]
        have f : fr9 [225] [] S S7 := by rw [e5]; exact fr9_su (by decide) (by decide)
        refine hK S7 ⟨fun j hj => by rw [f.2 j (by simp)]; exact h.1 j hj, fun k Q hk hQ => ?_, fun k q1 q2 hQ => ?_, fun t ht => ?_⟩ (lo_fr f (by decide))
        · by_cases q : k = 1 + v
          · rw [q] at hQ
            have hQ : tu T (1 + v) none (1 + v) = some Q := hQ
            rw [tu_s] at hQ; cases hQ
          · have hQ : tu T (1 + v) none k = some Q := hQ
            rw [tu_n q] at hQ
            have := h.2.1 k Q hk hQ
            refine ⟨by rw [e5, su_n _ _ (Or.inr q)]; exact this.1, this.2.1, fun t ht => ?_⟩
            rw [f.1 226 (by decide) (by decide)]
            exact ⟨(this.2.2 t ht).1, MA_eq (this.2.2 t ht).2 (fun u _ => by rw [f.1 227 (by decide) (by decide)])⟩
        · by_cases q : k = 1 + v
          · rw [e5, q, su_s]
          · have hQ : tu T (1 + v) none k = none := hQ
            rw [tu_n q] at hQ
            rw [e5, su_n _ _ (Or.inr q)]
            exact h.2.2.1 k q1 q2 hQ
        · rw [f.1 228 (by decide) (by decide), f.1 229 (by decide) (by decide)]
          exact h.2.2.2 t ht
      · rw [hP.1] at q
        have := congrArg Int32.toInt q
        rw [hm, nI_toInt (by omega)] at this
        omega
  · rw [if_neg q] at hK
    exact ⟨fun _ => hK S h lo_rf, fun q => absurd rfl q⟩
def f_sum (N : Nat → Nat) (T : Nat → Option Po) (R : Nat → Nat × Nat) (x y s : Int32) : Int32 × (Nat → Nat) × (Nat → Option Po) × (Nat → Nat × Nat) :=
  match plc N T x with
  | none => (-2, N, T, R)
  | some i => match plc N T y with
    | none => (-2, N, T, R)
    | some j => if fre T = 25 then (-4, N, T, R) else shv N T R (clean (addT (N 2) (N 0) (gt T j) (rs (N 0) s) m1 (gt T i)))
theorem gr_m1 {P : Po} (h : L30 P) : ¬ gr P m1 := by
  rintro ⟨t, ht, q⟩
  have := h t ht
  unfold mle at this q
  unfold mm m1 at q
  simp only at q
  omega
theorem m_sum {x y s : Int32} (w : WF N T R) (h : M9 N T R S) (hK : D9 (f_sum N T R x y s) S K) : w_X9_sum x y s S K := by
  have hb := prm_b w.1
  have fl := fre_le (T := T)
  unfold w_X9_sum w_X9_sum_24
  unfold f_sum at hK
  have bad : ∀ i : Nat, i < 43 → (0 ≤ (nI i : Int32)) := fun i hi => by
    rw [Int32.le_iff_toInt_le, Int32.toInt_zero, nI_toInt (by omega)]; omega
  have nbad : ∀ i : Nat, i < 43 → ¬ ((nI i : Int32) < 0) := fun i hi => by
    rw [Int32.lt_iff_toInt_lt, Int32.toInt_zero, nI_toInt (by omega)]; omega
  refine sp_placeOf w h (fun i P e hi hT g => ?_) (fun e => ?_)
  · rw [e] at hK
    refine sp_placeOf w h (fun j Q e' hj hT' g' => ?_) (fun e' => ?_)
    · rw [e'] at hK
      simp only [gt_s hT, gt_s hT'] at hK
      refine ⟨fun q => absurd q (nbad i hi), fun _ => ⟨fun _ => ?_, fun q => absurd (bad j hj) q⟩⟩
      refine sp_free h ?_
      have hP := h.2.1 i P hi hT
      refine ⟨fun q => ?_, fun q => ?_⟩
      · have q' : fre T ≠ 25 := fun z => q (by rw [z]; rfl)
        rw [if_neg q'] at hK
        refine sp_fetch (by omega) hP (fun S1 hR1 f1 => ?_)
        refine sp_byOne (fun S2 hA f2 => ?_)
        have f12 : fr9 [230, 231, 233] [20] S S2 := fr9_tr (fr9_mono f1 (by decide) (by decide)) (fr9_mono f2 (by decide) (by decide))
        have h2 := M9_fr h f12 (by decide) (by decide)
        refine sp_rest9 (p := N 0) (h2.1 0 (by decide)) (by omega) (by omega) ?_
        have hR2 : RM S2 P := RM_fr hR1 (f2.2 20 (by decide)) (f2.1 230 (by decide) (by decide)) (f2.1 231 (by decide) (by decide))
        have hl1 := g.2.1
        have hl2 := g'.2.1
        refine sp_addTimes (p := N 0) (o := N 2) hb w.2.2.1 (by omega) g'.1.2.2.2 g'.1.2.2.1 (rs_lt (by omega) _) (h2.1 0 (by decide)) (h2.1 2 (by decide)) (h2.2.1 j Q hj hT') hA ⟨Nat.zero_le _, Nat.zero_le _, Nat.zero_le _, Nat.zero_le _⟩ hR2 (by omega) g.1.2.2.2 g.1.2.2.1 (fun q => absurd q (gr_m1 g'.1.2.2.2)) (fun _ S3 hR3 f3 => ?_)
        have h3 := M9_fr h2 f3 (by decide) (by decide)
        exact sp_shelve w h3 q' hR3 (addT_Lp (by omega) g.1.2.2.1) (fun S4 h4 l4 => hK S4 h4 (lo_tr (lo_fr f12 (by decide)) (lo_tr (lo_fr f3 (by decide)) l4)))
      · have q' : fre T = 25 := (m_eq32 (by omega) (by decide)).mp q
        rw [if_pos q'] at hK
        exact hK S h lo_rf
    · rw [e'] at hK
      exact ⟨fun q => absurd q (nbad i hi), fun _ => ⟨fun q => absurd q (by decide), fun _ => hK S h lo_rf⟩⟩
  · rw [e] at hK
    have : ∀ r S1, S1 = S → (((-2 : Int32) < 0 → K (-2) S1) ∧ (¬ ((-2 : Int32) < 0) → r)) := fun r S1 e1 => ⟨fun _ => by rw [e1]; exact hK S h lo_rf, fun q => absurd (show (-2 : Int32) < 0 by decide) q⟩
    exact sp_placeOf w h (fun _ _ _ _ _ _ => this _ _ rfl) (fun _ => this _ _ rfl)
end OPS
