/-! the reference: digest, without -/
def dgE (m : Mo) (d : Int64) : Nat → Int64
  | 0 => d
  | v + 1 => 31 * dgE m d v + (nI (ex m v)).toInt64
def dgT (n : Nat) (d : Int64) (t : Te) : Int64 := dgE t.2 (31 * d + (nI t.1).toInt64) n
def dgP (n : Nat) (h : Int64) (P : Po) : Int64 := P.foldl (dgT n) (31 * h + (nI P.length).toInt64)
def dgS (n : Nat) (T : Nat → Option Po) (h : Int64) : Nat → Int64
  | 0 => h
  | d + 1 => match T (1 + d) with
    | none => dgS n T h d
    | some P => dgP n (31 * dgS n T h d + (nI d).toInt64) P
def dgB (n : Nat) (T : Nat → Option Po) (h : Int64) : Nat → Int64
  | 0 => h
  | i + 1 => dgP n (dgB n T h i) (gt T (25 + i))
def f_digest (N : Nat → Nat) (T : Nat → Option Po) : Int64 := dgB (N 1) T (dgS (N 1) T (dgP (N 1) 17 (gt T 0)) 24) (N 6)
theorem sp_digested {S : St} {P : Po} {k n : Nat} {h : Int64} {K : Int64 → St → Prop} (hk : k < 61) (hn : n ≤ 4) (h1 : S 224 1 = nI n) (hP : PM S k P) (hK : K (dgP n h P) S) : w_X9_digested h (nI k) S K := by
  have hl := hP.2.1
  unfold w_X9_digested
  rw [m_rf (by omega), hP.1]
  refine ⟨vp_in_nI hk (by decide), ?_⟩
  intro y4 e4
  have loop : ∀ (d t : Nat) (y : Int64), t + d = P.length → dgP n h P = (P.drop t).foldl (dgT n) y → q_it (fun _ _ _ => False) (w_X9_digested_18 h (nI k) K) (d + 1) y (nI t) S := by
    intro d
    induction d with
    | zero =>
      intro t y ht ey
      rw [q_it_s]
      unfold w_X9_digested_18
      rw [m_rf (by omega), hP.1]
      refine ⟨vp_in_nI hk (by decide), pk_le P.length t (fun _ => ?_) (fun q => by omega)⟩
      rw [List.drop_eq_nil_of_le (by omega)] at ey
      rw [ey] at hK
      exact hK
    | succ d ih =>
      intro t y ht ey
      have htl : t < P.length := by omega
      have g := hP.2.2 t htl
      rw [q_it_s]
      generalize q_it (fun _ _ _ => False) (w_X9_digested_18 h (nI k) K) (d + 1) = k2 at ih ⊢
      unfold w_X9_digested_18
      rw [m_rf (by omega), hP.1]
      refine ⟨vp_in_nI hk (by decide), pk_le P.length t (fun q => by omega) (fun _ => ?_)⟩
      rw [ix40, m_rf (by omega), g.1]
      refine ⟨vp_in_nI (by omega) (by decide), ?_⟩
      intro y4 e4
      subst e4
      have inner : ∀ (d v : Nat), v + d = n → q_it (fun _ _ _ => False) (w_X9_digested_54 h (nI k) K k2 (nI t)) (d + 1) (dgE (pm P t) (31 * y + (nI (pc P t)).toInt64) v) (nI v) S := by
        intro d
        induction d with
        | zero =>
          intro v hv
          rw [q_it_s]
          unfold w_X9_digested_54
          rw [h1]
          refine pk_le n v (fun _ => ?_) (fun q => by omega)
          intro x6 e6
          rw [m_lit 1, nI_add] at e6
          subst e6
          refine ih (t + 1) _ (by omega) ?_
          rw [drop_cons htl, List.foldl_cons] at ey
          rw [ey, show v = n by omega]
          rfl
        | succ d ih2 =>
          intro v hv
          rw [q_it_s]
          generalize q_it (fun _ _ _ => False) (w_X9_digested_54 h (nI k) K k2 (nI t)) (d + 1) = k3 at ih2 ⊢
          unfold w_X9_digested_54
          rw [h1]
          refine pk_le n v (fun q => by omega) (fun _ => ?_)
          rw [ix160, m_rf (by omega), g.2 v (by omega)]
          refine ⟨vp_in_nI (by omega) (by decide), ?_⟩
          intro y4 e4 x7 e7
          rw [m_lit 1, nI_add] at e7
          subst e4; subst e7
          exact ih2 (v + 1) (by omega)
      exact ⟨n + 1, inner n 0 (by omega)⟩
  exact ⟨P.length + 1, loop P.length 0 y4 (by omega) (by rw [e4]; rfl)⟩
section OPS
variable {N : Nat → Nat} {T : Nat → Option Po} {R : Nat → Nat × Nat} {S : St}
theorem m_digest {K : Int64 → St → Prop} (w : WF N T R) (h : M9 N T R S) (hK : K (f_digest N T) S) : w_X9_digest S K := by
  have wn := w.2.1
  have w6 : N 6 ≤ 18 := w.2.2.2.2.2.2.2.1
  have h1 := h.1 1 (by decide)
  obtain ⟨D, hD⟩ := w.2.2.2.2.2.2.2.2.2.2.1
  have hm : (-1 : Int32).toInt = -1 := by decide
  unfold f_digest at hK
  rw [gt_s hD] at hK
  unfold w_X9_digest
  refine sp_digested (k := 0) (n := N 1) (by omega) (by omega) h1 (h.2.1 0 D (by decide) hD) ?_
  have base : ∀ (d i : Nat), i + d = N 6 → q_it (fun _ _ _ => False) (w_X9_digest_51 K) (d + 1) (dgB (N 1) T (dgS (N 1) T (dgP (N 1) 17 D) 24) i) (nI i) S := by
    intro d
    induction d with
    | zero =>
      intro i hi
      rw [q_it_s]
      unfold w_X9_digest_51
      rw [h.1 6 (by decide)]
      refine pk_le (N 6) i (fun _ => ?_) (fun q => by omega)
      rw [show i = N 6 by omega]
      exact hK
    | succ d ih =>
      intro i hi
      rw [q_it_s]
      generalize q_it (fun _ _ _ => False) (w_X9_digest_51 K) (d + 1) = k2 at ih ⊢
      unfold w_X9_digest_51
      rw [h.1 6 (by decide)]
      refine pk_le (N 6) i (fun q => by omega) (fun _ => ?_)
      rw [m_lit 25, nI_add]
      refine sp_digested (n := N 1) (by omega) (by omega) h1 (h.2.1 (25 + i) _ (by omega) (bas_some w (by omega))) ?_
      intro x3 e3
      rw [m_lit 1, nI_add] at e3
      subst e3
      exact ih (i + 1) (by omega)
  have loop : ∀ (d t : Nat), t + d = 24 → q_it (fun _ _ _ => False) (w_X9_digest_11 K) (d + 1) (dgS (N 1) T (dgP (N 1) 17 D) t) (nI (1 + t)) S := by
    intro d
    induction d with
    | zero =>
      intro t ht
      rw [q_it_s]
      unfold w_X9_digest_11
      refine pk_le 25 (1 + t) (fun _ => ?_) (fun q => by omega)
      rw [show t = 24 by omega]
      exact ⟨N 6 + 1, base (N 6) 0 (by omega)⟩
    | succ d ih =>
      intro t ht
      rw [q_it_s]
      generalize q_it (fun _ _ _ => False) (w_X9_digest_11 K) (d + 1) = k2 at ih ⊢
      unfold w_X9_digest_11 w_X9_digest_43
      refine pk_le 25 (1 + t) (fun q => by omega) (fun _ => ⟨vp_in_nI (by omega) (by decide), ?_⟩)
      rw [m_rf (by omega)]
      have go := ih (t + 1) (by omega)
      have es : dgS (N 1) T (dgP (N 1) 17 D) (t + 1) = match T (1 + t) with
        | none => dgS (N 1) T (dgP (N 1) 17 D) t
        | some P => dgP (N 1) (31 * dgS (N 1) T (dgP (N 1) 17 D) t + (nI t).toInt64) P := rfl
      cases hT : T (1 + t) with
      | none =>
        rw [hT] at es
        rw [es] at go
        rw [h.2.2.1 _ (by omega) (by omega) hT]
        refine ⟨fun _ => ?_, fun q => absurd rfl q⟩
        intro x3 e3
        rw [m_lit 1, nI_add] at e3
        subst e3
        exact go
      | some P =>
        rw [hT] at es
        rw [es] at go
        have hP := h.2.1 _ P (by omega) hT
        have hl := hP.2.1
        refine ⟨fun q => ?_, fun _ => ?_⟩
        · rw [hP.1] at q
          have := congrArg Int32.toInt q
          rw [hm, nI_toInt (by omega)] at this
          omega
        · have e : (nI (1 + t) - 1 : Int32) = nI t := by
            have : (nI (1 + t) - 1 : Int32) = nI (1 + t - 1) := pk_sub (b := 1) (by omega)
            rw [this, Nat.add_sub_cancel_left]
          rw [e]
          refine sp_digested (n := N 1) (by omega) (by omega) h1 hP ?_
          intro x3 e3
          rw [m_lit 1, nI_add] at e3
          subst e3
          exact go
  exact ⟨25, loop 24 0 (by omega)⟩
/-- the sum of the exponents of the first variables -/
def sE (m : Mo) : Nat → Nat
  | 0 => 0
  | v + 1 => sE m v + ex m v
def sP (k : Nat) (P : Po) : Nat := P.foldl (fun s t => s + sE t.2 k) 0
theorem sE_le {m : Mo} (h : mle 30 m) : ∀ v, sE m v ≤ 30 * v
  | 0 => Nat.le_refl _
  | v + 1 => by
    have := sE_le h v
    have := ex_le h v
    unfold sE
    omega
theorem sP_snoc {k t : Nat} {P : Po} (h : t < P.length) : sP k (P.take (t + 1)) = sP k (P.take t) + sE (pm P t) k := by
  unfold sP
  rw [take_snoc h, List.foldl_append]
  rfl
def wc (T : Nat → Option Po) (k : Nat) : Nat → Nat
  | 0 => 0
  | i + 1 => wc T k i + (if sP k (gt T (25 + i)) = 0 then 1 else 0)
theorem wc_le (k : Nat) : ∀ i, wc T k i ≤ i
  | 0 => Nat.le_refl _
  | i + 1 => by
    have := wc_le k i
    unfold wc
    split <;> omega
def f_without (N : Nat → Nat) (T : Nat → Option Po) (R : Nat → Nat × Nat) (x : Int32) : Int32 × (Nat → Nat) × (Nat → Option Po) × (Nat → Nat × Nat) :=
  if 0 ≤ x.toInt ∧ x.toInt ≤ N 1 then (if N 13 = 0 then (-3, N, T, R) else (nI (wc T x.toInt.toNat (N 6)), N, T, R)) else (-2, N, T, R)
theorem m_without {x : Int32} {K : Int32 → St → Prop} (w : WF N T R) (h : M9 N T R S) (hK : D9 (f_without N T R x) S K) : w_X9_without x S K := by
  have wn := w.2.1
  have w6 : N 6 ≤ 18 := w.2.2.2.2.2.2.2.1
  have w13 : N 13 ≤ 1 := w.2.2.2.2.2.2.1
  unfold f_without at hK
  unfold w_X9_without
  rw [h.1 1 (by decide)]
  refine sp_inI (nI_toInt (by omega)) (fun k hk e1 e2 => ⟨fun _ => ?_, fun q => absurd q (by decide)⟩) (fun q => ⟨fun q => absurd rfl q, fun _ => ?_⟩)
  · rw [if_pos ⟨by omega, by omega⟩, e2, show (k : Int).toNat = k from rfl] at hK
    rw [h.1 13 (by decide)]
    refine pk_eq' (j := 0) (by omega) (by decide) (fun q => ?_) (fun q => by rw [if_pos q] at hK; exact hK S h lo_rf)
    rw [if_neg q] at hK
    have hk4 : k ≤ 4 := by omega
    have loop : ∀ (d i : Nat), i + d = N 6 → q_it (fun _ _ _ => False) (w_X9_without_29 x K) (d + 1) (nI (wc T k i)) (nI i) S := by
      intro d
      induction d with
      | zero =>
        intro i hi
        rw [q_it_s]
        unfold w_X9_without_29
        rw [h.1 6 (by decide)]
        refine pk_le (N 6) i (fun _ => ?_) (fun q => by omega)
        rw [show i = N 6 by omega]
        exact hK S h lo_rf
      | succ d ih =>
        intro i hi
        have hil : i < N 6 := by omega
        obtain ⟨hT, g, l1, _⟩ := hd_ok w hil
        have hP := h.2.1 _ _ (by omega) hT
        generalize hgp : gt T (25 + i) = P at *
        have hl := hP.2.1
        rw [q_it_s]
        generalize q_it (fun _ _ _ => False) (w_X9_without_29 x K) (d + 1) = k2 at ih ⊢
        unfold w_X9_without_29
        rw [h.1 6 (by decide)]
        refine pk_le (N 6) i (fun q => by omega) (fun _ => ?_)
        have go := ih (i + 1) (by omega)
        have ew : wc T k (i + 1) = wc T k i + (if sP k P = 0 then 1 else 0) := by rw [← hgp]; rfl
        have mid : ∀ (d t : Nat), t + d = P.length → sP k (P.take t) ≤ 120 * t → q_it (fun _ _ _ => False) (w_X9_without_43 x K k2 (nI (wc T k i)) (nI i)) (d + 1) (nI (sP k (P.take t))) (nI t) S := by
          intro d
          induction d with
          | zero =>
            intro t ht hs
            rw [q_it_s]
            unfold w_X9_without_43 w_X9_without_115
            rw [m_lit 25, nI_add, m_rf (by omega), hP.1]
            refine ⟨vp_in_nI (by omega) (by decide), pk_le P.length t (fun _ => ?_) (fun q => by omega)⟩
            rw [List.take_of_length_le (by omega)] at hs ⊢
            refine pk_eq' (j := 0) (by omega) (by decide) (fun q2 => ?_) (fun q2 => ?_)
            · intro x2 e3 x3 e4
              rw [if_neg q2] at ew
              rw [m_lit 0, nI_add, ← ew] at e3
              rw [m_lit 1, nI_add] at e4
              subst e3; subst e4
              exact go
            · intro x2 e3 x3 e4
              rw [if_pos q2] at ew
              rw [m_lit 1, nI_add, ← ew] at e3
              rw [m_lit 1, nI_add] at e4
              subst e3; subst e4
              exact go
          | succ d ih2 =>
            intro t ht hs
            have htl : t < P.length := by omega
            have gt' := hP.2.2 t htl
            have m30 : mle 30 (pm P t) := g.1.2.2.2 _ (pc_mem htl)
            rw [q_it_s]
            generalize q_it (fun _ _ _ => False) (w_X9_without_43 x K k2 (nI (wc T k i)) (nI i)) (d + 1) = k3 at ih2 ⊢
            unfold w_X9_without_43
            rw [m_lit 25, nI_add, m_rf (by omega), hP.1]
            refine ⟨vp_in_nI (by omega) (by decide), pk_le P.length t (fun q => by omega) (fun _ => ?_)⟩
            have e5 := sP_snoc (k := k) htl
            have b5 := sE_le m30 k
            have inner : ∀ (d v : Nat), v + d = k → q_it (fun _ _ _ => False) (w_X9_without_60 x K k2 k3 (nI (wc T k i)) (nI i) (nI t)) (d + 1) (nI (sP k (P.take t) + sE (pm P t) v)) (nI v) S := by
              intro d
              induction d with
              | zero =>
                intro v hv
                rw [q_it_s]
                unfold w_X9_without_60
                rw [e1]
                refine pk_le k v (fun _ => ?_) (fun q => by omega)
                intro x5 e6
                rw [m_lit 1, nI_add] at e6
                subst e6
                have := ih2 (t + 1) (by omega) (by rw [e5]; omega)
                rw [e5] at this
                rw [show v = k by omega]
                exact this
              | succ d ih3 =>
                intro v hv
                rw [q_it_s]
                generalize q_it (fun _ _ _ => False) (w_X9_without_60 x K k2 k3 (nI (wc T k i)) (nI i) (nI t)) (d + 1) = k4 at ih3 ⊢
                unfold w_X9_without_60
                rw [e1]
                refine pk_le k v (fun q => by omega) (fun _ => ?_)
                rw [m_lit 25, nI_add, ix160, m_rf (by omega), gt'.2 v (by omega), nI_add]
                refine ⟨vp_in_nI (by omega) (by decide), ?_⟩
                intro x4 e6 x6 e7
                rw [m_lit 1, nI_add] at e7
                subst e6; subst e7
                rw [Nat.add_assoc]
                exact ih3 (v + 1) (by omega)
            exact ⟨k + 1, inner k 0 (by omega)⟩
        exact ⟨P.length + 1, mid P.length 0 (by omega) (by simp [sP])⟩
    exact ⟨N 6 + 1, loop (N 6) 0 (by omega)⟩
  · rw [if_neg q] at hK
    exact hK S h lo_rf
end OPS
