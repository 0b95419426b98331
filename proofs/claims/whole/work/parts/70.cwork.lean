/-! the class: pairs; work -/
section OPC
variable {b g : Nat} {N : Nat → Nat} {T : Nat → Option Po} {R : Nat → Nat × Nat} {S : St}
theorem RC_eq {X Y : Nat → Nat} (h : RC b g X T R S) (e : ∀ i, X i = Y i) : RC b g Y T R S := by
  rw [← funext e]; exact h
theorem RC_R {R' : Nat → Nat × Nat} (h : RC b g N T R S) (e : ∀ t, t < N 7 → R t = R' t) : RC b g N T R' S := by
  obtain ⟨hb, hg, a1, a2, a3, a4, a5, a6, a7, a8⟩ := h
  exact ⟨hb, hg, a1, a2, a3, a4, a5, a6, a7, fun t ht => by rw [← e t ht]; exact a8 t ht⟩
theorem prs_ok (w : WF N T R) {k : Nat} (hk : k < N 7) : (R k).1 < (R k).2 ∧ (R k).2 < N 6 := w.2.2.2.2.2.2.2.2.2.1 k hk
theorem sp_multipleOf {k : Nat} {K : Int32 → St → Prop} (w : WF N T R) (h : RC b g N T R S) (hk : k < N 7) (hK : K (nI (en (mx (hdm T (R k).1) (hdm T (R k).2)))) S) : w_X0_multipleOf (nI k) S K := by
  have w6 : N 6 ≤ 18 := w.2.2.2.2.2.2.2.1
  have h7 := (n7_le w).1
  have b2 : b < 2 ^ 31 := by have := h.1; omega
  obtain ⟨l1, l2⟩ := prs_ok w hk
  obtain ⟨e1, e2⟩ := h.2.2.2.2.2.2.2.2.2 k hk
  have d1 := hd_ok w (show (R k).1 < N 6 by omega)
  have d2 := hd_ok w l2
  have m1 : mle 30 (hdm T (R k).1) := d1.2.2.2.2.1
  have m2 : mle 30 (hdm T (R k).2) := d2.2.2.2.2.1
  unfold w_X0_multipleOf
  rw [m_rf (by omega), h.2.2.2.1.1, m_rf b2, e1, m_rf (by omega)]
  refine ⟨vp_in_nI (by omega) (by decide), h.1, vp_in_nI (by omega) (by decide), pidx_P h.1 (by omega), sp_head (RC_row w h (by omega)) d1.2.2.1 ?_⟩
  rw [h.2.2.2.1.1, m_rf b2, e2, m_rf (by omega)]
  exact ⟨h.1, vp_in_nI (by omega) (by decide), pidx_P h.1 (by omega), sp_head (RC_row w h l2) d2.2.2.1 (sp_leastMultiple (mle_mono m1 (by omega)) (mle_mono m2 (by omega)) hK)⟩
theorem sp_nextPair8 {K : Int32 → St → Prop} (w : WF N T R) (h : RC b g N T R S) (h7 : 0 < N 7) (hK : K (nI (nxt N T R)) S) : w_X0_nextPair S K := by
  have n7 := (n7_le w).1
  have w11 : N 11 ≤ 1 := w.2.2.2.2.1
  have s9 : S 104 9 = nI (N 11) := h.2.2.1 (104, 9, 11) (by decide)
  have s7 : S 105 2 = nI (N 7) := h.2.2.1 (105, 2, 7) (by decide)
  have s2 : S 1 2 = nI (N 2) := h.2.2.1 (1, 2, 2) (by decide)
  have m30 : ∀ k, k < N 7 → mle 30 (mx (hdm T (R k).1) (hdm T (R k).2)) := fun k hk => by
    obtain ⟨l1, l2⟩ := prs_ok w hk
    exact mle_mx (hd_ok w (by omega)).2.2.2.2.1 (hd_ok w l2).2.2.2.2.1
  unfold w_X0_nextPair w_X0_nextPair_58
  unfold nxt at hK
  rw [s9]
  refine pk_eq' (j := 1) (by omega) (by decide) (fun q => ?_) (fun q => ?_)
  · rw [if_pos (by omega)] at hK
    exact hK
  · rw [if_neg (by omega)] at hK
    have loop : ∀ (d k : Nat), k + d = N 7 → 0 < k → q_it (fun _ _ _ => False) (w_X0_nextPair_12 K) (d + 1) (nI (nx (pky N T R) k)) (nI k) S := by
      intro d
      induction d with
      | zero =>
        intro k hk _
        rw [q_it_s]
        unfold w_X0_nextPair_12 w_X0_nextPair_58
        rw [s7]
        refine pk_le (N 7) k (fun _ => ?_) (fun z => by omega)
        rw [show k = N 7 by omega]
        exact hK
      | succ d ih =>
        intro k hk k0
        have hkl : k < N 7 := by omega
        have nl := nx_lt (pky N T R) k k0
        rw [q_it_s]
        generalize q_it (fun _ _ _ => False) (w_X0_nextPair_12 K) (d + 1) = k2 at ih ⊢
        unfold w_X0_nextPair_12 w_X0_nextPair_58 w_X0_nextPair_52
        rw [s7]
        refine pk_le (N 7) k (fun z => by omega) (fun _ => ?_)
        have a := m30 k hkl
        have c := m30 (nx (pky N T R) k) (by omega)
        have la := mk_lt (o := N 2) (mle_mono a (show 30 ≤ 60 by omega))
        have lc := mk_lt (o := N 2) (mle_mono c (show 30 ≤ 60 by omega))
        refine sp_multipleOf w h hkl (sp_rank (mle_mono a (by omega)) s2 w.2.2.1 (sp_multipleOf w h (by omega) (sp_rank (mle_mono c (by omega)) s2 w.2.2.1 ?_)))
        have la : pky N T R k < 2 ^ 31 := Nat.lt_trans la (by decide)
        have lc : pky N T R (nx (pky N T R) k) < 2 ^ 31 := Nat.lt_trans lc (by decide)
        have go := ih (k + 1) (by omega) (by omega)
        have en : nx (pky N T R) (k + 1) = if pky N T R k < pky N T R (nx (pky N T R) k) then k else nx (pky N T R) k := rfl
        refine pk_le (pky N T R (nx (pky N T R) k)) (pky N T R k) (fun z x2 e2 => ?_) (fun z x2 e2 => ?_) rfl rfl lc la
        · rw [m_lit 1, nI_add] at e2
          subst e2
          rw [en, if_neg (by omega)] at go
          exact go
        · rw [m_lit 1, nI_add] at e2
          subst e2
          rw [en, if_pos z] at go
          exact go
    refine ⟨N 7 - 1 + 1, ?_⟩
    have := loop (N 7 - 1) 1 (by omega) (by decide)
    have e1 : nx (pky N T R) 1 = 0 := by
      show (if pky N T R 0 < pky N T R 0 then 0 else 0) = 0
      split <;> rfl
    rw [e1] at this
    exact this
theorem cop_mm {x y : Mo} (hx : mle 30 x) (hy : mle 30 y) : en (mx x y) = en x + en y ↔ cop x y = true := by
  rw [← en_mm, cop, decide_eq_true_iff]
  constructor
  · intro e
    have := en_inj (mle_mono (mle_mx hx hy) (by omega)) (mle_mono (mle_mm hx hy) (by omega)) e
    unfold mx mm at this
    injection this with e0 this
    injection this with e1 this
    injection this with e2 e3
    refine ⟨by omega, by omega, by omega, by omega⟩
  · rintro ⟨e0, e1, e2, e3⟩
    have : mx x y = mm x y := by
      apply mo_ext
      · show max x.1 y.1 = x.1 + y.1; omega
      · show max x.2.1 y.2.1 = x.2.1 + y.2.1; omega
      · show max x.2.2.1 y.2.2.1 = x.2.2.1 + y.2.2.1; omega
      · show max x.2.2.2 y.2.2.2 = x.2.2.2 + y.2.2.2; omega
    rw [this]
theorem sp_isCoprime8 {k : Nat} {K : Int32 → St → Prop} (w : WF N T R) (h : RC b g N T R S) (hk : k < N 7) (h1 : cop (hdm T (R k).1) (hdm T (R k).2) = true → K 1 S) (h0 : cop (hdm T (R k).1) (hdm T (R k).2) = false → K 0 S) : w_X0_isCoprime (nI k) S K := by
  have w6 : N 6 ≤ 18 := w.2.2.2.2.2.2.2.1
  have h7 := (n7_le w).1
  have b2 : b < 2 ^ 31 := by have := h.1; omega
  obtain ⟨l1, l2⟩ := prs_ok w hk
  obtain ⟨e1, e2⟩ := h.2.2.2.2.2.2.2.2.2 k hk
  have d1 := hd_ok w (show (R k).1 < N 6 by omega)
  have d2 := hd_ok w l2
  have m1 : mle 30 (hdm T (R k).1) := d1.2.2.2.2.1
  have m2 : mle 30 (hdm T (R k).2) := d2.2.2.2.2.1
  unfold w_X0_isCoprime
  refine sp_multipleOf w h hk ?_
  rw [m_rf (by omega), h.2.2.2.1.1, m_rf b2, e1, m_rf (by omega)]
  refine ⟨vp_in_nI (by omega) (by decide), h.1, vp_in_nI (by omega) (by decide), pidx_P h.1 (by omega), sp_head (RC_row w h (by omega)) d1.2.2.1 ?_⟩
  rw [h.2.2.2.1.1, m_rf b2, e2, m_rf (by omega)]
  refine ⟨h.1, vp_in_nI (by omega) (by decide), pidx_P h.1 (by omega), sp_head (RC_row w h l2) d2.2.2.1 ?_⟩
  have c1 := en_lt (mle_mx m1 m2) (by decide)
  have c2 := en_lt m1 (by decide)
  have c3 := en_lt m2 (by decide)
  have ci := cop_mm m1 m2
  rw [nI_add]
  have key : (nI (en (mx (hdm T (R k).1) (hdm T (R k).2))) = nI (en (pm (gt T (25 + (R k).1)) 0) + en (pm (gt T (25 + (R k).2)) 0))) ↔ cop (hdm T (R k).1) (hdm T (R k).2) = true := by
    rw [m_eq32 (by omega) (by show en (hdm T (R k).1) + en (hdm T (R k).2) < 2 ^ 32; omega)]
    exact ci
  refine ⟨fun z => h0 (Bool.eq_false_iff.mpr (fun y => z (key.mpr y))), fun z => h1 (key.mp z)⟩
theorem sp_waits8 {i j : Nat} {K : Int32 → St → Prop} (w : WF N T R) (h : RC b g N T R S) (hi : i < 2 ^ 31) (hj : j < 2 ^ 31) (h1 : wts (N 7) R i j = true → K 1 S) (h0 : wts (N 7) R i j = false → K 0 S) : w_X2_waits (nI i) (nI j) S K := by
  have h7 := (n7_le w).1
  have w6 : N 6 ≤ 18 := w.2.2.2.2.2.2.2.1
  have s7 : S 105 2 = nI (N 7) := h.2.2.1 (105, 2, 7) (by decide)
  have loop : ∀ (d t : Nat), t + d = N 7 → (∀ u, u < t → ¬ ((R u).1 = i ∧ (R u).2 = j ∨ (R u).1 = j ∧ (R u).2 = i)) → q_it (fun _ _ => False) (w_X2_waits_16 (nI i) (nI j) K (nI (min i j)) (nI (max i j))) (d + 1) (nI t) S := by
    intro d
    induction d with
    | zero =>
      intro t ht hu
      rw [q_it_s]
      unfold w_X2_waits_16
      rw [s7]
      refine pk_le (N 7) t (fun _ => h0 ?_) (fun z => by omega)
      unfold wts
      rw [List.any_eq_false]
      intro u hu2
      rw [List.mem_range] at hu2
      rw [decide_eq_true_iff]
      exact hu u (by omega)
    | succ d ih =>
      intro t ht hu
      have htl : t < N 7 := by omega
      obtain ⟨l1, l2⟩ := prs_ok w htl
      obtain ⟨e1, e2⟩ := h.2.2.2.2.2.2.2.2.2 t htl
      rw [q_it_s]
      generalize q_it (fun _ _ => False) (w_X2_waits_16 (nI i) (nI j) K (nI (min i j)) (nI (max i j))) (d + 1) = k2 at ih ⊢
      unfold w_X2_waits_16 w_X2_waits_50
      rw [s7]
      refine pk_le (N 7) t (fun z => by omega) (fun _ => ⟨vp_in_nI (by omega) (by decide), ?_⟩)
      rw [m_rf (by omega), e1, e2]
      have next : ¬ ((R t).1 = i ∧ (R t).2 = j ∨ (R t).1 = j ∧ (R t).2 = i) → ∀ x5 : Int32, x5 = nI t + 1 → k2 x5 S := fun q x5 e5 => by
        rw [m_lit 1, nI_add] at e5
        subst e5
        refine ih (t + 1) (by omega) (fun u hu2 => ?_)
        by_cases y : u = t
        · rw [y]; exact q
        · exact hu u (by omega)
      refine pk_eq' (by omega) (by omega) (fun q => next (by omega)) (fun q => ?_)
      refine pk_eq' (by omega) (by omega) (fun q2 => next (by omega)) (fun q2 => h1 ?_)
      unfold wts
      rw [List.any_eq_true]
      exact ⟨t, List.mem_range.mpr htl, decide_eq_true (by omega)⟩
  unfold w_X2_waits
  exact sp_min hi hj (sp_max hi hj ⟨N 7 + 1, loop (N 7) 0 (by omega) (fun u hu => by omega)⟩)
theorem sp_isChained8 {k : Nat} {K : Int32 → St → Prop} (w : WF N T R) (h : RC b g N T R S) (hk : k < N 7) (h1 : chn N T R (R k).1 (R k).2 = true → K 1 S) (h0 : chn N T R (R k).1 (R k).2 = false → K 0 S) : w_X0_isChained (nI k) S K := by
  have w6 : N 6 ≤ 18 := w.2.2.2.2.2.2.2.1
  have h7 := (n7_le w).1
  have b2 : b < 2 ^ 31 := by have := h.1; omega
  obtain ⟨l1, l2⟩ := prs_ok w hk
  obtain ⟨e1, e2⟩ := h.2.2.2.2.2.2.2.2.2 k hk
  have s6 : S 104 7 = nI (N 6) := h.2.2.1 (104, 7, 6) (by decide)
  have m1 : mle 30 (hdm T (R k).1) := (hd_ok w (show (R k).1 < N 6 by omega)).2.2.2.2.1
  have m2 : mle 30 (hdm T (R k).2) := (hd_ok w l2).2.2.2.2.1
  have m12 := mle_mx m1 m2
  unfold w_X0_isChained
  refine ⟨vp_in_nI (by omega) (by decide), ?_⟩
  rw [m_rf (by omega), e1, e2]
  intro x2 f2 x3 f3
  subst f2; subst f3
  refine sp_multipleOf w h hk ?_
  have loop : ∀ (d t : Nat), t + d = N 6 → (∀ u, u < t → chk N T R (R k).1 (R k).2 u = false) → q_it (fun _ _ => False) (w_X0_isChained_30 (nI k) K (nI (R k).1) (nI (R k).2) (nI (en (mx (hdm T (R k).1) (hdm T (R k).2))))) (d + 1) (nI t) S := by
    intro d
    induction d with
    | zero =>
      intro t ht hu
      rw [q_it_s]
      unfold w_X0_isChained_30
      rw [s6]
      refine pk_le (N 6) t (fun _ => h0 ?_) (fun z => by omega)
      unfold chn
      rw [List.any_eq_false]
      intro u hu2
      rw [List.mem_range] at hu2
      rw [hu u (by omega)]; decide
    | succ d ih =>
      intro t ht hu
      have htl : t < N 6 := by omega
      have dt := hd_ok w htl
      have mt : mle 30 (hdm T t) := dt.2.2.2.2.1
      rw [q_it_s]
      generalize q_it (fun _ _ => False) (w_X0_isChained_30 (nI k) K (nI (R k).1) (nI (R k).2) (nI (en (mx (hdm T (R k).1) (hdm T (R k).2))))) (d + 1) = k2 at ih ⊢
      unfold w_X0_isChained_30 w_X0_isChained_97
      rw [s6]
      have ec : chk N T R (R k).1 (R k).2 t = (decide (t ≠ (R k).1 ∧ t ≠ (R k).2) && dvb (hdm T t) (mx (hdm T (R k).1) (hdm T (R k).2)) && !wts (N 7) R (R k).1 t && !wts (N 7) R (R k).2 t) := rfl
      have next : chk N T R (R k).1 (R k).2 t = false → ∀ x5 : Int32, x5 = nI t + 1 → k2 x5 S := fun q x5 e5 => by
        rw [m_lit 1, nI_add] at e5
        subst e5
        refine ih (t + 1) (by omega) (fun u hu2 => ?_)
        by_cases y : u = t
        · rw [y]; exact q
        · exact hu u (by omega)
      refine pk_le (N 6) t (fun z => by omega) (fun _ => ?_)
      refine pk_eq t (R k).1 (fun z => next ?_) (fun z => ?_)
      · rw [ec, decide_eq_false (by omega)]; rfl
      refine pk_eq t (R k).2 (fun z2 => next ?_) (fun z2 => ?_)
      · rw [ec, decide_eq_false (by omega)]; rfl
      have ed : decide (t ≠ (R k).1 ∧ t ≠ (R k).2) = true := decide_eq_true ⟨z, z2⟩
      rw [h.2.2.2.1.1, m_rf b2, m_rf (by omega)]
      refine ⟨h.1, vp_in_nI (by omega) (by decide), pidx_P h.1 (by omega), sp_head (RC_row w h htl) dt.2.2.1 (sp_divides (x := hdm T t) (mle_mono mt (by omega)) (mle_mono m12 (by omega)) (fun y => ⟨fun z => absurd z (by decide), fun _ => ?_⟩) (fun y => ⟨fun _ => next ?_, fun z => absurd rfl z⟩))⟩
      · refine sp_waits8 w h (by omega) (by omega) (fun y1 => ⟨fun _ => next ?_, fun z => absurd z (by decide)⟩) (fun y1 => ⟨fun z => absurd rfl z, fun _ => ?_⟩)
        · rw [ec, y1, Bool.not_true, Bool.and_false, Bool.false_and]
        · refine sp_waits8 w h (by omega) (by omega) (fun y2 => ⟨fun _ => next ?_, fun z => absurd z (by decide)⟩) (fun y2 => ⟨fun z => absurd rfl z, fun _ => h1 ?_⟩)
          · rw [ec, y2, Bool.not_true, Bool.and_false]
          · unfold chn
            rw [List.any_eq_true]
            refine ⟨t, List.mem_range.mpr htl, ?_⟩
            rw [ec, ed, dvb_iff.mpr y, y1, y2]; rfl
      · rw [ec, Bool.eq_false_iff.mpr (fun w => y (dvb_iff.mp w)), Bool.and_false, Bool.false_and, Bool.false_and]
  exact ⟨N 6 + 1, loop (N 6) 0 (by omega) (fun u hu => by omega)⟩
theorem sp_remove8 {k : Nat} {K : Unit → St → Prop} (h7 : N 7 ≤ 153) (hk : k < N 7) (h : RC b g N T R S) (hK : ∀ S', RC b g (nu N 7 (N 7 - 1)) T (goR R k) S' → hi S S' → K () S') : w_X2_remove (nI k) S K := by
  have s7 : S 105 2 = nI (N 7) := h.2.2.1 (105, 2, 7) (by decide)
  have hR := h.2.2.2.2.2.2.2.2.2
  have loop : ∀ (d t : Nat) (S1 : St), t + d = N 7 - 1 → k ≤ t → (∀ j, S1 106 j = if k ≤ j ∧ j < t then S 106 (j + 1) else S 106 j) → (∀ j, S1 107 j = if k ≤ j ∧ j < t then S 107 (j + 1) else S 107 j) → (∀ c, c ≠ 106 → c ≠ 107 → S1 c = S c) → q_it (fun _ _ => False) (w_X2_remove_2 (nI k) K) (d + 1) (nI t) S1 := by
    intro d
    induction d with
    | zero =>
      intro t S1 ht hkt h6 h7' hc
      have es : S1 105 2 = nI (N 7) := by rw [hc 105 (by decide) (by decide)]; exact s7
      have e1 : (nI (N 7) - 1 : Int32) = nI (N 7 - 1) := pk_sub (b := 1) (by omega)
      rw [q_it_s]
      unfold w_X2_remove_2
      rw [es, e1]
      refine pk_le (N 7 - 1) t (fun _ S2 e2 => ?_) (fun z => by omega)
      refine hK S2 (RC_prs h (by rw [e2, su_s]) (fun c c1 c2 c3 => by rw [e2, su_ne _ _ _ c1]; exact hc c c2 c3) (fun j hj => ?_)) (fun c hc2 => by rw [e2, su_ne _ _ _ (by omega)]; exact hc c (by omega) (by omega))
      rw [e2, su_ne _ _ _ (by decide), su_ne _ _ _ (by decide), h6, h7']
      unfold goR
      by_cases z : j < k
      · have y : ¬ (k ≤ j ∧ j < t) := by omega
        simp only [if_neg y, if_pos z]
        exact hR j (by omega)
      · have y : k ≤ j ∧ j < t := by omega
        simp only [if_pos y, if_neg z]
        exact hR (j + 1) (by omega)
    | succ d ih =>
      intro t S1 ht hkt h6 h7' hc
      have es : S1 105 2 = nI (N 7) := by rw [hc 105 (by decide) (by decide)]; exact s7
      have e1 : (nI (N 7) - 1 : Int32) = nI (N 7 - 1) := pk_sub (b := 1) (by omega)
      rw [q_it_s]
      generalize q_it (fun _ _ => False) (w_X2_remove_2 (nI k) K) (d + 1) = k2 at ih ⊢
      unfold w_X2_remove_2
      rw [es, e1]
      have et : (nI t + 1 : Int32) = nI (t + 1) := nI_add t 1
      refine pk_le (N 7 - 1) t (fun z => by omega) (fun _ => ?_)
      rw [et, m_rf (by omega), m_rf (by omega)]
      refine ⟨vp_in_nI (by omega) (by decide), vp_in_nI (by omega) (by decide), ?_⟩
      intro S5 e5 S6 e6 x2 ex
      subst ex
      refine ih (t + 1) S6 (by omega) (by omega) (fun j => ?_) (fun j => ?_) (fun c c1 c2 => by rw [e6, su_ne _ _ _ c2, e5, su_ne _ _ _ c1]; exact hc c c1 c2)
      · rw [e6, su_ne _ _ _ (by decide), e5, su_at]
        by_cases z : j = t
        · rw [if_pos ⟨rfl, z⟩, if_pos (by omega), h6, if_neg (by omega), z]
        · rw [if_neg (by omega), h6]
          by_cases z2 : k ≤ j ∧ j < t
          · rw [if_pos z2, if_pos (by omega)]
          · rw [if_neg z2, if_neg (by omega)]
      · rw [e6, su_at]
        by_cases z : j = t
        · rw [if_pos ⟨rfl, z⟩, if_pos (by omega), e5, su_ne _ _ _ (by decide), h7', if_neg (by omega), z]
        · rw [if_neg (by omega), e5, su_ne _ _ _ (by decide), h7']
          by_cases z2 : k ≤ j ∧ j < t
          · rw [if_pos z2, if_pos (by omega)]
          · rw [if_neg z2, if_neg (by omega)]
  unfold w_X2_remove
  exact ⟨N 7 - 1 - k + 1, loop (N 7 - 1 - k) k S (by omega) (Nat.le_refl _) (fun j => by rw [if_neg (by omega)]) (fun j => by rw [if_neg (by omega)]) (fun _ _ _ => rfl)⟩
theorem cm_same {P : Po} {X Y : Nat → Nat} (h0 : X 0 = Y 0) (h6 : X 6 = Y 6) : cmT X T P = cmT Y T P := by unfold cmT; rw [h0, h6]
/-- what a pair's work comes to -/
def D6 (r : Int32 × Nat × (Nat → Nat) × (Nat → Option Po) × (Nat → Nat × Nat)) (S : St) (K : Int32 → St → Prop) : Prop := ∀ b g S', RC b g (nu r.2.2.1 19 r.2.1) r.2.2.2.1 r.2.2.2.2 S' → hi S S' → K r.1 S'
theorem sp_workNext {K : Int32 → St → Prop} (w : WF N T R) (h : RC b g N T R S) (h7 : 0 < N 7) (hK : D6 (wof N T R (nxt N T R)) S K) : w_X0_workNext S K := by
  have hb := prm_b w.1
  have w6 : N 6 ≤ 18 := w.2.2.2.2.2.2.2.1
  have w12 : N 12 ≤ 3 := w.2.2.2.2.2.1
  have n7 := (n7_le w).1
  have b2 : b < 2 ^ 31 := by have := h.1; omega
  have hax : nxt N T R < N 7 := nxt_lt h7
  generalize ha : nxt N T R = a at hK hax
  obtain ⟨l1, l2⟩ := prs_ok w hax
  have d1 := hd_ok w (show (R a).1 < N 6 by omega)
  have d2 := hd_ok w l2
  unfold w_X0_workNext w_X4_begin
  intro S1 e1
  have e1 : S1 = su S 94 5 (nI 0) := e1
  have r1 := RC_5 (u := 0) h
  rw [← e1] at r1
  have i1 : hi S S1 := by rw [e1]; exact hi_su (by decide)
  have w1 : WF (nu N 19 0) T R := WF_nu (by decide) w
  have en : nxt (nu N 19 0) T R = a := by rw [← ha]; rfl
  refine sp_nextPair8 w1 r1 h7 ?_
  rw [en]
  have s10 : S1 104 10 = nI (N 12) := r1.2.2.1 (104, 10, 12) (by decide)
  have and1 : (nI (N 12) &&& 1) = nI (N 12 % 2) := pk_andN (by omega) 1 (by decide)
  have and2 : (nI (N 12) &&& 2) = 0 ↔ ¬ 1 < N 12 := by
    rcases (show N 12 = 0 ∨ N 12 = 1 ∨ N 12 = 2 ∨ N 12 = 3 by omega) with e | e | e | e <;> rw [e] <;> decide
  unfold D6 at hK
  -- the pair goes
  have done : ∀ (X : Nat → Nat) (g2 : Nat) (T2 : Nat → Option Po) (R2 : Nat → Nat × Nat) (S2 : St) (K2 : Int32 → St → Prop), RC b g2 X T2 R2 S2 → X 7 ≤ 153 → a < X 7 → (∀ S3, RC b g2 (nu X 7 (X 7 - 1)) T2 (goR R2 a) S3 → hi S2 S3 → K2 0 S3) → w_X0_workNext_84 K2 (nI a) S2 := by
    intro X g2 T2 R2 S2 K2 r2 x7 ax hk
    unfold w_X0_workNext_84
    exact sp_remove8 x7 ax r2 hk
  -- neither rule
  have red : ¬ (N 12 % 2 = 1 ∧ cop (hdm T (R a).1) (hdm T (R a).2) = true) → ¬ (1 < N 12 ∧ chn N T R (R a).1 (R a).2 = true) → w_X0_workNext_72 K (nI a) S1 := by
    intro q1 q2
    unfold wof at hK
    rw [if_neg q1, if_neg q2] at hK
    have s0 : S1 1 0 = nI (N 0) := r1.2.2.1 (1, 0, 0) (by decide)
    have s2 : S1 1 2 = nI (N 2) := r1.2.2.1 (1, 2, 2) (by decide)
    obtain ⟨f1, f2⟩ := r1.2.2.2.2.2.2.2.2.2 a hax
    have w111 : wk 111 := Or.inr (Or.inr (Or.inr (Or.inr (Or.inr rfl))))
    have row1 := RC_row w1 r1 (i := (R a).1) (show (R a).1 < N 6 by omega)
    have row2 := RC_row w1 r1 (i := (R a).2) l2
    have big1 := pidx_big (i := (R a).1) h.1
    have ne : ∀ i, i < 18 → pidx b i ≠ 7 ∧ pidx b i ≠ 111 := fun i hi => by
      have := pcl_wk h.1 (show 25 + i < 43 by omega) (Or.inl rfl)
      have t := pcl_wk h.1 (show 25 + i < 43 by omega) w111
      rw [pcl_b] at this t
      exact ⟨this, t⟩
    unfold w_X0_workNext_72 w_X0_reduceS w_X0_reduceS_65
    rw [m_rf (by omega), r1.2.2.2.1.1, m_rf b2, f1, f2, m_rf (by omega), m_rf (by omega)]
    refine ⟨vp_in_nI (by omega) (by decide), h.1, vp_in_nI (by omega) (by decide), vp_in_nI (by omega) (by decide), pidx_P h.1 (by omega), pidx_P h.1 (by omega), ?_⟩
    refine sp_mkS h.1 w111 (by decide) (pidx_P h.1 (by omega)) (pidx_P h.1 (by omega)) (ne _ (by omega)).1 (ne _ (by omega)).1 (ne _ (by omega)).2 w.1 w.2.2.1 s0 s2 row1 row2 r1.2.2.2.2.2.2.2.2.1 d1.2.1.1 d2.2.1.1 d1.2.2.1 d2.2.2.1 (fun z S2 fr i2 => ⟨fun _ => ⟨fun z => absurd z (by decide), fun _ => ⟨fun z => absurd z (by decide), fun _ => ?_⟩⟩, fun z => absurd z (by decide)⟩) (fun z hl S2 hS2 fr i2 => ⟨fun z => absurd rfl z, fun _ => ?_⟩) (fun z hl S2 fr i2 => ⟨fun _ => ⟨fun z => absurd z (by decide), fun _ => ⟨fun z => absurd z (by decide), fun _ => ?_⟩⟩, fun z => absurd z (by decide)⟩)
    · rw [if_pos z] at hK
      exact hK b g S2 (RC_fr r1 fr) (hi_tr i1 i2)
    · rw [if_neg (by rw [z]; decide), if_neg (by omega)] at hK
      have r2 := RC_fr r1 fr
      have gS := sro_GP w.1 d1.2.1 d2.2.1 d1.2.2.1 d2.2.2.1 z (by omega)
      have gL := lvr_ok w gS
      have s6 : S2 104 7 = nI (N 6) := r2.2.2.1 (104, 7, 6) (by decide)
      rw [r2.2.2.2.1.1, m_rf b2, s6]
      have el : lvr (nu N 19 0) T (sro (N 2) (N 0) (gt T (25 + (R a).1)) (gt T (25 + (R a).2))) = lvr N T (sro (N 2) (N 0) (gt T (25 + (R a).1)) (gt T (25 + (R a).2))) := rfl
      generalize sro (N 2) (N 0) (gt T (25 + (R a).1)) (gt T (25 + (R a).2)) = Q at hK hS2 gS gL el
      refine ⟨h.1, sp_leaveB (N := nu N 19 0) w1 r2 nu_s isP_c.2.2.2.2.2.2.1 hS2 gS.1 (fun g' S3 r3 f3 hr => ?_)⟩
      rw [el] at r3 hr ⊢
      have eu : ∀ u, usd (nu N 19 0) u = usd N u := fun u => nn_18
      rw [eu] at r3
      have i3 := hi_tr i1 (hi_tr i2 (frL_hi f3))
      generalize lvr N T Q = L at hK r3 hr gL
      unfold wofL at hK
      refine ⟨fun y => ?_, fun y => ?_⟩
      · rw [if_pos y] at hK
        have hR := hr y
        have lR := hR.2.1
        have u7 : usd N L.2.1 7 = N 7 := rfl
        have u6 : usd N L.2.1 6 = N 6 := rfl
        have u0 : usd N L.2.1 0 = N 0 := rfl
        rw [hR.1]
        refine pk_eq' (j := 0) (by omega) (by decide) (fun y2 => ?_) (fun y2 S4 e4 => ?_)
        · rw [if_neg y2] at hK
          by_cases y3 : N 6 = 18
          · rw [if_pos y3] at hK
            refine sp_come8F (by rw [u6]; exact y3) r3 ⟨fun z => absurd rfl z, fun _ => ⟨fun z => absurd z (by decide), fun _ => ?_⟩⟩
            exact hK b g' S3 r3 i3
          · rw [if_neg y3] at hK
            refine sp_come8 (N := usd N L.2.1) (by rw [u0]; exact w.1) (by rw [u6]; omega) (by rw [u7]; exact (n7_le w).2 (by omega)) r3 isP_c.2.2.2.2.2.1 hR (by omega) (by rw [u0]; exact gL.1.2.2.1) (fun S4 r4 i4 => ?_)
            have c7 : cmN (usd N L.2.1) 7 = N 7 + N 6 := rfl
            have ne4 : ¬ nI (usd N L.2.1 6) = -4 := fun z => by
              rw [u6] at z
              have := congrArg Int32.toInt z
              rw [nI_toInt (by omega), show (-4 : Int32).toInt = -4 by decide] at this
              omega
            refine ⟨fun _ S5 e5 => ?_, fun z => absurd z ne4⟩
            have s13 : S4 104 13 = nI (N 16) := r4.2.2.1 (104, 13, 16) (by decide)
            rw [s13, m_lit 1, nI_add] at e5
            have r5 := RC_nu (v := N 16 + 1) r4 (show (104, 13, 16) ∈ scT by decide) (by decide)
            rw [← e5] at r5
            have i5 : hi S4 S5 := by rw [e5]; exact hi_su (by decide)
            refine ⟨fun _ => done _ g' _ _ S5 K r5 (by rw [nu_n (by decide), c7]; have := (n7_le w).2 (by omega); omega) (by rw [nu_n (by decide), c7]; omega) (fun S6 r6 i6 => ?_), fun z => absurd rfl z⟩
            have eT : cmT (usd N L.2.1) T L.2.2 = cmT (inc 16 (goN (addN N L.2.1))) T L.2.2 := cm_same rfl rfl
            rw [eT] at r6
            have r7 := RC_eq (Y := nu (cmN (inc 16 (goN (addN N L.2.1)))) 19 L.2.1) r6 (fun i => by
              rw [nu_n (show (7 : Nat) ≠ 16 by decide), c7]
              have x1 : inc 16 (goN (addN N L.2.1)) 7 = N 7 - 1 := rfl
              have x2 : inc 16 (goN (addN N L.2.1)) 6 = N 6 := rfl
              have x3 : cmN (usd N L.2.1) 7 = N 7 + N 6 := rfl
              have x4 : goN (addN N L.2.1) 16 = N 16 := rfl
              have x5 : addN N L.2.1 7 = N 7 := rfl
              by_cases z7 : i = 7
              · subst z7
                rw [nu_s]
                show N 7 + N 6 - 1 = N 7 - 1 + N 6
                omega
              · by_cases z6 : i = 6
                · subst z6; rfl
                · by_cases z16 : i = 16
                  · subst z16; rfl
                  · by_cases z19 : i = 19
                    · subst z19; rfl
                    · by_cases z18 : i = 18
                      · subst z18; rfl
                      · have p1 : nu (nu (cmN (usd N L.2.1)) 16 (N 16 + 1)) 7 (N 7 + N 6 - 1) i = N i := by
                          unfold cmN usd
                          rw [nu_n z7, nu_n z16, nu_n z6, nu_n z7, nu_n z19, nu_n z18]
                        have p2 : nu (cmN (inc 16 (goN (addN N L.2.1)))) 19 L.2.1 i = N i := by
                          unfold cmN inc goN addN
                          rw [nu_n z19, nu_n z6, nu_n z7, nu_n z16, nu_n z7, nu_n z18]
                        rw [p1, p2])
            have r8 := RC_R (R' := cmR (inc 16 (goN (addN N L.2.1))) (goR R a)) r7 (fun t ht => by
              have x1 : nu (cmN (inc 16 (goN (addN N L.2.1)))) 19 L.2.1 7 = N 7 - 1 + N 6 := rfl
              rw [x1] at ht
              show (if t < a then cmR (usd N L.2.1) R t else cmR (usd N L.2.1) R (t + 1)) = (if t < N 7 - 1 then goR R a t else (t - (N 7 - 1), N 6))
              have y1 : ∀ t, cmR (usd N L.2.1) R t = if t < N 7 then R t else (t - N 7, N 6) := fun _ => rfl
              rw [y1, y1]
              unfold goR
              by_cases z1 : t < a
              · rw [if_pos z1, if_pos (by omega), if_pos (by omega), if_pos z1]
              · rw [if_neg z1]
                by_cases z2 : t < N 7 - 1
                · rw [if_pos (by omega), if_pos z2, if_neg z1]
                · rw [if_neg (by omega), if_neg z2]
                  congr 1
                  omega)
            exact hK b g' S6 r8 (hi_tr i3 (hi_tr i4 (hi_tr i5 i6)))
        · rw [if_pos y2] at hK
          have s14 : S3 104 14 = nI (N 17) := r3.2.2.1 (104, 14, 17) (by decide)
          rw [s14, m_lit 1, nI_add] at e4
          have r4 := RC_nu (v := N 17 + 1) r3 (show (104, 14, 17) ∈ scT by decide) (by decide)
          rw [← e4] at r4
          have i4 : hi S3 S4 := by rw [e4]; exact hi_su (by decide)
          refine ⟨fun _ => done _ g' _ _ S4 K r4 (by rw [nu_n (by decide), u7]; exact n7) (by rw [nu_n (by decide), u7]; exact hax) (fun S6 r6 i6 => ?_), fun z => absurd rfl z⟩
          have r7 := RC_eq (Y := nu (inc 17 (goN (addN N L.2.1))) 19 L.2.1) r6 (fun i => by
            rw [nu_n (show (7 : Nat) ≠ 17 by decide), u7]
            by_cases z7 : i = 7
            · subst z7; rfl
            · by_cases z17 : i = 17
              · subst z17; rfl
              · by_cases z19 : i = 19
                · subst z19; rfl
                · unfold usd inc goN addN
                  rw [nu_n z7, nu_n z17, nu_n z19, nu_n z19, nu_n z17, nu_n z7])
          exact hK b g' S6 r7 (hi_tr i3 (hi_tr i4 i6))
      · rw [if_neg y] at hK
        exact ⟨fun z => absurd z y, fun _ => hK b g' S3 r3 i3⟩
    · rw [if_neg (by rw [z]; decide), if_pos hl] at hK
      exact hK b g S2 (RC_fr r1 fr) (hi_tr i1 i2)
  have ch : ¬ (N 12 % 2 = 1 ∧ cop (hdm T (R a).1) (hdm T (R a).2) = true) → w_X0_workNext_42 K (nI a) S1 := by
    intro q1
    unfold w_X0_workNext_42
    rw [s10]
    refine ⟨fun z => red q1 (fun y => and2.mp z y.1), fun z => ?_⟩
    have z1 : 1 < N 12 := Classical.byContradiction fun y => z (and2.mpr y)
    refine sp_isChained8 (N := nu N 19 0) w1 r1 hax (fun y => ⟨fun z => absurd z (by decide), fun _ S2 e2 => ?_⟩) (fun y => ⟨fun _ => red q1 (fun y2 => ?_), fun z => absurd rfl z⟩)
    · have y : chn N T R (R a).1 (R a).2 = true := y
      unfold wof at hK
      rw [if_neg q1, if_pos ⟨z1, y⟩] at hK
      have s12 : S1 104 12 = nI (N 15) := r1.2.2.1 (104, 12, 15) (by decide)
      rw [s12, m_lit 1, nI_add] at e2
      have r2 := RC_nu (v := N 15 + 1) r1 (show (104, 12, 15) ∈ scT by decide) (by decide)
      rw [← e2] at r2
      have i2 : hi S1 S2 := by rw [e2]; exact hi_su (by decide)
      refine done _ g _ _ S2 K r2 n7 hax (fun S6 r6 i6 => ?_)
      have r7 := RC_eq (Y := nu (goN (inc 15 N)) 19 0) r6 (fun i => by
        by_cases z7 : i = 7
        · subst z7; rfl
        · by_cases z15 : i = 15
          · subst z15; rfl
          · by_cases z19 : i = 19
            · subst z19; rfl
            · unfold goN inc
              rw [nu_n z7, nu_n z15, nu_n z19, nu_n z19, nu_n z7, nu_n z15])
      exact hK b g S6 r7 (hi_tr i1 (hi_tr i2 i6))
    · have y : chn N T R (R a).1 (R a).2 = false := y
      rw [y] at y2
      exact absurd y2.2 (by decide)
  rw [s10, and1]
  refine pk_eq (N 12 % 2) 0 (fun z => ch (fun y => by omega)) (fun z => ?_)
  refine sp_isCoprime8 (N := nu N 19 0) w1 r1 hax (fun y => ⟨fun z => absurd z (by decide), fun _ S2 e2 => ?_⟩) (fun y => ⟨fun _ => ch (fun y2 => by rw [y] at y2; exact absurd y2.2 (by decide)), fun z => absurd rfl z⟩)
  unfold wof at hK
  rw [if_pos ⟨by omega, y⟩] at hK
  have s11 : S1 104 11 = nI (N 14) := r1.2.2.1 (104, 11, 14) (by decide)
  rw [s11, m_lit 1, nI_add] at e2
  have r2 := RC_nu (v := N 14 + 1) r1 (show (104, 11, 14) ∈ scT by decide) (by decide)
  rw [← e2] at r2
  have i2 : hi S1 S2 := by rw [e2]; exact hi_su (by decide)
  refine done _ g _ _ S2 K r2 n7 hax (fun S6 r6 i6 => ?_)
  have r7 := RC_eq (Y := nu (goN (inc 14 N)) 19 0) r6 (fun i => by
    by_cases z7 : i = 7
    · subst z7; rfl
    · by_cases z14 : i = 14
      · subst z14; rfl
      · by_cases z19 : i = 19
        · subst z19; rfl
        · unfold goN inc
          rw [nu_n z7, nu_n z14, nu_n z19, nu_n z19, nu_n z7, nu_n z14])
  exact hK b g S6 r7 (hi_tr i1 (hi_tr i2 i6))
end OPC
theorem work_loop {X : Nat} {K : Int32 → St → Prop} (hX : X ≤ 200) : ∀ (m d b g : Nat) (N : Nat → Nat) (T : Nat → Option Po) (R : Nat → Nat × Nat) (S : St), d + m = X → WF N T R → RC b g N T R S → D8 (wrk m d N T R) S K → q_it (fun _ _ => False) (w_X8_work_24 (nI X) K) (m + 1) (nI d) S := by
  intro m
  induction m with
  | zero =>
    intro d b g N T R S hd w h hK
    rw [q_it_s]
    unfold w_X8_work_24 w_X8_work_62
    refine pk_le X d (fun _ => ?_) (fun z => by omega)
    exact hK S ⟨b, g, h⟩ hi_rf
  | succ m ih =>
    intro d b g N T R S hd w h hK
    have n7 := (n7_le w).1
    have s7 : S 105 2 = nI (N 7) := h.2.2.1 (105, 2, 7) (by decide)
    rw [q_it_s]
    generalize q_it (fun _ _ => False) (w_X8_work_24 (nI X) K) (m + 1) = k2 at ih ⊢
    unfold w_X8_work_24 w_X8_work_62
    unfold wrk at hK
    refine pk_le X d (fun z => by omega) (fun _ => ?_)
    rw [s7]
    refine pk_le (N 7) 0 (fun z => ?_) (fun z => ?_)
    · rw [if_pos (by omega)] at hK
      exact hK S ⟨b, g, h⟩ hi_rf
    · rw [if_neg (by omega)] at hK
      refine sp_workNext w h z (fun b' g' S1 r1 i1 => ⟨fun q x2 e2 => ?_, fun q => ?_⟩)
      · rw [if_pos q] at hK
        rw [m_lit 1, nI_add] at e2
        subst e2
        exact ih (d + 1) b' g' _ _ _ S1 (by omega) (WF_nu (by decide) (WF_wof w (nxt_lt z))) r1 (fun S2 h2 i2 => hK S2 h2 (hi_tr i1 i2))
      · rw [if_neg q] at hK
        exact hK S1 ⟨b', g', r1⟩ i1
section OPC
variable {b g : Nat} {N : Nat → Nat} {T : Nat → Option Po} {R : Nat → Nat × Nat} {S : St} {K : Int32 → St → Prop}
theorem c_work {x : Int32} (w : WF N T R) (h : RC b g N T R S) (hK : D8 (f_work N T R x) S K) : w_X8_work x S K := by
  unfold w_X8_work w_X8_work_12 w_X4_begin
  unfold f_work at hK
  have h1 : (1 : Int32).toInt = 1 := by decide
  have h200 : (200 : Int32).toInt = 200 := by decide
  refine ⟨fun q => ?_, fun q => ⟨fun q2 S1 e1 => ?_, fun q2 => ?_⟩⟩
  · rw [Int32.lt_iff_toInt_lt, h1] at q
    rw [if_neg (by omega)] at hK
    exact hK S ⟨b, g, h⟩ hi_rf
  · rw [Int32.lt_iff_toInt_lt, h1] at q
    rw [Int32.le_iff_toInt_le, h200] at q2
    rw [if_pos ⟨by omega, by omega⟩] at hK
    have e1 : S1 = su S 94 5 (nI 0) := e1
    have r1 := RC_5 (u := 0) h
    rw [← e1] at r1
    have i1 : hi S S1 := by rw [e1]; exact hi_su (by decide)
    have ex : x = nI x.toInt.toNat := nI_nn (by omega)
    generalize hX : x.toInt.toNat = X at hK ex
    rw [ex]
    exact ⟨X + 1, work_loop (by omega) X 0 b g _ T R S1 (by omega) (WF_nu (by decide) w) r1 (fun S2 h2 i2 => hK S2 h2 (hi_tr i1 i2))⟩
  · rw [Int32.le_iff_toInt_le, h200] at q2
    rw [if_neg (by omega)] at hK
    exact hK S ⟨b, g, h⟩ hi_rf
end OPC
