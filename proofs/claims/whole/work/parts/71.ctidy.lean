/-! the class: tidy -/
def fr110 (S S' : St) : Prop := ∀ c, c ≠ 110 → S' c = S c
theorem fr110_fr1 {b : Nat} {S S' : St} (hb : b = 108 ∨ b = 109) (h : fr110 S S') : fr1 b S S' := fun c hc => h c (fun e => by rw [e, (kp_c hb).2.2.2.2.1] at hc; cases hc)
theorem fr110_hi {S S' : St} (h : fr110 S S') : hi S S' := fun c hc => h c (by omega)
section OPC
variable {b g : Nat} {N : Nat → Nat} {T : Nat → Option Po} {R : Nat → Nat × Nat} {S : St}
theorem sp_isNeedless {i : Nat} {K : Int32 → St → Prop} (w : WF N T R) (h : RC b g N T R S) (hi : i < N 6) (h1 : gone N T i = true → K 1 S) (h0 : gone N T i = false → K 0 S) : w_X0_isNeedless (nI i) S K := by
  have w6 : N 6 ≤ 18 := w.2.2.2.2.2.2.2.1
  have b2 : b < 2 ^ 31 := by have := h.1; omega
  have s6 : S 104 7 = nI (N 6) := h.2.2.1 (104, 7, 6) (by decide)
  have di := hd_ok w hi
  have mi : mle 30 (hdm T i) := di.2.2.2.2.1
  unfold w_X0_isNeedless
  rw [h.2.2.2.1.1, m_rf b2, m_rf (by omega)]
  refine ⟨h.1, vp_in_nI (by omega) (by decide), pidx_P h.1 (by omega), sp_head (RC_row w h hi) di.2.2.1 ?_⟩
  have loop : ∀ (d t : Nat), t + d = N 6 → (∀ u, u < t → gonk T i u = false) → q_it (fun _ _ => False) (w_X0_isNeedless_12 (nI i) K (nI (en (pm (gt T (25 + i)) 0)))) (d + 1) (nI t) S := by
    intro d
    induction d with
    | zero =>
      intro t ht hu
      rw [q_it_s]
      unfold w_X0_isNeedless_12
      rw [s6]
      refine pk_le (N 6) t (fun _ => h0 ?_) (fun z => by omega)
      unfold gone
      rw [List.any_eq_false]
      intro u hu2
      rw [List.mem_range] at hu2
      rw [hu u (by omega)]; decide
    | succ d ih =>
      intro t ht hu
      have htl : t < N 6 := by omega
      have dt := hd_ok w htl
      have mt : mle 30 (hdm T t) := dt.2.2.2.2.1
      rw [q_it_s]
      generalize q_it (fun _ _ => False) (w_X0_isNeedless_12 (nI i) K (nI (en (pm (gt T (25 + i)) 0)))) (d + 1) = k2 at ih ⊢
      unfold w_X0_isNeedless_12 w_X0_isNeedless_58 w_X0_isNeedless_56
      rw [s6]
      have eg : gonk T i t = (decide (t ≠ i) && dvb (hdm T t) (hdm T i) && (!dvb (hdm T i) (hdm T t) || decide (t < i))) := rfl
      have next : gonk T i t = false → ∀ x3 : Int32, x3 = nI t + 1 → k2 x3 S := fun q x3 e3 => by
        rw [m_lit 1, nI_add] at e3
        subst e3
        refine ih (t + 1) (by omega) (fun u hu2 => ?_)
        by_cases y : u = t
        · rw [y]; exact q
        · exact hu u (by omega)
      have yes : gonk T i t = true → K 1 S := fun q => by
        refine h1 ?_
        unfold gone
        rw [List.any_eq_true]
        exact ⟨t, List.mem_range.mpr htl, q⟩
      refine pk_le (N 6) t (fun z => by omega) (fun _ => ?_)
      rw [h.2.2.2.1.1, m_rf b2, m_rf (by omega)]
      refine ⟨h.1, vp_in_nI (by omega) (by decide), pidx_P h.1 (by omega), sp_head (RC_row w h htl) dt.2.2.1 ?_⟩
      refine pk_eq t i (fun z => next ?_) (fun z => ?_)
      · rw [eg, decide_eq_false (by omega)]; rfl
      have dn : decide (t ≠ i) = true := decide_eq_true z
      refine sp_divides (x := hdm T t) (y := hdm T i) (mle_mono mt (by omega)) (mle_mono mi (by omega)) (fun y => ⟨fun z => absurd z (by decide), fun _ => ?_⟩) (fun y => ⟨fun _ => next ?_, fun z => absurd rfl z⟩)
      · have l1 := en_lt mt (by decide)
        have l2 := en_lt mi (by decide)
        refine pk_eq' (i := en (hdm T t)) (j := en (hdm T i)) (by omega) (by omega) (fun q => yes ?_) (fun q => ?_)
        · have nd : dvb (hdm T i) (hdm T t) = false := Bool.eq_false_iff.mpr (fun z2 => q (by
            have y2 := dvb_iff.mp z2
            have : hdm T t = hdm T i := by
              unfold dv at y y2
              apply mo_ext <;> omega
            rw [this]))
          rw [eg, dn, dvb_iff.mpr y, nd]; rfl
        · have em : hdm T t = hdm T i := en_inj (mle_mono mt (by omega)) (mle_mono mi (by omega)) q
          have nd : dvb (hdm T i) (hdm T t) = true := dvb_iff.mpr (by rw [em]; unfold dv; omega)
          refine pk_le i t (fun q2 => next ?_) (fun q2 => yes ?_)
          · rw [eg, dn, dvb_iff.mpr y, nd, decide_eq_false (show ¬ t < i by omega)]; rfl
          · rw [eg, dn, dvb_iff.mpr y, decide_eq_true q2, Bool.or_true]; rfl
      · rw [eg, Bool.eq_false_iff.mpr (fun w => y (dvb_iff.mp w)), Bool.and_false, Bool.false_and]
  exact ⟨N 6 + 1, loop (N 6) 0 (by omega) (fun u hu => by omega)⟩
theorem sp_sort8 {K : Int32 → St → Prop} (w : WF N T R) (h : RC b g N T R S) (hK : ∀ S', (∀ t, t < (srtF N T (N 6)).length → S' 110 t = nI (pc (srtF N T (N 6)) t)) → fr110 S S' → K (nI (srtF N T (N 6)).length) S') : w_X0_sortThoseThatStay S K := by
  have w6 : N 6 ≤ 18 := w.2.2.2.2.2.2.2.1
  have b2 : b < 2 ^ 31 := by have := h.1; omega
  have loop : ∀ (d i : Nat) (S1 : St), i + d = N 6 → (∀ t, t < (srtF N T i).length → S1 110 t = nI (pc (srtF N T i) t)) → fr110 S S1 → q_it (fun _ _ _ => False) (w_X0_sortThoseThatStay_4 K) (d + 1) (nI (srtF N T i).length) (nI i) S1 := by
    intro d
    induction d with
    | zero =>
      intro i S1 hi h1 f1
      have s6 : S1 104 7 = nI (N 6) := by rw [f1 104 (by decide)]; exact h.2.2.1 (104, 7, 6) (by decide)
      rw [q_it_s]
      unfold w_X0_sortThoseThatStay_4
      rw [s6]
      refine pk_le (N 6) i (fun _ => ?_) (fun z => by omega)
      rw [show i = N 6 by omega] at h1 ⊢
      exact hK S1 h1 f1
    | succ d ih =>
      intro i S1 hi h1 f1
      have hil : i < N 6 := by omega
      have r1 := RC_fr h (fr110_fr1 h.1 f1)
      have s6 : S1 104 7 = nI (N 6) := r1.2.2.1 (104, 7, 6) (by decide)
      have di := hd_ok w hil
      have mi : mle 30 (hdm T i) := di.2.2.2.2.1
      have es : srtF N T (i + 1) = if gone N T i = true then srtF N T i else inI (N 2) i (hdm T i) (srtF N T i) := rfl
      have hlA := srtF_len (N := N) (T := T) i
      have hmA : ∀ t, t < (srtF N T i).length → pc (srtF N T i) t < i ∧ pm (srtF N T i) t = hdm T (pc (srtF N T i) t) := fun t ht => srtF_mem (pc_mem ht)
      rw [q_it_s]
      generalize q_it (fun _ _ _ => False) (w_X0_sortThoseThatStay_4 K) (d + 1) = k2 at ih ⊢
      unfold w_X0_sortThoseThatStay_4 w_X0_sortThoseThatStay_98
      rw [s6]
      refine pk_le (N 6) i (fun z => by omega) (fun _ => ?_)
      refine sp_isNeedless w r1 hil (fun q => ⟨fun _ x2 e2 => ?_, fun z => absurd z (by decide)⟩) (fun q => ⟨fun z => absurd rfl z, fun _ => ?_⟩)
      · rw [m_lit 1, nI_add] at e2
        subst e2
        have go := ih (i + 1) S1 (by omega)
        rw [es, if_pos q] at go
        exact go h1 f1
      · have go := fun S2 => ih (i + 1) S2 (by omega)
        rw [es, if_neg (by rw [q]; decide)] at go
        generalize srtF N T i = A at h1 hlA hmA go ⊢
        have lay : ∀ (k : Nat) (S2 : St), k = bk (N 2) (hdm T i) A A.length → (∀ t, t < k → S2 110 t = nI (pc A t)) → (∀ t, k ≤ t → t < A.length → S2 110 (t + 1) = nI (pc A t)) → fr110 S S2 → w_X0_sortThoseThatStay_88 K k2 (nI A.length) (nI i) (nI k) S2 := by
          intro k S2 ek z1 z2 f2
          have kl := bk_le (o := N 2) (m := hdm T i) (A := A) A.length
          unfold w_X0_sortThoseThatStay_88 w_X0_sortThoseThatStay_98
          rw [m_rf (by omega)]
          refine ⟨vp_in_nI (by omega) (by decide), fun S3 e3 x1 e1 x2 e2 => ?_⟩
          rw [m_lit 1, nI_add] at e1 e2
          subst e1; subst e2
          have ll := inI_len (o := N 2) (i := i) (m := hdm T i) (A := A)
          have g2 := go S3 (fun t ht => ?_) (fun c hc => by rw [e3, su_ne _ _ _ hc]; exact f2 c hc)
          · rw [ll] at g2
            exact g2
          · rw [ll] at ht
            unfold inI
            rw [← ek, pc_ins (by omega), e3, su_at]
            by_cases y : t = k
            · rw [if_pos ⟨rfl, y⟩, if_neg (by omega), if_pos y]
            · rw [if_neg (by omega)]
              by_cases y2 : t < k
              · rw [if_pos y2]; exact z1 t y2
              · rw [if_neg y2, if_neg y]
                have := z2 (t - 1) (by omega) (by omega)
                rw [show t - 1 + 1 = t by omega] at this
                exact this
        have inner : ∀ (k : Nat) (S2 : St), k ≤ A.length → bk (N 2) (hdm T i) A k = bk (N 2) (hdm T i) A A.length → (∀ t, t < k → S2 110 t = nI (pc A t)) → (∀ t, k ≤ t → t < A.length → S2 110 (t + 1) = nI (pc A t)) → fr110 S S2 → q_it (fun _ _ => False) (w_X0_sortThoseThatStay_22 K k2 (nI A.length) (nI i)) (k + 1) (nI k) S2 := by
          intro k
          induction k with
          | zero =>
            intro S2 hk eb z1 z2 f2
            rw [q_it_s]
            unfold w_X0_sortThoseThatStay_22
            refine pk_le 0 0 (fun _ => lay 0 S2 eb z1 z2 f2) (fun z => by omega)
          | succ k ihk =>
            intro S2 hk eb z1 z2 f2
            have r2 := RC_fr h (fr110_fr1 h.1 f2)
            have hkl : k < A.length := by omega
            obtain ⟨pa, pma⟩ := hmA k hkl
            have dk := hd_ok w (show pc A k < N 6 by omega)
            have mk' : mle 30 (hdm T (pc A k)) := dk.2.2.2.2.1
            have s2 : S2 1 2 = nI (N 2) := r2.2.2.1 (1, 2, 2) (by decide)
            have e1 : (nI (k + 1) - 1 : Int32) = nI k := pk_sub (b := 1) (by omega)
            have lo1 : mk (N 2) (hdm T (pc A k)) < 2 ^ 31 := Nat.lt_trans (mk_lt (mle_mono mk' (by omega))) (by decide)
            have lo2 : mk (N 2) (hdm T i) < 2 ^ 31 := Nat.lt_trans (mk_lt (mle_mono mi (by omega))) (by decide)
            rw [q_it_s]
            generalize q_it (fun _ _ => False) (w_X0_sortThoseThatStay_22 K k2 (nI A.length) (nI i)) (k + 1) = k3 at ihk ⊢
            unfold w_X0_sortThoseThatStay_22
            refine pk_le (k + 1) 0 (fun z => by omega) (fun _ => ?_)
            rw [e1, m_rf (by omega), m_rf (by omega), z1 k (by omega), r2.2.2.2.1.1, m_rf b2, m_rf (by omega)]
            refine ⟨vp_in_nI (by omega) (by decide), h.1, vp_in_nI (by omega) (by decide), pidx_P h.1 (by omega), sp_head (RC_row w r2 (by omega)) dk.2.2.1 (sp_rank (m := hdm T (pc A k)) (mle_mono mk' (by omega)) s2 w.2.2.1 ?_)⟩
            rw [r2.2.2.2.1.1, m_rf b2, m_rf (by omega)]
            refine ⟨h.1, vp_in_nI (by omega) (by decide), pidx_P h.1 (by omega), sp_head (RC_row w r2 hil) di.2.2.1 (sp_rank (m := hdm T i) (mle_mono mi (by omega)) s2 w.2.2.1 ?_)⟩
            refine pk_le (mk (N 2) (hdm T (pc A k))) (mk (N 2) (hdm T i)) (fun q2 => ?_) (fun q2 => ⟨vp_in_nI (by omega) (by decide), fun S3 e3 x3 ex => ?_⟩)
            · refine lay (k + 1) S2 ?_ z1 z2 f2
              rw [← eb]
              conv => rhs; unfold bk
              rw [if_neg (by rw [pma]; omega)]
            · rw [pk_m1] at ex
              subst ex
              rw [z1 k (by omega)] at e3
              have ebk : bk (N 2) (hdm T i) A k = bk (N 2) (hdm T i) A A.length := by
                rw [← eb]
                conv => rhs; unfold bk
                rw [if_pos (by rw [pma]; exact q2)]
              refine ihk S3 (by omega) ebk (fun t ht => ?_) (fun t t1 t2 => ?_) (fun c hc => by rw [e3, su_ne _ _ _ hc]; exact f2 c hc)
              · rw [e3, su_n _ _ (Or.inr (by omega))]; exact z1 t (by omega)
              · rw [e3, su_at]
                by_cases y : t = k
                · rw [if_pos ⟨rfl, by omega⟩, y]
                · rw [if_neg (by omega)]; exact z2 t (by omega) t2
        exact ⟨A.length + 1, inner A.length S1 (Nat.le_refl _) rfl h1 (fun t t1 t2 => by omega) f1⟩
  unfold w_X0_sortThoseThatStay
  exact ⟨N 6 + 1, loop (N 6) 0 S (by omega) (fun t ht => by cases ht) (fun _ _ => rfl)⟩
/-- the other row of places holds a list -/
def SPr (b : Nat) (S : St) (Ls : List Po) : Prop := ∀ j, j < Ls.length → PC S (pidx (217 - b) j) (Ls.getD j [])
theorem b_other (hb : b = 108 ∨ b = 109) : (217 - b = 108 ∨ 217 - b = 109) ∧ 217 - (217 - b) = b ∧ 217 - b < 2 ^ 31 ∧ b < 2 ^ 31 := by omega
theorem pidx_inj (hb : b = 108 ∨ b = 109) {i j : Nat} (hi : i < 18) (hj : j < 18) (e : pidx b i = pidx b j) : i = j := by
  rw [← pcl_b, ← pcl_b] at e
  have := pcl_inj b hb (25 + i) (by omega) (25 + j) (by omega) e
  omega
theorem sp_copies {Ls : List Po} {K : Int32 → St → Prop} {A : Po} (w : WF N T R) (h : RC b g N T R S) (l18 : A.length ≤ 18) (hA : ∀ t, t < A.length → S 110 t = nI (pc A t) ∧ pc A t < N 6) (hL : Ls.length = A.length) (hLs : ∀ t, t < A.length → Ls.getD t [] = gt T (25 + pc A t))
    (hK : ∀ S', RC b g N T R S' → SPr b S' Ls → hi S S' → ∃ f, q_it (fun _ _ => False) (w_X0_makeTidy_47 K (nI A.length)) f 0 S') : ∃ f, q_it (fun _ _ => False) (w_X0_makeTidy_14 K (nI A.length)) f 0 S := by
  have w6 : N 6 ≤ 18 := w.2.2.2.2.2.2.2.1
  obtain ⟨ho, hoo, o31, b31⟩ := b_other h.1
  have loop : ∀ (d i : Nat) (S1 : St), i + d = A.length → RC b g N T R S1 → (∀ t, t < A.length → S1 110 t = S 110 t) → (∀ j, j < i → PC S1 (pidx (217 - b) j) (Ls.getD j [])) → hi S S1 → q_it (fun _ _ => False) (w_X0_makeTidy_14 K (nI A.length)) (d + 1) (nI i) S1 := by
    intro d
    induction d with
    | zero =>
      intro i S1 hi' r1 h110 hs i1
      rw [q_it_s]
      unfold w_X0_makeTidy_14
      refine pk_le A.length i (fun _ => ?_) (fun z => by omega)
      exact hK S1 r1 (fun j hj => hs j (by omega)) i1
    | succ d ih =>
      intro i S1 hi' r1 h110 hs i1
      have hil : i < A.length := by omega
      obtain ⟨a1, a2⟩ := hA i hil
      rw [q_it_s]
      generalize q_it (fun _ _ => False) (w_X0_makeTidy_14 K (nI A.length)) (d + 1) = k2 at ih ⊢
      unfold w_X0_makeTidy_14
      refine pk_le A.length i (fun z => by omega) (fun _ => ?_)
      rw [r1.2.2.2.1.2.1, r1.2.2.2.1.1, m_rf o31, m_rf b31, m_rf (by omega), h110 i hil, a1, m_rf (by omega)]
      have hq := pidx_P ho (show i < 18 by omega)
      refine ⟨ho, vp_in_nI (by omega) (by decide), h.1, vp_in_nI (by omega) (by decide), hq, pidx_P h.1 (by omega), sp_copyOf hq (pidx_P h.1 (by omega)) (RC_row w r1 a2) (fun S2 h2 o2 x2 e2 => ?_)⟩
      rw [m_lit 1, nI_add] at e2
      subst e2
      obtain ⟨-, s1⟩ := spa_all b h.1 i (by omega)
      refine ih (i + 1) S2 (by omega) (RC_fr r1 (off_fr1' s1 o2)) (fun t ht => by rw [off_lit hq nP_c.2.2.2.2.2.2.2.2.2.1 o2]; exact h110 t ht) (fun j hj => ?_) (hi_tr i1 (hi_off hq o2))
      by_cases y : j = i
      · rw [y, hLs i hil]; exact h2
      · exact PC_off hq (pidx_P ho (by omega)) (fun e => y (pidx_inj ho (by omega) (by omega) e)) o2 (hs j (by omega))
  exact ⟨A.length + 1, loop A.length 0 S (by omega) h (fun _ _ => rfl) (fun j hj => by omega) hi_rf⟩
theorem us_us {u u' : Nat} : ∀ i, nu (nu (usd N u) 18 (N 18 + u')) 19 u' i = usd N u' i := fun i => by
  unfold usd nu
  by_cases z : i = 19
  · rw [if_pos z, if_pos z]
  · rw [if_neg z, if_neg z]
    by_cases z2 : i = 18
    · simp only [if_neg z, if_pos z2]
    · simp only [if_neg z, if_neg z2]
theorem sp_reduceTail {u a : Nat} {Ls : List Po} {K : Int32 → St → Prop} (w : WF N T R) (h : RC b g (usd N u) T R S) (hs : SPr b S Ls) (l18 : Ls.length ≤ 18) (hG : GL N Ls) (ha : a < Ls.length) (hu : u ≤ N 10)
    (h0 : (tdr N u a Ls).1 = 0 → (tdr N u a Ls).2.2.length ≠ 40 → (tdr N u a Ls).2.1 ≤ N 10 → ∀ g' S', RC b g' (usd N (tdr N u a Ls).2.1) T R S' → SPr b S' (tds N u a Ls) → hi S S' → K 0 S')
    (h6 : (tdr N u a Ls).1 = 0 → (tdr N u a Ls).2.2.length = 40 → ∀ g' S', RC b g' (usd N (tdr N u a Ls).2.1) T R S' → hi S S' → K (-6) S')
    (h1 : (tdr N u a Ls).1 ≠ 0 → ∀ g' S', RC b g' (usd N (tdr N u a Ls).2.1) T R S' → hi S S' → K (tdr N u a Ls).1 S') : w_X0_reduceTail (nI a) (nI Ls.length) S K := by
  have hb := prm_b w.1
  obtain ⟨ho, hoo, o31, b31⟩ := b_other h.1
  have p111 := isP_c.2.2.2.2.2.2.1
  have w111 : wk 111 := Or.inr (Or.inr (Or.inr (Or.inr (Or.inr rfl))))
  have ne111 : ∀ j, pidx (217 - b) j ≠ 111 ∧ 113 < pidx (217 - b) j := fun j => by
    unfold pidx
    rw [if_neg (by omega)]
    split <;> omega
  have hq := pidx_P ho (show a < 18 by omega)
  have hP := hs a ha
  have gP := hG _ (show Ls.getD a [] ∈ Ls by rw [List.getD_eq_getElem?_getD, List.getElem?_eq_getElem ha]; exact List.getElem_mem ha)
  obtain ⟨gp, gpos, gone⟩ := gP
  unfold w_X0_reduceTail
  rw [h.2.2.2.1.2.1, m_rf o31, m_rf (by omega)]
  refine ⟨ho, vp_in_nI (by omega) (by decide), hq, sp_copyFrom (k := 1) p111 hq hP (by omega) (fun S1 hS1 o1 => ?_)⟩
  have r1 := RC_fr h (off_fr1 h.1 w111 o1)
  have i1 := hi_off p111 o1
  have hs1 : ∀ j, j < Ls.length → PC S1 (pidx (217 - b) j) (Ls.getD j []) := fun j hj => PC_off p111 (pidx_P ho (by omega)) (ne111 j).1 o1 (hs j hj)
  rw [r1.2.2.2.1.2.1, m_rf o31]
  have sc := r1.2.2.1
  have td := tdr_ok (u := u) (show 0 < N 0 by omega) hG ha
  refine ⟨ho, sp_leave8 (rb := 217 - b) (e := a) (Ls := Ls) (g := g) (o := N 2) (p := N 0) (fuel := N 10) (C := N 18) (u0 := u) ho r1.2.1 hb w.2.2.1 l18 (fun k hk => ?_) w.2.2.2.1 hu (sc (1, 0, 0) (by decide)) (sc (1, 2, 2) (by decide)) (sc (94, 4, 10) (by decide)) r1.2.2.2.1.2.2.1 r1.2.2.2.1.2.2.2 (sc (94, 5, 19) (by decide)) (sc (94, 6, 18) (by decide)) p111 hS1 (drop_Cn gp.1 gpos) (fun k hk => ?_) (fun S2 g' hg' hle t1 t2 t5 t6 f2 hr => ?_)⟩
  · exact m_eq32 (by omega) (by omega)
  · have gk := hG _ (show Ls.getD k [] ∈ Ls by rw [List.getD_eq_getElem?_getD, List.getElem?_eq_getElem hk]; exact List.getElem_mem hk)
    exact ⟨hs1 k hk, gk.2.1, gk.1.1⟩
  · have et : lv (N 2) (N 0) (N 10) (Ls.eraseIdx a) 2041 u ((Ls.getD a []).drop 1) [] = tdr N u a Ls := rfl
    rw [et] at hle t5 t6 hr ⊢
    have r2 := RC_eq (RC_lv r1 f2 hg' t1 t2 t5 t6) us_us
    have i2 := hi_tr i1 (frL_hi f2)
    refine ⟨fun z S3 e3 => ?_, fun z => h1 z g' S2 r2 i2⟩
    have hR := hr z
    obtain ⟨-, s1⟩ := spa_all b h.1 a (by omega)
    have o3 : off (pidx (217 - b) a) S2 S3 := by rw [e3]; exact off_su
    have r3 := RC_fr r2 (off_fr1' s1 o3)
    have i3 := hi_tr i2 (hi_off hq o3)
    have hs2 : ∀ j, j < Ls.length → PC S2 (pidx (217 - b) j) (Ls.getD j []) := fun j hj => frL_PC f2 (Or.inr (by have := (ne111 j).2; omega)) (hs1 j hj)
    have p101 := isP_c.2.2.2.2.2.1
    have n101 : 101 ≠ pidx (217 - b) a := by have := (ne111 a).2; omega
    have hR3 := PC_off hq p101 n101 o3 hR
    have h3 : PC S3 (pidx (217 - b) a) ((pc (Ls.getD a []) 0, pm (Ls.getD a []) 0) :: (tdr N u a Ls).2.2.take 0) := by
      have k := (hs2 a ha).2.2 0 gpos
      refine ⟨by rw [e3, su_s]; rfl, by simp, fun t ht => ?_⟩
      have ht : t < 1 := ht
      have et : t = 0 := by omega
      subst et
      rw [e3, su_ne _ _ _ (by omega), su_ne _ _ _ (by omega)]
      exact k
    generalize hL : (tdr N u a Ls).2.2 = L at *
    have lL := hR.2.1
    have loop : ∀ (d t : Nat) (S4 : St), t + d = L.length → t ≤ 39 → RC b g' (usd N (tdr N u a Ls).2.1) T R S4 → PC S4 101 L → PC S4 (pidx (217 - b) a) ((pc (Ls.getD a []) 0, pm (Ls.getD a []) 0) :: L.take t) → (∀ j, j < Ls.length → j ≠ a → PC S4 (pidx (217 - b) j) (Ls.getD j [])) → hi S S4 → q_it (fun _ _ => False) (w_X0_reduceTail_51 (nI a) (nI Ls.length) K (pidx (217 - b) a)) (d + 1) (nI t) S4 := by
      intro d
      induction d with
      | zero =>
        intro t S4 ht t39 r4 hR4 h4 hs4 i4
        rw [q_it_s]
        unfold w_X0_reduceTail_51
        rw [hR4.1]
        refine pk_le L.length t (fun _ => ?_) (fun z => by omega)
        rw [List.take_of_length_le (by omega)] at h4
        refine h0 z (by omega) hle g' S4 r4 (fun j hj => ?_) i4
        unfold tds
        unfold tds at hj
        rw [List.length_set] at hj
        rw [List.getD_eq_getElem?_getD, List.getElem?_set, hL]
        by_cases y : a = j
        · subst y
          rw [if_pos rfl, if_pos ha]
          exact h4
        · rw [if_neg y, ← List.getD_eq_getElem?_getD]
          exact hs4 j hj (Ne.symm y)
      | succ d ih =>
        intro t S4 ht t39 r4 hR4 h4 hs4 i4
        have htl : t < L.length := by omega
        rw [q_it_s]
        generalize q_it (fun _ _ => False) (w_X0_reduceTail_51 (nI a) (nI Ls.length) K (pidx (217 - b) a)) (d + 1) = k2 at ih ⊢
        unfold w_X0_reduceTail_51
        rw [hR4.1]
        refine pk_le L.length t (fun z => by omega) (fun _ => ⟨vp_in_nI (by omega) (by decide), hq, ?_⟩)
        rw [m_rf (by omega), (hR4.2.2 t htl).1, (hR4.2.2 t htl).2]
        have ll : ((pc (Ls.getD a []) 0, pm (Ls.getD a []) 0) :: L.take t).length = t + 1 := by
          rw [List.length_cons, List.length_take]; omega
        refine sp_push h4 (fun hl5 S5 h5 o5 _ => ⟨fun _ x5 e5 => ?_, fun z => absurd z (by decide)⟩) (fun hl5 => ⟨fun z => absurd rfl z, fun _ => ?_⟩)
        · rw [m_lit 1, nI_add] at e5
          subst e5
          rw [ll] at hl5
          have es : ((pc (Ls.getD a []) 0, pm (Ls.getD a []) 0) :: L.take t) ++ [(pc L t, pm L t)] = (pc (Ls.getD a []) 0, pm (Ls.getD a []) 0) :: L.take (t + 1) := by
            rw [take_snoc htl]; rfl
          rw [es] at h5
          exact ih (t + 1) S5 (by omega) (by omega) (RC_fr r4 (off_fr1' s1 o5)) (PC_off hq p101 n101 o5 hR4) h5 (fun j hj hja => PC_off hq (pidx_P ho (by omega)) (fun e => hja (pidx_inj ho (by omega) (by omega) e)) o5 (hs4 j hj hja)) (hi_tr i4 (hi_off hq o5))
        · rw [ll] at hl5
          exact h6 z (by omega) g' S4 r4 i4
    exact ⟨L.length + 1, loop L.length 0 S3 (by omega) (by omega) r3 hR3 h3 (fun j hj hja => PC_off hq (pidx_P ho (by omega)) (fun e => hja (pidx_inj ho (by omega) (by omega) e)) o3 (hs2 j hj)) i3⟩
theorem RC_swap {Ls : List Po} (h : RC b g N T R S) (l18 : Ls.length ≤ 18) (hs : SPr b S Ls) : RC (217 - b) g N (tdT T Ls) R (su (su S 104 3 (nI (217 - b))) 104 4 (nI b)) := by
  obtain ⟨hb, hg, a1, a2, a3, a4, a5, a6, a7, a8⟩ := h
  obtain ⟨ho, hoo, o31, b31⟩ := b_other hb
  have h2 : ∀ c, c ≠ 104 → (su (su S 104 3 (nI (217 - b))) 104 4 (nI b)) c = S c := fun c q => by rw [su_ne _ _ _ q, su_ne _ _ _ q]
  have hPC : ∀ q P, isP q → PC S q P → PC (su (su S 104 3 (nI (217 - b))) 104 4 (nI b)) q P := fun q P hq hP => by
    have hn := nP_c.2.1
    have n0 : q ≠ 104 := fun e => hn.1 (by rw [← e]; exact hq.2)
    have n1 : q + 1 ≠ 104 := fun e => hn.2.1 (by omega) (by rw [← e, Nat.add_sub_cancel]; exact hq.2)
    have n2 : q + 2 ≠ 104 := fun e => hn.2.2 (by omega) (by rw [← e, Nat.add_sub_cancel]; exact hq.2)
    exact PC_eq hP (by rw [h2 _ n0]) (h2 _ n1) (h2 _ n2)
  have hT1 : ∀ i, i < 24 → tdT T Ls (1 + i) = T (1 + i) := fun i hi => by unfold tdT; rw [if_pos (by omega)]
  refine ⟨ho, hg, fun x hx => ?_, ⟨?_, ?_, ?_, ?_⟩, fun i P hi hT => ?_, fun i hi => by rw [h2 21 (by decide), hT1 i hi]; exact a4 i hi, ?_, hPC 13 _ isP_c.2.2.2.1 a6, hPC 4 _ isP_c.1 a7, fun t ht => by rw [h2 106 (by decide), h2 107 (by decide)]; exact a8 t ht⟩
  · obtain ⟨c1, c2, c3⟩ := scT_c x hx
    rw [su_n _ _ (by omega), su_n _ _ (by omega)]
    exact a1 x hx
  · rw [su_n _ _ (Or.inr (by decide)), su_s]
  · rw [su_s, hoo]
  · rw [h2 94 (by decide)]; exact a2.2.2.1
  · rw [h2 94 (by decide)]; exact a2.2.2.2
  · unfold tdT at hT
    by_cases z : i < 25
    · rw [if_pos z] at hT
      have e : pcl (217 - b) i = pcl b i := by unfold pcl; split <;> simp [z]
      rw [e]
      exact hPC _ _ (pcl_P hb hi) (a3 i P hi hT)
    · rw [if_neg z] at hT
      split at hT
      · rename_i z2
        injection hT with hT
        have e : pcl (217 - b) i = pidx (217 - b) (i - 25) := by
          rw [← pcl_b]; congr 1; omega
        rw [e, ← hT]
        exact hPC _ _ (pidx_P ho (by omega)) (hs (i - 25) (by omega))
      · cases hT
  · rw [h2 19 (by decide), a5]
    congr 1
theorem tidy_loop {K : Int32 → St → Prop} {n : Nat} (w : WF N T R) (n18 : n ≤ 18) : ∀ (m a u g : Nat) (Ls : List Po) (S : St), a + m = n → Ls.length = n → RC b g (usd N u) T R S → SPr b S Ls → GL N Ls → u ≤ N 10 →
    D8 (if (tdF N m a u Ls).1 = 0 then (nI (tdF N m a u Ls).2.2.length, nu (nu (usd N (tdF N m a u Ls).2.1) 6 (tdF N m a u Ls).2.2.length) 13 1, tdT T (tdF N m a u Ls).2.2, R) else ((tdF N m a u Ls).1, usd N (tdF N m a u Ls).2.1, T, R)) S K → q_it (fun _ _ => False) (w_X0_makeTidy_47 K (nI n)) (m + 1) (nI a) S := by
  have hb := prm_b w.1
  intro m
  induction m with
  | zero =>
    intro a u g Ls S ha hl h hs hG hu hK
    obtain ⟨ho, hoo, o31, b31⟩ := b_other h.1
    rw [q_it_s]
    unfold w_X0_makeTidy_47
    refine pk_le n a (fun _ => ?_) (fun z => by omega)
    rw [h.2.2.2.1.2.1, h.2.2.2.1.1, m_rf o31, m_rf b31]
    refine ⟨ho, fun S2 e2 => ⟨h.1, fun S4 e4 S6 e6 S7 e7 => ?_⟩⟩
    have r := RC_swap h (by omega) hs
    rw [e2] at e4
    rw [← e4] at r
    have r6 := RC_nu (v := n) r (show (104, 7, 6) ∈ scT by decide) (by decide)
    rw [← e6] at r6
    have r7 := RC_nu (v := 1) r6 (show (104, 8, 13) ∈ scT by decide) (by decide)
    have e7 : S7 = su S6 104 8 (nI 1) := e7
    rw [← e7] at r7
    have i7 : hi S S7 := by
      rw [e7, e6, e4]
      exact hi_tr (hi_su (by decide)) (hi_tr (hi_su (by decide)) (hi_tr (hi_su (by decide)) (hi_su (by decide))))
    have et : tdF N 0 a u Ls = (0, u, Ls) := rfl
    rw [et] at hK
    simp only [if_true] at hK
    have := hK S7 ⟨217 - b, g, by rw [hl]; exact r7⟩ i7
    simp only [hl] at this
    exact this
  | succ m ih =>
    intro a u g Ls S ha hl h hs hG hu hK
    rw [q_it_s]
    generalize q_it (fun _ _ => False) (w_X0_makeTidy_47 K (nI n)) (m + 1) = k2 at ih ⊢
    unfold w_X0_makeTidy_47
    have e : tdF N (m + 1) a u Ls = if (tdr N u a Ls).1 = 0 then (if (tdr N u a Ls).2.2.length = 40 then (-6, (tdr N u a Ls).2.1, Ls) else tdF N m (a + 1) (tdr N u a Ls).2.1 (tds N u a Ls)) else ((tdr N u a Ls).1, (tdr N u a Ls).2.1, Ls) := rfl
    rw [e] at hK
    refine pk_le n a (fun z => by omega) (fun _ => ?_)
    rw [← hl]
    refine sp_reduceTail w h hs (by omega) hG (by omega) hu (fun z z40 hle g' S' r' s' i' => ⟨fun _ x2 e2 => ?_, fun z => absurd rfl z⟩) (fun z z40 g' S' r' i' => ⟨fun z => absurd z (by decide), fun _ => ?_⟩) (fun z g' S' r' i' => ⟨fun y => absurd y z, fun _ => ?_⟩)
    · rw [m_lit 1, nI_add] at e2
      subst e2
      rw [if_pos z, if_neg z40] at hK
      refine ih (a + 1) _ g' (tds N u a Ls) S' (by omega) (by unfold tds; rw [List.length_set]; exact hl) r' s' (tdr_GP (by omega) hG (by omega) z40) hle (fun S2 h2 i2 => hK S2 h2 (hi_tr i' i2))
    · rw [if_pos z, if_pos z40] at hK
      exact hK S' ⟨b, g', r'⟩ i'
    · rw [if_neg z, if_neg z] at hK
      exact hK S' ⟨b, g', r'⟩ i'
theorem c_tidy {K : Int32 → St → Prop} (w : WF N T R) (h : RC b g N T R S) (hK : D8 (f_tidy N T R) S K) : w_X8_tidy S K := by
  have n7 := (n7_le w).1
  have w6 : N 6 ≤ 18 := w.2.2.2.2.2.2.2.1
  have s7 : S 105 2 = nI (N 7) := h.2.2.1 (105, 2, 7) (by decide)
  unfold w_X8_tidy
  unfold f_tidy at hK
  rw [s7]
  refine pk_le (N 7) 0 (fun z => ?_) (fun z => ?_)
  · rw [if_neg (by omega)] at hK
    unfold w_X0_makeTidy w_X4_begin
    intro S1 e1
    have e1 : S1 = su S 94 5 (nI 0) := e1
    have r1 := RC_5 (u := 0) h
    rw [← e1] at r1
    have i1 : hi S S1 := by rw [e1]; exact hi_su (by decide)
    have r1 : RC b g (usd N 0) T R S1 := RC_eq r1 (fun i => by
      unfold usd nu
      by_cases y : i = 19
      · rw [if_pos y, if_pos y]
      · rw [if_neg y, if_neg y]
        by_cases y2 : i = 18
        · rw [if_pos y2, y2, Nat.add_zero]
        · rw [if_neg y2])
    have w1 : WF (usd N 0) T R := WF_nu (by decide) (WF_nu (by decide) w)
    have es : srtF (usd N 0) T (usd N 0 6) = srtF N T (N 6) := srtF_cg (N := N) (N' := usd N 0) (T := T) rfl rfl (N 6)
    have sl := srtF_len (N := N) (T := T) (N 6)
    have sm : ∀ t, t < (srtF N T (N 6)).length → pc (srtF N T (N 6)) t < N 6 := fun t ht => (srtF_mem (pc_mem ht)).1
    refine sp_sort8 w1 r1 (fun S2 h2 f2 => ?_)
    rw [es] at h2 ⊢
    have r2 := RC_fr r1 (fr110_fr1 h.1 f2)
    have i2 := hi_tr i1 (fr110_hi f2)
    have ll := ltb_len (N := N) (T := T)
    refine sp_copies (Ls := ltb N T) w1 r2 (by omega) (fun t ht => ⟨h2 t ht, sm t ht⟩) ll (fun t ht => ltb_at ht) (fun S3 r3 s3 i3 => ?_)
    rw [← ll]
    refine ⟨(ltb N T).length + 1, tidy_loop (n := (ltb N T).length) w (by omega) (ltb N T).length 0 0 g (ltb N T) S3 (by omega) rfl r3 s3 (ltb_GL w) (Nat.zero_le _) (fun S4 h4 i4 => hK S4 h4 (hi_tr i2 (hi_tr i3 i4)))⟩
  · rw [if_pos z] at hK
    exact hK S ⟨b, g, h⟩ hi_rf
end OPC
