/-! the reference's calls: order, term, product, derived -/
section OPS
variable {N : Nat → Nat} {T : Nat → Option Po} {R : Nat → Nat × Nat} {S : St} {K : Int32 → St → Prop}
def srt (o p : Nat) (P : Po) : Po := addT o p P 1 m1 []
def tord (o p : Nat) (T : Nat → Option Po) (k : Nat) : Nat → Option Po := fun i => if i < k then (T i).map (srt o p) else T i
def f_order (N : Nat → Nat) (T : Nat → Option Po) (R : Nat → Nat × Nat) (x : Int32) : Int32 × (Nat → Nat) × (Nat → Option Po) × (Nat → Nat × Nat) :=
  if 0 ≤ x.toInt ∧ x.toInt ≤ 3 then (if N 6 = 0 then (nI (N 2), nu N 2 x.toInt.toNat, tord x.toInt.toNat (N 0) T 25, R) else (-3, N, T, R)) else (-2, N, T, R)
theorem srt_nil {o p : Nat} : srt o p [] = [] := by unfold srt addT; split <;> rfl
theorem tord_tu {o p k : Nat} {P : Po} (h : T k = some P) : tu (tord o p T k) k (some (srt o p P)) = tord o p T (k + 1) := by
  funext i
  by_cases q : i = k
  · rw [q, tu_s]; unfold tord; rw [if_pos (by omega), h]; rfl
  · rw [tu_n q]; unfold tord
    by_cases q2 : i < k
    · rw [if_pos q2, if_pos (by omega)]
    · rw [if_neg q2, if_neg (by omega)]
theorem tord_no {o p k : Nat} (h : T k = none ∨ T k = some []) : tord o p T k = tord o p T (k + 1) := by
  funext i
  unfold tord
  by_cases q : i = k
  · rw [q, if_neg (by omega), if_pos (by omega)]
    rcases h with h | h <;> rw [h]
    · rfl
    · show some [] = some (srt o p []); rw [srt_nil]
  · by_cases q2 : i < k
    · rw [if_pos q2, if_pos (by omega)]
    · rw [if_neg q2, if_neg (by omega)]
theorem m_order {x : Int32} (w : WF N T R) (h : M9 N T R S) (hK : D9 (f_order N T R x) S K) : w_X9_order x S K := by
  have hb := prm_b w.1
  have wG := w.2.2.2.2.2.2.2.2.2.2.2.2.1
  have w6 : N 6 ≤ 18 := w.2.2.2.2.2.2.2.1
  have hm : (-1 : Int32).toInt = -1 := by decide
  unfold w_X9_order
  unfold f_order at hK
  refine sp_inI (H := 3) (by decide) (fun v hv e1 e2 => ?_) (fun q => ?_)
  · rw [if_pos (by omega), e2, show (v : Int).toNat = v from rfl] at hK
    refine ⟨fun _ => ?_, fun q => absurd q (by decide)⟩
    rw [h.1 6 (by decide)]
    refine pk_le (N 6) 0 (fun q => ?_) (fun q => ?_)
    · rw [if_pos (by omega)] at hK
      intro x2 e3 S6 e4
      rw [h.1 2 (by decide)] at e3
      rw [e1] at e4
      have h6 : M9 (nu N 2 v) T R S6 := by rw [e4]; exact M9_nu h (by decide)
      have l6 : lo S S6 := by rw [e4]; exact lo_su (by decide)
      refine sp_byOne (fun S7 hA f7 => ?_)
      have h7 := M9_fr h6 f7 (by decide) (by decide)
      have l7 := lo_tr l6 (lo_fr f7 (by decide))
      have n0 : nu N 2 v 0 = N 0 := nu_n (by decide)
      have n2 : nu N 2 v 2 = v := nu_s
      have loop : ∀ (d t : Nat) (S' : St), t + d = 25 → M9 (nu N 2 v) (tord v (N 0) T t) R S' → MA S' 233 0 m1 → lo S S' → q_it (fun _ _ => False) (w_X9_order_38 x K x2) (d + 1) (nI t) S' := by
        intro d
        induction d with
        | zero =>
          intro t S' ht hM _ hl
          rw [q_it_s]
          unfold w_X9_order_38
          refine pk_le 25 t (fun _ => ?_) (fun q => by omega)
          rw [show t = 25 by omega] at hM
          rw [e3]
          exact hK S' hM hl
        | succ d ih =>
          intro t S' ht hM hA' hl
          rw [q_it_s]
          generalize q_it (fun _ _ => False) (w_X9_order_38 x K x2) (d + 1) = k2 at ih ⊢
          unfold w_X9_order_38 w_X9_order_72
          refine pk_le 25 t (fun q => by omega) (fun _ => ⟨vp_in_nI (by omega) (by decide), ?_⟩)
          rw [m_rf (by omega)]
          have et : tord v (N 0) T t t = T t := by unfold tord; rw [if_neg (by omega)]
          have next : ∀ (_ : T t = none ∨ T t = some []) (x3 : Int32), x3 = nI t + 1 → k2 x3 S' := fun hT x3 e => by
            rw [m_lit 1, nI_add] at e
            subst e
            refine ih (t + 1) S' (by omega) ?_ hA' hl
            rw [← tord_no hT]; exact hM
          cases hT : T t with
          | none =>
            have z : S' 225 t = -1 := by
              by_cases q0 : t = 0
              · obtain ⟨D, hD⟩ := w.2.2.2.2.2.2.2.2.2.2.1
                rw [q0, hD] at hT; cases hT
              · exact hM.2.2.1 t (by omega) (by omega) (by rw [et]; exact hT)
            rw [z]
            exact ⟨fun _ => next (Or.inl hT), fun q => absurd (show (-1 : Int32) ≤ 0 by decide) q⟩
          | some P =>
            have g := wG t P (by omega) hT
            have hP := hM.2.1 t P (by omega) (by rw [et]; exact hT)
            have hl40 := hP.2.1
            rw [hP.1]
            refine pk_le P.length 0 (fun q => next (Or.inr ?_)) (fun q => ?_)
            · rw [hT, List.length_eq_zero_iff.mp (show P.length = 0 by omega)]
            · intro S4 e5
              have f4 : fr9 [] [20] S' S4 := by rw [e5]; exact fr9_sf (by decide)
              have h4 := M9_fr hM f4 (by decide) (by decide)
              have hR4 : RM S4 [] := ⟨by rw [e5, su_s]; rfl, by decide, fun t ht => by cases ht⟩
              have hA4 : MA S4 233 0 m1 := MA_eq hA' (fun u _ => by rw [f4.1 233 (by decide) (by decide)])
              have p4 := h4.1 0 (by decide)
              have o4 := h4.1 2 (by decide)
              rw [n0] at p4
              rw [n2] at o4
              refine sp_addTimes (L := []) (a := 1) hb (by omega) (by omega) g.1.2.2.2 g.1.2.2.1 (by omega) p4 o4 (h4.2.1 t P (by omega) (by rw [et]; exact hT)) hA4 ⟨Nat.zero_le _, Nat.zero_le _, Nat.zero_le _, Nat.zero_le _⟩ hR4 (by simp only [List.length_nil]; omega) (fun _ z => by cases z) (fun _ z => by cases z) (fun q => absurd q (gr_m1 g.1.2.2.2)) (fun _ S5 hR5 f5 => ?_)
              have h5 := M9_fr h4 f5 (by decide) (by decide)
              have p5 := h5.1 0 (by decide)
              rw [n0] at p5
              have len := addT_len (o := v) (p := N 0) (k := 1) (y := m1) (B := P) (L := [])
              have lp5 := addT_Lp (o := v) (k := 1) (y := m1) (B := P) (L := []) (show 0 < N 0 by omega) (fun _ z => by cases z)
              refine sp_lay (a := 1) hb (by omega) p5 hR5 (by simp only [List.length_nil] at len; omega) lp5 (by omega) (fun S6' hP6 f6 hk => ?_)
              rw [scl_one lp5] at hP6
              have h6' := M9_lay h5 hP6 hk f6 (by decide) (by decide)
              have e6 := tord_tu (o := v) (p := N 0) hT
              unfold srt at e6
              rw [e6] at h6'
              intro x3 e
              rw [m_lit 1, nI_add] at e
              subst e
              refine ih (t + 1) S6' (by omega) h6' (MA_eq hA4 (fun u _ => ?_)) (lo_tr hl (lo_tr (lo_fr f4 (by decide)) (lo_tr (lo_fr f5 (by decide)) (lo_fr f6 (by decide)))))
              rw [f6.1 233 (by decide) (by decide), f5.1 233 (by decide) (by decide)]
      refine ⟨26, loop 25 0 S7 (by omega) ?_ hA l7⟩
      have e0 : tord v (N 0) T 0 = T := by
        funext i
        unfold tord
        rw [if_neg (by omega)]
      rw [e0]; exact h7
    · rw [if_neg (by omega)] at hK
      exact hK S h lo_rf
  · rw [if_neg q] at hK
    exact ⟨fun q => absurd rfl q, fun _ => hK S h lo_rf⟩
def m4 (a b c d : Int32) : Mo := (a.toInt.toNat, b.toInt.toNat, c.toInt.toNat, d.toInt.toNat)
def f_term (N : Nat → Nat) (T : Nat → Option Po) (R : Nat → Nat × Nat) (x a b c d : Int32) : Int32 × (Nat → Nat) × (Nat → Option Po) × (Nat → Nat × Nat) :=
  if (0 ≤ a.toInt ∧ a.toInt ≤ 30) ∧ (0 ≤ b.toInt ∧ b.toInt ≤ if 2 ≤ N 1 then 30 else 0) ∧ (0 ≤ c.toInt ∧ c.toInt ≤ if 3 ≤ N 1 then 30 else 0) ∧ (0 ≤ d.toInt ∧ d.toInt ≤ if 4 ≤ N 1 then 30 else 0) then
    (if (clean (ins (N 2) (N 0) (rs (N 0) x) (m4 a b c d) (gt T 0))).length ≤ 40 then (nI (clean (ins (N 2) (N 0) (rs (N 0) x) (m4 a b c d) (gt T 0))).length, N, tu T 0 (some (clean (ins (N 2) (N 0) (rs (N 0) x) (m4 a b c d) (gt T 0)))), R) else (-6, N, T, R))
  else (-2, N, T, R)
theorem m_term {x a b c d : Int32} (w : WF N T R) (h : M9 N T R S) (hK : D9 (f_term N T R x a b c d) S K) : w_X9_term x a b c d S K := by
  have hb := prm_b w.1
  have wn := w.2.1
  obtain ⟨D, hD⟩ := w.2.2.2.2.2.2.2.2.2.2.1
  have g := w.2.2.2.2.2.2.2.2.2.2.2.2.1 0 D (by decide) hD
  unfold f_term at hK
  rw [gt_s hD] at hK
  have bad : ¬ ((0 ≤ a.toInt ∧ a.toInt ≤ 30) ∧ (0 ≤ b.toInt ∧ b.toInt ≤ if 2 ≤ N 1 then 30 else 0) ∧ (0 ≤ c.toInt ∧ c.toInt ≤ if 3 ≤ N 1 then 30 else 0) ∧ (0 ≤ d.toInt ∧ d.toInt ≤ if 4 ≤ N 1 then 30 else 0)) → w_X9_term_82 x a b c d K S := fun q => by
    rw [if_neg q] at hK
    unfold w_X9_term_82 w_X9_term_83
    exact ⟨fun q => absurd rfl q, fun _ => hK S h lo_rf⟩
  have good : ((0 ≤ a.toInt ∧ a.toInt ≤ 30) ∧ (0 ≤ b.toInt ∧ b.toInt ≤ if 2 ≤ N 1 then 30 else 0) ∧ (0 ≤ c.toInt ∧ c.toInt ≤ if 3 ≤ N 1 then 30 else 0) ∧ (0 ≤ d.toInt ∧ d.toInt ≤ if 4 ≤ N 1 then 30 else 0)) → w_X9_term_83 x a b c d K 1 S := fun q => by
    rw [if_pos q] at hK
    unfold w_X9_term_83
    refine ⟨fun _ => ?_, fun q => absurd q (by decide)⟩
    have hM : mle 30 (m4 a b c d) := by
      unfold mle m4
      refine ⟨?_, ?_, ?_, ?_⟩
      · show a.toInt.toNat ≤ 30; omega
      · show b.toInt.toNat ≤ 30; have := q.2.1.2; split at this <;> omega
      · show c.toInt.toNat ≤ 30; have := q.2.2.1.2; split at this <;> omega
      · show d.toInt.toNat ≤ 30; have := q.2.2.2.2; split at this <;> omega
    have hl := g.2.1
    refine sp_fetch (k := 0) (by omega) (h.2.1 0 D (by decide) hD) (fun S2 hR2 f2 => ?_)
    intro S4 e4 S5 e5 S6 e6 S7 e7
    have f7 : fr9 [232] [] S2 S7 := by
      rw [e7, e6, e5, e4]
      exact fr9_tr (fr9_tr (fr9_tr (fr9_su (by decide) (by decide)) (fr9_su (by decide) (by decide))) (fr9_su (by decide) (by decide))) (fr9_su (by decide) (by decide))
    have f27 : fr9 [230, 231, 232] [20] S S7 := fr9_tr (fr9_mono f2 (by decide) (by decide)) (fr9_mono f7 (by decide) (by decide))
    have h7 := M9_fr h f27 (by decide) (by decide)
    have hR7 := RM_fr hR2 (f7.2 20 (by decide)) (f7.1 230 (by decide) (by decide)) (f7.1 231 (by decide) (by decide))
    have hA7 : MA S7 232 0 (m4 a b c d) := by
      intro v hv
      have r0 : q_rf 0 = 0 := by decide
      have r1 : q_rf 1 = 1 := by decide
      have r2 : q_rf 2 = 2 := by decide
      have r3 : q_rf 3 = 3 := by decide
      rw [r0] at e4; rw [r1] at e5; rw [r2] at e6; rw [r3] at e7
      rw [e7, e6, e5, e4]
      rcases (show v = 0 ∨ v = 1 ∨ v = 2 ∨ v = 3 by omega) with rfl | rfl | rfl | rfl
      · rw [su_n _ _ (Or.inr (by decide)), su_n _ _ (Or.inr (by decide)), su_n _ _ (Or.inr (by decide)), su_s, ex_0]; exact nI_nn q.1.1
      · rw [su_n _ _ (Or.inr (by decide)), su_n _ _ (Or.inr (by decide)), su_s, ex_1]; exact nI_nn q.2.1.1
      · rw [su_n _ _ (Or.inr (by decide)), su_s, ex_2]; exact nI_nn q.2.2.1.1
      · rw [su_s, ex_3]; exact nI_nn q.2.2.2.1
    refine sp_rest9 (p := N 0) (h7.1 0 (by decide)) (by omega) (by omega) ?_
    refine sp_add hR7 (by omega) hA7 (h7.1 0 (by decide)) hb (h7.1 2 (by decide)) w.2.2.1 hM g.1.2.2.2 g.1.2.2.1 (rs_lt (by omega) _) (fun S8 hR8 f8 => ?_)
    have lp8 := ins_Lp (o := N 2) (m := m4 a b c d) (show 0 < N 0 by omega) (rs_lt (show 0 < N 0 by omega) x) g.1.2.2.1
    have h8 := M9_fr h7 f8 (by decide) (by decide)
    refine sp_clean hR8 (Or.inl (fun t ht => by have := lp8 t ht; omega)) (fun S9 hR9 f9 => ?_)
    have h9 := M9_fr h8 f9 (by decide) (by decide)
    have l9 := lo_tr (lo_fr f27 (by decide)) (lo_tr (lo_fr f8 (by decide)) (lo_fr f9 (by decide)))
    rw [hR9.1]
    have hl9 := hR9.2.1
    refine pk_le _ 40 (fun q2 => ?_) (fun q2 => ?_)
    · rw [if_pos q2] at hK
      refine sp_lay (k := 0) (a := 1) hb (by omega) (h9.1 0 (by decide)) hR9 q2 (clean_Lp lp8) (by omega) (fun S10 hP f10 hk => ?_)
      rw [scl_one (clean_Lp lp8)] at hP
      rw [f10.2 20 (by decide), hR9.1]
      exact hK S10 (M9_lay h9 hP hk f10 (by decide) (by decide)) (lo_tr l9 (lo_fr f10 (by decide)))
    · rw [if_neg (by omega)] at hK
      exact hK S9 h9 l9
  have h1 := h.1 1 (by decide)
  unfold w_X9_term
  refine sp_inI (H := 30) (by decide) (fun v hv e1 e2 => ⟨fun q => absurd q (by decide), fun _ => ?_⟩) (fun q => ⟨fun _ => bad (fun z => q z.1), fun q => absurd rfl q⟩)
  rw [h1]
  have A : ∀ H : Int, H = (if 2 ≤ N 1 then 30 else 0) → ∀ hi : Int32, hi.toInt = H → w_X9_term_26 x a b c d K b 0 hi S := by
    intro H eH hi hh
    unfold w_X9_term_26
    refine sp_inI hh (fun v2 hv2 e3 e4 => ⟨fun q => absurd q (by decide), fun _ => ?_⟩) (fun q => ⟨fun _ => bad (fun z => q (by rw [eH]; exact z.2.1)), fun q => absurd rfl q⟩)
    rw [h1]
    have B : ∀ H : Int, H = (if 3 ≤ N 1 then 30 else 0) → ∀ hi : Int32, hi.toInt = H → w_X9_term_49 x a b c d K c 0 hi S := by
      intro H eH3 hi hh
      unfold w_X9_term_49
      refine sp_inI hh (fun v3 hv3 e5 e6 => ⟨fun q => absurd q (by decide), fun _ => ?_⟩) (fun q => ⟨fun _ => bad (fun z => q (by rw [eH3]; exact z.2.2.1)), fun q => absurd rfl q⟩)
      rw [h1]
      have C : ∀ H : Int, H = (if 4 ≤ N 1 then 30 else 0) → ∀ hi : Int32, hi.toInt = H → w_X9_term_72 x a b c d K d 0 hi S := by
        intro H eH4 hi hh
        unfold w_X9_term_72
        refine sp_inI hh (fun v4 hv4 e7 e8 => ⟨fun q => absurd q (by decide), fun _ => good ⟨⟨by omega, by omega⟩, ⟨by omega, by omega⟩, ⟨by omega, by omega⟩, by omega, by omega⟩⟩) (fun q => ⟨fun _ => bad (fun z => q (by rw [eH4]; exact z.2.2.2)), fun q => absurd rfl q⟩)
      exact pk_le 4 (N 1) (fun q => C 30 (by rw [if_pos q]) 30 (by decide)) (fun q => C 0 (by rw [if_neg (by omega)]) 0 (by decide))
    exact pk_le 3 (N 1) (fun q => B 30 (by rw [if_pos q]) 30 (by decide)) (fun q => B 0 (by rw [if_neg (by omega)]) 0 (by decide))
  exact pk_le 2 (N 1) (fun q => A 30 (by rw [if_pos q]) 30 (by decide)) (fun q => A 0 (by rw [if_neg (by omega)]) 0 (by decide))
end OPS
