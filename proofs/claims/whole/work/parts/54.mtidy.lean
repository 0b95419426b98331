/-! the reference: tidyOne -/
section OPS
variable {N : Nat → Nat} {T : Nat → Option Po} {R : Nat → Nat × Nat} {S : St}
theorem er_at {Ls : List Po} {a j : Nat} : (Ls.eraseIdx a).getD j [] = if j < a then Ls.getD j [] else Ls.getD (j + 1) [] := by
  rw [List.getD_eq_getElem?_getD, List.getElem?_eraseIdx]
  split
  · rw [List.getD_eq_getElem?_getD]
  · rw [List.getD_eq_getElem?_getD]
theorem tO_places {S0 : St} {Ls : List Po} {a : Nat} {K : Int32 → St → Prop} (hT : TM S0 Ls) (l18 : Ls.length ≤ 18) (ha : a < Ls.length)
    (hK : ∀ S', PL S' (Ls.eraseIdx a) → fr9 [236] [27] S0 S' → ∀ x2_2 : Int32, x2_2 = 43 + nI a → vp_in x2_2 61 ∧ ∀ S_4 : St, S_4 = su S' 224 20 ((S' 225 (q_rf x2_2)) - 1) → ∃ f, q_it (fun _ _ => False) (w_X9_tidyOne_68 (nI a) K x2_2) f 0 S_4) : w_X9_tidyOne (nI a) S0 K := by
  unfold w_X9_tidyOne
  intro S1 e1
  have le : (Ls.eraseIdx a).length = Ls.length - 1 := List.length_eraseIdx_of_lt ha
  have loop : ∀ (d t : Nat) (S' : St), t + d = Ls.length → fr9 [236] [27] S0 S' → S' 224 27 = nI (if t ≤ a then t else t - 1) → (∀ j, j < (if t ≤ a then t else t - 1) → S' 236 j = nI (43 + (if j < a then j else j + 1))) → q_it (fun _ _ => False) (w_X9_tidyOne_7 (nI a) K) (d + 1) (nI t) S' := by
    intro d
    induction d with
    | zero =>
      intro t S' ht f h27 hj
      rw [q_it_s]
      unfold w_X9_tidyOne_7
      rw [f.2 34 (by decide), hT.1]
      refine pk_le Ls.length t (fun _ => ?_) (fun q => by omega)
      rw [if_neg (by omega)] at h27 hj
      refine hK S' ⟨by rw [le, h27, show t = Ls.length by omega], by omega, fun j hj2 => ?_⟩ f
      rw [le] at hj2
      refine ⟨43 + (if j < a then j else j + 1), by split <;> omega, hj j (by omega), ?_⟩
      rw [er_at]
      have pf : ∀ {j : Nat} {P : Po}, PM S0 j P → PM S' j P := fun hp => PM_fr hp (f.1 225 (by decide) (by decide)) (f.1 226 (by decide) (by decide)) (f.1 227 (by decide) (by decide))
      split
      · exact pf (hT.2 j (by omega))
      · exact pf (hT.2 (j + 1) (by omega))
    | succ d ih =>
      intro t S' ht f h27 hj
      have htl : t < Ls.length := by omega
      rw [q_it_s]
      generalize q_it (fun _ _ => False) (w_X9_tidyOne_7 (nI a) K) (d + 1) = k2 at ih ⊢
      unfold w_X9_tidyOne_7 w_X9_tidyOne_43
      rw [f.2 34 (by decide), hT.1]
      refine pk_le Ls.length t (fun q => by omega) (fun _ => ?_)
      refine pk_eq t a (fun q => ?_) (fun q => ?_)
      · intro x2 e2
        rw [m_lit 1, nI_add] at e2
        subst e2
        have ec : (if t + 1 ≤ a then t + 1 else t + 1 - 1) = (if t ≤ a then t else t - 1) := by
          rw [if_neg (by omega), if_pos (by omega)]; omega
        exact ih (t + 1) S' (by omega) f (by rw [ec]; exact h27) (by rw [ec]; exact hj)
      · rw [h27]
        have c18 : (if t ≤ a then t else t - 1) < 18 := by split <;> omega
        have ec : (if t + 1 ≤ a then t + 1 else t + 1 - 1) = (if t ≤ a then t else t - 1) + 1 := by
          by_cases q2 : t ≤ a
          · rw [if_pos q2, if_pos (by omega)]
          · rw [if_neg q2, if_neg (by omega)]; omega
        have et : t = (if (if t ≤ a then t else t - 1) < a then (if t ≤ a then t else t - 1) else (if t ≤ a then t else t - 1) + 1) := by
          by_cases q2 : t ≤ a
          · rw [if_pos q2, if_pos (by omega)]
          · rw [if_neg q2, if_neg (by omega)]; omega
        generalize (if t ≤ a then t else t - 1) = c at *
        refine ⟨vp_in_nI c18 (by decide), ?_⟩
        rw [m_rf (by omega), m_lit 43, nI_add]
        intro S8 e8 S9 e9 x2 e2
        have z8 : S8 224 27 = nI c := by rw [e8, su_n _ _ (Or.inl (by decide))]; exact h27
        rw [z8, m_lit 1, nI_add] at e9
        rw [m_lit 1, nI_add] at e2
        subst e2
        have f8 : fr9 [236] [27] S' S8 := by rw [e8]; exact fr9_su (by decide) (by decide)
        have f9 : fr9 [236] [27] S8 S9 := by rw [e9]; exact fr9_sf (by decide)
        refine ih (t + 1) S9 (by omega) (fr9_tr f (fr9_tr f8 f9)) (by rw [ec, e9, su_s]) (fun j hj2 => ?_)
        rw [ec] at hj2
        rw [e9, su_n _ _ (Or.inl (by decide)), e8]
        by_cases q3 : j = c
        · rw [q3, su_s, ← et]
        · rw [su_n _ _ (Or.inr q3)]; exact hj j (by omega)
  exact ⟨Ls.length + 1, loop Ls.length 0 S1 (by omega) (by rw [e1]; exact fr9_sf (by decide)) (by rw [e1, su_s, if_pos (by omega)]; rfl) (fun j hj => by rw [if_pos (by omega)] at hj; omega)⟩
/-- the tail of a place comes to the row -/
theorem tO_tail {S0 : St} {P : Po} {a : Nat} {K : Int32 → St → Prop} (ha : a < 18) (hP : PM S0 (43 + a) P) (h1 : 0 < P.length) (h20 : S0 224 20 = nI (P.length - 1)) (hK : ∀ S', RM S' (P.drop 1) → fr9 [230, 231] [] S0 S' → w_X9_leave S' (fun r_3 S_2 => (0 ≤ r_3 → ((¬ (S_2 224 20) = 40 → (∃ f, q_it (fun _ _ => False) (w_X9_tidyOne_172 (nI a) K (nI (43 + a))) f 0 S_2)) ∧ ((S_2 224 20) = 40 → (K (-6) S_2)))) ∧ (¬ 0 ≤ r_3 → (K r_3 S_2)))) : ∃ f, q_it (fun _ _ => False) (w_X9_tidyOne_68 (nI a) K (nI (43 + a))) f 0 S0 := by
  have hl := hP.2.1
  have ld : (P.drop 1).length = P.length - 1 := List.length_drop
  have loop : ∀ (d t : Nat) (S' : St), t + d = P.length - 1 → fr9 [230, 231] [] S0 S' → (∀ j, j < t → S' 230 j = nI (pc (P.drop 1) j) ∧ MA S' 231 (4 * j) (pm (P.drop 1) j)) → q_it (fun _ _ => False) (w_X9_tidyOne_68 (nI a) K (nI (43 + a))) (d + 1) (nI t) S' := by
    intro d
    induction d with
    | zero =>
      intro t S' ht f hj
      rw [q_it_s]
      unfold w_X9_tidyOne_68
      rw [f.2 20 (by decide), h20]
      refine pk_le (P.length - 1) t (fun _ => ?_) (fun q => by omega)
      exact hK S' ⟨by rw [f.2 20 (by decide), h20, ld], by omega, fun j hj2 => hj j (by omega)⟩ f
    | succ d ih =>
      intro t S' ht f hj
      rw [q_it_s]
      generalize q_it (fun _ _ => False) (w_X9_tidyOne_68 (nI a) K (nI (43 + a))) (d + 1) = k2 at ih ⊢
      unfold w_X9_tidyOne_68
      rw [f.2 20 (by decide), h20]
      refine pk_le (P.length - 1) t (fun q => by omega) (fun _ => ?_)
      have g := hP.2.2 (t + 1) (by omega)
      have gd : pc (P.drop 1) t = pc P (t + 1) := by rw [pc_drop, Nat.add_comm]
      have gd2 : pm (P.drop 1) t = pm P (t + 1) := by rw [pm_drop, Nat.add_comm]
      rw [ix40, m_lit 1, nI_add, m_rf (by omega), m_rf (by omega), f.1 226 (by decide) (by decide), show 40 * (43 + a) + t + 1 = 40 * (43 + a) + (t + 1) by omega, g.1]
      refine ⟨vp_in_nI (by omega) (by decide), vp_in_nI (by omega) (by decide), ?_⟩
      intro S9 e9
      subst e9
      refine loop4 (S := su S' 230 t (nI (pc P (t + 1)))) (a := 231) (i := 4 * t) (g := fun v => nI (ex (pm P (t + 1)) v)) ?_ ?_
      · intro v kk hv hkk
        unfold w_X9_tidyOne_98
        refine pk_le 4 v (fun q => by omega) (fun _ => ?_)
        have e1 := g.2 v hv
        rw [show 160 * (43 + a) + 4 * (t + 1) + v = 160 * (43 + a) + 4 * t + 4 + v by omega] at e1
        rw [mul160, mul4, m_lit 4, nI_add, nI_add, nI_add, nI_add, m_rf (by omega), m_rf (by omega), w4_n _ _ _ _ _ (Or.inl (by decide)), su_n _ _ (Or.inl (by decide)), f.1 227 (by decide) (by decide), e1, w4_s (g := fun v => nI (ex (pm P (t + 1)) v))]
        refine ⟨vp_in_nI (by omega) (by decide), vp_in_nI (by omega) (by decide), ?_⟩
        intro S5 e5 x4 e6
        rw [m_lit 1, nI_add] at e6
        subst e5; subst e6
        exact hkk
      · intro kk
        unfold w_X9_tidyOne_98
        refine pk_le 4 4 (fun _ => ?_) (fun q => by omega)
        intro x3 e3
        rw [m_lit 1, nI_add] at e3
        subst e3
        refine ih (t + 1) _ (by omega) (fr9_tr f (fr9_tr (fr9_su (by decide) (by decide)) (fr9_w4 (by decide) (by decide)))) (fun j hj2 => ?_)
        rw [w4_n _ _ _ _ _ (Or.inl (by decide))]
        by_cases q : j = t
        · rw [q, su_s, gd, gd2]
          exact ⟨rfl, fun v hv => w4_at _ _ _ _ hv⟩
        · rw [su_n _ _ (Or.inr q)]
          have g2 := hj j (by omega)
          refine ⟨g2.1, MA_eq g2.2 (fun v hv => ?_)⟩
          rw [w4_n _ _ _ _ _ (Or.inr (Or.inl (by omega))), su_n _ _ (Or.inl (by decide))]
  exact ⟨P.length - 1 + 1, loop (P.length - 1) 0 S0 (by omega) fr9_rf (fun j hj => by omega)⟩
/-- the row comes behind the head of a place -/
theorem tO_put {S0 : St} {P L : Po} {a : Nat} {K : Int32 → St → Prop} (ha : a < 18) (hP : PM S0 (43 + a) P) (h1 : 0 < P.length) (hR : RM S0 L) (hl : L.length < 40) (hK : ∀ S', PM S' (43 + a) ((pc P 0, pm P 0) :: L) → pkf (43 + a) S0 S' → fr9 [225, 226, 227] [] S0 S' → K 0 S') : ∃ f, q_it (fun _ _ => False) (w_X9_tidyOne_172 (nI a) K (nI (43 + a))) f 0 S0 := by
  have g0 := hP.2.2 0 h1
  rw [Nat.add_zero, Nat.mul_zero, Nat.add_zero] at g0
  have loop : ∀ (d t : Nat) (S' : St), t + d = L.length → fr9 [226, 227] [] S0 S' → pkf (43 + a) S0 S' → (S' 226 (40 * (43 + a)) = nI (pc P 0) ∧ MA S' 227 (160 * (43 + a)) (pm P 0)) → (∀ j, j < t → S' 226 (40 * (43 + a) + (j + 1)) = nI (pc L j) ∧ MA S' 227 (160 * (43 + a) + 4 * (j + 1)) (pm L j)) → q_it (fun _ _ => False) (w_X9_tidyOne_172 (nI a) K (nI (43 + a))) (d + 1) (nI t) S' := by
    intro d
    induction d with
    | zero =>
      intro t S' ht f hpk hh hj
      rw [q_it_s]
      unfold w_X9_tidyOne_172
      rw [f.2 20 (by decide), hR.1]
      refine pk_le L.length t (fun _ => ⟨vp_in_nI (by omega) (by decide), ?_⟩) (fun q => by omega)
      rw [m_lit 1, nI_add, m_rf (by omega)]
      intro S3 e3
      refine hK S3 ⟨by rw [e3, su_s]; rfl, by show L.length + 1 ≤ 40; omega, fun j hj2 => ?_⟩ ⟨fun j q => by rw [e3, su_n _ _ (Or.inr q)]; exact hpk.1 j q, fun i q => by rw [e3, su_n _ _ (Or.inl (by decide))]; exact hpk.2.1 i q, fun i q => by rw [e3, su_n _ _ (Or.inl (by decide))]; exact hpk.2.2 i q⟩ (fr9_tr (fr9_mono f (by decide) (by decide)) (by rw [e3]; exact fr9_su (by decide) (by decide)))
      rw [e3, su_n _ _ (Or.inl (by decide))]
      have k227 : ∀ {i : Nat} {m : Mo}, MA S' 227 i m → MA (su S' 225 (43 + a) (nI (L.length + 1))) 227 i m := fun hm => MA_eq hm (fun v _ => su_n _ _ (Or.inl (by decide)))
      cases j with
      | zero =>
        rw [Nat.add_zero, Nat.mul_zero, Nat.add_zero]
        exact ⟨hh.1, k227 hh.2⟩
      | succ j =>
        have hj2 : j + 1 < L.length + 1 := hj2
        have g := hj j (by omega)
        exact ⟨g.1, k227 g.2⟩
    | succ d ih =>
      intro t S' ht f hpk hh hj
      have htl : t < L.length := by omega
      rw [q_it_s]
      generalize q_it (fun _ _ => False) (w_X9_tidyOne_172 (nI a) K (nI (43 + a))) (d + 1) = k2 at ih ⊢
      unfold w_X9_tidyOne_172
      rw [f.2 20 (by decide), hR.1]
      refine pk_le L.length t (fun q => by omega) (fun _ => ?_)
      have g := hR.2.2 t htl
      rw [ix40, m_lit 1, nI_add, m_rf (by omega), m_rf (by omega), f.1 230 (by decide) (by decide), g.1]
      refine ⟨vp_in_nI (by omega) (by decide), vp_in_nI (by omega) (by decide), ?_⟩
      intro S6 e6
      subst e6
      refine loop4 (S := su S' 226 (40 * (43 + a) + t + 1) (nI (pc L t))) (a := 227) (i := 160 * (43 + a) + 4 * t + 4) (g := fun v => nI (ex (pm L t) v)) ?_ ?_
      · intro v kk hv hkk
        unfold w_X9_tidyOne_205
        refine pk_le 4 v (fun q => by omega) (fun _ => ?_)
        rw [mul160, mul4, m_lit 4, nI_add, nI_add, nI_add, nI_add, m_rf (by omega), m_rf (by omega), w4_n _ _ _ _ _ (Or.inl (by decide)), su_n _ _ (Or.inl (by decide)), f.1 231 (by decide) (by decide), g.2 v hv, w4_s (g := fun v => nI (ex (pm L t) v))]
        refine ⟨vp_in_nI (by omega) (by decide), vp_in_nI (by omega) (by decide), ?_⟩
        intro S5 e5 x5 e7
        rw [m_lit 1, nI_add] at e7
        subst e5; subst e7
        exact hkk
      · intro kk
        unfold w_X9_tidyOne_205
        refine pk_le 4 4 (fun _ => ?_) (fun q => by omega)
        intro x4 e4
        rw [m_lit 1, nI_add] at e4
        subst e4
        refine ih (t + 1) _ (by omega) (fr9_tr f (fr9_tr (fr9_su (by decide) (by decide)) (fr9_w4 (by decide) (by decide)))) ⟨fun j q => ?_, fun i q => ?_, fun i q => ?_⟩ ⟨?_, ?_⟩ (fun j hj2 => ?_)
        · rw [w4_n _ _ _ _ _ (Or.inl (by decide)), su_n _ _ (Or.inl (by decide))]; exact hpk.1 j q
        · rw [w4_n _ _ _ _ _ (Or.inl (by decide)), su_n _ _ (Or.inr (by omega))]; exact hpk.2.1 i q
        · rw [w4_n _ _ _ _ _ (Or.inr (by omega)), su_n _ _ (Or.inl (by decide))]; exact hpk.2.2 i q
        · rw [w4_n _ _ _ _ _ (Or.inl (by decide)), su_n _ _ (Or.inr (by omega))]; exact hh.1
        · exact MA_eq hh.2 (fun v hv => by rw [w4_n _ _ _ _ _ (Or.inr (Or.inl (by omega))), su_n _ _ (Or.inl (by decide))])
        · rw [w4_n _ _ _ _ _ (Or.inl (by decide))]
          by_cases q : j = t
          · rw [q, show 40 * (43 + a) + (t + 1) = 40 * (43 + a) + t + 1 by omega, su_s, show 160 * (43 + a) + 4 * (t + 1) = 160 * (43 + a) + 4 * t + 4 by omega]
            exact ⟨rfl, fun v hv => w4_at _ _ _ _ hv⟩
          · rw [su_n _ _ (Or.inr (by omega))]
            have g2 := hj j (by omega)
            refine ⟨g2.1, MA_eq g2.2 (fun v hv => ?_)⟩
            rw [w4_n _ _ _ _ _ (Or.inr (Or.inl (by omega))), su_n _ _ (Or.inl (by decide))]
  exact ⟨L.length + 1, loop L.length 0 S0 (by omega) fr9_rf ⟨fun _ _ => rfl, fun _ _ => rfl, fun _ _ => rfl⟩ g0 (fun j hj => by omega)⟩
end OPS
