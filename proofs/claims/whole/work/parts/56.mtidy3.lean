/-! the reference: tidy -/
section OPS
variable {N : Nat → Nat} {T : Nat → Option Po} {R : Nat → Nat × Nat} {S : St} {K : Int32 → St → Prop}
theorem srtF_cg {N' : Nat → Nat} (h6 : N' 6 = N 6) (h2 : N' 2 = N 2) : ∀ i, srtF N' T i = srtF N T i
  | 0 => rfl
  | i + 1 => by
    have ih := srtF_cg h6 h2 i
    have eg : gone N' T i = gone N T i := by unfold gone; rw [h6]
    show (if gone N' T i = true then srtF N' T i else inI (N' 2) i (hdm T i) (srtF N' T i)) = (if gone N T i = true then srtF N T i else inI (N 2) i (hdm T i) (srtF N T i))
    rw [eg, h2, ih]
def tds (N : Nat → Nat) (u a : Nat) (Ls : List Po) : List Po := Ls.set a ((pc (Ls.getD a []) 0, pm (Ls.getD a []) 0) :: (tdr N u a Ls).2.2)
def tdF (N : Nat → Nat) : Nat → Nat → Nat → List Po → Int32 × Nat × List Po
  | 0, _, u, Ls => (0, u, Ls)
  | m + 1, a, u, Ls => if (tdr N u a Ls).1 = 0 then (if (tdr N u a Ls).2.2.length = 40 then (-6, (tdr N u a Ls).2.1, Ls) else tdF N m (a + 1) (tdr N u a Ls).2.1 (tds N u a Ls)) else ((tdr N u a Ls).1, (tdr N u a Ls).2.1, Ls)
def ltb (N : Nat → Nat) (T : Nat → Option Po) : List Po := (srtF N T (N 6)).map (fun t => gt T (25 + t.1))
def tdT (T : Nat → Option Po) (Ls : List Po) : Nat → Option Po := fun k => if k < 25 then T k else if k < 25 + Ls.length then some (Ls.getD (k - 25) []) else none
def tdJ (T : Nat → Option Po) (Ls : List Po) (j : Nat) : Nat → Option Po := fun k => if 25 ≤ k ∧ k < 25 + j then some (Ls.getD (k - 25) []) else T k
def f_tidy (N : Nat → Nat) (T : Nat → Option Po) (R : Nat → Nat × Nat) : Int32 × (Nat → Nat) × (Nat → Option Po) × (Nat → Nat × Nat) :=
  if 0 < N 7 then (-3, N, T, R) else if (tdF N (ltb N T).length 0 0 (ltb N T)).1 = 0 then (nI (tdF N (ltb N T).length 0 0 (ltb N T)).2.2.length, nu (nu (usd N (tdF N (ltb N T).length 0 0 (ltb N T)).2.1) 6 (tdF N (ltb N T).length 0 0 (ltb N T)).2.2.length) 13 1, tdT T (tdF N (ltb N T).length 0 0 (ltb N T)).2.2, R)
    else ((tdF N (ltb N T).length 0 0 (ltb N T)).1, usd N (tdF N (ltb N T).length 0 0 (ltb N T)).2.1, T, R)
theorem ltb_len : (ltb N T).length = (srtF N T (N 6)).length := by unfold ltb; rw [List.length_map]
theorem ltb_at {t : Nat} (h : t < (srtF N T (N 6)).length) : (ltb N T).getD t [] = gt T (25 + pc (srtF N T (N 6)) t) := by
  unfold ltb
  rw [List.getD_eq_getElem?_getD, List.getElem?_map, List.getElem?_eq_getElem h]
  have := pc_get h
  show gt T (25 + ((srtF N T (N 6))[t]).1) = _
  rw [← this]
theorem ltb_GL (w : WF N T R) : GL N (ltb N T) := by
  intro P hP
  unfold ltb at hP
  obtain ⟨t, ht, e⟩ := List.mem_map.mp hP
  have hm := srtF_mem ht
  obtain ⟨_, g, l, p, _⟩ := hd_ok w hm.1
  rw [← e]
  exact ⟨g, l, p⟩
theorem td_copy {Ls : List Po} {u : Nat} (w : WF N T R) (l18 : Ls.length ≤ 18) (hG : GL N Ls) {S1 : St} (h1 : M9 (usd N u) T R S1) (hT : TM S1 Ls) (l1 : lo S S1) (h7 : N 7 = 0) (hK : D9 (nI Ls.length, nu (nu (usd N u) 6 Ls.length) 13 1, tdT T Ls, R) S K) : ∃ f, q_it (fun _ _ => False) (w_X9_tidy_62 K) f 0 S1 := by
  have hb := prm_b w.1
  have loop : ∀ (d t : Nat) (S' : St), t + d = Ls.length → M9 (usd N u) (tdJ T Ls t) R S' → TM S' Ls → lo S S' → q_it (fun _ _ => False) (w_X9_tidy_62 K) (d + 1) (nI t) S' := by
    intro d
    induction d with
    | zero =>
      intro t S' ht h' hT' l'
      rw [q_it_s]
      unfold w_X9_tidy_62
      rw [hT'.1]
      refine pk_le Ls.length t (fun _ => ?_) (fun q => by omega)
      intro S2 e2 S3 e3
      have ez : S3 224 6 = nI Ls.length := by rw [e3, su_n _ _ (Or.inr (by decide)), e2, su_s]
      rw [ez]
      have h3 : M9 (nu (nu (usd N u) 6 Ls.length) 13 1) (tdJ T Ls t) R S3 := by rw [e3, e2]; exact M9_nu (M9_nu h' (by decide)) (by decide)
      have l2 : lo S' S2 := by rw [e2]; exact lo_su (by decide)
      have l3 : lo S2 S3 := by rw [e3]; exact lo_su (by decide)
      refine hK S3 ⟨h3.1, fun k P hk hP => ?_, fun k q1 q2 hP => ?_, h3.2.2.2⟩ (lo_tr l' (lo_tr l2 l3))
      · refine h3.2.1 k P hk ?_
        have hP : tdT T Ls k = some P := hP
        unfold tdT at hP
        unfold tdJ
        by_cases q : k < 25
        · rw [if_pos q] at hP
          rw [if_neg (by omega)]; exact hP
        · rw [if_neg q] at hP
          split at hP
          · rw [if_pos (by omega)]; exact hP
          · cases hP
      · refine h3.2.2.1 k q1 q2 ?_
        have hP : tdT T Ls k = none := hP
        unfold tdT at hP
        rw [if_pos q2] at hP
        unfold tdJ
        rw [if_neg (by omega)]; exact hP
    | succ d ih =>
      intro t S' ht h' hT' l'
      have htl : t < Ls.length := by omega
      rw [q_it_s]
      generalize q_it (fun _ _ => False) (w_X9_tidy_62 K) (d + 1) = k2 at ih ⊢
      unfold w_X9_tidy_62
      rw [hT'.1]
      refine pk_le Ls.length t (fun q => by omega) (fun _ => ?_)
      rw [m_lit 43, m_lit 25, nI_add, nI_add]
      have g := hG _ (gmem htl)
      refine sp_copy hb (by omega) (by omega) (h'.1 0 (by decide)) (hT'.2 t htl) g.1.1.2.2.1 (fun S3 hP3 f3 hk3 => ?_)
      have h3 := M9_lay h' hP3 hk3 f3 (by decide) (by decide)
      have ej : tu (tdJ T Ls t) (25 + t) (some (Ls.getD t [])) = tdJ T Ls (t + 1) := by
        funext k
        by_cases q : k = 25 + t
        · rw [q, tu_s]; unfold tdJ; rw [if_pos (by omega), Nat.add_sub_cancel_left]
        · rw [tu_n q]; unfold tdJ
          by_cases q2 : 25 ≤ k ∧ k < 25 + t
          · rw [if_pos q2, if_pos (by omega)]
          · rw [if_neg q2, if_neg (by omega)]
      rw [ej] at h3
      intro x1 e1
      rw [m_lit 1, nI_add] at e1
      subst e1
      exact ih (t + 1) S3 (by omega) h3 ⟨by rw [f3.2 34 (by decide)]; exact hT'.1, fun k hk => PM_pkf hk3 (by omega) (hT'.2 k hk)⟩ (lo_tr l' (lo_fr f3 (by decide)))
  have e0 : tdJ T Ls 0 = T := by
    funext k
    unfold tdJ
    rw [if_neg (by omega)]
  exact ⟨Ls.length + 1, loop Ls.length 0 S1 (by omega) (by rw [e0]; exact h1) hT l1⟩
theorem m_tidy (w : WF N T R) (h : M9 N T R S) (hK : D9 (f_tidy N T R) S K) : w_X9_tidy S K := by
  have hb := prm_b w.1
  have w6 : N 6 ≤ 18 := w.2.2.2.2.2.2.2.1
  have n7 := (n7_le w).1
  unfold w_X9_tidy
  unfold f_tidy at hK
  rw [h.1 7 (by decide)]
  refine pk_le (N 7) 0 (fun q => ?_) (fun q => by rw [if_pos q] at hK; exact hK S h lo_rf)
  rw [if_neg (by omega)] at hK
  intro S2 e2 S3 e3
  have f3 : fr9 [] [19, 29] S S3 := by rw [e3, e2]; exact fr9_tr (fr9_sf (by decide)) (fr9_sf (by decide))
  have h2 : M9 N T R S2 := M9_fr (cs := []) (fs := [29]) h (by rw [e2]; exact fr9_sf (by decide)) (fun _ z => nomatch z) (by decide)
  have eu : nu N 19 0 = usd N 0 := by
    funext i
    unfold usd nu
    by_cases q1 : i = 19
    · rw [if_pos q1, if_pos q1]
    · rw [if_neg q1, if_neg q1]
      by_cases q2 : i = 18
      · rw [if_pos q2, q2, Nat.add_zero]
      · rw [if_neg q2]
  have h3 : M9 (usd N 0) T R S3 := by rw [← eu, e3]; exact M9_nu h2 (by decide)
  have w3 : WF (usd N 0) T R := WF_cg (fun j hj => (nu_n (by omega)).trans (nu_n (by omega))) w
  refine sp_sort w3 h3 (fun S4 h4 so4 f4 => ?_)
  have hs : srtF (usd N 0) T (usd N 0 6) = srtF N T (N 6) := srtF_cg (N := N) (N' := usd N 0) rfl rfl (N 6)
  rw [hs] at so4
  have len := srtF_len (N := N) (T := T) (N 6)
  have hT4 : TM S4 (ltb N T) := ⟨by rw [ltb_len]; exact so4.1, fun k hk => by
    rw [ltb_len] at hk
    rw [ltb_at hk]; exact so4.2 k hk⟩
  have l4 : lo S S4 := lo_tr (lo_fr f3 (fun _ z => nomatch z)) (lo_fr f4 (by decide))
  have z4 : S4 224 29 = nI 0 := by rw [f4.2 29 (by decide), e3, su_n _ _ (Or.inr (by decide)), e2, su_s]; rfl
  have ll : (ltb N T).length ≤ 18 := by rw [ltb_len]; omega
  have loop : ∀ (m a u : Nat) (Ls : List Po) (S' : St), a + m = Ls.length → Ls.length ≤ 18 → GL N Ls → M9 (usd N u) T R S' → TM S' Ls → S' 224 29 = nI u → u ≤ N 10 → lo S S' → D9 (if (tdF N m a u Ls).1 = 0 then (nI (tdF N m a u Ls).2.2.length, nu (nu (usd N (tdF N m a u Ls).2.1) 6 (tdF N m a u Ls).2.2.length) 13 1, tdT T (tdF N m a u Ls).2.2, R)
    else ((tdF N m a u Ls).1, usd N (tdF N m a u Ls).2.1, T, R)) S K → q_it (fun _ _ => False) (w_X9_tidy_26 K) (m + 1) (nI a) S' := by
    intro m
    induction m with
    | zero =>
      intro a u Ls S' ha l18 hG h' hT' z' hu l' hK'
      rw [q_it_s]
      unfold w_X9_tidy_26
      rw [hT'.1]
      refine pk_le Ls.length a (fun _ => ?_) (fun q => by omega)
      have e : tdF N 0 a u Ls = (0, u, Ls) := rfl
      rw [e] at hK'
      rw [if_pos rfl] at hK'
      exact td_copy w l18 hG h' hT' l' (by omega) hK'
    | succ m ih =>
      intro a u Ls S' ha l18 hG h' hT' z' hu l' hK'
      have hal : a < Ls.length := by omega
      rw [q_it_s]
      generalize q_it (fun _ _ => False) (w_X9_tidy_26 K) (m + 1) = k2 at ih ⊢
      unfold w_X9_tidy_26
      rw [hT'.1]
      refine pk_le Ls.length a (fun q => by omega) (fun _ => ?_)
      have e : tdF N (m + 1) a u Ls = if (tdr N u a Ls).1 = 0 then (if (tdr N u a Ls).2.2.length = 40 then (-6, (tdr N u a Ls).2.1, Ls) else tdF N m (a + 1) (tdr N u a Ls).2.1 (tds N u a Ls)) else ((tdr N u a Ls).1, (tdr N u a Ls).2.1, Ls) := rfl
      rw [e] at hK'
      have et : tdr (usd N u) u a Ls = tdr N u a Ls := rfl
      have gU : GL (usd N u) Ls := fun P hP => ⟨GP_cg (N := N) (fun j hj => (nu_n (by omega)).trans (nu_n (by omega))) (hG P hP).1, (hG P hP).2⟩
      refine sp_tidyOne (N := usd N u) w.1 w.2.2.1 w.2.2.2.1 h' hT' l18 gU hal z' hu (fun S5 z5 h5 l5 u1 u2 hT5 => ?_)
      rw [et] at z5 h5 u1 u2 hT5 ⊢
      intro S6 e6
      rw [z5] at e6
      have h6 : M9 (usd N (tdr N u a Ls).2.1) T R S6 := by
        have := M9_nu (j := 19) (v := (tdr N u a Ls).2.1) h5 (by decide)
        rw [← e6] at this
        have en : nu (addN (usd N u) ((tdr N u a Ls).2.1 - u)) 19 (tdr N u a Ls).2.1 = usd N (tdr N u a Ls).2.1 := by
          funext i
          unfold addN usd nu
          by_cases q1 : i = 19
          · rw [if_pos q1, if_pos q1]
          · rw [if_neg q1, if_neg q1]
            by_cases q2 : i = 18
            · subst q2
              show N 18 + u + ((tdr N u a Ls).2.1 - u) = N 18 + (tdr N u a Ls).2.1
              omega
            · rw [if_neg q2, if_neg q2, if_neg q1, if_neg q2]
        rwa [en] at this
      have l6 : lo S S6 := lo_tr l' (lo_tr l5 (by rw [e6]; exact lo_su (by decide)))
      have code := lv_code (o := N 2) (p := N 0) (fuel := N 10) (Gs := Ls.eraseIdx a) (st := 2041) (u := u) (H := (Ls.getD a []).drop 1) (R := [])
      change (tdr N u a Ls).1 = 0 ∨ ¬ 0 ≤ (tdr N u a Ls).1 at code
      rcases code with c | c
      · rw [if_pos c] at hK' ⊢
        by_cases q4 : (tdr N u a Ls).2.2.length = 40
        · rw [if_pos q4] at hK' ⊢
          rw [if_neg (show ¬ (-6 : Int32) = 0 by decide)] at hK'
          exact ⟨fun z => absurd z (by decide), fun _ => hK' S6 h6 l6⟩
        · rw [if_neg q4] at hK' ⊢
          refine ⟨fun _ => ?_, fun z => absurd (show (0 : Int32) ≤ 0 by decide) z⟩
          intro x1 e1
          rw [m_lit 1, nI_add] at e1
          subst e1
          have f6 : fr9 [] [19] S5 S6 := by rw [e6]; exact fr9_sf (by decide)
          refine ih (a + 1) _ (tds N u a Ls) S6 (by unfold tds; rw [List.length_set]; omega) (by unfold tds; rw [List.length_set]; exact l18) (tdr_GP (by omega) hG hal q4) h6 (TM_fr (hT5 ⟨c, q4⟩) f6 (fun _ z => nomatch z) (by decide)) (by rw [f6.2 29 (by decide)]; exact z5) u2 l6 hK'
      · have c' : ¬ (tdr N u a Ls).1 = 0 := fun z => c (by rw [z]; decide)
        rw [if_neg c'] at hK' ⊢
        rw [if_neg c'] at hK'
        exact ⟨fun z => absurd z c, fun _ => hK' S6 h6 l6⟩
  exact ⟨(ltb N T).length + 1, loop (ltb N T).length 0 0 (ltb N T) S4 (by omega) ll (ltb_GL w) h4 hT4 z4 (Nat.zero_le _) l4 hK⟩
end OPS
