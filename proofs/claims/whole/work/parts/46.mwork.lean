/-! the reference: the work of pairs -/
section OPS
variable {N : Nat → Nat} {T : Nat → Option Po} {R : Nat → Nat × Nat} {S : St} {K : Int32 → St → Prop}
theorem M9_add {S' : St} {u : Nat} {cs : List Nat} (h : M9 N T R S) (f : fr9 cs [18, 20, 27, 29, 30] S S') (hc : ∀ c ∈ cs, 230 ≤ c) (h18 : S' 224 18 = nI (N 18 + u)) : M9 (addN N u) T R S' := by
  have fe : ∀ c, 225 ≤ c → c < 230 → S' c = S c := fun c q1 q2 => f.1 c (by omega) (fun z => by have := hc c z; omega)
  refine ⟨fun j hj => ?_, fun k P hk hT => PM_fr (h.2.1 k P hk hT) (fe 225 (by decide) (by decide)) (fe 226 (by decide) (by decide)) (fe 227 (by decide) (by decide)), fun k q1 q2 hT => by rw [fe 225 (by decide) (by decide)]; exact h.2.2.1 k q1 q2 hT, fun t ht => ?_⟩
  · unfold addN
    by_cases q2 : j = 18
    · rw [q2, nu_s, h18]
    · rw [nu_n q2, ← h.1 j hj]
      refine f.2 j ?_
      unfold sc9 at hj
      simp only [List.mem_cons, List.not_mem_nil, or_false] at hj ⊢
      omega
  · rw [fe 228 (by decide) (by decide), fe 229 (by decide) (by decide)]
    refine h.2.2.2 t ?_
    unfold addN at ht
    rw [nu_n (by decide)] at ht
    exact ht
theorem M9_inc {j : Nat} {S' : St} (h : M9 N T R S) (hj : j ∈ sc9) (hj7 : j ≠ 7) (e : S' = su S 224 j (S 224 j + 1)) : M9 (inc j N) T R S' := by
  rw [h.1 j hj, m_lit 1, nI_add] at e
  rw [e]
  exact M9_nu h hj7
def D5 (r : Int32 × Nat × (Nat → Nat) × (Nat → Option Po) × (Nat → Nat × Nat)) (S : St) (K : Int32 → St → Prop) : Prop := ∀ S', M9 r.2.2.1 r.2.2.2.1 r.2.2.2.2 S' → S' 224 29 = nI r.2.1 → lo S S' → K r.1 S'
theorem m_wofL {a : Nat} {P : Po} {S6 : St} {r : Int32 × Nat × Po} (w : WF N T R) (ha : a < N 7) (hr : r = lvr N T P) (gP : GP N P) (h6 : M9 (addN N r.2.1) T R S6) (z29 : S6 224 29 = nI r.2.1) (hR : r.1 = 0 → RM S6 r.2.2) (l6 : lo S S6) (hK : D5 (wofL N T R a r) S K) :
    (0 ≤ r.1 → (((S6 224 20) ≤ 0 → w_X9_workOf_143 (nI a) K S6) ∧ (¬ (S6 224 20) ≤ 0 → ((¬ (S6 224 6) = 18 → w_X9_workOf_143 (nI a) K S6) ∧ ((S6 224 6) = 18 → K (-4) S6))))) ∧ (¬ 0 ≤ r.1 → K r.1 S6) := by
  have w6 : N 6 ≤ 18 := w.2.2.2.2.2.2.2.1
  have gL := lvr_ok w gP
  rw [← hr] at gL
  have code : r.1 = 0 ∨ ¬ 0 ≤ r.1 := by rw [hr]; exact lv_code
  have n7 := n7_le w
  have s6 : S6 224 6 = nI (N 6) := h6.1 6 (by decide)
  unfold wofL at hK
  rcases code with c | c
  · rw [if_pos c] at hK
    have hR := hR c
    have l40 := gL.2.1
    refine ⟨fun _ => ?_, fun z => absurd (by rw [c]; decide) z⟩
    rw [hR.1, s6]
    refine pk_le r.2.2.length 0 (fun q => ?_) (fun q => ?_)
    · rw [if_pos (by omega)] at hK
      unfold w_X9_workOf_143
      refine sp_goes (N := addN N r.2.1) n7.1 ha h6 (fun S1 h1 f1 => ?_)
      rw [f1.2 20 (by decide), hR.1]
      refine pk_le r.2.2.length 0 (fun _ => ?_) (fun z => absurd q (by omega))
      intro S4 e4
      unfold w_X9_workOf_182
      refine hK S4 (M9_inc (j := 17) h1 (by decide) (by decide) e4) ?_ (lo_tr l6 (lo_tr (lo_fr f1 (by decide)) (by rw [e4]; exact lo_su (by decide))))
      rw [e4, su_n _ _ (Or.inr (by decide)), f1.2 29 (by decide)]
      exact z29
    · rw [if_neg (by omega)] at hK
      refine pk_eq' (j := 18) (by omega) (by decide) (fun q2 => ?_) (fun q2 => ?_)
      · rw [if_neg q2] at hK
        unfold w_X9_workOf_143
        refine sp_goes (N := addN N r.2.1) n7.1 ha h6 (fun S1 h1 f1 => ?_)
        rw [f1.2 20 (by decide), hR.1]
        refine pk_le r.2.2.length 0 (fun z => absurd q (by omega)) (fun _ => ?_)
        intro S5 e5
        have h5 := M9_inc (j := 16) h1 (by decide) (by decide) e5
        have f5 : fr9 [228, 229] [7, 16] S6 S5 := fr9_tr (fr9_mono f1 (by decide) (by decide)) (by rw [e5]; exact fr9_sf (by decide))
        refine sp_come (N := inc 16 (goN (addN N r.2.1))) w.1 (show N 6 < 18 by omega) ?_ h5 (RM_fr hR (f5.2 20 (by decide)) (f5.1 230 (by decide) (by decide)) (f5.1 231 (by decide) (by decide))) (by omega) l40 gL.1.2.2.1 gL.1.2.1 (fun S7 h7 hf7 hj7 => ?_)
        · show N 7 - 1 ≤ 136
          have := n7.2 (by omega)
          omega
        · obtain ⟨fs, f7⟩ := hf7
          unfold w_X9_workOf_182
          refine hK S7 h7 ?_ (lo_tr l6 (lo_tr (lo_fr f5 (by decide)) (lo_fr f7 (by decide))))
          rw [hj7 29 (by decide) (by decide), f5.2 29 (by decide)]
          exact z29
      · rw [if_pos q2] at hK
        exact hK S6 h6 z29 l6
  · have c' : ¬ r.1 = 0 := fun z => c (by rw [z]; decide)
    rw [if_neg c'] at hK
    exact ⟨fun z => absurd z c, fun _ => hK S6 h6 z29 l6⟩
theorem m_workOf {a : Nat} (w : WF N T R) (h : M9 N T R S) (h29 : S 224 29 = 0) (ha : a < N 7) (hK : D5 (wof N T R a) S K) : w_X9_workOf (nI a) S K := by
  have n7 := (n7_le w).1
  have w12 : N 12 ≤ 3 := w.2.2.2.2.2.1
  have w6 : N 6 ≤ 18 := w.2.2.2.2.2.2.2.1
  have hpr := w.2.2.2.2.2.2.2.2.2.1 a ha
  have hi : (R a).1 < N 6 := by omega
  have hj : (R a).2 < N 6 := hpr.2
  have hr := h.2.2.2 a ha
  unfold w_X9_workOf
  rw [m_rf (by omega), hr.1, hr.2, h.1 12 (by decide)]
  refine ⟨vp_in_nI (by omega) (by decide), ?_⟩
  intro x2 e2 x3 e3
  subst e2; subst e3
  have ea : (nI (N 12) &&& 1 : Int32) = nI (N 12 % 2) := pk_andN (by omega) 1 (by decide)
  rw [ea]
  unfold wof at hK
  -- what is done by all but the first rule
  have rest : ∀ S5 : St, fr9 [234] [] S S5 → D5 (if 1 < N 12 ∧ chn N T R (R a).1 (R a).2 = true then (0, 0, goN (inc 15 N), T, goR R a)
      else if sgr (gt T (25 + (R a).1)) (gt T (25 + (R a).2)) = true then (-5, 0, N, T, R)
      else if 40 < (sro (N 2) (N 0) (gt T (25 + (R a).1)) (gt T (25 + (R a).2))).length then (-6, 0, N, T, R)
      else wofL N T R a (lvr N T (sro (N 2) (N 0) (gt T (25 + (R a).1)) (gt T (25 + (R a).2))))) S K → w_X9_workOf_50 (nI a) K (nI (R a).1) (nI (R a).2) S5 := by
    intro S5 f5 hK
    have last : ∀ S6 : St, fr9 [234] [] S S6 → D5 (if sgr (gt T (25 + (R a).1)) (gt T (25 + (R a).2)) = true then (-5, 0, N, T, R)
      else if 40 < (sro (N 2) (N 0) (gt T (25 + (R a).1)) (gt T (25 + (R a).2))).length then (-6, 0, N, T, R)
      else wofL N T R a (lvr N T (sro (N 2) (N 0) (gt T (25 + (R a).1)) (gt T (25 + (R a).2))))) S K → w_X9_workOf_84 (nI a) K (nI (R a).1) (nI (R a).2) S6 := by
      intro S6 f6 hK
      unfold w_X9_workOf_84
      rw [m_lit 25, nI_add, nI_add]
      obtain ⟨p1, _⟩ := hd_at w h f6 (by decide) hi
      obtain ⟨p2, _⟩ := hd_at w h f6 (by decide) hj
      obtain ⟨_, g1, l1, _⟩ := hd_ok w hi
      obtain ⟨_, g2, l2, _⟩ := hd_ok w hj
      have z6 : S6 224 29 = 0 := by rw [f6.2 29 (by decide)]; exact h29
      refine sp_makeS w.1 w.2.2.1 (by omega) (by omega) p1 p2 l1 l2 g1.1 g2.1 ((f6.2 0 (by decide)).trans (h.1 0 (by decide))) ((f6.2 2 (by decide)).trans (h.1 2 (by decide))) (fun sg S7 f7 => ?_) (fun sg l40 S7 hR7 f7 => ?_) (fun sg l40 S7 f7 => ?_)
      · rw [if_pos sg] at hK
        have fS : fr9 [230, 231, 232, 233, 234] [20] S S7 := fr9_tr (fr9_mono f6 (by decide) (by decide)) f7
        exact ⟨fun z => absurd z (by decide), fun _ => hK S7 (M9_fr h fS (by decide) (by decide)) (by rw [f7.2 29 (by decide)]; exact z6) (lo_fr fS (by decide))⟩
      · rw [sg, if_neg (by decide), if_neg (by omega)] at hK
        have fS : fr9 [230, 231, 232, 233, 234] [20] S S7 := fr9_tr (fr9_mono f6 (by decide) (by decide)) f7
        refine ⟨fun _ => ?_, fun z => absurd (show (0 : Int32) ≤ 0 by decide) z⟩
        have gS := sro_GP w.1 g1 g2 l1 l2 sg l40
        refine sp_byBasis w h fS (by decide) (by decide) (fun S8 hPL f8 => ?_)
        have f8' : fr9 [230, 231, 232, 233, 234, 236] [20, 27] S S8 := fr9_tr (fr9_mono fS (by decide) (by decide)) (fr9_mono f8 (by decide) (by decide))
        have z8 : S8 224 29 = nI 0 := by rw [f8'.2 29 (by decide)]; exact h29
        refine sp_leave (u := 0) (a := N 18) w.1 w.2.2.1 hPL (bas_GG w).1 (RM_fr hR7 (f8.2 20 (by decide)) (f8.1 230 (by decide) (by decide)) (f8.1 231 (by decide) (by decide))) gS.2.1 gS.1 ((f8'.2 0 (by decide)).trans (h.1 0 (by decide))) ((f8'.2 2 (by decide)).trans (h.1 2 (by decide))) ((f8'.2 10 (by decide)).trans (h.1 10 (by decide))) w.2.2.2.1 z8 (Nat.zero_le _) ((f8'.2 18 (by decide)).trans (h.1 18 (by decide))) (fun S9 hR9 z29 z18 _ _ f9 => ?_)
        have f9' : fr9 [230, 231, 232, 233, 234, 236, 237, 238] [18, 20, 27, 29, 30] S S9 := fr9_tr (fr9_mono f8' (by decide) (by decide)) (fr9_mono f9 (by decide) (by decide))
        rw [Nat.sub_zero] at z18
        exact m_wofL (r := lvr N T (sro (N 2) (N 0) (gt T (25 + (R a).1)) (gt T (25 + (R a).2)))) w ha rfl gS (M9_add h f9' (by decide) z18) z29 hR9 (lo_fr f9' (by decide)) hK
      · rw [sg, if_neg (by decide), if_pos l40] at hK
        have fS : fr9 [230, 231, 232, 233, 234] [20] S S7 := fr9_tr (fr9_mono f6 (by decide) (by decide)) f7
        exact ⟨fun z => absurd z (by decide), fun _ => hK S7 (M9_fr h fS (by decide) (by decide)) (by rw [f7.2 29 (by decide)]; exact z6) (lo_fr fS (by decide))⟩
    unfold w_X9_workOf_50
    rw [f5.2 12 (by decide), h.1 12 (by decide)]
    refine pk_le (N 12) 1 (fun q => ?_) (fun q => ?_)
    · rw [if_neg (fun z => absurd z.1 (by omega))] at hK
      exact last S5 f5 hK
    · refine sp_isChained w h f5 (by decide) ⟨by decide, by decide⟩ hi hj (fun c S6 f6 => ?_) (fun c S6 f6 => ?_)
      · rw [if_pos ⟨q, c⟩] at hK
        have f6' : fr9 [234] [] S S6 := fr9_tr f5 f6
        refine ⟨fun z => absurd z (by decide), fun _ => ?_⟩
        intro S7 e7
        have h7 := M9_inc (j := 15) (M9_fr h f6' (by decide) (by decide)) (by decide) (by decide) e7
        refine sp_goes (N := inc 15 N) n7 ha h7 (fun S8 h8 f8 => hK S8 h8 ?_ (lo_tr (lo_fr f6' (by decide)) (lo_tr (by rw [e7]; exact lo_su (by decide)) (lo_fr f8 (by decide)))))
        rw [f8.2 29 (by decide), e7, su_n _ _ (Or.inr (by decide)), f6'.2 29 (by decide)]
        exact h29
      · rw [if_neg (fun z => by rw [c] at z; exact absurd z.2 (by decide))] at hK
        exact ⟨fun _ => last S6 (fr9_tr f5 f6) hK, fun z => absurd rfl z⟩
  refine pk_eq' (j := 1) (by omega) (by decide) (fun q => ?_) (fun q => ?_)
  · rw [if_neg (fun z => q z.1)] at hK
    exact rest S fr9_rf hK
  · refine sp_areCoprime w h fr9_rf (cs := []) (fs := []) (by simp) hi hj (fun c => ?_) (fun c => ?_)
    · rw [if_pos ⟨q, c⟩] at hK
      refine ⟨fun z => absurd z (by decide), fun _ => ?_⟩
      intro S7 e7
      have h7 := M9_inc (j := 14) h (by decide) (by decide) e7
      refine sp_goes (N := inc 14 N) n7 ha h7 (fun S8 h8 f8 => hK S8 h8 ?_ (lo_tr (by rw [e7]; exact lo_su (by decide)) (lo_fr f8 (by decide))))
      rw [f8.2 29 (by decide), e7, su_n _ _ (Or.inr (by decide))]
      exact h29
    · rw [if_neg (fun z => by rw [c] at z; exact absurd z.2 (by decide))] at hK
      exact ⟨fun _ => rest S fr9_rf hK, fun z => absurd rfl z⟩
def f_work (N : Nat → Nat) (T : Nat → Option Po) (R : Nat → Nat × Nat) (x : Int32) : Int32 × (Nat → Nat) × (Nat → Option Po) × (Nat → Nat × Nat) :=
  if 1 ≤ x.toInt ∧ x.toInt ≤ 200 then wrk x.toInt.toNat 0 (nu N 19 0) T R else (-2, N, T, R)
theorem wof_code {a : Nat} : (wof N T R a).1 = 0 ∨ ¬ 0 ≤ (wof N T R a).1 := by
  unfold wof
  split
  · exact Or.inl rfl
  · split
    · exact Or.inl rfl
    · split
      · exact Or.inr (show ¬ (0 : Int32) ≤ -5 by decide)
      · split
        · exact Or.inr (show ¬ (0 : Int32) ≤ -6 by decide)
        · unfold wofL
          split
          · split
            · exact Or.inl rfl
            · split
              · exact Or.inr (show ¬ (0 : Int32) ≤ -4 by decide)
              · exact Or.inl rfl
          · exact lv_code
theorem m_work {x : Int32} (w : WF N T R) (h : M9 N T R S) (hK : D9 (f_work N T R x) S K) : w_X9_work x S K := by
  unfold w_X9_work
  unfold f_work at hK
  have one : (1 : Int32).toInt = 1 := by decide
  have thou : (200 : Int32).toInt = 200 := by decide
  refine sp_in (fun q1 q2 => ?_) (fun q => ?_)
  · rw [Int32.le_iff_toInt_le, one] at q1
    rw [Int32.le_iff_toInt_le, thou] at q2
    rw [if_pos ⟨q1, q2⟩] at hK
    have ex := nI_nn (x := x) (by omega)
    generalize hm : x.toInt.toNat = m at ex hK
    refine ⟨fun _ => ?_, fun z => absurd z (by decide)⟩
    intro S4 e4
    have h4 : M9 (nu N 19 0) T R S4 := by rw [e4]; exact M9_nu h (by decide)
    have loop : ∀ (d t : Nat) (N' : Nat → Nat) (T' : Nat → Option Po) (R' : Nat → Nat × Nat) (S' : St), t + d = m → WF N' T' R' → M9 N' T' R' S' → lo S S' → D9 (wrk d t N' T' R') S K → q_it (fun _ _ => False) (w_X9_work_21 x K) (d + 1) (nI t) S' := by
      intro d
      induction d with
      | zero =>
        intro t N' T' R' S' ht w' h' l' hK'
        rw [q_it_s]
        unfold w_X9_work_21 w_X9_work_67
        rw [ex]
        refine pk_le m t (fun _ => hK' S' h' l') (fun q => by omega)
      | succ d ih =>
        intro t N' T' R' S' ht w' h' l' hK'
        rw [q_it_s]
        generalize q_it (fun _ _ => False) (w_X9_work_21 x K) (d + 1) = k2 at ih ⊢
        unfold w_X9_work_21 w_X9_work_67
        have n7 := (n7_le w').1
        rw [h'.1 7 (by decide)]
        unfold wrk at hK'
        refine ⟨fun q => ?_, fun _ => ?_⟩
        · rw [ex, Int32.le_iff_toInt_le, nI_toInt (by omega), nI_toInt (by omega)] at q
          omega
        · refine pk_le (N' 7) 0 (fun q => ?_) (fun q => ?_)
          · rw [if_pos (by omega)] at hK'
            exact hK' S' h' l'
          · rw [if_neg (by omega)] at hK'
            intro S3 e3
            have f3 : fr9 [] [29] S' S3 := by rw [e3]; exact fr9_sf (by decide)
            refine sp_nextPair w' h' f3 (by decide) (by decide) (by omega) (fun S5 f5 => ?_)
            have f5' : fr9 [234, 239] [29] S' S5 := fr9_tr (fr9_mono f3 (by decide) (by decide)) (fr9_mono f5 (by decide) (by decide))
            have hlt := nxt_lt (N := N') (T := T') (R := R') (show 0 < N' 7 by omega)
            refine m_workOf w' (M9_fr h' f5' (by decide) (by decide)) (by rw [f5.2 29 (by decide), e3, su_s]) hlt (fun S6 h6 z6 l6 => ?_)
            intro S8 e8
            rw [z6] at e8
            have h8 : M9 (nu (wof N' T' R' (nxt N' T' R')).2.2.1 19 (wof N' T' R' (nxt N' T' R')).2.1) (wof N' T' R' (nxt N' T' R')).2.2.2.1 (wof N' T' R' (nxt N' T' R')).2.2.2.2 S8 := by rw [e8]; exact M9_nu h6 (by decide)
            have l8 : lo S S8 := lo_tr l' (lo_tr (lo_fr f5' (by decide)) (lo_tr l6 (by rw [e8]; exact lo_su (by decide))))
            rcases wof_code (N := N') (T := T') (R := R') (a := nxt N' T' R') with c | c
            · rw [if_pos c] at hK'
              rw [c]
              refine ⟨fun _ => ?_, fun z => absurd (show (0 : Int32) ≤ 0 by decide) z⟩
              intro x2 e2
              rw [m_lit 1, nI_add] at e2
              subst e2
              exact ih (t + 1) _ _ _ S8 (by omega) (WF_nu (by decide) (WF_wof w' hlt)) h8 l8 hK'
            · rw [if_neg (fun z => c (by rw [z]; decide))] at hK'
              exact ⟨fun z => absurd z c, fun _ => hK' S8 h8 l8⟩
    exact ⟨m + 1, loop m 0 _ _ _ S4 (by omega) (WF_nu (by decide) w) h4 (by rw [e4]; exact lo_su (by decide)) hK⟩
  · rw [if_neg (fun z => q ⟨by rw [Int32.le_iff_toInt_le, one]; exact z.1, by rw [Int32.le_iff_toInt_le, thou]; exact z.2⟩)] at hK
    exact ⟨fun z => absurd rfl z, fun _ => hK S h lo_rf⟩
end OPS
