/-! the reference: leave, by the basis; left, member -/
theorem leave_end {S : St} {R : Po} {K : Int32 → St → Prop} (hR : RS S R) (hK : ∀ S', RM S' R → fr9 [230, 231] [20] S S' → K 0 S') : ∀ S2, S2 = su S 224 20 (S 224 30) → ∃ f, q_it (fun _ _ => False) (w_X9_leave_54 K) f 0 S2 := by
  intro S2 e2
  have hl := hR.2.1
  have f2 : fr9 [] [20] S S2 := by rw [e2]; exact fr9_sf (by decide)
  have h20 : S2 224 20 = nI R.length := by rw [e2, su_s, hR.1]
  have loop : ∀ (d t : Nat) (S' : St), t + d = R.length → fr9 [230, 231] [20] S S' → S' 224 20 = nI R.length → (∀ j, j < t → S' 230 j = nI (pc R j) ∧ MA S' 231 (4 * j) (pm R j)) → q_it (fun _ _ => False) (w_X9_leave_54 K) (d + 1) (nI t) S' := by
    intro d
    induction d with
    | zero =>
      intro t S' ht f h20' ha
      rw [q_it_s]
      unfold w_X9_leave_54
      rw [f.2 30 (by decide), hR.1]
      refine pk_le R.length t (fun _ => ?_) (fun q => by omega)
      exact hK S' ⟨h20', by omega, fun j hj => ha j (by omega)⟩ f
    | succ d ih =>
      intro t S' ht f h20' ha
      have htl : t < R.length := by omega
      rw [q_it_s]
      generalize q_it (fun _ _ => False) (w_X9_leave_54 K) (d + 1) = k2 at ih ⊢
      unfold w_X9_leave_54
      rw [f.2 30 (by decide), hR.1]
      refine pk_le R.length t (fun q => by omega) (fun _ => ?_)
      have g := hR.2.2 t htl
      rw [m_rf (by omega), f.1 237 (by decide) (by decide), g.1]
      refine ⟨vp_in_nI (by omega) (by decide), vp_in_nI (by omega) (by decide), ?_⟩
      intro S4 e4
      subst e4
      refine loop4 (S := su S' 230 t (nI (pc R t))) (a := 231) (i := 4 * t) (g := fun v => nI (ex (pm R t) v)) ?_ ?_
      · intro v kk hv hkk
        unfold w_X9_leave_76
        refine pk_le 4 v (fun q => by omega) (fun _ => ?_)
        rw [mul4, nI_add, m_rf (by omega), w4_n _ _ _ _ _ (Or.inl (by decide)), su_n _ _ (Or.inl (by decide)), f.1 238 (by decide) (by decide), g.2 v hv, w4_s (g := fun v => nI (ex (pm R t) v))]
        refine ⟨vp_in_nI (by omega) (by decide), vp_in_nI (by omega) (by decide), ?_⟩
        intro S5 e5 x2 e6
        rw [m_lit 1, nI_add] at e6
        subst e5; subst e6
        exact hkk
      · intro kk
        unfold w_X9_leave_76
        refine pk_le 4 4 (fun _ => ?_) (fun q => by omega)
        intro x1 e1
        rw [m_lit 1, nI_add] at e1
        subst e1
        refine ih (t + 1) _ (by omega) (fr9_tr f (fr9_tr (fr9_su (by decide) (by decide)) (fr9_w4 (by decide) (by decide)))) ?_ (fun j hj => ?_)
        · rw [w4_n _ _ _ _ _ (Or.inl (by decide)), su_n _ _ (Or.inl (by decide))]; exact h20'
        · rw [w4_n _ _ _ _ _ (Or.inl (by decide))]
          by_cases q : j = t
          · rw [q, su_s]
            exact ⟨rfl, fun v hv => w4_at _ _ _ _ hv⟩
          · rw [su_n _ _ (Or.inr q)]
            have g2 := ha j (by omega)
            refine ⟨g2.1, MA_eq g2.2 (fun v hv => ?_)⟩
            rw [w4_n _ _ _ _ _ (Or.inr (Or.inl (by omega))), su_n _ _ (Or.inl (by decide))]
  exact ⟨R.length + 1, loop R.length 0 S2 (by omega) (fr9_mono f2 (by decide) (by decide)) h20 (fun j hj => by omega)⟩
theorem fdv_mem {m : Mo} {G : Po} : ∀ {Gs : List Po}, fdv m Gs = some G → G ∈ Gs
  | [], h => by cases h
  | A :: L, h => by
    rw [fdv_cons] at h
    split at h
    · injection h with h; rw [h]; exact List.mem_cons_self
    · exact List.mem_cons_of_mem _ (fdv_mem h)
theorem red_Cn {o p k : Nat} {y : Mo} {G H : Po} (hp : 0 < p) (hH : Cn o p H) (hg : ¬ gr G y) : Cn o p (clean (addT o p G k y H)) :=
  ⟨clean_Sd (addT_Sd hH.1), clean_Lz, clean_Lp (addT_Lp hp hH.2.2.1), clean_L30 (addT_L30 hg hH.2.2.2)⟩
theorem ngr {G : Po} {y : Mo} (h : grb G y = false) : ¬ gr G y := fun z => by rw [grb_iff.mpr z] at h; cases h
theorem lv_code {o p fuel : Nat} {Gs : List Po} : ∀ {st u : Nat} {H R : Po}, (lv o p fuel Gs st u H R).1 = 0 ∨ ¬ 0 ≤ (lv o p fuel Gs st u H R).1
  | 0, _, _, _ => Or.inl rfl
  | _ + 1, _, [], _ => Or.inl rfl
  | st + 1, u, t :: H, R => by
    unfold lv
    split
    · split
      · exact Or.inr (show ¬ (0 : Int32) ≤ -6 by decide)
      · exact lv_code
    · split
      · exact Or.inr (show ¬ (0 : Int32) ≤ -7 by decide)
      · split
        · exact Or.inr (show ¬ (0 : Int32) ≤ -5 by decide)
        · split
          · exact Or.inr (show ¬ (0 : Int32) ≤ -6 by decide)
          · exact lv_code
theorem lv_c0 {o p fuel : Nat} {Gs : List Po} {st u : Nat} {t : Te} {H R : Po} (h : fdv t.2 Gs = none) : lv o p fuel Gs (st + 1) u (t :: H) R = if R.length = 40 then (-6, u, R) else lv o p fuel Gs st u H (R ++ [t]) := by
  conv => lhs; unfold lv
  rw [h]
theorem lv_c1 {o p fuel : Nat} {Gs : List Po} {st u : Nat} {t : Te} {H R G : Po} (h : fdv t.2 Gs = some G) : lv o p fuel Gs (st + 1) u (t :: H) R = if u = fuel then (-7, u, R) else if grb G (ms t.2 (pm G 0)) then (-5, u + 1, R)
      else if 40 < (clean (addT o p G (p - t.1) (ms t.2 (pm G 0)) (t :: H))).length then (-6, u + 1, R) else lv o p fuel Gs st (u + 1) (clean (addT o p G (p - t.1) (ms t.2 (pm G 0)) (t :: H))) R := by
  conv => lhs; unfold lv
  rw [h]
theorem head_c {H : Po} (h : 0 < H.length) : H = (pc H 0, pm H 0) :: H.drop 1 := by
  have := drop_cons h
  rwa [List.drop_zero] at this
theorem sp_leave {S : St} {H : Po} {Gs : List Po} {o p fuel u a : Nat} {K : Int32 → St → Prop} (hp : prm p = true) (ho4 : o < 4) (hPL : PL S Gs) (hGG : GG o p Gs) (hH : RM S H) (hl : H.length ≤ 40) (cH : Cn o p H) (h0 : S 224 0 = nI p) (h2 : S 224 2 = nI o) (hf : S 224 10 = nI fuel) (hfb : fuel ≤ 2000) (hu : S 224 29 = nI u) (huf : u ≤ fuel) (ha : S 224 18 = nI a)
    (hK : ∀ S', ((lv o p fuel Gs 2041 u H []).1 = 0 → RM S' (lv o p fuel Gs 2041 u H []).2.2) → S' 224 29 = nI (lv o p fuel Gs 2041 u H []).2.1 → S' 224 18 = nI (a + ((lv o p fuel Gs 2041 u H []).2.1 - u)) → u ≤ (lv o p fuel Gs 2041 u H []).2.1 → (lv o p fuel Gs 2041 u H []).2.1 ≤ fuel → fr9 [230, 231, 232, 233, 237, 238] [18, 20, 29, 30] S S' → K (lv o p fuel Gs 2041 u H []).1 S') : w_X9_leave S K := by
  have hb := prm_b hp
  unfold w_X9_leave
  intro S1 e1
  have f1 : fr9 [] [30] S S1 := by rw [e1]; exact fr9_sf (by decide)
  have loop : ∀ (st u1 : Nat) (H1 R1 : Po) (S' : St), (fuel - u1) + (40 - R1.length) + 1 ≤ st → u ≤ u1 → u1 ≤ fuel → lv o p fuel Gs 2041 u H [] = lv o p fuel Gs st u1 H1 R1 → RM S' H1 → H1.length ≤ 40 → Cn o p H1 → RS S' R1 → S' 224 29 = nI u1 → S' 224 18 = nI (a + (u1 - u)) → fr9 [230, 231, 232, 233, 237, 238] [18, 20, 29, 30] S S' → q_it (fun _ => False) (w_X9_leave_5 K) st S' := by
    intro st
    induction st with
    | zero => intro u1 H1 R1 S' hm; omega
    | succ st ih =>
      intro u1 H1 R1 S' hm hu1 huf1 elv hR1 hl1 cH1 hS1 h29 h18 f
      rw [q_it_s]
      generalize q_it (fun _ => False) (w_X9_leave_5 K) st = k2 at ih ⊢
      unfold w_X9_leave_5
      rw [hR1.1]
      have hRl := hS1.2.1
      refine pk_le H1.length 0 (fun q => ?_) (fun q => ?_)
      · have eH : H1 = [] := List.length_eq_zero_iff.mp (by omega)
        subst eH
        have e : lv o p fuel Gs (st + 1) u1 [] R1 = (0, u1, R1) := rfl
        rw [e] at elv
        simp only [elv] at hK
        refine leave_end hS1 (fun S2 hR2 f2 => hK S2 (fun _ => hR2) (by rw [f2.2 29 (by decide)]; exact h29) (by rw [f2.2 18 (by decide)]; exact h18) hu1 huf1 (fr9_tr f (fr9_mono f2 (by decide) (by decide))))
      · have hpos : 0 < H1.length := by omega
        have ga := (hR1.2.2 0 hpos).2
        rw [Nat.mul_zero] at ga
        have ehd := head_c hpos
        have fpl : ∀ {c : Nat}, c ≠ 224 → c ∉ [230, 231, 232, 233, 237, 238] → S' c = S c := fun h1 h2 => f.1 _ h1 h2
        have hPL' : PL S' Gs := PL_fr hPL (f.2 27 (by decide)) (fpl (by decide) (by decide)) (fpl (by decide) (by decide)) (fpl (by decide) (by decide)) (fpl (by decide) (by decide))
        refine sp_reducer hPL' hGG ga (cH1.2.2.2 _ (pc_mem hpos)) (fun e => ?_) (fun G k e hGm hk hPG hd => ?_)
        · refine ⟨fun z => absurd rfl z, fun _ => ?_⟩
          have el := lv_c0 (o := o) (p := p) (fuel := fuel) (st := st) (u := u1) (R := R1) (t := (pc H1 0, pm H1 0)) (H := H1.drop 1) e
          rw [← ehd] at el
          rw [el] at elv
          refine sp_goOver hR1 hpos hl1 hS1 (fun q40 => ?_) (fun q40 S2 hR2 hS2 f2 => ?_)
          · rw [if_pos q40] at elv
            simp only [elv] at hK
            unfold w_X9_leave_34
            exact ⟨fun z => absurd z (by decide), fun _ => hK S' (fun z => absurd z (by decide)) h29 h18 hu1 huf1 f⟩
          · rw [if_neg (by omega)] at elv
            unfold w_X9_leave_34
            refine ⟨fun _ => ?_, fun z => absurd (show (0 : Int32) ≤ 0 by decide) z⟩
            have cd : Cn o p (H1.drop 1) := by
              obtain ⟨c1, c2, c3, c4⟩ := cH1
              rw [ehd] at c1 c2 c3 c4
              exact ⟨(Sd_cons.mp c1).2, (Lz_cons.mp c2).2, (Lp_cons.mp c3).2, (L30_cons.mp c4).2⟩
            refine ih u1 (H1.drop 1) _ S2 ?_ hu1 huf1 elv hR2 (by rw [List.length_drop]; omega) cd hS2 (by rw [f2.2 29 (by decide)]; exact h29) (by rw [f2.2 18 (by decide)]; exact h18) (fr9_tr f (fr9_mono f2 (by decide) (by decide)))
            rw [List.length_append]
            simp only [List.length_singleton]
            omega
        · have hkn : ¬ (nI k : Int32) = -1 := fun z => by
            have := congrArg Int32.toInt z
            rw [nI_toInt (by omega), show (-1 : Int32).toInt = -1 by decide] at this
            omega
          refine ⟨fun _ => ?_, fun z => absurd z hkn⟩
          have el := lv_c1 (o := o) (p := p) (fuel := fuel) (st := st) (u := u1) (R := R1) (t := (pc H1 0, pm H1 0)) (H := H1.drop 1) e
          rw [← ehd] at el
          simp only at el
          rw [el] at elv
          have gg := hGG G hGm
          have bad : ∀ r : Int32, ¬ 0 ≤ r → ∀ S2, K r S2 → w_X9_leave_34 K k2 r S2 := fun r h1 S2 h2 => by
            unfold w_X9_leave_34
            exact ⟨fun z => absurd z h1, fun _ => h2⟩
          refine sp_reduce hp ho4 hR1 hpos hl1 cH1 hk hPG gg.1 gg.2.1 gg.2.2 hd ((f.2 0 (by decide)).trans h0) ((f.2 2 (by decide)).trans h2) h29 ((f.2 10 (by decide)).trans hf) hfb huf1 h18 (fun q1 => ?_) (fun q1 q2 S2 h29' h18' f2 => ?_) (fun q1 q2 q3 S2 h29' h18' f2 => ?_) (fun q1 q2 q3 S2 hR2 h29' h18' f2 => ?_)
          · rw [if_pos q1] at elv
            simp only [elv] at hK
            exact bad _ (by decide) _ (hK S' (fun z => absurd z (by decide)) h29 h18 hu1 huf1 f)
          · rw [if_neg (by omega), if_pos q2] at elv
            simp only [elv] at hK
            exact bad _ (by decide) _ (hK S2 (fun z => absurd z (by decide)) h29' (by rw [h18']; congr 1; omega) (by omega) (by omega) (fr9_tr f (fr9_mono f2 (by decide) (by decide))))
          · rw [if_neg (by omega), q2, if_neg (by decide), if_pos q3] at elv
            simp only [elv] at hK
            exact bad _ (by decide) _ (hK S2 (fun z => absurd z (by decide)) h29' (by rw [h18']; congr 1; omega) (by omega) (by omega) (fr9_tr f (fr9_mono f2 (by decide) (by decide))))
          · rw [if_neg (by omega), q2, if_neg (by decide), if_neg (by omega)] at elv
            unfold w_X9_leave_34
            refine ⟨fun _ => ?_, fun z => absurd (show (0 : Int32) ≤ 0 by decide) z⟩
            exact ih (u1 + 1) _ R1 S2 (by omega) (by omega) (by omega) elv hR2 q3 (red_Cn (by omega) cH1 (ngr q2)) (RS_fr hS1 (f2.2 30 (by decide)) (f2.1 237 (by decide) (by decide)) (f2.1 238 (by decide) (by decide))) h29' (by rw [h18']; congr 1; omega) (fr9_tr f (fr9_mono f2 (by decide) (by decide)))
  refine ⟨2041, loop 2041 u H [] S1 (by simp only [List.length_nil]; omega) (Nat.le_refl _) huf rfl (RM_fr hH (f1.2 20 (by decide)) (f1.1 230 (by decide) (by decide)) (f1.1 231 (by decide) (by decide))) hl cH ⟨by rw [e1, su_s]; rfl, by decide, fun t ht => by cases ht⟩ (by rw [f1.2 29 (by decide)]; exact hu) (by rw [f1.2 18 (by decide), ha]; congr 1; omega) (fr9_mono f1 (by decide) (by decide))⟩
section OPS
variable {N : Nat → Nat} {T : Nat → Option Po} {R : Nat → Nat × Nat} {S : St} {K : Int32 → St → Prop}
def bas (N : Nat → Nat) (T : Nat → Option Po) : List Po := (List.range (N 6)).map (fun i => gt T (25 + i))
theorem bas_len : (bas N T).length = N 6 := by unfold bas; rw [List.length_map, List.length_range]
theorem bas_at {i : Nat} (h : i < N 6) : (bas N T).getD i [] = gt T (25 + i) := by
  unfold bas
  rw [List.getD_eq_getElem?_getD, List.getElem?_map, List.getElem?_range h]
  rfl
theorem bas_some (w : WF N T R) {i : Nat} (h : i < N 6) : T (25 + i) = some (gt T (25 + i)) := by
  have w6 : N 6 ≤ 18 := w.2.2.2.2.2.2.2.1
  obtain ⟨P, hP⟩ := (w.2.2.2.2.2.2.2.2.2.2.2.1 i (by omega)).mp h
  rw [hP, gt_s hP]
theorem bas_GG (w : WF N T R) : GG (N 2) (N 0) (bas N T) ∧ ∀ G ∈ bas N T, GP N G := by
  have w6 : N 6 ≤ 18 := w.2.2.2.2.2.2.2.1
  have hx : ∀ G ∈ bas N T, GP N G ∧ 0 < G.length ∧ pc G 0 = 1 := by
    intro G hG
    unfold bas at hG
    obtain ⟨i, hi, e⟩ := List.mem_map.mp hG
    rw [List.mem_range] at hi
    have hT := bas_some w hi
    rw [e] at hT
    exact ⟨w.2.2.2.2.2.2.2.2.2.2.2.2.1 _ G (by omega) hT, w.2.2.2.2.2.2.2.2.2.2.2.2.2 i G hi hT⟩
  exact ⟨fun G hG => ⟨(hx G hG).1.1, (hx G hG).2⟩, fun G hG => (hx G hG).1⟩
theorem sp_byBasis {K : Unit → St → Prop} {S0 : St} {cs fs : List Nat} (w : WF N T R) (h0 : M9 N T R S0) (f0 : fr9 cs fs S0 S) (hc : ∀ c ∈ cs, 230 ≤ c) (h6 : 6 ∉ fs) (hK : ∀ S', PL S' (bas N T) → fr9 [236] [27] S S' → K () S') : w_X9_byBasis S K := by
  have w6 : N 6 ≤ 18 := w.2.2.2.2.2.2.2.1
  have s6 : S 224 6 = nI (N 6) := by rw [f0.2 6 h6]; exact h0.1 6 (by decide)
  have sp : ∀ k P, k < 43 → T k = some P → PM S k P := fun k P hk hT => PM_fr (h0.2.1 k P hk hT) (f0.1 225 (by decide) (fun z => by have := hc _ z; omega)) (f0.1 226 (by decide) (fun z => by have := hc _ z; omega)) (f0.1 227 (by decide) (fun z => by have := hc _ z; omega))
  unfold w_X9_byBasis
  rw [s6]
  intro S1 e1
  have f1 : fr9 [236] [27] S S1 := by rw [e1]; exact fr9_sf (by decide)
  have loop : ∀ (d t : Nat) (S' : St), t + d = N 6 → fr9 [236] [27] S S' → S' 224 27 = nI (N 6) → (∀ j, j < t → S' 236 j = nI (25 + j)) → q_it (fun _ _ => False) (w_X9_byBasis_10 K) (d + 1) (nI t) S' := by
    intro d
    induction d with
    | zero =>
      intro t S' ht f h27 ha
      rw [q_it_s]
      unfold w_X9_byBasis_10
      rw [f.2 6 (by decide), s6]
      refine pk_le (N 6) t (fun _ => ?_) (fun q => by omega)
      refine hK S' ⟨by rw [bas_len]; exact h27, by rw [bas_len]; exact w6, fun j hj => ?_⟩ f
      rw [bas_len] at hj
      refine ⟨25 + j, by omega, ha j (by omega), ?_⟩
      rw [bas_at hj]
      exact PM_fr (sp (25 + j) _ (by omega) (bas_some w hj)) (f.1 225 (by decide) (by decide)) (f.1 226 (by decide) (by decide)) (f.1 227 (by decide) (by decide))
    | succ d ih =>
      intro t S' ht f h27 ha
      rw [q_it_s]
      generalize q_it (fun _ _ => False) (w_X9_byBasis_10 K) (d + 1) = k2 at ih ⊢
      unfold w_X9_byBasis_10
      rw [f.2 6 (by decide), s6]
      refine pk_le (N 6) t (fun q => by omega) (fun _ => ⟨vp_in_nI (by omega) (by decide), ?_⟩)
      rw [m_rf (by omega), m_lit 25, nI_add]
      intro S3 e3 x1 e4
      rw [m_lit 1, nI_add] at e4
      subst e4
      refine ih (t + 1) S3 (by omega) (fr9_tr f (by rw [e3]; exact fr9_su (by decide) (by decide))) (by rw [e3, su_n _ _ (Or.inl (by decide))]; exact h27) (fun j hj => ?_)
      rw [e3]
      by_cases q : j = t
      · rw [q, su_s]
      · rw [su_n _ _ (Or.inr q)]; exact ha j (by omega)
  exact ⟨N 6 + 1, loop (N 6) 0 S1 (by omega) f1 (by rw [e1, su_s]) (fun j hj => by omega)⟩
def lvr (N : Nat → Nat) (T : Nat → Option Po) (P : Po) : Int32 × Nat × Po := lv (N 2) (N 0) (N 10) (bas N T) 2041 0 P []
/-- used so many -/
def usd (N : Nat → Nat) (u : Nat) : Nat → Nat := nu (nu N 18 (N 18 + u)) 19 u
theorem M9_usd {S' S'' : St} {u : Nat} {cs : List Nat} (h : M9 N T R S) (f : fr9 cs [18, 19, 20, 27, 29, 30] S S') (hc : ∀ c ∈ cs, 230 ≤ c) (h29 : S' 224 29 = nI u) (h18 : S' 224 18 = nI (N 18 + u)) (e : S'' = su S' 224 19 (S' 224 29)) : M9 (usd N u) T R S'' := by
  have fe : ∀ c, 225 ≤ c → c < 230 → S'' c = S c := fun c q1 q2 => by
    rw [e, su_ne _ _ _ (by omega)]
    exact f.1 c (by omega) (fun z => by have := hc c z; omega)
  refine ⟨fun j hj => ?_, fun k P hk hT => PM_fr (h.2.1 k P hk hT) (fe 225 (by decide) (by decide)) (fe 226 (by decide) (by decide)) (fe 227 (by decide) (by decide)), fun k q1 q2 hT => by rw [fe 225 (by decide) (by decide)]; exact h.2.2.1 k q1 q2 hT, fun t ht => ?_⟩
  · unfold usd
    by_cases q : j = 19
    · rw [q, e, su_s, nu_s, h29]
    · rw [e, su_n _ _ (Or.inr q), nu_n q]
      by_cases q2 : j = 18
      · rw [q2, nu_s, h18]
      · rw [nu_n q2, ← h.1 j hj]
        refine f.2 j ?_
        unfold sc9 at hj
        simp only [List.mem_cons, List.not_mem_nil, or_false] at hj ⊢
        omega
  · rw [fe 228 (by decide) (by decide), fe 229 (by decide) (by decide)]
    refine h.2.2.2 t ?_
    unfold usd at ht
    rw [nu_n (by decide), nu_n (by decide)] at ht
    exact ht
end OPS
