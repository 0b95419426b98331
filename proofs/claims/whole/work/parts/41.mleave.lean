/-! the reference: what is left of the row by places -/
def dvb (x y : Mo) : Bool := decide (x.1 ≤ y.1 ∧ x.2.1 ≤ y.2.1 ∧ x.2.2.1 ≤ y.2.2.1 ∧ x.2.2.2 ≤ y.2.2.2)
theorem dvb_iff {x y : Mo} : dvb x y = true ↔ dv x y := decide_eq_true_iff
def fdv (m : Mo) : List Po → Option Po
  | [] => none
  | G :: L => if dvb (pm G 0) m then some G else fdv m L
theorem fdv_cons {m : Mo} {G : Po} {L : List Po} : fdv m (G :: L) = if dvb (pm G 0) m then some G else fdv m L := rfl
theorem gdrop {L : List Po} {t : Nat} (h : t < L.length) : L.drop t = L.getD t [] :: L.drop (t + 1) := by
  rw [List.drop_eq_getElem_cons h, List.getD_eq_getElem?_getD, List.getElem?_eq_getElem h]
  rfl
theorem gmem {L : List Po} {t : Nat} (h : t < L.length) : L.getD t [] ∈ L := by
  rw [List.getD_eq_getElem?_getD, List.getElem?_eq_getElem h]
  exact List.getElem_mem h
def lv (o p fuel : Nat) (Gs : List Po) : Nat → Nat → Po → Po → Int32 × Nat × Po
  | 0, u, _, R => (0, u, R)
  | _ + 1, u, [], R => (0, u, R)
  | st + 1, u, t :: H, R => match fdv t.2 Gs with
    | none => if R.length = 40 then (-6, u, R) else lv o p fuel Gs st u H (R ++ [t])
    | some G => if u = fuel then (-7, u, R) else if grb G (ms t.2 (pm G 0)) then (-5, u + 1, R)
      else if 40 < (clean (addT o p G (p - t.1) (ms t.2 (pm G 0)) (t :: H))).length then (-6, u + 1, R) else lv o p fuel Gs st (u + 1) (clean (addT o p G (p - t.1) (ms t.2 (pm G 0)) (t :: H))) R
def PL (S : St) (Gs : List Po) : Prop := S 224 27 = nI Gs.length ∧ Gs.length ≤ 18 ∧ ∀ j, j < Gs.length → ∃ k, k < 61 ∧ S 236 j = nI k ∧ PM S k (Gs.getD j [])
def GG (o p : Nat) (Gs : List Po) : Prop := ∀ G ∈ Gs, Cn o p G ∧ 0 < G.length ∧ pc G 0 = 1
theorem PL_fr {S S' : St} {Gs : List Po} (h : PL S Gs) (h0 : S' 224 27 = S 224 27) (h1 : S' 225 = S 225) (h2 : S' 226 = S 226) (h3 : S' 227 = S 227) (h4 : S' 236 = S 236) : PL S' Gs := by
  refine ⟨by rw [h0]; exact h.1, h.2.1, fun j hj => ?_⟩
  obtain ⟨k, a, b, c⟩ := h.2.2 j hj
  exact ⟨k, a, by rw [h4]; exact b, PM_fr c h1 h2 h3⟩
theorem sp_reducer {S : St} {Gs : List Po} {o p : Nat} {m : Mo} {K : Int32 → St → Prop} (h : PL S Gs) (hg : GG o p Gs) (hm : MA S 231 0 m) (m30 : mle 30 m) (h0 : fdv m Gs = none → K (-1) S) (h1 : ∀ G k, fdv m Gs = some G → G ∈ Gs → k < 61 → PM S k G → dv (pm G 0) m → K (nI k) S) : w_X9_reducer S K := by
  have hl := h.2.1
  have loop : ∀ (d t : Nat), t + d = Gs.length → fdv m Gs = fdv m (Gs.drop t) → q_it (fun _ _ => False) (w_X9_reducer_2 K) (d + 1) (nI t) S := by
    intro d
    induction d with
    | zero =>
      intro t ht e
      rw [q_it_s]
      unfold w_X9_reducer_2
      rw [h.1]
      refine pk_le Gs.length t (fun _ => h0 ?_) (fun q => by omega)
      rw [e, List.drop_eq_nil_of_le (by omega)]
      rfl
    | succ d ih =>
      intro t ht e
      have htl : t < Gs.length := by omega
      rw [q_it_s]
      generalize q_it (fun _ _ => False) (w_X9_reducer_2 K) (d + 1) = k2 at ih ⊢
      unfold w_X9_reducer_2
      rw [h.1]
      refine pk_le Gs.length t (fun q => by omega) (fun _ => ⟨vp_in_nI (by omega) (by decide), ?_⟩)
      obtain ⟨k, hk, e1, hP⟩ := h.2.2 t htl
      have gg := hg _ (gmem htl)
      have hP0 := (hP.2.2 0 gg.2.1).2
      have g30 := gg.1.2.2.2 _ (pc_mem gg.2.1)
      rw [m_rf (by omega), e1, mul160]
      rw [gdrop htl, fdv_cons] at e
      refine sp_divides9 (i := 160 * k) (j := 0) (x := pm (Gs.getD t []) 0) (by rw [Nat.mul_zero, Nat.add_zero] at hP0; exact hP0) hm (mle_mono g30 (by omega)) (mle_mono m30 (by omega)) (by rw [al_227]; omega) (by rw [al_231]; omega) (by rw [al_227]; decide) (by rw [al_231]; decide) (fun q => ⟨fun z => absurd z (by decide), fun _ => ?_⟩) (fun q => ⟨fun _ => ?_, fun z => absurd rfl z⟩)
      · rw [if_pos (dvb_iff.mpr q)] at e
        rw [e1]
        exact h1 _ k e (gmem htl) hk hP q
      · rw [if_neg (fun z => q (dvb_iff.mp z))] at e
        intro x1 e2
        rw [m_lit 1, nI_add] at e2
        subst e2
        exact ih (t + 1) (by omega) e
  unfold w_X9_reducer
  exact ⟨Gs.length + 1, loop Gs.length 0 (by omega) rfl⟩
/-- the rest so far -/
def RS (S : St) (R : Po) : Prop := S 224 30 = nI R.length ∧ R.length ≤ 40 ∧ ∀ t, t < R.length → S 237 t = nI (pc R t) ∧ MA S 238 (4 * t) (pm R t)
theorem RS_fr {S S' : St} {R : Po} (h : RS S R) (h0 : S' 224 30 = S 224 30) (h1 : S' 237 = S 237) (h2 : S' 238 = S 238) : RS S' R := by
  refine ⟨by rw [h0]; exact h.1, h.2.1, fun t ht => ?_⟩
  rw [h1]
  exact ⟨(h.2.2 t ht).1, MA_eq (h.2.2 t ht).2 (fun v _ => by rw [h2])⟩
theorem sp_goOver {S : St} {R H : Po} {K : Int32 → St → Prop} (hH : RM S H) (h1 : 0 < H.length) (hl : H.length ≤ 40) (hR : RS S R) (hL : R.length = 40 → K (-6) S) (hK : R.length < 40 → ∀ S', RM S' (H.drop 1) → RS S' (R ++ [(pc H 0, pm H 0)]) → fr9 [230, 231, 237, 238] [20, 30] S S' → K 0 S') : w_X9_goOver S K := by
  have h40 := hR.2.1
  have g0 := hH.2.2 0 h1
  have ga := g0.2
  rw [Nat.mul_zero] at ga
  unfold w_X9_goOver
  rw [hR.1]
  refine (fun (a : ¬ R.length = 40 → _) (b : R.length = 40 → _) => ⟨fun q => a (fun q2 => q (by rw [q2]; rfl)), fun q => b ((m_eq32 (by omega) (by decide)).mp q)⟩) (fun q => ?_) hL
  refine ⟨vp_in_nI (by omega) (by decide), ?_⟩
  have r0 : q_rf 0 = 0 := by decide
  rw [m_rf (by omega), r0, g0.1]
  intro S3 e3
  have f3 : fr9 [237] [] S S3 := by rw [e3]; exact fr9_su (by decide) (by decide)
  refine loop4 (S := S3) (a := 238) (i := 4 * R.length) (g := fun v => nI (ex (pm H 0) v)) ?_ ?_
  · intro v kk hv hkk
    unfold w_X9_goOver_29
    refine pk_le 4 v (fun q => by omega) (fun _ => ?_)
    rw [w4_n _ _ _ _ _ (Or.inl (by decide)), w4_n _ _ _ _ _ (Or.inl (by decide)), f3.2 30 (by decide), hR.1, mul4, nI_add, m_rf (by omega), m_rf (by omega), f3.1 231 (by decide) (by decide)]
    have e1 := ga v hv
    rw [Nat.zero_add] at e1
    rw [e1, w4_s (g := fun v => nI (ex (pm H 0) v))]
    refine ⟨vp_in_nI (by omega) (by decide), vp_in_nI (by omega) (by decide), ?_⟩
    intro S7 e7 x1 e8
    rw [m_lit 1, nI_add] at e8
    subst e7; subst e8
    exact hkk
  · intro kk
    unfold w_X9_goOver_29
    refine pk_le 4 4 (fun _ => ?_) (fun q => by omega)
    have fw : fr9 [237, 238] [] S (w4 S3 238 (4 * R.length) (fun v => nI (ex (pm H 0) v)) 4) := fr9_tr (fr9_mono f3 (by decide) (by decide)) (fr9_w4 (by decide) (by decide))
    intro S4 e4 S5 e5
    rw [fw.2 30 (by decide), hR.1, m_lit 1, nI_add] at e4
    have f4 : fr9 [237, 238] [30] S S4 := fr9_tr (fr9_mono fw (by decide) (by decide)) (by rw [e4]; exact fr9_sf (by decide))
    rw [f4.2 20 (by decide), hH.1] at e5
    have e6 : (nI H.length - 1 : Int32) = nI (H.drop 1).length := by rw [List.length_drop]; exact pk_sub (b := 1) (by omega)
    rw [e6] at e5
    have f5 : fr9 [237, 238] [20, 30] S S5 := fr9_tr (fr9_mono f4 (by decide) (by decide)) (by rw [e5]; exact fr9_sf (by decide))
    have hRS : RS S5 (R ++ [(pc H 0, pm H 0)]) := by
      refine ⟨?_, ?_, fun t ht => ?_⟩
      · rw [e5, su_n _ _ (Or.inr (by decide)), e4, su_s, List.length_append]; rfl
      · rw [List.length_append]; simp; omega
      · rw [List.length_append] at ht
        simp only [List.length_singleton] at ht
        have o5 : ∀ c, c ≠ 224 → S5 c = w4 S3 238 (4 * R.length) (fun v => nI (ex (pm H 0) v)) 4 c := fun c hc => by
          rw [e5, su_ne _ _ _ hc, e4, su_ne _ _ _ hc]
        rw [o5 237 (by decide), w4_n _ _ _ _ _ (Or.inl (by decide))]
        by_cases q : t = R.length
        · rw [q, pc_last, pm_last, e3, su_s]
          exact ⟨rfl, fun v hv => by rw [o5 238 (by decide), w4_at _ _ _ _ hv]⟩
        · rw [pc_app (by omega), pm_app (by omega), e3, su_n _ _ (Or.inr q)]
          have g2 := hR.2.2 t (by omega)
          refine ⟨g2.1, MA_eq g2.2 (fun v hv => ?_)⟩
          rw [o5 238 (by decide), w4_n _ _ _ _ _ (Or.inr (Or.inl (by omega))), f3.1 238 (by decide) (by decide)]
    have loop : ∀ (d t : Nat) (S' : St), t + d = (H.drop 1).length → fr9 [230, 231] [] S5 S' → (∀ j, j < t → S' 230 j = nI (pc (H.drop 1) j) ∧ MA S' 231 (4 * j) (pm (H.drop 1) j)) → (∀ j, t < j → j < H.length → S' 230 j = nI (pc H j) ∧ MA S' 231 (4 * j) (pm H j)) → q_it (fun _ _ => False) (w_X9_goOver_81 K) (d + 1) (nI t) S' := by
      intro d
      induction d with
      | zero =>
        intro t S' ht f ha hb
        rw [q_it_s]
        unfold w_X9_goOver_81
        have e7 : S' 224 20 = nI (H.drop 1).length := by rw [f.2 20 (by decide), e5, su_s]
        have hdl : (H.drop 1).length ≤ 40 := by rw [List.length_drop]; omega
        rw [e7]
        refine pk_le (H.drop 1).length t (fun _ => ?_) (fun q => by omega)
        exact hK (by omega) S' ⟨e7, by omega, fun j hj => ha j (by omega)⟩ (RS_fr hRS (f.2 30 (by decide)) (f.1 237 (by decide) (by decide)) (f.1 238 (by decide) (by decide))) (fr9_tr (fr9_mono f5 (by decide) (by decide)) (fr9_mono f (by decide) (by decide)))
      | succ d ih =>
        intro t S' ht f ha hb
        have htl : t < (H.drop 1).length := by omega
        have hdl : (H.drop 1).length = H.length - 1 := by rw [List.length_drop]
        rw [q_it_s]
        generalize q_it (fun _ _ => False) (w_X9_goOver_81 K) (d + 1) = k2 at ih ⊢
        unfold w_X9_goOver_81
        have e7 : S' 224 20 = nI (H.drop 1).length := by rw [f.2 20 (by decide), e5, su_s]
        rw [e7]
        refine pk_le (H.drop 1).length t (fun q => by omega) (fun _ => ?_)
        have g := hb (t + 1) (by omega) (by omega)
        have gd : pc (H.drop 1) t = pc H (t + 1) := by rw [pc_drop, Nat.add_comm]
        have gd2 : pm (H.drop 1) t = pm H (t + 1) := by rw [pm_drop, Nat.add_comm]
        rw [m_lit 1, nI_add, m_rf (by omega), m_rf (by omega), g.1]
        refine ⟨vp_in_nI (by omega) (by decide), vp_in_nI (by omega) (by decide), ?_⟩
        intro S4' e4'
        subst e4'
        refine loop4 (S := su S' 230 t (nI (pc H (t + 1)))) (a := 231) (i := 4 * t) (g := fun v => nI (ex (pm H (t + 1)) v)) ?_ ?_
        · intro v kk2 hv hkk
          unfold w_X9_goOver_105
          refine pk_le 4 v (fun q => by omega) (fun _ => ?_)
          rw [mul4, m_lit 4, nI_add, nI_add, nI_add, m_rf (by omega), m_rf (by omega), w4_n _ _ _ _ _ (Or.inr (Or.inr (by omega))), su_n _ _ (Or.inl (by decide))]
          have e1 := g.2 v hv
          rw [show 4 * (t + 1) + v = 4 * t + 4 + v by omega] at e1
          rw [e1, w4_s (g := fun v => nI (ex (pm H (t + 1)) v))]
          refine ⟨vp_in_nI (by omega) (by decide), vp_in_nI (by omega) (by decide), ?_⟩
          intro S7 e7 x1 e8
          rw [m_lit 1, nI_add] at e8
          subst e7; subst e8
          exact hkk
        · intro kk2
          unfold w_X9_goOver_105
          refine pk_le 4 4 (fun _ => ?_) (fun q => by omega)
          intro x1 e8
          rw [m_lit 1, nI_add] at e8
          subst e8
          refine ih (t + 1) _ (by omega) (fr9_tr f (fr9_tr (fr9_su (by decide) (by decide)) (fr9_w4 (by decide) (by decide)))) (fun j hj => ?_) (fun j j1 j2 => ?_)
          · rw [w4_n _ _ _ _ _ (Or.inl (by decide))]
            by_cases q : j = t
            · rw [q, su_s, gd, gd2]
              exact ⟨rfl, fun v hv => w4_at _ _ _ _ hv⟩
            · rw [su_n _ _ (Or.inr q)]
              have g2 := ha j (by omega)
              refine ⟨g2.1, MA_eq g2.2 (fun v hv => ?_)⟩
              rw [w4_n _ _ _ _ _ (Or.inr (Or.inl (by omega))), su_n _ _ (Or.inl (by decide))]
          · rw [w4_n _ _ _ _ _ (Or.inl (by decide)), su_n _ _ (Or.inr (by omega))]
            have g2 := hb j (by omega) j2
            refine ⟨g2.1, MA_eq g2.2 (fun v hv => ?_)⟩
            rw [w4_n _ _ _ _ _ (Or.inr (Or.inr (by omega))), su_n _ _ (Or.inl (by decide))]
    refine ⟨(H.drop 1).length + 1, loop (H.drop 1).length 0 S5 (by omega) fr9_rf (fun j hj => by omega) (fun j _ j2 => ?_)⟩
    have g2 := hH.2.2 j j2
    rw [f5.1 230 (by decide) (by decide)]
    exact ⟨g2.1, MA_eq g2.2 (fun v _ => by rw [f5.1 231 (by decide) (by decide)])⟩
theorem sp_reduce {S : St} {H G : Po} {o p k u a fuel : Nat} {K : Int32 → St → Prop} (hp : prm p = true) (ho4 : o < 4) (hH : RM S H) (h1 : 0 < H.length) (hl : H.length ≤ 40) (cH : Cn o p H) (hk : k < 61) (hG : PM S k G) (cG : Cn o p G) (g1 : 0 < G.length) (gc : pc G 0 = 1) (hd : dv (pm G 0) (pm H 0)) (h0 : S 224 0 = nI p) (h2 : S 224 2 = nI o) (hu : S 224 29 = nI u) (hf : S 224 10 = nI fuel) (hfb : fuel ≤ 2000) (huf : u ≤ fuel) (ha : S 224 18 = nI a)
    (hS : u = fuel → K (-7) S) (hg : u < fuel → grb G (ms (pm H 0) (pm G 0)) = true → ∀ S', S' 224 29 = nI (u + 1) → S' 224 18 = nI (a + 1) → fr9 [230, 231, 232, 233] [18, 20, 29] S S' → K (-5) S')
    (hL : u < fuel → grb G (ms (pm H 0) (pm G 0)) = false → 40 < (clean (addT o p G (p - pc H 0) (ms (pm H 0) (pm G 0)) H)).length → ∀ S', S' 224 29 = nI (u + 1) → S' 224 18 = nI (a + 1) → fr9 [230, 231, 232, 233] [18, 20, 29] S S' → K (-6) S')
    (hK : u < fuel → grb G (ms (pm H 0) (pm G 0)) = false → (clean (addT o p G (p - pc H 0) (ms (pm H 0) (pm G 0)) H)).length ≤ 40 → ∀ S', RM S' (clean (addT o p G (p - pc H 0) (ms (pm H 0) (pm G 0)) H)) → S' 224 29 = nI (u + 1) → S' 224 18 = nI (a + 1) → fr9 [230, 231, 232, 233] [18, 20, 29] S S' → K 0 S') : w_X9_reduce (nI k) S K := by
  have hb := prm_b hp
  have hGl := hG.2.1
  have c0 : 0 < pc H 0 := cH.2.1 _ (pc_mem h1)
  have cp : pc H 0 < p := cH.2.2.1 _ (pc_mem h1)
  have m30 : mle 30 (pm H 0) := cH.2.2.2 _ (pc_mem h1)
  unfold w_X9_reduce
  rw [hu, hf]
  refine (fun (a : ¬ u = fuel → _) (b : u = fuel → _) => ⟨fun q => a (fun q2 => q (by rw [q2])), fun q => b ((m_eq32 (by omega) (by omega)).mp q)⟩) (fun q => ?_) hS
  have uf : u < fuel := by omega
  intro S2 e2 S3 e3
  rw [m_lit 1, nI_add] at e2
  have e4 : S2 224 18 = nI a := by rw [e2, su_n _ _ (Or.inr (by decide)), ha]
  rw [e4, m_lit 1, nI_add] at e3
  have f3 : fr9 [] [18, 29] S S3 := by rw [e3, e2]; exact fr9_tr (fr9_sf (by decide)) (fr9_sf (by decide))
  have u3 : S3 224 29 = nI (u + 1) := by rw [e3, su_n _ _ (Or.inr (by decide)), e2, su_s]
  have a3 : S3 224 18 = nI (a + 1) := by rw [e3, su_s]
  have ga := (hH.2.2 0 h1).2
  have gb := (hG.2.2 0 g1).2
  rw [Nat.mul_zero] at ga
  rw [Nat.mul_zero, Nat.add_zero] at gb
  have hdv : ∀ v, v < 4 → ex (pm G 0) v ≤ ex (pm H 0) v := fun v hv => by
    unfold dv at hd
    rcases (show v = 0 ∨ v = 1 ∨ v = 2 ∨ v = 3 by omega) with rfl | rfl | rfl | rfl
    · exact hd.1
    · exact hd.2.1
    · exact hd.2.2.1
    · exact hd.2.2.2
  refine loop4 (S := S3) (a := 233) (i := 0) (g := fun v => nI (ex (ms (pm H 0) (pm G 0)) v)) ?_ ?_
  · intro v kk hv hkk
    unfold w_X9_reduce_36
    refine pk_le 4 v (fun q => by omega) (fun _ => ?_)
    have e5 := ga v hv
    rw [Nat.zero_add] at e5
    rw [mul160, nI_add, m_rf (by omega), m_rf (by omega), w4_n _ _ _ _ _ (Or.inl (by decide)), w4_n _ _ _ _ _ (Or.inl (by decide)), f3.1 231 (by decide) (by decide), f3.1 227 (by decide) (by decide), e5, gb v hv, pk_sub (hdv v hv), ← ex_ms]
    refine ⟨vp_in_nI (by omega) (by decide), vp_in_nI (by omega) (by decide), vp_in_nI hv (by decide), ?_⟩
    have e6 := w4_s S3 233 0 (fun v => nI (ex (ms (pm H 0) (pm G 0)) v)) v
    rw [Nat.zero_add] at e6
    intro S16 e7 x2 e8
    rw [e6] at e7
    rw [m_lit 1, nI_add] at e8
    subst e7; subst e8
    exact hkk
  · intro kk
    unfold w_X9_reduce_36
    refine pk_le 4 4 (fun _ => ?_) (fun q => by omega)
    have fw : fr9 [233] [18, 29] S (w4 S3 233 0 (fun v => nI (ex (ms (pm H 0) (pm G 0)) v)) 4) := fr9_tr (fr9_mono f3 (by decide) (by decide)) (fr9_w4 (by decide) (by decide))
    have w29 : w4 S3 233 0 (fun v => nI (ex (ms (pm H 0) (pm G 0)) v)) 4 224 29 = nI (u + 1) := by rw [w4_n _ _ _ _ _ (Or.inl (by decide))]; exact u3
    have w18 : w4 S3 233 0 (fun v => nI (ex (ms (pm H 0) (pm G 0)) v)) 4 224 18 = nI (a + 1) := by rw [w4_n _ _ _ _ _ (Or.inl (by decide))]; exact a3
    have p0 := (fw.2 0 (by decide)).trans h0
    have o2 := (fw.2 2 (by decide)).trans h2
    have ec := (hG.2.2 0 g1).1
    rw [Nat.add_zero, gc] at ec
    rw [mul40, m_rf (by omega), fw.1 226 (by decide) (by decide), ec]
    refine ⟨vp_in_nI (by omega) (by decide), ?_⟩
    refine sp_inverse9 p0 hp (by decide) (by omega) ?_
    have r0 : q_rf 0 = 0 := by decide
    rw [iv_one hp, r0, fw.1 230 (by decide) (by decide), (hH.2.2 0 h1).1, p0, pk_mul, Nat.mul_one, m_rem (by omega) (by omega) (by omega), Nat.mod_eq_of_lt cp]
    refine ⟨nI_ne0 (by omega) (by omega), ?_⟩
    intro x2 e5
    rw [e5, pk_sub (Nat.le_of_lt cp), m_rem (by omega) (by omega) (by omega), Nat.mod_eq_of_lt (by omega)]
    refine sp_addTimes (p := p) (o := o) hb ho4 hk cG.2.2.2 cG.2.2.1 (by omega) p0 o2 (PM_fr hG (fw.1 225 (by decide) (by decide)) (fw.1 226 (by decide) (by decide)) (fw.1 227 (by decide) (by decide))) MA_w4 (mle_ms m30) (RM_fr hH (fw.2 20 (by decide)) (fw.1 230 (by decide) (by decide)) (fw.1 231 (by decide) (by decide))) (by omega) cH.2.2.2 cH.2.2.1 (fun q => ⟨fun z => absurd rfl z, fun _ => hg uf (grb_iff.mpr q) _ w29 w18 (fr9_mono fw (by decide) (by decide))⟩) (fun q S3' hR3 f3' => ⟨fun _ => ?_, fun z => absurd z (by decide)⟩)
    have ng : grb G (ms (pm H 0) (pm G 0)) = false := Bool.eq_false_iff.mpr (fun z => q (grb_iff.mp z))
    have lp := addT_Lp (o := o) (k := p - pc H 0) (y := ms (pm H 0) (pm G 0)) (B := G) (show 0 < p by omega) cH.2.2.1
    refine sp_clean hR3 (Or.inl (fun t ht => by have := lp t ht; omega)) (fun S6 hR6 f6 => ?_)
    have f16 : fr9 [230, 231, 232, 233] [18, 20, 29] S S6 := fr9_tr (fr9_mono fw (by decide) (by decide)) (fr9_tr (fr9_mono f3' (by decide) (by decide)) (fr9_mono f6 (by decide) (by decide)))
    have z29 : S6 224 29 = nI (u + 1) := by rw [f6.2 29 (by decide), f3'.2 29 (by decide)]; exact w29
    have z18 : S6 224 18 = nI (a + 1) := by rw [f6.2 18 (by decide), f3'.2 18 (by decide)]; exact w18
    rw [hR6.1]
    have hl6 := hR6.2.1
    exact pk_le _ 40 (fun z => hK uf ng z S6 hR6 z29 z18 f16) (fun z => hL uf ng z S6 z29 z18 f16)
