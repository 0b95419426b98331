/-! the class: what is left; left, member -/
theorem g_ok {g : Nat} (h : g = 95 ∨ g = 98) : wk g ∧ wk (193 - g) ∧ g ≠ 193 - g ∧ g ≠ 101 ∧ 193 - g ≠ 101 ∧ (193 - g = 95 ∨ 193 - g = 98) ∧ 193 - (193 - g) = g ∧ g < 2 ^ 31 := by
  rcases h with rfl | rfl
  · exact ⟨Or.inr (Or.inr (Or.inl rfl)), Or.inr (Or.inr (Or.inr (Or.inl rfl))), by decide, by decide, by decide, Or.inr rfl, rfl, by decide⟩
  · exact ⟨Or.inr (Or.inr (Or.inr (Or.inl rfl))), Or.inr (Or.inr (Or.inl rfl)), by decide, by decide, by decide, Or.inl rfl, rfl, by decide⟩
/-- the reducer's cells alone change -/
def frL (S S' : St) : Prop := (∀ c, c < 94 ∨ 103 < c → S' c = S c) ∧ S' 94 4 = S 94 4
theorem frL_rf {S : St} : frL S S := ⟨fun _ _ => rfl, rfl⟩
theorem frL_tr {S S' S'' : St} (h : frL S S') (h' : frL S' S'') : frL S S'' := ⟨fun c q => (h'.1 c q).trans (h.1 c q), h'.2.trans h.2⟩
theorem frL_off {q : Nat} {S S' : St} (hq : q = 95 ∨ q = 98 ∨ q = 101) (h : off q S S') : frL S S' := ⟨fun c _ => h c (by omega) (by omega) (by omega), by rw [h 94 (by omega) (by omega) (by omega)]⟩
theorem frL_su {S : St} {k : Nat} {v : Int32} (h : k ≠ 4) : frL S (su S 94 k v) := ⟨fun c q => su_ne _ _ _ (by omega), su_n _ _ (Or.inr (Ne.symm h))⟩
theorem frL_hi {S S' : St} (h : frL S S') : hi S S' := fun c hc => h.1 c (by omega)
theorem frL_PC {S S' : St} {q : Nat} {P : Po} (h : frL S S') (hq : q + 2 < 94 ∨ 103 < q) (hP : PC S q P) : PC S' q P := PC_eq hP (by rw [h.1 q (by omega)]) (h.1 _ (by omega)) (h.1 _ (by omega))
theorem off94 {q : Nat} {S S' : St} (hq : q = 95 ∨ q = 98 ∨ q = 101) (h : off q S S') : S' 94 = S 94 := h 94 (by omega) (by omega) (by omega)
def skip (e : Nat) (Ls : List Po) (k : Nat) : List Po := if k ≤ e then (Ls.drop k).eraseIdx (e - k) else Ls.drop k
theorem skip_at {e k : Nat} {Ls : List Po} (h : k < Ls.length) : skip e Ls k = if k = e then skip e Ls (k + 1) else Ls.getD k [] :: skip e Ls (k + 1) := by
  have e1 : Ls.drop k = Ls.getD k [] :: Ls.drop (k + 1) := by
    rw [List.drop_eq_getElem_cons h, List.getD_eq_getElem?_getD, List.getElem?_eq_getElem h]; rfl
  unfold skip
  by_cases q : k = e
  · rw [if_pos q, if_pos (by omega), if_neg (by omega), e1, show e - k = 0 by omega]; rfl
  · rw [if_neg q]
    by_cases q2 : k ≤ e
    · rw [if_pos q2, if_pos (by omega), e1, show e - k = (e - (k + 1)) + 1 by omega]; rfl
    · rw [if_neg q2, if_neg (by omega), e1]
theorem skip_end {e k : Nat} {Ls : List Po} (h : Ls.length ≤ k) : skip e Ls k = [] := by
  unfold skip
  rw [List.drop_eq_nil_of_le h]
  split <;> rfl
theorem skip_0 {e : Nat} {Ls : List Po} : skip e Ls 0 = Ls.eraseIdx e := by
  unfold skip
  rw [if_pos (Nat.zero_le _), List.drop_zero, Nat.sub_zero]
theorem erase_none {e : Nat} {Ls : List Po} (h : Ls.length ≤ e) : Ls.eraseIdx e = Ls := List.eraseIdx_of_length_le h
theorem pidx_big {b i : Nat} (h : b = 108 ∨ b = 109) : 103 < pidx b i := by
  unfold pidx
  rw [if_neg (by omega)]
  split <;> omega
section LV
variable {rb e : Nat} {Ls : List Po} {x3 : Int32} {S : St}
theorem sp_firstDiv {g : Nat} {t : Te} {H : Po} {K : Int32 → St → Prop} (hr : rb = 108 ∨ rb = 109) (hg : g = 95 ∨ g = 98) (hl : Ls.length ≤ 18) (hx : ∀ k, k < Ls.length → (nI k = x3 ↔ k = e)) (sg : S 94 1 = nI g) (hH : PC S g (t :: H)) (h30 : mle 30 t.2) (hR : ∀ k, k < Ls.length → PC S (pidx rb k) (Ls.getD k []) ∧ 0 < (Ls.getD k []).length ∧ L30 (Ls.getD k []))
    (h0 : fdv t.2 (Ls.eraseIdx e) = none → K (-1) S) (h1 : ∀ k, k < Ls.length → k ≠ e → fdv t.2 (Ls.eraseIdx e) = some (Ls.getD k []) → K (nI k) S) : w_X4_firstDividing rb (nI Ls.length) x3 S K := by
  obtain ⟨w1, -, -, -, -, -, -, g31⟩ := g_ok hg
  have loop : ∀ (d k : Nat), k + d = Ls.length → fdv t.2 (Ls.eraseIdx e) = fdv t.2 (skip e Ls k) → q_it (fun _ _ => False) (w_X4_firstDividing_3 rb (nI Ls.length) x3 K) (d + 1) (nI k) S := by
    intro d
    induction d with
    | zero =>
      intro k hk ek
      rw [q_it_s]
      unfold w_X4_firstDividing_3
      refine pk_le Ls.length k (fun _ => h0 ?_) (fun z => by omega)
      rw [ek, skip_end (by omega)]; rfl
    | succ d ih =>
      intro k hk ek
      have hkl : k < Ls.length := by omega
      obtain ⟨hP, hpos, p30⟩ := hR k hkl
      rw [q_it_s]
      generalize q_it (fun _ _ => False) (w_X4_firstDividing_3 rb (nI Ls.length) x3 K) (d + 1) = k2 at ih ⊢
      unfold w_X4_firstDividing_3 w_X4_firstDividing_38
      rw [skip_at hkl] at ek
      have next : fdv t.2 (Ls.eraseIdx e) = fdv t.2 (skip e Ls (k + 1)) → ∀ x4 : Int32, x4 = nI k + 1 → k2 x4 S := fun z x4 e4 => by
        rw [m_lit 1, nI_add] at e4
        subst e4
        exact ih (k + 1) (by omega) z
      refine pk_le Ls.length k (fun z => by omega) (fun _ => ⟨fun z => next ?_, fun z => ?_⟩)
      · rw [if_pos ((hx k hkl).mp z)] at ek; exact ek
      · have ne : k ≠ e := fun y => z ((hx k hkl).mpr y)
        rw [if_neg ne, fdv_cons] at ek
        rw [m_rf (by omega)]
        refine ⟨vp_in_nI (by omega) (by decide), pidx_P hr (by omega), sp_head hP hpos ?_⟩
        rw [sg, m_rf g31]
        have mk0 : mle 30 (pm (Ls.getD k []) 0) := p30 _ (pc_mem hpos)
        refine ⟨wk_P w1, sp_head hH (Nat.succ_pos _) (sp_divides (mle_mono mk0 (by omega)) (mle_mono h30 (by omega)) (fun y => ⟨fun z => absurd z (by decide), fun _ => h1 k hkl ne ?_⟩) (fun y => ⟨fun _ => next ?_, fun z => absurd rfl z⟩))⟩
        · have y : dv (pm (Ls.getD k []) 0) t.2 := y
          rw [ek, if_pos (dvb_iff.mpr y)]
        · have y : ¬ dv (pm (Ls.getD k []) 0) t.2 := y
          rw [ek, if_neg (fun w => y (dvb_iff.mp w))]
  unfold w_X4_firstDividing
  exact ⟨Ls.length + 1, loop Ls.length 0 (by omega) (by rw [skip_0])⟩
/-- what the reducer holds while it works -/
def LSt (C g u : Nat) (H Rr : Po) (S S1 : St) : Prop := S1 94 1 = nI g ∧ S1 94 2 = nI (193 - g) ∧ PC S1 g H ∧ PC S1 101 Rr ∧ S1 94 5 = nI u ∧ S1 94 6 = nI (C + u) ∧ frL S S1
theorem sp_leave8 {g q o p fuel C u0 : Nat} {P : Po} {K : Int32 → St → Prop} (hr : rb = 108 ∨ rb = 109) (hg : g = 95 ∨ g = 98) (hb : 2 ≤ p ∧ p ≤ 251) (ho4 : o < 4) (hl : Ls.length ≤ 18) (hx : ∀ k, k < Ls.length → (nI k = x3 ↔ k = e)) (hf : fuel ≤ 2000) (hu : u0 ≤ fuel) (sp : S 1 0 = nI p) (so : S 1 2 = nI o) (sf : S 94 4 = nI fuel) (s1 : S 94 1 = nI g) (s2 : S 94 2 = nI (193 - g)) (s5 : S 94 5 = nI u0) (s6 : S 94 6 = nI (C + u0))
    (hq : isP q) (hP : PC S q P) (cP : Cn o p P) (hR : ∀ k, k < Ls.length → PC S (pidx rb k) (Ls.getD k []) ∧ 0 < (Ls.getD k []).length ∧ Cn o p (Ls.getD k []))
    (hK : ∀ S' g', (g' = 95 ∨ g' = 98) → (lv o p fuel (Ls.eraseIdx e) 2041 u0 P []).2.1 ≤ fuel → S' 94 1 = nI g' → S' 94 2 = nI (193 - g') → S' 94 5 = nI (lv o p fuel (Ls.eraseIdx e) 2041 u0 P []).2.1 → S' 94 6 = nI (C + (lv o p fuel (Ls.eraseIdx e) 2041 u0 P []).2.1) → frL S S' → ((lv o p fuel (Ls.eraseIdx e) 2041 u0 P []).1 = 0 → PC S' 101 (lv o p fuel (Ls.eraseIdx e) 2041 u0 P []).2.2) → K (lv o p fuel (Ls.eraseIdx e) 2041 u0 P []).1 S') : w_X4_leave q rb (nI Ls.length) x3 S K := by
  have p101 := isP_c.2.2.2.2.2.1
  have goal : ∀ (g' u : Nat) (H Rr : Po) (S1 : St) (v : Int32), (g' = 95 ∨ g' = 98) → u ≤ fuel → LSt C g' u H Rr S S1 → lv o p fuel (Ls.eraseIdx e) 2041 u0 P [] = (v, u, Rr) → K v S1 := by
    intro g' u H Rr S1 v h1 h2 h3 h4
    have := hK S1 g' h1 (by rw [h4]; exact h2) h3.1 h3.2.1 (by rw [h4]; exact h3.2.2.2.2.1) (by rw [h4]; exact h3.2.2.2.2.2.1) h3.2.2.2.2.2.2 (fun _ => by rw [h4]; exact h3.2.2.2.1)
    rw [h4] at this
    exact this
  have goalF : ∀ (g' u : Nat) (Rr : Po) (S1 : St) (v : Int32), (g' = 95 ∨ g' = 98) → u ≤ fuel → v ≠ 0 → S1 94 1 = nI g' → S1 94 2 = nI (193 - g') → S1 94 5 = nI u → S1 94 6 = nI (C + u) → frL S S1 → lv o p fuel (Ls.eraseIdx e) 2041 u0 P [] = (v, u, Rr) → K v S1 := by
    intro g' u Rr S1 v h1 h2 hv a1 a2 a5 a6 af h4
    have := hK S1 g' h1 (by rw [h4]; exact h2) a1 a2 (by rw [h4]; exact a5) (by rw [h4]; exact a6) af (fun z => by rw [h4] at z; exact absurd z hv)
    rw [h4] at this
    exact this
  have loop : ∀ (st s g' u : Nat) (H Rr : Po) (S1 : St), s + st = 2041 → (g' = 95 ∨ g' = 98) → u ≤ fuel → Cn o p H → LSt C g' u H Rr S S1 → lv o p fuel (Ls.eraseIdx e) 2041 u0 P [] = lv o p fuel (Ls.eraseIdx e) st u H Rr → q_it (fun _ _ => False) (w_X4_leave_19 q rb (nI Ls.length) x3 K) (st + 1) (nI s) S1 := by
    intro st
    induction st with
    | zero =>
      intro s g' u H Rr S1 hs hg' hu' cH h1 el
      rw [q_it_s]
      unfold w_X4_leave_19 w_X4_leave_84
      refine pk_le 2041 s (fun _ => ?_) (fun z => by omega)
      exact goal g' u H Rr S1 0 hg' hu' h1 el
    | succ st ih =>
      intro s g' u H Rr S1 hs hg' hu' cH h1 el
      obtain ⟨w1, w2, n12, n1, n2, hg2, gg, g31⟩ := g_ok hg'
      have ls := h1
      obtain ⟨a1, a2, aH, aR, a5, a6, af⟩ := h1
      have p1 : S1 1 0 = nI p := by rw [af.1 1 (by omega)]; exact sp
      have o1 : S1 1 2 = nI o := by rw [af.1 1 (by omega)]; exact so
      have lH := aH.2.1
      have c3 : (g' = 95 ∨ g' = 98 ∨ g' = 101) := by omega
      have c4 : (193 - g' = 95 ∨ 193 - g' = 98 ∨ 193 - g' = 101) := by omega
      rw [q_it_s]
      generalize q_it (fun _ _ => False) (w_X4_leave_19 q rb (nI Ls.length) x3 K) (st + 1) = k2 at ih ⊢
      unfold w_X4_leave_19 w_X4_leave_84 w_X4_leave_68
      refine pk_le 2041 s (fun z => by omega) (fun _ => ?_)
      rw [a1, m_rf g31, aH.1]
      refine ⟨wk_P w1, ?_⟩
      cases H with
      | nil =>
        refine pk_le 0 0 (fun _ => ?_) (fun z => by omega)
        exact goal g' u [] Rr S1 0 hg' hu' ls el
      | cons t H =>
        have hpos : 0 < (t :: H).length := Nat.succ_pos _
        have t30 : mle 30 t.2 := (L30_cons.mp cH.2.2.2).1
        have tp : t.1 < p := (Lp_cons.mp cH.2.2.1).1
        have cH' : Cn o p H := ⟨(Sd_cons.mp cH.1).2, (Lz_cons.mp cH.2.1).2, (Lp_cons.mp cH.2.2.1).2, (L30_cons.mp cH.2.2.2).2⟩
        have g0 := aH.2.2 0 hpos
        have e0 : pc (t :: H) 0 = t.1 := rfl
        have e1 : pm (t :: H) 0 = t.2 := rfl
        rw [e0, e1] at g0
        have r0 : q_rf 0 = 0 := by decide
        refine pk_le (t :: H).length 0 (fun z => by omega) (fun _ => ?_)
        refine sp_firstDiv (t := t) (H := H) hr hg' hl hx a1 aH t30 (fun k hk => ⟨frL_PC af (Or.inr (pidx_big hr)) (hR k hk).1, (hR k hk).2.1, (hR k hk).2.2.2.2.2⟩) (fun ef => ⟨fun z => absurd rfl z, fun _ => ?_⟩) (fun k hk hne ef => ⟨fun _ => ?_, fun z => ?_⟩)
        · -- the first term goes over
          unfold w_X4_moveHead
          rw [a1, m_rf g31, r0, g0.1, g0.2]
          refine ⟨wk_P w1, ?_⟩
          rw [lv_c0 ef] at el
          refine sp_push aR (fun hl2 S2 h2 o2 _ => ⟨fun _ => ?_, fun z => absurd z (by decide)⟩) (fun hl2 => ⟨fun z => absurd rfl z, fun _ => ?_⟩)
          · rw [if_neg (by omega)] at el
            have c94 := off94 (Or.inr (Or.inr rfl)) o2
            have aH2 := PC_off p101 (wk_P w1) n1 o2 aH
            rw [c94, a1, m_rf g31]
            refine ⟨wk_P w1, sp_dropHead (wk_P w1) aH2 hpos (fun S3 h3 o3 => ⟨fun _ x5 e5 => ?_, fun z => absurd rfl z⟩)⟩
            rw [m_lit 1, nI_add] at e5
            subst e5
            have c94' := off94 c3 o3
            refine ih (s + 1) g' u H (Rr ++ [t]) S3 (by omega) hg' hu' cH' ⟨?_, ?_, h3, PC_off (wk_P w1) p101 (Ne.symm n1) o3 h2, ?_, ?_, frL_tr af (frL_tr (frL_off (Or.inr (Or.inr rfl)) o2) (frL_off c3 o3))⟩ el
            · rw [c94', c94]; exact a1
            · rw [c94', c94]; exact a2
            · rw [c94', c94]; exact a5
            · rw [c94', c94]; exact a6
          · rw [if_pos hl2] at el
            exact ⟨fun z => absurd z (by decide), fun _ => goal g' u (t :: H) Rr S1 (-6) hg' hu' ls el⟩
        · -- a reduction
          have hk18 : k < 18 := by omega
          rw [m_rf (by omega)]
          refine ⟨vp_in_nI hk18 (by decide), pidx_P hr hk18, ?_⟩
          rw [lv_c1 ef] at el
          obtain ⟨hG, hGpos, cG⟩ := hR k hk
          have hG1 := frL_PC af (Or.inr (pidx_big hr)) hG
          have f1 : S1 94 4 = nI fuel := by rw [af.2]; exact sf
          have hd := fdv_dv ef
          obtain ⟨ey, ly⟩ := en_ms hd
          unfold w_X4_lessenBy
          rw [a5, f1]
          refine pk_lt u fuel (fun hlt => ?_) (fun hge => ?_)
          · rw [if_neg (by omega)] at el
            intro S2 f2 S3 f3
            have s26 : S2 94 6 = nI (C + u) := by rw [f2, su_n _ _ (Or.inr (by decide))]; exact a6
            rw [m_lit 1, nI_add] at f2
            rw [s26, m_lit 1, nI_add] at f3
            have e94 : ∀ j, j ≠ 5 → j ≠ 6 → S3 94 j = S1 94 j := fun j h5 h6 => by rw [f3, su_n _ _ (Or.inr h6), f2, su_n _ _ (Or.inr h5)]
            have ec : ∀ c, c ≠ 94 → S3 c = S1 c := fun c hc => by rw [f3, su_ne _ _ _ hc, f2, su_ne _ _ _ hc]
            have b5 : S3 94 5 = nI (u + 1) := by rw [f3, su_n _ _ (Or.inr (by decide)), f2, su_s]
            have b6 : S3 94 6 = nI (C + (u + 1)) := by rw [f3, su_s]; congr 1
            have b1 : S3 94 1 = nI g' := by rw [e94 1 (by decide) (by decide)]; exact a1
            have b2 : S3 94 2 = nI (193 - g') := by rw [e94 2 (by decide) (by decide)]; exact a2
            have bf2 : frL S1 S2 := by rw [f2]; exact frL_su (by decide)
            have bf3 : frL S2 S3 := by rw [f3]; exact frL_su (by decide)
            have bf : frL S S3 := frL_tr af (frL_tr bf2 bf3)
            have bH : PC S3 g' (t :: H) := PC_eq aH (by rw [ec g' (by omega)]) (ec _ (by omega)) (ec _ (by omega))
            have bG : PC S3 (pidx rb k) (Ls.getD k []) := frL_PC bf (Or.inr (pidx_big hr)) hG
            have bR : PC S3 101 Rr := PC_eq aR (by rw [ec 101 (by decide)]) (ec _ (by decide)) (ec _ (by decide))
            have bp : S3 1 0 = nI p := by rw [bf.1 1 (by omega)]; exact sp
            have bo : S3 1 2 = nI o := by rw [bf.1 1 (by omega)]; exact so
            have big := pidx_big (i := k) hr
            rw [b1, b2, m_rf g31, m_rf (by omega)]
            refine ⟨wk_P w1, sp_head bH hpos (sp_head bG hGpos ⟨wk_P w2, ?_⟩)⟩
            have g0' := (bH.2.2 0 hpos).1
            rw [e0] at g0'
            rw [bp, r0, g0', e1, pk_sub (Nat.le_of_lt tp), pk_sub ly, ey]
            refine sp_addMultiple (o := o) (p := p) (wk_P w2) (wk_P w1) (pidx_P hr hk18) n12 (by omega) hb ho4 (by omega) bp bo bH bG cH cG (mle_ms t30) (fun y => ⟨fun z => absurd z (by decide), fun _ => ⟨fun z => absurd z (by decide), fun _ => ?_⟩⟩) (fun y hl2 S4 h4 o4 => ⟨fun _ => ?_, fun z => absurd rfl z⟩) (fun y hl2 S4 o4 => ⟨fun z => absurd z (by decide), fun _ => ⟨fun z => absurd z (by decide), fun _ => ?_⟩⟩)
            · rw [if_pos (grb_iff.mpr y)] at el
              exact goalF g' (u + 1) Rr S3 (-5) hg' (by omega) (by decide) b1 b2 b5 b6 bf el
            · rw [if_neg (fun z => y (grb_iff.mp z)), if_neg (by omega)] at el
              have c94 := off94 c4 o4
              rw [c94, b2, b1, m_rf g31, m_rf (by omega)]
              refine ⟨wk_P w2, fun S5 f5 => ⟨wk_P w1, fun S6 f6 => ⟨fun _ x5 e5 => ?_, fun z => absurd rfl z⟩⟩⟩
              rw [m_lit 1, nI_add] at e5
              subst e5
              have e94' : ∀ j, j ≠ 1 → j ≠ 2 → S6 94 j = S3 94 j := fun j h5 h6 => by rw [f6, su_n _ _ (Or.inr h6), f5, su_n _ _ (Or.inr h5), c94]
              have ec' : ∀ c, c ≠ 94 → S6 c = S4 c := fun c hc => by rw [f6, su_ne _ _ _ hc, f5, su_ne _ _ _ hc]
              have h6 : PC S6 (193 - g') (clean (addT o p (Ls.getD k []) (p - t.1) (ms t.2 (pm (Ls.getD k []) 0)) (t :: H))) := PC_eq h4 (by rw [ec' _ (by omega)]) (ec' _ (by omega)) (ec' _ (by omega))
              have bR4 := PC_off (wk_P w2) p101 (Ne.symm n2) o4 bR
              refine ih (s + 1) (193 - g') (u + 1) _ Rr S6 (by omega) hg2 (by omega) ⟨clean_Sd (addT_Sd cH.1), clean_Lz, clean_Lp (addT_Lp (by omega) cH.2.2.1), clean_L30 (addT_L30 y cH.2.2.2)⟩ ⟨?_, ?_, h6, PC_eq bR4 (by rw [ec' 101 (by decide)]) (ec' _ (by decide)) (ec' _ (by decide)), ?_, ?_, ?_⟩ el
              · rw [f6, su_n _ _ (Or.inr (by decide)), f5, su_s]
              · rw [f6, su_s, gg]
              · rw [e94' 5 (by decide) (by decide)]; exact b5
              · rw [e94' 6 (by decide) (by decide)]; exact b6
              · have bf5 : frL S4 S5 := by rw [f5]; exact frL_su (by decide)
                have bf6 : frL S5 S6 := by rw [f6]; exact frL_su (by decide)
                exact frL_tr bf (frL_tr (frL_off c4 o4) (frL_tr bf5 bf6))
            · rw [if_neg (fun z => y (grb_iff.mp z)), if_pos hl2] at el
              have c94 := off94 c4 o4
              exact goalF g' (u + 1) Rr S4 (-6) hg' (by omega) (by decide) (by rw [c94]; exact b1) (by rw [c94]; exact b2) (by rw [c94]; exact b5) (by rw [c94]; exact b6) (frL_tr bf (frL_off c4 o4)) el
          · rw [if_pos (by omega)] at el
            exact ⟨fun z => absurd z (by decide), fun _ => goalF g' u Rr S1 (-7) hg' hu' (by decide) a1 a2 a5 a6 af el⟩
        · exfalso
          have := congrArg Int32.toInt z
          rw [nI_toInt (by omega), show (-1 : Int32).toInt = -1 by decide] at this
          omega
  obtain ⟨w1, w2, n12, n1, n2, hg2, gg, g31⟩ := g_ok hg
  unfold w_X4_leave
  rw [s1, m_rf g31]
  refine ⟨wk_P w1, sp_copyOf (wk_P w1) hq hP (fun S1 h1 o1 S2 e2 => ?_)⟩
  have c3 : (g = 95 ∨ g = 98 ∨ g = 101) := by omega
  have c94 := off94 c3 o1
  have o2 : off 101 S1 S2 := by rw [e2]; exact off_su
  have c94' := off94 (Or.inr (Or.inr rfl)) o2
  refine ⟨2041 + 1, loop 2041 0 g u0 P [] S2 (by omega) hg hu cP ⟨?_, ?_, PC_off p101 (wk_P w1) n1 o2 h1, ?_, ?_, ?_, frL_tr (frL_off c3 o1) (frL_off (Or.inr (Or.inr rfl)) o2)⟩ rfl⟩
  · rw [c94', c94]; exact s1
  · rw [c94', c94]; exact s2
  · rw [e2]; exact PC_nil (su_s _ _ _ _)
  · rw [c94', c94]; exact s5
  · rw [c94', c94]; exact s6
end LV
section OPC
variable {b g : Nat} {N : Nat → Nat} {T : Nat → Option Po} {R : Nat → Nat × Nat} {S : St} {K : Int32 → St → Prop}
theorem RC_lv {g' u v : Nat} {S' : St} (h : RC b g N T R S) (f : frL S S') (hg : g' = 95 ∨ g' = 98) (s1 : S' 94 1 = nI g') (s2 : S' 94 2 = nI (193 - g')) (s5 : S' 94 5 = nI u) (s6 : S' 94 6 = nI v) : RC b g' (nu (nu N 18 v) 19 u) T R S' := by
  obtain ⟨hb, _, a1, a2, a3, a4, a5, a6, a7, a8⟩ := h
  have hpl : ∀ b, (b = 108 ∨ b = 109) → ∀ k, k < 43 → (pcl b k + 2 < 94 ∨ 103 < pcl b k) := by
    rintro b (rfl | rfl) <;> decide +kernel
  refine ⟨hb, hg, fun x hx => ?_, ⟨by rw [f.1 104 (by omega)]; exact a2.1, by rw [f.1 104 (by omega)]; exact a2.2.1, s1, s2⟩, fun k P hk hT => frL_PC f (hpl b hb k hk) (a3 k P hk hT), fun k hk => by rw [f.1 21 (by omega)]; exact a4 k hk, by rw [f.1 19 (by omega)]; exact a5, frL_PC f (by omega) a6, frL_PC f (by omega) a7, fun t ht => ?_⟩
  · have i5 := scT_i x hx (94, 5, 19) (by decide)
    have i6 := scT_i x hx (94, 6, 18) (by decide)
    by_cases e5 : x.2.2 = 19
    · obtain ⟨e1, e2⟩ := i5.mp e5
      rw [e5, nu_s, e1, e2]; exact s5
    · rw [nu_n e5]
      by_cases e6 : x.2.2 = 18
      · obtain ⟨e1, e2⟩ := i6.mp e6
        rw [e6, nu_s, e1, e2]; exact s6
      · rw [nu_n e6]
        by_cases z : x.1 = 94
        · have : ∀ x ∈ scT, x.1 = 94 → x.2.2 ≠ 19 → x.2.2 ≠ 18 → x.2.1 = 4 := by decide
          have e4 := this x hx z e5 e6
          have := a1 x hx
          rw [z, e4] at this ⊢
          rw [f.2]; exact this
        · have := (scT_c x hx).1
          rw [f.1 x.1 (by omega)]; exact a1 x hx
  · rw [nu_n (by decide), nu_n (by decide)] at ht
    rw [f.1 106 (by omega), f.1 107 (by omega)]
    exact a8 t ht
theorem RC_5 {u : Nat} (h : RC b g N T R S) : RC b g (nu N 19 u) T R (su S 94 5 (nI u)) := RC_nu h (show (94, 5, 19) ∈ scT by decide) (by decide)
theorem nn_18 {u v x : Nat} : nu (nu (nu N 19 x) 18 v) 19 u = nu (nu N 18 v) 19 u := by
  funext i
  unfold nu
  by_cases z : i = 19
  · rw [if_pos z, if_pos z]
  · rw [if_neg z, if_neg z, if_neg z]
/-- what is left by the whole basis, the reducer begun -/
theorem sp_leaveB {q : Nat} {P : Po} (w : WF N T R) (h : RC b g N T R S) (h19 : N 19 = 0) (hq : isP q) (hP : PC S q P) (cP : Cn (N 2) (N 0) P) (hK : ∀ g' S', RC b g' (usd N (lvr N T P).2.1) T R S' → frL S S' → ((lvr N T P).1 = 0 → PC S' 101 (lvr N T P).2.2) → K (lvr N T P).1 S') : w_X4_leave q b (nI (N 6)) (-1) S K := by
  have hb := prm_b w.1
  have w6 : N 6 ≤ 18 := w.2.2.2.2.2.2.2.1
  have hs := h.2.2.1
  have e0 : (bas N T).eraseIdx 18 = bas N T := erase_none (by rw [bas_len]; exact w6)
  have hm1 : (-1 : Int32).toInt = -1 := by decide
  rw [← bas_len (N := N) (T := T)]
  refine sp_leave8 (rb := b) (e := 18) (Ls := bas N T) (g := g) (o := N 2) (p := N 0) (fuel := N 10) (C := N 18) (u0 := 0) h.1 h.2.1 hb w.2.2.1 (by rw [bas_len]; exact w6) (fun k hk => ⟨fun z => ?_, fun z => ?_⟩) w.2.2.2.1 (Nat.zero_le _) (hs (1, 0, 0) (by decide)) (hs (1, 2, 2) (by decide)) (hs (94, 4, 10) (by decide)) h.2.2.2.1.2.2.1 h.2.2.2.1.2.2.2 (by rw [← h19]; exact hs (94, 5, 19) (by decide)) (hs (94, 6, 18) (by decide)) hq hP cP (fun k hk => ?_) (fun S' g' hg' _ t1 t2 t5 t6 f hr => ?_)
  · rw [bas_len] at hk
    have := congrArg Int32.toInt z
    rw [nI_toInt (by omega), hm1] at this
    omega
  · rw [bas_len] at hk; omega
  · rw [bas_len] at hk
    rw [bas_at hk]
    have hd := hd_ok w hk
    exact ⟨RC_row w h hk, hd.2.2.1, hd.2.1.1⟩
  · rw [e0] at t5 t6 hr ⊢
    have r := RC_lv h f hg' t1 t2 t5 t6
    exact hK g' S' r f hr
theorem c_left {x : Int32} (w : WF N T R) (h : RC b g N T R S) (hK : D8 (f_left N T R x) S K) : w_X8_left x S K := by
  have b2 : b < 2 ^ 31 := by have := h.1; omega
  unfold w_X8_left w_X4_begin
  unfold f_left D8 at hK
  refine sp_polyAt w h (fun i P e hii hT gp => ⟨fun z => (by cases z), fun r z => ?_⟩) (fun e => ⟨fun _ => ?_, fun r z => (by cases z)⟩)
  · injection z with z
    subst z
    rw [e] at hK
    simp only [gt_s hT] at hK
    intro S1 e1
    have e1 : S1 = su S 94 5 (nI 0) := e1
    have r1 := RC_5 (u := 0) h
    rw [← e1] at r1
    have i1 : hi S S1 := by rw [e1]; exact hi_su (by decide)
    have w1 : WF (nu N 19 0) T R := WF_nu (by decide) w
    refine sp_isFull r1 (fun e => ⟨fun z => absurd z (by decide), fun _ => ?_⟩) (fun e => ⟨fun _ => ?_, fun z => absurd rfl z⟩)
    · rw [if_pos e] at hK
      exact hK S1 ⟨b, g, r1⟩ i1
    · rw [if_neg e] at hK
      have s6 : S1 104 7 = nI (N 6) := r1.2.2.1 (104, 7, 6) (by decide)
      rw [r1.2.2.2.1.1, m_rf b2, s6]
      refine ⟨pcl_P h.1 hii, h.1, sp_leaveB (N := nu N 19 0) w1 r1 nu_s (pcl_P h.1 hii) (r1.2.2.2.2.1 i P hii hT) gp.1 (fun g' S2 r2 f2 hr => ?_)⟩
      have el : lvr (nu N 19 0) T P = lvr N T P := rfl
      have eu : ∀ u, usd (nu N 19 0) u = usd N u := fun u => nn_18
      rw [el, eu] at r2
      rw [el] at hr ⊢
      have i2 := hi_tr i1 (frL_hi f2)
      refine ⟨fun z => ?_, fun z => ?_⟩
      · rw [if_pos z] at hK
        exact sp_put isP_c.2.2.2.2.2.1 e r2 (hr z) (fun S3 r3 i3 => hK S3 ⟨b, g', r3⟩ (hi_tr i2 i3))
      · rw [if_neg z] at hK
        exact hK S2 ⟨b, g', r2⟩ i2
  · rw [e] at hK
    exact hK S ⟨b, g, h⟩ hi_rf
theorem c_member {x : Int32} (w : WF N T R) (h : RC b g N T R S) (hK : D8 (f_member N T R x) S K) : w_X8_member x S K := by
  have b2 : b < 2 ^ 31 := by have := h.1; omega
  have w13 : N 13 ≤ 1 := w.2.2.2.2.2.2.1
  unfold w_X8_member w_X4_begin
  unfold f_member D8 at hK
  refine sp_polyAt w h (fun i P e hii hT gp => ⟨fun z => (by cases z), fun r z => ?_⟩) (fun e => ⟨fun _ => ?_, fun r z => (by cases z)⟩)
  · injection z with z
    subst z
    rw [e] at hK
    simp only [gt_s hT] at hK
    have s13 : S 104 8 = nI (N 13) := h.2.2.1 (104, 8, 13) (by decide)
    rw [s13]
    refine pk_eq' (j := 0) (by omega) (by decide) (fun q => ?_) (fun q => ?_)
    · rw [if_neg q] at hK
      intro S1 e1
      have e1 : S1 = su S 94 5 (nI 0) := e1
      have r1 := RC_5 (u := 0) h
      rw [← e1] at r1
      have i1 : hi S S1 := by rw [e1]; exact hi_su (by decide)
      have w1 : WF (nu N 19 0) T R := WF_nu (by decide) w
      have s6 : S1 104 7 = nI (N 6) := r1.2.2.1 (104, 7, 6) (by decide)
      rw [r1.2.2.2.1.1, m_rf b2, s6]
      refine ⟨pcl_P h.1 hii, h.1, sp_leaveB (N := nu N 19 0) w1 r1 nu_s (pcl_P h.1 hii) (r1.2.2.2.2.1 i P hii hT) gp.1 (fun g' S2 r2 f2 hr => ?_)⟩
      have el : lvr (nu N 19 0) T P = lvr N T P := rfl
      have eu : ∀ u, usd (nu N 19 0) u = usd N u := fun u => nn_18
      rw [el, eu] at r2
      rw [el] at hr ⊢
      have i2 := hi_tr i1 (frL_hi f2)
      have hk := hK S2 ⟨b, g', r2⟩ i2
      refine ⟨fun z => ?_, fun z => ?_⟩
      · have hR := hr z
        have lR := hR.2.1
        rw [if_pos z] at hk
        rw [hR.1]
        refine pk_eq' (j := 0) (by omega) (by decide) (fun y => ?_) (fun y => ?_)
        · rw [if_neg y] at hk; exact hk
        · rw [if_pos y] at hk; exact hk
      · rw [if_neg z] at hk
        exact hk
    · rw [if_pos q] at hK
      exact hK S ⟨b, g, h⟩ hi_rf
  · rw [e] at hK
    exact hK S ⟨b, g, h⟩ hi_rf
end OPC
