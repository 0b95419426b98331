/-! the class: the S of two, made monic, coming into the basis; spair, enter -/
theorem en_ms {x y : Mo} (h : dv x y) : en y - en x = en (ms y x) ∧ en x ≤ en y := by
  have e := congrArg en (mm_ms h)
  rw [en_mm] at e
  omega
theorem dv_mx {x y : Mo} : dv x (mx x y) ∧ dv y (mx x y) := by
  unfold dv mx
  simp only
  omega
theorem scl_snoc {p a t : Nat} {L : Po} (h : t < L.length) : pc (scl p a L) t = pc L t * a % p ∧ pm (scl p a L) t = pm L t := pc_scl h
theorem sro_eq {o p : Nat} {P Q : Po} (hp : prm p = true) (cP : Cn o p P) (cQ : Cn o p Q) (h2 : 0 < Q.length) (g1 : ¬ gr P (ms (mx (pm P 0) (pm Q 0)) (pm P 0))) (g2 : ¬ gr Q (ms (mx (pm P 0) (pm Q 0)) (pm Q 0))) :
    clean (addT o p Q (p - iv p (pc Q 0)) (ms (mx (pm P 0) (pm Q 0)) (pm Q 0)) (clean (addT o p P (iv p (pc P 0)) (ms (mx (pm P 0) (pm Q 0)) (pm P 0)) []))) = sro o p P Q := by
  have hb := prm_b hp
  have z := cQ.2.1 _ (pc_mem h2)
  have l := cQ.2.2.1 _ (pc_mem h2)
  have ip := iv_pos hp z l
  have il := iv_lt (v := pc Q 0) hp
  have ip : 0 < iv p (pc Q 0) := ip
  have L30n : L30 ([] : Po) := fun _ z => nomatch z
  have Lpn : Lp p ([] : Po) := fun _ z => nomatch z
  have a1 : Sd o (addT o p P (iv p (pc P 0)) (ms (mx (pm P 0) (pm Q 0)) (pm P 0)) []) := addT_Sd Sd_nil
  have a2 : Lp p (addT o p P (iv p (pc P 0)) (ms (mx (pm P 0) (pm Q 0)) (pm P 0)) []) := addT_Lp (by omega) Lpn
  have a3 : L30 (addT o p P (iv p (pc P 0)) (ms (mx (pm P 0) (pm Q 0)) (pm P 0)) []) := addT_L30 g1 L30n
  unfold sro
  rw [Nat.mod_eq_of_lt (show p - iv p (pc Q 0) < p by omega)]
  refine uniq (clean_Sd (addT_Sd (clean_Sd a1))) (clean_Sd (addT_Sd a1)) (clean_L30 (addT_L30 g2 (clean_L30 a3))) (clean_L30 (addT_L30 g2 a3)) (clean_Lp (addT_Lp (by omega) (clean_Lp a2))) (clean_Lp (addT_Lp (by omega) a2)) clean_Lz clean_Lz (fun x => ?_)
  rw [clean_cf, clean_cf, addT_cf g2 (clean_L30 a3), addT_cf g2 a3, clean_cf]
theorem sp_mkS {b q1 q2 q3 o p : Nat} {P Q : Po} {S : St} {K : Int32 → St → Prop} (hb : b = 108 ∨ b = 109) (hw : wk q1) (n17 : q1 ≠ 7) (hq2 : isP q2) (hq3 : isP q3) (n2 : q2 ≠ 7) (n3 : q3 ≠ 7) (n31 : q3 ≠ q1) (hp : prm p = true) (ho4 : o < 4) (sp : S 1 0 = nI p) (so : S 1 2 = nI o) (hP : PC S q2 P) (hQ : PC S q3 Q) (h4 : PC S 4 []) (cP : Cn o p P) (cQ : Cn o p Q) (h1 : 0 < P.length) (h2 : 0 < Q.length)
    (hg : sgr P Q = true → ∀ S', fr1 b S S' → hi S S' → K (-5) S') (h0 : sgr P Q = false → (sro o p P Q).length ≤ 40 → ∀ S', PC S' q1 (sro o p P Q) → fr1 b S S' → hi S S' → K 0 S') (h6 : sgr P Q = false → 40 < (sro o p P Q).length → ∀ S', fr1 b S S' → hi S S' → K (-6) S') : w_X5_makeS q1 q2 q3 S K := by
  have pb := prm_b hp
  have hq1 := wk_P hw
  have w7 : wk 7 := Or.inl rfl
  have mP := cP.2.2.2 _ (pc_mem h1)
  have mQ := cQ.2.2.2 _ (pc_mem h2)
  have mP : mle 30 (pm P 0) := mP
  have mQ : mle 30 (pm Q 0) := mQ
  have lP : pc P 0 < p := cP.2.2.1 _ (pc_mem h1)
  have lQ : pc Q 0 < p := cQ.2.2.1 _ (pc_mem h2)
  have iP := iv_lt (v := pc P 0) hp
  have iQ := iv_lt (v := pc Q 0) hp
  have mM := mle_mx mP mQ
  have r0 : q_rf 0 = 0 := by decide
  obtain ⟨e1, l1⟩ := en_ms (dv_mx (x := pm P 0) (y := pm Q 0)).1
  obtain ⟨e2, l2⟩ := en_ms (dv_mx (x := pm P 0) (y := pm Q 0)).2
  have sg : sgr P Q = (grb P (ms (mx (pm P 0) (pm Q 0)) (pm P 0)) || grb Q (ms (mx (pm P 0) (pm Q 0)) (pm Q 0))) := rfl
  unfold w_X5_makeS
  refine sp_head hP h1 (sp_head hQ h2 (sp_leastMultiple (mle_mono mP (by omega)) (mle_mono mQ (by omega)) ?_))
  rw [r0, (hP.2.2 0 h1).1]
  refine sp_inverse pb sp lP (sp_head hP h1 ?_)
  rw [pk_sub l1, e1]
  refine sp_addMultiple (o := o) (p := p) (k := iv p (pc P 0)) (wk_P w7) isP_c.1 hq2 (by decide) n2 pb ho4 (by omega) sp so h4 hP Cn_nil cP (mle_ms mM) (fun q => ⟨fun z => absurd z (by decide), fun _ => ?_⟩) (fun q hl S1 hS1 o1 => ⟨fun _ => ?_, fun z => absurd rfl z⟩) (fun q hl S1 o1 => ?_)
  · refine hg ?_ S fr1_rf hi_rf
    rw [sg, grb_iff.mpr q]; rfl
  · have a1 : Cn o p (clean (addT o p P (iv p (pc P 0)) (ms (mx (pm P 0) (pm Q 0)) (pm P 0)) [])) := ⟨clean_Sd (addT_Sd Sd_nil), clean_Lz, clean_Lp (addT_Lp (by omega) (fun _ z => nomatch z)), clean_L30 (addT_L30 q (fun _ z => nomatch z))⟩
    have hQ1 := PC_off (wk_P w7) hq3 n3 o1 hQ
    have c1 : S1 1 = S 1 := off_lit (wk_P w7) nP_1 o1
    have f1 := off_fr1 hb w7 o1
    have i1 := hi_off (wk_P w7) o1
    have gn : grb P (ms (mx (pm P 0) (pm Q 0)) (pm P 0)) = false := Bool.eq_false_iff.mpr (fun z => q (grb_iff.mp z))
    rw [(hQ1.2.2 0 h2).1]
    refine sp_inverse pb (by rw [c1]; exact sp) lQ (sp_head hQ1 h2 ?_)
    have ek : (S1 1 0 - nI (pc Q 0 ^ (p - 2) % p)) = nI (p - iv p (pc Q 0)) := by
      rw [c1, sp]
      exact pk_sub (Nat.le_of_lt iQ)
    rw [ek, pk_sub l2, e2]
    refine sp_addMultiple (o := o) (p := p) hq1 (wk_P w7) hq3 (Ne.symm n17) n31 pb ho4 (by omega) (by rw [c1]; exact sp) (by rw [c1]; exact so) hS1 hQ1 a1 cQ (mle_ms mM) (fun q2 => ?_) (fun q2 hl S2 hS2 o2 => ?_) (fun q2 hl S2 o2 => ?_)
    · refine hg ?_ S1 f1 i1
      rw [sg, grb_iff.mpr q2, Bool.or_true]
    · rw [sro_eq hp cP cQ h2 q q2] at hl hS2
      have gn2 : grb Q (ms (mx (pm P 0) (pm Q 0)) (pm Q 0)) = false := Bool.eq_false_iff.mpr (fun z => q2 (grb_iff.mp z))
      exact h0 (by rw [sg, gn, gn2]; rfl) hl S2 hS2 (fr1_tr f1 (off_fr1 hb hw o2)) (hi_tr i1 (hi_off hq1 o2))
    · rw [sro_eq hp cP cQ h2 q q2] at hl
      have gn2 : grb Q (ms (mx (pm P 0) (pm Q 0)) (pm Q 0)) = false := Bool.eq_false_iff.mpr (fun z => q2 (grb_iff.mp z))
      exact h6 (by rw [sg, gn, gn2]; rfl) hl S2 (fr1_tr f1 (off_fr1 hb hw o2)) (hi_tr i1 (hi_off hq1 o2))
  · exfalso
    have a := clean_le (addT o p P (iv p (pc P 0)) (ms (mx (pm P 0) (pm Q 0)) (pm P 0)) [])
    have a2 := addT_len (o := o) (p := p) (k := iv p (pc P 0)) (y := ms (mx (pm P 0) (pm Q 0)) (pm P 0)) (B := P) (L := [])
    have a3 := hP.2.1
    simp only [List.length_nil] at a2
    omega
theorem sp_makeMonic {q p : Nat} {L : Po} {S : St} {K : Unit → St → Prop} (hq : isP q) (hp : prm p = true) (sp : S 1 0 = nI p) (h : PC S q L) (h1 : 0 < L.length) (hL : Lp p L) (hK : ∀ S', PC S' q (scl p (iv p (pc L 0)) L) → off q S S' → K () S') : w_X5_makeMonic q S K := by
  have pb := prm_b hp
  have hl := h.2.1
  have r0 : q_rf 0 = 0 := by decide
  have l0 : pc L 0 < p := hL _ (pc_mem h1)
  have ia := iv_lt (v := pc L 0) hp
  unfold w_X5_makeMonic
  rw [h.1, r0, (h.2.2 0 h1).1]
  refine pk_eq L.length 0 (fun z => by omega) (fun _ => ?_)
  refine pk_eq' (j := 1) (by omega) (by decide) (fun _ => ?_) (fun e => ?_)
  · refine sp_inverse pb sp l0 ?_
    have loop : ∀ (d t : Nat) (S1 : St), t + d = L.length → (∀ i, i < L.length → S1 (q + 1) i = if i < t then nI (pc L i * iv p (pc L 0) % p) else nI (pc L i)) → (∀ c, c ≠ q + 1 → S1 c = S c) → q_it (fun _ _ => False) (w_X5_makeMonic_31 q K (nI (iv p (pc L 0)))) (d + 1) (nI t) S1 := by
      intro d
      induction d with
      | zero =>
        intro t S1 ht hv hc
        rw [q_it_s]
        unfold w_X5_makeMonic_31
        rw [hc q (by omega), h.1]
        refine pk_le L.length t (fun _ => ?_) (fun z => by omega)
        refine hK S1 ⟨?_, ?_, fun i hi => ?_⟩ (fun c _ a _ => hc c a)
        · rw [hc q (by omega), scl_len]; exact h.1
        · rw [scl_len]; exact hl
        · rw [scl_len] at hi
          rw [(pc_scl hi).1, (pc_scl hi).2, hv i hi, if_pos (by omega), hc (q + 2) (by omega)]
          exact ⟨rfl, (h.2.2 i hi).2⟩
      | succ d ih =>
        intro t S1 ht hv hc
        have htl : t < L.length := by omega
        have lt : pc L t < p := hL _ (pc_mem htl)
        have mul := mul_lt' lt ia pb.2
        rw [q_it_s]
        generalize q_it (fun _ _ => False) (w_X5_makeMonic_31 q K (nI (iv p (pc L 0)))) (d + 1) = k2 at ih ⊢
        unfold w_X5_makeMonic_31
        rw [hc q (by omega), h.1]
        refine pk_le L.length t (fun z => by omega) (fun _ => ⟨vp_in_nI (by omega) (by decide), ?_⟩)
        have ev := hv t htl
        rw [if_neg (by omega)] at ev
        have n1 : (1 : Nat) ≠ q + 1 := fun e => nP_1.2.1 (by decide) (by rw [show 1 - 1 = q by omega]; exact hq.2)
        rw [m_rf (by omega), ev, pk_mul]
        refine sp_restOf' (by rw [hc 1 n1]; exact sp) pb (by omega) ?_
        intro S5 e5 x3 e3
        rw [m_lit 1, nI_add] at e3
        subst e3
        refine ih (t + 1) S5 (by omega) (fun i hi => ?_) (fun c hcn => by rw [e5, su_ne _ _ _ hcn]; exact hc c hcn)
        rw [e5, su_at]
        by_cases z : i = t
        · rw [if_pos ⟨rfl, z⟩, if_pos (by omega), z]
        · rw [if_neg (by omega), hv i hi]
          by_cases z2 : i < t
          · rw [if_pos z2, if_pos (by omega)]
          · rw [if_neg z2, if_neg (by omega)]
    exact ⟨L.length + 1, loop L.length 0 S (by omega) (fun i hi => by rw [if_neg (by omega)]; exact (h.2.2 i hi).1) (fun _ _ => rfl)⟩
  · refine hK S ?_ off_rf
    rw [e, iv_one hp, scl_one hL]
    exact h
theorem sp_comeWith {m n : Nat} {S : St} {K : Unit → St → Prop} (hm : m ≤ 18) (hn : n + m ≤ 153) (h : S 105 2 = nI n) (hK : ∀ S', (∀ t, S' 106 t = if n ≤ t ∧ t < n + m then nI (t - n) else S 106 t) → (∀ t, S' 107 t = if n ≤ t ∧ t < n + m then nI m else S 107 t) → S' 105 2 = nI (n + m) → (∀ j, j ≠ 2 → S' 105 j = S 105 j) → (∀ c, c ≠ 105 → c ≠ 106 → c ≠ 107 → S' c = S c) → K () S') : w_X2_comeWith (nI m) S K := by
  have loop : ∀ (d i : Nat) (S1 : St), i + d = m → (∀ t, S1 106 t = if n ≤ t ∧ t < n + i then nI (t - n) else S 106 t) → (∀ t, S1 107 t = if n ≤ t ∧ t < n + i then nI m else S 107 t) → S1 105 2 = nI (n + i) → (∀ j, j ≠ 2 → S1 105 j = S 105 j) → (∀ c, c ≠ 105 → c ≠ 106 → c ≠ 107 → S1 c = S c) → q_it (fun _ _ => False) (w_X2_comeWith_2 (nI m) K) (d + 1) (nI i) S1 := by
    intro d
    induction d with
    | zero =>
      intro i S1 hi h6 h7 h2 hj hc
      rw [q_it_s]
      unfold w_X2_comeWith_2
      refine pk_le m i (fun _ => ?_) (fun z => by omega)
      rw [show i = m by omega] at h6 h7 h2
      exact hK S1 h6 h7 h2 hj hc
    | succ d ih =>
      intro i S1 hi h6 h7 h2 hj hc
      rw [q_it_s]
      generalize q_it (fun _ _ => False) (w_X2_comeWith_2 (nI m) K) (d + 1) = k2 at ih ⊢
      unfold w_X2_comeWith_2
      refine pk_le m i (fun z => by omega) (fun _ => ?_)
      rw [h2]
      refine pk_le 153 (n + i) (fun z => by omega) (fun _ => ⟨vp_in_nI (by omega) (by decide), ?_⟩)
      rw [m_rf (by omega)]
      intro S4 e4
      have g4 : S4 105 2 = nI (n + i) := by rw [e4, su_n _ _ (Or.inl (by decide))]; exact h2
      rw [g4, m_rf (by omega)]
      refine ⟨vp_in_nI (by omega) (by decide), ?_⟩
      intro S6 e6 S7 e7 x2 ex
      have g6 : S6 105 2 = nI (n + i) := by rw [e6, su_n _ _ (Or.inl (by decide))]; exact g4
      rw [g6, m_lit 1, nI_add] at e7
      rw [m_lit 1, nI_add] at ex
      subst ex
      refine ih (i + 1) S7 (by omega) (fun t => ?_) (fun t => ?_) (by rw [e7, su_s]; congr 1) (fun j hj2 => ?_) (fun c c1 c2 c3 => ?_)
      · rw [e7, su_ne _ _ _ (by decide), e6, su_ne _ _ _ (by decide), e4, su_at]
        by_cases z : t = n + i
        · rw [if_pos ⟨rfl, z⟩, if_pos (by omega)]
          congr 1; omega
        · rw [if_neg (by omega), h6 t]
          by_cases z2 : n ≤ t ∧ t < n + i
          · rw [if_pos z2, if_pos (by omega)]
          · rw [if_neg z2, if_neg (by omega)]
      · rw [e7, su_ne _ _ _ (by decide), e6, su_at]
        by_cases z : t = n + i
        · rw [if_pos ⟨rfl, z⟩, if_pos (by omega)]
        · rw [if_neg (by omega), e4, su_ne _ _ _ (by decide), h7 t]
          by_cases z2 : n ≤ t ∧ t < n + i
          · rw [if_pos z2, if_pos (by omega)]
          · rw [if_neg z2, if_neg (by omega)]
      · rw [e7, su_n _ _ (Or.inr hj2), e6, su_ne _ _ _ (by decide), e4, su_ne _ _ _ (by decide)]
        exact hj j hj2
      · rw [e7, su_ne _ _ _ c1, e6, su_ne _ _ _ c3, e4, su_ne _ _ _ c2]
        exact hc c c1 c2 c3
  unfold w_X2_comeWith
  exact ⟨m + 1, loop m 0 S (by omega) (fun t => by rw [if_neg (by omega)]) (fun t => by rw [if_neg (by omega)]) h (fun _ _ => rfl) (fun _ _ _ _ => rfl)⟩
section OPC
variable {b g : Nat} {N : Nat → Nat} {T : Nat → Option Po} {R : Nat → Nat × Nat} {S : St} {K : Int32 → St → Prop}
theorem RC_prs {v : Nat} {R' : Nat → Nat × Nat} {S' : St} (h : RC b g N T R S) (h2 : S' 105 2 = nI v) (hc : ∀ c, c ≠ 105 → c ≠ 106 → c ≠ 107 → S' c = S c) (hR : ∀ t, t < v → S' 106 t = nI (R' t).1 ∧ S' 107 t = nI (R' t).2) : RC b g (nu N 7 v) T R' S' := by
  obtain ⟨hb, hg, a1, a2, a3, a4, a5, a6, a7, a8⟩ := h
  have hPC : ∀ q P, isP q → PC S q P → PC S' q P := fun q P hq hP => by
    have k := hq.2
    have n1 : ∀ c, notP c → q ≠ c ∧ q + 1 ≠ c ∧ q + 2 ≠ c := fun c hn => ⟨fun e => hn.1 (by rw [← e]; exact k), fun e => hn.2.1 (by omega) (by rw [← e, Nat.add_sub_cancel]; exact k), fun e => hn.2.2 (by omega) (by rw [← e, Nat.add_sub_cancel]; exact k)⟩
    obtain ⟨-, -, p5, p6, p7, -⟩ := nP_c
    obtain ⟨x1, x2, x3⟩ := n1 _ p5
    obtain ⟨y1, y2, y3⟩ := n1 _ p6
    obtain ⟨z1, z2, z3⟩ := n1 _ p7
    exact PC_eq hP (by rw [hc q x1 y1 z1]) (hc _ x2 y2 z2) (hc _ x3 y3 z3)
  refine ⟨hb, hg, fun x hx => ?_, ?_, fun i P hi hT => hPC _ P (pcl_P hb hi) (a3 i P hi hT), fun i hi => by rw [hc 21 (by decide) (by decide) (by decide)]; exact a4 i hi, by rw [hc 19 (by decide) (by decide) (by decide)]; exact a5, hPC 13 _ isP_c.2.2.2.1 a6, hPC 4 _ isP_c.1 a7, fun t ht => hR t (by rw [nu_s] at ht; exact ht)⟩
  · have i := scT_i x hx (105, 2, 7) (by decide)
    by_cases e : x.2.2 = 7
    · obtain ⟨e1, e2⟩ := i.mp e
      rw [e, nu_s, e1, e2]
      exact h2
    · have ne : x.1 ≠ 105 := fun e1 => by
        have : ∀ x ∈ scT, x.1 = 105 → x.2.2 = 7 := by decide
        exact e (this x hx e1)
      have := (scT_c x hx).1
      rw [nu_n e, hc x.1 ne (by omega) (by omega)]
      exact a1 x hx
  · rw [hc 104 (by decide) (by decide) (by decide), hc 94 (by decide) (by decide) (by decide)]
    exact a2
theorem hi_prs {S' : St} (hc : ∀ c, c ≠ 105 → c ≠ 106 → c ≠ 107 → S' c = S c) : hi S S' := fun c h => hc c (by omega) (by omega) (by omega)
/-- one comes into the basis -/
theorem sp_come8 {q : Nat} {L : Po} (hp : prm (N 0) = true) (h6 : N 6 < 18) (h7 : N 7 ≤ 136) (h : RC b g N T R S) (hq : isP q) (hP : PC S q L) (h1 : 0 < L.length) (hL : Lp (N 0) L) (hK : ∀ S', RC b g (cmN N) (cmT N T L) (cmR N R) S' → hi S S' → K (nI (N 6)) S') : w_X0_take q S K := by
  have hb := h.1
  have s6 : S 104 7 = nI (N 6) := h.2.2.1 (104, 7, 6) (by decide)
  have s7 : S 105 2 = nI (N 7) := h.2.2.1 (105, 2, 7) (by decide)
  have s0 : S 1 0 = nI (N 0) := h.2.2.1 (1, 0, 0) (by decide)
  have sb := h.2.2.2.1.1
  have b2 : b < 2 ^ 31 := by omega
  have hr := pidx_P hb h6
  unfold w_X0_take w_X0_isFull
  rw [s6]
  refine pk_lt (N 6) 18 (fun _ => ⟨fun _ => ?_, fun z => absurd rfl z⟩) (fun z => by omega)
  intro x2 e2
  rw [s6] at e2
  subst e2
  rw [sb, m_rf b2, m_rf (by omega)]
  refine ⟨hb, vp_in_nI h6 (by decide), hr, sp_copyOf hr hq hP (fun S1 hP1 o1 => ?_)⟩
  have c104 : S1 104 = S 104 := off_lit hr nP_c.2.1 o1
  rw [c104, sb, m_rf b2]
  refine ⟨hb, hr, sp_makeMonic hr hp (by rw [off_lit hr nP_1 o1]; exact s0) hP1 h1 hL (fun S2 hP2 o2 => ?_)⟩
  intro S3 e3
  have o12 := off_tr o1 o2
  rw [← pcl_b] at hP2 o12
  have r1 := RC_lay h (k := 25 + N 6) (by omega) (Or.inr (Or.inl (by omega))) hP2 o12
  have t6 : S2 104 7 = nI (N 6) := r1.2.2.1 (104, 7, 6) (by decide)
  rw [t6, m_lit 1, nI_add] at e3
  have r2 := RC_nu (v := N 6 + 1) r1 (show (104, 7, 6) ∈ scT by decide) (by decide)
  rw [← e3] at r2
  have t7 : S3 105 2 = nI (N 7) := by
    have := r2.2.2.1 (105, 2, 7) (by decide)
    rw [nu_n (by decide)] at this
    exact this
  refine sp_comeWith (m := N 6) (n := N 7) (by omega) (by omega) t7 (fun S4 g6 g7 g2 gj gc => ?_)
  have r3 := RC_prs (R' := cmR N R) r2 g2 gc (fun t ht => by
    have old := r2.2.2.2.2.2.2.2.2.2 t
    rw [nu_n (by decide)] at old
    unfold cmR
    rw [g6, g7]
    by_cases z : t < N 7
    · have y : ¬ (N 7 ≤ t ∧ t < N 7 + N 6) := by omega
      simp only [if_neg y, if_pos z]
      exact old z
    · have y : N 7 ≤ t ∧ t < N 7 + N 6 := by omega
      simp only [if_pos y, if_neg z]
      exact ⟨trivial, trivial⟩)
  have en : nu (nu N 6 (N 6 + 1)) 7 (N 7 + N 6) = cmN N := by
    funext i
    unfold cmN nu
    by_cases z : i = 7
    · rw [if_pos z, if_neg (by omega), if_pos z]
    · rw [if_neg z]
      by_cases z2 : i = 6
      · rw [if_pos z2, if_pos z2]
      · rw [if_neg z2, if_neg z2, if_neg z]
  rw [en] at r3
  exact hK S4 r3 (hi_tr (hi_off (pcl_P hb (by omega)) o12) (hi_tr (by rw [e3]; exact hi_su (by decide)) (hi_prs gc)))
theorem sp_come8F {q : Nat} (h6 : N 6 = 18) (h : RC b g N T R S) (hK : K (-4) S) : w_X0_take q S K := by
  have s6 : S 104 7 = nI (N 6) := h.2.2.1 (104, 7, 6) (by decide)
  unfold w_X0_take w_X0_isFull
  rw [s6, h6]
  refine pk_lt 18 18 (fun z => by omega) (fun _ => ⟨fun z => absurd z (by decide), fun _ => hK⟩)
theorem c_enter {x : Int32} (w : WF N T R) (h : RC b g N T R S) (hK : D8 (f_enter N T R x) S K) : w_X8_enter x S K := by
  have w6 : N 6 ≤ 18 := w.2.2.2.2.2.2.2.1
  have s6 : S 104 7 = nI (N 6) := h.2.2.1 (104, 7, 6) (by decide)
  unfold w_X8_enter w_X8_enter_17
  unfold f_enter D8 at hK
  refine sp_polyAt w h (fun i P e hi hT gp => ⟨fun z => (by cases z), fun r z => ?_⟩) (fun e => ⟨fun _ => ?_, fun r z => (by cases z)⟩)
  · injection z with z
    subst z
    rw [e] at hK
    simp only [gt_s hT] at hK
    have hP := h.2.2.2.2.1 i P hi hT
    have hl := hP.2.1
    refine ⟨pcl_P h.1 hi, ?_⟩
    rw [hP.1]
    refine pk_eq' (j := 0) (by omega) (by decide) (fun q => ?_) (fun q => ?_)
    · rw [if_neg q] at hK
      unfold w_X0_isFull
      rw [s6]
      refine pk_lt (N 6) 18 (fun q2 => ⟨fun _ S9 e9 => ?_, fun z => absurd rfl z⟩) (fun q2 => ⟨fun z => absurd z (by decide), fun _ => ?_⟩)
      · rw [if_neg (by omega)] at hK
        have r1 := RC_nu (v := 0) h (show (104, 8, 13) ∈ scT by decide) (by decide)
        have e9 : S9 = su S 104 8 (nI 0) := e9
        rw [← e9] at r1
        have n0 : nu N 13 0 0 = N 0 := nu_n (by decide)
        have n6 : nu N 13 0 6 = N 6 := nu_n (by decide)
        have n7 : nu N 13 0 7 = N 7 := nu_n (by decide)
        have c1 : cmN (nu N 13 0) = nu (cmN N) 13 0 := by
          funext j
          unfold cmN
          rw [n6, n7]
          unfold nu
          by_cases z : j = 6
          · rw [if_pos z, if_neg (by omega), if_pos z]
          · rw [if_neg z]
            by_cases z2 : j = 7
            · rw [if_pos z2, if_neg (by omega), if_neg z, if_pos z2]
            · rw [if_neg z2]
              by_cases z3 : j = 13
              · rw [if_pos z3, if_pos z3]
              · rw [if_neg z3, if_neg z3, if_neg z, if_neg z2]
        have c2 : cmT (nu N 13 0) T P = cmT N T P := by unfold cmT; rw [n6, n0]
        have c3 : cmR (nu N 13 0) R = cmR N R := by unfold cmR; rw [n6, n7]
        have hP9 : PC S9 (pcl b i) P := r1.2.2.2.2.1 i P hi hT
        refine sp_come8 (by rw [n0]; exact w.1) (by rw [n6]; exact q2) (by rw [n7]; exact (n7_le w).2 (by omega)) r1 (pcl_P h.1 hi) hP9 (by omega) (by rw [n0]; exact gp.1.2.2.1) (fun S2 r2 i2 => ?_)
        rw [c1, c2, c3] at r2
        rw [n6]
        exact hK S2 ⟨b, g, r2⟩ (hi_tr (by rw [e9]; exact hi_su (by decide)) i2)
      · rw [if_pos (by omega)] at hK
        exact hK S ⟨b, g, h⟩ hi_rf
    · rw [if_pos q] at hK
      exact hK S ⟨b, g, h⟩ hi_rf
  · rw [e] at hK
    exact hK S ⟨b, g, h⟩ hi_rf
theorem c_spair {x y : Int32} (w : WF N T R) (h : RC b g N T R S) (hK : D8 (f_spair N T R x y) S K) : w_X8_spair x y S K := by
  have s0 : S 1 0 = nI (N 0) := h.2.2.1 (1, 0, 0) (by decide)
  have s2 : S 1 2 = nI (N 2) := h.2.2.1 (1, 2, 2) (by decide)
  unfold w_X8_spair w_X8_spair_37
  unfold f_spair D8 at hK
  refine sp_polyAt w h (fun i P e hi hT gp => ⟨fun z => (by cases z), fun r z => ?_⟩) (fun e => ⟨fun _ => ?_, fun r z => (by cases z)⟩)
  · injection z with z
    subst z
    rw [e] at hK
    refine sp_polyAt w h (fun j Q e' hj hT' gq => ⟨fun z => (by cases z), fun r z => ?_⟩) (fun e' => ⟨fun _ => ?_, fun r z => (by cases z)⟩)
    · injection z with z
      subst z
      rw [e'] at hK
      simp only [gt_s hT, gt_s hT'] at hK
      have hP := h.2.2.2.2.1 i P hi hT
      have hQ := h.2.2.2.2.1 j Q hj hT'
      have lP := hP.2.1
      have lQ := hQ.2.1
      refine ⟨pcl_P h.1 hi, ?_⟩
      rw [hP.1, hQ.1]
      refine pk_eq P.length 0 (fun q => ?_) (fun q => ⟨pcl_P h.1 hj, ?_⟩)
      · rw [if_pos q] at hK
        exact hK S ⟨b, g, h⟩ hi_rf
      rw [if_neg q] at hK
      refine pk_eq' (j := 0) (by omega) (by decide) (fun q2 => ?_) (fun q2 => ?_)
      · rw [if_neg q2] at hK
        refine sp_isFull h (fun e => ⟨fun z => absurd z (by decide), fun _ => ?_⟩) (fun e => ⟨fun _ => ?_, fun z => absurd rfl z⟩)
        · rw [if_pos e] at hK
          exact hK S ⟨b, g, h⟩ hi_rf
        · rw [if_neg e] at hK
          have h16 : wk 16 := Or.inr (Or.inl rfl)
          have h7 : wk 7 := Or.inl rfl
          unfold shv at hK
          refine sp_mkS h.1 h16 (by decide) (pcl_P h.1 hi) (pcl_P h.1 hj) (pcl_wk h.1 hi h7) (pcl_wk h.1 hj h7) (pcl_wk h.1 hj h16) w.1 w.2.2.1 s0 s2 hP hQ h.2.2.2.2.2.2.2.2.1 gp.1 gq.1 (by omega) (by omega) (fun z S1 f1 i1 => ?_) (fun z hl S1 hS1 f1 i1 => ?_) (fun z hl S1 f1 i1 => ?_)
          · rw [if_pos z] at hK
            exact c_no (by decide) (hK S1 ⟨b, g, RC_fr h f1⟩ i1)
          · rw [if_neg (by rw [z]; decide), if_pos hl] at hK
            exact c_res e (RC_fr h f1) hS1 (fun S2 h2 i2 => hK S2 h2 (hi_tr i1 i2))
          · rw [if_neg (by rw [z]; decide), if_neg (by omega)] at hK
            exact c_no (by decide) (hK S1 ⟨b, g, RC_fr h f1⟩ i1)
      · rw [if_pos q2] at hK
        exact hK S ⟨b, g, h⟩ hi_rf
    · rw [e'] at hK
      exact hK S ⟨b, g, h⟩ hi_rf
  · rw [e] at hK
    exact sp_polyAt w h (fun j Q _ _ _ _ => ⟨fun z => (by cases z), fun _ _ => hK S ⟨b, g, h⟩ hi_rf⟩) (fun _ => ⟨fun _ => hK S ⟨b, g, h⟩ hi_rf, fun _ _ => hK S ⟨b, g, h⟩ hi_rf⟩)
end OPC
