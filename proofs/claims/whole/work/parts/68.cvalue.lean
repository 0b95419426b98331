/-! the class: value, compare, zeros, digest, without -/
theorem tv_n {p n : Nat} {pt : Nat → Nat} {t : Te} (hp : 0 < p) (h : t.1 < p) (hv : ∀ v, n ≤ v → v < 4 → ex t.2 v = 0) : ∀ d, n + d ≤ 4 → tvF p pt t (n + d) = tvF p pt t n
  | 0, _ => rfl
  | d + 1, hd => by
    have ih := tv_n (pt := pt) hp h hv d (by omega)
    show tvF p pt t (n + d) * pt (n + d) ^ ex t.2 (n + d) % p = _
    rw [hv (n + d) (by omega) (by omega), Nat.pow_zero, Nat.mul_one, Nat.mod_eq_of_lt (tv_lt hp h _), ih]
theorem RC_row {b g : Nat} {N : Nat → Nat} {T : Nat → Option Po} {R : Nat → Nat × Nat} {S : St} (w : WF N T R) (h : RC b g N T R S) {i : Nat} (hi : i < N 6) : PC S (pidx b i) (gt T (25 + i)) := by
  have w6 : N 6 ≤ 18 := w.2.2.2.2.2.2.2.1
  have := h.2.2.2.2.1 (25 + i) _ (by omega) (hd_ok w hi).1
  rw [pcl_b] at this
  exact this
theorem sp_valueAtPoint {S : St} {P : Po} {p n q : Nat} {pt : Nat → Nat} {K : Int32 → St → Prop} (hb : 2 ≤ p ∧ p ≤ 251) (hn : n ≤ 4) (hp : S 1 0 = nI p) (h1 : S 1 1 = nI n) (hP : PC S q P) (h30 : L30 P) (hpP : Lp p P) (hV : Vn n P) (hpt : ∀ v, v < n → S 2 v = nI (pt v) ∧ pt v < p) (hK : K (nI (vlF p pt P)) S) : w_X5_valueAtPoint q S K := by
  have hl := hP.2.1
  have loop : ∀ (d t : Nat), t + d = P.length → q_it (fun _ _ _ => False) (w_X5_valueAtPoint_4 q K) (d + 1) (nI (vlF p pt (P.take t))) (nI t) S := by
    intro d
    induction d with
    | zero =>
      intro t ht
      rw [q_it_s]
      unfold w_X5_valueAtPoint_4
      rw [hP.1]
      refine pk_le P.length t (fun _ => ?_) (fun z => by omega)
      rw [List.take_of_length_le (by omega)]
      exact hK
    | succ d ih =>
      intro t ht
      have htl : t < P.length := by omega
      have g := hP.2.2 t htl
      have m30 : mle 30 (pm P t) := h30 _ (pc_mem htl)
      have lp : pc P t < p := hpP _ (pc_mem htl)
      have e4 := tv_n (pt := pt) (n := n) (t := (pc P t, pm P t)) (show 0 < p by omega) lp (hV _ (pc_mem htl)) (4 - n) (by omega)
      rw [show n + (4 - n) = 4 by omega] at e4
      have vl := vl_lt (pt := pt) (show 0 < p by omega) (P.take t)
      rw [q_it_s]
      generalize q_it (fun _ _ _ => False) (w_X5_valueAtPoint_4 q K) (d + 1) = k2 at ih ⊢
      unfold w_X5_valueAtPoint_4
      rw [hP.1]
      refine pk_le P.length t (fun z => by omega) (fun _ => ⟨vp_in_nI (by omega) (by decide), ?_⟩)
      intro x4 ex4
      rw [m_rf (by omega), g.1] at ex4
      subst ex4
      have inner : ∀ (d v : Nat), v + d = n → q_it (fun _ _ _ => False) (w_X5_valueAtPoint_23 q K k2 (nI (vlF p pt (P.take t))) (nI t)) (d + 1) (nI (tvF p pt (pc P t, pm P t) v)) (nI v) S := by
        intro d
        induction d with
        | zero =>
          intro v hv
          rw [q_it_s]
          unfold w_X5_valueAtPoint_23
          rw [h1]
          refine pk_le n v (fun _ => ?_) (fun z => by omega)
          have tl := tv_lt (pt := pt) (t := (pc P t, pm P t)) (show 0 < p by omega) lp v
          rw [nI_add]
          refine sp_restOf' hp hb (by omega) ?_
          intro x3 e3
          rw [m_lit 1, nI_add] at e3
          subst e3
          have go := ih (t + 1) (by omega)
          rw [vl_snoc htl, e4] at go
          rw [show v = n by omega]
          exact go
        | succ d ih2 =>
          intro v hv
          have hvn : v < n := by omega
          have tl := tv_lt (pt := pt) (t := (pc P t, pm P t)) (show 0 < p by omega) lp v
          have el := ex_le m30 v
          obtain ⟨s2, l2⟩ := hpt v hvn
          rw [q_it_s]
          generalize q_it (fun _ _ _ => False) (w_X5_valueAtPoint_23 q K k2 (nI (vlF p pt (P.take t))) (nI t)) (d + 1) = k3 at ih2 ⊢
          unfold w_X5_valueAtPoint_23
          rw [h1]
          refine pk_le n v (fun z => by omega) (fun _ => ⟨vp_in_nI (by omega) (by decide), vp_in_nI (by omega) (by decide), ?_⟩)
          rw [m_rf (by omega), m_rf (by omega), g.2, s2]
          refine sp_exponentOf (mle_mono m30 (by omega)) (by omega) (sp_power hb hp l2 (by omega) ?_)
          have pl := Nat.mod_lt (pt v ^ ex (pm P t) v) (show p > 0 by omega)
          have mul := mul_lt' tl pl hb.2
          rw [pk_mul]
          refine sp_restOf' hp hb (by omega) ?_
          intro x5 e5
          rw [m_lit 1, nI_add] at e5
          subst e5
          have go := ih2 (v + 1) (by omega)
          have ev : tvF p pt (pc P t, pm P t) (v + 1) = tvF p pt (pc P t, pm P t) v * (pt v ^ ex (pm P t) v % p) % p := by
            show tvF p pt (pc P t, pm P t) v * pt v ^ ex (pm P t) v % p = _
            rw [Nat.mul_mod, Nat.mod_eq_of_lt tl]
          rw [ev] at go
          exact go
      exact ⟨n + 1, inner n 0 (by omega)⟩
  unfold w_X5_valueAtPoint
  refine ⟨P.length + 1, ?_⟩
  have := loop P.length 0 (by omega)
  rw [List.take_zero] at this
  exact this
theorem sp_setPoint {S : St} {p v : Nat} {x : Int32} {K : Unit → St → Prop} (hb : 2 ≤ p ∧ p ≤ 251) (hv : v < 4) (hp : S 1 0 = nI p) (hK : ∀ S', S' = su S 2 v (nI (rs p x)) → K () S') : w_X5_setPoint (nI v) x S K := by
  unfold w_X5_setPoint
  refine sp_restOf hp hb ⟨vp_in_nI hv (by decide), fun S4 e4 => hK S4 ?_⟩
  rw [e4, m_rf (by omega)]
theorem sp_comparePolys {S : St} {P Q : Po} {o q1 q2 : Nat} {K : Int32 → St → Prop} (ho4 : o < 4) (ho : S 1 2 = nI o) (hP : PC S q1 P) (hQ : PC S q2 Q) (p30 : L30 P) (q30 : L30 Q) (p251 : Lp 251 P) (q251 : Lp 251 Q) (hK : K (cmpP o P Q) S) : w_X5_comparePolys q1 q2 S K := by
  have lP := hP.2.1
  have lQ := hQ.2.1
  unfold w_X5_comparePolys
  rw [hP.1, hQ.1]
  refine sp_min (by omega) (by omega) ?_
  have loop : ∀ (d t : Nat), t + d = min P.length Q.length → cmpP o P Q = cmpP o (P.drop t) (Q.drop t) → q_it (fun _ _ => False) (w_X5_comparePolys_15 q1 q2 K (nI (min P.length Q.length))) (d + 1) (nI t) S := by
    intro d
    induction d with
    | zero =>
      intro t ht e
      rw [q_it_s]
      unfold w_X5_comparePolys_15
      refine pk_le (min P.length Q.length) t (fun _ => ?_) (fun z => by omega)
      rw [hP.1, hQ.1]
      refine sp_compare (by omega) (by omega) ?_
      have e2 : P.drop t = [] ∨ Q.drop t = [] := by
        rcases (show P.length ≤ t ∨ Q.length ≤ t by omega) with z | z
        · exact Or.inl (List.drop_eq_nil_of_le z)
        · exact Or.inr (List.drop_eq_nil_of_le z)
      rw [e, cmp_end e2, List.length_drop, List.length_drop] at hK
      have e3 : cmpN P.length Q.length = if P.length - t = Q.length - t then 0 else if Q.length - t ≤ P.length - t then 1 else -1 := by
        unfold cmpN
        by_cases z : P.length < Q.length
        · rw [if_pos z, if_neg (by omega), if_neg (by omega)]
        · rw [if_neg z]
          by_cases z2 : P.length = Q.length
          · rw [if_pos z2, if_pos (by omega)]
          · rw [if_neg z2, if_neg (by omega), if_pos (by omega)]
      rw [e3]
      exact hK
    | succ d ih =>
      intro t ht e
      have tP : t < P.length := by omega
      have tQ : t < Q.length := by omega
      have gP := hP.2.2 t tP
      have gQ := hQ.2.2 t tQ
      have mP : mle 30 (pm P t) := p30 _ (pc_mem tP)
      have mQ : mle 30 (pm Q t) := q30 _ (pc_mem tQ)
      have cP : pc P t < 251 := p251 _ (pc_mem tP)
      have cQ : pc Q t < 251 := q251 _ (pc_mem tQ)
      have eP := en_lt mP (by decide)
      have eQ := en_lt mQ (by decide)
      rw [drop_cons tP, drop_cons tQ, cmp_cons] at e
      simp only at e
      rw [q_it_s]
      generalize q_it (fun _ _ => False) (w_X5_comparePolys_15 q1 q2 K (nI (min P.length Q.length))) (d + 1) = k2 at ih ⊢
      unfold w_X5_comparePolys_15
      refine pk_le (min P.length Q.length) t (fun z => by omega) (fun _ => ⟨vp_in_nI (by omega) (by decide), ?_⟩)
      rw [m_rf (by omega), gP.1, gP.2, gQ.1, gQ.2]
      refine pk_eq (en (pm P t)) (en (pm Q t)) (fun z => ?_) (fun z => ?_)
      · have em : pm P t = pm Q t := en_inj (mle_mono mP (by omega)) (mle_mono mQ (by omega)) z
        rw [em, if_neg (by omega), if_neg (by omega)] at e
        refine pk_eq (pc P t) (pc Q t) (fun z2 => ?_) (fun z2 => ?_)
        · rw [if_neg (by omega), if_neg (by omega)] at e
          intro x4 e4
          rw [m_lit 1, nI_add] at e4
          subst e4
          exact ih (t + 1) (by omega) e
        · refine sp_compare (by omega) (by omega) ?_
          rw [e] at hK
          unfold cmpN
          by_cases z3 : pc P t < pc Q t
          · rw [if_pos z3] at hK ⊢; exact hK
          · rw [if_neg z3, if_pos (by omega)] at hK
            rw [if_neg z3, if_neg z2]; exact hK
      · have b1 := mk_lt (o := o) (mle_mono mP (show 30 ≤ 60 by omega))
        have b2 := mk_lt (o := o) (mle_mono mQ (show 30 ≤ 60 by omega))
        have ne : mk o (pm P t) ≠ mk o (pm Q t) := fun y => z (by rw [mk_inj (o := o) (mle_mono mP (by omega)) (mle_mono mQ (by omega)) y])
        refine sp_rank (mle_mono mP (by omega)) ho ho4 ?_
        rw [gQ.2]
        refine sp_rank (mle_mono mQ (by omega)) ho ho4 (sp_compare (by omega) (by omega) ?_)
        rw [e] at hK
        unfold cmpN
        by_cases z3 : mk o (pm P t) < mk o (pm Q t)
        · rw [if_pos z3] at hK ⊢; exact hK
        · rw [if_neg z3, if_pos (by omega)] at hK
          rw [if_neg z3, if_neg ne]; exact hK
  exact ⟨min P.length Q.length + 1, loop (min P.length Q.length) 0 (by omega) (by rw [List.drop_zero, List.drop_zero])⟩
theorem paF_st {p v : Nat} (h : 2500 < paF p v) : ∀ d, paF p (v + d) = paF p v
  | 0 => rfl
  | d + 1 => by
    have ih := paF_st h d
    show (if 2500 < paF p (v + d) then paF p (v + d) else paF p (v + d) * p) = _
    rw [ih, if_pos h]
theorem sp_pointsUpTo {S : St} {p n : Nat} {K : Int32 → St → Prop} (hb : 2 ≤ p ∧ p ≤ 251) (hn : n ≤ 4) (hp : S 1 0 = nI p) (h1 : S 1 1 = nI n) (hK : K (nI (paF p n)) S) : w_X5_pointsUpTo 2500 S K := by
  have loop : ∀ (d v : Nat), v + d = n → q_it (fun _ _ _ => False) (w_X5_pointsUpTo_4 2500 K) (d + 1) (nI (paF p v)) (nI v) S := by
    intro d
    induction d with
    | zero =>
      intro v hv
      rw [q_it_s]
      unfold w_X5_pointsUpTo_4 w_X5_pointsUpTo_30
      rw [h1]
      refine pk_le n v (fun _ => ?_) (fun z => by omega)
      rw [show v = n by omega]
      exact hK
    | succ d ih =>
      intro v hv
      have l := paF_le hb v
      rw [q_it_s]
      generalize q_it (fun _ _ _ => False) (w_X5_pointsUpTo_4 2500 K) (d + 1) = k2 at ih ⊢
      unfold w_X5_pointsUpTo_4 w_X5_pointsUpTo_30
      rw [h1]
      refine pk_le n v (fun z => by omega) (fun _ => ?_)
      refine pk_lt 2500 (paF p v) (fun z => ?_) (fun z => ?_)
      · have := paF_st z (d + 1)
        rw [hv] at this
        rw [this] at hK
        exact hK
      · intro x2 e2 x3 e3
        rw [hp, pk_mul] at e2
        rw [m_lit 1, nI_add] at e3
        subst e2; subst e3
        have go := ih (v + 1) (by omega)
        have e : paF p (v + 1) = paF p v * p := by
          show (if 2500 < paF p v then paF p v else paF p v * p) = _
          rw [if_neg (by omega)]
        rw [e] at go
        exact go
  unfold w_X5_pointsUpTo
  exact ⟨n + 1, loop n 0 (by omega)⟩
/-- only the point's cell changes -/
def fr2 (S S' : St) : Prop := ∀ c, c ≠ 2 → S' c = S c
theorem fr2_su {S : St} {k : Nat} {v : Int32} : fr2 S (su S 2 k v) := fun _ h => su_ne _ _ _ h
theorem fr2_tr {S S' S'' : St} (h : fr2 S S') (h' : fr2 S' S'') : fr2 S S'' := fun c q => (h' c q).trans (h c q)
theorem fr2_fr1 {b : Nat} {S S' : St} (hb : b = 108 ∨ b = 109) (h : fr2 S S') : fr1 b S S' := fun c hc => h c (fun e => by rw [e, (kp_c hb).2.2.1] at hc; cases hc)
theorem fr2_hi {S S' : St} (h : fr2 S S') : hi S S' := fun c hc => h c (by omega)
theorem sp_setPointNumber {S : St} {p n k : Nat} {K : Unit → St → Prop} (hb : 2 ≤ p ∧ p ≤ 251) (hn : n ≤ 4) (hk : k < 2 ^ 31) (hp : S 1 0 = nI p) (h1 : S 1 1 = nI n) (hK : ∀ S', (∀ v, v < n → S' 2 v = nI (dgp p k v)) → fr2 S S' → K () S') : w_X5_setPointNumber (nI k) S K := by
  have loop : ∀ (d v : Nat) (S1 : St), v + d = n → (∀ u, u < v → S1 2 u = nI (dgp p k u)) → fr2 S S1 → q_it (fun _ _ _ => False) (w_X5_setPointNumber_4 (nI k) K) (d + 1) (nI (k / p ^ v)) (nI v) S1 := by
    intro d
    induction d with
    | zero =>
      intro v S1 hv hu hf
      rw [q_it_s]
      unfold w_X5_setPointNumber_4
      rw [hf 1 (by decide), h1]
      refine pk_le n v (fun _ => ?_) (fun z => by omega)
      rw [show v = n by omega] at hu
      exact hK S1 hu hf
    | succ d ih =>
      intro v S1 hv hu hf
      have kl : k / p ^ v < 2 ^ 31 := Nat.lt_of_le_of_lt (Nat.div_le_self _ _) hk
      have ml := Nat.mod_lt (k / p ^ v) (show p > 0 by omega)
      rw [q_it_s]
      generalize q_it (fun _ _ _ => False) (w_X5_setPointNumber_4 (nI k) K) (d + 1) = k2 at ih ⊢
      unfold w_X5_setPointNumber_4
      rw [hf 1 (by decide), h1]
      refine pk_le n v (fun z => by omega) (fun _ => ?_)
      rw [hp]
      refine ⟨nI_ne0 (by omega) (by omega), ?_⟩
      rw [m_rem kl (by omega) (by omega)]
      refine sp_setPoint hb (by omega) (by rw [hf 1 (by decide)]; exact hp) (fun S2 e2 => ?_)
      have f2 : fr2 S S2 := fr2_tr hf (by rw [e2]; exact fr2_su)
      rw [f2 1 (by decide), hp]
      refine ⟨nI_ne0 (by omega) (by omega), ?_⟩
      intro x2 ex x3 e3
      rw [pk_div kl (by omega) (by omega), Nat.div_div_eq_div_mul, ← Nat.pow_succ] at ex
      rw [m_lit 1, nI_add] at e3
      subst ex; subst e3
      refine ih (v + 1) S2 (by omega) (fun u hu2 => ?_) f2
      rw [e2, su_at]
      by_cases z : u = v
      · rw [if_pos ⟨rfl, z⟩, rs_nI (by omega), Nat.mod_mod, z]; rfl
      · rw [if_neg (by omega)]; exact hu u (by omega)
  unfold w_X5_setPointNumber
  refine ⟨n + 1, ?_⟩
  have := loop n 0 S (by omega) (fun u hu => by omega) (fun _ _ => rfl)
  rw [Nat.pow_zero, Nat.div_one] at this
  exact this
theorem sp_digestOf {S : St} {P : Po} {q n : Nat} {h : Int64} {K : Int64 → St → Prop} (hn : n ≤ 4) (h1 : S 1 1 = nI n) (hP : PC S q P) (h30 : L30 P) (hK : K (dgP n h P) S) : w_X8_digestOf h q S K := by
  have hl := hP.2.1
  unfold w_X8_digestOf
  rw [hP.1]
  intro y4 e4
  have loop : ∀ (d t : Nat) (y : Int64), t + d = P.length → dgP n h P = (P.drop t).foldl (dgT n) y → q_it (fun _ _ _ => False) (w_X8_digestOf_16 h q K) (d + 1) y (nI t) S := by
    intro d
    induction d with
    | zero =>
      intro t y ht ey
      rw [q_it_s]
      unfold w_X8_digestOf_16
      rw [hP.1]
      refine pk_le P.length t (fun _ => ?_) (fun z => by omega)
      rw [List.drop_eq_nil_of_le (by omega)] at ey
      rw [ey] at hK
      exact hK
    | succ d ih =>
      intro t y ht ey
      have htl : t < P.length := by omega
      have g := hP.2.2 t htl
      have m30 : mle 30 (pm P t) := h30 _ (pc_mem htl)
      rw [q_it_s]
      generalize q_it (fun _ _ _ => False) (w_X8_digestOf_16 h q K) (d + 1) = k2 at ih ⊢
      unfold w_X8_digestOf_16
      rw [hP.1]
      refine pk_le P.length t (fun z => by omega) (fun _ => ⟨vp_in_nI (by omega) (by decide), ?_⟩)
      rw [m_rf (by omega), g.1]
      intro y4 e4
      subst e4
      have inner : ∀ (d v : Nat), v + d = n → q_it (fun _ _ _ => False) (w_X8_digestOf_45 h q K k2 (nI t)) (d + 1) (dgE (pm P t) (31 * y + (nI (pc P t)).toInt64) v) (nI v) S := by
        intro d
        induction d with
        | zero =>
          intro v hv
          rw [q_it_s]
          unfold w_X8_digestOf_45
          rw [h1]
          refine pk_le n v (fun _ => ?_) (fun z => by omega)
          intro x6 e6
          rw [m_lit 1, nI_add] at e6
          subst e6
          refine ih (t + 1) _ (by omega) ?_
          rw [drop_cons htl, List.foldl_cons] at ey
          rw [show v = n by omega]
          exact ey
        | succ d ih2 =>
          intro v hv
          rw [q_it_s]
          generalize q_it (fun _ _ _ => False) (w_X8_digestOf_45 h q K k2 (nI t)) (d + 1) = k3 at ih2 ⊢
          unfold w_X8_digestOf_45
          rw [h1]
          refine pk_le n v (fun z => by omega) (fun _ => ⟨vp_in_nI (by omega) (by decide), ?_⟩)
          rw [m_rf (by omega), g.2]
          refine sp_exponentOf (mle_mono m30 (by omega)) (by omega) ?_
          intro y6 e6 x7 e7
          rw [m_lit 1, nI_add] at e7
          subst e6; subst e7
          exact ih2 (v + 1) (by omega)
      exact ⟨n + 1, inner n 0 (by omega)⟩
  exact ⟨P.length + 1, loop P.length 0 y4 (by omega) (by rw [List.drop_zero, e4]; rfl)⟩
theorem sp_hasOne {S : St} {P : Po} {q k : Nat} {K : Int32 → St → Prop} (hk4 : k ≤ 4) (hP : PC S q P) (h30 : L30 P) (h0 : sP k P = 0 → K 0 S) (h1 : sP k P ≠ 0 → K 1 S) : w_X0_hasOneOfFirst q (nI k) S K := by
  have hl := hP.2.1
  have mono : ∀ t, t ≤ P.length → sP k (P.take t) ≠ 0 → sP k P ≠ 0 := by
    have step : ∀ d t, t + d = P.length → sP k (P.take t) ≠ 0 → sP k P ≠ 0 := by
      intro d
      induction d with
      | zero =>
        intro t ht z
        rw [List.take_of_length_le (by omega)] at z
        exact z
      | succ d ih =>
        intro t ht z
        refine ih (t + 1) (by omega) ?_
        rw [sP_snoc (by omega)]
        omega
    exact fun t ht => step (P.length - t) t (by omega)
  have loop : ∀ (d t : Nat), t + d = P.length → sP k (P.take t) = 0 → q_it (fun _ _ => False) (w_X0_hasOneOfFirst_2 q (nI k) K) (d + 1) (nI t) S := by
    intro d
    induction d with
    | zero =>
      intro t ht z
      rw [q_it_s]
      unfold w_X0_hasOneOfFirst_2
      rw [hP.1]
      refine pk_le P.length t (fun _ => ?_) (fun z => by omega)
      rw [List.take_of_length_le (by omega)] at z
      exact h0 z
    | succ d ih =>
      intro t ht z
      have htl : t < P.length := by omega
      have g := hP.2.2 t htl
      have m30 : mle 30 (pm P t) := h30 _ (pc_mem htl)
      rw [q_it_s]
      generalize q_it (fun _ _ => False) (w_X0_hasOneOfFirst_2 q (nI k) K) (d + 1) = k2 at ih ⊢
      unfold w_X0_hasOneOfFirst_2
      rw [hP.1]
      refine pk_le P.length t (fun z => by omega) (fun _ => ?_)
      have smono : ∀ e v, v + e = k → sE (pm P t) v ≤ sE (pm P t) k := by
        intro e
        induction e with
        | zero => intro v hv; rw [show v = k by omega]; exact Nat.le_refl _
        | succ e ihe =>
          intro v hv
          have a := ihe (v + 1) (by omega)
          have b : sE (pm P t) (v + 1) = sE (pm P t) v + ex (pm P t) v := rfl
          omega
      have inner : ∀ (d v : Nat), v + d = k → sE (pm P t) v = 0 → q_it (fun _ _ => False) (w_X0_hasOneOfFirst_12 q (nI k) K k2 (nI t)) (d + 1) (nI v) S := by
        intro d
        induction d with
        | zero =>
          intro v hv y
          rw [q_it_s]
          unfold w_X0_hasOneOfFirst_12
          refine pk_le k v (fun _ x2 e2 => ?_) (fun z => by omega)
          rw [m_lit 1, nI_add] at e2
          subst e2
          refine ih (t + 1) (by omega) ?_
          rw [sP_snoc htl, z, ← show v = k by omega, y]
        | succ d ih2 =>
          intro v hv y
          have el := ex_le m30 v
          rw [q_it_s]
          generalize q_it (fun _ _ => False) (w_X0_hasOneOfFirst_12 q (nI k) K k2 (nI t)) (d + 1) = k3 at ih2 ⊢
          unfold w_X0_hasOneOfFirst_12
          refine pk_le k v (fun z => by omega) (fun _ => ⟨vp_in_nI (by omega) (by decide), ?_⟩)
          rw [m_rf (by omega), g.2]
          refine sp_exponentOf (mle_mono m30 (by omega)) (by omega) ?_
          have es : sE (pm P t) (v + 1) = sE (pm P t) v + ex (pm P t) v := rfl
          refine pk_le (ex (pm P t) v) 0 (fun q x3 e3 => ?_) (fun q => ?_)
          · rw [m_lit 1, nI_add] at e3
            subst e3
            exact ih2 (v + 1) (by omega) (by omega)
          · refine h1 (mono (t + 1) (by omega) ?_)
            have := smono d (v + 1) (by omega)
            rw [sP_snoc htl]
            omega
      exact ⟨k + 1, inner k 0 (by omega) rfl⟩
  unfold w_X0_hasOneOfFirst
  exact ⟨P.length + 1, loop P.length 0 (by omega) (by rw [List.take_zero]; rfl)⟩
section OPC
variable {b g : Nat} {N : Nat → Nat} {T : Nat → Option Po} {R : Nat → Nat × Nat} {S : St} {K : Int32 → St → Prop}
theorem c_value {a x y z u : Int32} (w : WF N T R) (h : RC b g N T R S) (hK : D8 (f_value N T R a x y z u) S K) : w_X8_value a x y z u S K := by
  have hb := prm_b w.1
  have wn := w.2.1
  have s0 : S 1 0 = nI (N 0) := h.2.2.1 (1, 0, 0) (by decide)
  have s1 : S 1 1 = nI (N 1) := h.2.2.1 (1, 1, 1) (by decide)
  unfold w_X8_value
  unfold f_value D8 at hK
  refine sp_polyAt w h (fun i P e hi hT gp => ⟨fun z => (by cases z), fun r z => ?_⟩) (fun e => ⟨fun _ => ?_, fun r z => (by cases z)⟩)
  · injection z with z
    subst z
    rw [e] at hK
    simp only [gt_s hT] at hK
    refine sp_setPoint (v := 0) hb (by decide) s0 (fun S1 e1 => ?_)
    have f1 : fr2 S S1 := by rw [e1]; exact fr2_su
    refine sp_setPoint (v := 1) hb (by decide) (by rw [f1 1 (by decide)]; exact s0) (fun S2 e2 => ?_)
    have f2 : fr2 S S2 := fr2_tr f1 (by rw [e2]; exact fr2_su)
    refine sp_setPoint (v := 2) hb (by decide) (by rw [f2 1 (by decide)]; exact s0) (fun S3 e3 => ?_)
    have f3 : fr2 S S3 := fr2_tr f2 (by rw [e3]; exact fr2_su)
    refine sp_setPoint (v := 3) hb (by decide) (by rw [f3 1 (by decide)]; exact s0) (fun S4 e4 => ?_)
    have f4 : fr2 S S4 := fr2_tr f3 (by rw [e4]; exact fr2_su)
    have h4 := RC_fr h (fr2_fr1 h.1 f4)
    have hpt : ∀ v, v < N 1 → S4 2 v = nI (pt4 (N 0) x y z u v) ∧ pt4 (N 0) x y z u v < N 0 := fun v hv => by
      rcases (show v = 0 ∨ v = 1 ∨ v = 2 ∨ v = 3 by omega) with rfl | rfl | rfl | rfl
      · refine ⟨?_, rs_lt (by omega) x⟩
        rw [e4, su_n _ _ (Or.inr (by decide)), e3, su_n _ _ (Or.inr (by decide)), e2, su_n _ _ (Or.inr (by decide)), e1, su_s]; rfl
      · refine ⟨?_, rs_lt (by omega) y⟩
        rw [e4, su_n _ _ (Or.inr (by decide)), e3, su_n _ _ (Or.inr (by decide)), e2, su_s]; rfl
      · refine ⟨?_, rs_lt (by omega) z⟩
        rw [e4, su_n _ _ (Or.inr (by decide)), e3, su_s]; rfl
      · refine ⟨?_, rs_lt (by omega) u⟩
        rw [e4, su_s]; rfl
    refine ⟨pcl_P h.1 hi, sp_valueAtPoint hb (by omega) (by rw [f4 1 (by decide)]; exact s0) (by rw [f4 1 (by decide)]; exact s1) (h4.2.2.2.2.1 i P hi hT) gp.1.2.2.2 gp.1.2.2.1 gp.2.2 hpt ?_⟩
    exact hK S4 ⟨b, g, h4⟩ (fr2_hi f4)
  · rw [e] at hK
    exact hK S ⟨b, g, h⟩ hi_rf
theorem c_compare {x y : Int32} (w : WF N T R) (h : RC b g N T R S) (hK : D8 (f_compare N T R x y) S K) : w_X8_compare x y S K := by
  have hb := prm_b w.1
  have s2 : S 1 2 = nI (N 2) := h.2.2.1 (1, 2, 2) (by decide)
  unfold w_X8_compare w_X8_compare_22
  unfold f_compare D8 at hK
  refine sp_polyAt w h (fun i P e hi hT gp => ⟨fun z => (by cases z), fun r z => ?_⟩) (fun e => ⟨fun _ => ?_, fun r z => (by cases z)⟩)
  · injection z with z
    subst z
    rw [e] at hK
    refine sp_polyAt w h (fun j Q e' hj hT' gq => ⟨fun z => (by cases z), fun r z => ?_⟩) (fun e' => ⟨fun _ => ?_, fun r z => (by cases z)⟩)
    · injection z with z
      subst z
      rw [e'] at hK
      simp only [gt_s hT, gt_s hT'] at hK
      refine ⟨pcl_P h.1 hi, pcl_P h.1 hj, sp_comparePolys w.2.2.1 s2 (h.2.2.2.2.1 i P hi hT) (h.2.2.2.2.1 j Q hj hT') gp.1.2.2.2 gq.1.2.2.2 (fun t ht => ?_) (fun t ht => ?_) (hK S ⟨b, g, h⟩ hi_rf)⟩
      · have := gp.1.2.2.1 t ht; omega
      · have := gq.1.2.2.1 t ht; omega
    · rw [e'] at hK
      exact hK S ⟨b, g, h⟩ hi_rf
  · rw [e] at hK
    exact sp_polyAt w h (fun j Q _ _ _ _ => ⟨fun z => (by cases z), fun _ _ => hK S ⟨b, g, h⟩ hi_rf⟩) (fun _ => ⟨fun _ => hK S ⟨b, g, h⟩ hi_rf, fun _ _ => hK S ⟨b, g, h⟩ hi_rf⟩)
theorem sp_isZero {k : Nat} (w : WF N T R) (h : RC b g N T R S) (hpt : ∀ v, v < N 1 → S 2 v = nI (dgp (N 0) k v)) (h1 : zb N T k = true → K 1 S) (h0 : zb N T k = false → K 0 S) : w_X0_isZeroAtPoint S K := by
  have hb := prm_b w.1
  have wn := w.2.1
  have w6 : N 6 ≤ 18 := w.2.2.2.2.2.2.2.1
  have s0 : S 1 0 = nI (N 0) := h.2.2.1 (1, 0, 0) (by decide)
  have s1 : S 1 1 = nI (N 1) := h.2.2.1 (1, 1, 1) (by decide)
  have s6 : S 104 7 = nI (N 6) := h.2.2.1 (104, 7, 6) (by decide)
  have sb := h.2.2.2.1.1
  have b2 : b < 2 ^ 31 := by have := h.1; omega
  have loop : ∀ (d i : Nat), i + d = N 6 → (∀ j, j < i → vlF (N 0) (dgp (N 0) k) (gt T (25 + j)) = 0) → q_it (fun _ _ => False) (w_X0_isZeroAtPoint_2 K) (d + 1) (nI i) S := by
    intro d
    induction d with
    | zero =>
      intro i hi hj
      rw [q_it_s]
      unfold w_X0_isZeroAtPoint_2
      rw [s6]
      refine pk_le (N 6) i (fun _ => h1 ?_) (fun z => by omega)
      unfold zb
      rw [List.all_eq_true]
      exact fun j hj2 => decide_eq_true (hj j (by rw [List.mem_range] at hj2; omega))
    | succ d ih =>
      intro i hi hj
      have hil : i < N 6 := by omega
      obtain ⟨_, gp, _⟩ := hd_ok w hil
      have vl := vl_lt (pt := dgp (N 0) k) (show 0 < N 0 by omega) (gt T (25 + i))
      rw [q_it_s]
      generalize q_it (fun _ _ => False) (w_X0_isZeroAtPoint_2 K) (d + 1) = k2 at ih ⊢
      unfold w_X0_isZeroAtPoint_2
      rw [s6]
      refine pk_le (N 6) i (fun z => by omega) (fun _ => ?_)
      rw [sb, m_rf b2, m_rf (by omega)]
      refine ⟨h.1, vp_in_nI (by omega) (by decide), pidx_P h.1 (by omega), sp_valueAtPoint (pt := dgp (N 0) k) hb (by omega) s0 s1 (RC_row w h hil) gp.1.2.2.2 gp.1.2.2.1 gp.2.2 (fun v hv => ⟨hpt v hv, Nat.mod_lt _ (by omega)⟩) ?_⟩
      refine pk_eq (vlF (N 0) (dgp (N 0) k) (gt T (25 + i))) 0 (fun z x1 e1 => ?_) (fun z => h0 ?_)
      · rw [m_lit 1, nI_add] at e1
        subst e1
        refine ih (i + 1) (by omega) (fun j hj2 => ?_)
        by_cases y : j = i
        · rw [y]; exact z
        · exact hj j (by omega)
      · unfold zb
        rw [List.all_eq_false]
        exact ⟨i, List.mem_range.mpr hil, by rw [decide_eq_false z]; decide⟩
  unfold w_X0_isZeroAtPoint
  exact ⟨N 6 + 1, loop (N 6) 0 (by omega) (fun j hj => by omega)⟩
theorem c_zeros (w : WF N T R) (h : RC b g N T R S) (hK : D8 (f_zeros N T R) S K) : w_X8_zeros S K := by
  have hb := prm_b w.1
  have wn := w.2.1
  have s0 : S 1 0 = nI (N 0) := h.2.2.1 (1, 0, 0) (by decide)
  have s1 : S 1 1 = nI (N 1) := h.2.2.1 (1, 1, 1) (by decide)
  have pl := paF_le hb (N 1)
  unfold w_X8_zeros
  unfold f_zeros D8 at hK
  refine sp_pointsUpTo hb (by omega) s0 s1 ?_
  refine pk_le (paF (N 0) (N 1)) 2500 (fun q => ?_) (fun q => ?_)
  · rw [if_neg (by omega)] at hK
    have loop : ∀ (d k : Nat) (S1 : St), k + d = paF (N 0) (N 1) → fr2 S S1 → q_it (fun _ _ _ => False) (w_X8_zeros_25 K (nI (paF (N 0) (N 1)))) (d + 1) (nI (zc N T k)) (nI k) S1 := by
      intro d
      induction d with
      | zero =>
        intro k S1 hk f1
        rw [q_it_s]
        unfold w_X8_zeros_25
        refine pk_le (paF (N 0) (N 1)) k (fun _ => ?_) (fun z => by omega)
        rw [show k = paF (N 0) (N 1) by omega]
        exact hK S1 ⟨b, g, RC_fr h (fr2_fr1 h.1 f1)⟩ (fr2_hi f1)
      | succ d ih =>
        intro k S1 hk f1
        rw [q_it_s]
        generalize q_it (fun _ _ _ => False) (w_X8_zeros_25 K (nI (paF (N 0) (N 1)))) (d + 1) = k2 at ih ⊢
        unfold w_X8_zeros_25 w_X8_zeros_51
        refine pk_le (paF (N 0) (N 1)) k (fun z => by omega) (fun _ => ?_)
        refine sp_setPointNumber (n := N 1) (p := N 0) hb (by omega) (by omega) (by rw [f1 1 (by decide)]; exact s0) (by rw [f1 1 (by decide)]; exact s1) (fun S2 h2 f2 => ?_)
        have f12 := fr2_tr f1 f2
        have ez : zc N T (k + 1) = zc N T k + (if zb N T k = true then 1 else 0) := rfl
        refine sp_isZero (k := k) w (RC_fr h (fr2_fr1 h.1 f12)) h2 (fun y => ⟨fun z => absurd z (by decide), fun _ x2 e2 x3 e3 => ?_⟩) (fun y => ⟨fun _ x3 e3 => ?_, fun z => absurd rfl z⟩)
        · rw [m_lit 1, nI_add] at e2 e3
          subst e2; subst e3
          have go := ih (k + 1) S2 (by omega) f12
          rw [ez, if_pos y] at go
          exact go
        · rw [m_lit 1, nI_add] at e3
          subst e3
          have go := ih (k + 1) S2 (by omega) f12
          rw [ez, y] at go
          exact go
    exact ⟨paF (N 0) (N 1) + 1, loop (paF (N 0) (N 1)) 0 S (by omega) (fun _ _ => rfl)⟩
  · rw [if_pos (by omega)] at hK
    exact hK S ⟨b, g, h⟩ hi_rf
theorem c_digest {K : Int64 → St → Prop} (w : WF N T R) (h : RC b g N T R S) (hK : K (f_digest N T) S) : w_X8_digest S K := by
  have wn := w.2.1
  have w6 : N 6 ≤ 18 := w.2.2.2.2.2.2.2.1
  have s1 : S 1 1 = nI (N 1) := h.2.2.1 (1, 1, 1) (by decide)
  have s6 : S 104 7 = nI (N 6) := h.2.2.1 (104, 7, 6) (by decide)
  have sb := h.2.2.2.1.1
  have b2 : b < 2 ^ 31 := by have := h.1; omega
  obtain ⟨D, hD⟩ := w.2.2.2.2.2.2.2.2.2.2.1
  have gA := w.2.2.2.2.2.2.2.2.2.2.2.2.1
  unfold f_digest at hK
  rw [gt_s hD] at hK
  unfold w_X8_digest
  refine sp_digestOf (n := N 1) (by omega) s1 (h.2.2.2.2.1 0 D (by decide) hD) (gA 0 D (by decide) hD).1.2.2.2 ?_
  have loopB : ∀ (d i : Nat), i + d = N 6 → q_it (fun _ _ _ => False) (w_X8_digest_58 K) (d + 1) (dgB (N 1) T (dgS (N 1) T (dgP (N 1) 17 D) 24) i) (nI i) S := by
    intro d
    induction d with
    | zero =>
      intro i hi
      rw [q_it_s]
      unfold w_X8_digest_58
      rw [s6]
      refine pk_le (N 6) i (fun _ => ?_) (fun z => by omega)
      rw [show i = N 6 by omega]
      exact hK
    | succ d ih =>
      intro i hi
      have hil : i < N 6 := by omega
      obtain ⟨_, gp, _⟩ := hd_ok w hil
      rw [q_it_s]
      generalize q_it (fun _ _ _ => False) (w_X8_digest_58 K) (d + 1) = k2 at ih ⊢
      unfold w_X8_digest_58
      rw [s6]
      refine pk_le (N 6) i (fun z => by omega) (fun _ => ?_)
      rw [sb, m_rf b2, m_rf (by omega)]
      refine ⟨h.1, vp_in_nI (by omega) (by decide), pidx_P h.1 (by omega), sp_digestOf (n := N 1) (by omega) s1 (RC_row w h hil) gp.1.2.2.2 ?_⟩
      intro x3 e3
      rw [m_lit 1, nI_add] at e3
      subst e3
      exact ih (i + 1) (by omega)
  have loopS : ∀ (d i : Nat), i + d = 24 → q_it (fun _ _ _ => False) (w_X8_digest_14 K) (d + 1) (dgS (N 1) T (dgP (N 1) 17 D) i) (nI i) S := by
    intro d
    induction d with
    | zero =>
      intro i hi
      rw [q_it_s]
      unfold w_X8_digest_14
      refine pk_le 24 i (fun _ => ?_) (fun z => by omega)
      rw [show i = 24 by omega]
      exact ⟨N 6 + 1, loopB (N 6) 0 (by omega)⟩
    | succ d ih =>
      intro i hi
      rw [q_it_s]
      generalize q_it (fun _ _ _ => False) (w_X8_digest_14 K) (d + 1) = k2 at ih ⊢
      unfold w_X8_digest_14 w_X8_digest_50
      refine pk_le 24 i (fun z => by omega) (fun _ => ?_)
      have go := ih (i + 1) (by omega)
      have es : dgS (N 1) T (dgP (N 1) 17 D) (i + 1) = match T (1 + i) with
        | none => dgS (N 1) T (dgP (N 1) 17 D) i
        | some P => dgP (N 1) (31 * dgS (N 1) T (dgP (N 1) 17 D) i + (nI i).toInt64) P := rfl
      refine sp_at h (fun k P e e2 hk hT => ⟨fun z => (by cases z), fun r z => ?_⟩) (fun hn => ⟨fun _ x3 e3 => ?_, fun r z => (by cases z)⟩)
      · injection z with z
        subst z
        have ek : k = i := by rw [nI_toInt (by omega)] at e2; omega
        subst ek
        have hP := h.2.2.2.2.1 (1 + k) P (by omega) hT
        rw [pcl_s hk] at hP
        refine ⟨pidx20_P hk, sp_digestOf (n := N 1) (by omega) s1 hP (gA (1 + k) P (by omega) hT).1.2.2.2 (fun x3 e3 => ?_)⟩
        rw [m_lit 1, nI_add] at e3
        subst e3
        rw [es, hT] at go
        exact go
      · rw [m_lit 1, nI_add] at e3
        subst e3
        have hT : T (1 + i) = none := by
          cases hT : T (1 + i) with
          | none => rfl
          | some P => exact absurd hT (hn i P (by omega) (nI_toInt (by omega)))
        rw [es, hT] at go
        exact go
  exact ⟨24 + 1, loopS 24 0 (by omega)⟩
theorem c_without {x : Int32} (w : WF N T R) (h : RC b g N T R S) (hK : D8 (f_without N T R x) S K) : w_X8_without x S K := by
  have wn := w.2.1
  have w6 : N 6 ≤ 18 := w.2.2.2.2.2.2.2.1
  have w13 : N 13 ≤ 1 := w.2.2.2.2.2.2.1
  have s1 : S 1 1 = nI (N 1) := h.2.2.1 (1, 1, 1) (by decide)
  have s6 : S 104 7 = nI (N 6) := h.2.2.1 (104, 7, 6) (by decide)
  have s13 : S 104 8 = nI (N 13) := h.2.2.1 (104, 8, 13) (by decide)
  have sb := h.2.2.2.1.1
  have b2 : b < 2 ^ 31 := by have := h.1; omega
  unfold w_X8_without w_X8_without_15
  unfold f_without D8 at hK
  refine ⟨fun q => ?_, fun q => ?_⟩
  · rw [Int32.lt_iff_toInt_lt, Int32.toInt_zero] at q
    rw [if_neg (by omega)] at hK
    exact hK S ⟨b, g, h⟩ hi_rf
  · obtain ⟨k, hk, rfl⟩ := nI_of q
    rw [nI_toInt hk] at hK
    rw [s1]
    refine pk_le k (N 1) (fun q2 => ?_) (fun q2 => ?_)
    · rw [if_pos ⟨by omega, by omega⟩, show (k : Int).toNat = k from rfl] at hK
      rw [s13]
      refine pk_eq (N 13) 0 (fun z => ?_) (fun z => ?_)
      · rw [if_pos z] at hK
        exact hK S ⟨b, g, h⟩ hi_rf
      · rw [if_neg z] at hK
        have loop : ∀ (d i : Nat), i + d = N 6 → q_it (fun _ _ _ => False) (w_X0_countWithoutFirst_4 (nI k) K) (d + 1) (nI (wc T k i)) (nI i) S := by
          intro d
          induction d with
          | zero =>
            intro i hi
            rw [q_it_s]
            unfold w_X0_countWithoutFirst_4
            rw [s6]
            refine pk_le (N 6) i (fun _ => ?_) (fun z => by omega)
            rw [show i = N 6 by omega]
            exact hK S ⟨b, g, h⟩ hi_rf
          | succ d ih =>
            intro i hi
            have hil : i < N 6 := by omega
            obtain ⟨_, gp, _⟩ := hd_ok w hil
            rw [q_it_s]
            generalize q_it (fun _ _ _ => False) (w_X0_countWithoutFirst_4 (nI k) K) (d + 1) = k2 at ih ⊢
            unfold w_X0_countWithoutFirst_4 w_X0_countWithoutFirst_28
            rw [s6]
            refine pk_le (N 6) i (fun z => by omega) (fun _ => ?_)
            rw [sb, m_rf b2, m_rf (by omega)]
            have go := ih (i + 1) (by omega)
            have ew : wc T k (i + 1) = wc T k i + (if sP k (gt T (25 + i)) = 0 then 1 else 0) := rfl
            refine ⟨h.1, vp_in_nI (by omega) (by decide), pidx_P h.1 (by omega), sp_hasOne (by omega) (RC_row w h hil) gp.1.2.2.2 (fun y => ⟨fun z => absurd rfl z, fun _ x2 e2 x3 e3 => ?_⟩) (fun y => ⟨fun _ x3 e3 => ?_, fun z => absurd z (by decide)⟩)⟩
            · rw [m_lit 1, nI_add] at e2 e3
              subst e2; subst e3
              rw [ew, if_pos y] at go
              exact go
            · rw [m_lit 1, nI_add] at e3
              subst e3
              rw [ew, if_neg y] at go
              exact go
        unfold w_X0_countWithoutFirst
        exact ⟨N 6 + 1, loop (N 6) 0 (by omega)⟩
    · rw [if_neg (by omega)] at hK
      exact hK S ⟨b, g, h⟩ hi_rf
end OPC
