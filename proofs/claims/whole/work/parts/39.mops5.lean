/-! the reference's calls: value, compare, fuel, way, rules, clear, pair, count -/
def tvF (p : Nat) (pt : Nat → Nat) (t : Te) : Nat → Nat
  | 0 => t.1
  | v + 1 => tvF p pt t v * pt v ^ ex t.2 v % p
def vlF (p : Nat) (pt : Nat → Nat) (P : Po) : Nat := P.foldl (fun s t => (s + tvF p pt t 4) % p) 0
theorem vl_snoc {p t : Nat} {pt : Nat → Nat} {P : Po} (h : t < P.length) : vlF p pt (P.take (t + 1)) = (vlF p pt (P.take t) + tvF p pt (pc P t, pm P t) 4) % p := by
  unfold vlF
  rw [take_snoc h, List.foldl_append]
  rfl
theorem tv_lt {p : Nat} {pt : Nat → Nat} {t : Te} (hp : 0 < p) (h : t.1 < p) : ∀ v, tvF p pt t v < p
  | 0 => h
  | _ + 1 => Nat.mod_lt _ hp
theorem vl_lt {p : Nat} {pt : Nat → Nat} (hp : 0 < p) (P : Po) : vlF p pt P < p := by
  unfold vlF
  rw [← List.foldr_reverse]
  cases P.reverse with
  | nil => exact hp
  | cons t L => exact Nat.mod_lt _ hp
theorem sp_valueAt {S : St} {P : Po} {p k : Nat} {pt : Nat → Nat} {K : Int32 → St → Prop} (hb : 2 ≤ p ∧ p ≤ 251) (hk : k < 61) (hp : S 224 0 = nI p) (hP : PM S k P) (h30 : L30 P) (hpP : Lp p P) (hpt : ∀ v, v < 4 → S 235 v = nI (pt v) ∧ pt v < p) (hK : K (nI (vlF p pt P)) S) : w_X9_valueAt (nI k) S K := by
  have hl := hP.2.1
  have inner : ∀ (t : Nat) (_ : t < P.length) (v : Nat) (_ : v < 4) (k4 k30 : Int32 → Int32 → St → Prop) (x2 : Int32) (c : Nat) (_ : c < p), k30 (nI (c * pt v ^ ex (pm P t) v % p)) (nI (v + 1)) S → ∀ (d j : Nat), j + d = ex (pm P t) v → q_it (fun _ _ _ => False) (w_X9_valueAt_39 (nI k) K k4 k30 x2 (nI t) (nI v)) (d + 1) (nI (c * pt v ^ j % p)) (nI j) S := by
    intro t ht v hv k4 k30 x2 c hc hk30 d
    have g := (hP.2.2 t ht).2 v hv
    have m30 := ex_le (h30 _ (pc_mem ht)) v
    have m30 : ex (pm P t) v ≤ 30 := m30
    induction d with
    | zero =>
      intro j hj
      rw [q_it_s]
      unfold w_X9_valueAt_39
      rw [ix160, m_rf (by omega), g]
      refine ⟨vp_in_nI (by omega) (by decide), pk_le (ex (pm P t) v) j (fun _ => ?_) (fun q => by omega)⟩
      intro x5 e5
      rw [m_lit 1, nI_add] at e5
      subst e5
      rw [show j = ex (pm P t) v by omega]
      exact hk30
    | succ d ih =>
      intro j hj
      rw [q_it_s]
      generalize hgg : q_it (fun _ _ _ => False) (w_X9_valueAt_39 (nI k) K k4 k30 x2 (nI t) (nI v)) (d + 1) = k39 at ih ⊢
      unfold w_X9_valueAt_39
      rw [ix160, m_rf (by omega), g]
      refine ⟨vp_in_nI (by omega) (by decide), pk_le (ex (pm P t) v) j (fun q => by omega) (fun _ => ⟨vp_in_nI hv (by decide), ?_⟩)⟩
      have hm := Nat.mod_lt (c * pt v ^ j) (show p > 0 by omega)
      have hml := mul_lt' hm (hpt v hv).2 hb.2
      rw [m_rf (by omega), hp, (hpt v hv).1, pk_mul, m_rem (by omega) (by omega) (by omega)]
      refine ⟨nI_ne0 (by omega) (by omega), ?_⟩
      intro x4 e4 x6 e6
      rw [m_lit 1, nI_add] at e6
      rw [Nat.mod_mul_mod, Nat.mul_assoc, ← Nat.pow_succ] at e4
      subst e4; subst e6
      exact ih (j + 1) (by omega)
  have mid : ∀ (t : Nat) (_ : t < P.length) (k4 : Int32 → Int32 → St → Prop) (s : Nat) (_ : s < p), k4 (nI ((s + tvF p pt (pc P t, pm P t) 4) % p)) (nI (t + 1)) S → ∀ (d v : Nat), v + d = 4 → q_it (fun _ _ _ => False) (w_X9_valueAt_30 (nI k) K k4 (nI s) (nI t)) (d + 1) (nI (tvF p pt (pc P t, pm P t) v)) (nI v) S := by
    intro t ht k4 s hs hk4 d
    have cp : pc P t < p := hpP _ (pc_mem ht)
    have tl := fun v => tv_lt (pt := pt) (t := (pc P t, pm P t)) (show 0 < p by omega) cp v
    induction d with
    | zero =>
      intro v hv
      rw [q_it_s]
      unfold w_X9_valueAt_30
      rw [show v = 4 by omega]
      have tl4 := tl 4
      refine pk_le 4 4 (fun _ => ?_) (fun q => by omega)
      rw [hp, nI_add, m_rem (by omega) (by omega) (by omega)]
      refine ⟨nI_ne0 (by omega) (by omega), ?_⟩
      intro x2 e2 x3 e3
      rw [m_lit 1, nI_add] at e3
      subst e2; subst e3
      exact hk4
    | succ d ih =>
      intro v hv
      rw [q_it_s]
      generalize hgg : q_it (fun _ _ _ => False) (w_X9_valueAt_30 (nI k) K k4 (nI s) (nI t)) (d + 1) = k30 at ih ⊢
      unfold w_X9_valueAt_30
      refine pk_le 4 v (fun q => by omega) (fun _ => ?_)
      refine ⟨ex (pm P t) v + 1, ?_⟩
      have tlv := tl v
      have := inner t ht v (by omega) k4 k30 (nI s) (tvF p pt (pc P t, pm P t) v) tlv (ih (v + 1) (by omega)) (ex (pm P t) v) 0 (by omega)
      rw [Nat.pow_zero, Nat.mul_one, Nat.mod_eq_of_lt tlv] at this
      exact this
  have loop : ∀ (d t : Nat), t + d = P.length → q_it (fun _ _ _ => False) (w_X9_valueAt_4 (nI k) K) (d + 1) (nI (vlF p pt (P.take t))) (nI t) S := by
    intro d
    induction d with
    | zero =>
      intro t ht
      rw [q_it_s]
      unfold w_X9_valueAt_4
      rw [m_rf (by omega), hP.1]
      refine ⟨vp_in_nI hk (by decide), pk_le P.length t (fun _ => ?_) (fun q => by omega)⟩
      rw [List.take_of_length_le (by omega)]
      exact hK
    | succ d ih =>
      intro t ht
      have htl : t < P.length := by omega
      rw [q_it_s]
      generalize hgg : q_it (fun _ _ _ => False) (w_X9_valueAt_4 (nI k) K) (d + 1) = k4 at ih ⊢
      unfold w_X9_valueAt_4
      rw [m_rf (by omega), hP.1]
      refine ⟨vp_in_nI hk (by decide), pk_le P.length t (fun q => by omega) (fun _ => ?_)⟩
      rw [ix40, m_rf (by omega), (hP.2.2 t htl).1]
      refine ⟨vp_in_nI (by omega) (by decide), ?_⟩
      intro x4 e4
      subst e4
      refine ⟨5, ?_⟩
      have := ih (t + 1) (by omega)
      rw [vl_snoc htl] at this
      exact mid t htl k4 _ (vl_lt (by omega) _) this 4 0 (by omega)
  unfold w_X9_valueAt
  exact ⟨P.length + 1, loop P.length 0 (by omega)⟩
def cmpP (o : Nat) : Po → Po → Int32
  | [], [] => 0
  | [], _ :: _ => -1
  | _ :: _, [] => 1
  | s :: P, t :: Q => if mk o s.2 < mk o t.2 then -1 else if mk o t.2 < mk o s.2 then 1 else if s.1 < t.1 then -1 else if t.1 < s.1 then 1 else cmpP o P Q
theorem cmp_cons {o : Nat} {s t : Te} {P Q : Po} : cmpP o (s :: P) (t :: Q) = if mk o s.2 < mk o t.2 then -1 else if mk o t.2 < mk o s.2 then 1 else if s.1 < t.1 then -1 else if t.1 < s.1 then 1 else cmpP o P Q := rfl
section OPS
variable {N : Nat → Nat} {T : Nat → Option Po} {R : Nat → Nat × Nat} {S : St} {K : Int32 → St → Prop}
def pt4 (p : Nat) (x y z w : Int32) : Nat → Nat := fun v => if v = 0 then rs p x else if v = 1 then rs p y else if v = 2 then rs p z else rs p w
def f_value (N : Nat → Nat) (T : Nat → Option Po) (R : Nat → Nat × Nat) (a x y z u : Int32) : Int32 × (Nat → Nat) × (Nat → Option Po) × (Nat → Nat × Nat) :=
  match plc N T a with
  | none => (-2, N, T, R)
  | some i => (nI (vlF (N 0) (pt4 (N 0) x y z u) (gt T i)), N, T, R)
theorem m_value {a x y z u : Int32} (w : WF N T R) (h : M9 N T R S) (hK : D9 (f_value N T R a x y z u) S K) : w_X9_value a x y z u S K := by
  have hb := prm_b w.1
  unfold w_X9_value
  unfold f_value at hK
  refine sp_placeOf w h (fun i P e hi hT g => ?_) (fun e => ?_)
  · rw [e] at hK
    simp only [gt_s hT] at hK
    refine ⟨fun _ => ?_, fun q => absurd (m_loop_ok (by omega)).1 q⟩
    refine sp_rest9 (p := N 0) (h.1 0 (by decide)) (by omega) (by omega) ?_
    intro S6 e6
    have f6 : fr9 [235] [] S S6 := by rw [e6]; exact fr9_su (by decide) (by decide)
    refine sp_rest9 (p := N 0) ((f6.2 0 (by decide)).trans (h.1 0 (by decide))) (by omega) (by omega) ?_
    intro S9 e9
    have f9 : fr9 [235] [] S S9 := fr9_tr f6 (by rw [e9]; exact fr9_su (by decide) (by decide))
    refine sp_rest9 (p := N 0) ((f9.2 0 (by decide)).trans (h.1 0 (by decide))) (by omega) (by omega) ?_
    intro S12 e12
    have f12 : fr9 [235] [] S S12 := fr9_tr f9 (by rw [e12]; exact fr9_su (by decide) (by decide))
    refine sp_rest9 (p := N 0) ((f12.2 0 (by decide)).trans (h.1 0 (by decide))) (by omega) (by omega) ?_
    intro S15 e15
    have f15 : fr9 [235] [] S S15 := fr9_tr f12 (by rw [e15]; exact fr9_su (by decide) (by decide))
    have h15 := M9_fr h f15 (by decide) (by decide)
    refine sp_valueAt (p := N 0) (pt := pt4 (N 0) x y z u) hb (by omega) (h15.1 0 (by decide)) (h15.2.1 i P hi hT) g.1.2.2.2 g.1.2.2.1 (fun v hv => ?_) (hK S15 h15 (lo_fr f15 (by decide)))
    have r0 : q_rf 0 = 0 := by decide
    have r1 : q_rf 1 = 1 := by decide
    have r2 : q_rf 2 = 2 := by decide
    have r3 : q_rf 3 = 3 := by decide
    rw [r0] at e6; rw [r1] at e9; rw [r2] at e12; rw [r3] at e15
    rw [e15, e12, e9, e6]
    rcases (show v = 0 ∨ v = 1 ∨ v = 2 ∨ v = 3 by omega) with rfl | rfl | rfl | rfl
    · rw [su_n _ _ (Or.inr (by decide)), su_n _ _ (Or.inr (by decide)), su_n _ _ (Or.inr (by decide)), su_s]; exact ⟨rfl, rs_lt (by omega) _⟩
    · rw [su_n _ _ (Or.inr (by decide)), su_n _ _ (Or.inr (by decide)), su_s]; exact ⟨rfl, rs_lt (by omega) _⟩
    · rw [su_n _ _ (Or.inr (by decide)), su_s]; exact ⟨rfl, rs_lt (by omega) _⟩
    · rw [su_s]; exact ⟨rfl, rs_lt (by omega) _⟩
  · rw [e] at hK
    exact ⟨fun q => absurd q (by decide), fun _ => hK S h lo_rf⟩
def f_compare (N : Nat → Nat) (T : Nat → Option Po) (R : Nat → Nat × Nat) (x y : Int32) : Int32 × (Nat → Nat) × (Nat → Option Po) × (Nat → Nat × Nat) :=
  match plc N T x with
  | none => (-2, N, T, R)
  | some i => match plc N T y with
    | none => (-2, N, T, R)
    | some j => (cmpP (N 2) (gt T i) (gt T j), N, T, R)
theorem cmp_end {o : Nat} {P Q : Po} (h : P = [] ∨ Q = []) : cmpP o P Q = if P.length = Q.length then 0 else if Q.length ≤ P.length then 1 else -1 := by
  cases P with
  | nil => cases Q with
    | nil => rfl
    | cons t Q => rfl
  | cons s P => cases Q with
    | nil => rfl
    | cons t Q => rcases h with h | h <;> cases h
theorem m_compare {x y : Int32} (w : WF N T R) (h : M9 N T R S) (hK : D9 (f_compare N T R x y) S K) : w_X9_compare x y S K := by
  have hb := prm_b w.1
  unfold w_X9_compare w_X9_compare_22
  unfold f_compare at hK
  refine sp_placeOf w h (fun i P e hi hT g => ?_) (fun e => ?_)
  · rw [e] at hK
    refine sp_placeOf w h (fun j Q e' hj hT' g' => ?_) (fun e' => ?_)
    · rw [e'] at hK
      simp only [gt_s hT, gt_s hT'] at hK
      refine ⟨fun q => absurd q (m_loop_ok (by omega)).2, fun _ => ⟨fun _ => ?_, fun q => absurd (m_loop_ok (by omega)).1 q⟩⟩
      have hP := h.2.1 i P hi hT
      have hQ := h.2.1 j Q hj hT'
      have hPl := hP.2.1
      have hQl := hQ.2.1
      have hk := hK S h lo_rf
      have fin : ∀ t, P.length ≤ t ∨ Q.length ≤ t → t ≤ P.length → t ≤ Q.length → cmpP (N 2) P Q = cmpP (N 2) (P.drop t) (Q.drop t) → w_X9_compare_149 x y K (nI i) (nI j) S := by
        intro t ht h1 h2 ec
        have hd : P.drop t = [] ∨ Q.drop t = [] := ht.imp List.drop_eq_nil_of_le List.drop_eq_nil_of_le
        rw [cmp_end hd, List.length_drop, List.length_drop] at ec
        simp only [ec] at hk
        unfold w_X9_compare_149
        rw [m_rf (by omega), m_rf (by omega), hP.1, hQ.1]
        refine ⟨vp_in_nI (by omega) (by decide), vp_in_nI (by omega) (by decide), ?_⟩
        refine (fun (a : ¬ P.length = Q.length → _) (b : P.length = Q.length → _) => ⟨fun q => a (fun q2 => q (by rw [q2])), fun q => b ((m_eq32 (by omega) (by omega)).mp q)⟩) (fun q => ?_) (fun q => ?_)
        · rw [if_neg (by omega)] at hk
          refine pk_le Q.length P.length (fun z => ?_) (fun z => ?_)
          · rw [if_pos (by omega)] at hk; exact hk
          · rw [if_neg (by omega)] at hk; exact hk
        · rw [if_pos (by omega)] at hk; exact hk
      have loop : ∀ (d t : Nat), t + d = P.length → t ≤ Q.length → cmpP (N 2) P Q = cmpP (N 2) (P.drop t) (Q.drop t) → q_it (fun _ _ => False) (w_X9_compare_28 x y K (nI i) (nI j)) (d + 1) (nI t) S := by
        intro d
        induction d with
        | zero =>
          intro t ht htq ec
          rw [q_it_s]
          unfold w_X9_compare_28
          rw [m_rf (by omega), hP.1]
          exact ⟨vp_in_nI (by omega) (by decide), pk_le P.length t (fun _ => fin t (by omega) (by omega) htq ec) (fun q => by omega)⟩
        | succ d ih =>
          intro t ht htq ec
          have htl : t < P.length := by omega
          rw [q_it_s]
          generalize q_it (fun _ _ => False) (w_X9_compare_28 x y K (nI i) (nI j)) (d + 1) = k2 at ih ⊢
          unfold w_X9_compare_28
          rw [m_rf (by omega), m_rf (by omega), hP.1, hQ.1]
          refine ⟨vp_in_nI (by omega) (by decide), pk_le P.length t (fun q => by omega) (fun _ => ⟨vp_in_nI (by omega) (by decide), pk_le Q.length t (fun q => fin t (by omega) (by omega) htq ec) (fun htl' => ?_)⟩)⟩
          rw [mul160, mul160, mul4, nI_add, nI_add]
          rw [drop_cons htl, drop_cons htl', cmp_cons] at ec
          simp only at ec
          have gP := hP.2.2 t htl
          have gQ := hQ.2.2 t htl'
          have mP := mle_mono (g.1.2.2.2 _ (pc_mem htl)) (show 30 ≤ 31 by omega)
          have mQ := mle_mono (g'.1.2.2.2 _ (pc_mem htl')) (show 30 ≤ 31 by omega)
          have cP : pc P t < N 0 := g.1.2.2.1 _ (pc_mem htl)
          have cQ : pc Q t < N 0 := g'.1.2.2.1 _ (pc_mem htl')
          simp only [ec] at hk
          refine sp_stand (h.1 2 (by decide)) w.2.2.1 gP.2 gQ.2 mP mQ (by rw [al_227]; omega) (by rw [al_227]; omega) (by rw [al_227]; decide) (by rw [al_227]; decide) (fun q => ?_) (fun q => ?_) (fun q => ?_)
          · rw [if_pos q] at hk
            exact ⟨fun z => absurd z (by decide), fun _ => hk⟩
          · refine ⟨fun _ => ?_, fun z => absurd rfl z⟩
            rw [ix40, ix40, m_rf (by omega), m_rf (by omega), gP.1, gQ.1]
            refine ⟨vp_in_nI (by omega) (by decide), ?_⟩
            intro x7 e7
            refine ⟨vp_in_nI (by omega) (by decide), ?_⟩
            intro x8 e8
            subst e7; subst e8
            have q : pm P t = pm Q t := q
            rw [q, if_neg (Nat.lt_irrefl _), if_neg (Nat.lt_irrefl _)] at hk ec
            refine pk_eq (pc P t) (pc Q t) (fun z => ?_) (fun z => ?_)
            · intro x5 e5
              rw [m_lit 1, nI_add] at e5
              subst e5
              rw [z, if_neg (Nat.lt_irrefl _), if_neg (Nat.lt_irrefl _)] at ec
              exact ih (t + 1) (by omega) (by omega) ec
            · refine pk_le (pc Q t) (pc P t) (fun z2 => ?_) (fun z2 => ?_)
              · rw [if_neg (by omega), if_pos (by omega)] at hk; exact hk
              · rw [if_pos (by omega)] at hk; exact hk
          · rw [if_neg (by omega), if_pos q] at hk
            exact ⟨fun z => absurd z (by decide), fun _ => hk⟩
      exact ⟨P.length + 1, loop P.length 0 (by omega) (by omega) rfl⟩
    · rw [e'] at hK
      exact ⟨fun q => absurd q (m_loop_ok (by omega)).2, fun _ => ⟨fun q => absurd q (by decide), fun _ => hK S h lo_rf⟩⟩
  · rw [e] at hK
    have : ∀ r S1, S1 = S → (((-2 : Int32) < 0 → K (-2) S1) ∧ (¬ ((-2 : Int32) < 0) → r)) := fun r S1 e1 => ⟨fun _ => by rw [e1]; exact hK S h lo_rf, fun q => absurd (show (-2 : Int32) < 0 by decide) q⟩
    exact sp_placeOf w h (fun _ _ _ _ _ _ => this _ _ rfl) (fun _ => this _ _ rfl)
end OPS
