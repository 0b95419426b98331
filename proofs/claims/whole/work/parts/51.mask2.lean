/-! the reference: findStanding, standing, stands -/
section OPS
variable {N : Nat → Nat} {T : Nat → Option Po} {R : Nat → Nat × Nat} {S : St} {K : Int32 → St → Prop}
def en9 (N : Nat → Nat) (T : Nat → Option Po) (v : Nat) : Nat := if v < N 1 then al T v (N 6) else 1
def box (N : Nat → Nat) (T : Nat → Option Po) : List Mo := b0 (en9 N T 1) (en9 N T 2) (en9 N T 3) 0 (en9 N T 0)
def fnd (N : Nat → Nat) (T : Nat → Option Po) : Int32 × Po :=
  if (List.range (N 6)).any (fun i => dvb (hdm T i) m1) then (0, [])
  else if (List.range 4).any (fun v => decide (en9 N T v = 31)) then (-1, [])
  else match prc N T (box N T) [] with
    | none => (-1, [])
    | some A => (nI A.length, A)
theorem en9_le {v : Nat} : en9 N T v ≤ 31 := by
  unfold en9
  split
  · exact al_le v _
  · omega
theorem sp_findStanding (w : WF N T R) (h : M9 N T R S) (hK : ∀ S', ((fnd N T).2.length = 0 ∨ SA S' (fnd N T).2) → fr9 [232, 240, 241] [35] S S' → K (fnd N T).1 S') : w_X9_findStanding S K := by
  have w6 : N 6 ≤ 18 := w.2.2.2.2.2.2.2.1
  have wn := w.2.1
  unfold w_X9_findStanding
  intro S1 e1
  have f1 : fr9 [232, 240, 241] [35] S S1 := by rw [e1]; exact fr9_sf (by decide)
  have hA1 : SA S1 [] := ⟨by rw [e1, su_s]; rfl, by decide, fun t ht => nomatch ht⟩
  have h2 : (List.range (N 6)).any (fun i => dvb (hdm T i) m1) = false → ∃ f, q_it (fun _ _ => False) (w_X9_findStanding_33 K) f 0 S1 := by
    intro hone
    unfold fnd at hK
    rw [if_neg (by rw [hone]; decide)] at hK
    have lp : ∀ (d v : Nat) (S' : St), v + d = 4 → (∀ u, u < v → S' 241 u = nI (en9 N T u) ∧ en9 N T u ≠ 31) → fr9 [232, 240, 241] [35] S S' → SA S' [] → q_it (fun _ _ => False) (w_X9_findStanding_33 K) (d + 1) (nI v) S' := by
      intro d
      induction d with
      | zero =>
        intro v S' hv hu f hA
        rw [q_it_s]
        unfold w_X9_findStanding_33
        rw [show v = 4 by omega] at hu ⊢
        refine pk_le 4 4 (fun _ => ?_) (fun q => by omega)
        have hne : (List.range 4).any (fun v => decide (en9 N T v = 31)) = false := by
          rw [List.any_eq_false]
          intro u hu2
          rw [List.mem_range] at hu2
          rw [decide_eq_true_iff]
          exact (hu u hu2).2
        rw [if_neg (by rw [hne]; decide)] at hK
        intro S2 e2
        rw [q_rf0] at e2
        have e0 : S2 = su S' 232 0 (nI 0) := e2
        refine ⟨en9 N T 0 + 1, L0 (e := en9 N T) w h (fun v _ => en9_le) (en9 N T 0) 0 0 0 0 [] S2 (by omega) ⟨fun v hv => by rw [e2, su_n _ _ (Or.inl (by decide))]; exact (hu v hv).1, by rw [e0]; exact zk0 (a := 0), SA_fr hA (by rw [e2]; exact su_n _ _ (Or.inl (by decide))) (by rw [e2]; exact su_ne _ _ _ (by decide)), fr9_tr f (by rw [e2]; exact fr9_su (by decide) (by decide)), fun t ht => nomatch ht⟩ (fun q S'' f'' => ?_) (fun A' S'' q hA' f'' => ?_)⟩
        · have q : prc N T (box N T) [] = none := q
          rw [q] at hK
          exact hK S'' (Or.inl rfl) f''
        · have q : prc N T (box N T) [] = some A' := q
          rw [q] at hK
          exact hK S'' (Or.inr hA') f''
      | succ d ih =>
        intro v S' hv hu f hA
        rw [q_it_s]
        generalize q_it (fun _ _ => False) (w_X9_findStanding_33 K) (d + 1) = k2 at ih ⊢
        unfold w_X9_findStanding_33 w_X9_findStanding_60
        refine pk_le 4 v (fun q => by omega) (fun _ => ?_)
        rw [f.2 1 (by decide), h.1 1 (by decide), m_rf (by omega)]
        have fin : ∀ z : Nat, z = en9 N T v → vp_in (nI v) 4 ∧ ∀ S2 : St, S2 = su S' 241 v (nI z) → vp_in (nI v) 4 ∧ (¬ (S2 241 v) = 31 → (∀ x1 : Int32, x1 = nI v + 1 → k2 x1 S2)) ∧ ((S2 241 v) = 31 → (K (-1) S2)) := by
          intro z ez
          refine ⟨vp_in_nI (by omega) (by decide), ?_⟩
          intro S2 e2
          have f2 : fr9 [232, 240, 241] [35] S' S2 := by rw [e2]; exact fr9_su (by decide) (by decide)
          have el := en9_le (N := N) (T := T) (v := v)
          rw [← ez] at el
          have e3 : S2 241 v = nI z := by rw [e2, su_s]
          rw [e3]
          refine ⟨vp_in_nI (by omega) (by decide), pk_eq' (j := 31) (by omega) (by decide) (fun q => ?_) (fun q => ?_)⟩
          · intro x1 e4
            rw [m_lit 1, nI_add] at e4
            subst e4
            refine ih (v + 1) S2 (by omega) (fun u hu2 => ?_) (fr9_tr f f2) (SA_fr hA (by rw [e2]; exact su_n _ _ (Or.inl (by decide))) (by rw [e2]; exact su_ne _ _ _ (by decide)))
            by_cases q2 : u = v
            · rw [q2, e3, ez]; exact ⟨rfl, by rw [← ez]; exact q⟩
            · rw [e2, su_n _ _ (Or.inr q2)]; exact hu u (by omega)
          · have hne : (List.range 4).any (fun v => decide (en9 N T v = 31)) = true := by
              rw [List.any_eq_true]
              exact ⟨v, List.mem_range.mpr (by omega), decide_eq_true (by rw [← ez]; exact q)⟩
            rw [if_pos hne] at hK
            exact hK S2 (Or.inl rfl) (fr9_tr f f2)
        refine pk_le (N 1) v (fun q => fin 1 (by unfold en9; rw [if_neg (by omega)])) (fun q => ?_)
        exact sp_alone w h f (by decide) (by decide) (by omega) (fin _ (by unfold en9; rw [if_pos q]))
    exact ⟨5, lp 4 0 S1 (by omega) (fun u hu => by omega) f1 hA1⟩
  have loop : ∀ (d i : Nat), i + d = N 6 → (∀ u, u < i → dvb (hdm T u) m1 = false) → q_it (fun _ _ => False) (w_X9_findStanding_7 K) (d + 1) (nI i) S1 := by
    intro d
    induction d with
    | zero =>
      intro i hi hu
      rw [q_it_s]
      unfold w_X9_findStanding_7
      rw [f1.2 6 (by decide), h.1 6 (by decide)]
      refine pk_le (N 6) i (fun _ => h2 ?_) (fun q => by omega)
      rw [List.any_eq_false]
      intro u hu2
      rw [List.mem_range] at hu2
      rw [hu u (by omega)]
      decide
    | succ d ih =>
      intro i hi hu
      rw [q_it_s]
      generalize q_it (fun _ _ => False) (w_X9_findStanding_7 K) (d + 1) = k2 at ih ⊢
      unfold w_X9_findStanding_7
      rw [f1.2 6 (by decide), h.1 6 (by decide)]
      refine pk_le (N 6) i (fun q => by omega) (fun hil => ?_)
      refine sp_isOne w h f1 (by decide) hil (fun q => ⟨fun z => absurd z (by decide), fun _ => ?_⟩) (fun q => ⟨fun _ => ?_, fun z => absurd rfl z⟩)
      · have hany : (List.range (N 6)).any (fun i => dvb (hdm T i) m1) = true := List.any_eq_true.mpr ⟨i, List.mem_range.mpr hil, q⟩
        unfold fnd at hK
        rw [if_pos hany] at hK
        exact hK S1 (Or.inl rfl) f1
      · intro x1 e2
        rw [m_lit 1, nI_add] at e2
        subst e2
        refine ih (i + 1) (by omega) (fun u hu2 => ?_)
        by_cases q2 : u = i
        · rw [q2]; exact q
        · exact hu u (by omega)
  exact ⟨N 6 + 1, loop (N 6) 0 (by omega) (fun u hu => by omega)⟩
def f_standing (N : Nat → Nat) (T : Nat → Option Po) (R : Nat → Nat × Nat) : Int32 × (Nat → Nat) × (Nat → Option Po) × (Nat → Nat × Nat) :=
  if N 13 = 0 then (-3, N, T, R) else ((fnd N T).1, N, T, R)
theorem m_standing (w : WF N T R) (h : M9 N T R S) (hK : D9 (f_standing N T R) S K) : w_X9_standing S K := by
  have w13 : N 13 ≤ 1 := w.2.2.2.2.2.2.1
  unfold w_X9_standing
  unfold f_standing at hK
  rw [h.1 13 (by decide)]
  refine pk_eq (N 13) 0 (fun q => ?_) (fun q => ?_)
  · rw [if_pos q] at hK
    exact hK S h lo_rf
  · rw [if_neg q] at hK
    exact sp_findStanding w h (fun S' _ f => hK S' (M9_fr h f (by decide) (by decide)) (lo_fr f (by decide)))
def f_stands (N : Nat → Nat) (T : Nat → Option Po) (R : Nat → Nat × Nat) (x v : Int32) : Int32 × (Nat → Nat) × (Nat → Option Po) × (Nat → Nat × Nat) :=
  if N 13 = 0 then (-3, N, T, R) else if (0 ≤ x.toInt ∧ x.toInt ≤ ((fnd N T).2.length : Int) - 1) ∧ (0 ≤ v.toInt ∧ v.toInt ≤ (N 1 : Int) - 1) then (nI (ex (pm (fnd N T).2 x.toInt.toNat) v.toInt.toNat), N, T, R) else (-2, N, T, R)
theorem fnd_code : ((fnd N T).1 = nI (fnd N T).2.length) ∨ ((fnd N T).1 = -1 ∧ (fnd N T).2.length = 0) := by
  unfold fnd
  split
  · exact Or.inl rfl
  · split
    · exact Or.inr ⟨rfl, rfl⟩
    · split
      · exact Or.inr ⟨rfl, rfl⟩
      · exact Or.inl rfl
theorem m_stands {x v : Int32} (w : WF N T R) (h : M9 N T R S) (hK : D9 (f_stands N T R x v) S K) : w_X9_stands x v S K := by
  have w13 : N 13 ≤ 1 := w.2.2.2.2.2.2.1
  have wn := w.2.1
  unfold w_X9_stands w_X9_stands_53
  unfold f_stands at hK
  rw [h.1 13 (by decide)]
  refine pk_eq' (j := 0) (by omega) (by decide) (fun q => ?_) (fun q => ?_)
  · rw [if_neg q] at hK
    refine sp_findStanding w h (fun S' hA f => ?_)
    have h' := M9_fr h f (by decide) (by decide)
    have l' := lo_fr f (by decide)
    have len : (fnd N T).2.length ≤ 300 := by
      rcases hA with q | q
      · omega
      · exact q.2.1
    have bad : ¬ ((0 ≤ x.toInt ∧ x.toInt ≤ ((fnd N T).2.length : Int) - 1) ∧ (0 ≤ v.toInt ∧ v.toInt ≤ (N 1 : Int) - 1)) → K (-2) S' := fun z => by
      rw [if_neg z] at hK
      exact hK S' h' l'
    have hb : ∃ H : Int, ((fnd N T).1 - 1).toInt = H ∧ H ≤ ((fnd N T).2.length : Int) - 1 ∧ (H < 0 → (fnd N T).2.length = 0) ∧ (0 ≤ H → H = ((fnd N T).2.length : Int) - 1) := by
      rcases fnd_code (N := N) (T := T) with c | c
      · exact ⟨_, by rw [c]; exact nI_m1 (by omega), Int.le_refl _, fun z => by omega, fun _ => rfl⟩
      · exact ⟨-2, by rw [c.1]; decide, by omega, fun _ => c.2, fun z => by omega⟩
    obtain ⟨H, e0, e1, e2, e3⟩ := hb
    refine sp_inI e0 (fun t ht q1 q2 => ⟨fun z => absurd z (by decide), fun _ => ?_⟩) (fun z => ⟨fun _ => bad (fun y => ?_), fun z => absurd rfl z⟩)
    · rw [h'.1 1 (by decide)]
      refine sp_inI (nI_m1 (by omega)) (fun u hu q3 q4 => ⟨fun z => absurd z (by decide), fun _ => ?_⟩) (fun z => ⟨fun _ => bad (fun y => z y.2), fun z => absurd rfl z⟩)
      rw [if_pos ⟨by omega, by omega⟩, q2, q4, show (t : Int).toNat = t from rfl, show (u : Int).toNat = u from rfl] at hK
      rw [q1, q3, mul4, nI_add, m_rf (by omega)]
      refine ⟨vp_in_nI (by omega) (by decide), ?_⟩
      have hA : SA S' (fnd N T).2 := by
        rcases hA with z | z
        · omega
        · exact z
      rw [hA.2.2 t (by omega) u (by omega)]
      exact hK S' h' l'
    · rcases Int.lt_or_le H 0 with c | c
      · have := e2 c; omega
      · have := e3 c; omega
  · rw [if_pos q] at hK
    exact hK S h lo_rf
end OPS
