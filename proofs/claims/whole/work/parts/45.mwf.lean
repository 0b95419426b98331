/-! what is kept: the state stays well formed -/
section OPS
variable {N : Nat → Nat} {T : Nat → Option Po} {R : Nat → Nat × Nat}
theorem GP_cg {N' : Nat → Nat} {P : Po} (h : ∀ j, j ≤ 2 → N' j = N j) (g : GP N P) : GP N' P := by
  unfold GP at g ⊢
  rw [h 0 (by omega), h 1 (by omega), h 2 (by omega)]
  exact g
theorem WF_cg {N' : Nat → Nat} (h : ∀ j, j ≤ 13 → N' j = N j) (w : WF N T R) : WF N' T R := by
  unfold WF at w ⊢
  rw [h 0 (by omega), h 1 (by omega), h 2 (by omega), h 6 (by omega), h 7 (by omega), h 10 (by omega), h 11 (by omega), h 12 (by omega), h 13 (by omega)]
  obtain ⟨a, b, c, d, e, f, g, i, j, k, l, m, n, o⟩ := w
  exact ⟨a, b, c, d, e, f, g, i, j, k, l, m, fun q P hq hT => GP_cg (fun j hj => h j (by omega)) (n q P hq hT), o⟩
theorem WF_nu {j v : Nat} (hj : 14 ≤ j) (w : WF N T R) : WF (nu N j v) T R := WF_cg (fun i hi => nu_n (by omega)) w
theorem WF_tu {k : Nat} {P : Po} (w : WF N T R) (g : GP N P) (hk : k < 25) : WF N (tu T k (some P)) R := by
  obtain ⟨a, b, c, d, e, f, g', i, j, k', l, m, n, o⟩ := w
  refine ⟨a, b, c, d, e, f, g', i, j, k', ?_, fun q hq => ?_, fun q Q hq hT => ?_, fun q Q hq hT => ?_⟩
  · by_cases q : 0 = k
    · exact ⟨P, by rw [q, tu_s]⟩
    · rw [tu_n q]; exact l
  · rw [tu_n (by omega)]; exact m q hq
  · by_cases z : q = k
    · rw [z, tu_s] at hT
      injection hT with hT
      rw [← hT]; exact g
    · rw [tu_n z] at hT; exact n q Q hq hT
  · rw [tu_n (by omega)] at hT; exact o q Q hq hT
theorem WF_tn {k : Nat} (w : WF N T R) (h1 : 1 ≤ k) (hk : k < 25) : WF N (tu T k none) R := by
  obtain ⟨a, b, c, d, e, f, g', i, j, k', l, m, n, o⟩ := w
  refine ⟨a, b, c, d, e, f, g', i, j, k', ?_, fun q hq => ?_, fun q Q hq hT => ?_, fun q Q hq hT => ?_⟩
  · rw [tu_n (by omega)]; exact l
  · rw [tu_n (by omega)]; exact m q hq
  · by_cases z : q = k
    · rw [z, tu_s] at hT; cases hT
    · rw [tu_n z] at hT; exact n q Q hq hT
  · rw [tu_n (by omega)] at hT; exact o q Q hq hT
def goN (N : Nat → Nat) : Nat → Nat := nu N 7 (N 7 - 1)
theorem WF_goes {a : Nat} (w : WF N T R) (_ : a < N 7) : WF (goN N) T (goR R a) := by
  obtain ⟨a', b, c, d, e, f, g', i, j, k', l, m, n, o⟩ := w
  have e7 : goN N 7 = N 7 - 1 := nu_s
  have en : ∀ j, j ≠ 7 → goN N j = N j := fun j hj => nu_n hj
  unfold WF
  rw [e7, en 0 (by decide), en 1 (by decide), en 2 (by decide), en 6 (by decide), en 10 (by decide), en 11 (by decide), en 12 (by decide), en 13 (by decide)]
  refine ⟨a', b, c, d, e, f, g', i, by omega, fun t ht => ?_, l, m, fun q P hq hT => GP_cg (fun j hj => en j (by omega)) (n q P hq hT), o⟩
  unfold goR
  split
  · exact k' t (by omega)
  · exact k' (t + 1) (by omega)
theorem tri (m : Nat) : (m + 1) * m = m * (m - 1) + 2 * m := by
  cases m with
  | zero => rfl
  | succ k =>
    rw [Nat.add_sub_cancel, Nat.add_mul (k + 1) 1 (k + 1), Nat.mul_add (k + 1) k 1]
    omega
theorem scl_pc0 {p a : Nat} {L : Po} (h : 0 < L.length) : pc (scl p a L) 0 = pc L 0 * a % p := (pc_scl h).1
theorem scl_GP {L : Po} (hp : prm (N 0) = true) (g : GP N L) (h : 0 < L.length) : GP N (scl (N 0) (iv (N 0) (pc L 0)) L) ∧ 0 < (scl (N 0) (iv (N 0) (pc L 0)) L).length ∧ pc (scl (N 0) (iv (N 0) (pc L 0)) L) 0 = 1 := by
  have hb := prm_b hp
  have c0 : 0 < pc L 0 := g.1.2.1 _ (pc_mem h)
  have cp : pc L 0 < N 0 := g.1.2.2.1 _ (pc_mem h)
  have im := iv_mul hp c0 cp
  have mem : ∀ t ∈ scl (N 0) (iv (N 0) (pc L 0)) L, ∃ u ∈ L, t = (u.1 * iv (N 0) (pc L 0) % N 0, u.2) := fun t ht => by
    unfold scl at ht
    obtain ⟨u, hu, e⟩ := List.mem_map.mp ht
    exact ⟨u, hu, e.symm⟩
  refine ⟨⟨⟨?_, fun t ht => ?_, fun t ht => ?_, fun t ht => ?_⟩, by rw [scl_len]; exact g.2.1, fun t ht v h1 h2 => ?_⟩, by rw [scl_len]; exact h, ?_⟩
  · unfold Sd scl
    rw [List.pairwise_map]
    exact g.1.1
  · obtain ⟨u, hu, e⟩ := mem t ht
    rw [e]
    show 0 < u.1 * iv (N 0) (pc L 0) % N 0
    rcases Nat.eq_zero_or_pos (u.1 * iv (N 0) (pc L 0) % N 0) with z | z
    · have u0 := g.1.2.1 u hu
      have up := g.1.2.2.1 u hu
      have e1 : u.1 * iv (N 0) (pc L 0) * pc L 0 % N 0 = 0 := by rw [Nat.mul_mod, z, Nat.zero_mul, Nat.zero_mod]
      rw [Nat.mul_assoc, Nat.mul_mod, im, Nat.mul_one, Nat.mod_mod, Nat.mod_eq_of_lt up] at e1
      omega
    · exact z
  · obtain ⟨u, hu, e⟩ := mem t ht
    rw [e]; exact Nat.mod_lt _ (by omega)
  · obtain ⟨u, hu, e⟩ := mem t ht
    rw [e]; exact g.1.2.2.2 u hu
  · obtain ⟨u, hu, e⟩ := mem t ht
    rw [e]; exact g.2.2 u hu v h1 h2
  · rw [scl_pc0 h, Nat.mul_comm]; exact im
theorem WF_come {L : Po} (w : WF N T R) (h6 : N 6 < 18) (g : GP N L) (h : 0 < L.length) : WF (cmN N) (cmT N T L) (cmR N R) := by
  have gs := scl_GP w.1 g h
  obtain ⟨a', b, c, d, e, f, g', i, j, k', l, m, n, o⟩ := w
  have e6 : cmN N 6 = N 6 + 1 := nu_s
  have e7 : cmN N 7 = N 7 + N 6 := by unfold cmN; rw [nu_n (by decide), nu_s]
  have en : ∀ j, j ≠ 6 → j ≠ 7 → cmN N j = N j := fun j h1 h2 => by unfold cmN; rw [nu_n h1, nu_n h2]
  unfold WF
  rw [e6, e7, en 0 (by decide) (by decide), en 1 (by decide) (by decide), en 2 (by decide) (by decide), en 10 (by decide) (by decide), en 11 (by decide) (by decide), en 12 (by decide) (by decide), en 13 (by decide) (by decide)]
  have tr := tri (N 6)
  unfold cmT
  refine ⟨a', b, c, d, e, f, g', by omega, by rw [Nat.add_sub_cancel]; omega, fun t ht => ?_, ?_, fun q hq => ?_, fun q P hq hT => GP_cg (fun j hj => en j (by omega) (by omega)) ?_, fun q P hq hT => ?_⟩
  · unfold cmR
    split
    · have := k' t (by omega); omega
    · show t - N 7 < N 6 ∧ N 6 < N 6 + 1
      omega
  · rw [tu_n (by omega)]; exact l
  · by_cases z : q = N 6
    · rw [z, tu_s]
      exact ⟨fun _ => ⟨_, rfl⟩, fun _ => by omega⟩
    · rw [tu_n (by omega), ← m q hq]
      omega
  · by_cases z : q = 25 + N 6
    · rw [z, tu_s] at hT
      injection hT with hT
      rw [← hT]; exact gs.1
    · rw [tu_n z] at hT; exact n q P hq hT
  · by_cases z : q = N 6
    · rw [z, tu_s] at hT
      injection hT with hT
      rw [← hT]; exact gs.2
    · rw [tu_n (by omega)] at hT; exact o q P (by omega) hT
theorem sro_GP {P Q : Po} (hp : prm (N 0) = true) (gP : GP N P) (gQ : GP N Q) (h1 : 0 < P.length) (h2 : 0 < Q.length) (hs : sgr P Q = false) (hl : (sro (N 2) (N 0) P Q).length ≤ 40) : GP N (sro (N 2) (N 0) P Q) := by
  have hb := prm_b hp
  unfold sgr at hs
  rw [Bool.or_eq_false_iff] at hs
  have L30n : L30 ([] : Po) := fun _ z => nomatch z
  have Lpn : Lp (N 0) ([] : Po) := fun _ z => nomatch z
  have Sdn : Sd (N 2) ([] : Po) := List.Pairwise.nil
  have vh : ∀ v, N 1 ≤ v → v < 4 → ex (pm P 0) v = 0 ∧ ex (pm Q 0) v = 0 := fun v a b => ⟨gP.2.2 _ (pc_mem h1) v a b, gQ.2.2 _ (pc_mem h2) v a b⟩
  refine ⟨⟨clean_Sd (addT_Sd (addT_Sd Sdn)), clean_Lz, clean_Lp (addT_Lp (by omega) (addT_Lp (by omega) Lpn)), clean_L30 (addT_L30 (ngr hs.2) (addT_L30 (ngr hs.1) L30n))⟩, hl, fun t ht v h3 h4 => ?_⟩
  obtain ⟨v1, v2⟩ := vh v h3 h4
  rcases addT_mem (clean_mem ht) with ⟨c, q1, q2⟩ | ⟨u, q1, q2⟩
  · rw [← q2, ex_mm, ex_ms, ex_mx, gQ.2.2 c q1 v h3 h4, v1, v2]; rfl
  · rcases addT_mem q1 with ⟨c, q3, q4⟩ | ⟨u', q3, _⟩
    · rw [← q2, ← q4, ex_mm, ex_ms, ex_mx, gP.2.2 c q3 v h3 h4, v1, v2]; rfl
    · cases q3
def inc (j : Nat) (N : Nat → Nat) : Nat → Nat := nu N j (N j + 1)
def addN (N : Nat → Nat) (u : Nat) : Nat → Nat := nu N 18 (N 18 + u)
def wofL (N : Nat → Nat) (T : Nat → Option Po) (R : Nat → Nat × Nat) (a : Nat) (r : Int32 × Nat × Po) : Int32 × Nat × (Nat → Nat) × (Nat → Option Po) × (Nat → Nat × Nat) :=
  if r.1 = 0 then (if r.2.2.length = 0 then (0, r.2.1, inc 17 (goN (addN N r.2.1)), T, goR R a) else if N 6 = 18 then (-4, r.2.1, addN N r.2.1, T, R) else (0, r.2.1, cmN (inc 16 (goN (addN N r.2.1))), cmT (inc 16 (goN (addN N r.2.1))) T r.2.2, cmR (inc 16 (goN (addN N r.2.1))) (goR R a))) else (r.1, r.2.1, addN N r.2.1, T, R)
def wof (N : Nat → Nat) (T : Nat → Option Po) (R : Nat → Nat × Nat) (a : Nat) : Int32 × Nat × (Nat → Nat) × (Nat → Option Po) × (Nat → Nat × Nat) :=
  if N 12 % 2 = 1 ∧ cop (hdm T (R a).1) (hdm T (R a).2) = true then (0, 0, goN (inc 14 N), T, goR R a)
  else if 1 < N 12 ∧ chn N T R (R a).1 (R a).2 = true then (0, 0, goN (inc 15 N), T, goR R a)
  else if sgr (gt T (25 + (R a).1)) (gt T (25 + (R a).2)) = true then (-5, 0, N, T, R)
  else if 40 < (sro (N 2) (N 0) (gt T (25 + (R a).1)) (gt T (25 + (R a).2))).length then (-6, 0, N, T, R)
  else wofL N T R a (lvr N T (sro (N 2) (N 0) (gt T (25 + (R a).1)) (gt T (25 + (R a).2))))
theorem WF_inc {j : Nat} (hj : 14 ≤ j) (w : WF N T R) : WF (inc j N) T R := WF_nu hj w
theorem WF_wof {a : Nat} (w : WF N T R) (ha : a < N 7) : WF (wof N T R a).2.2.1 (wof N T R a).2.2.2.1 (wof N T R a).2.2.2.2 := by
  have hpr := w.2.2.2.2.2.2.2.2.2.1 a ha
  obtain ⟨_, g1, l1, _⟩ := hd_ok w (show (R a).1 < N 6 by omega)
  obtain ⟨_, g2, l2, _⟩ := hd_ok w hpr.2
  unfold wof
  split
  · exact WF_goes (WF_inc (by decide) w) ha
  · split
    · exact WF_goes (WF_inc (by decide) w) ha
    · split
      · exact w
      · rename_i hs
        split
        · exact w
        · rename_i hl
          have gS := sro_GP w.1 g1 g2 l1 l2 (Bool.eq_false_iff.mpr hs) (by omega)
          have gL := lvr_ok w gS
          have wa : WF (addN N (lvr N T (sro (N 2) (N 0) (gt T (25 + (R a).1)) (gt T (25 + (R a).2)))).2.1) T R := WF_nu (by decide) w
          have wg : WF (goN (addN N (lvr N T (sro (N 2) (N 0) (gt T (25 + (R a).1)) (gt T (25 + (R a).2)))).2.1)) T (goR R a) := WF_goes wa ha
          unfold wofL
          split
          · split
            · exact WF_inc (by decide) wg
            · rename_i hz
              split
              · exact wa
              · rename_i h18
                have w6 : N 6 ≤ 18 := w.2.2.2.2.2.2.2.1
                refine WF_come (WF_inc (by decide) wg) (show N 6 < 18 by omega) ?_ (by omega)
                exact GP_cg (N := N) (fun j hj => (nu_n (show j ≠ 16 by omega)).trans ((nu_n (show j ≠ 7 by omega)).trans (nu_n (show j ≠ 18 by omega)))) gL
          · exact wa
def wrk : Nat → Nat → (Nat → Nat) → (Nat → Option Po) → (Nat → Nat × Nat) → Int32 × (Nat → Nat) × (Nat → Option Po) × (Nat → Nat × Nat)
  | 0, d, N, T, R => (nI d, N, T, R)
  | m + 1, d, N, T, R => if N 7 = 0 then (nI d, N, T, R) else if (wof N T R (nxt N T R)).1 = 0 then wrk m (d + 1) (nu (wof N T R (nxt N T R)).2.2.1 19 (wof N T R (nxt N T R)).2.1) (wof N T R (nxt N T R)).2.2.2.1 (wof N T R (nxt N T R)).2.2.2.2
    else ((wof N T R (nxt N T R)).1, nu (wof N T R (nxt N T R)).2.2.1 19 (wof N T R (nxt N T R)).2.1, (wof N T R (nxt N T R)).2.2.2.1, (wof N T R (nxt N T R)).2.2.2.2)
theorem nxt_lt (h : 0 < N 7) : nxt N T R < N 7 := by
  unfold nxt
  split
  · exact h
  · exact nx_lt _ _ h
theorem WF_wrk : ∀ {m d : Nat} {N : Nat → Nat} {T : Nat → Option Po} {R : Nat → Nat × Nat}, WF N T R → WF (wrk m d N T R).2.1 (wrk m d N T R).2.2.1 (wrk m d N T R).2.2.2
  | 0, _, _, _, _, w => w
  | m + 1, d, N, T, R, w => by
    unfold wrk
    split
    · exact w
    · rename_i h7
      have ww := WF_wof w (nxt_lt (T := T) (R := R) (show 0 < N 7 by omega))
      split
      · exact WF_wrk (WF_nu (by decide) ww)
      · exact WF_nu (by decide) ww
end OPS
