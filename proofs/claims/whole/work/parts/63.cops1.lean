/-! the class's calls: terms, number, exponent, keep, drop, sum, term, fuel, way, rules, clear, pair, count -/
theorem pcl_wk {b k q : Nat} (hb : b = 108 ∨ b = 109) (hk : k < 43) (h : wk q) : pcl b k ≠ q := fun e => by
  have h1 := (pcl_all b hb k hk).2.1
  rw [e, (wk_kp hb h).1] at h1
  cases h1
section OPC
variable {b g : Nat} {N : Nat → Nat} {T : Nat → Option Po} {R : Nat → Nat × Nat} {S : St} {K : Int32 → St → Prop}
theorem c_terms {x : Int32} (w : WF N T R) (h : RC b g N T R S) (hK : D8 (f_terms N T R x) S K) : w_X8_terms x S K := by
  unfold w_X8_terms
  unfold f_terms D8 at hK
  refine sp_polyAt w h (fun k P e hk hT gp => ⟨fun z => (by cases z), fun r z => ?_⟩) (fun e => ⟨fun _ => ?_, fun r z => (by cases z)⟩)
  · injection z with z
    subst z
    rw [e] at hK
    have hP := h.2.2.2.2.1 k P hk hT
    refine ⟨pcl_P h.1 hk, ?_⟩
    rw [hP.1, ← gt_s hT]
    exact hK S ⟨b, g, h⟩ hi_rf
  · rw [e] at hK
    exact hK S ⟨b, g, h⟩ hi_rf
theorem c_number {x t : Int32} (w : WF N T R) (h : RC b g N T R S) (hK : D8 (f_number N T R x t) S K) : w_X8_number x t S K := by
  unfold w_X8_number w_X8_number_22
  unfold f_number D8 at hK
  refine sp_polyAt w h (fun k P e hk hT gp => ⟨fun z => (by cases z), fun r z => ?_⟩) (fun e => ⟨fun _ => ?_, fun r z => (by cases z)⟩)
  · injection z with z
    subst z
    rw [e] at hK
    simp only [gt_s hT] at hK
    have hP := h.2.2.2.2.1 k P hk hT
    have hl := hP.2.1
    refine ⟨fun q => ?_, fun q => ⟨pcl_P h.1 hk, ?_⟩⟩
    · rw [Int32.lt_iff_toInt_lt, Int32.toInt_zero] at q
      rw [if_neg (by omega)] at hK
      exact hK S ⟨b, g, h⟩ hi_rf
    · obtain ⟨j, hj, rfl⟩ := nI_of q
      rw [nI_toInt hj] at hK
      rw [hP.1]
      refine pk_lt j P.length (fun q2 => ⟨vp_in_nI (by omega) (by decide), ?_⟩) (fun q2 => ?_)
      · rw [if_pos ⟨by omega, by omega⟩, show (j : Int).toNat = j from rfl] at hK
        rw [m_rf hj, (hP.2.2 j q2).1]
        exact hK S ⟨b, g, h⟩ hi_rf
      · rw [if_neg (by omega)] at hK
        exact hK S ⟨b, g, h⟩ hi_rf
  · rw [e] at hK
    exact hK S ⟨b, g, h⟩ hi_rf
theorem c_exponent {x t v : Int32} (w : WF N T R) (h : RC b g N T R S) (hK : D8 (f_exponent N T R x t v) S K) : w_X8_exponent x t v S K := by
  have wn := w.2.1
  have s1 : S 1 1 = nI (N 1) := h.2.2.1 (1, 1, 1) (by decide)
  unfold w_X8_exponent w_X8_exponent_36
  unfold f_exponent D8 at hK
  refine sp_polyAt w h (fun k P e hk hT gp => ⟨fun z => (by cases z), fun r z => ?_⟩) (fun e => ⟨fun _ => ?_, fun r z => (by cases z)⟩)
  · injection z with z
    subst z
    rw [e] at hK
    simp only [gt_s hT] at hK
    have hP := h.2.2.2.2.1 k P hk hT
    have hl := hP.2.1
    refine ⟨fun q => ?_, fun q => ⟨pcl_P h.1 hk, ?_⟩⟩
    · rw [Int32.lt_iff_toInt_lt, Int32.toInt_zero] at q
      rw [if_neg (by omega)] at hK
      exact hK S ⟨b, g, h⟩ hi_rf
    · obtain ⟨j, hj, rfl⟩ := nI_of q
      rw [nI_toInt hj] at hK
      rw [hP.1]
      refine pk_le P.length j (fun q2 => ?_) (fun q2 => ?_)
      · rw [if_neg (by omega)] at hK
        exact hK S ⟨b, g, h⟩ hi_rf
      · rw [if_pos ⟨by omega, by omega⟩, show (j : Int).toNat = j from rfl] at hK
        refine sp_hasVariable s1 (by omega) (fun u hu eu => ⟨fun _ => ⟨vp_in_nI (by omega) (by decide), ?_⟩, fun z => absurd z (by decide)⟩) (fun q3 => ⟨fun z => absurd rfl z, fun _ => ?_⟩)
        · rw [eu, nI_toInt (by omega), if_pos ⟨by omega, by omega⟩, show (u : Int).toNat = u from rfl] at hK
          rw [m_rf hj, (hP.2.2 j q2).2, eu]
          exact sp_exponentOf (mle_mono (gp.1.2.2.2 _ (pc_mem q2)) (by omega)) (by omega) (hK S ⟨b, g, h⟩ hi_rf)
        · rw [if_neg (by omega)] at hK
          exact hK S ⟨b, g, h⟩ hi_rf
  · rw [e] at hK
    exact hK S ⟨b, g, h⟩ hi_rf
theorem c_keep (w : WF N T R) (h : RC b g N T R S) (hK : D8 (f_keep N T R) S K) : w_X8_keep S K := by
  unfold w_X8_keep
  unfold f_keep D8 at hK
  obtain ⟨D, hD⟩ := w.2.2.2.2.2.2.2.2.2.2.1
  refine sp_isFull h (fun e => ⟨fun z => absurd z (by decide), fun _ => ?_⟩) (fun e => ⟨fun _ => ?_, fun z => absurd rfl z⟩)
  · rw [if_pos e] at hK
    exact hK S ⟨b, g, h⟩ hi_rf
  · rw [if_neg e, gt_s hD] at hK
    refine sp_put isP_c.2.2.1 e h (h.2.2.2.2.1 0 D (by decide) hD) (fun S1 h1 i1 S2 e2 => ?_)
    subst e2
    refine hK _ ⟨b, g, RC_lay h1 (k := 0) (by decide) (Or.inl rfl) ?_ ?_⟩ (hi_tr i1 (hi_su (by decide)))
    · exact PC_nil (su_s _ _ _ _)
    · exact off_su
theorem RC_del {t : Nat} {P : Po} (h : RC b g N T R S) (ht : t < 24) (hT : T (1 + t) = some P) : RC b g N (tu T (1 + t) none) R (su (su S 21 t 0) 19 2 (S 19 2 - 1)) := by
  obtain ⟨hb, hg, a1, a2, a3, a4, a5, a6, a7, a8⟩ := h
  have h2 : ∀ c, c ≠ 21 → c ≠ 19 → (su (su S 21 t 0) 19 2 (S 19 2 - 1)) c = S c := fun c q1 q2 => by rw [su_ne _ _ _ q2, su_ne _ _ _ q1]
  have hPC : ∀ q Q, isP q → PC S q Q → PC (su (su S 21 t 0) 19 2 (S 19 2 - 1)) q Q := fun q Q hq hQ => by
    obtain ⟨c1, c2, c3⟩ := nP_c.2.2.2.2.2.1
    obtain ⟨d1, d2, d3⟩ := nP_c.2.2.2.2.2.2.1
    have k0 := hq.2
    have n0 : q ≠ 21 := fun e => c1 (by rw [← e]; exact k0)
    have n1 : q + 1 ≠ 21 := fun e => c2 (by decide) (by rw [← e, Nat.add_sub_cancel]; exact k0)
    have n2 : q + 2 ≠ 21 := fun e => c3 (by decide) (by rw [← e, Nat.add_sub_cancel]; exact k0)
    have m0 : q ≠ 19 := fun e => d1 (by rw [← e]; exact k0)
    have m1 : q + 1 ≠ 19 := fun e => d2 (by decide) (by rw [← e, Nat.add_sub_cancel]; exact k0)
    have m2 : q + 2 ≠ 19 := fun e => d3 (by decide) (by rw [← e, Nat.add_sub_cancel]; exact k0)
    exact PC_eq hQ (by rw [h2 _ n0 m0]) (h2 _ n1 m1) (h2 _ n2 m2)
  have hc := cnt_del hT 24
  rw [if_pos ht] at hc
  refine ⟨hb, hg, fun x hx => ?_, ?_, fun i Q hi hQ => ?_, fun i hi => ?_, ?_, hPC 13 _ isP_c.2.2.2.1 a6, hPC 4 _ isP_c.1 a7, fun i hi => ?_⟩
  · rw [h2 x.1 (by have := (scT_c x hx).1; omega) (by have := (scT_c x hx).1; omega)]; exact a1 x hx
  · rw [h2 104 (by decide) (by decide), h2 94 (by decide) (by decide)]; exact a2
  · by_cases q : i = 1 + t
    · rw [q, tu_s] at hQ; cases hQ
    · rw [tu_n q] at hQ
      exact hPC _ _ (pcl_P hb hi) (a3 i Q hi hQ)
  · rw [su_ne _ _ _ (by decide), su_at]
    by_cases q : i = t
    · rw [if_pos ⟨rfl, q⟩, q, tu_s]; rfl
    · rw [if_neg (by omega), tu_n (by omega)]; exact a4 i hi
  · rw [su_s, a5, m_lit 1, pk_sub (by omega)]
    congr 1
    omega
  · rw [h2 106 (by decide) (by decide), h2 107 (by decide) (by decide)]; exact a8 i hi
theorem c_drop {x : Int32} (h : RC b g N T R S) (hK : D8 (f_drop N T R x) S K) : w_X8_drop x S K := by
  unfold w_X8_drop
  have hK0 := hK
  unfold f_drop D8 at hK
  refine sp_at h (fun k P e e2 hk hT => ⟨fun z => (by cases z), fun r z => ?_⟩) (fun hn => ⟨fun _ => ?_, fun r z => (by cases z)⟩)
  · injection z with z
    subst z
    rw [if_pos ⟨by omega, by omega⟩, e2, show (k : Int).toNat = k from rfl, hT] at hK
    unfold w_X6_free
    refine sp_at h (fun j Q e' e2' hj hT' => ⟨fun z => (by cases z), fun r z => ⟨?_, fun S2 f2 S3 f3 => ?_⟩⟩) (fun hn => absurd hT (hn k P hk e2))
    · rw [e']; exact vp_in_nI (by omega) (by decide)
    · have ej : j = k := by omega
      subst ej
      have hP := h.2.2.2.2.1 (1 + j) P (by omega) hT
      rw [pcl_s hk] at hP
      have e4 : S3 = su (su S 21 j 0) 19 2 (S 19 2 - 1) := by
        have : vp_nar .boolean 0 = 0 := by decide
        rw [f3, f2, e, m_rf (by omega), this, su_ne S _ _ (show (19 : Nat) ≠ 21 by decide)]
      refine ⟨pidx20_P hk, ?_⟩
      have hq := pidx20_P hk
      have n1 : pidx 20 j ≠ 21 ∧ pidx 20 j ≠ 19 := by unfold pidx; rw [if_pos rfl]; omega
      rw [e4, su_ne _ _ _ n1.2, su_ne _ _ _ n1.1, hP.1]
      exact hK _ ⟨b, g, RC_del h hk hT⟩ (hi_tr (hi_su (by decide)) (hi_su (by decide)))
  · have e0 : f_drop N T R x = (-2, N, T, R) := by
      unfold f_drop
      split
      · rename_i q
        cases hT : T (1 + x.toInt.toNat) with
        | none => rfl
        | some P => exact absurd hT (hn _ P (by omega) (by omega))
      · rfl
    unfold D8 at hK0
    rw [e0] at hK0
    exact hK0 S ⟨b, g, h⟩ hi_rf
/-- what comes on the shelf from the row 16 -/
theorem c_res {P : Po} (hf : fre T ≠ 25) (h : RC b g N T R S) (hP : PC S 16 P) (hK : D8 (nI (fre T - 1), N, tu T (fre T) (some P), R) S K) : w_X8_putResult 0 S K := by
  unfold w_X8_putResult
  exact ⟨fun _ => sp_put isP_c.2.2.2.2.1 hf h hP (fun S1 h1 i1 => hK S1 ⟨b, g, h1⟩ i1), fun z => absurd rfl z⟩
theorem c_no {v : Int32} (hv : v ≠ 0) (hK : K v S) : w_X8_putResult v S K := by
  unfold w_X8_putResult
  exact ⟨fun z => absurd z hv, fun _ => hK⟩
theorem c_sum {x y s : Int32} (w : WF N T R) (h : RC b g N T R S) (hK : D8 (f_sum N T R x y s) S K) : w_X8_sum x y s S K := by
  have hb := prm_b w.1
  have s0 : S 1 0 = nI (N 0) := h.2.2.1 (1, 0, 0) (by decide)
  have s2 : S 1 2 = nI (N 2) := h.2.2.1 (1, 2, 2) (by decide)
  unfold w_X8_sum w_X8_sum_24
  unfold f_sum D8 at hK
  refine sp_polyAt w h (fun i P e hi hT gp => ⟨fun z => (by cases z), fun r z => ?_⟩) (fun e => ⟨fun _ => ?_, fun r z => (by cases z)⟩)
  · injection z with z
    subst z
    rw [e] at hK
    refine sp_polyAt w h (fun j Q e' hj hT' gq => ⟨fun z => (by cases z), fun r z => ?_⟩) (fun e' => ⟨fun _ => ?_, fun r z => (by cases z)⟩)
    · injection z with z
      subst z
      rw [e'] at hK
      simp only [gt_s hT, gt_s hT'] at hK
      refine sp_isFull h (fun e => ⟨fun z => absurd z (by decide), fun _ => ?_⟩) (fun e => ⟨fun _ => ?_, fun z => absurd rfl z⟩)
      · rw [if_pos e] at hK
        exact hK S ⟨b, g, h⟩ hi_rf
      · rw [if_neg e] at hK
        refine sp_restOf s0 hb ⟨pcl_P h.1 hi, pcl_P h.1 hj, ?_⟩
        have hr := rs_lt (p := N 0) (by omega) s
        unfold shv at hK
        refine sp_addMultiple (o := N 2) (p := N 0) (y := m1) isP_c.2.2.2.2.1 (pcl_P h.1 hi) (pcl_P h.1 hj) (pcl_wk h.1 hi (Or.inr (Or.inl rfl))) (pcl_wk h.1 hj (Or.inr (Or.inl rfl))) hb w.2.2.1 (by omega) s0 s2 (h.2.2.2.2.1 i P hi hT) (h.2.2.2.2.1 j Q hj hT') gp.1 gq.1 ⟨Nat.zero_le _, Nat.zero_le _, Nat.zero_le _, Nat.zero_le _⟩ (fun q => absurd q (gr_m1 gq.1.2.2.2)) (fun _ hl S1 hP1 o1 => ?_) (fun _ hl S1 o1 => ?_)
        · rw [if_pos hl] at hK
          have i1 := hi_off isP_c.2.2.2.2.1 o1
          exact c_res e (RC_fr h (off_fr1 h.1 (Or.inr (Or.inl rfl)) o1)) hP1 (fun S2 h2 i2 => hK S2 h2 (hi_tr i1 i2))
        · rw [if_neg (by omega)] at hK
          exact c_no (by decide) (hK S1 ⟨b, g, RC_fr h (off_fr1 h.1 (Or.inr (Or.inl rfl)) o1)⟩ (hi_off isP_c.2.2.2.2.1 o1))
    · rw [e'] at hK
      exact hK S ⟨b, g, h⟩ hi_rf
  · rw [e] at hK
    exact sp_polyAt w h (fun j Q _ _ _ _ => ⟨fun z => (by cases z), fun _ _ => hK S ⟨b, g, h⟩ hi_rf⟩) (fun _ => ⟨fun _ => hK S ⟨b, g, h⟩ hi_rf, fun _ _ => hK S ⟨b, g, h⟩ hi_rf⟩)
theorem sp_mayBe {x v : Int32} {u n : Nat} (hS : S 1 1 = nI n) (hn : n ≤ 4) (hv : v = nI u) (hu : u < 4) (h1 : ∀ a : Nat, x = nI a → x.toInt = (a : Int) → (a : Int) ≤ (if u < n then 30 else 0) → K 1 S) (h0 : ¬ (0 ≤ x.toInt ∧ x.toInt ≤ if u < n then 30 else 0) → K 0 S) : w_X5_mayBeExponent x v S K := by
  unfold w_X5_mayBeExponent w_X5_mayBeExponent_26 w_X5_mayBeExponent_19
  have h30 : (30 : Int32).toInt = 30 := by decide
  refine ⟨fun q => h0 ?_, fun q => ?_⟩
  · rw [Int32.lt_iff_toInt_lt, Int32.toInt_zero] at q; omega
  · obtain ⟨j, hj, rfl⟩ := nI_of q
    rw [nI_toInt hj] at h1 h0
    have hvI : v.toInt = (u : Int) := by rw [hv, nI_toInt (by omega)]
    refine sp_hasVariable hS hn (fun t ht e => ⟨fun z => absurd z (by decide), fun _ => ⟨fun q2 => ?_, fun q2 => ?_⟩⟩) (fun q3 => ⟨fun _ => ⟨fun q2 => ?_, fun q2 => ?_⟩, fun z => absurd rfl z⟩)
    · have : t = u := by rw [e, nI_toInt (by omega)] at hvI; omega
      rw [if_pos (by omega)] at h0
      rw [Int32.lt_iff_toInt_lt, h30, nI_toInt hj] at q2
      exact h0 (by omega)
    · have : t = u := by rw [e, nI_toInt (by omega)] at hvI; omega
      rw [if_pos (by omega)] at h1
      rw [Int32.lt_iff_toInt_lt, h30, nI_toInt hj] at q2
      exact h1 j rfl rfl (by omega)
    · rw [if_neg (by omega)] at h0
      rw [Int32.lt_iff_toInt_lt, Int32.toInt_zero, nI_toInt hj] at q2
      exact h0 (by omega)
    · rw [if_neg (by omega)] at h1
      rw [Int32.lt_iff_toInt_lt, Int32.toInt_zero, nI_toInt hj] at q2
      exact h1 j rfl rfl (by omega)
theorem one_Cn {o p : Nat} (hp : 2 ≤ p) : Cn o p [(1, m1)] := by
  refine ⟨Sd_cons.mpr ⟨fun _ z => (by cases z), Sd_nil⟩, fun t ht => ?_, fun t ht => ?_, fun t ht => ?_⟩ <;> (rw [List.mem_singleton.mp ht])
  · exact Nat.one_pos
  · show 1 < p; omega
  · exact ⟨Nat.zero_le _, Nat.zero_le _, Nat.zero_le _, Nat.zero_le _⟩
theorem addT_one {o p k : Nat} {y : Mo} {L : Po} (hp : 0 < p) (hk : k < p) (hy : mle 30 y) (c : Cn o p L) : clean (addT o p [(1, m1)] k y L) = clean (ins o p k y L) := by
  obtain ⟨a1, a2, a3, a4⟩ := c
  have e : mm m1 y = y := by unfold mm m1; simp
  unfold addT
  split
  · rename_i e0
    subst e0
    refine uniq (clean_Sd a1) (clean_Sd (ins_Sd a1)) (clean_L30 a4) (clean_L30 (ins_L30 hy a4)) (clean_Lp a3) (clean_Lp (ins_Lp hp hk a3)) clean_Lz clean_Lz (fun x => ?_)
    rw [clean_cf, clean_cf, ins_cf hy a4]
    split <;> rfl
  · show clean (ins o p (1 * k % p) (mm m1 y) L) = _
    rw [e, Nat.one_mul, Nat.mod_eq_of_lt hk]
theorem c_term {x a b' c d : Int32} (w : WF N T R) (h : RC b g N T R S) (hK : D8 (f_term N T R x a b' c d) S K) : w_X8_term x a b' c d S K := by
  have hb := prm_b w.1
  have wn := w.2.1
  have s0 : S 1 0 = nI (N 0) := h.2.2.1 (1, 0, 0) (by decide)
  have s1 : S 1 1 = nI (N 1) := h.2.2.1 (1, 1, 1) (by decide)
  have s2 : S 1 2 = nI (N 2) := h.2.2.1 (1, 2, 2) (by decide)
  obtain ⟨D, hD⟩ := w.2.2.2.2.2.2.2.2.2.2.1
  have gd := w.2.2.2.2.2.2.2.2.2.2.2.2.1 0 D (by decide) hD
  unfold w_X8_term w_X8_term_50
  unfold f_term D8 at hK
  have no : ¬ ((0 ≤ a.toInt ∧ a.toInt ≤ 30) ∧ (0 ≤ b'.toInt ∧ b'.toInt ≤ if 2 ≤ N 1 then 30 else 0) ∧ (0 ≤ c.toInt ∧ c.toInt ≤ if 3 ≤ N 1 then 30 else 0) ∧ (0 ≤ d.toInt ∧ d.toInt ≤ if 4 ≤ N 1 then 30 else 0)) → K (-2) S := fun q => by
    rw [if_neg q] at hK
    exact hK S ⟨b, g, h⟩ hi_rf
  refine sp_mayBe (u := 0) s1 (by omega) rfl (by decide) (fun a' ea ta la => ⟨fun z => absurd z (by decide), fun _ => ?_⟩) (fun q => ⟨fun _ => no (fun z => q ⟨z.1.1, by rw [if_pos (by omega)]; exact z.1.2⟩), fun z => absurd rfl z⟩)
  refine sp_mayBe (u := 1) s1 (by omega) rfl (by decide) (fun b2 eb tb lb => ⟨fun z => absurd z (by decide), fun _ => ?_⟩) (fun q => ⟨fun _ => no (fun z => q ⟨z.2.1.1, z.2.1.2⟩), fun z => absurd rfl z⟩)
  refine sp_mayBe (u := 2) s1 (by omega) rfl (by decide) (fun c2 ec tc lc => ⟨fun z => absurd z (by decide), fun _ => ?_⟩) (fun q => ⟨fun _ => no (fun z => q ⟨z.2.2.1.1, z.2.2.1.2⟩), fun z => absurd rfl z⟩)
  refine sp_mayBe (u := 3) s1 (by omega) rfl (by decide) (fun d2 ed td ld => ⟨fun _ => ?_, fun z => absurd z (by decide)⟩) (fun q => ⟨fun z => absurd rfl z, fun _ => no (fun z => q ⟨z.2.2.2.1, z.2.2.2.2⟩)⟩)
  rw [if_pos (by omega)] at la
  rw [if_pos ⟨⟨by omega, by omega⟩, ⟨by omega, by rw [tb]; exact lb⟩, ⟨by omega, by rw [tc]; exact lc⟩, ⟨by omega, by rw [td]; exact ld⟩⟩, gt_s hD] at hK
  have em : m4 a b' c d = (a', b2, c2, d2) := by unfold m4; rw [ta, tb, tc, td]; rfl
  have h30 : mle 30 (a', b2, c2, d2) := by
    unfold mle
    simp only
    refine ⟨by omega, ?_, ?_, ?_⟩
    · split at lb <;> omega
    · split at lc <;> omega
    · split at ld <;> omega
  rw [em] at hK
  refine sp_restOf s0 hb ?_
  rw [ea, eb, ec, ed]
  refine sp_of h30 ?_
  have hr := rs_lt (p := N 0) (by omega) x
  have hk16 : wk 16 := Or.inr (Or.inl rfl)
  have e1 := addT_one (o := N 2) (p := N 0) (y := (a', b2, c2, d2)) (L := D) (by omega) hr h30 gd.1
  refine sp_addMultiple (o := N 2) (p := N 0) (B := [(1, m1)]) isP_c.2.2.2.2.1 isP_c.2.2.1 isP_c.2.2.2.1 (by decide) (by decide) hb w.2.2.1 (by omega) s0 s2 (h.2.2.2.2.1 0 D (by decide) hD) h.2.2.2.2.2.2.2.1 gd.1 (one_Cn hb.1) h30 (fun q => ?_) (fun _ hl S1 hP1 o1 => ?_) (fun _ hl S1 o1 => ?_)
  · obtain ⟨t, ht, q2⟩ := q
    rw [List.mem_singleton.mp ht] at q2
    refine absurd ?_ q2
    have e : mm m1 (a', b2, c2, d2) = (a', b2, c2, d2) := by unfold mm m1; simp
    show mle 30 (mm m1 _)
    rw [e]; exact h30
  · rw [e1] at hl hP1
    rw [if_pos hl] at hK
    have h1 := RC_fr h (off_fr1 h.1 hk16 o1)
    refine ⟨fun _ => ?_, fun z => absurd rfl z⟩
    refine sp_copyOf isP_c.2.2.1 isP_c.2.2.2.2.1 hP1 (fun S2 hP2 o2 => ?_)
    rw [hP2.1]
    exact hK S2 ⟨b, g, RC_lay h1 (k := 0) (by decide) (Or.inl rfl) hP2 o2⟩ (hi_tr (hi_off isP_c.2.2.2.2.1 o1) (hi_off isP_c.2.2.1 o2))
  · rw [e1] at hl
    rw [if_neg (by omega)] at hK
    exact ⟨fun z => absurd z (by decide), fun _ => hK S1 ⟨b, g, RC_fr h (off_fr1 h.1 hk16 o1)⟩ (hi_off isP_c.2.2.2.2.1 o1)⟩
theorem c_set {c k j m : Nat} {x lim : Int32} (hm : (c, k, j) ∈ scT) (hj : j ≠ 7) (hl : lim.toInt = (m : Int)) (h : RC b g N T R S) (hK : D8 (f_set j m N T R x) S K) : (x < 0 → K (-2) S) ∧ (¬ x < 0 → ((x ≤ lim → (∀ x2 : Int32, x2 = S c k → ∀ S4 : St, S4 = su S c k x → K x2 S4)) ∧ (¬ x ≤ lim → K (-2) S))) := by
  unfold f_set D8 at hK
  have hc := (scT_c _ hm).1
  have hc : c = 1 ∨ c = 94 ∨ c = 104 ∨ c = 105 := hc
  refine ⟨fun q => ?_, fun q => ⟨fun q2 x2 e2 S4 e4 => ?_, fun q2 => ?_⟩⟩
  · rw [Int32.lt_iff_toInt_lt, Int32.toInt_zero] at q
    rw [if_neg (by omega)] at hK
    exact hK S ⟨b, g, h⟩ hi_rf
  · obtain ⟨v, hv, rfl⟩ := nI_of q
    rw [Int32.le_iff_toInt_le, hl, nI_toInt hv] at q2
    rw [nI_toInt hv, if_pos ⟨by omega, by omega⟩, show (v : Int).toNat = v from rfl] at hK
    rw [e2, e4, h.2.2.1 _ hm]
    exact hK _ ⟨b, g, RC_nu h hm hj⟩ (hi_su (by omega))
  · rw [Int32.le_iff_toInt_le, hl] at q2
    rw [if_neg (by omega)] at hK
    exact hK S ⟨b, g, h⟩ hi_rf
theorem c_fuel {x : Int32} (h : RC b g N T R S) (hK : D8 (f_set 10 2000 N T R x) S K) : w_X8_fuel x S K := by
  unfold w_X8_fuel w_X8_fuel_11
  exact c_set (by decide) (by decide) (by decide) h hK
theorem c_way {x : Int32} (h : RC b g N T R S) (hK : D8 (f_set 11 1 N T R x) S K) : w_X8_way x S K := by
  unfold w_X8_way w_X8_way_9
  exact c_set (by decide) (by decide) (by decide) h hK
theorem c_rules {x : Int32} (h : RC b g N T R S) (hK : D8 (f_set 12 3 N T R x) S K) : w_X8_rules x S K := by
  unfold w_X8_rules w_X8_rules_9
  exact c_set (by decide) (by decide) (by decide) h hK
theorem c_clear (h : RC b g N T R S) (hK : D8 (f_clear N T R) S K) : w_X8_clear S K := by
  unfold w_X8_clear w_X0_empty
  unfold f_clear D8 at hK
  intro x1 e1 S2 e2 S3 e3 S4 e4
  rw [e1, h.2.2.1 (104, 7, 6) (by decide)]
  have r1 := RC_nu (v := 0) h (show (104, 7, 6) ∈ scT by decide) (by decide)
  have r2 := RC_nuR (v := 0) (R' := R) r1 (show (105, 2, 7) ∈ scT by decide) (fun t ht => by rw [nu_s] at ht; omega)
  have r3 := RC_nu (v := 0) r2 (show (104, 8, 13) ∈ scT by decide) (by decide)
  rw [e4, e3, e2]
  refine hK _ ⟨b, g, RC_T r3 (fun k P hk hT => ?_) (fun k hk => ?_)⟩ (hi_tr (hi_su (by decide)) (hi_tr (hi_su (by decide)) (hi_su (by decide))))
  · have hT : tcl T k = some P := hT
    unfold tcl at hT
    split at hT
    · exact hT
    · cases hT
  · show tcl T (1 + k) = T (1 + k)
    unfold tcl
    rw [if_pos (by omega)]
theorem c_pair {x : Int32} (w : WF N T R) (h : RC b g N T R S) (hK : D8 (f_pair N T R x) S K) : w_X8_pair x S K := by
  have h7 := (n7_le w).1
  unfold w_X8_pair w_X8_pair_20
  unfold f_pair D8 at hK
  refine ⟨fun q => ?_, fun q => ?_⟩
  · rw [Int32.lt_iff_toInt_lt, Int32.toInt_zero] at q
    rw [if_neg (by omega)] at hK
    exact hK S ⟨b, g, h⟩ hi_rf
  · obtain ⟨v, hv, rfl⟩ := nI_of q
    rw [nI_toInt hv] at hK
    have s7 : S 105 2 = nI (N 7) := h.2.2.1 (105, 2, 7) (by decide)
    rw [s7]
    refine pk_lt v (N 7) (fun q2 => ⟨vp_in_nI (by omega) (by decide), ?_⟩) (fun q2 => ?_)
    · rw [if_pos ⟨by omega, by omega⟩, show (v : Int).toNat = v from rfl] at hK
      have hr := h.2.2.2.2.2.2.2.2.2 v q2
      rw [m_rf hv, hr.1, hr.2]
      have e3 : (100 * nI (R v).1 + nI (R v).2 : Int32) = nI (100 * (R v).1 + (R v).2) := by
        rw [← nI_add]
        congr 1
        exact pk_mul 100 _
      rw [e3]
      exact hK S ⟨b, g, h⟩ hi_rf
    · rw [if_neg (by omega)] at hK
      exact hK S ⟨b, g, h⟩ hi_rf
theorem c_count {x : Int32} (w : WF N T R) (h : RC b g N T R S) (hK : D8 (f_count N T R x) S K) : w_X8_count x S K := by
  have w13 : N 13 ≤ 1 := w.2.2.2.2.2.2.1
  have hk := hK S ⟨b, g, h⟩ hi_rf
  have hs := h.2.2.1
  unfold f_count at hk
  unfold w_X8_count
  have nq : ∀ v : Int32, (0 ≤ v.toInt ∧ v.toInt ≤ 11) → (x.toInt < 0 ∨ 11 < x.toInt) → x ≠ v := fun v h1 h2 e => by rw [e] at h2; omega
  refine ⟨fun q => ?_, fun q => ?_, fun q => ?_, fun q => ?_, fun q => ?_, fun q => ?_, fun q => ?_, fun q => ?_, fun q => ?_, fun q => ?_, fun q => ?_, fun q => ?_, fun q => ?_⟩
  · rw [if_neg (nq 0 (by decide) q), if_neg (nq 1 (by decide) q), if_neg (nq 2 (by decide) q), if_neg (nq 3 (by decide) q), if_neg (nq 4 (by decide) q), if_neg (nq 5 (by decide) q), if_neg (nq 6 (by decide) q), if_neg (nq 7 (by decide) q), if_neg (nq 8 (by decide) q), if_neg (nq 9 (by decide) q), if_neg (nq 10 (by decide) q), if_neg (nq 11 (by decide) q)] at hk
    exact hk
  all_goals subst q
  · rw [if_pos rfl] at hk; rw [hs (1, 0, 0) (by decide)]; exact hk
  · rw [if_neg (by decide), if_pos rfl] at hk; rw [hs (1, 1, 1) (by decide)]; exact hk
  · rw [if_neg (by decide), if_neg (by decide), if_pos rfl] at hk; rw [hs (104, 7, 6) (by decide)]; exact hk
  · rw [if_neg (by decide), if_neg (by decide), if_neg (by decide), if_pos rfl] at hk; rw [hs (105, 2, 7) (by decide)]; exact hk
  · rw [if_neg (by decide), if_neg (by decide), if_neg (by decide), if_neg (by decide), if_pos rfl] at hk; rw [hs (104, 11, 14) (by decide)]; exact hk
  · rw [if_neg (by decide), if_neg (by decide), if_neg (by decide), if_neg (by decide), if_neg (by decide), if_pos rfl] at hk; rw [hs (104, 12, 15) (by decide)]; exact hk
  · rw [if_neg (by decide), if_neg (by decide), if_neg (by decide), if_neg (by decide), if_neg (by decide), if_neg (by decide), if_pos rfl] at hk; rw [hs (104, 13, 16) (by decide)]; exact hk
  · rw [if_neg (by decide), if_neg (by decide), if_neg (by decide), if_neg (by decide), if_neg (by decide), if_neg (by decide), if_neg (by decide), if_pos rfl] at hk; rw [hs (104, 14, 17) (by decide)]; exact hk
  · rw [if_neg (by decide), if_neg (by decide), if_neg (by decide), if_neg (by decide), if_neg (by decide), if_neg (by decide), if_neg (by decide), if_neg (by decide), if_pos rfl] at hk; rw [hs (94, 6, 18) (by decide)]; exact hk
  · rw [if_neg (by decide), if_neg (by decide), if_neg (by decide), if_neg (by decide), if_neg (by decide), if_neg (by decide), if_neg (by decide), if_neg (by decide), if_neg (by decide), if_pos rfl] at hk
    rw [hs (104, 8, 13) (by decide)]
    refine pk_eq (N 13) 0 (fun e => ?_) (fun e => ?_)
    · rw [e] at hk; exact hk
    · rw [show N 13 = 1 by omega] at hk; exact hk
  · rw [if_neg (by decide), if_neg (by decide), if_neg (by decide), if_neg (by decide), if_neg (by decide), if_neg (by decide), if_neg (by decide), if_neg (by decide), if_neg (by decide), if_neg (by decide), if_pos rfl] at hk; rw [h.2.2.2.2.2.2.1]; exact hk
  · rw [if_neg (by decide), if_neg (by decide), if_neg (by decide), if_neg (by decide), if_neg (by decide), if_neg (by decide), if_neg (by decide), if_neg (by decide), if_neg (by decide), if_neg (by decide), if_neg (by decide), if_pos rfl] at hk; rw [hs (94, 5, 19) (by decide)]; exact hk
end OPC
