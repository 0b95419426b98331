/-! the reference: zeros -/
def paF (p : Nat) : Nat → Nat
  | 0 => 1
  | v + 1 => if 2500 < paF p v then paF p v else paF p v * p
theorem paF_le {p : Nat} (hp : 2 ≤ p ∧ p ≤ 251) : ∀ v, 1 ≤ paF p v ∧ paF p v ≤ 627500
  | 0 => ⟨Nat.le_refl 1, show 1 ≤ 627500 by decide⟩
  | v + 1 => by
    have ih := paF_le hp v
    unfold paF
    split
    · exact ih
    · exact ⟨Nat.le_trans (by omega) (Nat.mul_le_mul ih.1 hp.1), Nat.mul_le_mul (show paF p v ≤ 2500 by omega) hp.2⟩
def dgp (p k : Nat) : Nat → Nat := fun v => k / p ^ v % p
section OPS
variable {N : Nat → Nat} {T : Nat → Option Po} {R : Nat → Nat × Nat} {S : St} {K : Int32 → St → Prop}
def zb (N : Nat → Nat) (T : Nat → Option Po) (k : Nat) : Bool := (List.range (N 6)).all (fun i => decide (vlF (N 0) (dgp (N 0) k) (gt T (25 + i)) = 0))
def zc (N : Nat → Nat) (T : Nat → Option Po) : Nat → Nat
  | 0 => 0
  | k + 1 => zc N T k + (if zb N T k = true then 1 else 0)
theorem zc_le : ∀ k, zc N T k ≤ k
  | 0 => Nat.le_refl _
  | k + 1 => by
    have := zc_le k
    unfold zc
    split <;> omega
def f_zeros (N : Nat → Nat) (T : Nat → Option Po) (R : Nat → Nat × Nat) : Int32 × (Nat → Nat) × (Nat → Option Po) × (Nat → Nat × Nat) :=
  if 2500 < paF (N 0) (N 1) then (-3, N, T, R) else (nI (zc N T (paF (N 0) (N 1))), N, T, R)
theorem m_zeros (w : WF N T R) (h : M9 N T R S) (hK : D9 (f_zeros N T R) S K) : w_X9_zeros S K := by
  have hb := prm_b w.1
  have wn := w.2.1
  have w6 : N 6 ≤ 18 := w.2.2.2.2.2.2.2.1
  have pb := fun v => paF_le hb v
  unfold f_zeros at hK
  have main : paF (N 0) (N 1) ≤ 2500 → D9 (nI (zc N T (paF (N 0) (N 1))), N, T, R) S K → ∃ f, q_it (fun _ _ _ => False) (w_X9_zeros_50 K (nI (paF (N 0) (N 1)))) f 0 0 S := by
    intro hle hK
    generalize hm : paF (N 0) (N 1) = m at hle hK
    have loop : ∀ (d k : Nat) (S' : St), k + d = m → fr9 [235] [] S S' → q_it (fun _ _ _ => False) (w_X9_zeros_50 K (nI m)) (d + 1) (nI (zc N T k)) (nI k) S' := by
      intro d
      induction d with
      | zero =>
        intro k S' hk f
        rw [q_it_s]
        unfold w_X9_zeros_50
        refine pk_le m k (fun _ => ?_) (fun q => by omega)
        rw [show k = m by omega]
        exact hK S' (M9_fr h f (by decide) (by decide)) (lo_fr f (by decide))
      | succ d ih =>
        intro k S' hk f
        rw [q_it_s]
        generalize q_it (fun _ _ _ => False) (w_X9_zeros_50 K (nI m)) (d + 1) = k2 at ih ⊢
        unfold w_X9_zeros_50
        refine pk_le m k (fun q => by omega) (fun _ => ?_)
        have zl := zc_le (N := N) (T := T) k
        -- the end of a point
        have fin : ∀ S1 : St, fr9 [235] [] S S1 → ∀ b : Nat, b ≤ 1 → (b = 1 ↔ zb N T k = true) → w_X9_zeros_141 K k2 (nI m) (nI (zc N T k)) (nI k) (nI b) S1 := by
          intro S1 f1 b hb1 hbz
          unfold w_X9_zeros_141 w_X9_zeros_152
          have go := ih (k + 1) S1 (by omega) f1
          have ez : zc N T (k + 1) = zc N T k + (if zb N T k = true then 1 else 0) := rfl
          refine pk_eq b 0 (fun q => ?_) (fun q => ?_)
          · rw [if_neg (fun z => by have := hbz.mpr z; omega)] at ez
            intro x2 e2 x3 e3
            rw [m_lit 0, nI_add, ← ez] at e2
            rw [m_lit 1, nI_add] at e3
            subst e2; subst e3
            exact go
          · rw [if_pos (hbz.mp (by omega))] at ez
            intro x2 e2 x3 e3
            rw [m_lit 1, nI_add, ← ez] at e2
            rw [m_lit 1, nI_add] at e3
            subst e2; subst e3
            exact go
        -- all of the basis at a point
        have all : ∀ S1 : St, fr9 [235] [] S S1 → (∀ v, v < 4 → S1 235 v = nI (dgp (N 0) k v)) → ∃ f, q_it (fun _ _ _ => False) (w_X9_zeros_102 K k2 (nI m) (nI (zc N T k)) (nI k)) f 1 0 S1 := by
          intro S1 f1 hpt
          have h1 := M9_fr h f1 (by decide) (by decide)
          have lp : ∀ (d i : Nat), i + d = N 6 → (∀ u, u < i → vlF (N 0) (dgp (N 0) k) (gt T (25 + u)) = 0) → q_it (fun _ _ _ => False) (w_X9_zeros_102 K k2 (nI m) (nI (zc N T k)) (nI k)) (d + 2) 1 (nI i) S1 := by
            intro d
            induction d with
            | zero =>
              intro i hi hu
              rw [q_it_s]
              unfold w_X9_zeros_102
              rw [h1.1 6 (by decide)]
              refine pk_le (N 6) i (fun _ => ?_) (fun q => by omega)
              refine fin S1 f1 1 (by decide) ⟨fun _ => ?_, fun _ => rfl⟩
              unfold zb
              rw [List.all_eq_true]
              intro u hu2
              rw [List.mem_range] at hu2
              exact decide_eq_true (hu u (by omega))
            | succ d ih2 =>
              intro i hi hu
              have hil : i < N 6 := by omega
              rw [q_it_s]
              have bad : vlF (N 0) (dgp (N 0) k) (gt T (25 + i)) ≠ 0 → q_it (fun _ _ _ => False) (w_X9_zeros_102 K k2 (nI m) (nI (zc N T k)) (nI k)) (d + 2) 0 (nI (i + 1)) S1 := fun q => by
                rw [q_it_s]
                unfold w_X9_zeros_102
                have fz : w_X9_zeros_141 K k2 (nI m) (nI (zc N T k)) (nI k) 0 S1 := by
                  refine fin S1 f1 0 (by decide) ⟨fun z => by omega, fun z => ?_⟩
                  unfold zb at z
                  rw [List.all_eq_true] at z
                  exact absurd (of_decide_eq_true (z i (List.mem_range.mpr hil))) q
                exact ⟨fun _ => fz, fun _ => ⟨fun _ => fz, fun z => absurd rfl z⟩⟩
              generalize q_it (fun _ _ _ => False) (w_X9_zeros_102 K k2 (nI m) (nI (zc N T k)) (nI k)) (d + 2) = k3 at ih2 bad ⊢
              unfold w_X9_zeros_102
              rw [h1.1 6 (by decide)]
              refine pk_le (N 6) i (fun q => by omega) (fun _ => ⟨fun z => absurd z (by decide), fun _ => ?_⟩)
              obtain ⟨hT, g, _⟩ := hd_ok w hil
              rw [m_lit 25, nI_add]
              have vl := vl_lt (pt := dgp (N 0) k) (show 0 < N 0 by omega) (gt T (25 + i))
              refine sp_valueAt (p := N 0) (pt := dgp (N 0) k) hb (by omega) (h1.1 0 (by decide)) (h1.2.1 _ _ (by omega) hT) g.1.2.2.2 g.1.2.2.1 (fun v hv => ⟨hpt v hv, Nat.mod_lt _ (by omega)⟩) ?_
              unfold w_X9_zeros_133
              refine pk_eq' (j := 0) (by omega) (by decide) (fun q => ?_) (fun q => ?_)
              · intro x6 e6
                rw [m_lit 1, nI_add] at e6
                subst e6
                exact bad q
              · intro x6 e6
                rw [m_lit 1, nI_add] at e6
                subst e6
                refine ih2 (i + 1) (by omega) (fun u hu2 => ?_)
                by_cases q2 : u = i
                · rw [q2]; exact q
                · exact hu u (by omega)
          exact ⟨N 6 + 2, lp (N 6) 0 (by omega) (fun u hu => by omega)⟩
        have pts : ∀ (d v : Nat) (S1 : St), v + d = 4 → fr9 [235] [] S S1 → (∀ u, u < v → S1 235 u = nI (dgp (N 0) k u)) → q_it (fun _ _ _ => False) (w_X9_zeros_61 K k2 (nI m) (nI (zc N T k)) (nI k)) (d + 1) (nI (k / N 0 ^ v)) (nI v) S1 := by
          intro d
          induction d with
          | zero =>
            intro v S1 hv f1 hu
            rw [q_it_s]
            unfold w_X9_zeros_61
            rw [show v = 4 by omega] at hu ⊢
            exact pk_le 4 4 (fun _ => all S1 f1 hu) (fun q => by omega)
          | succ d ih2 =>
            intro v S1 hv f1 hu
            rw [q_it_s]
            generalize q_it (fun _ _ _ => False) (w_X9_zeros_61 K k2 (nI m) (nI (zc N T k)) (nI k)) (d + 1) = k3 at ih2 ⊢
            unfold w_X9_zeros_61
            refine pk_le 4 v (fun q => by omega) (fun _ => ?_)
            have s0 : S1 224 0 = nI (N 0) := by rw [f1.2 0 (by decide)]; exact h.1 0 (by decide)
            have kb : k / N 0 ^ v ≤ k := Nat.div_le_self _ _
            rw [s0, m_rem (by omega) (by omega) (by omega), m_rf (by omega)]
            refine ⟨nI_ne0 (by omega) (by omega), vp_in_nI (by omega) (by decide), ?_⟩
            intro S5 e5
            have f5 : fr9 [235] [] S1 S5 := by rw [e5]; exact fr9_su (by decide) (by decide)
            rw [f5.2 0 (by decide), s0, pk_div (by omega) (by omega) (by omega)]
            refine ⟨nI_ne0 (by omega) (by omega), ?_⟩
            intro x4 e4 x5 e6
            rw [m_lit 1, nI_add] at e6
            rw [Nat.div_div_eq_div_mul, ← Nat.pow_succ] at e4
            subst e4; subst e6
            refine ih2 (v + 1) S5 (by omega) (fr9_tr f1 f5) (fun u hu2 => ?_)
            rw [e5]
            by_cases q : u = v
            · rw [q, su_s]; rfl
            · rw [su_n _ _ (Or.inr q)]; exact hu u (by omega)
        have := pts 4 0 S' (by omega) f (fun u hu => by omega)
        rw [Nat.pow_zero, Nat.div_one] at this
        exact ⟨5, this⟩
    exact ⟨m + 1, loop m 0 S (by omega) fr9_rf⟩
  have loop : ∀ (d v : Nat), v + d = N 1 → q_it (fun _ _ _ => False) (w_X9_zeros_4 K) (d + 1) (nI (paF (N 0) v)) (nI v) S := by
    intro d
    induction d with
    | zero =>
      intro v hv
      have pv := pb (N 1)
      rw [q_it_s]
      unfold w_X9_zeros_4
      rw [h.1 1 (by decide)]
      refine pk_le (N 1) v (fun _ => ?_) (fun q => by omega)
      rw [show v = N 1 by omega]
      refine pk_le (paF (N 0) (N 1)) 2500 (fun q => ?_) (fun q => ?_)
      · rw [if_neg (by omega)] at hK
        exact main q hK
      · rw [if_pos q] at hK
        exact hK S h lo_rf
    | succ d ih =>
      intro v hv
      have pv := pb v
      rw [q_it_s]
      generalize q_it (fun _ _ _ => False) (w_X9_zeros_4 K) (d + 1) = k2 at ih ⊢
      unfold w_X9_zeros_4 w_X9_zeros_29
      rw [h.1 1 (by decide)]
      refine pk_le (N 1) v (fun q => by omega) (fun _ => ?_)
      have go := ih (v + 1) (by omega)
      have ep : paF (N 0) (v + 1) = if 2500 < paF (N 0) v then paF (N 0) v else paF (N 0) v * N 0 := rfl
      refine pk_le (paF (N 0) v) 2500 (fun q => ?_) (fun q => ?_)
      · rw [if_neg (by omega)] at ep
        rw [h.1 0 (by decide), pk_mul, ← ep]
        intro x2 e2
        rw [m_lit 1, nI_add] at e2
        subst e2
        exact go
      · rw [if_pos q] at ep
        rw [← ep]
        intro x2 e2
        rw [m_lit 1, nI_add] at e2
        subst e2
        exact go
  unfold w_X9_zeros
  exact ⟨N 1 + 1, loop (N 1) 0 (by omega)⟩
end OPS
