/-! rests, powers, the other small calls -/
def rs (p : Nat) (x : Int32) : Nat := (x.toInt % (p : Int)).toNat
theorem rs_lt {p : Nat} (h : 0 < p) (x : Int32) : rs p x < p := by
  unfold rs
  have h1 := Int.emod_nonneg x.toInt (show (p : Int) ≠ 0 by omega)
  have h2 := Int.emod_lt_of_pos x.toInt (show (0 : Int) < (p : Int) by omega)
  omega
theorem rs_nI {p n : Nat} (h : n < 2 ^ 31) : rs p (nI n) = n % p := by
  unfold rs
  rw [nI_toInt h]
  omega
theorem m_toInt {x : Int32} {n : Nat} (h : x.toInt = (n : Int)) : x = nI n := by
  have hb := Int32.toInt_lt x
  have hn : n < 2 ^ 31 := by omega
  apply Int32.toInt_inj.mp
  rw [nI_toInt hn, h]
theorem m_xor0 {x : Int32} {p : Nat} (hp : p < 2 ^ 31) : 0 ≤ (x ^^^ nI p) ↔ 0 ≤ x := by
  rw [Int32.le_iff_toInt_le, Int32.le_iff_toInt_le, Int32.toInt_zero]
  have key : ∀ z : Int32, (0 ≤ z.toInt) ↔ z.toBitVec.msb = false := by
    intro z
    show (0 ≤ z.toBitVec.toInt) ↔ _
    rw [BitVec.msb_eq_toInt, decide_eq_false_iff_not]
    omega
  have hpm : (nI p).toBitVec.msb = false := by
    rw [← key, nI_toInt hp]
    omega
  rw [key, key, Int32.toBitVec_xor, BitVec.msb_xor, hpm, Bool.xor_false]
theorem sp_floorMod {S : St} {K : Int32 → St → Prop} {x : Int32} {p : Nat} (h0 : 0 < p) (hp : p < 2 ^ 31) (hk : K (nI (rs p x)) S) : w_J9_floorMod_7cf53 x (nI p) S K := by
  unfold w_J9_floorMod_7cf53 w_J9_floorMod_7cf53_18
  refine ⟨nI_ne0 h0 hp, ?_⟩
  intro r er
  have et : r.toInt = x.toInt.tmod p := by rw [er, rem_toInt, nI_toInt hp]
  have hb := tmod_bounds (a := x.toInt) (M := (p : Int)) (by omega)
  have e1 := Int.emod_nonneg x.toInt (show (p : Int) ≠ 0 by omega)
  have e2 := Int.emod_lt_of_pos x.toInt (show (0 : Int) < (p : Int) by omega)
  rw [m_xor0 hp]
  refine ⟨fun h => ?_, fun h => ⟨fun h2 => ?_, fun h2 => ?_⟩⟩
  · rw [Int32.le_iff_toInt_le, Int32.toInt_zero] at h
    rw [Int.tmod_eq_emod_of_nonneg h] at et
    rw [m_toInt (x := r) (n := rs p x) (by rw [et]; unfold rs; omega)]
    exact hk
  · rw [Int32.le_iff_toInt_le, Int32.toInt_zero] at h
    have hz : x.toInt.tmod p = 0 := by rw [← et, h2]; rfl
    have hz2 : x.toInt % p = 0 := by
      exact Int.emod_eq_zero_of_dvd (Int.dvd_of_tmod_eq_zero hz)
    rw [m_toInt (x := r) (n := rs p x) (by rw [et, hz]; unfold rs; omega)]
    exact hk
  · rw [Int32.le_iff_toInt_le, Int32.toInt_zero] at h
    have hnz : x.toInt.tmod p ≠ 0 := by
      intro q
      apply h2
      apply Int32.toInt_inj.mp
      rw [et, q]
      rfl
    have hnd : ¬ (p : Int) ∣ x.toInt := fun q => hnz (Int.tmod_eq_zero_of_dvd q)
    have hem : x.toInt % p = x.toInt.tmod p + p := by
      have e := Int.tmod_eq_emod (a := x.toInt) (b := (p : Int))
      rw [if_neg (by rintro (q | q)
                     · omega
                     · exact hnd q)] at e
      omega
    have hadd : (r + nI p).toInt = r.toInt + p := by
      rw [Int32.toInt_add, nI_toInt hp, et]
      apply Int.bmod_eq_of_le <;> omega
    rw [m_toInt (x := r + nI p) (n := rs p x) (by rw [hadd, et]; unfold rs; omega)]
    exact hk
theorem sp_restOf {S : St} {K : Int32 → St → Prop} {x : Int32} {p : Nat} (hS : S 1 0 = nI p) (h0 : 2 ≤ p ∧ p ≤ 251) (hk : K (nI (rs p x)) S) : w_X5_restOf x S K := by
  unfold w_X5_restOf
  rw [hS]
  exact sp_floorMod (by omega) (by omega) hk
theorem sp_restOf' {S : St} {K : Int32 → St → Prop} {n : Nat} {p : Nat} (hS : S 1 0 = nI p) (h0 : 2 ≤ p ∧ p ≤ 251) (hn : n < 2 ^ 31) (hk : K (nI (n % p)) S) : w_X5_restOf (nI n) S K := by
  refine sp_restOf hS h0 ?_
  rw [rs_nI hn]
  exact hk
theorem sp_max {S : St} {K : Int32 → St → Prop} {a b : Nat} (ha : a < 2 ^ 31) (hb : b < 2 ^ 31) (hk : K (nI (max a b)) S) : w_J9_max_7cf53 (nI a) (nI b) S K := by
  unfold w_J9_max_7cf53
  refine pk_lt a b (fun h => ?_) (fun h => ?_)
  · rw [Nat.max_eq_right (by omega)] at hk; exact hk
  · rw [Nat.max_eq_left (by omega)] at hk; exact hk
theorem sp_min {S : St} {K : Int32 → St → Prop} {a b : Nat} (ha : a < 2 ^ 31) (hb : b < 2 ^ 31) (hk : K (nI (min a b)) S) : w_J9_min_7cf53 (nI a) (nI b) S K := by
  unfold w_J9_min_7cf53
  refine pk_lt b a (fun h => ?_) (fun h => ?_)
  · rw [Nat.min_eq_right (by omega)] at hk; exact hk
  · rw [Nat.min_eq_left (by omega)] at hk; exact hk
/-- how two numbers stand -/
def cmpN (a b : Nat) : Int32 := if a < b then -1 else if a = b then 0 else 1
theorem sp_compare {S : St} {K : Int32 → St → Prop} {a b : Nat} (ha : a < 2 ^ 31) (hb : b < 2 ^ 31) (hk : K (cmpN a b) S) : w_J6_compare_7cf53 (nI a) (nI b) S K := by
  unfold w_J6_compare_7cf53
  unfold cmpN at hk
  refine pk_le b a (fun h => ⟨fun h2 => ?_, fun h2 => ?_⟩) (fun h => ?_)
  · rw [nI_eq ha hb] at h2
    rw [if_neg (by omega), if_neg h2] at hk
    exact hk
  · rw [nI_eq ha hb] at h2
    rw [if_neg (by omega), if_pos h2] at hk
    exact hk
  · rw [if_pos h] at hk
    exact hk
theorem m_rem {a p : Nat} (ha : a < 2 ^ 31) (h0 : 0 < p) (hp : p < 2 ^ 31) : nI a - nI a / nI p * nI p = nI (a % p) := pk_rem ha h0 hp
theorem mul_lt' {a b p : Nat} (ha : a < p) (hb : b < p) (hp : p ≤ 251) : a * b < 2 ^ 20 := by
  have h1 : a * b ≤ 250 * 250 := Nat.mul_le_mul (by omega) (by omega)
  omega
theorem power_loop {p : Nat} (h0 : 2 ≤ p ∧ p ≤ 251) {x1 x2 : Int32} {S : St} (hS : S 1 0 = nI p) {K : Int32 → St → Prop} : ∀ (f e r q : Nat), e < f → e < 2 ^ 31 → r < p → q < p → K (nI (r * q ^ e % p)) S → q_it (fun _ _ _ _ => False) (w_X5_power_8 x1 x2 K) f (nI r) (nI q) (nI e) S := by
  intro f
  induction f with
  | zero => intro e r q he; omega
  | succ f ih =>
    intro e r q he h31 hr hq hk
    rw [q_it_s]
    unfold w_X5_power_8
    have hrq := mul_lt' hr hq h0.2
    have hqq := mul_lt' hq hq h0.2
    have next : 0 < e → ∀ r', r' < p → K (nI (r' * (q * q % p) ^ (e / 2) % p)) S → w_X5_power_31 x1 x2 K (q_it (fun _ _ _ _ => False) (w_X5_power_8 x1 x2 K) f) (nI r') (nI q) (nI e) S := by
      intro hpos r' hr' hk'
      unfold w_X5_power_31
      refine ⟨by rw [hS]; exact nI_ne0 (by omega) (by omega), ?_⟩
      rw [hS, pk_mul, m_rem (by omega) (by omega) (by omega)]
      intro x4 e4 x5 e5
      have e5' : x5 = nI (e / 2) := by rw [e5]; exact pk_shrN h31 (1 &&& 31) 1 (by decide)
      subst e4; subst e5'
      exact ih (e / 2) r' (q * q % p) (by omega) (by omega) hr' (Nat.mod_lt _ (by omega)) hk'
    refine pk_le e 0 (fun h => ?_) (fun h => ?_)
    · have hz : e = 0 := by omega
      subst hz
      rw [Nat.pow_zero, Nat.mul_one, Nat.mod_eq_of_lt hr] at hk
      exact hk
    · have hand : nI e &&& 1 = nI (e % 2) := pk_andN (by omega) 1 (by decide)
      rw [hand, m_lit 1, nI_eq (by omega) (by omega)]
      have hpow : ∀ b, (q * q % p) ^ b % p = (q * q) ^ b % p := fun b => by rw [← Nat.pow_mod]
      refine ⟨fun h2 => next (by omega) r hr ?_, fun h2 => ⟨by rw [hS]; exact nI_ne0 (by omega) (by omega), ?_⟩⟩
      · have e2 : q ^ e = (q * q) ^ (e / 2) := by
          rw [← Nat.pow_two, ← Nat.pow_mul]
          congr 1
          omega
        rw [Nat.mul_mod, hpow, ← Nat.mul_mod, ← e2]
        exact hk
      · rw [hS, pk_mul, m_rem (by omega) (by omega) (by omega)]
        intro x3 e3
        subst e3
        refine next (by omega) (r * q % p) (Nat.mod_lt _ (by omega)) ?_
        have e2 : q ^ e = q * (q * q) ^ (e / 2) := by
          rw [← Nat.pow_two, ← Nat.pow_mul, ← Nat.pow_succ']
          congr 1
          omega
        rw [Nat.mul_mod, hpow, Nat.mod_mod, ← Nat.mul_mod, Nat.mul_assoc, ← e2]
        exact hk
theorem sp_power {p : Nat} (h0 : 2 ≤ p ∧ p ≤ 251) {S : St} (hS : S 1 0 = nI p) {K : Int32 → St → Prop} {a e : Nat} (ha : a < p) (he : e < 2 ^ 31) (hk : K (nI (a ^ e % p)) S) : w_X5_power (nI a) (nI e) S K := by
  unfold w_X5_power
  exact ⟨e + 1, power_loop h0 hS (e + 1) e 1 a (by omega) he (by omega) ha (by rw [Nat.one_mul]; exact hk)⟩
theorem sp_inverse {p : Nat} (h0 : 2 ≤ p ∧ p ≤ 251) {S : St} (hS : S 1 0 = nI p) {K : Int32 → St → Prop} {a : Nat} (ha : a < p) (hk : K (nI (a ^ (p - 2) % p)) S) : w_X5_inverse (nI a) S K := by
  unfold w_X5_inverse
  rw [hS, m_lit 2, pk_sub h0.1]
  exact sp_power h0 hS ha (by omega) hk
theorem sp_leastMultiple {S : St} {K : Int32 → St → Prop} {x y : Mo} (hx : mle 127 x) (hy : mle 127 y) (hk : K (nI (en (mx x y))) S) : w_X1_leastMultiple (nI (en x)) (nI (en y)) S K := by
  have hx2 := mle_mono hx (show 127 ≤ 255 by omega)
  have hy2 := mle_mono hy (show 127 ≤ 255 by omega)
  unfold w_X1_leastMultiple
  have step : ∀ (v a : Nat) (k4 : Int32 → Int32 → St → Prop), v < 4 → k4 (nI (a + max (ex x v) (ex y v) * 256 ^ v)) (nI (v + 1)) S → w_X1_leastMultiple_4 (nI (en x)) (nI (en y)) K k4 (nI a) (nI v) S := by
    intro v a k4 hv hk4
    have hxv : ex x v < 2 ^ 31 := by unfold mle at hx; unfold ex; split <;> (try split) <;> (try split) <;> omega
    have hyv : ex y v < 2 ^ 31 := by unfold mle at hy; unfold ex; split <;> (try split) <;> (try split) <;> omega
    unfold w_X1_leastMultiple_4
    refine pk_le 4 v (fun h => by omega) (fun h => ?_)
    refine sp_exponentOf hx2 hv (sp_exponentOf hy2 hv (sp_max hxv hyv (sp_variable hv ?_)))
    intro x2 e2 x3 e3
    rw [pk_mul, nI_add] at e2
    subst e2
    rw [m_lit 1, nI_add] at e3
    subst e3
    exact hk4
  refine ⟨5, ?_⟩
  rw [q_it_s]
  refine step 0 0 _ (by decide) ?_
  rw [q_it_s]
  refine step 1 _ _ (by decide) ?_
  rw [q_it_s]
  refine step 2 _ _ (by decide) ?_
  rw [q_it_s]
  refine step 3 _ _ (by decide) ?_
  rw [q_it_s]
  unfold w_X1_leastMultiple_4
  refine pk_le 4 4 (fun _ => ?_) (fun h => by omega)
  have e : 0 + max (ex x 0) (ex y 0) * 256 ^ 0 + max (ex x 1) (ex y 1) * 256 ^ 1 + max (ex x 2) (ex y 2) * 256 ^ 2 + max (ex x 3) (ex y 3) * 256 ^ 3 = en (mx x y) := by
    rw [ex_0, ex_0, ex_1, ex_1, ex_2, ex_2, ex_3, ex_3]
    unfold en mx
    simp only
    omega
  rw [e]
  exact hk
theorem sp_hasVariable {S : St} {K : Int32 → St → Prop} {x : Int32} {n : Nat} (hS : S 1 1 = nI n) (hn : n ≤ 4) (h1 : ∀ v : Nat, v < n → x = nI v → K 1 S) (h0 : ¬ (0 ≤ x.toInt ∧ x.toInt < n) → K 0 S) : w_X5_hasVariable x S K := by
  unfold w_X5_hasVariable w_X5_hasVariable_16
  rw [hS]
  refine ⟨fun h => h0 ?_, fun h => ⟨fun h2 => h0 ?_, fun h2 => ?_⟩⟩
  · rw [Int32.lt_iff_toInt_lt, Int32.toInt_zero] at h; omega
  · rw [Int32.le_iff_toInt_le, nI_toInt (by omega)] at h2; omega
  · obtain ⟨j, hj, rfl⟩ := nI_of h
    rw [nI_leI (by omega) hj] at h2
    exact h1 j (by omega) rfl
