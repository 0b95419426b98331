/-! the reference: dividing, ranges, rests, inverses; writes of four ints -/
theorem sp_divides9 {a b i j : Nat} {x y : Mo} {S : St} {K : Int32 → St → Prop} (hxa : MA S a i x) (hyb : MA S b j y) (hx : mle 31 x) (hy : mle 31 y) (hia : i + 4 ≤ alen a) (hjb : j + 4 ≤ alen b) (hal : alen a < 2 ^ 30) (hbl : alen b < 2 ^ 30)
    (h1 : dv x y → K 1 S) (h0 : ¬ dv x y → K 0 S) : w_X9_divides a (nI i) b (nI j) S K := by
  have loop : ∀ (d t : Nat) (r : Int32), t + d = 4 → ((∀ w, w < t → ex x w ≤ ex y w) → r = 1) → (¬ (∀ w, w < t → ex x w ≤ ex y w) → r = 0) → q_it (fun _ _ _ => False) (w_X9_divides_6 a (nI i) b (nI j) K) (d + 1) r (nI t) S := by
    intro d
    induction d with
    | zero =>
      intro t r ht hr1 hr0
      have et : t = 4 := by omega
      subst et
      rw [q_it_s]
      unfold w_X9_divides_6
      refine pk_le 4 4 (fun _ => ?_) (fun h => by omega)
      have hd : dv x y ↔ ∀ w, w < 4 → ex x w ≤ ex y w := by
        constructor
        · intro h w hw
          unfold dv at h
          rcases (show w = 0 ∨ w = 1 ∨ w = 2 ∨ w = 3 by omega) with rfl | rfl | rfl | rfl
          · rw [ex_0, ex_0]; exact h.1
          · rw [ex_1, ex_1]; exact h.2.1
          · rw [ex_2, ex_2]; exact h.2.2.1
          · rw [ex_3, ex_3]; exact h.2.2.2
        · intro h
          exact ⟨h 0 (by decide), h 1 (by decide), h 2 (by decide), h 3 (by decide)⟩
      by_cases q : dv x y
      · rw [hr1 (hd.mp q)]
        exact ⟨rfl, h1 q⟩
      · rw [hr0 (fun z => q (hd.mpr z))]
        exact ⟨rfl, h0 q⟩
    | succ d ih =>
      intro t r ht hr1 hr0
      rw [q_it_s]
      unfold w_X9_divides_6
      refine pk_le 4 t (fun h => by omega) (fun h => ?_)
      have hxu : q_rf (nI i + nI t) = i + t := q_rfa (by omega)
      have hyu : q_rf (nI j + nI t) = j + t := q_rfa (by omega)
      have lx := ex_le hx t
      have ly := ex_le hy t
      rw [hxu, hyu, hxa t (by omega), hyb t (by omega), nI_add, nI_add]
      refine ⟨vp_in_nI (by omega) (by omega), vp_in_nI (by omega) (by omega), ?_⟩
      have hr : r = 1 ∨ r = 0 := by
        by_cases q : ∀ w, w < t → ex x w ≤ ex y w
        · exact Or.inl (hr1 q)
        · exact Or.inr (hr0 q)
      refine pk_lt (ex y t) (ex x t) (fun q => ?_) (fun q => ?_)
      · unfold w_X9_divides_34
        intro x4 e4 x5 e5
        have e4' : x4 = 0 := by rw [e4]; rcases hr with e | e <;> rw [e] <;> decide
        rw [m_lit 1, nI_add] at e5
        subst e5
        refine ih (t + 1) x4 (by omega) (fun z => ?_) (fun _ => e4')
        have := z t (by omega)
        omega
      · unfold w_X9_divides_34
        intro x4 e4 x5 e5
        have e4' : x4 = r := by rw [e4]; rcases hr with e | e <;> rw [e] <;> decide
        rw [m_lit 1, nI_add] at e5
        subst e5
        rw [e4']
        refine ih (t + 1) r (by omega) (fun z => hr1 (fun w hw => z w (by omega))) (fun z => hr0 (fun z2 => z (fun w hw => ?_)))
        by_cases hwt : w = t
        · rw [hwt]; exact q
        · exact z2 w (by omega)
  unfold w_X9_divides
  exact ⟨5, loop 4 0 1 (by omega) (fun _ => rfl) (fun z => absurd (fun w hw => absurd hw (Nat.not_lt_zero w)) z)⟩
theorem sp_in {x : Int32} {lo hi : Int32} {S : St} {K : Int32 → St → Prop} (h1 : lo ≤ x → x ≤ hi → K 1 S) (h0 : ¬ (lo ≤ x ∧ x ≤ hi) → K 0 S) : w_X9_in x lo hi S K := by
  unfold w_X9_in w_X9_in_14
  refine ⟨fun h => h0 ?_, fun h => ⟨fun h2 => h0 ?_, fun h2 => h1 ?_ ?_⟩⟩
  · rintro ⟨a, _⟩
    rw [Int32.le_iff_toInt_le] at a; rw [Int32.lt_iff_toInt_lt] at h; omega
  · rintro ⟨_, a⟩
    rw [Int32.le_iff_toInt_le] at a; rw [Int32.lt_iff_toInt_lt] at h2; omega
  · rw [Int32.le_iff_toInt_le]; rw [Int32.lt_iff_toInt_lt] at h; omega
  · rw [Int32.le_iff_toInt_le]; rw [Int32.lt_iff_toInt_lt] at h2; omega
theorem lrem_mod (x y : Int64) : x - (x / y) * y = x % y := by
  apply Int64.toInt_inj.mp
  have h1 := Int64.le_toInt (x % y)
  have h2 := Int64.toInt_lt (x % y)
  rw [Int64.toInt_sub, Int64.toInt_mul, Int64.toInt_div, Int.bmod_mul_bmod, Int.sub_bmod_bmod, Int.mul_comm (x.toInt.tdiv y.toInt), ← Int.tmod_def, ← Int64.toInt_mod]
  exact Int.bmod_eq_of_le_mul_two (by omega) (by omega)
theorem tmod_rs {p : Nat} (h0 : 0 < p) (hp : p < 2 ^ 30) {x : Int32} {r : Int32} (et : r.toInt = x.toInt.tmod p) : (0 ≤ r → r = nI (rs p x)) ∧ (¬ 0 ≤ r → r + nI p = nI (rs p x)) := by
  have hb := tmod_bounds (a := x.toInt) (M := (p : Int)) (by omega)
  have e1 := Int.emod_nonneg x.toInt (show (p : Int) ≠ 0 by omega)
  have e2 := Int.emod_lt_of_pos x.toInt (show (0 : Int) < (p : Int) by omega)
  have em := Int.tmod_eq_emod (a := x.toInt) (b := (p : Int))
  constructor
  · intro h
    rw [Int32.le_iff_toInt_le, Int32.toInt_zero, et] at h
    apply m_toInt
    rw [et]
    unfold rs
    split at em <;> omega
  · intro h
    rw [Int32.le_iff_toInt_le, Int32.toInt_zero, et] at h
    apply m_toInt
    have hadd : (r + nI p).toInt = r.toInt + p := by
      rw [Int32.toInt_add, nI_toInt (by omega), et]
      apply Int.bmod_eq_of_le <;> omega
    rw [hadd, et]
    unfold rs
    split at em <;> omega
theorem sp_rest9 {x : Int32} {p : Nat} {S : St} {K : Int32 → St → Prop} (hS : S 224 0 = nI p) (h0 : 0 < p) (hp : p < 2 ^ 30) (hk : K (nI (rs p x)) S) : w_X9_rest x.toInt64 S K := by
  unfold w_X9_rest
  rw [hS, lrem_mod]
  have ep : (nI p).toInt64.toInt = (p : Int) := by rw [Int32.toInt_toInt64, nI_toInt (by omega)]
  refine ⟨fun h => ?_, ?_⟩
  · have := congrArg Int64.toInt h
    rw [ep] at this
    have z : (0 : Int64).toInt = 0 := by decide
    omega
  · intro r er
    have hb := tmod_bounds (a := x.toInt) (M := (p : Int)) (by omega)
    have et : r.toInt = x.toInt.tmod p := by
      rw [er, Int64.toInt_toInt32, Int64.toInt_mod, Int32.toInt_toInt64, ep]
      apply Int.bmod_eq_of_le <;> omega
    have key := tmod_rs h0 hp et
    exact ⟨fun h => by rw [key.1 h]; exact hk, fun h => by rw [key.2 h]; exact hk⟩
/-- the primes to 251 -/
def prm (p : Nat) : Bool := decide (2 ≤ p) && decide (p ≤ 251) && (List.range p).all (fun d => decide (d < 2) || decide (p % d ≠ 0))
theorem prm_b {p : Nat} (h : prm p = true) : 2 ≤ p ∧ p ≤ 251 := by
  unfold prm at h
  simp only [Bool.and_eq_true, decide_eq_true_eq] at h
  exact h.1
theorem fermat : ∀ p, p < 252 → prm p = true → ∀ v, v < p → 0 < v → v ^ (p - 2) * v % p = 1 := by decide +kernel
def iv (p v : Nat) : Nat := v ^ (p - 2) % p
theorem iv_mul {p v : Nat} (hp : prm p = true) (h0 : 0 < v) (h : v < p) : iv p v * v % p = 1 := by
  have hb := prm_b hp
  unfold iv
  rw [Nat.mul_mod, Nat.mod_mod, ← Nat.mul_mod]
  exact fermat p (by omega) hp v h h0
theorem iv_lt {p v : Nat} (hp : prm p = true) : iv p v < p := Nat.mod_lt _ (by have := prm_b hp; omega)
theorem iv_pos {p v : Nat} (hp : prm p = true) (h0 : 0 < v) (h : v < p) : 0 < iv p v := by
  have := iv_mul hp h0 h
  rcases Nat.eq_zero_or_pos (iv p v) with e | e
  · rw [e, Nat.zero_mul, Nat.zero_mod] at this; omega
  · exact e
theorem iv_uniq {p v k : Nat} (hp : prm p = true) (h0 : 0 < v) (h : v < p) (hk : k < p) (e : k * v % p = 1) : k = iv p v := by
  have e2 := iv_mul hp h0 h
  have e3 : (k * v) * iv p v % p = iv p v := by
    rw [Nat.mul_mod, e, Nat.one_mul, Nat.mod_mod, Nat.mod_eq_of_lt (iv_lt hp)]
  have e4 : (k * v) * iv p v % p = k := by
    rw [Nat.mul_assoc, Nat.mul_comm v, Nat.mul_mod, e2, Nat.mul_one, Nat.mod_mod, Nat.mod_eq_of_lt hk]
  omega
theorem iv_one {p : Nat} (hp : prm p = true) : iv p 1 = 1 := by
  have hb := prm_b hp
  unfold iv
  rw [Nat.one_pow]
  exact Nat.mod_eq_of_lt (by omega)
theorem sp_inverse9 {p v : Nat} {S : St} {K : Int32 → St → Prop} (hS : S 224 0 = nI p) (hp : prm p = true) (h0 : 0 < v) (h : v < p) (hk : K (nI (iv p v)) S) : w_X9_inverse (nI v) S K := by
  have hb := prm_b hp
  have hl := iv_lt (v := v) hp
  have loop : ∀ (d k : Nat), k + d = iv p v → 0 < k → q_it (fun _ _ => False) (w_X9_inverse_2 (nI v) K) (d + 1) (nI k) S := by
    intro d
    induction d with
    | zero =>
      intro k hd _
      rw [q_it_s]
      unfold w_X9_inverse_2
      have hm := mul_lt' (a := k) (b := v) (p := p) (by omega) h hb.2
      rw [hS, pk_mul, m_rem (by omega) (by omega) (by omega), m_lit 1, nI_eq (by have := Nat.mod_lt (k * v) (show p > 0 by omega); omega) (by omega)]
      have ek : k = iv p v := by omega
      refine ⟨nI_ne0 (by omega) (by omega), fun _ => by rw [ek]; exact hk, fun q => absurd (by rw [ek]; exact iv_mul hp h0 h) q⟩
    | succ d ih =>
      intro k hd hk0
      rw [q_it_s]
      unfold w_X9_inverse_2
      have hm := mul_lt' (a := k) (b := v) (p := p) (by omega) h hb.2
      rw [hS, pk_mul, m_rem (by omega) (by omega) (by omega), m_lit 1, nI_eq (by have := Nat.mod_lt (k * v) (show p > 0 by omega); omega) (by omega)]
      refine ⟨nI_ne0 (by omega) (by omega), fun q => ?_, fun _ => ?_⟩
      · have := iv_uniq hp h0 h (by omega) q
        omega
      · intro x2 e2
        rw [nI_add] at e2
        subst e2
        exact ih (k + 1) (by omega) (by omega)
  unfold w_X9_inverse
  have hpos := iv_pos hp h0 h
  exact ⟨_, loop (iv p v - 1) 1 (by omega) (by omega)⟩
/-- some ints written, from i on -/
def w4 (S : St) (a i : Nat) (g : Nat → Int32) (t : Nat) : St := fun c j => if c = a ∧ i ≤ j ∧ j < i + t then g (j - i) else S c j
theorem w4_0 (S : St) (a i : Nat) (g : Nat → Int32) : w4 S a i g 0 = S := by
  funext c j
  unfold w4
  rw [if_neg (by omega)]
theorem w4_s (S : St) (a i : Nat) (g : Nat → Int32) (t : Nat) : su (w4 S a i g t) a (i + t) (g t) = w4 S a i g (t + 1) := by
  funext c j
  rw [su_at]
  unfold w4
  by_cases h : c = a ∧ j = i + t
  · rw [if_pos h, if_pos (by omega), h.2, Nat.add_sub_cancel_left]
  · rw [if_neg h]
    by_cases h2 : c = a ∧ i ≤ j ∧ j < i + t
    · rw [if_pos h2, if_pos (by omega)]
    · rw [if_neg h2, if_neg (by omega)]
theorem w4_ne (S : St) {a c : Nat} (i : Nat) (g : Nat → Int32) (t : Nat) (h : c ≠ a) : w4 S a i g t c = S c := by
  funext j
  unfold w4
  rw [if_neg (by omega)]
theorem w4_n (S : St) (a i : Nat) (g : Nat → Int32) (t : Nat) {c j : Nat} (h : c ≠ a ∨ j < i ∨ i + t ≤ j) : w4 S a i g t c j = S c j := by
  unfold w4
  rw [if_neg (by omega)]
theorem w4_at (S : St) (a i : Nat) (g : Nat → Int32) {t v : Nat} (h : v < t) : w4 S a i g t a (i + v) = g v := by
  unfold w4
  rw [if_pos (by omega), Nat.add_sub_cancel_left]
theorem loop4 {F : (Int32 → St → Prop) → Int32 → St → Prop} {S : St} {a i : Nat} {g : Nat → Int32} (hb : ∀ (v : Nat) (k : Int32 → St → Prop), v < 4 → k (nI (v + 1)) (w4 S a i g (v + 1)) → F k (nI v) (w4 S a i g v)) (he : ∀ k : Int32 → St → Prop, F k (nI 4) (w4 S a i g 4)) : ∃ f, q_it (fun _ _ => False) F f 0 S := by
  refine ⟨5, ?_⟩
  rw [← w4_0 S a i g]
  exact hb 0 _ (by decide) (hb 1 _ (by decide) (hb 2 _ (by decide) (hb 3 _ (by decide) (he _))))
