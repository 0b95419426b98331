/-! numbers: ints as natural numbers -/
theorem m_lit (n : Nat) : (OfNat.ofNat n : Int32) = nI n := rfl
theorem m_and (a b : Nat) : nI a &&& nI b = nI (a &&& b) := by
  apply Int32.toBitVec_inj.1
  show BitVec.ofNat 32 a &&& BitVec.ofNat 32 b = BitVec.ofNat 32 (a &&& b)
  apply BitVec.eq_of_getLsbD_eq
  intro i hi
  simp [hi]
theorem m_or (a b : Nat) : nI a ||| nI b = nI (a ||| b) := by
  apply Int32.toBitVec_inj.1
  show BitVec.ofNat 32 a ||| BitVec.ofNat 32 b = BitVec.ofNat 32 (a ||| b)
  apply BitVec.eq_of_getLsbD_eq
  intro i hi
  simp [hi]
theorem m_eq32 {a b : Nat} (ha : a < 2 ^ 32) (hb : b < 2 ^ 32) : nI a = nI b ↔ a = b := by
  constructor
  · intro h
    have h2 := congrArg (fun x : Int32 => x.toBitVec.toNat) h
    simp only [pk_tn ha, pk_tn hb] at h2
    exact h2
  · intro h; rw [h]
theorem m_rf {n : Nat} (h : n < 2 ^ 31) : q_rf (nI n) = n := nI_clamp h
theorem q_it_s {β : Type} (bot : β) (F : β → β) (n : Nat) : q_it bot F (n + 1) = F (q_it bot F n) := rfl
/-- two numbers laid side by side -/
theorem m_bit2 {k x y u v : Nat} (hx : x < 2 ^ k) (hu : u < 2 ^ k) : (x + 2 ^ k * y) &&& (u + 2 ^ k * v) = (x &&& u) + 2 ^ k * (y &&& v) := by
  have hxu : x &&& u < 2 ^ k := Nat.and_lt_two_pow x hu
  apply Nat.eq_of_testBit_eq
  intro i
  rw [Nat.testBit_and, Nat.add_comm x, Nat.add_comm u, Nat.add_comm (x &&& u), Nat.testBit_two_pow_mul_add _ hx, Nat.testBit_two_pow_mul_add _ hu, Nat.testBit_two_pow_mul_add _ hxu]
  by_cases h : i < k
  · simp [h]
  · simp [h]
theorem m_or2 {k x y u v : Nat} (hx : x < 2 ^ k) (hu : u < 2 ^ k) : (x + 2 ^ k * y) ||| (u + 2 ^ k * v) = (x ||| u) + 2 ^ k * (y ||| v) := by
  have hxu : x ||| u < 2 ^ k := Nat.or_lt_two_pow hx hu
  apply Nat.eq_of_testBit_eq
  intro i
  rw [Nat.testBit_or, Nat.add_comm x, Nat.add_comm u, Nat.add_comm (x ||| u), Nat.testBit_two_pow_mul_add _ hx, Nat.testBit_two_pow_mul_add _ hu, Nat.testBit_two_pow_mul_add _ hxu]
  by_cases h : i < k
  · simp [h]
  · simp [h]
theorem m_orlo {k x y : Nat} (hx : x < 2 ^ k) : (y * 2 ^ k) ||| x = y * 2 ^ k + x := by
  rw [Nat.mul_comm, Nat.two_pow_add_eq_or_of_lt hx]
/-! monomials: four exponents; their order by a number -/
abbrev Mo : Type := Nat × Nat × Nat × Nat
abbrev Te : Type := Nat × Mo
abbrev Po : Type := List Te
def ex (m : Mo) (v : Nat) : Nat := if v = 0 then m.1 else if v = 1 then m.2.1 else if v = 2 then m.2.2.1 else m.2.2.2
def mle (k : Nat) (m : Mo) : Prop := m.1 ≤ k ∧ m.2.1 ≤ k ∧ m.2.2.1 ≤ k ∧ m.2.2.2 ≤ k
def mm (x y : Mo) : Mo := (x.1 + y.1, x.2.1 + y.2.1, x.2.2.1 + y.2.2.1, x.2.2.2 + y.2.2.2)
def ms (x y : Mo) : Mo := (x.1 - y.1, x.2.1 - y.2.1, x.2.2.1 - y.2.2.1, x.2.2.2 - y.2.2.2)
def mx (x y : Mo) : Mo := (max x.1 y.1, max x.2.1 y.2.1, max x.2.2.1 y.2.2.1, max x.2.2.2 y.2.2.2)
/-- x divides y -/
def dv (x y : Mo) : Prop := x.1 ≤ y.1 ∧ x.2.1 ≤ y.2.1 ∧ x.2.2.1 ≤ y.2.2.1 ∧ x.2.2.2 ≤ y.2.2.2
theorem dv_dec (x y : Mo) : dv x y ∨ ¬ dv x y := Classical.em _
def m1 : Mo := (0, 0, 0, 0)
/-- a monomial as one number: a byte for each exponent -/
def en (m : Mo) : Nat := m.1 + 256 * (m.2.1 + 256 * (m.2.2.1 + 256 * m.2.2.2))
def lexn (m : Mo) : Nat := ((m.1 * 32 + m.2.1) * 32 + m.2.2.1) * 32 + m.2.2.2
def revn (m : Mo) : Nat := (((31 - m.2.2.2) * 32 + (31 - m.2.2.1)) * 32 + (31 - m.2.1)) * 32 + (31 - m.1)
def sumn (m : Mo) : Nat := m.1 + m.2.1 + m.2.2.1 + m.2.2.2
def spln (m : Mo) : Nat := (((m.1 + m.2.1) * 32 + (31 - m.2.1)) * 64 + (m.2.2.1 + m.2.2.2)) * 32 + (31 - m.2.2.2)
/-- the order's number of a monomial: the greater, the greater -/
def mk (o : Nat) (m : Mo) : Nat :=
  if o = 0 then lexn m
  else if o = 1 then sumn m * 1048576 + lexn m
  else if o = 2 then sumn m * 1048576 + revn m
  else spln m
theorem mo_ext {x y : Mo} (h0 : x.1 = y.1) (h1 : x.2.1 = y.2.1) (h2 : x.2.2.1 = y.2.2.1) (h3 : x.2.2.2 = y.2.2.2) : x = y := by
  obtain ⟨a, b, c, d⟩ := x
  obtain ⟨a', b', c', d'⟩ := y
  simp only at h0 h1 h2 h3
  subst h0; subst h1; subst h2; subst h3
  rfl
theorem h2_lt {k x y x' y' : Nat} (hy : y < k) (hy' : y' < k) : x * k + y < x' * k + y' ↔ x < x' ∨ (x = x' ∧ y < y') := by
  constructor
  · intro h
    rcases Nat.lt_trichotomy x x' with a | a | a
    · exact Or.inl a
    · subst a; exact Or.inr ⟨rfl, by omega⟩
    · exfalso
      have h2 : (x' + 1) * k ≤ x * k := Nat.mul_le_mul_right k a
      rw [Nat.add_mul, Nat.one_mul] at h2
      omega
  · rintro (h | ⟨rfl, h⟩)
    · have h2 : (x + 1) * k ≤ x' * k := Nat.mul_le_mul_right k h
      rw [Nat.add_mul, Nat.one_mul] at h2
      omega
    · omega
theorem h2_eq {k x y x' y' : Nat} (hy : y < k) (hy' : y' < k) (h : x * k + y = x' * k + y') : x = x' ∧ y = y' := by
  have h1 : ¬ (x < x' ∨ (x = x' ∧ y < y')) := fun q => absurd ((h2_lt hy hy').mpr q) (by omega)
  have h2 : ¬ (x' < x ∨ (x' = x ∧ y' < y)) := fun q => absurd ((h2_lt hy' hy).mpr q) (by omega)
  omega
/-- the order as the document says it -/
def mlt (o : Nat) (x y : Mo) : Prop :=
  if o = 0 then x.1 < y.1 ∨ (x.1 = y.1 ∧ (x.2.1 < y.2.1 ∨ (x.2.1 = y.2.1 ∧ (x.2.2.1 < y.2.2.1 ∨ (x.2.2.1 = y.2.2.1 ∧ x.2.2.2 < y.2.2.2)))))
  else if o = 1 then sumn x < sumn y ∨ (sumn x = sumn y ∧ (x.1 < y.1 ∨ (x.1 = y.1 ∧ (x.2.1 < y.2.1 ∨ (x.2.1 = y.2.1 ∧ (x.2.2.1 < y.2.2.1 ∨ (x.2.2.1 = y.2.2.1 ∧ x.2.2.2 < y.2.2.2)))))))
  else if o = 2 then sumn x < sumn y ∨ (sumn x = sumn y ∧ (y.2.2.2 < x.2.2.2 ∨ (y.2.2.2 = x.2.2.2 ∧ (y.2.2.1 < x.2.2.1 ∨ (y.2.2.1 = x.2.2.1 ∧ (y.2.1 < x.2.1 ∨ (y.2.1 = x.2.1 ∧ y.1 < x.1)))))))
  else x.1 + x.2.1 < y.1 + y.2.1 ∨ (x.1 + x.2.1 = y.1 + y.2.1 ∧ (y.2.1 < x.2.1 ∨ (y.2.1 = x.2.1 ∧ (x.2.2.1 + x.2.2.2 < y.2.2.1 + y.2.2.2 ∨ (x.2.2.1 + x.2.2.2 = y.2.2.1 + y.2.2.2 ∧ y.2.2.2 < x.2.2.2)))))
theorem lexn_lt {m : Mo} (h : mle 31 m) : lexn m < 1048576 := by unfold mle at h; unfold lexn; omega
theorem revn_lt {m : Mo} (h : mle 31 m) : revn m < 1048576 := by unfold revn; omega
theorem lexn_iff {x y : Mo} (hx : mle 31 x) (hy : mle 31 y) : lexn x < lexn y ↔ (x.1 < y.1 ∨ (x.1 = y.1 ∧ (x.2.1 < y.2.1 ∨ (x.2.1 = y.2.1 ∧ (x.2.2.1 < y.2.2.1 ∨ (x.2.2.1 = y.2.2.1 ∧ x.2.2.2 < y.2.2.2)))))) := by
  unfold mle at hx hy
  unfold lexn
  rw [h2_lt (by omega) (by omega), h2_lt (by omega) (by omega), h2_lt (by omega) (by omega)]
  omega
theorem revn_iff {x y : Mo} (hx : mle 31 x) (hy : mle 31 y) : revn x < revn y ↔ (y.2.2.2 < x.2.2.2 ∨ (y.2.2.2 = x.2.2.2 ∧ (y.2.2.1 < x.2.2.1 ∨ (y.2.2.1 = x.2.2.1 ∧ (y.2.1 < x.2.1 ∨ (y.2.1 = x.2.1 ∧ y.1 < x.1)))))) := by
  unfold mle at hx hy
  unfold revn
  rw [h2_lt (by omega) (by omega), h2_lt (by omega) (by omega), h2_lt (by omega) (by omega)]
  omega
theorem mk_iff {o : Nat} {x y : Mo} (hx : mle 31 x) (hy : mle 31 y) : mk o x < mk o y ↔ mlt o x y := by
  unfold mk mlt
  split
  · exact lexn_iff hx hy
  · split
    · rw [h2_lt (lexn_lt hx) (lexn_lt hy), lexn_iff hx hy]
    · split
      · rw [h2_lt (revn_lt hx) (revn_lt hy), revn_iff hx hy]
      · unfold mle at hx hy
        unfold spln
        rw [h2_lt (by omega) (by omega), h2_lt (by omega) (by omega), h2_lt (by omega) (by omega)]
        omega
theorem lexn_inj {x y : Mo} (hx : mle 31 x) (hy : mle 31 y) (h : lexn x = lexn y) : x = y := by
  unfold mle at hx hy
  unfold lexn at h
  obtain ⟨h, h3⟩ := h2_eq (by omega) (by omega) h
  obtain ⟨h, h2⟩ := h2_eq (by omega) (by omega) h
  obtain ⟨h, h1⟩ := h2_eq (by omega) (by omega) h
  exact mo_ext h h1 h2 h3
theorem revn_inj {x y : Mo} (hx : mle 31 x) (hy : mle 31 y) (h : revn x = revn y) : x = y := by
  unfold mle at hx hy
  unfold revn at h
  obtain ⟨h, h3⟩ := h2_eq (by omega) (by omega) h
  obtain ⟨h, h2⟩ := h2_eq (by omega) (by omega) h
  obtain ⟨h, h1⟩ := h2_eq (by omega) (by omega) h
  exact mo_ext (by omega) (by omega) (by omega) (by omega)
theorem mk_inj {o : Nat} {x y : Mo} (hx : mle 31 x) (hy : mle 31 y) (h : mk o x = mk o y) : x = y := by
  unfold mk at h
  split at h
  · exact lexn_inj hx hy h
  · split at h
    · exact lexn_inj hx hy (h2_eq (lexn_lt hx) (lexn_lt hy) h).2
    · split at h
      · exact revn_inj hx hy (h2_eq (revn_lt hx) (revn_lt hy) h).2
      · unfold mle at hx hy
        unfold spln at h
        obtain ⟨h, h3⟩ := h2_eq (by omega) (by omega) h
        obtain ⟨h, h2⟩ := h2_eq (by omega) (by omega) h
        obtain ⟨h, h1⟩ := h2_eq (by omega) (by omega) h
        exact mo_ext (by omega) (by omega) (by omega) (by omega)
theorem mk_lt {o : Nat} {x : Mo} (hx : mle 60 x) : mk o x < 2 ^ 30 := by
  unfold mle at hx
  unfold mk
  split
  · unfold lexn; omega
  · split
    · unfold lexn sumn; omega
    · split
      · unfold revn sumn; omega
      · unfold spln; omega
theorem en_lt {k : Nat} {m : Mo} (h : mle k m) (hk : k ≤ 127) : en m < 2 ^ 31 := by
  unfold mle at h
  unfold en
  omega
theorem en_mm (x y : Mo) : en (mm x y) = en x + en y := by
  unfold en mm
  simp only
  omega
theorem en_inj {x y : Mo} (hx : mle 255 x) (hy : mle 255 y) (h : en x = en y) : x = y := by
  unfold mle at hx hy
  unfold en at h
  apply mo_ext <;> omega
theorem mle_mono {k j : Nat} {m : Mo} (h : mle k m) (hk : k ≤ j) : mle j m := by
  unfold mle at *
  omega
theorem mle_mm {j k : Nat} {x y : Mo} (hx : mle j x) (hy : mle k y) : mle (j + k) (mm x y) := by
  unfold mle mm at *
  simp only
  omega
/-- a product is ordered as its factors are -/
theorem mlt_mm {o : Nat} {x y z : Mo} (h : mlt o x y) : mlt o (mm x z) (mm y z) := by
  unfold mlt sumn at *
  unfold mm
  simp only
  split at h
  · rename_i e; rw [if_pos e]; omega
  · split at h
    · rename_i e1 e; rw [if_neg e1, if_pos e]; omega
    · split at h
      · rename_i e1 e2 e; rw [if_neg e1, if_neg e2, if_pos e]; omega
      · rename_i e1 e2 e; rw [if_neg e1, if_neg e2, if_neg e]; omega
theorem mk_mm {o : Nat} {x y z : Mo} (hx : mle 31 (mm x z)) (hy : mle 31 (mm y z)) (h : mk o x < mk o y) : mk o (mm x z) < mk o (mm y z) := by
  have hx0 : mle 31 x := by unfold mle mm at *; simp only at hx; omega
  have hy0 : mle 31 y := by unfold mle mm at *; simp only at hy; omega
  exact (mk_iff hx hy).mpr (mlt_mm ((mk_iff hx0 hy0).mp h))
theorem ex_0 (m : Mo) : ex m 0 = m.1 := rfl
theorem ex_1 (m : Mo) : ex m 1 = m.2.1 := rfl
theorem ex_2 (m : Mo) : ex m 2 = m.2.2.1 := rfl
theorem ex_3 (m : Mo) : ex m 3 = m.2.2.2 := rfl
