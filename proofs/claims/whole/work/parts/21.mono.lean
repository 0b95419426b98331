/-! the packed monomials, the order's number, rests and powers, as the class reckons them -/
theorem b_0 {m : Mo} (h : mle 255 m) : en m % 256 = m.1 := by unfold mle at h; unfold en; omega
theorem b_1 {m : Mo} (h : mle 255 m) : en m / 256 % 256 = m.2.1 := by unfold mle at h; unfold en; omega
theorem b_2 {m : Mo} (h : mle 255 m) : en m / 65536 % 256 = m.2.2.1 := by unfold mle at h; unfold en; omega
theorem b_3 {m : Mo} (h : mle 255 m) : en m / 16777216 = m.2.2.2 := by unfold mle at h; unfold en; omega
theorem en_lt32 {m : Mo} (h : mle 255 m) : en m < 2 ^ 32 := by unfold mle at h; unfold en; omega
theorem u_8 {n : Nat} (hn : n < 2 ^ 32) : ((nI n).toUInt32 >>> ((8 : Int32).toUInt32 &&& Int32.toUInt32 31)).toInt32 = nI (n / 256) := pk_ushrN hn 8 8 (by decide)
theorem u_16 {n : Nat} (hn : n < 2 ^ 32) : ((nI n).toUInt32 >>> ((16 : Int32).toUInt32 &&& Int32.toUInt32 31)).toInt32 = nI (n / 65536) := pk_ushrN hn 16 16 (by decide)
theorem u_24 {n : Nat} (hn : n < 2 ^ 32) : ((nI n).toUInt32 >>> ((24 : Int32).toUInt32 &&& Int32.toUInt32 31)).toInt32 = nI (n / 16777216) := pk_ushrN hn 24 24 (by decide)
theorem a_255 {n : Nat} (hn : n < 2 ^ 32) : nI n &&& 255 = nI (n % 256) := pk_andN hn 8 (by decide)
theorem l_5 {n : Nat} (h : n < 2 ^ 27) : nI n <<< (5 &&& 31) = nI (n * 32) := pk_shlN (5 &&& 31) 5 (by decide) (by omega)
theorem l_10 {n : Nat} (h : n < 2 ^ 22) : nI n <<< (10 &&& 31) = nI (n * 1024) := pk_shlN (10 &&& 31) 10 (by decide) (by omega)
theorem l_11 {n : Nat} (h : n < 2 ^ 21) : nI n <<< (11 &&& 31) = nI (n * 2048) := pk_shlN (11 &&& 31) 11 (by decide) (by omega)
theorem l_15 {n : Nat} (h : n < 2 ^ 17) : nI n <<< (15 &&& 31) = nI (n * 32768) := pk_shlN (15 &&& 31) 15 (by decide) (by omega)
theorem l_16 {n : Nat} (h : n < 2 ^ 16) : nI n <<< (16 &&& 31) = nI (n * 65536) := pk_shlN (16 &&& 31) 16 (by decide) (by omega)
theorem l_20 {n : Nat} (h : n < 2 ^ 12) : nI n <<< (20 &&& 31) = nI (n * 1048576) := pk_shlN (20 &&& 31) 20 (by decide) (by omega)
theorem l_8 {n : Nat} (h : n < 256) : nI n <<< (8 &&& 31) = nI (n * 256) := pk_shlN (8 &&& 31) 8 (by decide) (by omega)
theorem l_24 {n : Nat} (h : n < 256) : nI n <<< (24 &&& 31) = nI (n * 16777216) := pk_shlN (24 &&& 31) 24 (by decide) (by omega)
theorem s_31 {n : Nat} (h : n ≤ 31) : (31 : Int32) - nI n = nI (31 - n) := pk_sub (a := 31) h
theorem o_5 {x y : Nat} (h : x < 32) : y * 32 ||| x = y * 32 + x := m_orlo (k := 5) h
theorem o_10 {x y : Nat} (h : x < 1024) : y * 1024 ||| x = y * 1024 + x := m_orlo (k := 10) h
theorem o_11 {x y : Nat} (h : x < 2048) : y * 2048 ||| x = y * 2048 + x := m_orlo (k := 11) h
theorem o_15 {x y : Nat} (h : x < 32768) : y * 32768 ||| x = y * 32768 + x := m_orlo (k := 15) h
theorem o_16 {x y : Nat} (h : x < 65536) : y * 65536 ||| x = y * 65536 + x := m_orlo (k := 16) h
theorem o_20 {x y : Nat} (h : x < 1048576) : y * 1048576 ||| x = y * 1048576 + x := m_orlo (k := 20) h
/-- four numbers of five bits, beside each other -/
theorem o_4 {a b c d : Nat} (ha : a < 32) (hb : b < 32) (hc : c < 32) (hd : d < 32) : a * 32768 ||| b * 1024 ||| c * 32 ||| d = ((a * 32 + b) * 32 + c) * 32 + d := by
  rw [Nat.or_assoc, Nat.or_assoc, o_5 hd, o_10 (by omega), o_15 (by omega)]
  omega
theorem o_5x {s a b c d : Nat} (ha : a < 32) (hb : b < 32) (hc : c < 32) (hd : d < 32) : s * 1048576 ||| a * 32768 ||| b * 1024 ||| c * 32 ||| d = s * 1048576 + (((a * 32 + b) * 32 + c) * 32 + d) := by
  rw [Nat.or_assoc, Nat.or_assoc, Nat.or_assoc, o_5 hd, o_10 (by omega), o_15 (by omega), o_20 (by omega)]
  omega
theorem sp_rank {S : St} {K : Int32 → St → Prop} {m : Mo} {o : Nat} (hm : mle 31 m) (ho : S 1 2 = nI o) (ho4 : o < 4) (hk : K (nI (mk o m)) S) : w_X5_rank (nI (en m)) S K := by
  have h255 := mle_mono hm (show 31 ≤ 255 by omega)
  have h32 := en_lt32 h255
  unfold mle at hm
  obtain ⟨ha, hb, hc, hd⟩ := hm
  unfold w_X5_rank
  rw [a_255 h32, u_8 h32, u_16 h32, u_24 h32, a_255 (by omega), a_255 (by omega), b_0 h255, b_1 h255, b_2 h255, b_3 h255]
  intro x2 e2 x3 e3 x4 e4 x5 e5 x6 e6 x7 e7
  rw [e2, e3, e4, e5] at e6 e7
  rw [nI_add, nI_add, nI_add, l_20 (by omega)] at e6
  rw [l_15 (by omega), l_10 (by omega), l_5 (by omega), m_or, m_or, m_or, o_4 (by omega) (by omega) (by omega) (by omega)] at e7
  subst e6; subst e7; subst e2; subst e3; subst e4; subst e5
  rw [ho]
  rw [s_31 ha, s_31 hb, s_31 hc, s_31 hd, nI_add, nI_add, l_15 (by omega), l_10 (by omega), l_5 (by omega), l_16 (by omega), l_11 (by omega), l_5 (by omega), m_or, m_or, m_or, m_or, m_or, m_or, m_or, m_or, nI_toInt (by omega)]
  refine ⟨fun h => ?_, fun h => ?_, fun h => ?_, fun h => ?_⟩
  · have e : o = 3 := by omega
    subst e
    have q : (m.1 + m.2.1) * 65536 ||| (31 - m.2.1) * 2048 ||| (m.2.2.1 + m.2.2.2) * 32 ||| (31 - m.2.2.2) = spln m := by
      rw [Nat.or_assoc, Nat.or_assoc, o_5 (by omega), o_11 (by omega), o_16 (by omega)]
      unfold spln
      omega
    rw [q]
    exact hk
  · have e : o = 0 := (nI_eq (by omega) (by omega)).mp h
    subst e
    exact hk
  · have e : o = 1 := (nI_eq (by omega) (by omega)).mp h
    subst e
    rw [o_20 (by omega)]
    exact hk
  · have e : o = 2 := (nI_eq (by omega) (by omega)).mp h
    subst e
    rw [o_5x (by omega) (by omega) (by omega) (by omega)]
    exact hk
theorem sp_of {S : St} {K : Int32 → St → Prop} {a b c d : Nat} (h : mle 30 (a, b, c, d)) (hk : K (nI (en (a, b, c, d))) S) : w_X1_of (nI a) (nI b) (nI c) (nI d) S K := by
  unfold mle at h
  simp only at h
  unfold w_X1_of
  rw [l_8 (by omega), l_16 (by omega), l_24 (by omega), m_or, m_or, m_or]
  have q : a ||| b * 256 ||| c * 65536 ||| d * 16777216 = en (a, b, c, d) := by
    rw [Nat.or_comm a, m_orlo (k := 8) (show a < 2 ^ 8 by omega), Nat.or_comm _ (c * 65536), m_orlo (k := 16) (show b * 2 ^ 8 + a < 2 ^ 16 by omega), Nat.or_comm _ (d * 16777216), m_orlo (k := 24) (show c * 2 ^ 16 + (b * 2 ^ 8 + a) < 2 ^ 24 by omega)]
    unfold en
    simp only
    omega
  rw [q]
  exact hk
theorem sp_variable {S : St} {K : Int32 → St → Prop} {v : Nat} (h : v < 4) (hk : K (nI (256 ^ v)) S) : w_X1_variable (nI v) S K := by
  unfold w_X1_variable
  rcases (show v = 0 ∨ v = 1 ∨ v = 2 ∨ v = 3 by omega) with rfl | rfl | rfl | rfl <;> exact hk
theorem sp_exponentOf {S : St} {K : Int32 → St → Prop} {m : Mo} {v : Nat} (hm : mle 255 m) (h : v < 4) (hk : K (nI (ex m v)) S) : w_X1_exponentOf (nI (en m)) (nI v) S K := by
  have h32 := en_lt32 hm
  unfold w_X1_exponentOf
  rcases (show v = 0 ∨ v = 1 ∨ v = 2 ∨ v = 3 by omega) with rfl | rfl | rfl | rfl
  · have e : (((nI (en m)).toUInt32 >>> ((8 * nI 0 : Int32).toUInt32 &&& Int32.toUInt32 31)).toInt32) = nI (en m / 1) := pk_ushrN h32 (8 * nI 0) 0 (by decide)
    rw [e, Nat.div_one, a_255 h32, b_0 hm]
    exact hk
  · have e : (((nI (en m)).toUInt32 >>> ((8 * nI 1 : Int32).toUInt32 &&& Int32.toUInt32 31)).toInt32) = nI (en m / 256) := pk_ushrN h32 (8 * nI 1) 8 (by decide)
    rw [e, a_255 (by omega), b_1 hm]
    exact hk
  · have e : (((nI (en m)).toUInt32 >>> ((8 * nI 2 : Int32).toUInt32 &&& Int32.toUInt32 31)).toInt32) = nI (en m / 65536) := pk_ushrN h32 (8 * nI 2) 16 (by decide)
    rw [e, a_255 (by omega), b_2 hm]
    exact hk
  · have e : (((nI (en m)).toUInt32 >>> ((8 * nI 3 : Int32).toUInt32 &&& Int32.toUInt32 31)).toInt32) = nI (en m / 16777216) := pk_ushrN h32 (8 * nI 3) 24 (by decide)
    rw [e, a_255 (by omega), b_3 hm]
    unfold mle at hm
    rw [Nat.mod_eq_of_lt (by omega)]
    exact hk
theorem t_128 : ∀ x : Nat, x < 256 → x &&& 128 = if 128 ≤ x then 128 else 0 := by decide +kernel
/-- the top bits of the four bytes -/
theorem top_en {m : Mo} (h : mle 255 m) : en m &&& 2155905152 = (if 128 ≤ m.1 then 128 else 0) + 256 * ((if 128 ≤ m.2.1 then 128 else 0) + 256 * ((if 128 ≤ m.2.2.1 then 128 else 0) + 256 * (if 128 ≤ m.2.2.2 then 128 else 0))) := by
  unfold mle at h
  have e : (2155905152 : Nat) = 128 + 2 ^ 8 * (128 + 2 ^ 8 * (128 + 2 ^ 8 * 128)) := by decide
  unfold en
  rw [e]
  show (m.1 + 2 ^ 8 * (m.2.1 + 2 ^ 8 * (m.2.2.1 + 2 ^ 8 * m.2.2.2))) &&& _ = _
  rw [m_bit2 (by omega) (by omega), m_bit2 (by omega) (by omega), m_bit2 (by omega) (by omega), t_128 _ (by omega), t_128 _ (by omega), t_128 _ (by omega), t_128 _ (by omega)]
theorem m_top : (-2139062144 : Int32) = nI 2155905152 := by decide
theorem great_dec (m : Mo) : mle 30 m ∨ ¬ mle 30 m := Classical.em _
theorem sp_isGreat {S : St} {K : Int32 → St → Prop} {m : Mo} (hm : mle 60 m) (h0 : mle 30 m → K 0 S) (h1 : ¬ mle 30 m → K 1 S) : w_X1_isGreat (nI (en m)) S K := by
  unfold w_X1_isGreat
  rw [m_top, m_lit 1633771873, nI_add, m_and]
  have e : en m + 1633771873 = en (m.1 + 97, m.2.1 + 97, m.2.2.1 + 97, m.2.2.2 + 97) := by
    unfold en
    simp only
    omega
  unfold mle at hm
  rw [e, top_en (by unfold mle; simp only; omega)]
  simp only
  rw [m_lit 0, m_eq32 (by split <;> split <;> split <;> split <;> omega) (by omega)]
  refine ⟨fun h => h0 ?_, fun h => h1 ?_⟩
  · unfold mle
    split at h <;> split at h <;> split at h <;> split at h <;> omega
  · intro q
    unfold mle at q
    apply h
    rw [if_neg (by omega), if_neg (by omega), if_neg (by omega), if_neg (by omega)]
theorem sp_divides {S : St} {K : Int32 → St → Prop} {x y : Mo} (hx : mle 127 x) (hy : mle 127 y) (h1 : dv x y → K 1 S) (h0 : ¬ dv x y → K 0 S) : w_X1_divides (nI (en x)) (nI (en y)) S K := by
  unfold w_X1_divides
  have e : (2155905152 : Nat) = 128 + 2 ^ 8 * (128 + 2 ^ 8 * (128 + 2 ^ 8 * 128)) := by decide
  have o128 : ∀ z : Nat, z < 128 → z ||| 128 = z + 128 := by decide +kernel
  unfold mle at hx hy
  have e2 : en y ||| 2155905152 = en (y.1 + 128, y.2.1 + 128, y.2.2.1 + 128, y.2.2.2 + 128) := by
    unfold en
    rw [e]
    show (y.1 + 2 ^ 8 * (y.2.1 + 2 ^ 8 * (y.2.2.1 + 2 ^ 8 * y.2.2.2))) ||| _ = _
    rw [m_or2 (by omega) (by omega), m_or2 (by omega) (by omega), m_or2 (by omega) (by omega), o128 _ (by omega), o128 _ (by omega), o128 _ (by omega), o128 _ (by omega)]
  have e3 : en (y.1 + 128, y.2.1 + 128, y.2.2.1 + 128, y.2.2.2 + 128) - en x = en (y.1 + 128 - x.1, y.2.1 + 128 - x.2.1, y.2.2.1 + 128 - x.2.2.1, y.2.2.2 + 128 - x.2.2.2) := by
    unfold en
    simp only
    omega
  rw [m_top, m_or, e2, pk_sub (by unfold en; simp only; omega), e3, m_and, top_en (by unfold mle; simp only; omega)]
  simp only
  rw [m_eq32 (by split <;> split <;> split <;> split <;> omega) (by omega)]
  refine ⟨fun h => h0 ?_, fun h => h1 ?_⟩
  · intro q
    unfold dv at q
    apply h
    rw [if_pos (by omega), if_pos (by omega), if_pos (by omega), if_pos (by omega)]
  · unfold dv
    split at h <;> split at h <;> split at h <;> split at h <;> omega
