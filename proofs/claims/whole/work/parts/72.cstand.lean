/-! what stands, found as the class finds it -/
def zrM (v : Nat) (m : Mo) : Mo := (if v = 0 then 0 else m.1, if v = 1 then 0 else m.2.1, if v = 2 then 0 else m.2.2.1, if v = 3 then 0 else m.2.2.2)
def upM (v : Nat) (m : Mo) : Mo := mm m (uv v)
def nbF (N : Nat → Nat) (T : Nat → Option Po) : Nat → Mo → Option Mo
  | 0, _ => none
  | v + 1, m => if stb N T (upM v m) = true then some (upM v m) else nbF N T v (zrM v m)
theorem ex_uv {v w : Nat} (hw : w < 4) : ex (uv v) w = if w = v then 1 else 0 := by
  rcases (show w = 0 ∨ w = 1 ∨ w = 2 ∨ w = 3 by omega) with rfl | rfl | rfl | rfl
  · rw [ex_0]; unfold uv; simp only; by_cases h : v = 0 <;> simp [h, eq_comm]
  · rw [ex_1]; unfold uv; simp only; by_cases h : v = 1 <;> simp [h, eq_comm]
  · rw [ex_2]; unfold uv; simp only; by_cases h : v = 2 <;> simp [h, eq_comm]
  · rw [ex_3]; unfold uv; simp only; by_cases h : v = 3 <;> simp [h, eq_comm]
theorem ex_up {v w : Nat} {m : Mo} (hw : w < 4) : ex (upM v m) w = ex m w + (if w = v then 1 else 0) := by
  unfold upM
  rw [ex_mm, ex_uv hw]
theorem ex_zr {v w : Nat} {m : Mo} (hw : w < 4) : ex (zrM v m) w = if w = v then 0 else ex m w := by
  rcases (show w = 0 ∨ w = 1 ∨ w = 2 ∨ w = 3 by omega) with rfl | rfl | rfl | rfl
  · rw [ex_0, ex_0]; unfold zrM; simp only; by_cases h : v = 0 <;> simp [h, eq_comm]
  · rw [ex_1, ex_1]; unfold zrM; simp only; by_cases h : v = 1 <;> simp [h, eq_comm]
  · rw [ex_2, ex_2]; unfold zrM; simp only; by_cases h : v = 2 <;> simp [h, eq_comm]
  · rw [ex_3, ex_3]; unfold zrM; simp only; by_cases h : v = 3 <;> simp [h, eq_comm]
theorem dv_ex {x y : Mo} : dv x y ↔ ∀ w, w < 4 → ex x w ≤ ex y w := by
  constructor
  · intro h w hw
    unfold dv at h
    rcases (show w = 0 ∨ w = 1 ∨ w = 2 ∨ w = 3 by omega) with rfl | rfl | rfl | rfl
    · rw [ex_0, ex_0]; exact h.1
    · rw [ex_1, ex_1]; exact h.2.1
    · rw [ex_2, ex_2]; exact h.2.2.1
    · rw [ex_3, ex_3]; exact h.2.2.2
  · intro h
    exact ⟨h 0 (by decide), h 1 (by decide), h 2 (by decide), h 3 (by decide)⟩
theorem mle_ex {k : Nat} {m : Mo} : mle k m ↔ ∀ w, w < 4 → ex m w ≤ k := by
  constructor
  · intro h w _; exact ex_le h w
  · intro h
    exact ⟨h 0 (by decide), h 1 (by decide), h 2 (by decide), h 3 (by decide)⟩
theorem oS_iff {m : Mo} {v : Nat} : oS m v 4 = 0 ↔ ∀ w, w < 4 → w ≠ v → ex m w = 0 := by
  have e : oS m v 4 = 0 + (if 0 = v then 0 else ex m 0) + (if 1 = v then 0 else ex m 1) + (if 2 = v then 0 else ex m 2) + (if 3 = v then 0 else ex m 3) := rfl
  rw [e]
  constructor
  · intro h w hw hn
    rcases (show w = 0 ∨ w = 1 ∨ w = 2 ∨ w = 3 by omega) with rfl | rfl | rfl | rfl
    · rw [if_neg hn] at h; omega
    · rw [if_neg hn] at h; omega
    · rw [if_neg hn] at h; omega
    · rw [if_neg hn] at h; omega
  · intro h
    have a : ∀ w, w < 4 → (if w = v then 0 else ex m w) = 0 := fun w hw => by
      by_cases y : w = v
      · rw [if_pos y]
      · rw [if_neg y]; exact h w hw y
    rw [a 0 (by decide), a 1 (by decide), a 2 (by decide), a 3 (by decide)]
section ST
variable {N : Nat → Nat} {T : Nat → Option Po}
theorem al_some {v : Nat} : ∀ i, al T v i < 31 → ∃ j, j < i ∧ oS (hdm T j) v 4 = 0 ∧ ex (hdm T j) v = al T v i
  | 0, h => absurd h (by show ¬ 31 < 31; decide)
  | i + 1, h => by
    unfold al at h ⊢
    split
    · rename_i q
      exact ⟨i, by omega, q.1, rfl⟩
    · rename_i q
      rw [if_neg q] at h
      obtain ⟨j, j1, j2, j3⟩ := al_some i h
      exact ⟨j, by omega, j2, j3⟩
theorem al_min {v j : Nat} (hj : oS (hdm T j) v 4 = 0) : ∀ i, j < i → al T v i ≤ ex (hdm T j) v
  | 0, h => absurd h (Nat.not_lt_zero j)
  | i + 1, h => by
    unfold al
    by_cases e : j = i
    · subst e
      split
      · exact Nat.le_refl _
      · rename_i q
        exact Nat.le_of_not_lt (fun z => q ⟨hj, z⟩)
    · have := al_min hj i (by omega)
      split
      · rename_i q; omega
      · exact this
theorem stb_f {m : Mo} : stb N T m = false ↔ ∃ k, k < N 6 ∧ dv (hdm T k) m := by
  unfold stb
  rw [List.all_eq_false]
  constructor
  · rintro ⟨k, hk, q⟩
    refine ⟨k, List.mem_range.mp hk, ?_⟩
    cases e : dvb (hdm T k) m with
    | true => exact dvb_iff.mp e
    | false => rw [e] at q; exact absurd rfl q
  · rintro ⟨k, hk, q⟩
    exact ⟨k, List.mem_range.mpr hk, by rw [dvb_iff.mpr q]; decide⟩
theorem stb_up {x y : Mo} (h : stb N T x = false) (hd : dv x y) : stb N T y = false := by
  obtain ⟨k, hk, q⟩ := stb_f.mp h
  refine stb_f.mpr ⟨k, hk, ?_⟩
  unfold dv at *
  omega
theorem prc_c {m : Mo} {L : List Mo} {A : Po} : prc N T (m :: L) A = if stb N T m = true then (if A.length = 300 then none else prc N T L (inS (N 2) m A)) else prc N T L A := rfl
theorem prc_skip {M : List Mo} {A : Po} : ∀ {L : List Mo}, (∀ x ∈ L, stb N T x = false) → prc N T (L ++ M) A = prc N T M A
  | [], _ => rfl
  | m :: L, h => by
    have := h m List.mem_cons_self
    show prc N T (m :: (L ++ M)) A = _
    rw [prc_c, if_neg (by rw [this]; decide), prc_skip (fun x hx => h x (List.mem_cons_of_mem _ hx))]
theorem b3_mem {a b c : Nat} {x : Mo} : ∀ {r d : Nat}, x ∈ b3 a b c d r → ∃ d', d ≤ d' ∧ x = (a, b, c, d')
  | 0, _, h => nomatch h
  | r + 1, d, h => by
    rcases List.mem_cons.mp h with q | q
    · exact ⟨d, Nat.le_refl _, q⟩
    · obtain ⟨d', h1, h2⟩ := b3_mem q
      exact ⟨d', by omega, h2⟩
theorem b2_mem {e3 a b : Nat} {x : Mo} : ∀ {r c : Nat}, x ∈ b2 e3 a b c r → ∃ c' d', c ≤ c' ∧ x = (a, b, c', d')
  | 0, _, h => nomatch h
  | r + 1, c, h => by
    rcases List.mem_append.mp h with q | q
    · obtain ⟨d', _, h2⟩ := b3_mem q
      exact ⟨c, d', Nat.le_refl _, h2⟩
    · obtain ⟨c', d', h1, h2⟩ := b2_mem q
      exact ⟨c', d', by omega, h2⟩
theorem b1_mem {e2 e3 a : Nat} {x : Mo} : ∀ {r b : Nat}, x ∈ b1 e2 e3 a b r → ∃ b' c' d', b ≤ b' ∧ x = (a, b', c', d')
  | 0, _, h => nomatch h
  | r + 1, b, h => by
    rcases List.mem_append.mp h with q | q
    · obtain ⟨c', d', _, h2⟩ := b2_mem q
      exact ⟨b, c', d', Nat.le_refl _, h2⟩
    · obtain ⟨b', c', d', h1, h2⟩ := b1_mem q
      exact ⟨b', c', d', by omega, h2⟩
theorem b0_mem {e1 e2 e3 : Nat} {x : Mo} : ∀ {r a : Nat}, x ∈ b0 e1 e2 e3 a r → ∃ a' b' c' d', a ≤ a' ∧ x = (a', b', c', d')
  | 0, _, h => nomatch h
  | r + 1, a, h => by
    rcases List.mem_append.mp h with q | q
    · obtain ⟨b', c', d', _, h2⟩ := b1_mem q
      exact ⟨a, b', c', d', Nat.le_refl _, h2⟩
    · obtain ⟨a', b', c', d', h1, h2⟩ := b0_mem q
      exact ⟨a', b', c', d', by omega, h2⟩
/-- what lies behind a monomial in the box, by the first variables alone -/
def t1 (e : Nat → Nat) (a : Nat) : List Mo := b0 (e 1) (e 2) (e 3) (a + 1) (e 0 - (a + 1))
def t2 (e : Nat → Nat) (a b : Nat) : List Mo := b1 (e 2) (e 3) a (b + 1) (e 1 - (b + 1)) ++ t1 e a
def t3 (e : Nat → Nat) (a b c : Nat) : List Mo := b2 (e 3) a b (c + 1) (e 2 - (c + 1)) ++ t2 e a b
def t4 (e : Nat → Nat) (a b c d : Nat) : List Mo := b3 a b c (d + 1) (e 3 - (d + 1)) ++ t3 e a b c
def sf (e : Nat → Nat) (m : Mo) : List Mo := t4 e m.1 m.2.1 m.2.2.1 m.2.2.2
section EX
variable {e : Nat → Nat} {a b c d : Nat}
theorem x3 {k : Nat} (h : d < k) : b3 a b c d (k - d) = (a, b, c, d) :: b3 a b c (d + 1) (k - (d + 1)) := by
  rw [show k - d = (k - (d + 1)) + 1 by omega]; rfl
theorem x2 {k e3 : Nat} (h : c < k) (h3 : 0 < e3) : b2 e3 a b c (k - c) = (a, b, c, 0) :: (b3 a b c 1 (e3 - 1) ++ b2 e3 a b (c + 1) (k - (c + 1))) := by
  rw [show k - c = (k - (c + 1)) + 1 by omega]
  show b3 a b c 0 e3 ++ b2 e3 a b (c + 1) (k - (c + 1)) = _
  have := x3 (a := a) (b := b) (c := c) (d := 0) h3
  rw [Nat.sub_zero] at this
  rw [this]; rfl
theorem x1 {k e2 e3 : Nat} (h : b < k) (h2 : 0 < e2) (h3 : 0 < e3) : b1 e2 e3 a b (k - b) = (a, b, 0, 0) :: (b3 a b 0 1 (e3 - 1) ++ (b2 e3 a b 1 (e2 - 1) ++ b1 e2 e3 a (b + 1) (k - (b + 1)))) := by
  rw [show k - b = (k - (b + 1)) + 1 by omega]
  show b2 e3 a b 0 e2 ++ b1 e2 e3 a (b + 1) (k - (b + 1)) = _
  have := x2 (a := a) (b := b) (c := 0) h2 h3
  rw [Nat.sub_zero] at this
  rw [this, List.cons_append, List.append_assoc]
theorem x0 {k e1 e2 e3 : Nat} (h : a < k) (h1 : 0 < e1) (h2 : 0 < e2) (h3 : 0 < e3) : b0 e1 e2 e3 a (k - a) = (a, 0, 0, 0) :: (b3 a 0 0 1 (e3 - 1) ++ (b2 e3 a 0 1 (e2 - 1) ++ (b1 e2 e3 a 1 (e1 - 1) ++ b0 e1 e2 e3 (a + 1) (k - (a + 1))))) := by
  rw [show k - a = (k - (a + 1)) + 1 by omega]
  show b1 e2 e3 a 0 e1 ++ b0 e1 e2 e3 (a + 1) (k - (a + 1)) = _
  have := x1 (a := a) (b := 0) h1 h2 h3
  rw [Nat.sub_zero] at this
  rw [this, List.cons_append, List.append_assoc, List.append_assoc]
theorem s4 (h : d + 1 < e 3) : t4 e a b c d = (a, b, c, d + 1) :: sf e (a, b, c, d + 1) := by
  unfold sf t4
  rw [x3 h]; rfl
theorem s3 (h : c + 1 < e 2) (h3 : 0 < e 3) : t3 e a b c = (a, b, c + 1, 0) :: sf e (a, b, c + 1, 0) := by
  unfold sf t4 t3
  rw [x2 h h3, List.cons_append, List.append_assoc]
theorem s2 (h : b + 1 < e 1) (h2 : 0 < e 2) (h3 : 0 < e 3) : t2 e a b = (a, b + 1, 0, 0) :: sf e (a, b + 1, 0, 0) := by
  unfold sf t4 t3 t2
  rw [x1 h h2 h3, List.cons_append, List.append_assoc, List.append_assoc]
theorem s1 (h : a + 1 < e 0) (h1 : 0 < e 1) (h2 : 0 < e 2) (h3 : 0 < e 3) : t1 e a = (a + 1, 0, 0, 0) :: sf e (a + 1, 0, 0, 0) := by
  unfold sf t4 t3 t2 t1
  rw [x0 h h1 h2 h3]
theorem box_sf {N : Nat → Nat} {T : Nat → Option Po} (h : ∀ v, v < 4 → 1 ≤ en9 N T v) : box N T = m1 :: sf (en9 N T) m1 := by
  have := x0 (a := 0) (k := en9 N T 0) (e1 := en9 N T 1) (e2 := en9 N T 2) (e3 := en9 N T 3) (h 0 (by decide)) (h 1 (by decide)) (h 2 (by decide)) (h 3 (by decide))
  rw [Nat.sub_zero] at this
  unfold box
  rw [this]; rfl
end EX
/-- the box bounds all that stand -/
def BX (N : Nat → Nat) (T : Nat → Option Po) : Prop := (∀ v, v < 4 → 1 ≤ en9 N T v) ∧ ∀ m v, v < N 1 → stb N T m = true → ex m v < en9 N T v
theorem not_st {m : Mo} (h : ¬ stb N T m = true) : stb N T m = false := Bool.eq_false_iff.mpr h
theorem p1 {a : Nat} (hB : BX N T) (hn : 1 ≤ N 1) (A : Po) : (nbF N T 1 (a, 0, 0, 0) = none → prc N T (t1 (en9 N T) a) A = some A) ∧ ∀ m', nbF N T 1 (a, 0, 0, 0) = some m' → prc N T (t1 (en9 N T) a) A = prc N T (m' :: sf (en9 N T) m') A := by
  have e : nbF N T 1 (a, 0, 0, 0) = if stb N T (a + 1, 0, 0, 0) = true then some (a + 1, 0, 0, 0) else none := rfl
  rw [e]
  by_cases q : stb N T (a + 1, 0, 0, 0) = true
  · rw [if_pos q]
    have l := hB.2 _ 0 (by omega) q
    refine ⟨fun z => (by cases z), fun m' z => ?_⟩
    injection z with z
    rw [← z, s1 l (hB.1 1 (by decide)) (hB.1 2 (by decide)) (hB.1 3 (by decide))]
  · rw [if_neg q]
    refine ⟨fun _ => ?_, fun m' z => (by cases z)⟩
    have := prc_skip (N := N) (T := T) (M := []) (A := A) (L := t1 (en9 N T) a) (fun x hx => by
      obtain ⟨a', b', c', d', h1, rfl⟩ := b0_mem hx
      exact stb_up (not_st q) ⟨h1, Nat.zero_le _, Nat.zero_le _, Nat.zero_le _⟩)
    rw [List.append_nil] at this
    rw [this]; rfl
theorem p2 {a b : Nat} (hB : BX N T) (hn : 2 ≤ N 1) (A : Po) : (nbF N T 2 (a, b, 0, 0) = none → prc N T (t2 (en9 N T) a b) A = some A) ∧ ∀ m', nbF N T 2 (a, b, 0, 0) = some m' → prc N T (t2 (en9 N T) a b) A = prc N T (m' :: sf (en9 N T) m') A := by
  have e : nbF N T 2 (a, b, 0, 0) = if stb N T (a, b + 1, 0, 0) = true then some (a, b + 1, 0, 0) else nbF N T 1 (a, 0, 0, 0) := rfl
  rw [e]
  by_cases q : stb N T (a, b + 1, 0, 0) = true
  · rw [if_pos q]
    have l := hB.2 _ 1 (by omega) q
    refine ⟨fun z => (by cases z), fun m' z => ?_⟩
    injection z with z
    rw [← z, s2 l (hB.1 2 (by decide)) (hB.1 3 (by decide))]
  · rw [if_neg q]
    have : prc N T (t2 (en9 N T) a b) A = prc N T (t1 (en9 N T) a) A := prc_skip (fun x hx => by
      obtain ⟨b', c', d', h1, rfl⟩ := b1_mem hx
      exact stb_up (not_st q) ⟨Nat.le_refl _, h1, Nat.zero_le _, Nat.zero_le _⟩)
    rw [this]
    exact p1 hB (by omega) A
theorem p3 {a b c : Nat} (hB : BX N T) (hn : 3 ≤ N 1) (A : Po) : (nbF N T 3 (a, b, c, 0) = none → prc N T (t3 (en9 N T) a b c) A = some A) ∧ ∀ m', nbF N T 3 (a, b, c, 0) = some m' → prc N T (t3 (en9 N T) a b c) A = prc N T (m' :: sf (en9 N T) m') A := by
  have e : nbF N T 3 (a, b, c, 0) = if stb N T (a, b, c + 1, 0) = true then some (a, b, c + 1, 0) else nbF N T 2 (a, b, 0, 0) := rfl
  rw [e]
  by_cases q : stb N T (a, b, c + 1, 0) = true
  · rw [if_pos q]
    have l := hB.2 _ 2 (by omega) q
    refine ⟨fun z => (by cases z), fun m' z => ?_⟩
    injection z with z
    rw [← z, s3 l (hB.1 3 (by decide))]
  · rw [if_neg q]
    have : prc N T (t3 (en9 N T) a b c) A = prc N T (t2 (en9 N T) a b) A := prc_skip (fun x hx => by
      obtain ⟨c', d', h1, rfl⟩ := b2_mem hx
      exact stb_up (not_st q) ⟨Nat.le_refl _, Nat.le_refl _, h1, Nat.zero_le _⟩)
    rw [this]
    exact p2 hB (by omega) A
theorem p4 {a b c d : Nat} (hB : BX N T) (hn : 4 ≤ N 1) (A : Po) : (nbF N T 4 (a, b, c, d) = none → prc N T (t4 (en9 N T) a b c d) A = some A) ∧ ∀ m', nbF N T 4 (a, b, c, d) = some m' → prc N T (t4 (en9 N T) a b c d) A = prc N T (m' :: sf (en9 N T) m') A := by
  have e : nbF N T 4 (a, b, c, d) = if stb N T (a, b, c, d + 1) = true then some (a, b, c, d + 1) else nbF N T 3 (a, b, c, 0) := rfl
  rw [e]
  by_cases q : stb N T (a, b, c, d + 1) = true
  · rw [if_pos q]
    have l := hB.2 _ 3 (by omega) q
    refine ⟨fun z => (by cases z), fun m' z => ?_⟩
    injection z with z
    rw [← z, s4 l]
  · rw [if_neg q]
    have : prc N T (t4 (en9 N T) a b c d) A = prc N T (t3 (en9 N T) a b c) A := prc_skip (fun x hx => by
      obtain ⟨d', h1, rfl⟩ := b3_mem hx
      exact stb_up (not_st q) ⟨Nat.le_refl _, Nat.le_refl _, Nat.le_refl _, h1⟩)
    rw [this]
    exact p3 hB (by omega) A
/-- no variable behind the first n ones -/
def Zn (n : Nat) (m : Mo) : Prop := ∀ w, n ≤ w → w < 4 → ex m w = 0
theorem nb_ok {m : Mo} (hB : BX N T) (hn : 1 ≤ N 1 ∧ N 1 ≤ 4) (hz : Zn (N 1) m) (A : Po) : (nbF N T (N 1) m = none → prc N T (sf (en9 N T) m) A = some A) ∧ ∀ m', nbF N T (N 1) m = some m' → prc N T (sf (en9 N T) m) A = prc N T (m' :: sf (en9 N T) m') A := by
  obtain ⟨a, b, c, d⟩ := m
  have e1 : ∀ v, N 1 ≤ v → v < 4 → en9 N T v = 1 := fun v h _ => if_neg (by omega)
  have d0 : N 1 ≤ 3 → d = 0 := fun h => hz 3 h (by decide)
  have c0 : N 1 ≤ 2 → c = 0 := fun h => hz 2 h (by decide)
  have b0' : N 1 ≤ 1 → b = 0 := fun h => hz 1 h (by decide)
  have f4 : N 1 ≤ 3 → sf (en9 N T) (a, b, c, d) = t3 (en9 N T) a b c := fun h => by
    show t4 (en9 N T) a b c d = _
    unfold t4
    rw [e1 3 h (by decide), show 1 - (d + 1) = 0 by omega]; rfl
  have f3 : N 1 ≤ 2 → t3 (en9 N T) a b c = t2 (en9 N T) a b := fun h => by
    unfold t3
    rw [e1 2 h (by decide), show 1 - (c + 1) = 0 by omega]; rfl
  have f2 : N 1 ≤ 1 → t2 (en9 N T) a b = t1 (en9 N T) a := fun h => by
    unfold t2
    rw [e1 1 h (by decide), show 1 - (b + 1) = 0 by omega]; rfl
  rcases (show N 1 = 1 ∨ N 1 = 2 ∨ N 1 = 3 ∨ N 1 = 4 by omega) with h | h | h | h
  · rw [f4 (by omega), f3 (by omega), f2 (by omega), h, b0' (by omega), c0 (by omega), d0 (by omega)]
    exact p1 hB (by omega) A
  · rw [f4 (by omega), f3 (by omega), h, c0 (by omega), d0 (by omega)]
    exact p2 hB (by omega) A
  · rw [f4 (by omega), h, d0 (by omega)]
    exact p3 hB (by omega) A
  · rw [h]
    exact p4 hB (by omega) A
theorem nb_st : ∀ {k : Nat} {m m' : Mo}, k ≤ 4 → mle 30 m → Zn k m → nbF N T k m = some m' → stb N T m' = true ∧ mle 31 m' ∧ Zn k m'
  | 0, _, _, _, _, _, h => by cases h
  | k + 1, m, m', hk, hm, hz, h => by
    unfold nbF at h
    split at h
    · rename_i q
      injection h with h
      rw [← h]
      refine ⟨q, mle_ex.mpr (fun w hw => ?_), fun w h1 hw => ?_⟩
      · have := mle_ex.mp hm w hw
        rw [ex_up hw]
        split <;> omega
      · rw [ex_up hw, hz w h1 hw, if_neg (by omega)]
    · obtain ⟨i1, i2, i3⟩ := nb_st (k := k) (m := zrM k m) (by omega) (mle_ex.mpr (fun w hw => by
        have := mle_ex.mp hm w hw
        rw [ex_zr hw]
        split <;> omega)) (fun w h1 hw => by
        rw [ex_zr hw]
        by_cases y : w = k
        · rw [if_pos y]
        · rw [if_neg y]; exact hz w (by omega) hw) h
      exact ⟨i1, i2, fun w h1 hw => i3 w (by omega) hw⟩
/-- where a variable has no power among the heads, one is always next -/
theorem nb_inf {u : Nat} (hu : ∀ j, j < N 6 → oS (hdm T j) u 4 ≠ 0) : ∀ {k : Nat} {m : Mo}, k ≤ 4 → u < k → Zn k m → (∀ w, w < u → ex m w = 0) → ∃ m', nbF N T k m = some m' ∧ ∀ w, w < u → ex m' w = 0
  | 0, _, _, h, _, _ => absurd h (Nat.not_lt_zero u)
  | k + 1, m, hk, huk, hz, hw0 => by
    unfold nbF
    split
    · refine ⟨_, rfl, fun w hw => ?_⟩
      rw [ex_up (by omega), hw0 w hw, if_neg (by omega)]
    · rename_i q
      by_cases e : k = u
      · exfalso
        obtain ⟨j, hj, hd⟩ := stb_f.mp (not_st q)
        refine hu j hj (oS_iff.mpr (fun w hw hn => ?_))
        have := dv_ex.mp hd w hw
        rw [ex_up hw, if_neg (by omega)] at this
        by_cases z : w < u
        · rw [hw0 w z] at this; omega
        · rw [hz w (by omega) hw] at this; omega
      · refine nb_inf hu (k := k) (m := zrM k m) (by omega) (by omega) (fun w h1 hw => ?_) (fun w hw => ?_)
        · rw [ex_zr hw]
          by_cases y : w = k
          · rw [if_pos y]
          · rw [if_neg y]; exact hz w (by omega) hw
        · rw [ex_zr (by omega), if_neg (by omega)]; exact hw0 w hw
def fin (r : Option Po) : Int32 × Po := match r with
  | none => (-1, [])
  | some A => (nI A.length, A)
/-- the class stands at m with A found, and will find what is to be found -/
def JS (N : Nat → Nat) (T : Nat → Option Po) (m : Mo) (A : Po) : Prop := stb N T m = true ∧ mle 31 m ∧ Zn (N 1) m ∧ ((mle 30 m ∧ BX N T ∧ fnd N T = fin (prc N T (m :: sf (en9 N T) m) A)) ∨ ∃ u, u < N 1 ∧ (∀ j, j < N 6 → oS (hdm T j) u 4 ≠ 0) ∧ (∀ w, w < u → ex m w = 0) ∧ fnd N T = (-1, []))
theorem JS_300 {m : Mo} {A : Po} (h : JS N T m A) (hA : A.length = 300) : fnd N T = (-1, []) := by
  obtain ⟨h1, h2, h3, ⟨_, _, h4⟩ | ⟨u, _, _, _, h4⟩⟩ := h
  · rw [h4, prc_c, if_pos h1, if_pos hA]; rfl
  · exact h4
theorem JS_great {m : Mo} {A : Po} (h : JS N T m A) (hm : ¬ mle 30 m) : fnd N T = (-1, []) := by
  obtain ⟨h1, h2, h3, ⟨h5, _, h4⟩ | ⟨u, _, _, _, h4⟩⟩ := h
  · exact absurd h5 hm
  · exact h4
theorem JS_none {m : Mo} {A : Po} (hn : 1 ≤ N 1 ∧ N 1 ≤ 4) (h : JS N T m A) (hA : A.length < 300) (e : nbF N T (N 1) m = none) : fnd N T = (nI (inS (N 2) m A).length, inS (N 2) m A) := by
  obtain ⟨h1, h2, h3, ⟨h5, hB, h4⟩ | ⟨u, hu, hj, hw, h4⟩⟩ := h
  · rw [h4, prc_c, if_pos h1, if_neg (by omega), (nb_ok hB hn h3 _).1 e]; rfl
  · obtain ⟨m', e', _⟩ := nb_inf hj hn.2 hu h3 hw
    rw [e] at e'; cases e'
theorem JS_some {m m' : Mo} {A : Po} (hn : 1 ≤ N 1 ∧ N 1 ≤ 4) (h : JS N T m A) (hm : mle 30 m) (hA : A.length < 300) (e : nbF N T (N 1) m = some m') (hbd : ∀ v, en9 N T v ≤ 31) : JS N T m' (inS (N 2) m A) := by
  obtain ⟨h1, h2, h3, h4⟩ := h
  obtain ⟨s1, s2, s3⟩ := nb_st hn.2 hm h3 e
  refine ⟨s1, s2, s3, ?_⟩
  rcases h4 with ⟨h5, hB, h4⟩ | ⟨u, hu, hj, hw, h4⟩
  · refine Or.inl ⟨mle_ex.mpr (fun w hw => ?_), hB, ?_⟩
    · by_cases y : w < N 1
      · have := hB.2 m' w y s1
        have := hbd w
        omega
      · rw [s3 w (by omega) hw]; omega
    · rw [h4, prc_c, if_pos h1, if_neg (by omega), (nb_ok hB hn h3 _).2 m' e]
  · obtain ⟨m2, e', hw'⟩ := nb_inf hj hn.2 hu h3 hw
    rw [e] at e'
    injection e' with e'
    exact Or.inr ⟨u, hu, hj, by rw [e']; exact hw', h4⟩
theorem en9_le8 (v : Nat) : en9 N T v ≤ 31 := by
  unfold en9
  split
  · exact al_le v _
  · omega
/-- at the start: some head is 1, or the class stands at the monomial 1 -/
theorem JS_0 {R : Nat → Nat × Nat} (w : WF N T R) : (stb N T m1 = false → fnd N T = (0, [])) ∧ (stb N T m1 = true → JS N T m1 []) := by
  have hn := w.2.1
  refine ⟨fun h => ?_, fun h => ?_⟩
  · obtain ⟨k, hk, hd⟩ := stb_f.mp h
    unfold fnd
    rw [if_pos (List.any_eq_true.mpr ⟨k, List.mem_range.mpr hk, dvb_iff.mpr hd⟩)]
  · have no : ∀ k, k < N 6 → ¬ dv (hdm T k) m1 := fun k hk hd => by
      rw [stb_f.mpr ⟨k, hk, hd⟩] at h; cases h
    have hno : (List.range (N 6)).any (fun i => dvb (hdm T i) m1) = false := by
      rw [List.any_eq_false]
      exact fun k hk z => no k (List.mem_range.mp hk) (dvb_iff.mp z)
    have z1 : ∀ w, ex m1 w = 0 := ex_m1
    refine ⟨h, mle_ex.mpr (fun w _ => by rw [z1]; omega), fun w _ _ => z1 w, ?_⟩
    by_cases inf : ∃ v, v < 4 ∧ en9 N T v = 31
    · obtain ⟨v, hv, ev⟩ := inf
      have vn : v < N 1 := Classical.byContradiction fun z => by
        unfold en9 at ev
        rw [if_neg z] at ev
        cases ev
      have ea : al T v (N 6) = 31 := by
        unfold en9 at ev
        rw [if_pos vn] at ev
        exact ev
      refine Or.inr ⟨v, vn, fun j hj z => ?_, fun w _ => z1 w, ?_⟩
      · have := al_min z (N 6) hj
        have := ex_le (hd_ok w hj).2.2.2.2.1 v
        omega
      · unfold fnd
        rw [if_neg (by rw [hno]; decide), if_pos (List.any_eq_true.mpr ⟨v, List.mem_range.mpr hv, decide_eq_true ev⟩)]
    · have lt : ∀ v, v < N 1 → al T v (N 6) < 31 := fun v hv => by
        have := al_le (T := T) v (N 6)
        have : al T v (N 6) ≠ 31 := fun z => inf ⟨v, by omega, by unfold en9; rw [if_pos hv]; exact z⟩
        omega
      have hB : BX N T := by
        refine ⟨fun v hv => ?_, fun m v hv hs => ?_⟩
        · unfold en9
          by_cases vn : v < N 1
          · rw [if_pos vn]
            obtain ⟨j, j1, j2, j3⟩ := al_some (N 6) (lt v vn)
            refine Nat.pos_of_ne_zero (fun z => no j j1 (dv_ex.mpr (fun x hx => ?_)))
            by_cases y : x = v
            · rw [y]; omega
            · rw [oS_iff.mp j2 x hx y]; exact Nat.zero_le _
          · rw [if_neg vn]; exact Nat.le_refl _
        · unfold en9
          rw [if_pos hv]
          obtain ⟨j, j1, j2, j3⟩ := al_some (N 6) (lt v hv)
          refine Classical.byContradiction fun z => ?_
          rw [stb_f.mpr ⟨j, j1, dv_ex.mpr (fun x hx => ?_)⟩] at hs
          · cases hs
          · by_cases y : x = v
            · rw [y]; omega
            · rw [oS_iff.mp j2 x hx y]; exact Nat.zero_le _
      refine Or.inl ⟨mle_ex.mpr (fun w _ => by rw [z1]; omega), hB, ?_⟩
      have hno2 : (List.range 4).any (fun v => decide (en9 N T v = 31)) = false := by
        rw [List.any_eq_false]
        exact fun v hv z => inf ⟨v, List.mem_range.mp hv, of_decide_eq_true z⟩
      rw [← box_sf hB.1]
      unfold fnd
      rw [if_neg (by rw [hno]; decide), if_neg (by rw [hno2]; decide)]
      rfl
end ST
