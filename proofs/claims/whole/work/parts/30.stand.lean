/-! the reference: how two monomials stand, dividing, rests, inverses -/
/-- a monomial lies in a row of ints, from i on -/
def MA (S : St) (a i : Nat) (m : Mo) : Prop := ∀ v, v < 4 → S a (i + v) = nI (ex m v)
theorem ex_le {k : Nat} {m : Mo} (h : mle k m) (v : Nat) : ex m v ≤ k := by
  unfold mle at h
  unfold ex
  split
  · omega
  · split
    · omega
    · split <;> omega
theorem mo_ex {x y : Mo} (h : ∀ v, v < 4 → ex x v = ex y v) : x = y := mo_ext (h 0 (by decide)) (h 1 (by decide)) (h 2 (by decide)) (h 3 (by decide))
/-- a row of ints, of n places -/
def isN (a n : Nat) : Prop := alen a = n
theorem q_rfa {i v : Nat} (h : i + v < 2 ^ 31) : q_rf (nI i + nI v) = i + v := by rw [nI_add]; exact m_rf h
/-- sums of some exponents -/
def sm (m : Mo) (f : Nat) : Nat → Nat
  | 0 => 0
  | d + 1 => sm m f d + ex m (f + d)
theorem sm_le {k : Nat} {m : Mo} (h : mle k m) (f d : Nat) : sm m f d ≤ d * k := by
  induction d with
  | zero => exact Nat.zero_le _
  | succ d ih =>
    unfold sm
    have := ex_le h (f + d)
    rw [Nat.add_mul]
    omega
theorem sub4 (x y z w : Int32) : (x - y) + (z - w) = (x + z) - (y + w) := by
  rw [Int32.sub_eq_add_neg, Int32.sub_eq_add_neg, Int32.sub_eq_add_neg, Int32.neg_add, Int32.sub_eq_add_neg]
  ac_rfl
section RV
variable {a b i j f e : Nat} {x y : Mo} {S : St} {K : Int32 → St → Prop}
/-- an index below: one more than x7 -/
theorem pv_lt {u f : Nat} (hu : u < 2 ^ 30) (hf : f < 2 ^ 30) : (nI u - 1 < nI f) ↔ u ≤ f := by
  rw [Int32.lt_iff_toInt_lt, m_lit 1, pk_sub_toInt hu (by decide), nI_toInt (by omega)]
  omega
theorem rev60 (hxa : MA S a i x) (hyb : MA S b j y) (hx : mle 31 x) (hy : mle 31 y) (hia : i + 4 ≤ alen a) (hjb : j + 4 ≤ alen b) (hal : alen a < 2 ^ 30) (hbl : alen b < 2 ^ 30) (he : e ≤ 4) (hf4 : f ≤ 4)
    (h0 : (∀ w, f ≤ w → w < e → ex x w = ex y w) → K 0 S) (h1 : ∀ v, f ≤ v → v < e → (∀ w, v < w → w < e → ex x w = ex y w) → ex x v < ex y v → K 1 S) (h2 : ∀ v, f ≤ v → v < e → (∀ w, v < w → w < e → ex x w = ex y w) → ex y v < ex x v → K (-1) S) :
    ∀ (u : Nat), u ≤ e → (∀ w, u ≤ w → w < e → ex x w = ex y w) → q_it (fun _ _ => False) (w_X9_reversed_60 a (nI i) b (nI j) (nI f) (nI e) K) (u + 1) (nI u - 1) S := by
  intro u
  induction u with
  | zero =>
    intro hu hw
    rw [q_it_s]
    unfold w_X9_reversed_60
    by_cases hf : f = 0
    · subst hf
      refine ⟨fun _ => h0 (fun w _ h => hw w (Nat.zero_le _) h), fun h => absurd ((pv_lt (by decide) (by decide)).mpr (Nat.le_refl 0)) h⟩
    · refine ⟨fun _ => h0 (fun w _ h => hw w (Nat.zero_le _) h), fun h => absurd (?_) h⟩
      rw [Int32.lt_iff_toInt_lt]
      have e1 : (nI 0 - 1 : Int32).toInt = -1 := by decide
      rw [e1]
      rw [nI_toInt (by omega)]
      omega
  | succ u ih =>
    intro hu hw
    have eu : nI (u + 1) - 1 = nI u := nI_pred u
    rw [q_it_s]
    unfold w_X9_reversed_60
    rw [eu]
    refine pk_lt u f (fun h => h0 (fun w h1 h2 => hw w (by omega) h2)) (fun h => ?_)
    have hxu : q_rf (nI i + nI u) = i + u := q_rfa (by omega)
    have hyu : q_rf (nI j + nI u) = j + u := q_rfa (by omega)
    have lx := ex_le hx u
    have ly := ex_le hy u
    rw [hxu, hyu, hxa u (by omega), hyb u (by omega), nI_add, nI_add]
    refine ⟨vp_in_nI (by omega) (by omega), vp_in_nI (by omega) (by omega), ?_⟩
    refine pk_eq (ex x u) (ex y u) (fun q => ?_) (fun q => ?_)
    · intro x7 e7
      have e8 : x7 = nI u - 1 := by rw [e7, Int32.sub_eq_add_neg]
      subst e8
      refine ih (by omega) (fun w a1 a2 => ?_)
      by_cases hwu : w = u
      · rw [hwu]; exact q
      · exact hw w (by omega) a2
    · refine pk_le (ex y u) (ex x u) (fun q2 => h2 u h (by omega) (fun w a1 a2 => hw w a1 a2) (by omega)) (fun q2 => h1 u h (by omega) (fun w a1 a2 => hw w a1 a2) q2)
theorem rev7 (hxa : MA S a i x) (hyb : MA S b j y) (hx : mle 31 x) (hy : mle 31 y) (hia : i + 4 ≤ alen a) (hjb : j + 4 ≤ alen b) (hal : alen a < 2 ^ 30) (hbl : alen b < 2 ^ 30) (he : e ≤ 4) (hfe : f ≤ e) (he1 : 1 ≤ e)
    (hs1 : sm x f (e - f) < sm y f (e - f) → K (-1) S) (hs2 : sm y f (e - f) < sm x f (e - f) → K 1 S)
    (h0 : sm x f (e - f) = sm y f (e - f) → (∀ w, f ≤ w → w < e → ex x w = ex y w) → K 0 S) (h1 : sm x f (e - f) = sm y f (e - f) → ∀ v, f ≤ v → v < e → (∀ w, v < w → w < e → ex x w = ex y w) → ex x v < ex y v → K 1 S) (h2 : sm x f (e - f) = sm y f (e - f) → ∀ v, f ≤ v → v < e → (∀ w, v < w → w < e → ex x w = ex y w) → ex y v < ex x v → K (-1) S) :
    ∀ (d t : Nat), t + d = e - f → q_it (fun _ _ _ => False) (w_X9_reversed_7 a (nI i) b (nI j) (nI f) (nI e) K) (d + 1) (nI (sm x f t) - nI (sm y f t)) (nI (f + t)) S := by
  have sx := sm_le hx f
  have sy := sm_le hy f
  intro d
  induction d with
  | zero =>
    intro t ht
    have et : t = e - f := by omega
    subst et
    rw [q_it_s]
    unfold w_X9_reversed_7
    have b1 := sx (e - f)
    have b2 := sy (e - f)
    have b3 : (e - f) * 31 ≤ 4 * 31 := Nat.mul_le_mul_right 31 (by omega)
    refine pk_le e (f + (e - f)) (fun _ => ?_) (fun h => by omega)
    have ti := pk_sub_toInt (a := sm x f (e - f)) (b := sm y f (e - f)) (by omega) (by omega)
    have z0 : (nI (sm x f (e - f)) - nI (sm y f (e - f)) = 0) ↔ sm x f (e - f) = sm y f (e - f) := by
      rw [← Int32.toInt_inj, ti, Int32.toInt_zero]
      omega
    refine ⟨fun h => ?_, fun h => ⟨fun h3 => ?_, fun h3 => ?_⟩⟩
    · rw [z0] at h
      intro x7 e7
      subst e7
      exact ⟨e + 1, rev60 hxa hyb hx hy hia hjb hal hbl he (by omega) (h0 h) (h1 h) (h2 h) e (Nat.le_refl _) (fun w a1 a2 => by omega)⟩
    · rw [z0] at h
      rw [Int32.le_iff_toInt_le, ti, Int32.toInt_zero] at h3
      exact hs2 (by omega)
    · rw [z0] at h
      rw [Int32.le_iff_toInt_le, ti, Int32.toInt_zero] at h3
      exact hs1 (by omega)
  | succ d ih =>
    intro t ht
    rw [q_it_s]
    unfold w_X9_reversed_7
    refine pk_le e (f + t) (fun h => by omega) (fun h => ?_)
    have hxu : q_rf (nI i + nI (f + t)) = i + (f + t) := q_rfa (by omega)
    have hyu : q_rf (nI j + nI (f + t)) = j + (f + t) := q_rfa (by omega)
    rw [hxu, hyu, hxa (f + t) (by omega), hyb (f + t) (by omega), nI_add, nI_add]
    refine ⟨vp_in_nI (by omega) (by omega), vp_in_nI (by omega) (by omega), ?_⟩
    intro x6 e6 x7 e7
    rw [sub4, nI_add, nI_add] at e6
    rw [m_lit 1, nI_add] at e7
    subst e6; subst e7
    exact ih (t + 1) (by omega)
theorem sp_reversed (hxa : MA S a i x) (hyb : MA S b j y) (hx : mle 31 x) (hy : mle 31 y) (hia : i + 4 ≤ alen a) (hjb : j + 4 ≤ alen b) (hal : alen a < 2 ^ 30) (hbl : alen b < 2 ^ 30) (he : e ≤ 4) (hfe : f ≤ e) (he1 : 1 ≤ e)
    (hs1 : sm x f (e - f) < sm y f (e - f) → K (-1) S) (hs2 : sm y f (e - f) < sm x f (e - f) → K 1 S)
    (h0 : sm x f (e - f) = sm y f (e - f) → (∀ w, f ≤ w → w < e → ex x w = ex y w) → K 0 S) (h1 : sm x f (e - f) = sm y f (e - f) → ∀ v, f ≤ v → v < e → (∀ w, v < w → w < e → ex x w = ex y w) → ex x v < ex y v → K 1 S) (h2 : sm x f (e - f) = sm y f (e - f) → ∀ v, f ≤ v → v < e → (∀ w, v < w → w < e → ex x w = ex y w) → ex y v < ex x v → K (-1) S) :
    w_X9_reversed a (nI i) b (nI j) (nI f) (nI e) S K := by
  unfold w_X9_reversed
  refine ⟨e - f + 1, ?_⟩
  have h := rev7 hxa hyb hx hy hia hjb hal hbl he hfe he1 hs1 hs2 h0 h1 h2 (e - f) 0 (by omega)
  have e0 : nI (sm x f 0) - nI (sm y f 0) = (0 : Int32) := by show nI 0 - nI 0 = (0 : Int32); decide
  rw [e0, Nat.add_zero] at h
  exact h
theorem lexed3 (hxa : MA S a i x) (hyb : MA S b j y) (hx : mle 31 x) (hy : mle 31 y) (hia : i + 4 ≤ alen a) (hjb : j + 4 ≤ alen b) (hal : alen a < 2 ^ 30) (hbl : alen b < 2 ^ 30)
    (h0 : (∀ w, w < 4 → ex x w = ex y w) → K 0 S) (h1 : ∀ v, v < 4 → (∀ w, w < v → ex x w = ex y w) → ex y v < ex x v → K 1 S) (h2 : ∀ v, v < 4 → (∀ w, w < v → ex x w = ex y w) → ex x v < ex y v → K (-1) S) :
    ∀ (d t : Nat), t + d = 4 → (∀ w, w < t → ex x w = ex y w) → q_it (fun _ _ => False) (w_X9_lexed_3 a (nI i) b (nI j) K) (d + 1) (nI t) S := by
  intro d
  induction d with
  | zero =>
    intro t ht hw
    rw [q_it_s]
    unfold w_X9_lexed_3
    refine pk_le 4 t (fun _ => h0 (fun w q => hw w (by omega))) (fun h => by omega)
  | succ d ih =>
    intro t ht hw
    rw [q_it_s]
    unfold w_X9_lexed_3
    refine pk_le 4 t (fun h => by omega) (fun h => ?_)
    have hxu : q_rf (nI i + nI t) = i + t := q_rfa (by omega)
    have hyu : q_rf (nI j + nI t) = j + t := q_rfa (by omega)
    have lx := ex_le hx t
    have ly := ex_le hy t
    rw [hxu, hyu, hxa t (by omega), hyb t (by omega), nI_add, nI_add]
    refine ⟨vp_in_nI (by omega) (by omega), vp_in_nI (by omega) (by omega), ?_⟩
    refine pk_eq (ex x t) (ex y t) (fun q => ?_) (fun q => ?_)
    · intro x4 e4
      rw [m_lit 1, nI_add] at e4
      subst e4
      refine ih (t + 1) (by omega) (fun w hwt => ?_)
      by_cases hwu : w = t
      · rw [hwu]; exact q
      · exact hw w (by omega)
    · exact pk_le (ex y t) (ex x t) (fun q2 => h1 t h hw (by omega)) (fun q2 => h2 t h hw q2)
theorem sp_lexed (hxa : MA S a i x) (hyb : MA S b j y) (hx : mle 31 x) (hy : mle 31 y) (hia : i + 4 ≤ alen a) (hjb : j + 4 ≤ alen b) (hal : alen a < 2 ^ 30) (hbl : alen b < 2 ^ 30)
    (h0 : (∀ w, w < 4 → ex x w = ex y w) → K 0 S) (h1 : ∀ v, v < 4 → (∀ w, w < v → ex x w = ex y w) → ex y v < ex x v → K 1 S) (h2 : ∀ v, v < 4 → (∀ w, w < v → ex x w = ex y w) → ex x v < ex y v → K (-1) S) : w_X9_lexed a (nI i) b (nI j) S K := by
  unfold w_X9_lexed
  exact ⟨5, lexed3 hxa hyb hx hy hia hjb hal hbl h0 h1 h2 4 0 (by omega) (fun w h => by omega)⟩
theorem stand49 (hxa : MA S a i x) (hyb : MA S b j y) (hx : mle 31 x) (hy : mle 31 y) (hia : i + 4 ≤ alen a) (hjb : j + 4 ≤ alen b) (hal : alen a < 2 ^ 30) (hbl : alen b < 2 ^ 30)
    (hs1 : sm x 0 4 < sm y 0 4 → K (-1) S) (hs2 : sm y 0 4 < sm x 0 4 → K 1 S)
    (h0 : sm x 0 4 = sm y 0 4 → (∀ w, w < 4 → ex x w = ex y w) → K 0 S) (h1 : sm x 0 4 = sm y 0 4 → ∀ v, v < 4 → (∀ w, w < v → ex x w = ex y w) → ex y v < ex x v → K 1 S) (h2 : sm x 0 4 = sm y 0 4 → ∀ v, v < 4 → (∀ w, w < v → ex x w = ex y w) → ex x v < ex y v → K (-1) S) :
    ∀ (d t : Nat), t + d = 4 → q_it (fun _ _ _ => False) (w_X9_stand_49 a (nI i) b (nI j) K) (d + 1) (nI (sm x 0 t) - nI (sm y 0 t)) (nI t) S := by
  have sx := sm_le hx 0
  have sy := sm_le hy 0
  intro d
  induction d with
  | zero =>
    intro t ht
    have et : t = 4 := by omega
    subst et
    rw [q_it_s]
    unfold w_X9_stand_49
    have b1 := sx 4
    have b2 := sy 4
    refine pk_le 4 4 (fun _ => ?_) (fun h => by omega)
    have ti := pk_sub_toInt (a := sm x 0 4) (b := sm y 0 4) (by omega) (by omega)
    have z0 : (nI (sm x 0 4) - nI (sm y 0 4) = 0) ↔ sm x 0 4 = sm y 0 4 := by
      rw [← Int32.toInt_inj, ti, Int32.toInt_zero]
      omega
    refine ⟨fun h => ?_, fun h => ⟨fun h3 => ?_, fun h3 => ?_⟩⟩
    · rw [z0] at h
      exact sp_lexed hxa hyb hx hy hia hjb hal hbl (h0 h) (h1 h) (h2 h)
    · rw [z0] at h
      rw [Int32.le_iff_toInt_le, ti, Int32.toInt_zero] at h3
      exact hs2 (by omega)
    · rw [z0] at h
      rw [Int32.le_iff_toInt_le, ti, Int32.toInt_zero] at h3
      exact hs1 (by omega)
  | succ d ih =>
    intro t ht
    rw [q_it_s]
    unfold w_X9_stand_49
    refine pk_le 4 t (fun h => by omega) (fun h => ?_)
    have hxu : q_rf (nI i + nI t) = i + t := q_rfa (by omega)
    have hyu : q_rf (nI j + nI t) = j + t := q_rfa (by omega)
    rw [hxu, hyu, hxa t (by omega), hyb t (by omega), nI_add, nI_add]
    refine ⟨vp_in_nI (by omega) (by omega), vp_in_nI (by omega) (by omega), ?_⟩
    intro x6 e6 x7 e7
    rw [sub4, nI_add, nI_add] at e6
    rw [m_lit 1, nI_add] at e7
    subst e6; subst e7
    have q := ih (t + 1) (by omega)
    unfold sm at q
    rw [Nat.zero_add] at q
    exact q
theorem sm4 (m : Mo) : sm m 0 4 = sumn m := by
  unfold sm sm sm sm sm sumn ex
  simp
theorem sm2 (m : Mo) : sm m 0 2 = m.1 + m.2.1 := by
  unfold sm sm sm ex
  simp
theorem sm22 (m : Mo) : sm m 2 2 = m.2.2.1 + m.2.2.2 := by
  unfold sm sm sm ex
  simp
/-- stand: -1, 0, 1 by the order -/
theorem sp_stand {o : Nat} (ho : S 224 2 = nI o) (ho4 : o < 4) (hxa : MA S a i x) (hyb : MA S b j y) (hx : mle 31 x) (hy : mle 31 y) (hia : i + 4 ≤ alen a) (hjb : j + 4 ≤ alen b) (hal : alen a < 2 ^ 30) (hbl : alen b < 2 ^ 30)
    (hlt : mk o x < mk o y → K (-1) S) (heq : x = y → K 0 S) (hgt : mk o y < mk o x → K 1 S) : w_X9_stand a (nI i) b (nI j) S K := by
  rw [mk_iff hx hy] at hlt
  rw [mk_iff hy hx] at hgt
  unfold w_X9_stand
  rw [ho, m_lit 0, m_lit 1, m_lit 2, m_lit 4]
  refine ⟨fun n0 => ⟨fun n2 => ⟨fun n1 => ?_, fun e1 => ?_⟩, fun e2 => ?_⟩, fun e0 => ?_⟩
  · rw [nI_eq (by omega) (by omega)] at n0 n1 n2
    have eo : o = 3 := by omega
    subst eo
    unfold mlt at hlt hgt
    simp only [show ¬ (3 = 0) by decide, show ¬ (3 = 1) by decide, show ¬ (3 = 2) by decide, if_false] at hlt hgt
    have fin : x.1 + x.2.1 = y.1 + y.2.1 → x.2.1 = y.2.1 → w_X9_reversed a (nI i) b (nI j) (nI 2) (nI 4) S (fun r_8 S_7 => K r_8 S_7) := by
      intro q1 q2
      refine sp_reversed hxa hyb hx hy hia hjb hal hbl (by decide) (by decide) (by decide) (fun h => hlt ?_) (fun h => hgt ?_) (fun h h3 => heq ?_) (fun h v h1 h2 h3 h4 => hgt ?_) (fun h v h1 h2 h3 h4 => hlt ?_)
      · rw [sm22, sm22] at h; omega
      · rw [sm22, sm22] at h; omega
      · have g2 := h3 2 (by omega) (by omega); have g3 := h3 3 (by omega) (by omega)
        rw [ex_2, ex_2] at g2; rw [ex_3, ex_3] at g3
        exact mo_ext (by omega) q2 g2 g3
      · rw [sm22, sm22] at h
        rcases (show v = 2 ∨ v = 3 by omega) with rfl | rfl
        · have g3 := h3 3 (by omega) (by omega)
          rw [ex_3, ex_3] at g3; rw [ex_2, ex_2] at h4; omega
        · rw [ex_3, ex_3] at h4; omega
      · rw [sm22, sm22] at h
        rcases (show v = 2 ∨ v = 3 by omega) with rfl | rfl
        · have g3 := h3 3 (by omega) (by omega)
          rw [ex_3, ex_3] at g3; rw [ex_2, ex_2] at h4; omega
        · rw [ex_3, ex_3] at h4; omega
    refine sp_reversed hxa hyb hx hy hia hjb hal hbl (by decide) (by decide) (by decide) (fun h => ⟨fun q => absurd q (by decide), fun _ => hlt ?_⟩) (fun h => ⟨fun q => absurd q (by decide), fun _ => hgt ?_⟩) (fun h h3 => ⟨fun _ => ?_, fun q => absurd rfl q⟩) (fun h v h1 h2 h3 h4 => ⟨fun q => absurd q (by decide), fun _ => hgt ?_⟩) (fun h v h1 h2 h3 h4 => ⟨fun q => absurd q (by decide), fun _ => hlt ?_⟩)
    · rw [sm2, sm2] at h; omega
    · rw [sm2, sm2] at h; omega
    · rw [sm2, sm2] at h
      have g1 := h3 1 (by omega) (by omega)
      rw [ex_1, ex_1] at g1
      exact fin h g1
    · rw [sm2, sm2] at h
      rcases (show v = 0 ∨ v = 1 by omega) with rfl | rfl
      · have g1 := h3 1 (by omega) (by omega)
        rw [ex_1, ex_1] at g1; rw [ex_0, ex_0] at h4; omega
      · rw [ex_1, ex_1] at h4; omega
    · rw [sm2, sm2] at h
      rcases (show v = 0 ∨ v = 1 by omega) with rfl | rfl
      · have g1 := h3 1 (by omega) (by omega)
        rw [ex_1, ex_1] at g1; rw [ex_0, ex_0] at h4; omega
      · rw [ex_1, ex_1] at h4; omega
  · rw [nI_eq (by omega) (by omega)] at e1
    subst e1
    unfold mlt at hlt hgt
    simp only [show ¬ (1 = 0) by decide, if_false, if_true] at hlt hgt
    have h := stand49 hxa hyb hx hy hia hjb hal hbl (K := K) (fun h => hlt ?_) (fun h => hgt ?_) (fun h h3 => heq ?_) (fun h v h1 h3 h4 => hgt ?_) (fun h v h1 h3 h4 => hlt ?_) 4 0 (by omega)
    · have e0 : nI (sm x 0 0) - nI (sm y 0 0) = (0 : Int32) := by show nI 0 - nI 0 = (0 : Int32); decide
      rw [e0] at h
      exact ⟨5, h⟩
    · rw [sm4, sm4] at h; exact Or.inl h
    · rw [sm4, sm4] at h; exact Or.inl h
    · exact mo_ex h3
    · rw [sm4, sm4] at h
      refine Or.inr ⟨h.symm, ?_⟩
      rcases (show v = 0 ∨ v = 1 ∨ v = 2 ∨ v = 3 by omega) with rfl | rfl | rfl | rfl
      · rw [ex_0, ex_0] at h4; omega
      · have g0 := h3 0 (by omega); rw [ex_0, ex_0] at g0; rw [ex_1, ex_1] at h4; omega
      · have g0 := h3 0 (by omega); have g1 := h3 1 (by omega); rw [ex_0, ex_0] at g0; rw [ex_1, ex_1] at g1; rw [ex_2, ex_2] at h4; omega
      · have g0 := h3 0 (by omega); have g1 := h3 1 (by omega); have g2 := h3 2 (by omega); rw [ex_0, ex_0] at g0; rw [ex_1, ex_1] at g1; rw [ex_2, ex_2] at g2; rw [ex_3, ex_3] at h4; omega
    · rw [sm4, sm4] at h
      refine Or.inr ⟨h, ?_⟩
      rcases (show v = 0 ∨ v = 1 ∨ v = 2 ∨ v = 3 by omega) with rfl | rfl | rfl | rfl
      · rw [ex_0, ex_0] at h4; omega
      · have g0 := h3 0 (by omega); rw [ex_0, ex_0] at g0; rw [ex_1, ex_1] at h4; omega
      · have g0 := h3 0 (by omega); have g1 := h3 1 (by omega); rw [ex_0, ex_0] at g0; rw [ex_1, ex_1] at g1; rw [ex_2, ex_2] at h4; omega
      · have g0 := h3 0 (by omega); have g1 := h3 1 (by omega); have g2 := h3 2 (by omega); rw [ex_0, ex_0] at g0; rw [ex_1, ex_1] at g1; rw [ex_2, ex_2] at g2; rw [ex_3, ex_3] at h4; omega
  · rw [nI_eq (by omega) (by omega)] at e2
    subst e2
    unfold mlt at hlt hgt
    simp only [show ¬ (2 = 0) by decide, show ¬ (2 = 1) by decide, if_false, if_true] at hlt hgt
    refine sp_reversed hxa hyb hx hy hia hjb hal hbl (by decide) (by decide) (by decide) (fun h => hlt ?_) (fun h => hgt ?_) (fun h h3 => heq ?_) (fun h v h1 h2 h3 h4 => hgt ?_) (fun h v h1 h2 h3 h4 => hlt ?_)
    · rw [sm4, sm4] at h; exact Or.inl h
    · rw [sm4, sm4] at h; exact Or.inl h
    · exact mo_ex (fun v hv => h3 v (Nat.zero_le _) hv)
    · rw [sm4, sm4] at h
      refine Or.inr ⟨h.symm, ?_⟩
      rcases (show v = 0 ∨ v = 1 ∨ v = 2 ∨ v = 3 by omega) with rfl | rfl | rfl | rfl
      · have g1 := h3 1 (by omega) (by omega); have g2 := h3 2 (by omega) (by omega); have g3 := h3 3 (by omega) (by omega); rw [ex_1, ex_1] at g1; rw [ex_2, ex_2] at g2; rw [ex_3, ex_3] at g3; rw [ex_0, ex_0] at h4; omega
      · have g2 := h3 2 (by omega) (by omega); have g3 := h3 3 (by omega) (by omega); rw [ex_2, ex_2] at g2; rw [ex_3, ex_3] at g3; rw [ex_1, ex_1] at h4; omega
      · have g3 := h3 3 (by omega) (by omega); rw [ex_3, ex_3] at g3; rw [ex_2, ex_2] at h4; omega
      · rw [ex_3, ex_3] at h4; omega
    · rw [sm4, sm4] at h
      refine Or.inr ⟨h, ?_⟩
      rcases (show v = 0 ∨ v = 1 ∨ v = 2 ∨ v = 3 by omega) with rfl | rfl | rfl | rfl
      · have g1 := h3 1 (by omega) (by omega); have g2 := h3 2 (by omega) (by omega); have g3 := h3 3 (by omega) (by omega); rw [ex_1, ex_1] at g1; rw [ex_2, ex_2] at g2; rw [ex_3, ex_3] at g3; rw [ex_0, ex_0] at h4; omega
      · have g2 := h3 2 (by omega) (by omega); have g3 := h3 3 (by omega) (by omega); rw [ex_2, ex_2] at g2; rw [ex_3, ex_3] at g3; rw [ex_1, ex_1] at h4; omega
      · have g3 := h3 3 (by omega) (by omega); rw [ex_3, ex_3] at g3; rw [ex_2, ex_2] at h4; omega
      · rw [ex_3, ex_3] at h4; omega
  · rw [nI_eq (by omega) (by omega)] at e0
    subst e0
    unfold mlt at hlt hgt
    simp only [if_true] at hlt hgt
    refine sp_lexed hxa hyb hx hy hia hjb hal hbl (fun h3 => heq (mo_ex h3)) (fun v h1 h3 h4 => hgt ?_) (fun v h1 h3 h4 => hlt ?_)
    · rcases (show v = 0 ∨ v = 1 ∨ v = 2 ∨ v = 3 by omega) with rfl | rfl | rfl | rfl
      · rw [ex_0, ex_0] at h4; omega
      · have g0 := h3 0 (by omega); rw [ex_0, ex_0] at g0; rw [ex_1, ex_1] at h4; omega
      · have g0 := h3 0 (by omega); have g1 := h3 1 (by omega); rw [ex_0, ex_0] at g0; rw [ex_1, ex_1] at g1; rw [ex_2, ex_2] at h4; omega
      · have g0 := h3 0 (by omega); have g1 := h3 1 (by omega); have g2 := h3 2 (by omega); rw [ex_0, ex_0] at g0; rw [ex_1, ex_1] at g1; rw [ex_2, ex_2] at g2; rw [ex_3, ex_3] at h4; omega
    · rcases (show v = 0 ∨ v = 1 ∨ v = 2 ∨ v = 3 by omega) with rfl | rfl | rfl | rfl
      · rw [ex_0, ex_0] at h4; omega
      · have g0 := h3 0 (by omega); rw [ex_0, ex_0] at g0; rw [ex_1, ex_1] at h4; omega
      · have g0 := h3 0 (by omega); have g1 := h3 1 (by omega); rw [ex_0, ex_0] at g0; rw [ex_1, ex_1] at g1; rw [ex_2, ex_2] at h4; omega
      · have g0 := h3 0 (by omega); have g1 := h3 1 (by omega); have g2 := h3 2 (by omega); rw [ex_0, ex_0] at g0; rw [ex_1, ex_1] at g1; rw [ex_2, ex_2] at g2; rw [ex_3, ex_3] at h4; omega
end RV
