/-! the class: standing, stands -/
def fr223 (S S' : St) : Prop := ∀ c, c ≠ 223 → S' c = S c
theorem fr223_fr1 {b : Nat} {S S' : St} (hb : b = 108 ∨ b = 109) (h : fr223 S S') : fr1 b S S' := fun c hc => h c (fun e => by rw [e, (kp_c hb).2.2.2.2.2] at hc; cases hc)
theorem en_zr {v : Nat} {m : Mo} (hv : v < 4) : en m - ex m v * 256 ^ v = en (zrM v m) ∧ ex m v * 256 ^ v ≤ en m := by
  obtain ⟨a, b, c, d⟩ := m
  rcases (show v = 0 ∨ v = 1 ∨ v = 2 ∨ v = 3 by omega) with rfl | rfl | rfl | rfl
  · rw [ex_0]; show (a + 256 * (b + 256 * (c + 256 * d))) - a * 1 = (0 + 256 * (b + 256 * (c + 256 * d))) ∧ a * 1 ≤ a + 256 * (b + 256 * (c + 256 * d)); omega
  · rw [ex_1]; show (a + 256 * (b + 256 * (c + 256 * d))) - b * 256 = (a + 256 * (0 + 256 * (c + 256 * d))) ∧ b * 256 ≤ a + 256 * (b + 256 * (c + 256 * d)); omega
  · rw [ex_2]; show (a + 256 * (b + 256 * (c + 256 * d))) - c * 65536 = (a + 256 * (b + 256 * (0 + 256 * d))) ∧ c * 65536 ≤ a + 256 * (b + 256 * (c + 256 * d)); omega
  · rw [ex_3]; show (a + 256 * (b + 256 * (c + 256 * d))) - d * 16777216 = (a + 256 * (b + 256 * (c + 256 * 0))) ∧ d * 16777216 ≤ a + 256 * (b + 256 * (c + 256 * d)); omega
theorem zr_up {v : Nat} {m : Mo} (hv : v < 4) : zrM v (upM v m) = zrM v m := by
  obtain ⟨a, b, c, d⟩ := m
  rcases (show v = 0 ∨ v = 1 ∨ v = 2 ∨ v = 3 by omega) with rfl | rfl | rfl | rfl <;> rfl
section OPC
variable {b g : Nat} {N : Nat → Nat} {T : Nat → Option Po} {R : Nat → Nat × Nat} {S : St} {K : Int32 → St → Prop}
theorem sp_hasHead {m : Mo} (w : WF N T R) (h : RC b g N T R S) (hm : mle 31 m) (h0 : stb N T m = true → K 0 S) (h1 : stb N T m = false → K 1 S) : w_X0_hasHeadDividing (nI (en m)) S K := by
  have w6 : N 6 ≤ 18 := w.2.2.2.2.2.2.2.1
  have b2 : b < 2 ^ 31 := by have := h.1; omega
  have s6 : S 104 7 = nI (N 6) := h.2.2.1 (104, 7, 6) (by decide)
  have loop : ∀ (d i : Nat), i + d = N 6 → (∀ k, k < i → ¬ dv (hdm T k) m) → q_it (fun _ _ => False) (w_X0_hasHeadDividing_2 (nI (en m)) K) (d + 1) (nI i) S := by
    intro d
    induction d with
    | zero =>
      intro i hi hk
      rw [q_it_s]
      unfold w_X0_hasHeadDividing_2
      rw [s6]
      refine pk_le (N 6) i (fun _ => h0 ?_) (fun z => by omega)
      cases e : stb N T m with
      | true => rfl
      | false =>
        obtain ⟨k, k1, k2⟩ := stb_f.mp e
        exact absurd k2 (hk k (by omega))
    | succ d ih =>
      intro i hi hk
      have hil : i < N 6 := by omega
      have di := hd_ok w hil
      have mi : mle 30 (hdm T i) := di.2.2.2.2.1
      rw [q_it_s]
      generalize q_it (fun _ _ => False) (w_X0_hasHeadDividing_2 (nI (en m)) K) (d + 1) = k2 at ih ⊢
      unfold w_X0_hasHeadDividing_2
      rw [s6]
      refine pk_le (N 6) i (fun z => by omega) (fun _ => ?_)
      rw [h.2.2.2.1.1, m_rf b2, m_rf (by omega)]
      refine ⟨h.1, vp_in_nI (by omega) (by decide), pidx_P h.1 (by omega), sp_head (RC_row w h hil) di.2.2.1 (sp_divides (x := hdm T i) (mle_mono mi (by omega)) (mle_mono hm (by omega)) (fun y => ⟨fun z => absurd z (by decide), fun _ => h1 (stb_f.mpr ⟨i, hil, y⟩)⟩) (fun y => ⟨fun _ x2 e2 => ?_, fun z => absurd rfl z⟩))⟩
      rw [m_lit 1, nI_add] at e2
      subst e2
      refine ih (i + 1) (by omega) (fun k hk2 => ?_)
      by_cases z : k = i
      · rw [z]; exact y
      · exact hk k (by omega)
  unfold w_X0_hasHeadDividing
  exact ⟨N 6 + 1, loop (N 6) 0 (by omega) (fun k hk => by omega)⟩
theorem sp_nextBehind {m : Mo} (w : WF N T R) (h : RC b g N T R S) (hm : mle 30 m) (h0 : nbF N T (N 1) m = none → K (-1) S) (h1 : ∀ m', nbF N T (N 1) m = some m' → K (nI (en m')) S) : w_X7_nextBehind (nI (en m)) S K := by
  have wn := w.2.1
  have s1 : S 1 1 = nI (N 1) := h.2.2.1 (1, 1, 1) (by decide)
  have loop : ∀ (k : Nat) (x : Mo) (i : Int32), k ≤ 4 → (k = 0 → i = -1) → (∀ j, k = j + 1 → i = nI j) → mle 30 x → nbF N T (N 1) m = nbF N T k x → q_it (fun _ _ _ => False) (w_X7_nextBehind_12 (nI (en m)) K) (k + 1) (nI (en x)) i S := by
    intro k
    induction k with
    | zero =>
      intro x i _ i0 _ hx e
      rw [q_it_s]
      unfold w_X7_nextBehind_12
      rw [i0 rfl]
      refine ⟨fun _ => h0 (by rw [e]; rfl), fun z => absurd (show (-1 : Int32) < 0 by decide) z⟩
    | succ k ih =>
      intro x i hk _ i1 hx e
      have ei := i1 k rfl
      subst ei
      have hup : mle 31 (upM k x) := mle_ex.mpr (fun w hw => by
        have := mle_ex.mp hx w hw
        rw [ex_up hw]
        split <;> omega)
      have eu : en x + 256 ^ k = en (upM k x) := by
        unfold upM
        rw [en_mm, en_uv (by omega)]
      have hzr : mle 30 (zrM k x) := mle_ex.mpr (fun w hw => by
        have := mle_ex.mp hx w hw
        rw [ex_zr hw]
        split <;> omega)
      rw [q_it_s]
      generalize q_it (fun _ _ _ => False) (w_X7_nextBehind_12 (nI (en m)) K) (k + 1) = k2 at ih ⊢
      unfold w_X7_nextBehind_12
      have en : nbF N T (k + 1) x = if stb N T (upM k x) = true then some (upM k x) else nbF N T k (zrM k x) := rfl
      rw [en] at e
      refine pk_lt k 0 (fun z => by omega) (fun _ => sp_variable (by omega) (fun x2 e2 => ?_))
      rw [nI_add, eu] at e2
      subst e2
      refine sp_hasHead w h hup (fun q => ⟨fun z => absurd rfl z, fun _ => ?_⟩) (fun q => ⟨fun _ => ?_, fun z => absurd z (by decide)⟩)
      · rw [if_pos q] at e
        exact h1 _ e
      · rw [if_neg (by rw [q]; decide)] at e
        refine sp_exponentOf (mle_mono hup (by omega)) (by omega) (sp_variable (by omega) (fun x3 e3 x4 e4 => ?_))
        obtain ⟨z1, z2⟩ := en_zr (m := upM k x) (show k < 4 by omega)
        rw [pk_mul, pk_sub z2, z1, zr_up (by omega)] at e3
        subst e3
        refine ih (zrM k x) x4 (by omega) (fun z => ?_) (fun j z => ?_) hzr e
        · rw [e4, z]; decide
        · rw [e4, z, pk_m1]
  unfold w_X7_nextBehind
  intro x3 e3
  rw [s1] at e3
  have e3 : x3 = nI (N 1 - 1) := by rw [e3]; exact pk_sub (b := 1) (by omega)
  exact ⟨N 1 + 1, loop (N 1) m x3 (by omega) (fun z => by omega) (fun j z => by rw [e3, z, Nat.add_sub_cancel]) hm rfl⟩
theorem sp_insert8 {m : Mo} {A : Po} {o : Nat} {K : Unit → St → Prop} (ho4 : o < 4) (ho : S 1 2 = nI o) (hm : mle 31 m) (hA : A.length < 300) (a31 : ∀ t ∈ A, mle 31 t.2) (h : ∀ t, t < A.length → S 223 t = nI (en (pm A t))) (hK : ∀ S', (∀ t, t < (inS o m A).length → S' 223 t = nI (en (pm (inS o m A) t))) → fr223 S S' → K () S') : w_X7_insert (nI (en m)) (nI A.length) S K := by
  have lm : mk o m < 2 ^ 31 := Nat.lt_trans (mk_lt (mle_mono hm (by omega))) (by decide)
  unfold w_X7_insert
  refine sp_rank hm ho ho4 ?_
  have lay : ∀ (k : Nat) (S2 : St), k = bk o m A A.length → (∀ t, t < k → S2 223 t = nI (en (pm A t))) → (∀ t, k ≤ t → t < A.length → S2 223 (t + 1) = nI (en (pm A t))) → fr223 S S2 → w_X7_insert_59 (nI (en m)) (nI A.length) K (nI k) S2 := by
    intro k S2 ek z1 z2 f2
    have kl := bk_le (o := o) (m := m) (A := A) A.length
    unfold w_X7_insert_59
    rw [m_rf (by omega)]
    refine ⟨vp_in_nI (by omega) (by decide), fun S3 e3 => hK S3 (fun t ht => ?_) (fun c hc => by rw [e3, su_ne _ _ _ hc]; exact f2 c hc)⟩
    rw [inS_len] at ht
    unfold inS
    rw [← ek, pm_ins (by omega), e3, su_at]
    by_cases y : t = k
    · rw [if_pos ⟨rfl, y⟩, if_neg (by omega), if_pos y]
    · rw [if_neg (by omega)]
      by_cases y2 : t < k
      · rw [if_pos y2]; exact z1 t y2
      · rw [if_neg y2, if_neg y]
        have := z2 (t - 1) (by omega) (by omega)
        rw [show t - 1 + 1 = t by omega] at this
        exact this
  have inner : ∀ (k : Nat) (S2 : St), k ≤ A.length → bk o m A k = bk o m A A.length → (∀ t, t < k → S2 223 t = nI (en (pm A t))) → (∀ t, k ≤ t → t < A.length → S2 223 (t + 1) = nI (en (pm A t))) → fr223 S S2 → q_it (fun _ _ => False) (w_X7_insert_12 (nI (en m)) (nI A.length) K (nI (mk o m))) (k + 1) (nI k) S2 := by
    intro k
    induction k with
    | zero =>
      intro S2 hk eb z1 z2 f2
      rw [q_it_s]
      unfold w_X7_insert_12
      refine pk_le 0 0 (fun _ => lay 0 S2 eb z1 z2 f2) (fun z => by omega)
    | succ k ihk =>
      intro S2 hk eb z1 z2 f2
      have hkl : k < A.length := by omega
      have mk' : mle 31 (pm A k) := a31 _ (pc_mem hkl)
      have s2 : S2 1 2 = nI o := by rw [f2 1 (by decide)]; exact ho
      have e1 : (nI (k + 1) - 1 : Int32) = nI k := pk_sub (b := 1) (by omega)
      have lo1 : mk o (pm A k) < 2 ^ 31 := Nat.lt_trans (mk_lt (mle_mono mk' (by omega))) (by decide)
      rw [q_it_s]
      generalize q_it (fun _ _ => False) (w_X7_insert_12 (nI (en m)) (nI A.length) K (nI (mk o m))) (k + 1) = k3 at ihk ⊢
      unfold w_X7_insert_12
      refine pk_le (k + 1) 0 (fun z => by omega) (fun _ => ?_)
      rw [e1, m_rf (by omega), m_rf (by omega), z1 k (by omega)]
      refine ⟨vp_in_nI (by omega) (by decide), sp_rank mk' s2 ho4 ?_⟩
      refine pk_le (mk o (pm A k)) (mk o m) (fun q2 => ?_) (fun q2 => ⟨vp_in_nI (by omega) (by decide), fun S3 e3 x3 ex => ?_⟩)
      · refine lay (k + 1) S2 ?_ z1 z2 f2
        rw [← eb]
        conv => rhs; unfold bk
        rw [if_neg (by omega)]
      · rw [pk_m1] at ex
        subst ex
        rw [z1 k (by omega)] at e3
        have ebk : bk o m A k = bk o m A A.length := by
          rw [← eb]
          conv => rhs; unfold bk
          rw [if_pos q2]
        refine ihk S3 (by omega) ebk (fun t ht => ?_) (fun t t1 t2 => ?_) (fun c hc => by rw [e3, su_ne _ _ _ hc]; exact f2 c hc)
        · rw [e3, su_n _ _ (Or.inr (by omega))]; exact z1 t (by omega)
        · rw [e3, su_at]
          by_cases y : t = k
          · rw [if_pos ⟨rfl, by omega⟩, y]
          · rw [if_neg (by omega)]; exact z2 t (by omega) t2
  exact ⟨A.length + 1, inner A.length S (Nat.le_refl _) rfl h (fun t t1 t2 => by omega) (fun _ _ => rfl)⟩
/-- what the stair finds -/
def FND (N : Nat → Nat) (T : Nat → Option Po) (S' : St) : Prop := ((fnd N T).1 = nI (fnd N T).2.length ∨ ((fnd N T).1 = -1 ∧ (fnd N T).2 = [])) ∧ (fnd N T).2.length ≤ 300 ∧ (∀ t ∈ (fnd N T).2, mle 31 t.2) ∧ ∀ t, t < (fnd N T).2.length → S' 223 t = nI (en (pm (fnd N T).2 t))
theorem inS_31c {o : Nat} {m : Mo} {A : Po} (hm : mle 31 m) (a31 : ∀ t ∈ A, mle 31 t.2) : ∀ t ∈ inS o m A, mle 31 t.2 := fun t ht => by
  unfold inS at ht
  rcases List.mem_append.mp ht with q | q
  · exact a31 t (List.mem_of_mem_take q)
  · rcases List.mem_cons.mp q with z | z
    · rw [z]; exact hm
    · exact a31 t (List.mem_of_mem_drop z)
theorem sp_find {K : Int32 → St → Prop} (w : WF N T R) (h : RC b g N T R S) (hK : ∀ S', FND N T S' → fr223 S S' → K (fnd N T).1 S') : w_X7_find S K := by
  have wn := w.2.1
  have inf : fnd N T = (-1, []) → ∀ S', fr223 S S' → K (-1) S' := fun e S' f => by
    have := hK S' (by unfold FND; rw [e]; exact ⟨Or.inr ⟨rfl, rfl⟩, by decide, (fun _ z => nomatch z), fun t ht => absurd ht (Nat.not_lt_zero t)⟩) f
    rw [e] at this
    exact this
  have loop : ∀ (d : Nat) (A : Po) (m : Mo) (S1 : St), A.length + d = 300 → JS N T m A → (∀ t ∈ A, mle 31 t.2) → (∀ t, t < A.length → S1 223 t = nI (en (pm A t))) → fr223 S S1 → q_it (fun _ _ _ => False) (w_X7_find_19 K) (d + 2) (nI A.length) (nI (en m)) S1 := by
    intro d
    induction d with
    | zero =>
      intro A m S1 hd hJ a31 hA f1
      have gl := en_lt hJ.2.1 (by decide)
      rw [q_it_s]
      unfold w_X7_find_19 w_X7_find_37
      refine pk_lt (en m) 0 (fun z => by omega) (fun _ => ?_)
      refine pk_le 300 A.length (fun _ => ?_) (fun z => by omega)
      exact inf (JS_300 hJ (by omega)) S1 f1
    | succ d ih =>
      intro A m S1 hd hJ a31 hA f1
      have gl := en_lt hJ.2.1 (by decide)
      have r1 := RC_fr h (fr223_fr1 h.1 f1)
      rw [show d + 1 + 2 = (d + 2) + 1 by omega, q_it_s]
      have last : ∀ (x : Int32) (S2 : St), (K x S2) → q_it (fun _ _ _ => False) (w_X7_find_19 K) (d + 2) x (-1) S2 := fun x S2 hk => by
        rw [q_it_s]
        unfold w_X7_find_19
        exact ⟨fun _ => hk, fun z => absurd (show (-1 : Int32) < 0 by decide) z⟩
      generalize q_it (fun _ _ _ => False) (w_X7_find_19 K) (d + 2) = k2 at ih last ⊢
      unfold w_X7_find_19 w_X7_find_37
      refine pk_lt (en m) 0 (fun z => by omega) (fun _ => ?_)
      refine pk_le 300 A.length (fun z => by omega) (fun _ => ?_)
      refine sp_isGreat (mle_mono hJ.2.1 (by omega)) (fun hm => ⟨fun _ => ?_, fun z => absurd rfl z⟩) (fun hm => ⟨fun z => absurd z (by decide), fun _ => inf (JS_great hJ hm) S1 f1⟩)
      refine sp_insert8 w.2.2.1 (r1.2.2.1 (1, 2, 2) (by decide)) hJ.2.1 (by omega) a31 hA (fun S2 h2 f2 x1 e1 => ?_)
      rw [m_lit 1, nI_add] at e1
      subst e1
      have f12 : fr223 S S2 := fun c hc => (f2 c hc).trans (f1 c hc)
      have r2 := RC_fr h (fr223_fr1 h.1 f12)
      have l2 := inS_len (o := N 2) (m := m) (A := A)
      have i31 := inS_31c (o := N 2) hJ.2.1 a31
      refine sp_nextBehind w r2 hm (fun e => last _ S2 ?_) (fun m' e => ?_)
      · have ef := JS_none wn hJ (by omega) e
        have := hK S2 (by unfold FND; rw [ef]; exact ⟨Or.inl rfl, by show (inS (N 2) m A).length ≤ 300; omega, i31, h2⟩) f12
        rw [ef] at this
        rw [l2] at this
        exact this
      · have go := ih (inS (N 2) m A) m' S2 (by omega) (JS_some wn hJ hm (by omega) e en9_le8) i31 h2 f12
        rw [l2] at go
        exact go
  obtain ⟨j0, j1⟩ := JS_0 w
  have e0 : (0 : Int32) = nI (en m1) := by decide
  unfold w_X7_find
  rw [e0]
  refine sp_hasHead w h (mle_ex.mpr (fun w _ => by rw [ex_m1]; omega)) (fun q => ⟨fun _ => ?_, fun z => absurd rfl z⟩) (fun q => ⟨fun z => absurd z (by decide), fun _ => ?_⟩)
  · unfold w_X7_find_18
    exact ⟨302, loop 300 [] m1 S (by decide) (j1 q) (fun _ z => nomatch z) (fun t ht => absurd ht (Nat.not_lt_zero t)) (fun _ _ => rfl)⟩
  · unfold w_X7_find_18
    refine ⟨1, ?_⟩
    rw [q_it_s]
    unfold w_X7_find_19
    refine ⟨fun _ => ?_, fun z => absurd (show (-1 : Int32) < 0 by decide) z⟩
    have ef := j0 q
    have := hK S (by unfold FND; rw [ef]; exact ⟨Or.inl rfl, by decide, (fun _ z => nomatch z), fun t ht => absurd ht (Nat.not_lt_zero t)⟩) (fun _ _ => rfl)
    rw [ef] at this
    exact this
theorem c_standing (w : WF N T R) (h : RC b g N T R S) (hK : D8 (f_standing N T R) S K) : w_X8_standing S K := by
  have w13 : N 13 ≤ 1 := w.2.2.2.2.2.2.1
  have s13 : S 104 8 = nI (N 13) := h.2.2.1 (104, 8, 13) (by decide)
  unfold w_X8_standing
  unfold f_standing D8 at hK
  rw [s13]
  refine pk_eq (N 13) 0 (fun z => ?_) (fun z => ?_)
  · rw [if_pos z] at hK
    exact hK S ⟨b, g, h⟩ hi_rf
  · rw [if_neg z] at hK
    exact sp_find w h (fun S1 _ f1 => hK S1 ⟨b, g, RC_fr h (fr223_fr1 h.1 f1)⟩ (fun c hc => f1 c (by omega)))
theorem c_stands {x v : Int32} (w : WF N T R) (h : RC b g N T R S) (hK : D8 (f_stands N T R x v) S K) : w_X8_stands x v S K := by
  have wn := w.2.1
  have w13 : N 13 ≤ 1 := w.2.2.2.2.2.2.1
  have s13 : S 104 8 = nI (N 13) := h.2.2.1 (104, 8, 13) (by decide)
  unfold w_X8_stands w_X8_stands_41
  unfold f_stands D8 at hK
  rw [s13]
  refine pk_eq' (j := 0) (by omega) (by decide) (fun z => ?_) (fun z => ?_)
  · rw [if_neg z] at hK
    refine sp_find w h (fun S1 hF f1 => ?_)
    obtain ⟨hc, l300, a31, h223⟩ := hF
    have r1 := RC_fr h (fr223_fr1 h.1 f1)
    have hk := hK
    have hi1 : hi S S1 := fun c hc => f1 c (by omega)
    have s1 : S1 1 1 = nI (N 1) := r1.2.2.1 (1, 1, 1) (by decide)
    generalize fnd N T = F at hc l300 a31 h223 hk
    have hm1 : (-1 : Int32).toInt = -1 := by decide
    have ti : F.1.toInt = (F.2.length : Int) ∨ (F.1.toInt = -1 ∧ F.2.length = 0) := by
      rcases hc with e | ⟨e1, e2⟩
      · left; rw [e, nI_toInt (by omega)]
      · right; rw [e1, e2]; exact ⟨hm1, rfl⟩
    refine ⟨fun q => ?_, fun q => ⟨fun q2 => ?_, fun q2 => ?_⟩⟩
    · rw [Int32.lt_iff_toInt_lt, Int32.toInt_zero] at q
      rw [if_neg (by omega)] at hk
      exact hk S1 ⟨b, g, r1⟩ hi1
    · rw [Int32.lt_iff_toInt_lt, Int32.toInt_zero] at q
      rw [Int32.le_iff_toInt_le] at q2
      rw [if_neg (by omega)] at hk
      exact hk S1 ⟨b, g, r1⟩ hi1
    · obtain ⟨j, hj, rfl⟩ := nI_of q
      rw [Int32.le_iff_toInt_le, nI_toInt hj] at q2
      rw [nI_toInt hj] at hk
      have hjl : j < F.2.length := by omega
      refine sp_hasVariable s1 (by omega) (fun u hu eu => ⟨fun _ => ⟨vp_in_nI (by omega) (by decide), ?_⟩, fun z => absurd z (by decide)⟩) (fun q3 => ⟨fun z => absurd rfl z, fun _ => ?_⟩)
      · rw [eu, nI_toInt (by omega), if_pos ⟨⟨by omega, by omega⟩, by omega, by omega⟩, show (u : Int).toNat = u from rfl, show (j : Int).toNat = j from rfl] at hk
        rw [m_rf hj, h223 j hjl, eu]
        exact sp_exponentOf (mle_mono (a31 _ (pc_mem hjl)) (by omega)) (by omega) (hk S1 ⟨b, g, r1⟩ hi1)
      · rw [if_neg (by omega)] at hk
        exact hk S1 ⟨b, g, r1⟩ hi1
  · rw [if_pos z] at hK
    exact hK S ⟨b, g, h⟩ hi_rf
end OPC
