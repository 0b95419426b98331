/-! the state as the class holds it -/
def kp (b c : Nat) : Bool := decide (c = 1) || (decide (4 ≤ c) && decide (c ≤ 6)) || (decide (10 ≤ c) && decide (c ≤ 15)) || decide (c = 19) || (decide (21 ≤ c) && decide (c ≤ 94)) || (decide (104 ≤ c) && decide (c ≤ 107)) || (decide (pidx b 0 ≤ c) && decide (c < 222) && decide ((c + 6 - pidx b 0) % 6 < 3))
/-- where the polynomial of a place lies -/
def pcl (b k : Nat) : Nat := if k = 0 then 10 else if k < 25 then pidx 20 (k - 1) else pidx b (k - 25)
def scT : List (Nat × Nat × Nat) := [(1, 0, 0), (1, 1, 1), (1, 2, 2), (94, 4, 10), (94, 5, 19), (94, 6, 18), (104, 7, 6), (104, 8, 13), (104, 9, 11), (104, 10, 12), (104, 11, 14), (104, 12, 15), (104, 13, 16), (104, 14, 17), (105, 2, 7)]
def RC (b g : Nat) (N : Nat → Nat) (T : Nat → Option Po) (R : Nat → Nat × Nat) (S : St) : Prop :=
  (b = 108 ∨ b = 109) ∧ (g = 95 ∨ g = 98) ∧ (∀ x ∈ scT, S x.1 x.2.1 = nI (N x.2.2)) ∧ (S 104 3 = nI b ∧ S 104 4 = nI (217 - b) ∧ S 94 1 = nI g ∧ S 94 2 = nI (193 - g)) ∧
  (∀ k P, k < 43 → T k = some P → PC S (pcl b k) P) ∧ (∀ k, k < 24 → S 21 k = if (T (1 + k)).isSome = true then 1 else 0) ∧ S 19 2 = nI (cnt T 24) ∧ PC S 13 [(1, m1)] ∧ PC S 4 [] ∧ ∀ t, t < N 7 → S 106 t = nI (R t).1 ∧ S 107 t = nI (R t).2
def CC (N : Nat → Nat) (T : Nat → Option Po) (R : Nat → Nat × Nat) (S : St) : Prop := ∃ b g, RC b g N T R S
def D8 (f : Int32 × (Nat → Nat) × (Nat → Option Po) × (Nat → Nat × Nat)) (S : St) (K : Int32 → St → Prop) : Prop := ∀ S', CC f.2.1 f.2.2.1 f.2.2.2 S' → hi S S' → K f.1 S'
def fr1 (b : Nat) (S S' : St) : Prop := ∀ c, kp b c = true → S' c = S c
theorem hi_rf {S : St} : hi S S := fun _ _ => rfl
theorem hi_tr {S S' S'' : St} (h : hi S S') (h' : hi S' S'') : hi S S'' := fun c q => (h' c q).trans (h c q)
theorem hi_su {S : St} {c k : Nat} {v : Int32} (h : c < 224) : hi S (su S c k v) := fun d q => su_ne S k v (by omega)
theorem hi_off {q : Nat} {S S' : St} (hq : isP q) (h : off q S S') : hi S S' := fun c hc => off_hi hq h c (by omega)
theorem fr1_rf {b : Nat} {S : St} : fr1 b S S := fun _ _ => rfl
theorem fr1_tr {b : Nat} {S S' S'' : St} (h : fr1 b S S') (h' : fr1 b S' S'') : fr1 b S S'' := fun c q => (h' c q).trans (h c q)
theorem fr1_su {b : Nat} {S : St} {c k : Nat} {v : Int32} (h : kp b c = false) : fr1 b S (su S c k v) := fun d q => su_ne S k v (fun e => by rw [e, h] at q; cases q)
theorem pcl_all : ∀ b, (b = 108 ∨ b = 109) → ∀ k, k < 43 → (kd (pcl b k) = (3, 2) ∧ pcl b k < 242) ∧ kp b (pcl b k) = true ∧ kp b (pcl b k + 1) = true ∧ kp b (pcl b k + 2) = true := by
  rintro b (rfl | rfl) <;> decide +kernel
theorem pcl_inj : ∀ b, (b = 108 ∨ b = 109) → ∀ k, k < 43 → ∀ j, j < 43 → pcl b k = pcl b j → k = j := by
  rintro b (rfl | rfl) <;> decide +kernel
theorem pcl_n4 : ∀ b, (b = 108 ∨ b = 109) → ∀ k, k < 43 → (4 : Nat) ≠ pcl b k ∧ (13 : Nat) ≠ pcl b k := by
  rintro b (rfl | rfl) <;> decide +kernel
theorem pcl_P {b k : Nat} (hb : b = 108 ∨ b = 109) (hk : k < 43) : isP (pcl b k) := ⟨(pcl_all b hb k hk).1.2, (pcl_all b hb k hk).1.1⟩
theorem pcl_0 {b : Nat} : pcl b 0 = 10 := rfl
theorem pcl_s {b k : Nat} (h : k < 24) : pcl b (1 + k) = pidx 20 k := by
  unfold pcl; rw [if_neg (by omega), if_pos (by omega), Nat.add_sub_cancel_left]
theorem pcl_b {b i : Nat} : pcl b (25 + i) = pidx b i := by
  unfold pcl; rw [if_neg (by omega), if_neg (by omega), Nat.add_sub_cancel_left]
theorem pidx_P {b i : Nat} (hb : b = 108 ∨ b = 109) (hi : i < 18) : isP (pidx b i) := by
  rw [← pcl_b]; exact pcl_P hb (by omega)
theorem pidx20_P {k : Nat} (h : k < 24) : isP (pidx 20 k) := by
  rw [← pcl_s (b := 108) h]; exact pcl_P (Or.inl rfl) (by omega)
/-- the rows that are worked on -/
def wk (q : Nat) : Prop := q = 7 ∨ q = 16 ∨ q = 95 ∨ q = 98 ∨ q = 101 ∨ q = 111
theorem wk_P {q : Nat} (h : wk q) : isP q := by
  rcases h with rfl | rfl | rfl | rfl | rfl | rfl <;> (unfold isP; decide +kernel)
theorem wk_kp {b q : Nat} (hb : b = 108 ∨ b = 109) (h : wk q) : kp b q = false ∧ kp b (q + 1) = false ∧ kp b (q + 2) = false := by
  rcases hb with rfl | rfl <;> rcases h with rfl | rfl | rfl | rfl | rfl | rfl <;> decide +kernel
theorem off_fr1' {b q : Nat} {S S' : St} (h : kp b q = false ∧ kp b (q + 1) = false ∧ kp b (q + 2) = false) (f : off q S S') : fr1 b S S' := fun c hc => f c (fun e => by rw [e, h.1] at hc; cases hc) (fun e => by rw [e, h.2.1] at hc; cases hc) (fun e => by rw [e, h.2.2] at hc; cases hc)
theorem off_fr1 {b q : Nat} {S S' : St} (hb : b = 108 ∨ b = 109) (h : wk q) (f : off q S S') : fr1 b S S' := off_fr1' (wk_kp hb h) f
/-- the other row of places -/
theorem spa_all : ∀ b, (b = 108 ∨ b = 109) → ∀ k, k < 18 → (kd (pidx (217 - b) k) = (3, 2) ∧ pidx (217 - b) k < 242) ∧ kp b (pidx (217 - b) k) = false ∧ kp b (pidx (217 - b) k + 1) = false ∧ kp b (pidx (217 - b) k + 2) = false := by
  rintro b (rfl | rfl) <;> decide +kernel
theorem nP_c : notP 94 ∧ notP 104 ∧ notP 105 ∧ notP 106 ∧ notP 107 ∧ notP 21 ∧ notP 19 ∧ notP 2 ∧ notP 3 ∧ notP 110 ∧ notP 223 := by
  refine ⟨?_, ?_, ?_, ?_, ?_, ?_, ?_, ?_, ?_, ?_, ?_⟩ <;> (unfold notP; decide +kernel)
theorem isP_c : isP 4 ∧ isP 7 ∧ isP 10 ∧ isP 13 ∧ isP 16 ∧ isP 101 ∧ isP 111 ∧ isP 95 ∧ isP 98 := by unfold isP; decide +kernel
theorem PC_fr1 {b q : Nat} {S S' : St} {P : Po} (h : PC S q P) (f : fr1 b S S') (h0 : kp b q = true) (h1 : kp b (q + 1) = true) (h2 : kp b (q + 2) = true) : PC S' q P := PC_eq h (by rw [f q h0]) (f _ h1) (f _ h2)
theorem kp_c {b : Nat} (hb : b = 108 ∨ b = 109) : (kp b 1 = true ∧ kp b 4 = true ∧ kp b 5 = true ∧ kp b 6 = true ∧ kp b 10 = true ∧ kp b 13 = true ∧ kp b 14 = true ∧ kp b 15 = true) ∧ (kp b 19 = true ∧ kp b 21 = true ∧ kp b 94 = true ∧ kp b 104 = true ∧ kp b 105 = true ∧ kp b 106 = true ∧ kp b 107 = true) ∧ kp b 2 = false ∧ kp b 3 = false ∧ kp b 110 = false ∧ kp b 223 = false := by
  rcases hb with rfl | rfl <;> decide +kernel
theorem scT_c : ∀ x ∈ scT, (x.1 = 1 ∨ x.1 = 94 ∨ x.1 = 104 ∨ x.1 = 105) ∧ ¬ (x.1 = 104 ∧ (x.2.1 = 3 ∨ x.2.1 = 4)) ∧ ¬ (x.1 = 94 ∧ (x.2.1 = 1 ∨ x.2.1 = 2)) := by decide
theorem scT_i : ∀ x ∈ scT, ∀ y ∈ scT, ((x.2.2 = y.2.2) ↔ (x.1 = y.1 ∧ x.2.1 = y.2.1)) := by decide
section CB
variable {b g : Nat} {N : Nat → Nat} {T : Nat → Option Po} {R : Nat → Nat × Nat} {S S' : St}
theorem RC_fr (h : RC b g N T R S) (f : fr1 b S S') : RC b g N T R S' := by
  obtain ⟨hb, hg, a1, a2, a3, a4, a5, a6, a7, a8⟩ := h
  obtain ⟨⟨k1, k4, k5, k6, k10, k13, k14, k15⟩, ⟨k19, k21, k94, k104, k105, k106, k107⟩, -⟩ := kp_c hb
  refine ⟨hb, hg, fun x hx => ?_, ?_, fun k P hk hT => ?_, fun k hk => by rw [f 21 k21]; exact a4 k hk, by rw [f 19 k19]; exact a5, PC_fr1 a6 f k13 k14 k15, PC_fr1 a7 f k4 k5 k6, fun t ht => by rw [f 106 k106, f 107 k107]; exact a8 t ht⟩
  · have e : S' x.1 = S x.1 := by
      rcases (scT_c x hx).1 with e | e | e | e <;> rw [e]
      · exact f 1 k1
      · exact f 94 k94
      · exact f 104 k104
      · exact f 105 k105
    rw [e]; exact a1 x hx
  · rw [f 104 k104, f 94 k94]; exact a2
  · obtain ⟨-, q1, q2, q3⟩ := pcl_all b hb k hk
    exact PC_fr1 (a3 k P hk hT) f q1 q2 q3
theorem RC_nuR {c k j v : Nat} {R' : Nat → Nat × Nat} (h : RC b g N T R S) (hm : (c, k, j) ∈ scT) (hR : ∀ t, t < nu N j v 7 → S 106 t = nI (R' t).1 ∧ S 107 t = nI (R' t).2) : RC b g (nu N j v) T R' (su S c k (nI v)) := by
  obtain ⟨hb, hg, a1, a2, a3, a4, a5, a6, a7, a8⟩ := h
  obtain ⟨c1, c2, c3⟩ := scT_c _ hm
  have hnP : notP c := by
    rcases c1 with e | e | e | e
    · have e : c = 1 := e
      rw [e]; exact nP_1
    · have e : c = 94 := e
      rw [e]; exact nP_c.1
    · have e : c = 104 := e
      rw [e]; exact nP_c.2.1
    · have e : c = 105 := e
      rw [e]; exact nP_c.2.2.1
  have hPC : ∀ q P, isP q → PC S q P → PC (su S c k (nI v)) q P := fun q P hq hP => by
    have n0 : q ≠ c := fun e => hnP.1 (by rw [← e]; exact hq.2)
    have n1 : q + 1 ≠ c := fun e => hnP.2.1 (by omega) (by rw [← e, Nat.add_sub_cancel]; exact hq.2)
    have n2 : q + 2 ≠ c := fun e => hnP.2.2 (by omega) (by rw [← e, Nat.add_sub_cancel]; exact hq.2)
    exact PC_eq hP (by rw [su_ne _ _ _ n0]) (su_ne _ _ _ n1) (su_ne _ _ _ n2)
  have c1 : c = 1 ∨ c = 94 ∨ c = 104 ∨ c = 105 := c1
  have c2 : ¬ (c = 104 ∧ (k = 3 ∨ k = 4)) := c2
  have c3 : ¬ (c = 94 ∧ (k = 1 ∨ k = 2)) := c3
  refine ⟨hb, hg, fun x hx => ?_, ⟨?_, ?_, ?_, ?_⟩, fun i P hi hT => hPC _ P (pcl_P hb hi) (a3 i P hi hT), fun i hi => ?_, ?_, hPC 13 _ isP_c.2.2.2.1 a6, hPC 4 _ isP_c.1 a7, fun t ht => ?_⟩
  · have i := scT_i x hx _ hm
    by_cases e : x.2.2 = j
    · obtain ⟨e1, e2⟩ := i.mp e
      rw [e, nu_s, e1, e2]
      exact su_s S c k (nI v)
    · rw [nu_n e, su_n S _ (by
        by_cases e1 : x.1 = c
        · exact Or.inr (fun e2 => e (i.mpr ⟨e1, e2⟩))
        · exact Or.inl e1)]
      exact a1 x hx
  · rw [su_n _ _ (by omega)]; exact a2.1
  · rw [su_n _ _ (by omega)]; exact a2.2.1
  · rw [su_n _ _ (by omega)]; exact a2.2.2.1
  · rw [su_n _ _ (by omega)]; exact a2.2.2.2
  · rw [su_ne _ _ _ (by omega)]; exact a4 i hi
  · rw [su_ne _ _ _ (by omega)]; exact a5
  · rw [su_ne _ _ _ (by omega), su_ne _ _ _ (by omega)]; exact hR t ht
theorem RC_nu {c k j v : Nat} (h : RC b g N T R S) (hm : (c, k, j) ∈ scT) (hj : j ≠ 7) : RC b g (nu N j v) T R (su S c k (nI v)) := RC_nuR h hm (fun t ht => by rw [nu_n (Ne.symm hj)] at ht; exact h.2.2.2.2.2.2.2.2.2 t ht)
theorem RC_T {T' : Nat → Option Po} (h : RC b g N T R S) (h1 : ∀ k P, k < 43 → T' k = some P → T k = some P) (h2 : ∀ k, k < 24 → T' (1 + k) = T (1 + k)) : RC b g N T' R S := by
  obtain ⟨hb, hg, a1, a2, a3, a4, a5, a6, a7, a8⟩ := h
  refine ⟨hb, hg, a1, a2, fun k P hk hT => a3 k P hk (h1 k P hk hT), fun k hk => by rw [h2 k hk]; exact a4 k hk, ?_, a6, a7, a8⟩
  rw [a5]
  congr 1
  have : ∀ d, d ≤ 24 → cnt T d = cnt T' d := by
    intro d
    induction d with
    | zero => intro _; rfl
    | succ d ih =>
      intro hd
      unfold cnt
      rw [ih (by omega), h2 d (by omega)]
  exact this 24 (Nat.le_refl _)
/-- a polynomial comes to a place that isn't the shelf's, or held one -/
theorem RC_lay {k : Nat} {P : Po} (h : RC b g N T R S) (hk : k < 43) (hs : k = 0 ∨ 25 ≤ k ∨ ∃ Q, T k = some Q) (hP : PC S' (pcl b k) P) (f : off (pcl b k) S S') : RC b g N (tu T k (some P)) R S' := by
  obtain ⟨hb, hg, a1, a2, a3, a4, a5, a6, a7, a8⟩ := h
  have hq := pcl_P hb hk
  have hn : ∀ c, notP c → S' c = S c := fun c hc => off_lit hq hc f
  have n4 := pcl_n4 b hb k hk
  have hT1 : ∀ i, i < 24 → (tu T k (some P) (1 + i)).isSome = (T (1 + i)).isSome := fun i hi => by
    by_cases e : 1 + i = k
    · rw [e, tu_s]
      rcases hs with q | q | ⟨Q, q⟩
      · omega
      · omega
      · rw [q]; rfl
    · rw [tu_n e]
  have hcnt : ∀ d, d ≤ 24 → cnt (tu T k (some P)) d = cnt T d := by
    intro d
    induction d with
    | zero => intro _; rfl
    | succ d ih =>
      intro hd
      have := hT1 d (by omega)
      unfold cnt
      rw [ih (by omega)]
      cases h1 : tu T k (some P) (1 + d) <;> cases h2 : T (1 + d) <;> rw [h1, h2] at this <;> first | rfl | cases this
  refine ⟨hb, hg, fun x hx => ?_, ?_, fun i Q hi hT => ?_, fun i hi => ?_, ?_, PC_off hq isP_c.2.2.2.1 n4.2 f a6, PC_off hq isP_c.1 n4.1 f a7, fun t ht => ?_⟩
  · have e : S' x.1 = S x.1 := by
      rcases (scT_c x hx).1 with e | e | e | e <;> rw [e]
      · exact hn _ nP_1
      · exact hn _ nP_c.1
      · exact hn _ nP_c.2.1
      · exact hn _ nP_c.2.2.1
    rw [e]; exact a1 x hx
  · rw [hn _ nP_c.1, hn _ nP_c.2.1]; exact a2
  · by_cases q : i = k
    · rw [q, tu_s] at hT
      injection hT with hT
      rw [q, ← hT]; exact hP
    · rw [tu_n q] at hT
      exact PC_off hq (pcl_P hb hi) (fun e => q (pcl_inj b hb i hi k hk e)) f (a3 i Q hi hT)
  · rw [hT1 i hi, hn _ nP_c.2.2.2.2.2.1]; exact a4 i hi
  · rw [hn _ nP_c.2.2.2.2.2.2.1, hcnt 24 (Nat.le_refl _)]; exact a5
  · rw [hn _ nP_c.2.2.2.1, hn _ nP_c.2.2.2.2.1]; exact a8 t ht
/-! the shelf -/
theorem cnt_put {t : Nat} {P : Po} (hT : T (1 + t) = none) : ∀ d, cnt (tu T (1 + t) (some P)) d = cnt T d + (if t < d then 1 else 0)
  | 0 => by simp [cnt]
  | d + 1 => by
    unfold cnt
    rw [cnt_put hT d]
    by_cases e : d = t
    · subst e
      rw [tu_s, hT, if_neg (by omega), if_pos (by omega)]
    · rw [tu_n (by omega)]
      by_cases q : t < d
      · rw [if_pos q, if_pos (by omega)]; omega
      · rw [if_neg q, if_neg (by omega)]; omega
theorem cnt_del {t : Nat} {P : Po} (hT : T (1 + t) = some P) : ∀ d, cnt (tu T (1 + t) none) d + (if t < d then 1 else 0) = cnt T d
  | 0 => by simp [cnt]
  | d + 1 => by
    have ih := cnt_del hT d
    unfold cnt
    by_cases e : d = t
    · subst e
      rw [if_neg (by omega)] at ih
      rw [tu_s, hT, if_pos (by omega)]
      show cnt (tu T (1 + d) none) d + 0 + 1 = cnt T d + 1
      omega
    · rw [tu_n (by omega)]
      by_cases q : t < d
      · rw [if_pos q] at ih
        rw [if_pos (by omega)]; omega
      · rw [if_neg q] at ih
        rw [if_neg (by omega)]; omega
theorem cnt_all : ∀ d, (∀ i, i < d → T (1 + i) ≠ none) → cnt T d = d
  | 0, _ => rfl
  | d + 1, h => by
    unfold cnt
    rw [cnt_all d (fun i hi => h i (by omega))]
    cases q : T (1 + d) with
    | none => exact absurd q (h d (by omega))
    | some P => rfl
theorem cnt_lt {t : Nat} (hT : T (1 + t) = none) : ∀ d, t < d → cnt T d < d
  | 0, h => absurd h (Nat.not_lt_zero t)
  | d + 1, h => by
    have hl := cnt_le T d
    unfold cnt
    by_cases e : d = t
    · subst e
      rw [hT]; show cnt T d + 0 < d + 1; omega
    · have := cnt_lt hT d (by omega)
      split <;> omega
theorem frp_lt : ∀ d k i, k ≤ i → i < frp T d k → T i ≠ none
  | 0, k, i, h1, h2 => by unfold frp at h2; omega
  | d + 1, k, i, h1, h2 => by
    unfold frp at h2
    cases q : T k with
    | none => rw [q] at h2; simp only at h2; omega
    | some P =>
      rw [q] at h2
      by_cases e : i = k
      · rw [e, q]; exact fun z => by cases z
      · exact frp_lt d (k + 1) i (by omega) h2
theorem fre_cnt : cnt T 24 = 24 ↔ fre T = 25 := by
  have := fre_le (T := T)
  constructor
  · intro h
    refine Classical.byContradiction fun q => ?_
    have hn := (frp_ok (T := T) 24 1).2.2 (by unfold fre at this q; omega)
    have e : T (1 + (fre T - 1)) = none := by
      rw [show 1 + (fre T - 1) = fre T by omega]; exact hn
    have := cnt_lt e 24 (by omega)
    omega
  · intro h
    exact cnt_all 24 (fun i hi => frp_lt 24 1 (1 + i) (by omega) (by unfold fre at h; omega))
theorem sp_isFull {K : Int32 → St → Prop} (h : RC b g N T R S) (h1 : fre T = 25 → K 1 S) (h0 : fre T ≠ 25 → K 0 S) : w_X6_isFull S K := by
  have hc := cnt_le T 24
  unfold w_X6_isFull
  rw [h.2.2.2.2.2.2.1]
  exact pk_eq' (j := 24) (by omega) (by omega) (fun q => h0 (fun e => q (fre_cnt.mpr e))) (fun q => h1 (fre_cnt.mp q))
theorem sp_at {x : Int32} {K : Option Nat → St → Prop} (h : RC b g N T R S) (h1 : ∀ (k : Nat) (P : Po), x = nI k → x.toInt = (k : Int) → k < 24 → T (1 + k) = some P → K (some (pidx 20 k)) S) (h0 : (∀ (k : Nat) (P : Po), k < 24 → x.toInt = (k : Int) → T (1 + k) ≠ some P) → K none S) : w_X6_at x S K := by
  unfold w_X6_at w_X6_at_28
  have h24 : (24 : Int32).toInt = 24 := by decide
  refine ⟨fun q => h0 (fun k P hk e => ?_), fun q => ⟨fun q2 => h0 (fun k P hk e => ?_), fun q2 => ?_⟩⟩
  · rw [Int32.lt_iff_toInt_lt, Int32.toInt_zero] at q; omega
  · rw [Int32.le_iff_toInt_le, h24] at q2; omega
  · obtain ⟨k, hk, rfl⟩ := nI_of q
    have hk24 : k < 24 := by
      rw [Int32.le_iff_toInt_le, h24, nI_toInt hk] at q2; omega
    rw [m_rf hk]
    refine ⟨vp_in_nI hk24 (by decide), ?_⟩
    rw [h.2.2.2.2.2.1 k hk24]
    cases hT : T (1 + k) with
    | none => exact ⟨fun _ => h0 (fun j P hj e => by rw [nI_toInt hk] at e; rw [show j = k by omega, hT]; exact fun z => by cases z), fun z => absurd rfl z⟩
    | some P => exact ⟨fun z => absurd z (show ¬ (1 : Int32) = 0 by decide), fun _ => h1 k P rfl (nI_toInt hk) hk24 hT⟩
theorem sp_polyAt {x : Int32} {K : Option Nat → St → Prop} (w : WF N T R) (h : RC b g N T R S) (h1 : ∀ k P, plc N T x = some k → k < 43 → T k = some P → GP N P → K (some (pcl b k)) S) (h0 : plc N T x = none → K none S) : w_X8_polyAt x S K := by
  have hb := h.1
  have w6 : N 6 ≤ 18 := w.2.2.2.2.2.2.2.1
  have hs : ∀ k, plc N T x = some k → K (some (pcl b k)) S := fun k e => by
    obtain ⟨q1, P, q2, q3⟩ := plc_some w e
    exact h1 k P e q1 q2 q3
  have hm : (-1 : Int32).toInt = -1 := by decide
  have hm2 : (-2 : Int32).toInt = -2 := by decide
  have hx1 := Int32.le_toInt x
  have hx2 := Int32.toInt_lt x
  unfold w_X8_polyAt
  refine ⟨fun q => ⟨fun q2 => ?_, fun q2 => ?_⟩, fun q => ?_⟩
  · rw [Int32.lt_iff_toInt_lt, hm2] at q2
    have hne : x.toInt ≠ -1 := fun z => q (Int32.toInt_inj.mp (by rw [z, hm]))
    refine sp_at h (fun k P e e2 hk hT => ⟨fun z => (by cases z), fun r z => ?_⟩) (fun hn => ⟨fun _ => h0 ?_, fun r z => (by cases z)⟩)
    · injection z with z
      rw [← z, ← pcl_s (b := b) hk]
      refine hs (1 + k) ?_
      unfold plc
      rw [if_neg hne, if_pos (by omega), if_pos (by omega), e2, show (k : Int).toNat = k from rfl, hT]
    · unfold plc
      rw [if_neg hne]
      split
      · split
        · rename_i q3 q4
          cases hT : T (1 + x.toInt.toNat) with
          | none => rfl
          | some P => exact absurd hT (hn _ P (by omega) (by omega))
        · rfl
      · rename_i q3; omega
  · rw [Int32.lt_iff_toInt_lt, hm2] at q2
    have hne : x.toInt ≠ -1 := fun z => q (Int32.toInt_inj.mp (by rw [z, hm]))
    have e1 : ((-2 : Int32) - x).toInt = -2 - x.toInt := by
      rw [Int32.toInt_sub, hm2]
      apply Int.bmod_eq_of_le <;> omega
    have e2 : ((-2 : Int32) - x) = nI (-2 - x.toInt).toNat := nI_nn (x := (-2 : Int32) - x) (by omega) |>.trans (by rw [e1])
    unfold w_X0_at w_X0_at_21
    refine ⟨fun z => ?_, fun _ => ?_⟩
    · rw [Int32.lt_iff_toInt_lt, e1, Int32.toInt_zero] at z; omega
    · have r6 : S 104 7 = nI (N 6) := h.2.2.1 (104, 7, 6) (by decide)
      rw [r6, e2]
      refine pk_le (N 6) (-2 - x.toInt).toNat (fun z => ⟨fun _ => h0 ?_, fun r z => (by cases z)⟩) (fun z => ?_)
      · unfold plc
        rw [if_neg hne, if_neg (by omega), if_neg (by omega)]
      · rw [h.2.2.2.1.1, m_rf (by omega), m_rf (by omega)]
        refine ⟨hb, vp_in_nI (by omega) (by decide), fun z => (by cases z), fun r z2 => ?_⟩
        injection z2 with z2
        rw [← z2, ← pcl_b]
        refine hs _ ?_
        unfold plc
        rw [if_neg hne, if_neg (by omega), if_pos (by omega)]
        exact congrArg some (by omega)
  · subst q
    exact hs 0 (by unfold plc; rw [if_pos hm])
theorem RC_put {t : Nat} {P : Po} (h : RC b g N T R S) (ht : t < 24) (hT : T (1 + t) = none) (hP : PC S' (pidx 20 t) P) (f : off (pidx 20 t) S S') : RC b g N (tu T (1 + t) (some P)) R (su (su S' 21 t 1) 19 2 (S' 19 2 + 1)) := by
  obtain ⟨hb, hg, a1, a2, a3, a4, a5, a6, a7, a8⟩ := h
  have hq := pidx20_P ht
  have hn : ∀ c, notP c → S' c = S c := fun c hc => off_lit hq hc f
  have h2 : ∀ c, c ≠ 21 → c ≠ 19 → (su (su S' 21 t 1) 19 2 (S' 19 2 + 1)) c = S' c := fun c q1 q2 => by rw [su_ne _ _ _ q2, su_ne _ _ _ q1]
  have n21 : ∀ q, isP q → q ≠ 21 ∧ q + 1 ≠ 21 ∧ q + 2 ≠ 21 ∧ q ≠ 19 ∧ q + 1 ≠ 19 ∧ q + 2 ≠ 19 := fun q hq => by
    obtain ⟨c1, c2, c3⟩ := nP_c.2.2.2.2.2.1
    obtain ⟨d1, d2, d3⟩ := nP_c.2.2.2.2.2.2.1
    have k0 := hq.2
    refine ⟨fun e => c1 (by rw [← e]; exact k0), fun e => c2 (by decide) ?_, fun e => c3 (by decide) ?_, fun e => d1 (by rw [← e]; exact k0), fun e => d2 (by decide) ?_, fun e => d3 (by decide) ?_⟩
    · rw [← e, Nat.add_sub_cancel]; exact k0
    · rw [← e, Nat.add_sub_cancel]; exact k0
    · rw [← e, Nat.add_sub_cancel]; exact k0
    · rw [← e, Nat.add_sub_cancel]; exact k0
  have hPC : ∀ q Q, isP q → PC S' q Q → PC (su (su S' 21 t 1) 19 2 (S' 19 2 + 1)) q Q := fun q Q hq hQ => by
    obtain ⟨c1, c2, c3, d1, d2, d3⟩ := n21 q hq
    exact PC_eq hQ (by rw [h2 _ c1 d1]) (h2 _ c2 d2) (h2 _ c3 d3)
  have n4 : (4 : Nat) ≠ pidx 20 t ∧ (13 : Nat) ≠ pidx 20 t := by unfold pidx; rw [if_pos rfl]; omega
  refine ⟨hb, hg, fun x hx => ?_, ?_, fun i Q hi hQ => ?_, fun i hi => ?_, ?_, hPC 13 _ isP_c.2.2.2.1 (PC_off hq isP_c.2.2.2.1 n4.2 f a6), hPC 4 _ isP_c.1 (PC_off hq isP_c.1 n4.1 f a7), fun i hi => ?_⟩
  · have e : S' x.1 = S x.1 := by
      rcases (scT_c x hx).1 with e | e | e | e <;> rw [e]
      · exact hn _ nP_1
      · exact hn _ nP_c.1
      · exact hn _ nP_c.2.1
      · exact hn _ nP_c.2.2.1
    rw [h2 x.1 (by have := (scT_c x hx).1; omega) (by have := (scT_c x hx).1; omega), e]; exact a1 x hx
  · rw [h2 104 (by decide) (by decide), h2 94 (by decide) (by decide), hn _ nP_c.1, hn _ nP_c.2.1]; exact a2
  · by_cases q : i = 1 + t
    · rw [q, tu_s] at hQ
      injection hQ with hQ
      rw [q, ← hQ, pcl_s ht]; exact hPC _ _ hq hP
    · rw [tu_n q] at hQ
      refine hPC _ _ (pcl_P hb hi) (PC_off hq (pcl_P hb hi) (fun e => q ?_) f (a3 i Q hi hQ))
      rw [← pcl_s (b := b) ht] at e
      exact pcl_inj b hb i hi (1 + t) (by omega) e
  · rw [su_ne _ _ _ (by decide), su_at]
    by_cases q : i = t
    · rw [if_pos ⟨rfl, q⟩, q, tu_s]; rfl
    · rw [if_neg (by omega), tu_n (by omega), hn _ nP_c.2.2.2.2.2.1]; exact a4 i hi
  · rw [su_s, cnt_put hT, if_pos ht, hn _ nP_c.2.2.2.2.2.2.1, a5, m_lit 1, nI_add]
  · rw [h2 106 (by decide) (by decide), h2 107 (by decide) (by decide), hn _ nP_c.2.2.2.1, hn _ nP_c.2.2.2.2.1]; exact a8 i hi
theorem sp_put {P : Po} {q : Nat} {K : Int32 → St → Prop} (hq : isP q) (hf : fre T ≠ 25) (h : RC b g N T R S) (hP : PC S q P) (hK : ∀ S', RC b g N (tu T (fre T) (some P)) R S' → hi S S' → K (nI (fre T - 1)) S') : w_X6_put q S K := by
  have fl := fre_le (T := T)
  have hn : T (1 + (fre T - 1)) = none := by
    rw [show 1 + (fre T - 1) = fre T by omega]
    exact (frp_ok (T := T) 24 1).2.2 (by unfold fre at fl hf; omega)
  have loop : ∀ d t, t + d = fre T - 1 → q_it (fun _ _ => False) (w_X6_put_2 q K) (d + 1) (nI t) S := by
    intro d
    induction d with
    | zero =>
      intro t ht
      have et : t = fre T - 1 := by omega
      rw [q_it_s]
      unfold w_X6_put_2
      refine pk_le 24 t (fun z => by omega) (fun _ => ⟨vp_in_nI (by omega) (by decide), ?_⟩)
      rw [m_rf (by omega), h.2.2.2.2.2.1 t (by omega), et, hn]
      refine ⟨fun z => absurd rfl z, fun _ => ⟨pidx20_P (by omega), ?_⟩⟩
      refine sp_copyOf (pidx20_P (by omega)) hq hP (fun S1 hP1 ho S2 e2 S3 e3 => ?_)
      have r := RC_put h (show fre T - 1 < 24 by omega) hn hP1 ho
      have e4 : S3 = su (su S1 21 (fre T - 1) 1) 19 2 (S1 19 2 + 1) := by
        rw [e3, e2]
        have : vp_nar .boolean 1 = 1 := by decide
        rw [this, su_ne S1 _ _ (show (19 : Nat) ≠ 21 by decide)]
      rw [e4]
      rw [show 1 + (fre T - 1) = fre T by omega] at r
      exact hK _ r (hi_tr (hi_off (pidx20_P (by omega)) ho) (hi_tr (hi_su (by decide)) (hi_su (by decide))))
    | succ d ih =>
      intro t ht
      rw [q_it_s]
      unfold w_X6_put_2
      refine pk_le 24 t (fun z => by omega) (fun _ => ⟨vp_in_nI (by omega) (by decide), ?_⟩)
      have hs : T (1 + t) ≠ none := frp_lt 24 1 (1 + t) (by omega) (by unfold fre at ht; omega)
      rw [m_rf (by omega), h.2.2.2.2.2.1 t (by omega)]
      cases hT : T (1 + t) with
      | none => exact absurd hT hs
      | some Q =>
        refine ⟨fun _ x e => ?_, fun z => absurd z (show ¬ (1 : Int32) = 0 by decide)⟩
        rw [m_lit 1, nI_add] at e
        subst e
        exact ih (t + 1) (by omega)
  unfold w_X6_put
  exact ⟨fre T - 1 + 1, loop (fre T - 1) 0 (by omega)⟩
end CB
