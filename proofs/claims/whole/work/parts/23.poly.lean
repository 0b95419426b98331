/-! polynomials as rows of terms, and how the class holds them -/
def tz : Te := (0, 0, 0, 0, 0)
def pc (P : Po) (t : Nat) : Nat := (P.getD t tz).1
def pm (P : Po) (t : Nat) : Mo := (P.getD t tz).2
def PC (S : St) (q : Nat) (P : Po) : Prop := S q 2 = nI P.length ∧ P.length ≤ 40 ∧ ∀ t, t < P.length → S (q + 1) t = nI (pc P t) ∧ S (q + 2) t = nI (en (pm P t))
/-- all but one polynomial's cells stay -/
def off (q : Nat) (S S' : St) : Prop := ∀ c, c ≠ q → c ≠ q + 1 → c ≠ q + 2 → S' c = S c
theorem off_rf {q : Nat} {S : St} : off q S S := fun _ _ _ _ => rfl
theorem off_tr {q : Nat} {S S' S'' : St} (h : off q S S') (h' : off q S' S'') : off q S S'' := fun c a b d => (h' c a b d).trans (h c a b d)
theorem su_at (S : St) (c k : Nat) (v : Int32) (d j : Nat) : su S c k v d j = if d = c ∧ j = k then v else S d j := by
  unfold su upd
  by_cases h : d = c
  · subst h
    by_cases h2 : j = k
    · simp [h2]
    · simp [h2]
  · simp [h]
theorem su_s (S : St) (c k : Nat) (v : Int32) : su S c k v c k = v := by rw [su_at, if_pos ⟨rfl, rfl⟩]
theorem su_n (S : St) {c k : Nat} (v : Int32) {d j : Nat} (h : d ≠ c ∨ j ≠ k) : su S c k v d j = S d j := by rw [su_at, if_neg (by omega)]
theorem isP_apart {q r : Nat} (hq : isP q) (hr : isP r) (h : r ≠ q) : r ≠ q + 1 ∧ r ≠ q + 2 ∧ r + 1 ≠ q ∧ r + 1 ≠ q + 1 ∧ r + 1 ≠ q + 2 ∧ r + 2 ≠ q ∧ r + 2 ≠ q + 1 ∧ r + 2 ≠ q + 2 := by
  have k1 := (isP_1 hq).2
  have k2 := (isP_2 hq).2
  have l1 := (isP_1 hr).2
  have l2 := (isP_2 hr).2
  have n1 : r ≠ q + 1 := fun e => by rw [← e, hr.2] at k1; cases k1
  have n2 : r ≠ q + 2 := fun e => by rw [← e, hr.2] at k2; cases k2
  have n3 : q ≠ r + 1 := fun e => by rw [← e, hq.2] at l1; cases l1
  have n4 : q ≠ r + 2 := fun e => by rw [← e, hq.2] at l2; cases l2
  omega
theorem isP_not {q c : Nat} (hq : isP q) (hc : kd c ≠ (3, 2) ∧ kd c ≠ (0, 40)) : c ≠ q ∧ c ≠ q + 1 ∧ c ≠ q + 2 := by
  refine ⟨fun e => hc.1 (by rw [e]; exact hq.2), fun e => hc.2 (by rw [e]; exact (isP_1 hq).2), fun e => hc.2 (by rw [e]; exact (isP_2 hq).2)⟩
theorem PC_eq {S S' : St} {q : Nat} {P : Po} (h : PC S q P) (h0 : S' q 2 = S q 2) (h1 : S' (q + 1) = S (q + 1)) (h2 : S' (q + 2) = S (q + 2)) : PC S' q P := by
  obtain ⟨a, b, c⟩ := h
  exact ⟨h0.trans a, b, fun t ht => by rw [h1, h2]; exact c t ht⟩
theorem PC_off {S S' : St} {q r : Nat} {P : Po} (hq : isP q) (hr : isP r) (hn : r ≠ q) (ho : off q S S') (h : PC S r P) : PC S' r P := by
  obtain ⟨a1, a2, a3, a4, a5, a6, a7, a8⟩ := isP_apart hq hr hn
  exact PC_eq h (by rw [ho r hn a1 a2]) (ho _ a3 a4 a5) (ho _ a6 a7 a8)
theorem PC_nil {S : St} {q : Nat} (h : S q 2 = 0) : PC S q [] := ⟨h, by decide, fun t ht => by cases ht⟩
theorem pc_app {P : Po} {x : Te} {t : Nat} (h : t < P.length) : pc (P ++ [x]) t = pc P t := by
  unfold pc
  rw [List.getD_eq_getElem?_getD, List.getD_eq_getElem?_getD, List.getElem?_append_left h]
theorem pm_app {P : Po} {x : Te} {t : Nat} (h : t < P.length) : pm (P ++ [x]) t = pm P t := by
  unfold pm
  rw [List.getD_eq_getElem?_getD, List.getD_eq_getElem?_getD, List.getElem?_append_left h]
theorem pc_last {P : Po} {x : Te} : pc (P ++ [x]) P.length = x.1 := by
  unfold pc
  rw [List.getD_eq_getElem?_getD, List.getElem?_append_right (Nat.le_refl _), Nat.sub_self]
  rfl
theorem pm_last {P : Po} {x : Te} : pm (P ++ [x]) P.length = x.2 := by
  unfold pm
  rw [List.getD_eq_getElem?_getD, List.getElem?_append_right (Nat.le_refl _), Nat.sub_self]
  rfl
theorem pc_get {P : Po} {t : Nat} (h : t < P.length) : (pc P t, pm P t) = P[t] := by
  unfold pc pm
  rw [List.getD_eq_getElem?_getD, List.getElem?_eq_getElem h]
  rfl
theorem pc_mem {P : Po} {t : Nat} (h : t < P.length) : (pc P t, pm P t) ∈ P := by
  rw [pc_get h]
  exact List.getElem_mem h
theorem pc_drop {P : Po} {k t : Nat} : pc (P.drop k) t = pc P (k + t) := by
  unfold pc
  rw [List.getD_eq_getElem?_getD, List.getD_eq_getElem?_getD, List.getElem?_drop]
theorem pm_drop {P : Po} {k t : Nat} : pm (P.drop k) t = pm P (k + t) := by
  unfold pm
  rw [List.getD_eq_getElem?_getD, List.getD_eq_getElem?_getD, List.getElem?_drop]
theorem drop_cons {P : Po} {t : Nat} (h : t < P.length) : P.drop t = (pc P t, pm P t) :: P.drop (t + 1) := by
  rw [pc_get h]
  exact List.drop_eq_getElem_cons h
theorem take_snoc {P : Po} {t : Nat} (h : t < P.length) : P.take (t + 1) = P.take t ++ [(pc P t, pm P t)] := by
  rw [pc_get h]
  exact List.take_succ_eq_append_getElem h
theorem sp_push {S : St} {q : Nat} {P : Po} {K : Int32 → St → Prop} {a : Nat} {m : Mo} (h : PC S q P) (h1 : P.length < 40 → ∀ S', PC S' q (P ++ [(a, m)]) → off q S S' → (∀ j, j ≠ P.length → S' (q + 1) j = S (q + 1) j ∧ S' (q + 2) j = S (q + 2) j) → K 1 S') (h0 : P.length = 40 → K 0 S) : w_X3_push q (nI a) (nI (en m)) S K := by
  obtain ⟨e1, e2, e3⟩ := h
  unfold w_X3_push
  rw [e1]
  refine pk_lt P.length 40 (fun hl => ?_) (fun hl => h0 (by omega))
  rw [m_rf (by omega)]
  refine ⟨vp_in_nI hl (by decide), ?_⟩
  intro S3 f3
  have g3 : S3 q 2 = nI P.length := by rw [f3, su_n S _ (Or.inl (by omega)), e1]
  rw [g3, m_rf (by omega)]
  refine ⟨vp_in_nI hl (by decide), ?_⟩
  intro S5 f5 S6 f6
  have g5 : S5 q 2 = nI P.length := by rw [f5, su_n S3 _ (Or.inl (by omega)), g3]
  rw [g5, m_lit 1, nI_add] at f6
  have k1 : ∀ j, S6 (q + 1) j = if j = P.length then nI a else S (q + 1) j := fun j => by
    rw [f6, su_n S5 _ (Or.inl (by omega)), f5, su_n S3 _ (Or.inl (by omega)), f3, su_at]
    by_cases hj : j = P.length <;> simp [hj]
  have k2 : ∀ j, S6 (q + 2) j = if j = P.length then nI (en m) else S (q + 2) j := fun j => by
    rw [f6, su_n S5 _ (Or.inl (by omega)), f5, su_at, f3]
    by_cases hj : j = P.length
    · simp [hj]
    · rw [if_neg (by omega), if_neg hj, su_n S _ (Or.inl (by omega))]
  refine h1 hl S6 ⟨?_, by rw [List.length_append]; show P.length + 1 ≤ 40; omega, ?_⟩ ?_ ?_
  · rw [f6, su_s, List.length_append]
    rfl
  · intro t ht
    rw [List.length_append] at ht
    have ht : t < P.length + 1 := ht
    rw [k1, k2]
    by_cases e : t = P.length
    · rw [if_pos e, if_pos e, e, pc_last, pm_last]
      exact ⟨rfl, rfl⟩
    · rw [if_neg e, if_neg e, pc_app (by omega), pm_app (by omega)]
      exact e3 t (by omega)
  · intro c c0 c1 c2
    rw [f6, su_ne S5 _ _ c0, f5, su_ne S3 _ _ c2, f3, su_ne S _ _ c1]
  · intro j hj
    rw [k1, k2, if_neg hj, if_neg hj]
    exact ⟨rfl, rfl⟩
theorem copy_loop {q r : Nat} (hq : isP q) (hr : isP r) {P : Po} (hP : P.length ≤ 40) {x2 : Int32} {K : Unit → St → Prop} : ∀ (d t k : Nat) (S : St), d + t = P.length → k ≤ t → PC S q ((P.drop (t - k)).take k) → (∀ j, t ≤ j → j < P.length → S (r + 1) j = nI (pc P j) ∧ S (r + 2) j = nI (en (pm P j))) →
    (∀ S', PC S' q (P.drop (t - k)) → off q S S' → K () S') → q_it (fun _ _ => False) (w_X3_copyFrom_13 q r x2 K (nI P.length)) (d + 1) (nI t) S := by
  intro d
  induction d with
  | zero =>
    intro t k S hd hk hp hr2 hK
    rw [q_it_s]
    unfold w_X3_copyFrom_13
    refine pk_le P.length t (fun _ => ?_) (fun h => by omega)
    have e : (P.drop (t - k)).take k = P.drop (t - k) := List.take_of_length_le (by rw [List.length_drop]; omega)
    rw [e] at hp
    exact hK S hp off_rf
  | succ d ih =>
    intro t k S hd hk hp hr2 hK
    rw [q_it_s]
    unfold w_X3_copyFrom_13
    refine pk_le P.length t (fun h => by omega) (fun ht => ⟨vp_in_nI (by omega) (by decide), ?_⟩)
    have ht40 : t < 40 := by omega
    rw [m_rf (by omega)]
    obtain ⟨g1, g2⟩ := hr2 t (Nat.le_refl _) ht
    rw [g1, g2]
    have hlen : ((P.drop (t - k)).take k).length = k := by rw [List.length_take, List.length_drop]; omega
    refine sp_push hp (fun _ S' hp' ho hjs => ?_) (fun h => by rw [hlen] at h; omega)
    intro x4 e4
    rw [m_lit 1, nI_add] at e4
    subst e4
    have e1 : (P.drop (t - k)).take k ++ [(pc P t, pm P t)] = (P.drop (t + 1 - (k + 1))).take (k + 1) := by
      rw [show t + 1 - (k + 1) = t - k by omega, take_snoc (by rw [List.length_drop]; omega), pc_drop, pm_drop, show t - k + k = t by omega]
    rw [e1] at hp'
    refine ih (t + 1) (k + 1) S' (by omega) (by omega) hp' ?_ ?_
    · intro j hj hjl
      by_cases hrq : r = q
      · subst hrq
        have b1 := hjs j (by rw [hlen]; omega)
        rw [b1.1, b1.2]
        exact hr2 j (by omega) hjl
      · obtain ⟨a1, a2, a3, a4, a5, a6, a7, a8⟩ := isP_apart hq hr hrq
        rw [ho _ a3 a4 a5, ho _ a6 a7 a8]
        exact hr2 j (by omega) hjl
    · intro S2 h2 ho2
      rw [show t + 1 - (k + 1) = t - k by omega] at h2
      exact hK S2 h2 (off_tr ho ho2)
theorem PC_zero {S : St} {q : Nat} {P : Po} : PC (su S q 2 0) q (P.take 0) := by
  rw [List.take_zero]
  exact PC_nil (su_s S q 2 0)
theorem off_su {q k : Nat} {v : Int32} {S : St} : off q S (su S q k v) := fun c a _ _ => su_ne S k v a
theorem sp_copyFrom {S : St} {q r : Nat} {P : Po} (hq : isP q) (hr : isP r) (h : PC S r P) {k : Nat} (hk : k ≤ P.length) {K : Unit → St → Prop} (hK : ∀ S', PC S' q (P.drop k) → off q S S' → K () S') : w_X3_copyFrom q r (nI k) S K := by
  obtain ⟨e1, e2, e3⟩ := h
  unfold w_X3_copyFrom
  rw [e1]
  intro x3 f3 S2 f2
  subst f3
  subst f2
  refine ⟨P.length - k + 1, ?_⟩
  refine copy_loop hq hr e2 (P.length - k) k 0 (su S q 2 0) (by omega) (Nat.zero_le _) (by rw [Nat.sub_zero]; exact PC_zero) ?_ ?_
  · intro j _ hj
    rw [su_n S 0 (by
      rcases Nat.lt_or_ge q (r + 1) with a | a
      · exact Or.inl (by omega)
      · rcases (show q = r + 1 ∨ q ≠ r + 1 by omega) with b | b
        · exact absurd b (by rintro rfl; have := (isP_1 hr).2; rw [hq.2] at this; cases this)
        · exact Or.inl (by omega)), su_n S 0 (by
      rcases (show q = r + 2 ∨ q ≠ r + 2 by omega) with b | b
      · exact absurd b (by rintro rfl; have := (isP_2 hr).2; rw [hq.2] at this; cases this)
      · exact Or.inl (by omega))]
    exact e3 j hj
  · intro S' h1 h2
    rw [Nat.sub_zero] at h1
    exact hK S' h1 (off_tr off_su h2)
theorem sp_copyOf {S : St} {q r : Nat} {P : Po} (hq : isP q) (hr : isP r) (h : PC S r P) {K : Unit → St → Prop} (hK : ∀ S', PC S' q P → off q S S' → K () S') : w_X3_copyOf q r S K := by
  unfold w_X3_copyOf
  exact sp_copyFrom hq hr h (k := 0) (Nat.zero_le _) hK
theorem sp_dropHead {S : St} {q : Nat} {P : Po} (hq : isP q) (h : PC S q P) (hn : 1 ≤ P.length) {K : Unit → St → Prop} (hK : ∀ S', PC S' q (P.drop 1) → off q S S' → K () S') : w_X3_dropHead q S K := by
  unfold w_X3_dropHead
  exact sp_copyFrom hq hq h (k := 1) hn hK
theorem sp_head {S : St} {q : Nat} {P : Po} (h : PC S q P) (hn : 0 < P.length) {K : Int32 → St → Prop} (hK : K (nI (en (pm P 0))) S) : w_X3_head q S K := by
  obtain ⟨e1, e2, e3⟩ := h
  unfold w_X3_head
  rw [e1]
  refine pk_le P.length 0 (fun h => by omega) (fun _ => ?_)
  have : q_rf 0 = 0 := by decide
  rw [this, (e3 0 hn).2]
  exact hK
