/-! the class: a row's terms are put in order; order -/
theorem pc_apnd {X Z : Po} {i : Nat} : pc (X ++ Z) i = if i < X.length then pc X i else pc Z (i - X.length) := by
  unfold pc
  rw [List.getD_eq_getElem?_getD, List.getD_eq_getElem?_getD, List.getD_eq_getElem?_getD, List.getElem?_append]
  split <;> rfl
theorem pm_apnd {X Z : Po} {i : Nat} : pm (X ++ Z) i = if i < X.length then pm X i else pm Z (i - X.length) := by
  unfold pm
  rw [List.getD_eq_getElem?_getD, List.getD_eq_getElem?_getD, List.getD_eq_getElem?_getD, List.getElem?_append]
  split <;> rfl
theorem ins_split {o p c : Nat} {m : Mo} : ∀ {X Y : Po}, (∀ t ∈ X, mk o m < mk o t.2) → (∀ t ∈ Y, mk o t.2 < mk o m) → ins o p c m (X ++ Y) = X ++ (c, m) :: Y
  | [], [], _, _ => rfl
  | [], u :: Y, _, h2 => by
    have := h2 u List.mem_cons_self
    show ins o p c m (u :: Y) = (c, m) :: u :: Y
    unfold ins
    rw [if_neg (by omega), if_neg (by omega)]
  | t :: X, Y, h1, h2 => by
    have := h1 t List.mem_cons_self
    show ins o p c m (t :: (X ++ Y)) = t :: (X ++ (c, m) :: Y)
    unfold ins
    rw [if_pos this, ins_split (fun u hu => h1 u (List.mem_cons_of_mem _ hu)) h2]
theorem ins_len1 {o p c : Nat} {m : Mo} : ∀ {L : Po}, (∀ t ∈ L, mk o m ≠ mk o t.2) → (ins o p c m L).length = L.length + 1
  | [], _ => rfl
  | u :: L, h => by
    have := h u List.mem_cons_self
    unfold ins
    split
    · rw [List.length_cons, ins_len1 (fun t ht => h t (List.mem_cons_of_mem _ ht)), List.length_cons]
    · rfl
theorem srt_eq {o p : Nat} {P : Po} : srt o p P = P.foldl (fun L t => ins o p (t.1 * 1 % p) (mm t.2 m1) L) [] := by
  unfold srt addT
  rw [if_neg (by decide)]
theorem srt_snoc {o p t : Nat} {P : Po} (hp : Lp p P) (h : t < P.length) : srt o p (P.take (t + 1)) = ins o p (pc P t) (pm P t) (srt o p (P.take t)) := by
  have e : pc P t * 1 % p = pc P t := by rw [Nat.mul_one, Nat.mod_eq_of_lt (hp _ (pc_mem h))]
  rw [srt_eq, take_snoc h, List.foldl_append, ← srt_eq]
  show ins o p (pc P t * 1 % p) (mm (pm P t) m1) _ = _
  rw [e, mm_m1]
theorem srt_mem0 {o p : Nat} : ∀ {P L : Po} {t : Te}, t ∈ P.foldl (fun L t => ins o p (t.1 * 1 % p) (mm t.2 m1) L) L → (∃ u ∈ P, u.2 = t.2) ∨ ∃ u ∈ L, u.2 = t.2
  | [], L, t, h => Or.inr ⟨t, h, rfl⟩
  | s :: P, L, t, h => by
    rcases srt_mem0 (P := P) h with ⟨u, hu, e⟩ | ⟨u, hu, e⟩
    · exact Or.inl ⟨u, List.mem_cons_of_mem _ hu, e⟩
    · rcases ins_mem hu with q | ⟨v, hv, q⟩
      · exact Or.inl ⟨s, List.mem_cons_self, by rw [← e, q, mm_m1]⟩
      · exact Or.inr ⟨v, hv, q.trans e⟩
theorem srt_mem {o p : Nat} {P : Po} {t : Te} (h : t ∈ srt o p P) : ∃ u ∈ P, u.2 = t.2 := by
  rw [srt_eq] at h
  rcases srt_mem0 h with q | ⟨u, hu, _⟩
  · exact q
  · cases hu
theorem take_ne {P : Po} {t : Nat} (h : t < P.length) (hne : P.Pairwise (fun s t => s.2 ≠ t.2)) : ∀ u ∈ P.take t, u.2 ≠ pm P t := by
  have h2 := List.Pairwise.sublist (List.take_sublist (t + 1) P) hne
  rw [take_snoc h] at h2
  intro u hu
  exact (List.pairwise_append.mp h2).2.2 u hu _ (List.mem_singleton.mpr rfl)
section ST
variable {o p : Nat} {P : Po}
theorem srt_ne (h30 : L30 P) (hne : P.Pairwise (fun s t => s.2 ≠ t.2)) {t : Nat} (h : t < P.length) : ∀ u ∈ srt o p (P.take t), mk o (pm P t) ≠ mk o u.2 := fun u hu e => by
  obtain ⟨v, hv, ev⟩ := srt_mem hu
  refine take_ne h hne v hv (mk_inj (o := o) (mle_mono (h30 v (List.mem_of_mem_take hv)) (by omega)) (mle_mono (h30 _ (pc_mem h)) (by omega)) ?_)
  show mk o v.2 = mk o (pm P t)
  rw [ev]; exact e.symm
theorem srt_len (hp : Lp p P) (h30 : L30 P) (hne : P.Pairwise (fun s t => s.2 ≠ t.2)) : ∀ t, t ≤ P.length → (srt o p (P.take t)).length = t
  | 0, _ => by rw [List.take_zero, srt_nil]; rfl
  | t + 1, h => by
    rw [srt_snoc hp (by omega), ins_len1 (srt_ne h30 hne (by omega)), srt_len hp h30 hne t (by omega)]
theorem srt_Sd {t : Nat} : Sd o (srt o p (P.take t)) := by
  unfold srt
  exact addT_Sd Sd_nil
end ST
theorem Sd_lt {o : Nat} {A : Po} (h : Sd o A) {i j : Nat} (hij : i < j) (hj : j < A.length) : mk o (pm A j) < mk o (pm A i) := by
  have := (List.pairwise_iff_getElem.mp h) i j (by omega) hj hij
  have e1 := pc_get (P := A) (t := i) (by omega)
  have e2 := pc_get (P := A) hj
  rw [← e1, ← e2] at this
  exact this
theorem mem_pc {A : Po} {t : Te} (h : t ∈ A) : ∃ i, i < A.length ∧ t = (pc A i, pm A i) := by
  obtain ⟨i, hi, e⟩ := List.getElem_of_mem h
  exact ⟨i, hi, by rw [pc_get hi, e]⟩
theorem mem_take_pc {A : Po} {k : Nat} {t : Te} (h : t ∈ A.take k) : ∃ i, i < k ∧ i < A.length ∧ t = (pc A i, pm A i) := by
  obtain ⟨i, hi, e⟩ := List.getElem_of_mem h
  rw [List.length_take] at hi
  rw [List.getElem_take] at e
  exact ⟨i, by omega, by omega, by rw [pc_get (by omega), e]⟩
theorem mem_drop_pc {A : Po} {k : Nat} {t : Te} (h : t ∈ A.drop k) : ∃ i, k ≤ i ∧ i < A.length ∧ t = (pc A i, pm A i) := by
  obtain ⟨i, hi, e⟩ := List.getElem_of_mem h
  rw [List.length_drop] at hi
  rw [List.getElem_drop] at e
  exact ⟨k + i, by omega, by omega, by rw [pc_get (by omega), e]⟩
theorem su2 {S : St} {q k : Nat} {a c : Int32} {S' : St} (e : S' = su (su S (q + 1) k a) (q + 2) k c) : (∀ j, S' (q + 1) j = if j = k then a else S (q + 1) j) ∧ (∀ j, S' (q + 2) j = if j = k then c else S (q + 2) j) ∧ S' q = S q ∧ off q S S' := by
  subst e
  refine ⟨fun j => ?_, fun j => ?_, ?_, fun d d0 d1 d2 => ?_⟩
  · rw [su_n _ _ (Or.inl (by omega)), su_at]
    by_cases hj : j = k <;> simp [hj]
  · rw [su_at]
    by_cases hj : j = k
    · simp [hj]
    · rw [if_neg (by omega), if_neg hj, su_n _ _ (Or.inl (by omega))]
  · rw [su_ne _ _ _ (by omega), su_ne _ _ _ (by omega)]
  · rw [su_ne _ _ _ d2, su_ne _ _ _ d1]
theorem sp_sortTerms {q o p : Nat} {P : Po} {S : St} {K : Unit → St → Prop} (hq : isP q) (ho4 : o < 4) (ho : S 1 2 = nI o) (h : PC S q P) (h30 : L30 P) (hpP : Lp p P) (hne : P.Pairwise (fun s t => s.2 ≠ t.2)) (hK : ∀ S', PC S' q (srt o p P) → off q S S' → K () S') : w_X5_sortTerms q S K := by
  have hl40 := h.2.1
  have outer : ∀ (d t : Nat) (S1 : St), t + d = P.length → PC S1 q (srt o p (P.take t) ++ P.drop t) → off q S S1 → q_it (fun _ _ => False) (w_X5_sortTerms_2 q K) (d + 1) (nI t) S1 := by
    intro d
    induction d with
    | zero =>
      intro t S1 ht h1 f1
      have lA := srt_len (o := o) hpP h30 hne t (by omega)
      have e1 := h1.1
      rw [List.length_append, lA, List.length_drop] at e1
      rw [q_it_s]
      unfold w_X5_sortTerms_2
      rw [e1]
      refine pk_le (t + (P.length - t)) t (fun _ => ?_) (fun z => by omega)
      rw [List.drop_eq_nil_of_le (by omega), List.append_nil, List.take_of_length_le (by omega)] at h1
      exact hK S1 h1 f1
    | succ d ih =>
      intro t S1 ht h1 f1
      have htl : t < P.length := by omega
      have lA := srt_len (o := o) hpP h30 hne t (by omega)
      have hsn := srt_snoc (o := o) hpP htl
      have nA := srt_ne (o := o) (p := p) h30 hne htl
      have sA : Sd o (srt o p (P.take t)) := srt_Sd
      have m30A : ∀ u ∈ srt o p (P.take t), mle 30 u.2 := fun u hu => by
        obtain ⟨v, hv, ev⟩ := srt_mem hu
        rw [← ev]; exact h30 v (List.mem_of_mem_take hv)
      generalize srt o p (P.take t) = A at lA hsn nA sA h1 m30A
      obtain ⟨e1, _, e3⟩ := h1
      rw [List.length_append, lA, List.length_drop] at e1 e3
      have et := e3 t (by omega)
      rw [pc_apnd, pm_apnd, lA, if_neg (by omega), if_neg (by omega), pc_drop, pm_drop, Nat.sub_self, Nat.add_zero] at et
      have m30 : mle 30 (pm P t) := h30 _ (pc_mem htl)
      rw [q_it_s]
      generalize q_it (fun _ _ => False) (w_X5_sortTerms_2 q K) (d + 1) = k2 at ih ⊢
      unfold w_X5_sortTerms_2
      rw [e1]
      refine pk_le (t + (P.length - t)) t (fun z => by omega) (fun _ => ⟨vp_in_nI (by omega) (by decide), ?_⟩)
      intro x3 e x4 e'
      rw [m_rf (by omega), et.1] at e
      rw [m_rf (by omega), et.2] at e'
      subst e; subst e'
      have stop : ∀ (k : Nat) (S2 : St), k ≤ t → off q S S2 → S2 q 2 = nI P.length → (∀ i, i < k → S2 (q + 1) i = nI (pc A i) ∧ S2 (q + 2) i = nI (en (pm A i))) → (∀ i, k < i → i ≤ t → S2 (q + 1) i = nI (pc A (i - 1)) ∧ S2 (q + 2) i = nI (en (pm A (i - 1)))) → (∀ i, t < i → i < P.length → S2 (q + 1) i = nI (pc P i) ∧ S2 (q + 2) i = nI (en (pm P i))) → (∀ i, k ≤ i → i < t → mk o (pm A i) < mk o (pm P t)) → (0 < k → mk o (pm P t) < mk o (pm A (k - 1))) → w_X5_sortTerms_93 q K k2 (nI t) (nI (pc P t)) (nI (en (pm P t))) (nI k) S2 := by
        intro k S2 hk f2 z1 z2 z3 z4 z5 z6
        unfold w_X5_sortTerms_93
        refine ⟨vp_in_nI (by omega) (by decide), ?_⟩
        rw [m_rf (by omega)]
        intro S3 g3 S4 g4 x2 ex
        rw [m_lit 1, nI_add] at ex
        subst ex
        rw [g3] at g4
        obtain ⟨y1, y2, y3, y4⟩ := su2 g4
        have esp : A.take k ++ (pc P t, pm P t) :: A.drop k = srt o p (P.take (t + 1)) := by
          rw [hsn]
          conv => rhs; rw [← List.take_append_drop k A]
          refine (ins_split (fun u hu => ?_) (fun u hu => ?_)).symm
          · obtain ⟨i, i1, i2, rfl⟩ := mem_take_pc hu
            have := z6 (by omega)
            by_cases q2 : i = k - 1
            · rw [q2]; exact this
            · have := Sd_lt sA (i := i) (j := k - 1) (by omega) (by omega)
              show mk o (pm P t) < mk o (pm A i)
              omega
          · obtain ⟨i, i1, i2, rfl⟩ := mem_drop_pc hu
            exact z5 i i1 (by omega)
        refine ih (t + 1) S4 (by omega) ?_ (off_tr f2 y4)
        have ll : (A.take k ++ (pc P t, pm P t) :: A.drop k).length = t + 1 := by
          rw [List.length_append, List.length_cons, List.length_take, List.length_drop]; omega
        rw [← esp]
        refine ⟨?_, ?_, fun i hi => ?_⟩
        · rw [y3, z1, List.length_append, ll, List.length_drop]
          congr 1; omega
        · rw [List.length_append, ll, List.length_drop]; omega
        · rw [List.length_append, ll, List.length_drop] at hi
          rw [pc_apnd, pm_apnd, ll, y1, y2]
          by_cases q1 : i < t + 1
          · rw [if_pos q1, if_pos q1, pc_ins (by omega), pm_ins (by omega)]
            by_cases q2 : i < k
            · have ne : ¬ i = k := by omega
              simp only [if_neg ne, if_pos q2]
              exact z2 i q2
            · by_cases q3 : i = k
              · simp only [if_neg q2, if_pos q3]; exact ⟨trivial, trivial⟩
              · simp only [if_neg q2, if_neg q3]
                exact z3 i (by omega) (by omega)
          · rw [if_neg q1, if_neg q1, if_neg (by omega), if_neg (by omega), pc_drop, pm_drop, show t + 1 + (i - (t + 1)) = i by omega]
            exact z4 i (by omega) (by omega)
      have inner : ∀ (k : Nat) (S2 : St), k ≤ t → off q S S2 → S2 q 2 = nI P.length → (∀ i, i < k → S2 (q + 1) i = nI (pc A i) ∧ S2 (q + 2) i = nI (en (pm A i))) → (∀ i, k < i → i ≤ t → S2 (q + 1) i = nI (pc A (i - 1)) ∧ S2 (q + 2) i = nI (en (pm A (i - 1)))) → (∀ i, t < i → i < P.length → S2 (q + 1) i = nI (pc P i) ∧ S2 (q + 2) i = nI (en (pm P i))) → (∀ i, k ≤ i → i < t → mk o (pm A i) < mk o (pm P t)) → q_it (fun _ _ => False) (w_X5_sortTerms_28 q K k2 (nI t) (nI (pc P t)) (nI (en (pm P t)))) (k + 1) (nI k) S2 := by
        intro k
        induction k with
        | zero =>
          intro S2 hk f2 z1 z2 z3 z4 z5
          rw [q_it_s]
          unfold w_X5_sortTerms_28
          refine pk_le 0 0 (fun _ => ?_) (fun z => by omega)
          exact stop 0 S2 hk f2 z1 z2 z3 z4 z5 (fun z => by omega)
        | succ k ihk =>
          intro S2 hk f2 z1 z2 z3 z4 z5
          rw [q_it_s]
          generalize q_it (fun _ _ => False) (w_X5_sortTerms_28 q K k2 (nI t) (nI (pc P t)) (nI (en (pm P t)))) (k + 1) = k3 at ihk ⊢
          unfold w_X5_sortTerms_28
          have hk1 : (nI (k + 1) - 1 : Int32) = nI k := pk_sub (b := 1) (by omega)
          refine pk_le (k + 1) 0 (fun z => by omega) (fun _ => ?_)
          rw [hk1, m_rf (by omega), m_rf (by omega), (z2 k (by omega)).2]
          refine ⟨vp_in_nI (by omega) (by decide), ?_⟩
          have ak := m30A _ (pc_mem (P := A) (t := k) (by omega))
          have o2 : S2 1 2 = nI o := by rw [off_lit hq nP_1 f2]; exact ho
          refine sp_rank (mle_mono ak (by omega)) o2 ho4 (sp_rank (mle_mono m30 (by omega)) o2 ho4 ?_)
          have b1 := mk_lt (o := o) (mle_mono ak (show 30 ≤ 60 by omega))
          have b2 := mk_lt (o := o) (mle_mono m30 (show 30 ≤ 60 by omega))
          have b1 : mk o (pm A k) < 2 ^ 30 := b1
          refine pk_le (mk o (pm P t)) (mk o (pm A k)) (fun z => ?_) (fun z => ⟨vp_in_nI (by omega) (by decide), ?_⟩)
          · refine stop (k + 1) S2 hk f2 z1 z2 z3 z4 z5 (fun _ => ?_)
            rw [Nat.add_sub_cancel]
            have := nA _ (pc_mem (P := A) (t := k) (by omega))
            have : mk o (pm P t) ≠ mk o (pm A k) := this
            omega
          · rw [(z2 k (by omega)).1]
            intro S3 g3 S4 g4 x5 e5
            rw [pk_m1] at e5
            subst e5
            rw [g3, su_n _ _ (Or.inl (by omega)), (z2 k (by omega)).2] at g4
            obtain ⟨y1, y2, y3, y4⟩ := su2 g4
            refine ihk S4 (by omega) (off_tr f2 y4) (by rw [y3]; exact z1) (fun i hi => ?_) (fun i i1 i2 => ?_) (fun i i1 i2 => ?_) (fun i i1 i2 => ?_)
            · rw [y1, y2, if_neg (by omega), if_neg (by omega)]; exact z2 i (by omega)
            · rw [y1, y2]
              by_cases q2 : i = k + 1
              · rw [if_pos q2, if_pos q2, q2, Nat.add_sub_cancel]; exact ⟨rfl, rfl⟩
              · rw [if_neg q2, if_neg q2]; exact z3 i (by omega) i2
            · rw [y1, y2, if_neg (by omega), if_neg (by omega)]; exact z4 i i1 i2
            · by_cases q2 : i = k
              · rw [q2]; exact z
              · exact z5 i (by omega) i2
      refine ⟨t + 1, inner t S1 (Nat.le_refl _) f1 ?_ (fun i hi => ?_) (fun i i1 i2 => by omega) (fun i i1 i2 => ?_) (fun i i1 i2 => by omega)⟩
      · rw [e1]; congr 1; omega
      · have := e3 i (by omega)
        rw [pc_apnd, pm_apnd, lA, if_pos hi, if_pos hi] at this
        exact this
      · have := e3 i (by omega)
        rw [pc_apnd, pm_apnd, lA, if_neg (by omega), if_neg (by omega), pc_drop, pm_drop, show t + (i - t) = i by omega] at this
        exact this
  unfold w_X5_sortTerms
  by_cases e0 : P.length = 0
  · have eP : P = [] := List.eq_nil_of_length_eq_zero e0
    subst eP
    refine ⟨1, ?_⟩
    rw [q_it_s]
    unfold w_X5_sortTerms_2
    rw [h.1]
    refine pk_le 0 1 (fun _ => ?_) (fun z => by omega)
    refine hK S ?_ off_rf
    rw [srt_nil]; exact h
  · refine ⟨P.length - 1 + 1, outer (P.length - 1) 1 S (by omega) ?_ off_rf⟩
    have e1 := srt_snoc (o := o) (t := 0) hpP (by omega)
    rw [List.take_zero, srt_nil] at e1
    rw [e1]
    have e2 : ins o p (pc P 0) (pm P 0) [] ++ P.drop (0 + 1) = P := by
      show (pc P 0, pm P 0) :: P.drop (0 + 1) = P
      rw [← drop_cons (by omega), List.drop_zero]
    rw [e2]; exact h
section OPC
variable {b g : Nat} {N : Nat → Nat} {T : Nat → Option Po} {R : Nat → Nat × Nat} {S : St} {K : Int32 → St → Prop}
theorem c_order {x : Int32} (w : WF N T R) (h : RC b g N T R S) (hK : D8 (f_order N T R x) S K) : w_X8_order x S K := by
  have hb := prm_b w.1
  unfold w_X8_order w_X8_order_9
  unfold f_order D8 at hK
  have h3 : (3 : Int32).toInt = 3 := by decide
  refine ⟨fun q => ?_, fun q => ⟨fun q2 => ?_, fun q2 => ?_⟩⟩
  · rw [Int32.lt_iff_toInt_lt, Int32.toInt_zero] at q
    rw [if_neg (by omega)] at hK
    exact hK S ⟨b, g, h⟩ hi_rf
  · obtain ⟨v, hv, rfl⟩ := nI_of q
    rw [Int32.le_iff_toInt_le, h3, nI_toInt hv] at q2
    rw [nI_toInt hv, if_pos ⟨by omega, by omega⟩, show (v : Int).toNat = v from rfl] at hK
    have w6 : N 6 ≤ 18 := w.2.2.2.2.2.2.2.1
    have s6 : S 104 7 = nI (N 6) := h.2.2.1 (104, 7, 6) (by decide)
    rw [s6]
    refine pk_le (N 6) 0 (fun e => ?_) (fun e => ?_)
    · rw [if_pos (by omega)] at hK
      intro x2 e2 S5 e5
      rw [h.2.2.1 (1, 2, 2) (by decide)] at e2
      subst e2
      have r1 := RC_nu (v := v) h (show (1, 2, 2) ∈ scT by decide) (by decide)
      rw [← e5] at r1
      obtain ⟨D, hD⟩ := w.2.2.2.2.2.2.2.2.2.2.1
      have gA := w.2.2.2.2.2.2.2.2.2.2.2.2.1
      have gd := gA 0 D (by decide) hD
      have o5 : S5 1 2 = nI v := by
        have := r1.2.2.1 (1, 2, 2) (by decide)
        rw [nu_s] at this
        exact this
      have i5 : hi S S5 := by rw [e5]; exact hi_su (by decide)
      refine sp_sortTerms (p := N 0) isP_c.2.2.1 (by omega) o5 (r1.2.2.2.2.1 0 D (by decide) hD) gd.1.2.2.2 gd.1.2.2.1 (Sd_ne gd.1.1) (fun S6 hP6 o6 => ?_)
      have r2 := RC_lay r1 (k := 0) (by decide) (Or.inl rfl) hP6 o6
      have e0 : T = tord v (N 0) T 0 := by
        funext i
        unfold tord
        rw [if_neg (by omega)]
      have e1 : tu T 0 (some (srt v (N 0) D)) = tord v (N 0) T 1 := by
        conv => lhs; rw [e0]
        exact tord_tu hD
      rw [e1] at r2
      have loop : ∀ (d t : Nat) (S7 : St), t + d = 24 → RC b g (nu N 2 v) (tord v (N 0) T (1 + t)) R S7 → hi S S7 → q_it (fun _ _ => False) (w_X8_order_54 (nI v) K (nI (N 2))) (d + 1) (nI t) S7 := by
        intro d
        induction d with
        | zero =>
          intro t S7 ht h7 i7
          rw [q_it_s]
          unfold w_X8_order_54
          refine pk_le 24 t (fun _ => ?_) (fun z => by omega)
          rw [show 1 + t = 25 by omega] at h7
          exact hK S7 ⟨b, g, h7⟩ i7
        | succ d ih =>
          intro t S7 ht h7 i7
          rw [q_it_s]
          generalize q_it (fun _ _ => False) (w_X8_order_54 (nI v) K (nI (N 2))) (d + 1) = k2 at ih ⊢
          unfold w_X8_order_54 w_X8_order_84
          refine pk_le 24 t (fun z => by omega) (fun _ => ?_)
          have eT : tord v (N 0) T (1 + t) (1 + t) = T (1 + t) := by
            unfold tord
            rw [if_neg (by omega)]
          have o7 : S7 1 2 = nI v := by
            have := h7.2.2.1 (1, 2, 2) (by decide)
            rw [nu_s] at this
            exact this
          refine sp_at h7 (fun k P e e2 hk hT => ⟨fun z => (by cases z), fun r z => ?_⟩) (fun hn => ⟨fun _ x3 e3 => ?_, fun r z => (by cases z)⟩)
          · injection z with z
            subst z
            have ek : k = t := by rw [nI_toInt (by omega)] at e2; omega
            subst ek
            have hT' : T (1 + k) = some P := by rw [← eT]; exact hT
            have gp := gA (1 + k) P (by omega) hT'
            have hP := h7.2.2.2.2.1 (1 + k) P (by omega) hT
            rw [pcl_s hk] at hP
            refine ⟨pidx20_P hk, sp_sortTerms (p := N 0) (pidx20_P hk) (by omega) o7 hP gp.1.2.2.2 gp.1.2.2.1 (Sd_ne gp.1.1) (fun S8 hP8 o8 x3 e3 => ?_)⟩
            rw [m_lit 1, nI_add] at e3
            subst e3
            rw [← pcl_s (b := b) hk] at hP8 o8
            have r3 := RC_lay h7 (k := 1 + k) (by omega) (Or.inr (Or.inr ⟨P, hT⟩)) hP8 o8
            rw [tord_tu hT'] at r3
            refine ih (k + 1) S8 (by omega) ?_ (hi_tr i7 (hi_off (pcl_P h.1 (by omega)) o8))
            rw [show 1 + (k + 1) = 1 + k + 1 by omega]
            exact r3
          · rw [m_lit 1, nI_add] at e3
            subst e3
            have hT : T (1 + t) = none := by
              cases hT : T (1 + t) with
              | none => rfl
              | some P => exact absurd (eT.trans hT) (hn t P (by omega) (nI_toInt (by omega)))
            refine ih (t + 1) S7 (by omega) ?_ i7
            rw [show 1 + (t + 1) = 1 + t + 1 by omega, ← tord_no (Or.inl hT)]
            exact h7
      exact ⟨24 + 1, loop 24 0 S6 (by omega) r2 (hi_tr i5 (hi_off isP_c.2.2.1 o6))⟩
    · rw [if_neg (by omega)] at hK
      exact hK S ⟨b, g, h⟩ hi_rf
  · rw [Int32.le_iff_toInt_le, h3] at q2
    rw [if_neg (by omega)] at hK
    exact hK S ⟨b, g, h⟩ hi_rf
end OPC
