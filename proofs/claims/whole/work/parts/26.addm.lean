/-! addMultiple of the class -/
theorem isP_le : ∀ q, q < 242 → kd q = (3, 2) → q ≤ 219 := by decide +kernel
/-- a cell that no polynomial has -/
def notP (c : Nat) : Prop := kd c ≠ (3, 2) ∧ (1 ≤ c → kd (c - 1) ≠ (3, 2)) ∧ (2 ≤ c → kd (c - 2) ≠ (3, 2))
theorem off_lit {q c : Nat} {S S' : St} (hq : isP q) (hc : notP c) (h : off q S S') : S' c = S c := by
  refine h c (fun e => hc.1 (by rw [e]; exact hq.2)) (fun e => hc.2.1 (by omega) (by rw [e, Nat.add_sub_cancel]; exact hq.2)) (fun e => hc.2.2 (by omega) (by rw [e, Nat.add_sub_cancel]; exact hq.2))
theorem off_hi {q : Nat} {S S' : St} (hq : isP q) (h : off q S S') : ∀ c, 222 ≤ c → S' c = S c := by
  have := isP_le q hq.1 hq.2
  intro c hc
  exact h c (by omega) (by omega) (by omega)
theorem nP_1 : notP 1 := by unfold notP; decide +kernel
theorem great_loop {q : Nat} {B : Po} {y : Mo} {S : St} (h : PC S q B) (h3 : L30 B) (hy : mle 30 y) {K : Int32 → St → Prop} (h1 : gr B y → K 1 S) (h0 : ¬ gr B y → K 0 S) : ∀ (d t : Nat), d + t = B.length → (∀ u ∈ B.take t, mle 30 (mm u.2 y)) → q_it (fun _ _ => False) (w_X5_isMultipleGreat_2 q (nI (en y)) K) (d + 1) (nI t) S := by
  obtain ⟨e1, e2, e3⟩ := h
  intro d
  induction d with
  | zero =>
    intro t hd ht
    rw [q_it_s]
    unfold w_X5_isMultipleGreat_2
    rw [e1]
    refine pk_le B.length t (fun _ => h0 ?_) (fun h => by omega)
    rintro ⟨u, hu, hq⟩
    rw [List.take_of_length_le (by omega)] at ht
    exact hq (ht u hu)
  | succ d ih =>
    intro t hd ht
    rw [q_it_s]
    unfold w_X5_isMultipleGreat_2
    rw [e1]
    refine pk_le B.length t (fun h => by omega) (fun hlt => ⟨vp_in_nI (by omega) (by decide), ?_⟩)
    rw [m_rf (by omega), (e3 t hlt).2, nI_add, ← en_mm]
    have hm := h3 _ (pc_mem hlt)
    refine sp_isGreat (mle_mm hm hy) (fun hg => ⟨fun _ => ?_, fun h => absurd rfl h⟩) (fun hg => ⟨fun h => absurd h (by decide), fun _ => h1 ⟨_, pc_mem hlt, hg⟩⟩)
    intro x2 e
    rw [m_lit 1, nI_add] at e
    subst e
    refine ih (t + 1) (by omega) (fun u hu => ?_)
    rw [take_snoc hlt] at hu
    rcases List.mem_append.mp hu with hu | hu
    · exact ht u hu
    · rw [List.mem_singleton.mp hu]; exact hg
theorem sp_isMultipleGreat {q : Nat} {B : Po} {y : Mo} {S : St} (h : PC S q B) (h3 : L30 B) (hy : mle 30 y) {K : Int32 → St → Prop} (h1 : gr B y → K 1 S) (h0 : ¬ gr B y → K 0 S) : w_X5_isMultipleGreat q (nI (en y)) S K := by
  unfold w_X5_isMultipleGreat
  exact ⟨B.length + 1, great_loop h h3 hy h1 h0 B.length 0 (by omega) (fun u hu => by simp at hu)⟩
/-- a number of the order isn't below -1 -/
theorem nI_nlt' (n : Nat) (h : n < 2 ^ 30) : ¬ nI n < (-1) := by
  rw [Int32.lt_iff_toInt_lt, nI_toInt (by omega)]
  have : ((-1 : Int32)).toInt = -1 := by decide
  omega
section AM
variable {q1 q2 q3 o p k : Nat} {y : Mo} {A B : Po} {K : Int32 → St → Prop}
/-- a term comes out, or none (0) -/
theorem am_emit {k34 : Int32 → Int32 → Int32 → St → Prop} {x6 x7 : Int32} {s : Nat} {acc : Po} {c : Nat} {m : Mo} {S : St} (h : PC S q1 acc) (hc : c < 2 ^ 31)
    (hz : c = 0 → k34 x6 x7 (nI s) S) (hn : c ≠ 0 → acc.length < 40 → ∀ S', PC S' q1 (acc ++ [(c, m)]) → off q1 S S' → k34 x6 x7 (nI s) S') (hl : c ≠ 0 → acc.length = 40 → K (-6) S) :
    w_X5_addMultiple_187 q1 q2 q3 (nI k) (nI (en y)) K k34 x6 x7 (nI (s + 1)) (nI c) (nI (en m)) S := by
  have e206 : ∀ S, k34 x6 x7 (nI s) S → w_X5_addMultiple_206 q1 q2 q3 (nI k) (nI (en y)) K k34 x6 x7 (nI (s + 1)) S := by
    intro S hk
    unfold w_X5_addMultiple_206
    intro x8 e
    rw [pk_m1] at e
    subst e
    exact hk
  unfold w_X5_addMultiple_187
  refine pk_eq c 0 (fun e => e206 S (hz e)) (fun e => ?_)
  refine sp_push h (fun hl40 S' h1 h2 _ => ⟨fun _ => e206 S' (hn e hl40 S' h1 h2), fun q => absurd q (by decide)⟩) (fun h40 => ⟨fun q => absurd rfl q, fun _ => hl e h40⟩)
theorem am_loop (hq1 : isP q1) (hq2 : isP q2) (hq3 : isP q3) (hn2 : q2 ≠ q1) (hn3 : q3 ≠ q1) (hb : 2 ≤ p ∧ p ≤ 251) (ho4 : o < 4) (hk251 : k ≤ 251) (hA3 : L30 A) (hAp : Lp p A) (hAz : Lz A) (hB3 : L30 B) (hBp : Lp p B) (hy : mle 30 y) (hg : ¬ gr B y) :
    ∀ (n i j : Nat) (acc : Po) (S : St), S 1 0 = nI p → S 1 2 = nI o → PC S q2 A → PC S q3 B → PC S q1 acc → i ≤ A.length → j ≤ B.length → n ≤ 80 → (A.length - i) + (B.length - j) ≤ n →
    ((acc ++ mrgF o p k y n (A.drop i) (B.drop j)).length ≤ 40 → ∀ S', PC S' q1 (acc ++ mrgF o p k y n (A.drop i) (B.drop j)) → off q1 S S' → K 0 S') →
    (40 < (acc ++ mrgF o p k y n (A.drop i) (B.drop j)).length → ∀ S', off q1 S S' → K (-6) S') →
    q_it (fun _ _ _ _ => False) (w_X5_addMultiple_34 q1 q2 q3 (nI k) (nI (en y)) K) (n + 1) (nI i) (nI j) (nI n) S := by
  intro n
  induction n with
  | zero =>
    intro i j acc S hp ho hA hB hacc hi hj hn80 hn hK0 hK6
    rw [q_it_s]
    unfold w_X5_addMultiple_34
    refine pk_le 0 0 (fun _ => ?_) (fun h => by omega)
    unfold mrgF at hK0
    rw [List.append_nil] at hK0
    exact hK0 hacc.2.1 S hacc off_rf
  | succ n ih =>
    intro i j acc S hp ho hA hB hacc hi hj hn80 hn hK0 hK6
    have hA40 := hA.2.1
    have hB40 := hB.2.1
    have hB30 : ∀ t, t < B.length → mle 30 (mm (pm B t) y) := fun t ht => Classical.byContradiction fun q => hg ⟨_, pc_mem ht, q⟩
    -- what goes on behind a term
    have go : ∀ (i' j' c : Nat) (m : Mo), i' ≤ A.length → j' ≤ B.length → (A.length - i') + (B.length - j') ≤ n → c < 2 ^ 31 →
        (c = 0 → mrgF o p k y (n + 1) (A.drop i) (B.drop j) = mrgF o p k y n (A.drop i') (B.drop j')) →
        (c ≠ 0 → mrgF o p k y (n + 1) (A.drop i) (B.drop j) = (c, m) :: mrgF o p k y n (A.drop i') (B.drop j')) →
        w_X5_addMultiple_187 q1 q2 q3 (nI k) (nI (en y)) K (q_it (fun _ _ _ _ => False) (w_X5_addMultiple_34 q1 q2 q3 (nI k) (nI (en y)) K) (n + 1)) (nI i') (nI j') (nI (n + 1)) (nI c) (nI (en m)) S := by
      intro i' j' c m hi' hj' hn' hc hz hnz
      refine am_emit hacc hc (fun e => ?_) (fun e hl S' h1 h2 => ?_) (fun e hl => ?_)
      · refine ih i' j' acc S hp ho hA hB hacc hi' hj' (by omega) hn' ?_ ?_
        · rw [← hz e]; exact hK0
        · rw [← hz e]; exact hK6
      · have e1 : acc ++ mrgF o p k y (n + 1) (A.drop i) (B.drop j) = (acc ++ [(c, m)]) ++ mrgF o p k y n (A.drop i') (B.drop j') := by rw [hnz e, List.append_assoc]; rfl
        have f1 := off_lit hq1 nP_1 h2
        refine ih i' j' (acc ++ [(c, m)]) S' (by rw [f1]; exact hp) (by rw [f1]; exact ho) (PC_off hq1 hq2 hn2 h2 hA) (PC_off hq1 hq3 hn3 h2 hB) h1 hi' hj' (by omega) hn' ?_ ?_
        · rw [← e1]; exact fun a S2 b d => hK0 a S2 b (off_tr h2 d)
        · rw [← e1]; exact fun a S2 d => hK6 a S2 (off_tr h2 d)
      · refine hK6 ?_ S off_rf
        rw [hnz e, List.length_append, List.length_cons]
        omega
    rw [q_it_s]
    unfold w_X5_addMultiple_34
    refine pk_le (n + 1) 0 (fun h => by omega) (fun _ => ?_)
    rw [hA.1]
    have rkA : ∀ t, t < A.length → mle 31 (pm A t) := fun t ht => mle_mono (hA3 _ (pc_mem ht)) (by omega)
    refine pk_le A.length i (fun hiA => ?_) (fun hiA => ⟨vp_in_nI (by omega) (by decide), ?_⟩)
    · -- nothing is left of a
      have eA : A.drop i = [] := List.drop_eq_nil_of_le hiA
      unfold w_X5_addMultiple_63
      rw [hB.1]
      refine pk_le B.length j (fun hjB => ?_) (fun hjB => ⟨vp_in_nI (by omega) (by decide), ?_⟩)
      · have eB : B.drop j = [] := List.drop_eq_nil_of_le hjB
        unfold w_X5_addMultiple_92
        rw [hA.1]
        refine pk_le A.length i (fun _ => ?_) (fun h => by omega)
        unfold w_X5_addMultiple_137
        rw [hB.1]
        refine pk_le B.length j (fun _ => ?_) (fun h => by omega)
        exact go i j 0 m1 hi hj (by omega) (by decide) (fun _ => by rw [eA, eB, mrg_nil, mrg_nil]) (fun h => absurd rfl h)
      · have hb30 := hB30 j hjB
        rw [m_rf (by omega), (hB.2.2 j hjB).2, nI_add, ← en_mm]
        refine sp_rank (mle_mono hb30 (by omega)) ho ho4 ?_
        unfold w_X5_addMultiple_92
        rw [hA.1]
        refine pk_le A.length i (fun _ => ?_) (fun h => by omega)
        unfold w_X5_addMultiple_137
        rw [hB.1]
        refine pk_le B.length j (fun h => by omega) (fun _ => ⟨fun h => ?_, fun _ => ⟨vp_in_nI (by omega) (by decide), ?_⟩⟩)
        · exact absurd h (nI_nlt' _ (mk_lt (mle_mono hb30 (by omega))))
        · rw [m_rf (by omega), (hB.2.2 j hjB).1, (hB.2.2 j hjB).2, nI_add, ← en_mm]
          intro x12 e12
          subst e12
          have hbp := hBp _ (pc_mem hjB)
          have hkb : k * pc B j ≤ 251 * 251 := Nat.mul_le_mul hk251 (by have : pc B j < p := hbp; omega)
          rw [pk_mul, m_lit 0, nI_add]
          refine sp_restOf' hp hb (by omega) ?_
          intro x7 e7
          rw [m_lit 1, nI_add] at e7
          subst e7
          have hml : (0 + k * pc B j) % p < 2 ^ 31 := by have := Nat.mod_lt (0 + k * pc B j) (show p > 0 by omega); omega
          refine go i (j + 1) _ _ hi hjB (by omega) hml (fun e => ?_) (fun e => ?_)
          · rw [Nat.zero_add] at e
            rw [eA, drop_cons hjB, mrg_r0 (b := (pc B j, pm B j)) e]
          · rw [Nat.zero_add] at e
            rw [eA, drop_cons hjB, mrg_r1 (b := (pc B j, pm B j)) e, Nat.zero_add]
    · rw [m_rf (by omega), (hA.2.2 i hiA).2]
      have ha30 := hA3 _ (pc_mem hiA)
      have haz : pc A i ≠ 0 := Nat.pos_iff_ne_zero.mp (hAz _ (pc_mem hiA))
      have hap : pc A i < p := hAp _ (pc_mem hiA)
      refine sp_rank (rkA i hiA) ho ho4 ?_
      have hka := mk_lt (o := o) (mle_mono ha30 (show 30 ≤ 60 by omega))
      have hka : mk o (pm A i) < 2 ^ 30 := hka
      unfold w_X5_addMultiple_63
      rw [hB.1]
      refine pk_le B.length j (fun hjB => ?_) (fun hjB => ⟨vp_in_nI (by omega) (by decide), ?_⟩)
      · have eB : B.drop j = [] := List.drop_eq_nil_of_le hjB
        unfold w_X5_addMultiple_92
        rw [hA.1]
        refine pk_le A.length i (fun h => by omega) (fun _ => ⟨fun h => ?_, fun _ => ⟨vp_in_nI (by omega) (by decide), ?_⟩⟩)
        · exact absurd h (nI_nlt' _ hka)
        · rw [m_rf (by omega), (hA.2.2 i hiA).1, (hA.2.2 i hiA).2]
          intro x12 e12 x11 e11 x6 e6
          rw [m_lit 1, nI_add] at e6
          subst e12; subst e11; subst e6
          unfold w_X5_addMultiple_137
          rw [hB.1]
          refine pk_le B.length j (fun _ => ?_) (fun h => by omega)
          refine go (i + 1) j _ _ hiA hj (by omega) (by omega) (fun e => absurd e haz) (fun _ => ?_)
          rw [drop_cons hiA, eB, mrg_l]
      · have hb30 := hB30 j hjB
        have hbp : pc B j < p := hBp _ (pc_mem hjB)
        have hkb : k * pc B j ≤ 251 * 251 := Nat.mul_le_mul hk251 (by omega)
        have hkb2 := mk_lt (o := o) (mle_mono hb30 (show 30 ≤ 60 by omega))
        rw [m_rf (by omega), (hB.2.2 j hjB).2, nI_add, ← en_mm]
        refine sp_rank (mle_mono hb30 (by omega)) ho ho4 ?_
        have tail : ∀ (i' x9 : Nat) (c0 : Nat) (m0 : Int32), i' ≤ A.length → i' ≤ i + 1 → c0 < p → (A.length - i') + (B.length - (j + 1)) ≤ n → x9 = mk o (pm A i) → x9 ≤ mk o (mm (pm B j) y) →
            ((c0 + k * pc B j) % p = 0 → mrgF o p k y (n + 1) (A.drop i) (B.drop j) = mrgF o p k y n (A.drop i') (B.drop (j + 1))) →
            ((c0 + k * pc B j) % p ≠ 0 → mrgF o p k y (n + 1) (A.drop i) (B.drop j) = ((c0 + k * pc B j) % p, mm (pm B j) y) :: mrgF o p k y n (A.drop i') (B.drop (j + 1))) →
            w_X5_addMultiple_137 q1 q2 q3 (nI k) (nI (en y)) K (q_it (fun _ _ _ _ => False) (w_X5_addMultiple_34 q1 q2 q3 (nI k) (nI (en y)) K) (n + 1)) (nI i') (nI j) (nI (n + 1)) (nI x9) (nI (mk o (mm (pm B j) y))) (nI c0) m0 S := by
          intro i' x9 c0 m0 hi' _ hc0 hn' ex hle hz hnz
          unfold w_X5_addMultiple_137
          rw [hB.1]
          refine pk_le B.length j (fun h => by omega) (fun _ => ?_)
          refine pk_lt (mk o (mm (pm B j) y)) x9 (fun h => by omega) (fun _ => ⟨vp_in_nI (by omega) (by decide), ?_⟩)
          rw [m_rf (by omega), (hB.2.2 j hjB).1, (hB.2.2 j hjB).2, nI_add, ← en_mm]
          intro x12 e12
          subst e12
          rw [pk_mul, nI_add]
          refine sp_restOf' hp hb (by omega) ?_
          intro x7 e7
          rw [m_lit 1, nI_add] at e7
          subst e7
          have hml := Nat.mod_lt (c0 + k * pc B j) (show p > 0 by omega)
          exact go i' (j + 1) _ _ hi' hjB hn' (by omega) hz hnz
        unfold w_X5_addMultiple_92
        rw [hA.1]
        refine pk_le A.length i (fun h => by omega) (fun _ => ?_)
        refine pk_lt (mk o (pm A i)) (mk o (mm (pm B j) y)) (fun hlt => ?_) (fun hge => ⟨vp_in_nI (by omega) (by decide), ?_⟩)
        · refine tail i _ 0 _ hi (by omega) (by omega) (by omega) rfl (by omega) (fun e => ?_) (fun e => ?_)
          · rw [Nat.zero_add] at e
            rw [drop_cons hiA, drop_cons hjB, mrg_lt0 (a := (pc A i, pm A i)) (b := (pc B j, pm B j)) hlt e]
          · rw [Nat.zero_add] at e
            rw [drop_cons hiA, drop_cons hjB, mrg_lt1 (a := (pc A i, pm A i)) (b := (pc B j, pm B j)) hlt e, Nat.zero_add]
        · rw [m_rf (by omega), (hA.2.2 i hiA).1, (hA.2.2 i hiA).2]
          intro x12 e12 x11 e11 x6 e6
          rw [m_lit 1, nI_add] at e6
          subst e12; subst e11; subst e6
          by_cases heq : mk o (pm A i) = mk o (mm (pm B j) y)
          · refine tail (i + 1) _ (pc A i) _ hiA (by omega) hap (by omega) rfl (by omega) (fun e => ?_) (fun e => ?_)
            · rw [drop_cons hiA, drop_cons hjB, mrg_eq0 (a := (pc A i, pm A i)) (b := (pc B j, pm B j)) heq e]
            · rw [drop_cons hiA, drop_cons hjB, mrg_eq1 (a := (pc A i, pm A i)) (b := (pc B j, pm B j)) heq e]
          · unfold w_X5_addMultiple_137
            rw [hB.1]
            refine pk_le B.length j (fun h => by omega) (fun _ => ?_)
            refine pk_lt (mk o (mm (pm B j) y)) (mk o (pm A i)) (fun _ => ?_) (fun h => by omega)
            refine go (i + 1) j _ _ hiA hj (by omega) (by omega) (fun e => absurd e haz) (fun _ => ?_)
            rw [drop_cons hiA, drop_cons hjB, mrg_gt (a := (pc A i, pm A i)) (b := (pc B j, pm B j)) (by show mk o (mm (pm B j) y) < mk o (pm A i); omega)]
theorem sp_addMultiple {S : St} (hq1 : isP q1) (hq2 : isP q2) (hq3 : isP q3) (hn2 : q2 ≠ q1) (hn3 : q3 ≠ q1) (hb : 2 ≤ p ∧ p ≤ 251) (ho4 : o < 4) (hk251 : k ≤ 251) (hp : S 1 0 = nI p) (ho : S 1 2 = nI o) (hA : PC S q2 A) (hB : PC S q3 B) (cA : Cn o p A) (cB : Cn o p B) (hy : mle 30 y)
    (hgr : gr B y → K (-5) S) (hK0 : ¬ gr B y → (clean (addT o p B k y A)).length ≤ 40 → ∀ S', PC S' q1 (clean (addT o p B k y A)) → off q1 S S' → K 0 S') (hK6 : ¬ gr B y → 40 < (clean (addT o p B k y A)).length → ∀ S', off q1 S S' → K (-6) S') :
    w_X5_addMultiple q1 q2 q3 (nI k) (nI (en y)) S K := by
  unfold w_X5_addMultiple
  refine sp_isMultipleGreat hB cB.2.2.2 hy (fun h => ⟨fun q => absurd q (by decide), fun _ => hgr h⟩) (fun hg => ⟨fun _ => ?_, fun q => absurd rfl q⟩)
  intro S4 e4 x8 e8
  have ho1 : off q1 S S4 := by rw [e4]; exact off_su
  have hA4 := PC_off hq1 hq2 hn2 ho1 hA
  have hB4 := PC_off hq1 hq3 hn3 ho1 hB
  have f1 := off_lit hq1 nP_1 ho1
  rw [hA4.1, hB4.1, nI_add] at e8
  subst e8
  have hA40 := hA.2.1
  have hB40 := hB.2.1
  have em := mrg_eq (k := k) (n := A.length + B.length) (show 0 < p by omega) cA cB.1 hg (Nat.le_refl _)
  refine ⟨A.length + B.length + 1, ?_⟩
  refine am_loop hq1 hq2 hq3 hn2 hn3 hb ho4 hk251 cA.2.2.2 cA.2.2.1 cA.2.1 cB.2.2.2 cB.2.2.1 hy hg (A.length + B.length) 0 0 [] S4 (by rw [f1]; exact hp) (by rw [f1]; exact ho) hA4 hB4 (PC_nil (by rw [e4]; exact su_s S q1 2 0)) (Nat.zero_le _) (Nat.zero_le _) (by omega) (by omega) ?_ ?_
  · rw [List.nil_append, List.drop_zero, List.drop_zero, em]
    exact fun a S' b d => hK0 hg a S' b (off_tr ho1 d)
  · rw [List.nil_append, List.drop_zero, List.drop_zero, em]
    exact fun a S' d => hK6 hg a S' (off_tr ho1 d)
end AM
