/-! the reference's row: multiples, cleaning, laying down, fetching -/
section AT
variable {o p a k : Nat} {y : Mo} {P L : Po} {K : Int32 → St → Prop}
theorem ix160 {k t v : Nat} : ((160 : Int32) * nI k + 4 * nI t) + nI v = nI (160 * k + 4 * t + v) := by rw [mul160, mul4, nI_add, nI_add]
theorem ix40 {k t : Nat} : (40 : Int32) * nI k + nI t = nI (40 * k + t) := by rw [mul40, nI_add]
theorem at_great {S : St} (hP : PM S k P) (hk : k < 61) (hy : MA S 233 0 y) (hy30 : mle 30 y) (h3 : L30 P) (h0 : gr P y → K 0 S) (h1 : ¬ gr P y → ∃ f, q_it (fun _ _ => False) (w_X9_addTimes_67 (nI k) (nI a) K) f 0 S) :
    ∀ (d t : Nat), t + d = P.length → (∀ u ∈ P.take t, mle 30 (mm u.2 y)) → q_it (fun _ _ => False) (w_X9_addTimes_2 (nI k) (nI a) K) (d + 1) (nI t) S := by
  have hl := hP.2.1
  intro d
  induction d with
  | zero =>
    intro t ht hu
    rw [q_it_s]
    unfold w_X9_addTimes_2
    rw [m_rf (by omega), hP.1]
    refine ⟨vp_in_nI hk (by decide), ?_⟩
    refine pk_le P.length t (fun _ => h1 ?_) (fun q => by omega)
    rintro ⟨u, hu1, hq⟩
    rw [List.take_of_length_le (by omega)] at hu
    exact hq (hu u hu1)
  | succ d ih =>
    intro t ht hu
    rw [q_it_s]
    generalize q_it (fun _ _ => False) (w_X9_addTimes_2 (nI k) (nI a) K) (d + 1) = k2 at ih ⊢
    unfold w_X9_addTimes_2
    rw [m_rf (by omega), hP.1]
    refine ⟨vp_in_nI hk (by decide), ?_⟩
    refine pk_le P.length t (fun q => by omega) (fun htl => ?_)
    have g := (hP.2.2 t htl).2
    have gm := h3 _ (pc_mem htl)
    have gm : mle 30 (pm P t) := gm
    have step : ∀ (v : Nat) (kk : Int32 → St → Prop), v < 4 → (ex (pm P t) v + ex y v ≤ 30 → kk (nI (v + 1)) S) → w_X9_addTimes_15 (nI k) (nI a) K k2 (nI t) kk (nI v) S := by
      intro v kk hv hkk
      unfold w_X9_addTimes_15
      refine pk_le 4 v (fun q => by omega) (fun _ => ?_)
      rw [ix160]
      refine ⟨vp_in_nI (by omega) (by decide), vp_in_nI hv (by decide), ?_⟩
      have e1 := hy v hv
      rw [Nat.zero_add] at e1
      rw [m_rf (by omega), m_rf (by omega), g v hv, e1, nI_add]
      have l1 := ex_le gm v
      have l2 := ex_le hy30 v
      refine pk_le (ex (pm P t) v + ex y v) 30 (fun q => ?_) (fun q => h0 ⟨_, pc_mem htl, fun z => ?_⟩)
      · intro x4 e4
        rw [m_lit 1, nI_add] at e4
        subst e4
        exact hkk q
      · unfold mle mm at z
        simp only at z
        rcases (show v = 0 ∨ v = 1 ∨ v = 2 ∨ v = 3 by omega) with rfl | rfl | rfl | rfl
        · rw [ex_0, ex_0] at q; omega
        · rw [ex_1, ex_1] at q; omega
        · rw [ex_2, ex_2] at q; omega
        · rw [ex_3, ex_3] at q; omega
    refine ⟨5, ?_⟩
    rw [q_it_s]
    refine step 0 _ (by decide) (fun q0 => ?_)
    rw [q_it_s]
    refine step 1 _ (by decide) (fun q1 => ?_)
    rw [q_it_s]
    refine step 2 _ (by decide) (fun q2 => ?_)
    rw [q_it_s]
    refine step 3 _ (by decide) (fun q3 => ?_)
    rw [q_it_s]
    unfold w_X9_addTimes_15
    refine pk_le 4 4 (fun _ => ?_) (fun q => by omega)
    intro x3 e3
    rw [m_lit 1, nI_add] at e3
    subst e3
    refine ih (t + 1) (by omega) (fun u hu' => ?_)
    rw [take_snoc htl] at hu'
    rcases List.mem_append.mp hu' with q | q
    · exact hu u q
    · rw [List.mem_singleton.mp q]
      rw [ex_0, ex_0] at q0; rw [ex_1, ex_1] at q1; rw [ex_2, ex_2] at q2; rw [ex_3, ex_3] at q3
      exact ⟨q0, q1, q2, q3⟩
theorem MA_w4 {S : St} {b : Nat} {m : Mo} : MA (w4 S b 0 (fun v => nI (ex m v)) 4) b 0 m := fun v hv => by
  rw [w4_at _ _ _ _ hv]
theorem ex_mm (x y : Mo) (v : Nat) : ex (mm x y) v = ex x v + ex y v := by
  unfold ex mm
  split
  · rfl
  · split
    · rfl
    · split <;> rfl
theorem at_loop (hb : 2 ≤ p ∧ p ≤ 251) (ho4 : o < 4) (hk : k < 61) (hg : ¬ gr P y) (h3P : L30 P) (hpP : Lp p P) (ha : a < p) (ha0 : a ≠ 0) :
    ∀ (d t : Nat) (L : Po) (S : St), t + d = P.length → S 224 0 = nI p → S 224 2 = nI o → PM S k P → MA S 233 0 y → RM S L → L.length + d ≤ 1700 → L30 L → Lp p L →
      (∀ S', RM S' ((P.drop t).foldl (fun L t => ins o p (t.1 * a % p) (mm t.2 y) L) L) → fr9 [230, 231, 232] [20] S S' → K 1 S') → q_it (fun _ _ => False) (w_X9_addTimes_67 (nI k) (nI a) K) (d + 1) (nI t) S := by
  intro d
  induction d with
  | zero =>
    intro t L S ht hp ho hP hy hR hl h3 hpL hK
    rw [q_it_s]
    unfold w_X9_addTimes_67
    have hl40 := hP.2.1
    rw [m_rf (by omega), hP.1]
    refine ⟨vp_in_nI hk (by decide), ?_⟩
    refine pk_le P.length t (fun _ => ?_) (fun q => by omega)
    unfold w_X9_addTimes_156
    rw [List.drop_eq_nil_of_le (by omega)] at hK
    exact hK S hR fr9_rf
  | succ d ih =>
    intro t L S ht hp ho hP hy hR hl h3 hpL hK
    rw [q_it_s]
    generalize q_it (fun _ _ => False) (w_X9_addTimes_67 (nI k) (nI a) K) (d + 1) = k2 at ih ⊢
    unfold w_X9_addTimes_67
    have hl40 := hP.2.1
    rw [m_rf (by omega), hP.1]
    refine ⟨vp_in_nI hk (by decide), ?_⟩
    refine pk_le P.length t (fun q => by omega) (fun htl => ?_)
    refine pk_eq a 0 (fun q => absurd q ha0) (fun _ => ?_)
    have g := hP.2.2 t htl
    have gc : pc P t < p := hpP _ (pc_mem htl)
    have gy : mle 30 (mm (pm P t) y) := Classical.byContradiction fun q => hg ⟨_, pc_mem htl, q⟩
    refine loop4 (S := S) (a := 232) (i := 0) (g := fun v => nI (ex (mm (pm P t) y) v)) ?_ ?_
    · intro v kk hv hkk
      unfold w_X9_addTimes_84
      refine pk_le 4 v (fun q => by omega) (fun _ => ?_)
      rw [ix160]
      refine ⟨vp_in_nI (by omega) (by decide), vp_in_nI hv (by decide), ?_⟩
      have e1 := hy v hv
      rw [Nat.zero_add] at e1
      rw [m_rf (by omega), m_rf (by omega), w4_n _ _ _ _ _ (Or.inl (by decide)), w4_n _ _ _ _ _ (Or.inl (by decide)), g.2 v hv, e1, nI_add, ← ex_mm]
      have e2 := w4_s S 232 0 (fun v => nI (ex (mm (pm P t) y) v)) v
      rw [Nat.zero_add] at e2
      intro S9 e9 x4 e4
      rw [e2] at e9
      rw [m_lit 1, nI_add] at e4
      subst e9; subst e4
      exact hkk
    · intro kk
      unfold w_X9_addTimes_84
      refine pk_le 4 4 (fun _ => ?_) (fun q => by omega)
      rw [ix40]
      refine ⟨vp_in_nI (by omega) (by decide), ?_⟩
      have e0 : ∀ c j, c ≠ 232 → w4 S 232 0 (fun v => nI (ex (mm (pm P t) y) v)) 4 c j = S c j := fun c j hc => w4_n _ _ _ _ _ (Or.inl hc)
      rw [m_rf (by omega), e0 224 0 (by decide), e0 226 _ (by decide), hp, g.1, pk_mul]
      have hm := mul_lt' gc ha hb.2
      rw [m_rem (by omega) (by omega) (by omega)]
      refine ⟨nI_ne0 (by omega) (by omega), ?_⟩
      have hR' : RM (w4 S 232 0 (fun v => nI (ex (mm (pm P t) y) v)) 4) L := RM_fr hR (e0 224 20 (by decide)) (w4_ne _ _ _ _ (by decide)) (w4_ne _ _ _ _ (by decide))
      refine sp_add hR' (by omega) MA_w4 (by rw [e0 224 0 (by decide)]; exact hp) hb (by rw [e0 224 2 (by decide)]; exact ho) ho4 gy h3 hpL (Nat.mod_lt _ (by omega)) (fun S' hR2 hf => ?_)
      intro x3 e3
      rw [m_lit 1, nI_add] at e3
      subst e3
      have hf2 : fr9 [230, 231, 232] [20] S S' := fr9_tr (fr9_w4 (by decide) (by decide)) (fr9_mono hf (by decide) (by decide))
      refine ih (t + 1) (ins o p (pc P t * a % p) (mm (pm P t) y) L) S' (by omega) (by rw [hf2.2 0 (by decide)]; exact hp) (by rw [hf2.2 2 (by decide)]; exact ho) (PM_fr hP (hf2.1 225 (by decide) (by decide)) (hf2.1 226 (by decide) (by decide)) (hf2.1 227 (by decide) (by decide))) (MA_eq hy (fun v _ => by rw [hf2.1 233 (by decide) (by decide)])) hR2 ?_ (ins_L30 gy h3) (ins_Lp (by omega) (Nat.mod_lt _ (by omega)) hpL) ?_
      · have := ins_len (o := o) (p := p) (c := pc P t * a % p) (m := mm (pm P t) y) (L := L)
        omega
      · intro S2 h2 hf3
        rw [drop_cons htl] at hK
        exact hK S2 h2 (fr9_tr hf2 hf3)
theorem sp_addTimes {S : St} (hb : 2 ≤ p ∧ p ≤ 251) (ho4 : o < 4) (hk : k < 61) (h3P : L30 P) (hpP : Lp p P) (ha : a < p) (hp : S 224 0 = nI p) (ho : S 224 2 = nI o) (hP : PM S k P) (hy : MA S 233 0 y) (hy30 : mle 30 y) (hR : RM S L) (hl : L.length + P.length ≤ 1700) (h3 : L30 L) (hpL : Lp p L)
    (h0 : gr P y → K 0 S) (h1 : ¬ gr P y → ∀ S', RM S' (addT o p P a y L) → fr9 [230, 231, 232] [20] S S' → K 1 S') : w_X9_addTimes (nI k) (nI a) S K := by
  unfold w_X9_addTimes
  refine ⟨P.length + 1, at_great hP hk hy hy30 h3P h0 (fun hg => ?_) P.length 0 (by omega) (fun u hu => by simp at hu)⟩
  by_cases ha0 : a = 0
  · subst ha0
    refine ⟨1, ?_⟩
    rw [q_it_s]
    unfold w_X9_addTimes_67 w_X9_addTimes_156
    have hl40 := hP.2.1
    have e1 : addT o p P 0 y L = L := by unfold addT; rw [if_pos rfl]
    have hk1 : K 1 S := h1 hg S (by rw [e1]; exact hR) fr9_rf
    rw [m_rf (by omega), hP.1]
    refine ⟨vp_in_nI hk (by decide), fun _ => hk1, fun _ => ⟨fun _ => hk1, fun q => absurd rfl q⟩⟩
  · refine ⟨P.length + 1, at_loop hb ho4 hk hg h3P hpP ha ha0 P.length 0 L S (by omega) hp ho hP hy hR (by omega) h3 hpL (fun S' h2 hf => h1 hg S' ?_ hf)⟩
    unfold addT
    rw [if_neg ha0]
    exact h2
end AT
theorem ex_m1 (v : Nat) : ex m1 v = 0 := by
  unfold ex m1
  split
  · rfl
  · split
    · rfl
    · split <;> rfl
theorem sp_byOne {S : St} {K : Unit → St → Prop} (hK : ∀ S', MA S' 233 0 m1 → fr9 [233] [] S S' → K () S') : w_X9_byOne S K := by
  unfold w_X9_byOne
  refine loop4 (S := S) (a := 233) (i := 0) (g := fun v => nI (ex m1 v)) ?_ ?_
  · intro v kk hv hkk
    unfold w_X9_byOne_2
    refine pk_le 4 v (fun q => by omega) (fun _ => ⟨vp_in_nI hv (by decide), ?_⟩)
    have e2 := w4_s S 233 0 (fun v => nI (ex m1 v)) v
    rw [Nat.zero_add] at e2
    rw [m_rf (by omega)]
    intro S3 e3 x1 e1
    have e0 : (0 : Int32) = nI (ex m1 v) := by rw [ex_m1]; rfl
    rw [e0, e2] at e3
    rw [m_lit 1, nI_add] at e1
    subst e3; subst e1
    exact hkk
  · intro kk
    unfold w_X9_byOne_2
    refine pk_le 4 4 (fun _ => hK _ MA_w4 (fr9_w4 (by decide) (by decide))) (fun q => by omega)
theorem clean_snoc {L : Po} {x : Te} : clean (L ++ [x]) = if x.1 = 0 then clean L else clean L ++ [x] := by
  unfold clean
  rw [List.filter_append]
  split
  · rename_i h; simp [h]
  · rename_i h; simp [h]
theorem clean_le (L : Po) : (clean L).length ≤ L.length := List.length_filter_le _ _
theorem sp_clean {S : St} {L : Po} {K : Unit → St → Prop} (h : RM S L) (hp : Lp 251 L ∨ Lp 252 L) (hK : ∀ S', RM S' (clean L) → fr9 [230, 231] [20] S S' → K () S') : w_X9_clean S K := by
  have hc : ∀ t, t < L.length → pc L t < 2 ^ 31 := fun t ht => by
    rcases hp with q | q
    · have : pc L t < 251 := q _ (pc_mem ht); omega
    · have : pc L t < 252 := q _ (pc_mem ht); omega
  have hl := h.2.1
  have loop : ∀ (d t : Nat) (S' : St), t + d = L.length → S' 224 20 = nI L.length → (∀ j, j < (clean (L.take t)).length → S' 230 j = nI (pc (clean (L.take t)) j) ∧ MA S' 231 (4 * j) (pm (clean (L.take t)) j)) → (∀ j, t ≤ j → j < L.length → S' 230 j = nI (pc L j) ∧ MA S' 231 (4 * j) (pm L j)) → fr9 [230, 231] [20] S S' →
      q_it (fun _ _ _ => False) (w_X9_clean_4 K) (d + 1) (nI (clean (L.take t)).length) (nI t) S' := by
    intro d
    induction d with
    | zero =>
      intro t S' ht h20 ha hb2 hf
      rw [q_it_s]
      unfold w_X9_clean_4
      rw [h20]
      refine pk_le L.length t (fun _ => ?_) (fun q => by omega)
      have e1 : L.take t = L := List.take_of_length_le (by omega)
      rw [e1] at ha ⊢
      have hcl := clean_le L
      intro S2 e2
      refine hK S2 ⟨by rw [e2, su_s], by omega, fun j hj => ?_⟩ (by rw [e2]; exact fr9_tr hf (fr9_sf (by decide)))
      rw [e2, su_n _ _ (Or.inl (by decide))]
      exact ⟨(ha j hj).1, MA_eq (ha j hj).2 (fun v _ => su_n _ _ (Or.inl (by decide)))⟩
    | succ d ih =>
      intro t S' ht h20 ha hb2 hf
      have htl : t < L.length := by omega
      have hcl : (clean (L.take t)).length ≤ t := by
        have h1 := clean_le (L.take t)
        rw [List.length_take] at h1
        omega
      rw [q_it_s]
      unfold w_X9_clean_4
      rw [h20]
      refine pk_le L.length t (fun q => by omega) (fun _ => ⟨vp_in_nI (by omega) (by decide), ?_⟩)
      have g := hb2 t (Nat.le_refl _) htl
      have hct := hc t htl
      rw [m_rf (by omega), g.1]
      have esn := clean_snoc (L := L.take t) (x := (pc L t, pm L t))
      rw [← take_snoc htl] at esn
      refine pk_eq (pc L t) 0 (fun q => ?_) (fun q => ⟨vp_in_nI (by omega) (by decide), ?_⟩)
      · unfold w_X9_clean_69
        intro x2 e2
        rw [m_lit 1, nI_add] at e2
        subst e2
        rw [if_pos q] at esn
        have := ih (t + 1) S' (by omega) h20 (by rw [esn]; exact ha) (fun j h1 h2 => hb2 j (by omega) h2) hf
        rw [esn] at this
        exact this
      · rw [m_rf (by omega)]
        rw [if_neg q] at esn
        intro S6 e6
        subst e6
        refine loop4 (S := su S' 230 (clean (L.take t)).length (nI (pc L t))) (a := 231) (i := 4 * (clean (L.take t)).length) (g := fun v => nI (ex (pm L t) v)) ?_ ?_
        · intro v kk hv hkk
          unfold w_X9_clean_35
          refine pk_le 4 v (fun q => by omega) (fun _ => ?_)
          rw [mul4, mul4, nI_add, nI_add]
          refine ⟨vp_in_nI (by omega) (by decide), vp_in_nI (by omega) (by decide), ?_⟩
          rw [m_rf (by omega), m_rf (by omega)]
          have e1 : w4 (su S' 230 (clean (L.take t)).length (nI (pc L t))) 231 (4 * (clean (L.take t)).length) (fun v => nI (ex (pm L t) v)) v 231 (4 * t + v) = nI (ex (pm L t) v) := by
            by_cases q2 : (clean (L.take t)).length = t
            · rw [q2, w4_n _ _ _ _ _ (Or.inr (Or.inr (by omega))), su_n _ _ (Or.inl (by decide))]
              exact g.2 v hv
            · rw [w4_n _ _ _ _ _ (Or.inr (Or.inr (by omega))), su_n _ _ (Or.inl (by decide))]
              exact g.2 v hv
          rw [e1, w4_s (g := fun v => nI (ex (pm L t) v))]
          intro S5 e5 x3 e3
          rw [m_lit 1, nI_add] at e3
          subst e5; subst e3
          exact hkk
        · intro kk
          unfold w_X9_clean_35
          refine pk_le 4 4 (fun _ => ?_) (fun q => by omega)
          intro x1 e1
          rw [m_lit 1, nI_add] at e1
          subst e1
          unfold w_X9_clean_69
          intro x2 e2
          rw [m_lit 1, nI_add] at e2
          subst e2
          have hlen : (clean (L.take (t + 1))).length = (clean (L.take t)).length + 1 := by rw [esn, List.length_append]; rfl
          rw [← hlen]
          refine ih (t + 1) _ (by omega) ?_ (fun j hj => ?_) (fun j h1 h2 => ?_) (fr9_tr hf (fr9_tr (fr9_su (by decide) (by decide)) (fr9_w4 (by decide) (by decide))))
          · rw [w4_n _ _ _ _ _ (Or.inl (by decide)), su_n _ _ (Or.inl (by decide))]
            exact h20
          · rw [hlen] at hj
            rw [esn, w4_n _ _ _ _ _ (Or.inl (by decide)), su_at]
            by_cases q3 : j = (clean (L.take t)).length
            · rw [if_pos ⟨rfl, q3⟩, q3, pc_last, pm_last]
              exact ⟨rfl, fun v hv => w4_at _ _ _ _ hv⟩
            · rw [if_neg (by omega), pc_app (by omega), pm_app (by omega)]
              have g2 := ha j (by omega)
              refine ⟨g2.1, MA_eq g2.2 (fun v hv => ?_)⟩
              rw [w4_n _ _ _ _ _ (Or.inr (Or.inl (by omega))), su_n _ _ (Or.inl (by decide))]
          · have g2 := hb2 j (by omega) h2
            rw [w4_n _ _ _ _ _ (Or.inl (by decide)), su_n _ _ (Or.inr (by omega))]
            refine ⟨g2.1, MA_eq g2.2 (fun v hv => ?_)⟩
            rw [w4_n _ _ _ _ _ (Or.inr (Or.inr (by omega))), su_n _ _ (Or.inl (by decide))]
  unfold w_X9_clean
  have := loop L.length 0 S (by omega) h.1 (fun j hj => by simp [clean] at hj) (fun j _ hj => h.2.2 j hj) fr9_rf
  rw [List.take_zero] at this
  exact ⟨_, this⟩
/-- a row times a number -/
def scl (p a : Nat) (L : Po) : Po := L.map (fun t => (t.1 * a % p, t.2))
theorem scl_one {p : Nat} {L : Po} (h : Lp p L) : scl p 1 L = L := by
  induction L with
  | nil => rfl
  | cons t L ih =>
    have h' := Lp_cons.mp h
    show (t.1 * 1 % p, t.2) :: scl p 1 L = t :: L
    rw [ih h'.2, Nat.mul_one, Nat.mod_eq_of_lt h'.1]
theorem scl_len {p a : Nat} {L : Po} : (scl p a L).length = L.length := List.length_map _
theorem pc_scl {p a t : Nat} {L : Po} (h : t < L.length) : pc (scl p a L) t = pc L t * a % p ∧ pm (scl p a L) t = pm L t := by
  unfold pc pm scl
  rw [List.getD_eq_getElem?_getD, List.getD_eq_getElem?_getD, List.getElem?_map, List.getElem?_eq_getElem h]
  exact ⟨rfl, rfl⟩
/-- all places but one stay -/
def pkf (k : Nat) (S S' : St) : Prop := (∀ j, j ≠ k → S' 225 j = S 225 j) ∧ (∀ i, (i < 40 * k ∨ 40 * k + 40 ≤ i) → S' 226 i = S 226 i) ∧ ∀ i, (i < 160 * k ∨ 160 * k + 160 ≤ i) → S' 227 i = S 227 i
theorem PM_pkf {k j : Nat} {P : Po} {S S' : St} (h : pkf k S S') (hj : j ≠ k) (hP : PM S j P) : PM S' j P := by
  obtain ⟨a, b, c⟩ := hP
  refine ⟨by rw [h.1 j hj]; exact a, b, fun t ht => ⟨?_, MA_eq (c t ht).2 (fun v hv => h.2.2 _ (by omega))⟩⟩
  rw [h.2.1 _ (by omega)]
  exact (c t ht).1
theorem sp_lay {S : St} {L : Po} {p k a : Nat} {K : Unit → St → Prop} (hb : 2 ≤ p ∧ p ≤ 251) (hk : k < 61) (hp : S 224 0 = nI p) (h : RM S L) (hl : L.length ≤ 40) (hpL : Lp p L) (ha : a < p) (hK : ∀ S', PM S' k (scl p a L) → fr9 [225, 226, 227] [] S S' → pkf k S S' → K () S') : w_X9_lay (nI k) (nI a) S K := by
  unfold w_X9_lay
  rw [m_rf (by omega), h.1]
  refine ⟨vp_in_nI hk (by decide), ?_⟩
  intro S2 e2
  have loop : ∀ (d t : Nat) (S' : St), t + d = L.length → fr9 [225, 226, 227] [] S S' → pkf k S S' → S' 225 k = nI L.length → (∀ j, j < t → S' 226 (40 * k + j) = nI (pc L j * a % p) ∧ MA S' 227 (160 * k + 4 * j) (pm L j)) →
      q_it (fun _ _ => False) (w_X9_lay_12 (nI k) (nI a) K) (d + 1) (nI t) S' := by
    intro d
    induction d with
    | zero =>
      intro t S' ht hf hpk h225 hj
      rw [q_it_s]
      unfold w_X9_lay_12
      rw [hf.2 20 (by decide), h.1]
      refine pk_le L.length t (fun _ => ?_) (fun q => by omega)
      refine hK S' ⟨by rw [scl_len]; exact h225, by rw [scl_len]; exact hl, fun j hj2 => ?_⟩ hf hpk
      rw [scl_len] at hj2
      rw [(pc_scl hj2).1, (pc_scl hj2).2]
      exact hj j (by omega)
    | succ d ih =>
      intro t S' ht hf hpk h225 hj
      have htl : t < L.length := by omega
      rw [q_it_s]
      unfold w_X9_lay_12
      rw [hf.2 20 (by decide), h.1]
      refine pk_le L.length t (fun q => by omega) (fun _ => ⟨vp_in_nI (by omega) (by decide), ?_⟩)
      have g := h.2.2 t htl
      have gc : pc L t < p := hpL _ (pc_mem htl)
      have hm := mul_lt' gc ha hb.2
      rw [ix40, m_rf (by omega), m_rf (by omega), hf.2 0 (by decide), hp, hf.1 230 (by decide) (by decide), g.1, pk_mul, m_rem (by omega) (by omega) (by omega)]
      refine ⟨nI_ne0 (by omega) (by omega), vp_in_nI (by omega) (by decide), ?_⟩
      intro S5 e5
      subst e5
      refine loop4 (S := su S' 226 (40 * k + t) (nI (pc L t * a % p))) (a := 227) (i := 160 * k + 4 * t) (g := fun v => nI (ex (pm L t) v)) ?_ ?_
      · intro v kk hv hkk
        unfold w_X9_lay_47
        refine pk_le 4 v (fun q => by omega) (fun _ => ?_)
        rw [ix160, mul4, nI_add]
        refine ⟨vp_in_nI (by omega) (by decide), vp_in_nI (by omega) (by decide), ?_⟩
        rw [m_rf (by omega), m_rf (by omega), w4_n _ _ _ _ _ (Or.inl (by decide)), su_n _ _ (Or.inl (by decide)), hf.1 231 (by decide) (by decide), g.2 v hv, w4_s (g := fun v => nI (ex (pm L t) v))]
        intro S5 e5 x4 e4
        rw [m_lit 1, nI_add] at e4
        subst e5; subst e4
        exact hkk
      · intro kk
        unfold w_X9_lay_47
        refine pk_le 4 4 (fun _ => ?_) (fun q => by omega)
        intro x3 e3
        rw [m_lit 1, nI_add] at e3
        subst e3
        refine ih (t + 1) _ (by omega) (fr9_tr hf (fr9_tr (fr9_su (by decide) (by decide)) (fr9_w4 (by decide) (by decide)))) ⟨fun j hj2 => ?_, fun i hi => ?_, fun i hi => ?_⟩ ?_ (fun j hj2 => ?_)
        · rw [w4_n _ _ _ _ _ (Or.inl (by decide)), su_n _ _ (Or.inl (by decide))]; exact hpk.1 j hj2
        · rw [w4_n _ _ _ _ _ (Or.inl (by decide)), su_n _ _ (Or.inr (by omega))]; exact hpk.2.1 i hi
        · rw [w4_n _ _ _ _ _ (Or.inr (by omega)), su_n _ _ (Or.inl (by decide))]; exact hpk.2.2 i hi
        · rw [w4_n _ _ _ _ _ (Or.inl (by decide)), su_n _ _ (Or.inl (by decide))]; exact h225
        · rw [w4_n _ _ _ _ _ (Or.inl (by decide)), su_at]
          by_cases q : j = t
          · rw [q, if_pos ⟨rfl, rfl⟩]
            exact ⟨rfl, fun v hv => w4_at _ _ _ _ hv⟩
          · rw [if_neg (by omega)]
            have g2 := hj j (by omega)
            refine ⟨g2.1, MA_eq g2.2 (fun v hv => ?_)⟩
            rw [w4_n _ _ _ _ _ (Or.inr (by omega)), su_n _ _ (Or.inl (by decide))]
  refine ⟨L.length + 1, ?_⟩
  subst e2
  refine loop L.length 0 _ (by omega) (fr9_su (by decide) (by decide)) ⟨fun j hj => su_n _ _ (Or.inr hj), fun i _ => su_n _ _ (Or.inl (by decide)), fun i _ => su_n _ _ (Or.inl (by decide))⟩ (su_s _ _ _ _) (fun j hj => by omega)
theorem sp_fetch {S : St} {P : Po} {k : Nat} {K : Unit → St → Prop} (hk : k < 61) (h : PM S k P) (hK : ∀ S', RM S' P → fr9 [230, 231] [20] S S' → K () S') : w_X9_fetch (nI k) S K := by
  have hl := h.2.1
  unfold w_X9_fetch
  rw [m_rf (by omega), h.1]
  refine ⟨vp_in_nI hk (by decide), ?_⟩
  intro S2 e2
  have loop : ∀ (d t : Nat) (S' : St), t + d = P.length → fr9 [230, 231] [20] S S' → S' 224 20 = nI P.length → (∀ j, j < t → S' 230 j = nI (pc P j) ∧ MA S' 231 (4 * j) (pm P j)) → q_it (fun _ _ => False) (w_X9_fetch_12 (nI k) K) (d + 1) (nI t) S' := by
    intro d
    induction d with
    | zero =>
      intro t S' ht hf h20 hj
      rw [q_it_s]
      unfold w_X9_fetch_12
      rw [h20]
      refine pk_le P.length t (fun _ => ?_) (fun q => by omega)
      exact hK S' ⟨h20, by omega, fun j hj2 => hj j (by omega)⟩ hf
    | succ d ih =>
      intro t S' ht hf h20 hj
      have htl : t < P.length := by omega
      rw [q_it_s]
      unfold w_X9_fetch_12
      rw [h20]
      refine pk_le P.length t (fun q => by omega) (fun _ => ?_)
      have g := h.2.2 t htl
      rw [ix40, m_rf (by omega), m_rf (by omega), hf.1 226 (by decide) (by decide), g.1]
      refine ⟨vp_in_nI (by omega) (by decide), vp_in_nI (by omega) (by decide), ?_⟩
      intro S5 e5
      subst e5
      refine loop4 (S := su S' 230 t (nI (pc P t))) (a := 231) (i := 4 * t) (g := fun v => nI (ex (pm P t) v)) ?_ ?_
      · intro v kk hv hkk
        unfold w_X9_fetch_39
        refine pk_le 4 v (fun q => by omega) (fun _ => ?_)
        rw [ix160, mul4, nI_add]
        refine ⟨vp_in_nI (by omega) (by decide), vp_in_nI (by omega) (by decide), ?_⟩
        rw [m_rf (by omega), m_rf (by omega), w4_n _ _ _ _ _ (Or.inl (by decide)), su_n _ _ (Or.inl (by decide)), hf.1 227 (by decide) (by decide), g.2 v hv, w4_s (g := fun v => nI (ex (pm P t) v))]
        intro S5 e5 x3 e3
        rw [m_lit 1, nI_add] at e3
        subst e5; subst e3
        exact hkk
      · intro kk
        unfold w_X9_fetch_39
        refine pk_le 4 4 (fun _ => ?_) (fun q => by omega)
        intro x2 e2
        rw [m_lit 1, nI_add] at e2
        subst e2
        refine ih (t + 1) _ (by omega) (fr9_tr hf (fr9_tr (fr9_su (by decide) (by decide)) (fr9_w4 (by decide) (by decide)))) ?_ (fun j hj2 => ?_)
        · rw [w4_n _ _ _ _ _ (Or.inl (by decide)), su_n _ _ (Or.inl (by decide))]; exact h20
        · rw [w4_n _ _ _ _ _ (Or.inl (by decide)), su_at]
          by_cases q : j = t
          · rw [q, if_pos ⟨rfl, rfl⟩]
            exact ⟨rfl, fun v hv => w4_at _ _ _ _ hv⟩
          · rw [if_neg (by omega)]
            have g2 := hj j (by omega)
            refine ⟨g2.1, MA_eq g2.2 (fun v hv => ?_)⟩
            rw [w4_n _ _ _ _ _ (Or.inr (by omega)), su_n _ _ (Or.inl (by decide))]
  refine ⟨P.length + 1, ?_⟩
  subst e2
  exact loop P.length 0 _ (by omega) (fr9_sf (by decide)) (su_s _ _ _ _) (fun j hj => by omega)
theorem sp_copy {S : St} {P : Po} {p i k : Nat} {K : Unit → St → Prop} (hb : 2 ≤ p ∧ p ≤ 251) (hi : i < 61) (hk : k < 61) (hp : S 224 0 = nI p) (h : PM S i P) (hpP : Lp p P) (hK : ∀ S', PM S' k P → fr9 [225, 226, 227, 230, 231] [20] S S' → pkf k S S' → K () S') : w_X9_copy (nI i) (nI k) S K := by
  unfold w_X9_copy
  refine sp_fetch hi h (fun S1 hR hf => ?_)
  refine sp_lay (a := 1) hb hk (by rw [hf.2 0 (by decide)]; exact hp) hR h.2.1 hpP (by omega) (fun S2 hP hf2 hpk => hK S2 (by rw [scl_one hpP] at hP; exact hP) (fr9_tr (fr9_mono hf (by decide) (by decide)) (fr9_mono hf2 (by decide) (by decide))) ?_)
  refine ⟨fun j hj => ?_, fun j hj => ?_, fun j hj => ?_⟩
  · rw [hpk.1 j hj, hf.1 225 (by decide) (by decide)]
  · rw [hpk.2.1 j hj, hf.1 226 (by decide) (by decide)]
  · rw [hpk.2.2 j hj, hf.1 227 (by decide) (by decide)]
