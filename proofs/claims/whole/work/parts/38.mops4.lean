/-! the reference's calls: spair, value, compare -/
theorem ex_mx (x y : Mo) (v : Nat) : ex (mx x y) v = max (ex x v) (ex y v) := by
  unfold ex mx
  split
  · rfl
  · split
    · rfl
    · split <;> rfl
theorem ex_ms (x y : Mo) (v : Nat) : ex (ms x y) v = ex x v - ex y v := by
  unfold ex ms
  split
  · rfl
  · split
    · rfl
    · split <;> rfl
theorem mle_mx {k : Nat} {x y : Mo} (hx : mle k x) (hy : mle k y) : mle k (mx x y) := by
  unfold mle at *
  unfold mx
  simp only
  omega
theorem mle_ms {k : Nat} {x y : Mo} (hx : mle k x) : mle k (ms x y) := by
  unfold mle at *
  unfold ms
  simp only
  omega
theorem sp_leastOf {S : St} {P Q : Po} {k l : Nat} {K : Unit → St → Prop} (hk : k < 61) (hl : l < 61) (hP : PM S k P) (hQ : PM S l Q) (h1 : 0 < P.length) (h2 : 0 < Q.length) (p30 : L30 P) (q30 : L30 Q) (hK : ∀ S', MA S' 234 0 (mx (pm P 0) (pm Q 0)) → fr9 [234] [] S S' → K () S') : w_X9_leastOf (nI k) (nI l) S K := by
  unfold w_X9_leastOf
  refine loop4 (S := S) (a := 234) (i := 0) (g := fun v => nI (ex (mx (pm P 0) (pm Q 0)) v)) ?_ ?_
  · intro v kk hv hkk
    unfold w_X9_leastOf_2 w_X9_leastOf_54
    refine pk_le 4 v (fun q => by omega) (fun _ => ?_)
    have e1 := (hP.2.2 0 h1).2 v hv
    have e2 := (hQ.2.2 0 h2).2 v hv
    rw [Nat.mul_zero, Nat.add_zero] at e1 e2
    rw [mul160, mul160, nI_add, nI_add, m_rf (by omega), m_rf (by omega), m_rf (by omega), w4_n _ _ _ _ _ (Or.inl (by decide)), w4_n _ _ _ _ _ (Or.inl (by decide)), e1, e2]
    refine ⟨vp_in_nI (by omega) (by decide), ?_⟩
    intro x4 e4
    refine ⟨vp_in_nI (by omega) (by decide), ?_⟩
    intro x5 e5
    subst e4; subst e5
    have b1 := ex_le (p30 _ (pc_mem h1)) v
    have b2 := ex_le (q30 _ (pc_mem h2)) v
    have b1 : ex (pm P 0) v ≤ 30 := b1
    have b2 : ex (pm Q 0) v ≤ 30 := b2
    have em := ex_mx (pm P 0) (pm Q 0) v
    have e3 := w4_s S 234 0 (fun v => nI (ex (mx (pm P 0) (pm Q 0)) v)) v
    rw [Nat.zero_add] at e3
    refine pk_le (ex (pm P 0) v) (ex (pm Q 0) v) (fun q => ?_) (fun q => ?_)
    · refine ⟨vp_in_nI hv (by decide), ?_⟩
      intro S2 e6 x3 e7
      rw [Nat.max_eq_right q] at em
      rw [← em, e3] at e6
      rw [m_lit 1, nI_add] at e7
      subst e6; subst e7
      exact hkk
    · refine ⟨vp_in_nI hv (by decide), ?_⟩
      intro S2 e6 x3 e7
      rw [Nat.max_eq_left (by omega)] at em
      rw [← em, e3] at e6
      rw [m_lit 1, nI_add] at e7
      subst e6; subst e7
      exact hkk
  · intro kk
    unfold w_X9_leastOf_2
    exact pk_le 4 4 (fun _ => hK _ MA_w4 (fr9_w4 (by decide) (by decide))) (fun q => by omega)
theorem mS_step {S : St} {P L : Po} {p o k : Nat} {lm : Mo} {x1 x2 : Int32} {j : Nat} {K : Int32 → St → Prop} {k13 : Int32 → St → Prop} (hp : prm p = true) (ho4 : o < 4) (hk : k < 61) (hP : PM S k P) (h1 : 0 < P.length) (gc : Cn o p P) (hj : j < 2) (h0 : S 224 0 = nI p) (h2 : S 224 2 = nI o) (hlm : MA S 234 0 lm) (l30 : mle 30 lm) (hd : ∀ v, ex (pm P 0) v ≤ ex lm v) (hR : RM S L) (hl : L.length ≤ 40) (h3 : L30 L) (hpL : Lp p L)
    (hg : gr P (ms lm (pm P 0)) → ∀ S', fr9 [230, 231, 232, 233] [20] S S' → K (-5) S') (hn : ¬ gr P (ms lm (pm P 0)) → ∀ S', RM S' (addT o p P (if j = 0 then iv p (pc P 0) else (p - iv p (pc P 0)) % p) (ms lm (pm P 0)) L) → fr9 [230, 231, 232, 233] [20] S S' → k13 (nI (j + 1)) S') : w_X9_makeS_27 x1 x2 K k13 (nI j) (nI k) S := by
  have hb := prm_b hp
  unfold w_X9_makeS_27
  have hPl := hP.2.1
  have c0 : 0 < pc P 0 := gc.2.1 _ (pc_mem h1)
  have cp : pc P 0 < p := gc.2.2.1 _ (pc_mem h1)
  refine loop4 (S := S) (a := 233) (i := 0) (g := fun v => nI (ex (ms lm (pm P 0)) v)) ?_ ?_
  · intro v kk hv hkk
    unfold w_X9_makeS_32
    refine pk_le 4 v (fun q => by omega) (fun _ => ?_)
    have e1 := (hP.2.2 0 h1).2 v hv
    rw [Nat.mul_zero, Nat.add_zero] at e1
    have e2 := hlm v hv
    rw [Nat.zero_add] at e2
    rw [mul160, nI_add, m_rf (by omega), m_rf (by omega), w4_n _ _ _ _ _ (Or.inl (by decide)), w4_n _ _ _ _ _ (Or.inl (by decide)), e1, e2, pk_sub (hd v), ← ex_ms]
    refine ⟨vp_in_nI hv (by decide), vp_in_nI (by omega) (by decide), ?_⟩
    have e3 := w4_s S 233 0 (fun v => nI (ex (ms lm (pm P 0)) v)) v
    rw [Nat.zero_add] at e3
    intro S9 e4 x5 e5
    rw [e3] at e4
    rw [m_lit 1, nI_add] at e5
    subst e4; subst e5
    exact hkk
  · intro kk
    unfold w_X9_makeS_32
    refine pk_le 4 4 (fun _ => ?_) (fun q => by omega)
    have fw : fr9 [233] [] S (w4 S 233 0 (fun v => nI (ex (ms lm (pm P 0)) v)) 4) := fr9_w4 (by decide) (by decide)
    have ec := (hP.2.2 0 h1).1
    rw [Nat.add_zero] at ec
    have p0 := (fw.2 0 (by decide)).trans h0
    have o2 := (fw.2 2 (by decide)).trans h2
    have iL := iv_lt (v := pc P 0) hp
    rw [mul40, m_rf (by omega), fw.1 226 (by decide) (by decide), ec]
    refine ⟨vp_in_nI (by omega) (by decide), ?_⟩
    refine sp_inverse9 p0 hp c0 cp ?_
    have fin : ∀ z : Nat, z < p → z = (if j = 0 then iv p (pc P 0) else (p - iv p (pc P 0)) % p) → w_X9_makeS_113 x1 x2 K k13 (nI j) (nI k) (nI z) (w4 S 233 0 (fun v => nI (ex (ms lm (pm P 0)) v)) 4) := by
      intro z hz ez
      unfold w_X9_makeS_113
      refine sp_addTimes (p := p) (o := o) hb ho4 hk gc.2.2.2 gc.2.2.1 hz p0 o2 (PM_fr hP (fw.1 225 (by decide) (by decide)) (fw.1 226 (by decide) (by decide)) (fw.1 227 (by decide) (by decide))) MA_w4 (mle_ms l30) (RM_fr hR (fw.2 20 (by decide)) (fw.1 230 (by decide) (by decide)) (fw.1 231 (by decide) (by decide))) (by omega) h3 hpL (fun q => ⟨fun z => absurd rfl z, fun _ => hg q _ (fr9_mono fw (by decide) (by decide))⟩) (fun q S3 hR3 f3 => ⟨fun _ => ?_, fun z => absurd z (by decide)⟩)
      intro x3 e3
      rw [m_lit 1, nI_add] at e3
      subst e3
      rw [ez] at hR3
      exact hn q S3 hR3 (fr9_tr (fr9_mono fw (by decide) (by decide)) (fr9_mono f3 (by decide) (by decide)))
    rw [p0]
    refine (fun (a : ¬ j = 0 → _) (b : j = 0 → _) => ⟨fun q => a (fun q2 => q (by rw [q2]; rfl)), fun q => b ((m_eq32 (by omega) (by decide)).mp q)⟩) (fun q2 => ?_) (fun q2 => ?_)
    · rw [pk_sub (Nat.le_of_lt iL), m_rem (by omega) (by omega) (by omega)]
      exact ⟨nI_ne0 (by omega) (by omega), fin _ (Nat.mod_lt _ (by omega)) (by rw [if_neg q2])⟩
    · exact fin _ iL (by rw [if_pos q2])
def sgr (P Q : Po) : Bool := grb P (ms (mx (pm P 0) (pm Q 0)) (pm P 0)) || grb Q (ms (mx (pm P 0) (pm Q 0)) (pm Q 0))
def sro (o p : Nat) (P Q : Po) : Po := clean (addT o p Q ((p - iv p (pc Q 0)) % p) (ms (mx (pm P 0) (pm Q 0)) (pm Q 0)) (addT o p P (iv p (pc P 0)) (ms (mx (pm P 0) (pm Q 0)) (pm P 0)) []))
theorem sp_makeS {S : St} {P Q : Po} {p o k l : Nat} {K : Int32 → St → Prop} (hp : prm p = true) (ho4 : o < 4) (hk : k < 61) (hl : l < 61) (hP : PM S k P) (hQ : PM S l Q) (h1 : 0 < P.length) (h2 : 0 < Q.length) (gP : Cn o p P) (gQ : Cn o p Q) (h0 : S 224 0 = nI p) (h2' : S 224 2 = nI o)
    (hg : sgr P Q = true → ∀ S', fr9 [230, 231, 232, 233, 234] [20] S S' → K (-5) S') (h40 : sgr P Q = false → (sro o p P Q).length ≤ 40 → ∀ S', RM S' (sro o p P Q) → fr9 [230, 231, 232, 233, 234] [20] S S' → K 0 S') (h41 : sgr P Q = false → 40 < (sro o p P Q).length → ∀ S', fr9 [230, 231, 232, 233, 234] [20] S S' → K (-6) S') : w_X9_makeS (nI k) (nI l) S K := by
  have hb := prm_b hp
  have hPl := hP.2.1
  have hQl := hQ.2.1
  have lm30 := mle_mx (gP.2.2.2 _ (pc_mem h1)) (gQ.2.2.2 _ (pc_mem h2))
  have lm30 : mle 30 (mx (pm P 0) (pm Q 0)) := lm30
  unfold w_X9_makeS
  refine sp_leastOf hk hl hP hQ h1 h2 gP.2.2.2 gQ.2.2.2 (fun S1 hA f1 => ?_)
  intro S3 e3
  have f3 : fr9 [234] [20] S S3 := by rw [e3]; exact fr9_tr (fr9_mono f1 (by decide) (by decide)) (fr9_sf (by decide))
  have hR3 : RM S3 [] := ⟨by rw [e3, su_s]; rfl, by decide, fun t ht => by cases ht⟩
  have hA3 : MA S3 234 0 (mx (pm P 0) (pm Q 0)) := MA_eq hA (fun v _ => by rw [e3, su_n _ _ (Or.inl (by decide))])
  have pmf : ∀ {S'' : St} {cs : List Nat} {fs : List Nat} {j : Nat} {V : Po}, PM S j V → fr9 cs fs S S'' → (∀ c ∈ cs, 230 ≤ c) → PM S'' j V := fun hv f hc => PM_fr hv (f.1 225 (by decide) (fun z => by have := hc _ z; omega)) (f.1 226 (by decide) (fun z => by have := hc _ z; omega)) (f.1 227 (by decide) (fun z => by have := hc _ z; omega))
  refine ⟨3, ?_⟩
  rw [q_it_s]
  generalize hk2 : q_it (fun _ _ => False) (w_X9_makeS_13 (nI k) (nI l) K) 2 = k2
  unfold w_X9_makeS_13
  refine ⟨fun q => absurd q (by decide), fun _ => ⟨fun q => absurd rfl q, fun _ => ?_⟩⟩
  refine mS_step (j := 0) (L := []) hp ho4 hk (pmf hP f3 (by decide)) h1 gP (by decide) ((f3.2 0 (by decide)).trans h0) ((f3.2 2 (by decide)).trans h2') hA3 lm30 (fun v => by rw [ex_mx]; exact Nat.le_max_left _ _) hR3 (by decide) (fun _ z => by cases z) (fun _ z => by cases z) (fun q S' f => ?_) (fun q S4 hR4 f4 => ?_)
  · exact hg (by unfold sgr; rw [grb_iff.mpr q]; rfl) S' (fr9_tr (fr9_mono f3 (by decide) (by decide)) (fr9_mono f (by decide) (by decide)))
  · rw [if_pos rfl] at hR4
    subst hk2
    rw [q_it_s]
    generalize hk3 : q_it (fun _ _ => False) (w_X9_makeS_13 (nI k) (nI l) K) 1 = k3
    unfold w_X9_makeS_13
    have fS : fr9 [230, 231, 232, 233, 234] [20] S S4 := fr9_tr (fr9_mono f3 (by decide) (by decide)) (fr9_mono f4 (by decide) (by decide))
    refine ⟨fun q => absurd q (by decide), fun _ => ⟨fun _ => ?_, fun q => absurd q (by decide)⟩⟩
    have len4 := addT_len (o := o) (p := p) (B := P) (k := iv p (pc P 0)) (y := ms (mx (pm P 0) (pm Q 0)) (pm P 0)) (L := [])
    simp only [List.length_nil] at len4
    have l4 := addT_Lp (o := o) (B := P) (k := iv p (pc P 0)) (y := ms (mx (pm P 0) (pm Q 0)) (pm P 0)) (L := []) (show 0 < p by omega) (fun _ z => by cases z)
    have t4 := addT_L30 (o := o) (p := p) (k := iv p (pc P 0)) (L := []) q (fun _ z => by cases z)
    refine mS_step (j := 1) hp ho4 hl (pmf hQ fS (by decide)) h2 gQ (by decide) ((fS.2 0 (by decide)).trans h0) ((fS.2 2 (by decide)).trans h2') (MA_eq hA3 (fun v _ => by rw [f4.1 234 (by decide) (by decide)])) lm30 (fun v => by rw [ex_mx]; exact Nat.le_max_right _ _) hR4 (by omega) t4 l4 (fun q2 S' f => ?_) (fun q2 S5 hR5 f5 => ?_)
    · exact hg (by unfold sgr; rw [grb_iff.mpr q2, Bool.or_true]) S' (fr9_tr fS (fr9_mono f (by decide) (by decide)))
    · rw [if_neg (by decide)] at hR5
      subst hk3
      rw [q_it_s]
      unfold w_X9_makeS_13
      refine ⟨fun _ => ?_, fun q => absurd (show (2 : Int32) ≤ nI (1 + 1) by decide) q⟩
      have l5 := addT_Lp (o := o) (B := Q) (k := (p - iv p (pc Q 0)) % p) (y := ms (mx (pm P 0) (pm Q 0)) (pm Q 0)) (show 0 < p by omega) l4
      have ns : sgr P Q = false := by
        unfold sgr
        rw [Bool.or_eq_false_iff]
        exact ⟨Bool.eq_false_iff.mpr (fun z => q (grb_iff.mp z)), Bool.eq_false_iff.mpr (fun z => q2 (grb_iff.mp z))⟩
      refine sp_clean hR5 (Or.inl (fun t ht => by have := l5 t ht; omega)) (fun S6 hR6 f6 => ?_)
      have f16 : fr9 [230, 231, 232, 233, 234] [20] S S6 := fr9_tr fS (fr9_tr (fr9_mono f5 (by decide) (by decide)) (fr9_mono f6 (by decide) (by decide)))
      have hR6 : RM S6 (sro o p P Q) := hR6
      rw [hR6.1]
      have hl6 := hR6.2.1
      exact pk_le _ 40 (fun z => h40 ns z S6 hR6 f16) (fun z => h41 ns z S6 f16)
theorem PM_pos {S : St} {k : Nat} {P : Po} (h : PM S k P) : (S 225 k = 0 ↔ P.length = 0) := by
  have := h.2.1
  rw [h.1]
  exact m_eq32 (by omega) (by decide)
section OPS
variable {N : Nat → Nat} {T : Nat → Option Po} {R : Nat → Nat × Nat} {S : St} {K : Int32 → St → Prop}
def f_spair (N : Nat → Nat) (T : Nat → Option Po) (R : Nat → Nat × Nat) (x y : Int32) : Int32 × (Nat → Nat) × (Nat → Option Po) × (Nat → Nat × Nat) :=
  match plc N T x with
  | none => (-2, N, T, R)
  | some i => match plc N T y with
    | none => (-2, N, T, R)
    | some j => if (gt T i).length = 0 then (-2, N, T, R) else if (gt T j).length = 0 then (-2, N, T, R) else if fre T = 25 then (-4, N, T, R) else if sgr (gt T i) (gt T j) = true then (-5, N, T, R) else shv N T R (sro (N 2) (N 0) (gt T i) (gt T j))
theorem m_spair {x y : Int32} (w : WF N T R) (h : M9 N T R S) (hK : D9 (f_spair N T R x y) S K) : w_X9_spair x y S K := by
  have hb := prm_b w.1
  have fl := fre_le (T := T)
  unfold w_X9_spair w_X9_spair_41
  unfold f_spair at hK
  refine sp_placeOf w h (fun i P e hi hT g => ?_) (fun e => ?_)
  · rw [e] at hK
    refine sp_placeOf w h (fun j Q e' hj hT' g' => ?_) (fun e' => ?_)
    · rw [e'] at hK
      simp only [gt_s hT, gt_s hT'] at hK
      refine ⟨fun q => absurd q (m_loop_ok (by omega)).2, fun _ => ⟨fun q => absurd q (m_loop_ok (by omega)).2, fun _ => ?_⟩⟩
      have hP := h.2.1 i P hi hT
      have hQ := h.2.1 j Q hj hT'
      rw [m_rf (by omega), m_rf (by omega), PM_pos hP, PM_pos hQ]
      refine ⟨vp_in_nI (by omega) (by decide), fun q => by rw [if_pos q] at hK; exact hK S h lo_rf, fun q1 => ⟨vp_in_nI (by omega) (by decide), fun q2 => ?_, fun q => by rw [if_neg q1, if_pos q] at hK; exact hK S h lo_rf⟩⟩
      rw [if_neg q1, if_neg q2] at hK
      refine sp_free h ?_
      refine ⟨fun q => ?_, fun q => ?_⟩
      · have q' : fre T ≠ 25 := fun z => q (by rw [z]; rfl)
        rw [if_neg q'] at hK
        refine sp_makeS w.1 w.2.2.1 (by omega) (by omega) hP hQ (by omega) (by omega) g.1 g'.1 (h.1 0 (by decide)) (h.1 2 (by decide)) (fun sg S1 f1 => ?_) (fun sg l40 S1 hR f1 => ?_) (fun sg l40 S1 f1 => ?_)
        · rw [if_pos sg] at hK
          exact ⟨fun z => absurd z (by decide), fun _ => hK S1 (M9_fr h f1 (by decide) (by decide)) (lo_fr f1 (by decide))⟩
        · rw [sg, if_neg (by decide)] at hK
          refine ⟨fun _ => ?_, fun z => absurd (show (0 : Int32) ≤ 0 by decide) z⟩
          have lp : Lp (N 0) (sro (N 2) (N 0) P Q) := clean_Lp (addT_Lp (by omega) (addT_Lp (by omega) (fun _ z => by cases z)))
          have lz : Lz (sro (N 2) (N 0) P Q) := clean_Lz
          refine sp_shelve w (M9_fr h f1 (by decide) (by decide)) q' hR lp (fun S4 h4 l4 => ?_)
          rw [clean_id lz] at h4 ⊢
          exact hK S4 h4 (lo_tr (lo_fr f1 (by decide)) l4)
        · rw [sg, if_neg (by decide)] at hK
          unfold shv at hK
          rw [if_neg (by omega)] at hK
          exact ⟨fun z => absurd z (by decide), fun _ => hK S1 (M9_fr h f1 (by decide) (by decide)) (lo_fr f1 (by decide))⟩
      · have q' : fre T = 25 := (m_eq32 (by omega) (by decide)).mp q
        rw [if_pos q'] at hK
        exact hK S h lo_rf
    · rw [e'] at hK
      exact ⟨fun q => absurd q (m_loop_ok (by omega)).2, fun _ => ⟨fun _ => hK S h lo_rf, fun q => absurd (show (-2 : Int32) < 0 by decide) q⟩⟩
  · rw [e] at hK
    have : ∀ r S1, S1 = S → (((-2 : Int32) < 0 → K (-2) S1) ∧ (¬ ((-2 : Int32) < 0) → r)) := fun r S1 e1 => ⟨fun _ => by rw [e1]; exact hK S h lo_rf, fun q => absurd (show (-2 : Int32) < 0 by decide) q⟩
    exact sp_placeOf w h (fun _ _ _ _ _ _ => this _ _ rfl) (fun _ => this _ _ rfl)
end OPS
