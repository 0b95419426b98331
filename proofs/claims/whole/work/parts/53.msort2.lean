/-! the reference: sort -/
section OPS
variable {N : Nat → Nat} {T : Nat → Option Po} {R : Nat → Nat × Nat} {S : St}
def SO (T : Nat → Option Po) (A : Po) (S : St) : Prop := S 224 34 = nI A.length ∧ ∀ t, t < A.length → PM S (43 + t) (gt T (25 + pc A t))
theorem hd_m9 (w : WF N T R) (h : M9 N T R S) {i : Nat} (hi : i < N 6) : PM S (25 + i) (gt T (25 + i)) ∧ MA S 227 (160 * (25 + i)) (hdm T i) := hd_at (cs := []) (fs := []) w h fr9_rf (fun _ z => nomatch z) hi
theorem sp_sort {K : Unit → St → Prop} (w : WF N T R) (h : M9 N T R S) (hK : ∀ S', M9 N T R S' → SO T (srtF N T (N 6)) S' → fr9 [225, 226, 227, 230, 231] [20, 34] S S' → K () S') : w_X9_sort S K := by
  have w6 : N 6 ≤ 18 := w.2.2.2.2.2.2.2.1
  have hb := prm_b w.1
  unfold w_X9_sort
  intro S1 e1
  have f1 : fr9 [225, 226, 227, 230, 231] [20, 34] S S1 := by rw [e1]; exact fr9_sf (by decide)
  have h1 : M9 N T R S1 := M9_fr (cs := []) (fs := [34]) h (by rw [e1]; exact fr9_sf (by decide)) (fun _ z => nomatch z) (by decide)
  have outer : ∀ (d i : Nat) (S' : St), i + d = N 6 → M9 N T R S' → SO T (srtF N T i) S' → fr9 [225, 226, 227, 230, 231] [20, 34] S S' → q_it (fun _ _ => False) (w_X9_sort_7 K) (d + 1) (nI i) S' := by
    intro d
    induction d with
    | zero =>
      intro i S' hi h' so f
      rw [q_it_s]
      unfold w_X9_sort_7
      rw [h'.1 6 (by decide)]
      refine pk_le (N 6) i (fun _ => ?_) (fun q => by omega)
      rw [show i = N 6 by omega] at so
      exact hK S' h' so f
    | succ d ih =>
      intro i S' hi h' so f
      have hil : i < N 6 := by omega
      rw [q_it_s]
      generalize q_it (fun _ _ => False) (w_X9_sort_7 K) (d + 1) = k2 at ih ⊢
      unfold w_X9_sort_7
      rw [h'.1 6 (by decide)]
      refine pk_le (N 6) i (fun q => by omega) (fun _ => ?_)
      have es : srtF N T (i + 1) = if gone N T i = true then srtF N T i else inI (N 2) i (hdm T i) (srtF N T i) := rfl
      refine sp_isGone w (fun j hj => (hd_m9 w h' hj).2) (h'.1 6 (by decide)) hil (fun q => ⟨fun _ => ?_, fun z => absurd z (by decide)⟩) (fun q => ⟨fun z => absurd rfl z, fun _ => ?_⟩)
      · unfold w_X9_sort_107
        intro x1 e2
        rw [m_lit 1, nI_add] at e2
        subst e2
        rw [if_pos q] at es
        exact ih (i + 1) S' (by omega) h' (by rw [es]; exact so) f
      · rw [if_neg (by rw [q]; decide)] at es
        have al18 := srtF_len (N := N) (T := T) i
        have amem := fun t => srtF_mem (N := N) (T := T) (i := i) (t := t)
        generalize hA : srtF N T i = A at *
        intro x2 e2
        rw [so.1] at e2
        subst e2
        obtain ⟨_, gi, li, _, mi, _⟩ := hd_ok w hil
        have lay : ∀ (k : Nat) (S2 : St), k = bk (N 2) (hdm T i) A A.length → M9 N T R S2 → S2 224 34 = nI A.length → (∀ t, t < k → PM S2 (43 + t) (gt T (25 + pc A t))) → (∀ t, k ≤ t → t < A.length → PM S2 (43 + (t + 1)) (gt T (25 + pc A t))) → fr9 [225, 226, 227, 230, 231] [20, 34] S S2 → w_X9_sort_85 K k2 (nI i) (nI k) S2 := by
          intro k S2 ek h2 h34 hl hr f2
          have kl := bk_le (o := N 2) (m := hdm T i) (A := A) A.length
          unfold w_X9_sort_85 w_X9_sort_107
          rw [m_lit 25, m_lit 43, nI_add, nI_add]
          refine sp_copy hb (by omega) (by omega) (h2.1 0 (by decide)) (hd_m9 w h2 hil).1 gi.1.2.2.1 (fun S3 hP f3 hk3 => ?_)
          have h3 := M9_hi h2 hk3 (by omega) f3 (by decide) (by decide)
          intro S4 e4 x1 e5
          rw [f3.2 34 (by decide), h34, m_lit 1, nI_add] at e4
          rw [m_lit 1, nI_add] at e5
          subst e5
          have f4 : fr9 [] [34] S3 S4 := by rw [e4]; exact fr9_sf (by decide)
          refine ih (i + 1) S4 (by omega) (M9_fr h3 f4 (fun _ z => nomatch z) (by decide)) ?_ (fr9_tr f2 (fr9_tr (fr9_mono f3 (by decide) (by decide)) (fr9_mono f4 (fun _ z => nomatch z) (by decide))))
          rw [es]
          refine ⟨by rw [inI_len, e4, su_s], fun t ht => ?_⟩
          rw [inI_len] at ht
          have pf : ∀ {j : Nat} {P : Po}, PM S3 j P → PM S4 j P := fun hp => PM_fr hp (f4.1 225 (by decide) (fun z => nomatch z)) (f4.1 226 (by decide) (fun z => nomatch z)) (f4.1 227 (by decide) (fun z => nomatch z))
          have ep : pc (inI (N 2) i (hdm T i) A) t = if t < k then pc A t else if t = k then i else pc A (t - 1) := by
            unfold inI
            rw [← ek, pc_ins (by omega)]
          rw [ep]
          split
          · exact pf (PM_pkf hk3 (by omega) (hl t (by omega)))
          · split
            · rename_i q2
              rw [q2]
              exact pf hP
            · have g := hr (t - 1) (by omega) (by omega)
              rw [show t - 1 + 1 = t by omega] at g
              exact pf (PM_pkf hk3 (by omega) g)
        have loop : ∀ (k : Nat) (S2 : St), k ≤ A.length → bk (N 2) (hdm T i) A k = bk (N 2) (hdm T i) A A.length → M9 N T R S2 → S2 224 34 = nI A.length → (∀ t, t < k → PM S2 (43 + t) (gt T (25 + pc A t))) → (∀ t, k ≤ t → t < A.length → PM S2 (43 + (t + 1)) (gt T (25 + pc A t))) → fr9 [225, 226, 227, 230, 231] [20, 34] S S2 → q_it (fun _ _ => False) (w_X9_sort_28 K k2 (nI i)) (k + 1) (nI k) S2 := by
          intro k
          induction k with
          | zero =>
            intro S2 hk eb h2 h34 hl hr f2
            rw [q_it_s]
            unfold w_X9_sort_28
            exact ⟨fun _ => lay 0 S2 eb h2 h34 hl hr f2, fun z => absurd (show (0 : Int32) ≤ 0 by decide) z⟩
          | succ k ihk =>
            intro S2 hk eb h2 h34 hl hr f2
            rw [q_it_s]
            generalize q_it (fun _ _ => False) (w_X9_sort_28 K k2 (nI i)) (k + 1) = k3 at ihk ⊢
            unfold w_X9_sort_28
            refine pk_le (k + 1) 0 (fun q => by omega) (fun _ => ?_)
            have hkl : k < A.length := by omega
            have hm := amem _ (pc_mem hkl)
            have hm1 : pc A k < i := hm.1
            have hm2 : pm A k = hdm T (pc A k) := hm.2
            obtain ⟨_, gk, lk, _, mk', _⟩ := hd_ok w (show pc A k < N 6 by omega)
            have e43 : ((43 : Int32) + nI (k + 1)) - 1 = nI (43 + k) := by
              rw [m_lit 43, nI_add]
              have : (nI (43 + (k + 1)) - 1 : Int32) = nI (43 + (k + 1) - 1) := pk_sub (b := 1) (by omega)
              rw [this]
              rfl
            have hPk := hl k (by omega)
            have aK : MA S2 227 (160 * (43 + k)) (hdm T (pc A k)) := by
              have := (hPk.2.2 0 lk).2
              rw [Nat.mul_zero, Nat.add_zero] at this
              exact this
            rw [e43, m_lit 25, nI_add, mul160, mul160]
            have stop : ¬ mk (N 2) (hdm T i) < mk (N 2) (pm A k) → w_X9_sort_85 K k2 (nI i) (nI (k + 1)) S2 := fun q2 => by
              refine lay (k + 1) S2 ?_ h2 h34 hl hr f2
              rw [← eb]
              conv => rhs; unfold bk
              rw [if_neg q2]
            refine sp_stand (o := N 2) (h2.1 2 (by decide)) w.2.2.1 aK (hd_m9 w h2 hil).2 (mle_mono mk' (by omega)) (mle_mono mi (by omega)) (by rw [al_227]; omega) (by rw [al_227]; omega) (by rw [al_227]; decide) (by rw [al_227]; decide) (fun q2 => ⟨fun _ => stop (by rw [hm2]; omega), fun z => absurd (show (-1 : Int32) ≤ 0 by decide) z⟩) (fun q2 => ⟨fun _ => stop (by rw [hm2, q2]; omega), fun z => absurd (show (0 : Int32) ≤ 0 by decide) z⟩) (fun q2 => ⟨fun z => absurd z (by decide), fun _ => ?_⟩)
            have ebk : bk (N 2) (hdm T i) A k = bk (N 2) (hdm T i) A A.length := by
              rw [← eb]
              conv => rhs; unfold bk
              rw [if_pos (by rw [hm2]; exact q2)]
            have e44 : (43 : Int32) + nI (k + 1) = nI (43 + (k + 1)) := by rw [m_lit 43, nI_add]
            rw [e44]
            refine sp_copy hb (by omega) (by omega) (h2.1 0 (by decide)) hPk gk.1.2.2.1 (fun S3 hP f3 hk3 => ?_)
            intro x2 e5
            rw [pk_m1] at e5
            subst e5
            refine ihk S3 (by omega) ebk (M9_hi h2 hk3 (by omega) f3 (by decide) (by decide)) (by rw [f3.2 34 (by decide)]; exact h34) (fun t ht => PM_pkf hk3 (by omega) (hl t (by omega))) (fun t t1 t2 => ?_) (fr9_tr f2 (fr9_mono f3 (by decide) (by decide)))
            by_cases q3 : t = k
            · rw [q3]; exact hP
            · exact PM_pkf hk3 (by omega) (hr t (by omega) t2)
        exact ⟨A.length + 1, loop A.length S' (Nat.le_refl _) rfl h' so.1 (fun t ht => so.2 t ht) (fun t t1 t2 => by omega) f⟩
  exact ⟨N 6 + 1, outer (N 6) 0 S1 (by omega) h1 ⟨by rw [e1, su_s]; rfl, fun t ht => nomatch ht⟩ f1⟩
end OPS
