/-! the reference: heads that are 1, of one variable; what stands; laying one down in its order -/
section OPS
variable {N : Nat → Nat} {T : Nat → Option Po} {R : Nat → Nat × Nat} {S : St}
theorem one_iff {m : Mo} : dv m m1 ↔ sE m 4 = 0 := by
  have e : sE m 4 = 0 + m.1 + m.2.1 + m.2.2.1 + m.2.2.2 := rfl
  rw [e]
  unfold dv m1
  simp only
  omega
theorem sp_isOne {S0 : St} {cs fs : List Nat} {i : Nat} {K : Int32 → St → Prop} (w : WF N T R) (h0 : M9 N T R S0) (f0 : fr9 cs fs S0 S) (hc : ∀ c ∈ cs, 230 ≤ c) (hi : i < N 6) (h1 : dvb (hdm T i) m1 = true → K 1 S) (hn : dvb (hdm T i) m1 = false → K 0 S) : w_X9_isOne (nI i) S K := by
  have w6 : N 6 ≤ 18 := w.2.2.2.2.2.2.2.1
  obtain ⟨_, ai⟩ := hd_at w h0 f0 hc hi
  have mi := (hd_ok w hi).2.2.2.2.1
  have loop : ∀ (d v : Nat), v + d = 4 → q_it (fun _ _ _ => False) (w_X9_isOne_4 (nI i) K) (d + 1) (nI (sE (hdm T i) v)) (nI v) S := by
    intro d
    induction d with
    | zero =>
      intro v hv
      have b := sE_le mi 4
      rw [q_it_s]
      unfold w_X9_isOne_4
      rw [show v = 4 by omega]
      refine pk_le 4 4 (fun _ => ?_) (fun q => by omega)
      refine pk_eq' (j := 0) (by omega) (by decide) (fun q => hn ?_) (fun q => h1 (dvb_iff.mpr (one_iff.mpr q)))
      exact Bool.eq_false_iff.mpr (fun z => q (one_iff.mp (dvb_iff.mp z)))
    | succ d ih =>
      intro v hv
      rw [q_it_s]
      generalize q_it (fun _ _ _ => False) (w_X9_isOne_4 (nI i) K) (d + 1) = k2 at ih ⊢
      unfold w_X9_isOne_4
      refine pk_le 4 v (fun q => by omega) (fun _ => ?_)
      rw [m_lit 25, nI_add, mul160, nI_add, m_rf (by omega), ai v (by omega), nI_add]
      refine ⟨vp_in_nI (by omega) (by decide), ?_⟩
      intro x2 e2 x3 e3
      rw [m_lit 1, nI_add] at e3
      subst e2; subst e3
      exact ih (v + 1) (by omega)
  unfold w_X9_isOne
  exact ⟨5, loop 4 0 (by omega)⟩
def oS (m : Mo) (v : Nat) : Nat → Nat
  | 0 => 0
  | w + 1 => oS m v w + (if w = v then 0 else ex m w)
theorem oS_le {m : Mo} (h : mle 30 m) (v : Nat) : ∀ w, oS m v w ≤ 30 * w
  | 0 => Nat.le_refl _
  | w + 1 => by
    have := oS_le h v w
    have := ex_le h w
    unfold oS
    split <;> omega
def al (T : Nat → Option Po) (v : Nat) : Nat → Nat
  | 0 => 31
  | i + 1 => if oS (hdm T i) v 4 = 0 ∧ ex (hdm T i) v < al T v i then ex (hdm T i) v else al T v i
theorem al_le (v : Nat) : ∀ i, al T v i ≤ 31
  | 0 => Nat.le_refl _
  | i + 1 => by
    have := al_le v i
    unfold al
    split <;> omega
theorem sp_alone {S0 : St} {cs fs : List Nat} {v : Nat} {K : Int32 → St → Prop} (w : WF N T R) (h0 : M9 N T R S0) (f0 : fr9 cs fs S0 S) (hc : ∀ c ∈ cs, 230 ≤ c) (h6 : 6 ∉ fs) (hv : v < 4) (hK : K (nI (al T v (N 6))) S) : w_X9_alone (nI v) S K := by
  have w6 : N 6 ≤ 18 := w.2.2.2.2.2.2.2.1
  have s6 : S 224 6 = nI (N 6) := by rw [f0.2 6 h6]; exact h0.1 6 (by decide)
  have loop : ∀ (d i : Nat), i + d = N 6 → q_it (fun _ _ _ => False) (w_X9_alone_5 (nI v) K) (d + 1) (nI (al T v i)) (nI i) S := by
    intro d
    induction d with
    | zero =>
      intro i hi
      rw [q_it_s]
      unfold w_X9_alone_5
      rw [s6]
      refine pk_le (N 6) i (fun _ => ?_) (fun q => by omega)
      rw [show i = N 6 by omega]
      exact hK
    | succ d ih =>
      intro i hi
      have hil : i < N 6 := by omega
      obtain ⟨_, ai⟩ := hd_at w h0 f0 hc hil
      have mi := (hd_ok w hil).2.2.2.2.1
      rw [q_it_s]
      generalize q_it (fun _ _ _ => False) (w_X9_alone_5 (nI v) K) (d + 1) = k2 at ih ⊢
      unfold w_X9_alone_5
      rw [s6]
      refine pk_le (N 6) i (fun q => by omega) (fun _ => ?_)
      intro x4 e4
      rw [m_lit 25, nI_add, mul160] at e4
      subst e4
      have go := ih (i + 1) (by omega)
      have ea : al T v (i + 1) = if oS (hdm T i) v 4 = 0 ∧ ex (hdm T i) v < al T v i then ex (hdm T i) v else al T v i := rfl
      have ale := al_le (T := T) v i
      have exl := ex_le mi v
      have inner : ∀ (d u : Nat), u + d = 4 → q_it (fun _ _ _ => False) (w_X9_alone_29 (nI v) K k2 (nI (al T v i)) (nI i) (nI (160 * (25 + i)))) (d + 1) (nI (oS (hdm T i) v u)) (nI u) S := by
        intro d
        induction d with
        | zero =>
          intro u hu
          have b := oS_le mi v 4
          rw [q_it_s]
          unfold w_X9_alone_29 w_X9_alone_96 w_X9_alone_97
          rw [show u = 4 by omega]
          refine pk_le 4 4 (fun _ => ?_) (fun q => by omega)
          have keep : al T v (i + 1) = al T v i → ∀ x3 : Int32, x3 = nI i + 1 → k2 (nI (al T v i)) x3 S := fun q x3 e3 => by
            rw [m_lit 1, nI_add] at e3
            rw [q] at go
            subst e3
            exact go
          refine pk_eq' (j := 0) (by omega) (by decide) (fun q => keep (by rw [ea, if_neg (fun z => q z.1)])) (fun q => ?_)
          rw [nI_add, m_rf (by omega), ai v hv]
          refine ⟨vp_in_nI (by omega) (by decide), pk_le (al T v i) (ex (hdm T i) v) (fun q2 => keep (by rw [ea, if_neg (fun z => by omega)])) (fun q2 => ?_)⟩
          rw [if_pos ⟨q, q2⟩] at ea
          intro x3 e3
          rw [m_lit 1, nI_add] at e3
          rw [ea] at go
          subst e3
          exact go
        | succ d ih2 =>
          intro u hu
          rw [q_it_s]
          generalize q_it (fun _ _ _ => False) (w_X9_alone_29 (nI v) K k2 (nI (al T v i)) (nI i) (nI (160 * (25 + i)))) (d + 1) = k3 at ih2 ⊢
          unfold w_X9_alone_29 w_X9_alone_57
          refine pk_le 4 u (fun q => by omega) (fun _ => ?_)
          have go2 := ih2 (u + 1) (by omega)
          have eo : oS (hdm T i) v (u + 1) = oS (hdm T i) v u + (if u = v then 0 else ex (hdm T i) u) := rfl
          refine pk_eq' (by omega) (by omega) (fun q => ?_) (fun q => ?_)
          · rw [if_neg q] at eo
            rw [nI_add, m_rf (by omega), ai u (by omega), nI_add, ← eo]
            refine ⟨vp_in_nI (by omega) (by decide), ?_⟩
            intro x5 e5 x6 e6
            rw [m_lit 1, nI_add] at e6
            subst e5; subst e6
            exact go2
          · rw [if_pos q] at eo
            intro x5 e5 x6 e6
            rw [m_lit 0, nI_add, ← eo] at e5
            rw [m_lit 1, nI_add] at e6
            subst e5; subst e6
            exact go2
      exact ⟨5, inner 4 0 (by omega)⟩
  unfold w_X9_alone
  exact ⟨N 6 + 1, loop (N 6) 0 (by omega)⟩
def stb (N : Nat → Nat) (T : Nat → Option Po) (m : Mo) : Bool := (List.range (N 6)).all (fun k => !dvb (hdm T k) m)
theorem sp_doesStand {S0 : St} {cs fs : List Nat} {m : Mo} {K : Int32 → St → Prop} (w : WF N T R) (h0 : M9 N T R S0) (f0 : fr9 cs fs S0 S) (hc : ∀ c ∈ cs, 230 ≤ c) (h6 : 6 ∉ fs) (hm : MA S 232 0 m) (m31 : mle 31 m) (h1 : stb N T m = true → K 1 S) (hn : stb N T m = false → K 0 S) : w_X9_doesStand S K := by
  have w6 : N 6 ≤ 18 := w.2.2.2.2.2.2.2.1
  have s6 : S 224 6 = nI (N 6) := by rw [f0.2 6 h6]; exact h0.1 6 (by decide)
  have loop : ∀ (d i : Nat), i + d = N 6 → (∀ u, u < i → dvb (hdm T u) m = false) → q_it (fun _ _ => False) (w_X9_doesStand_2 K) (d + 1) (nI i) S := by
    intro d
    induction d with
    | zero =>
      intro i hi hu
      rw [q_it_s]
      unfold w_X9_doesStand_2
      rw [s6]
      refine pk_le (N 6) i (fun _ => h1 ?_) (fun q => by omega)
      unfold stb
      rw [List.all_eq_true]
      intro u hu2
      rw [List.mem_range] at hu2
      rw [hu u (by omega)]
      rfl
    | succ d ih =>
      intro i hi hu
      have hil : i < N 6 := by omega
      obtain ⟨_, ai⟩ := hd_at w h0 f0 hc hil
      have mi := (hd_ok w hil).2.2.2.2.1
      rw [q_it_s]
      generalize q_it (fun _ _ => False) (w_X9_doesStand_2 K) (d + 1) = k2 at ih ⊢
      unfold w_X9_doesStand_2
      rw [s6]
      refine pk_le (N 6) i (fun q => by omega) (fun _ => ?_)
      rw [m_lit 25, nI_add, mul160]
      refine sp_divides9 (j := 0) ai hm (mle_mono mi (by omega)) m31 (by rw [al_227]; omega) (by decide) (by rw [al_227]; decide) (by decide) (fun q => ⟨fun z => absurd z (by decide), fun _ => hn ?_⟩) (fun q => ⟨fun _ => ?_, fun z => absurd rfl z⟩)
      · unfold stb
        rw [List.all_eq_false]
        exact ⟨i, List.mem_range.mpr hil, by rw [dvb_iff.mpr q]; decide⟩
      · intro x1 e1
        rw [m_lit 1, nI_add] at e1
        subst e1
        refine ih (i + 1) (by omega) (fun u hu2 => ?_)
        by_cases q2 : u = i
        · rw [q2]; exact Bool.eq_false_iff.mpr (fun z => q (dvb_iff.mp z))
        · exact hu u (by omega)
  unfold w_X9_doesStand
  exact ⟨N 6 + 1, loop (N 6) 0 (by omega) (fun u hu => by omega)⟩
/-- where one comes, seen from behind -/
def bk (o : Nat) (m : Mo) (A : Po) : Nat → Nat
  | 0 => 0
  | k + 1 => if mk o m < mk o (pm A k) then bk o m A k else k + 1
theorem bk_le {o : Nat} {m : Mo} {A : Po} : ∀ k, bk o m A k ≤ k
  | 0 => Nat.le_refl _
  | k + 1 => by
    have := bk_le (o := o) (m := m) (A := A) k
    unfold bk
    split <;> omega
def inS (o : Nat) (m : Mo) (A : Po) : Po := A.take (bk o m A A.length) ++ (0, m) :: A.drop (bk o m A A.length)
/-- those that stand lie so -/
def SA (S : St) (A : Po) : Prop := S 224 35 = nI A.length ∧ A.length ≤ 300 ∧ ∀ t, t < A.length → MA S 240 (4 * t) (pm A t)
theorem SA_fr {S S' : St} {A : Po} (h : SA S A) (h0 : S' 224 35 = S 224 35) (h1 : S' 240 = S 240) : SA S' A := ⟨by rw [h0]; exact h.1, h.2.1, fun t ht => MA_eq (h.2.2 t ht) (fun v _ => by rw [h1])⟩
theorem inS_len {o : Nat} {m : Mo} {A : Po} : (inS o m A).length = A.length + 1 := by
  have := bk_le (o := o) (m := m) (A := A) A.length
  unfold inS
  rw [List.length_append, List.length_cons, List.length_take, List.length_drop]
  omega
theorem sp_layStanding {o : Nat} {m : Mo} {A : Po} {K : Unit → St → Prop} (ho : S 224 2 = nI o) (ho4 : o < 4) (hA : SA S A) (h300 : A.length < 300) (a31 : ∀ t ∈ A, mle 31 t.2) (hm : MA S 232 0 m) (m31 : mle 31 m) (hK : ∀ S', SA S' (inS o m A) → fr9 [240] [35] S S' → K () S') : w_X9_layStanding S K := by
  have a240 : alen 240 = 1204 := by decide +kernel
  unfold w_X9_layStanding
  intro x1 e1
  rw [hA.1] at e1
  subst e1
  have lay : ∀ (k : Nat) (S' : St), k = bk o m A A.length → fr9 [240] [] S S' → (∀ t, t < k → MA S' 240 (4 * t) (pm A t)) → (∀ t, k ≤ t → t < A.length → MA S' 240 (4 * (t + 1)) (pm A t)) → w_X9_layStanding_71 K (nI k) S' := by
    intro k S' ek f hl hr
    have kl := bk_le (o := o) (m := m) (A := A) A.length
    have hmm : MA S' 232 0 m := MA_eq hm (fun v _ => by rw [f.1 232 (by decide) (by decide)])
    unfold w_X9_layStanding_71
    refine loop4 (S := S') (a := 240) (i := 4 * k) (g := fun v => nI (ex m v)) ?_ ?_
    · intro v kk hv hkk
      unfold w_X9_layStanding_73
      refine pk_le 4 v (fun q => by omega) (fun _ => ?_)
      have e2 := hmm v hv
      rw [Nat.zero_add] at e2
      rw [mul4, nI_add, m_rf (by omega), m_rf (by omega), w4_n _ _ _ _ _ (Or.inl (by decide)), e2, w4_s (g := fun v => nI (ex m v))]
      refine ⟨vp_in_nI hv (by decide), vp_in_nI (by omega) (by decide), ?_⟩
      intro S5 e5 x2 e6
      rw [m_lit 1, nI_add] at e6
      subst e5; subst e6
      exact hkk
    · intro kk
      unfold w_X9_layStanding_73
      refine pk_le 4 4 (fun _ => ?_) (fun q => by omega)
      intro S2 e2
      have fw : fr9 [240] [] S (w4 S' 240 (4 * k) (fun v => nI (ex m v)) 4) := fr9_tr f (fr9_w4 (by decide) (by decide))
      rw [fw.2 35 (by decide), hA.1, m_lit 1, nI_add] at e2
      refine hK S2 ⟨by rw [e2, su_s, inS_len], by rw [inS_len]; omega, fun t ht => ?_⟩ (fr9_tr (fr9_mono fw (by decide) (by decide)) (by rw [e2]; exact fr9_sf (by decide)))
      rw [inS_len] at ht
      unfold inS
      rw [← ek]
      rw [pm_ins (by omega)]
      have s2 : ∀ j, S2 240 j = w4 S' 240 (4 * k) (fun v => nI (ex m v)) 4 240 j := fun j => by rw [e2, su_n _ _ (Or.inl (by decide))]
      split
      · exact MA_eq (hl t (by omega)) (fun v hv => by rw [s2, w4_n _ _ _ _ _ (Or.inr (Or.inl (by omega)))])
      · split
        · rename_i q
          rw [q]
          exact fun v hv => by rw [s2, w4_at _ _ _ _ hv]
        · have g := hr (t - 1) (by omega) (by omega)
          rw [show t - 1 + 1 = t by omega] at g
          exact MA_eq g (fun v hv => by rw [s2, w4_n _ _ _ _ _ (Or.inr (Or.inr (by omega)))])
  have loop : ∀ (k : Nat) (S' : St), k ≤ A.length → bk o m A k = bk o m A A.length → fr9 [240] [] S S' → (∀ t, t < k → MA S' 240 (4 * t) (pm A t)) → (∀ t, k ≤ t → t < A.length → MA S' 240 (4 * (t + 1)) (pm A t)) → q_it (fun _ _ => False) (w_X9_layStanding_5 K) (k + 1) (nI k) S' := by
    intro k
    induction k with
    | zero =>
      intro S' hk eb f hl hr
      rw [q_it_s]
      unfold w_X9_layStanding_5
      exact ⟨fun _ => lay 0 S' eb f hl hr, fun z => absurd (show (0 : Int32) ≤ 0 by decide) z⟩
    | succ k ih =>
      intro S' hk eb f hl hr
      rw [q_it_s]
      generalize q_it (fun _ _ => False) (w_X9_layStanding_5 K) (k + 1) = k2 at ih ⊢
      unfold w_X9_layStanding_5
      refine pk_le (k + 1) 0 (fun q => by omega) (fun _ => ?_)
      have hkl : k < A.length := by omega
      have hmm : MA S' 232 0 m := MA_eq hm (fun v _ => by rw [f.1 232 (by decide) (by decide)])
      have ak : mle 31 (pm A k) := a31 _ (pc_mem hkl)
      have e4 : (4 * nI (k + 1) - 4 : Int32) = nI (4 * k) := by
        rw [mul4]
        have : (nI (4 * (k + 1)) - 4 : Int32) = nI (4 * (k + 1) - 4) := pk_sub (b := 4) (by omega)
        rw [this, show 4 * (k + 1) - 4 = 4 * k by omega]
      rw [e4]
      have stop : ¬ mk o m < mk o (pm A k) → w_X9_layStanding_71 K (nI (k + 1)) S' := fun q => by
        refine lay (k + 1) S' ?_ f hl hr
        rw [← eb]
        conv => rhs; unfold bk
        rw [if_neg q]
      refine sp_stand (o := o) (j := 0) ((f.2 2 (by decide)).trans ho) ho4 (hl k (by omega)) hmm ak m31 (by rw [a240]; omega) (by decide) (by rw [a240]; decide) (by decide) (fun q => ⟨fun _ => stop (by omega), fun z => absurd (show (-1 : Int32) ≤ 0 by decide) z⟩) (fun q => ⟨fun _ => stop (by rw [q]; omega), fun z => absurd (show (0 : Int32) ≤ 0 by decide) z⟩) (fun q => ⟨fun z => absurd z (by decide), fun _ => ?_⟩)
      have ebk : bk o m A k = bk o m A A.length := by
        rw [← eb]
        conv => rhs; unfold bk
        rw [if_pos q]
      refine loop4 (S := S') (a := 240) (i := 4 * (k + 1)) (g := fun v => nI (ex (pm A k) v)) ?_ ?_
      · intro v kk hv hkk
        unfold w_X9_layStanding_32
        refine pk_le 4 v (fun q => by omega) (fun _ => ?_)
        rw [e4, mul4, nI_add, nI_add, m_rf (by omega), m_rf (by omega), w4_n _ _ _ _ _ (Or.inr (Or.inl (by omega))), hl k (by omega) v hv, w4_s (g := fun v => nI (ex (pm A k) v))]
        refine ⟨vp_in_nI (by omega) (by decide), vp_in_nI (by omega) (by decide), ?_⟩
        intro S5 e5 x2 e6
        rw [m_lit 1, nI_add] at e6
        subst e5; subst e6
        exact hkk
      · intro kk
        unfold w_X9_layStanding_32
        refine pk_le 4 4 (fun _ => ?_) (fun q => by omega)
        intro x1 e1
        rw [pk_m1] at e1
        subst e1
        refine ih _ (by omega) ebk (fr9_tr f (fr9_w4 (by decide) (by decide))) (fun t ht => MA_eq (hl t (by omega)) (fun v hv => w4_n _ _ _ _ _ (Or.inr (Or.inl (by omega))))) (fun t h1 h2 => ?_)
        by_cases q2 : t = k
        · rw [q2]; exact fun v hv => w4_at _ _ _ _ hv
        · exact MA_eq (hr t (by omega) h2) (fun v hv => w4_n _ _ _ _ _ (Or.inr (Or.inr (by omega))))
  exact ⟨A.length + 1, loop A.length S (Nat.le_refl _) rfl fr9_rf hA.2.2 (fun t h1 h2 => by omega)⟩
end OPS
