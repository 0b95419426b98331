/-! the reference's calls: product, derived, spair -/
section OPS
variable {N : Nat → Nat} {T : Nat → Option Po} {R : Nat → Nat × Nat} {S : St} {K : Int32 → St → Prop}
def grb (B : Po) (y : Mo) : Bool := B.any (fun t => decide (30 < t.2.1 + y.1 ∨ 30 < t.2.2.1 + y.2.1 ∨ 30 < t.2.2.2.1 + y.2.2.1 ∨ 30 < t.2.2.2.2 + y.2.2.2))
theorem grb_iff {B : Po} {y : Mo} : grb B y = true ↔ gr B y := by
  unfold grb gr
  rw [List.any_eq_true]
  refine exists_congr fun t => and_congr_right fun _ => ?_
  rw [decide_eq_true_iff]
  unfold mle mm
  simp only
  omega
/-- products so far -/
def prd (o p : Nat) (G F : Po) (L : Po) : Po := F.foldl (fun L t => addT o p G t.1 t.2 L) L
def f_product (N : Nat → Nat) (T : Nat → Option Po) (R : Nat → Nat × Nat) (x y : Int32) : Int32 × (Nat → Nat) × (Nat → Option Po) × (Nat → Nat × Nat) :=
  match plc N T x with
  | none => (-2, N, T, R)
  | some i => match plc N T y with
    | none => (-2, N, T, R)
    | some j => if fre T = 25 then (-4, N, T, R) else if (gt T i).any (fun t => grb (gt T j) t.2) then (-5, N, T, R) else shv N T R (clean (prd (N 2) (N 0) (gt T j) (gt T i) []))
theorem prd_snoc {o p t : Nat} {G F : Po} (h : t < F.length) : prd o p G (F.take (t + 1)) [] = addT o p G (pc F t) (pm F t) (prd o p G (F.take t) []) := by
  unfold prd
  rw [take_snoc h, List.foldl_append]
  rfl
theorem m_loop_ok {i : Nat} (h : i < 2 ^ 31) : (0 ≤ (nI i : Int32)) ∧ ¬ ((nI i : Int32) < 0) := by
  rw [Int32.le_iff_toInt_le, Int32.lt_iff_toInt_lt, Int32.toInt_zero, nI_toInt (by omega)]; omega
theorem any_take {F : Po} {q : Te → Bool} (h : F.any q = false) {t : Nat} (ht : t < F.length) : q (pc F t, pm F t) = false := by
  have := List.any_eq_false.mp h _ (pc_mem ht)
  simpa using this
theorem m_product {x y : Int32} (w : WF N T R) (h : M9 N T R S) (hK : D9 (f_product N T R x y) S K) : w_X9_product x y S K := by
  have hb := prm_b w.1
  have fl := fre_le (T := T)
  unfold w_X9_product w_X9_product_22
  unfold f_product at hK
  refine sp_placeOf w h (fun i P e hi hT g => ?_) (fun e => ?_)
  · rw [e] at hK
    refine sp_placeOf w h (fun j Q e' hj hT' g' => ?_) (fun e' => ?_)
    · rw [e'] at hK
      simp only [gt_s hT, gt_s hT'] at hK
      refine ⟨fun q => absurd q (m_loop_ok (by omega)).2, fun _ => ⟨fun _ => ?_, fun q => absurd (m_loop_ok (by omega)).1 q⟩⟩
      refine sp_free h ?_
      refine ⟨fun q => ?_, fun q => ?_⟩
      · have q' : fre T ≠ 25 := fun z => q (by rw [z]; rfl)
        rw [if_neg q'] at hK
        have hPl := g.2.1
        have hQl := g'.2.1
        have g30 := g.1.2.2.2
        have loop : ∀ (d t : Nat) (S' : St), t + d = P.length → (∀ u ∈ P.take t, ¬ gr Q u.2) → M9 N T R S' → RM S' (prd (N 2) (N 0) Q (P.take t) []) → (prd (N 2) (N 0) Q (P.take t) []).length ≤ 40 * t → L30 (prd (N 2) (N 0) Q (P.take t) []) → Lp (N 0) (prd (N 2) (N 0) Q (P.take t) []) → lo S S' →
            q_it (fun _ _ => False) (w_X9_product_49 x y K (nI i) (nI j) (nI (fre T))) (d + 1) (nI t) S' := by
          intro d
          induction d with
          | zero =>
            intro t S' ht hng hM hR hlen h30 hlp hl
            rw [q_it_s]
            unfold w_X9_product_49
            rw [m_rf (by omega), (hM.2.1 i P hi hT).1]
            refine ⟨vp_in_nI (by omega) (by decide), pk_le P.length t (fun _ => ?_) (fun q => by omega)⟩
            rw [List.take_of_length_le (by omega)] at hR hlp hng
            have na : P.any (fun t => grb Q t.2) = false := by
              rw [List.any_eq_false]
              intro u hu z
              exact hng u hu (grb_iff.mp z)
            rw [na, if_neg (by decide)] at hK
            exact sp_shelve w hM q' hR hlp (fun S4 h4 l4 => hK S4 h4 (lo_tr hl l4))
          | succ d ih =>
            intro t S' ht hng hM hR hlen h30 hlp hl
            rw [q_it_s]
            generalize q_it (fun _ _ => False) (w_X9_product_49 x y K (nI i) (nI j) (nI (fre T))) (d + 1) = k2 at ih ⊢
            unfold w_X9_product_49
            have hP := hM.2.1 i P hi hT
            rw [m_rf (by omega), hP.1]
            have htl : t < P.length := by omega
            have gt' := hP.2.2 t htl
            have m30 : mle 30 (pm P t) := g30 _ (pc_mem htl)
            have cp : pc P t < N 0 := g.1.2.2.1 _ (pc_mem htl)
            refine ⟨vp_in_nI (by omega) (by decide), pk_le P.length t (fun q => by omega) (fun _ => ?_)⟩
            refine loop4 (S := S') (a := 233) (i := 0) (g := fun v => nI (ex (pm P t) v)) ?_ ?_
            · intro v kk hv hkk
              unfold w_X9_product_63
              refine pk_le 4 v (fun q => by omega) (fun _ => ?_)
              rw [ix160, m_rf (by omega), m_rf (by omega), w4_n _ _ _ _ _ (Or.inl (by decide)), gt'.2 v hv]
              refine ⟨vp_in_nI (by omega) (by decide), vp_in_nI (by omega) (by decide), ?_⟩
              have e2 := w4_s S' 233 0 (fun v => nI (ex (pm P t) v)) v
              rw [Nat.zero_add] at e2
              intro S9 e9 x7 e7
              rw [e2] at e9
              rw [m_lit 1, nI_add] at e7
              subst e9; subst e7
              exact hkk
            · intro kk
              unfold w_X9_product_63
              refine pk_le 4 4 (fun _ => ?_) (fun q => by omega)
              have fw : fr9 [233] [] S' (w4 S' 233 0 (fun v => nI (ex (pm P t) v)) 4) := fr9_w4 (by decide) (by decide)
              have hMw := M9_fr hM fw (by decide) (by decide)
              rw [ix40, m_rf (by omega), fw.1 226 (by decide) (by decide), gt'.1]
              refine ⟨vp_in_nI (by omega) (by decide), ?_⟩
              refine sp_addTimes (p := N 0) (o := N 2) hb w.2.2.1 (by omega) g'.1.2.2.2 g'.1.2.2.1 cp (hMw.1 0 (by decide)) (hMw.1 2 (by decide)) (hMw.2.1 j Q hj hT') MA_w4 m30 (RM_fr hR (fw.2 20 (by decide)) (fw.1 230 (by decide) (by decide)) (fw.1 231 (by decide) (by decide))) (by omega) h30 hlp (fun q => ⟨fun z => absurd rfl z, fun _ => ?_⟩) (fun q S3 hR3 f3 => ⟨fun _ => ?_, fun z => absurd z (by decide)⟩)
              · have na : P.any (fun t => grb Q t.2) = true := List.any_eq_true.mpr ⟨_, pc_mem htl, grb_iff.mpr q⟩
                rw [na, if_pos rfl] at hK
                exact hK _ hMw (lo_tr hl (lo_fr fw (by decide)))
              · intro x6 e6
                rw [m_lit 1, nI_add] at e6
                subst e6
                rw [← prd_snoc htl] at hR3
                have len := addT_len (o := N 2) (p := N 0) (k := pc P t) (y := pm P t) (B := Q) (L := prd (N 2) (N 0) Q (P.take t) [])
                rw [← prd_snoc htl] at len
                have lp' := addT_Lp (o := N 2) (k := pc P t) (y := pm P t) (B := Q) (show 0 < N 0 by omega) hlp
                rw [← prd_snoc htl] at lp'
                have l3' := addT_L30 (o := N 2) (p := N 0) (k := pc P t) q h30
                rw [← prd_snoc htl] at l3'
                refine ih (t + 1) S3 (by omega) (fun u hu => ?_) (M9_fr hMw f3 (by decide) (by decide)) hR3 (by omega) l3' lp' (lo_tr hl (lo_tr (lo_fr fw (by decide)) (lo_fr f3 (by decide))))
                rw [take_snoc htl] at hu
                rcases List.mem_append.mp hu with z | z
                · exact hng u z
                · rw [List.mem_singleton.mp z]; exact q
        intro S10 e10
        have f10 : fr9 [] [20] S S10 := by rw [e10]; exact fr9_sf (by decide)
        refine ⟨P.length + 1, loop P.length 0 S10 (by omega) (fun u hu => by simp at hu) (M9_fr h f10 (by decide) (by decide)) (show RM S10 [] from ⟨by rw [e10, su_s]; rfl, by decide, fun t ht => by cases ht⟩) (by simp [prd]) (fun _ z => by cases z) (fun _ z => by cases z) (lo_fr f10 (by decide))⟩
      · have q' : fre T = 25 := (m_eq32 (by omega) (by decide)).mp q
        rw [if_pos q'] at hK
        exact hK S h lo_rf
    · rw [e'] at hK
      exact ⟨fun q => absurd q (m_loop_ok (by omega)).2, fun _ => ⟨fun q => absurd q (by decide), fun _ => hK S h lo_rf⟩⟩
  · rw [e] at hK
    have : ∀ r S1, S1 = S → (((-2 : Int32) < 0 → K (-2) S1) ∧ (¬ ((-2 : Int32) < 0) → r)) := fun r S1 e1 => ⟨fun _ => by rw [e1]; exact hK S h lo_rf, fun q => absurd (show (-2 : Int32) < 0 by decide) q⟩
    exact sp_placeOf w h (fun _ _ _ _ _ _ => this _ _ rfl) (fun _ => this _ _ rfl)
/-- one less in a variable -/
def dm (v : Nat) (m : Mo) : Mo := (m.1 - (if v = 0 then 1 else 0), m.2.1 - (if v = 1 then 1 else 0), m.2.2.1 - (if v = 2 then 1 else 0), m.2.2.2 - (if v = 3 then 1 else 0))
theorem ex_dm {v u : Nat} {m : Mo} (hv : v < 4) (hu : u < 4) : ex (dm v m) u = ex m u - (if u = v then 1 else 0) := by
  rcases (show u = 0 ∨ u = 1 ∨ u = 2 ∨ u = 3 by omega) with rfl | rfl | rfl | rfl
  · rw [ex_0, ex_0]; unfold dm; simp only [eq_comm]
  · rw [ex_1, ex_1]; unfold dm; simp only [eq_comm]
  · rw [ex_2, ex_2]; unfold dm; simp only [eq_comm]
  · rw [ex_3, ex_3]; unfold dm; simp only [eq_comm]
theorem mle_dm {v k : Nat} {m : Mo} (h : mle k m) : mle k (dm v m) := by
  unfold mle at h ⊢
  unfold dm
  simp only
  omega
def der (o p v : Nat) (F : Po) (L : Po) : Po := F.foldl (fun L t => if t.1 * ex t.2 v % p = 0 then L else ins o p (t.1 * ex t.2 v % p) (dm v t.2) L) L
theorem der_snoc {o p v t : Nat} {F : Po} (h : t < F.length) : der o p v (F.take (t + 1)) [] = if pc F t * ex (pm F t) v % p = 0 then der o p v (F.take t) [] else ins o p (pc F t * ex (pm F t) v % p) (dm v (pm F t)) (der o p v (F.take t) []) := by
  unfold der
  rw [take_snoc h, List.foldl_append]
  rfl
def f_derived (N : Nat → Nat) (T : Nat → Option Po) (R : Nat → Nat × Nat) (x v : Int32) : Int32 × (Nat → Nat) × (Nat → Option Po) × (Nat → Nat × Nat) :=
  match plc N T x with
  | none => (-2, N, T, R)
  | some i => if 0 ≤ v.toInt ∧ v.toInt ≤ (N 1 : Int) - 1 then (if fre T = 25 then (-4, N, T, R) else shv N T R (clean (der (N 2) (N 0) v.toInt.toNat (gt T i) []))) else (-2, N, T, R)
theorem m_derived {x v : Int32} (w : WF N T R) (h : M9 N T R S) (hK : D9 (f_derived N T R x v) S K) : w_X9_derived x v S K := by
  have hb := prm_b w.1
  have wn := w.2.1
  have fl := fre_le (T := T)
  unfold w_X9_derived w_X9_derived_24
  unfold f_derived at hK
  refine sp_placeOf w h (fun i P e hi hT g => ?_) (fun e => ?_)
  · rw [e] at hK
    simp only [gt_s hT] at hK
    refine ⟨fun q => absurd q (m_loop_ok (by omega)).2, fun _ => ?_⟩
    rw [h.1 1 (by decide)]
    refine sp_inI (nI_m1 (by omega)) (fun u hu e1 e2 => ⟨fun _ => ?_, fun q => absurd q (by decide)⟩) (fun q => ⟨fun q => absurd rfl q, fun _ => ?_⟩)
    · rw [if_pos (by omega), e2, show (u : Int).toNat = u from rfl] at hK
      have hu4 : u < 4 := by omega
      refine sp_free h ?_
      refine ⟨fun q => ?_, fun q => ?_⟩
      · have q' : fre T ≠ 25 := fun z => q (by rw [z]; rfl)
        rw [if_neg q'] at hK
        have hPl := g.2.1
        have g30 := g.1.2.2.2
        have loop : ∀ (d t : Nat) (S' : St), t + d = P.length → M9 N T R S' → RM S' (der (N 2) (N 0) u (P.take t) []) → (der (N 2) (N 0) u (P.take t) []).length ≤ t → L30 (der (N 2) (N 0) u (P.take t) []) → Lp (N 0) (der (N 2) (N 0) u (P.take t) []) → lo S S' →
            q_it (fun _ _ => False) (w_X9_derived_51 x v K (nI i) (nI (fre T))) (d + 1) (nI t) S' := by
          intro d
          induction d with
          | zero =>
            intro t S' ht hM hR hlen h30 hlp hl
            rw [q_it_s]
            unfold w_X9_derived_51
            rw [m_rf (by omega), (hM.2.1 i P hi hT).1]
            refine ⟨vp_in_nI (by omega) (by decide), pk_le P.length t (fun _ => ?_) (fun q => by omega)⟩
            rw [List.take_of_length_le (by omega)] at hR hlp
            exact sp_shelve w hM q' hR hlp (fun S4 h4 l4 => hK S4 h4 (lo_tr hl l4))
          | succ d ih =>
            intro t S' ht hM hR hlen h30 hlp hl
            rw [q_it_s]
            generalize q_it (fun _ _ => False) (w_X9_derived_51 x v K (nI i) (nI (fre T))) (d + 1) = k2 at ih ⊢
            unfold w_X9_derived_51 w_X9_derived_166
            have hP := hM.2.1 i P hi hT
            rw [m_rf (by omega), hP.1]
            have htl : t < P.length := by omega
            have gt' := hP.2.2 t htl
            have m30 : mle 30 (pm P t) := g30 _ (pc_mem htl)
            have cp : pc P t < N 0 := g.1.2.2.1 _ (pc_mem htl)
            refine ⟨vp_in_nI (by omega) (by decide), pk_le P.length t (fun q => by omega) (fun _ => ?_)⟩
            rw [e1, ix160, ix40, m_rf (by omega), m_rf (by omega)]
            refine ⟨vp_in_nI (by omega) (by decide), ?_⟩
            intro x6 e6
            rw [gt'.2 u hu4] at e6
            have le30 := ex_le m30 u
            have mb : pc P t * ex (pm P t) u < 2 ^ 20 := Nat.lt_of_le_of_lt (Nat.mul_le_mul (show pc P t ≤ 251 by omega) le30) (by decide)
            rw [hM.1 0 (by decide), gt'.1, e6, pk_mul, m_rem (by omega) (by omega) (by omega)]
            refine ⟨vp_in_nI (by omega) (by decide), nI_ne0 (by omega) (by omega), ?_⟩
            intro x7 e7
            subst e7
            have sn := der_snoc (o := N 2) (p := N 0) (v := u) htl
            have md := Nat.mod_lt (pc P t * ex (pm P t) u) (show N 0 > 0 by omega)
            refine pk_eq _ 0 (fun q0 => ?_) (fun q0 => ?_)
            · intro x5 e5
              rw [m_lit 1, nI_add] at e5
              subst e5
              rw [if_pos q0] at sn
              exact ih (t + 1) S' (by omega) hM (by rw [sn]; exact hR) (by rw [sn]; omega) (by rw [sn]; exact h30) (by rw [sn]; exact hlp) hl
            · rw [if_neg q0] at sn
              refine loop4 (S := S') (a := 232) (i := 0) (g := fun z => nI (ex (dm u (pm P t)) z)) ?_ ?_
              · intro z kk hz hkk
                unfold w_X9_derived_111 w_X9_derived_152
                refine pk_le 4 z (fun q => by omega) (fun _ => ?_)
                have le3 := ex_le m30 z
                rw [ix160, m_rf (by omega), m_rf (by omega), w4_n _ _ _ _ _ (Or.inl (by decide)), gt'.2 z hz]
                refine ⟨vp_in_nI (by omega) (by decide), ?_⟩
                have e3 := w4_s S' 232 0 (fun z => nI (ex (dm u (pm P t)) z)) z
                rw [Nat.zero_add] at e3
                have ed := ex_dm (m := pm P t) hu4 hz
                refine (fun (a : ¬ z = u → _) (b : z = u → _) => ⟨fun q => a (fun q2 => q (by rw [q2])), fun q => b ((m_eq32 (by omega) (by omega)).mp q)⟩) (fun q2 => ?_) (fun q2 => ?_)
                · refine ⟨vp_in_nI (by omega) (by decide), ?_⟩
                  intro S2 e4 x8 e8
                  rw [if_neg q2, Nat.sub_zero] at ed
                  have e0 : (nI (ex (pm P t) z) - 0 : Int32) = nI (ex (dm u (pm P t)) z) := by rw [ed]; exact pk_sub (b := 0) (by omega)
                  rw [e0, e3] at e4
                  rw [m_lit 1, nI_add] at e8
                  subst e4; subst e8
                  exact hkk
                · refine ⟨vp_in_nI (by omega) (by decide), ?_⟩
                  intro S2 e4 x8 e8
                  rw [if_pos q2] at ed
                  have pos : 1 ≤ ex (pm P t) z := by
                    rw [q2]
                    rcases Nat.eq_zero_or_pos (ex (pm P t) u) with c | c
                    · rw [c, Nat.mul_zero, Nat.zero_mod] at q0; exact absurd rfl q0
                    · exact c
                  have e0 : (nI (ex (pm P t) z) - 1 : Int32) = nI (ex (dm u (pm P t)) z) := by rw [ed]; exact pk_sub (b := 1) pos
                  rw [e0, e3] at e4
                  rw [m_lit 1, nI_add] at e8
                  subst e4; subst e8
                  exact hkk
              · intro kk
                unfold w_X9_derived_111
                refine pk_le 4 4 (fun _ => ?_) (fun q => by omega)
                have fw : fr9 [232] [] S' (w4 S' 232 0 (fun z => nI (ex (dm u (pm P t)) z)) 4) := fr9_w4 (by decide) (by decide)
                have hMw := M9_fr hM fw (by decide) (by decide)
                refine sp_add (RM_fr hR (fw.2 20 (by decide)) (fw.1 230 (by decide) (by decide)) (fw.1 231 (by decide) (by decide))) (by omega) MA_w4 (hMw.1 0 (by decide)) hb (hMw.1 2 (by decide)) w.2.2.1 (mle_dm m30) h30 hlp md (fun S8 hR8 f8 => ?_)
                intro x5 e5
                rw [m_lit 1, nI_add] at e5
                subst e5
                rw [← sn] at hR8
                have len := ins_len (o := N 2) (p := N 0) (c := pc P t * ex (pm P t) u % N 0) (m := dm u (pm P t)) (L := der (N 2) (N 0) u (P.take t) [])
                have lp' := ins_Lp (o := N 2) (m := dm u (pm P t)) (show 0 < N 0 by omega) md hlp
                have l3' := ins_L30 (o := N 2) (p := N 0) (c := pc P t * ex (pm P t) u % N 0) (mle_dm (v := u) m30) h30
                rw [← sn] at len lp' l3'
                exact ih (t + 1) S8 (by omega) (M9_fr hMw f8 (by decide) (by decide)) hR8 (by omega) l3' lp' (lo_tr hl (lo_tr (lo_fr fw (by decide)) (lo_fr f8 (by decide))))
        intro S10 e10
        have f10 : fr9 [] [20] S S10 := by rw [e10]; exact fr9_sf (by decide)
        refine ⟨P.length + 1, loop P.length 0 S10 (by omega) (M9_fr h f10 (by decide) (by decide)) (show RM S10 [] from ⟨by rw [e10, su_s]; rfl, by decide, fun t ht => by cases ht⟩) (by simp [der]) (fun _ z => by cases z) (fun _ z => by cases z) (lo_fr f10 (by decide))⟩
      · have q' : fre T = 25 := (m_eq32 (by omega) (by decide)).mp q
        rw [if_pos q'] at hK
        exact hK S h lo_rf
    · rw [if_neg q] at hK
      exact hK S h lo_rf
  · rw [e] at hK
    exact ⟨fun _ => hK S h lo_rf, fun q => absurd (show (-2 : Int32) < 0 by decide) q⟩
end OPS
