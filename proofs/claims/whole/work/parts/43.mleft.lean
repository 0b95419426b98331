/-! the reference: what leave gives is good; left, member -/
theorem addT_mem {o p k : Nat} {y : Mo} {B L : Po} {t : Te} (h : t ∈ addT o p B k y L) : (∃ b ∈ B, mm b.2 y = t.2) ∨ ∃ u ∈ L, u.2 = t.2 := by
  unfold addT at h
  split at h
  · exact Or.inr ⟨t, h, rfl⟩
  · rename_i hk
    clear hk
    induction B generalizing L with
    | nil => exact Or.inr ⟨t, h, rfl⟩
    | cons b B ih =>
      rw [List.foldl_cons] at h
      rcases ih h with ⟨c, h1, h2⟩ | ⟨u, h1, h2⟩
      · exact Or.inl ⟨c, List.mem_cons_of_mem _ h1, h2⟩
      · rcases ins_mem h1 with q | ⟨x, h3, h4⟩
        · exact Or.inl ⟨b, List.mem_cons_self, by rw [← h2, q]⟩
        · exact Or.inr ⟨x, h3, by rw [h4, h2]⟩
theorem clean_mem {L : Po} {t : Te} (h : t ∈ clean L) : t ∈ L := (List.mem_filter.mp h).1
theorem mm_ms {x y : Mo} (h : dv x y) : mm x (ms y x) = y := by
  unfold dv at h
  unfold mm ms
  apply mo_ext
  · show x.1 + (y.1 - x.1) = y.1; omega
  · show x.2.1 + (y.2.1 - x.2.1) = y.2.1; omega
  · show x.2.2.1 + (y.2.2.1 - x.2.2.1) = y.2.2.1; omega
  · show x.2.2.2 + (y.2.2.2 - x.2.2.2) = y.2.2.2; omega
theorem fdv_dv {m : Mo} {G : Po} : ∀ {Gs : List Po}, fdv m Gs = some G → dv (pm G 0) m
  | [], h => by cases h
  | A :: L, h => by
    rw [fdv_cons] at h
    split at h
    · rename_i q
      injection h with h
      rw [← h]; exact dvb_iff.mp q
    · exact fdv_dv h
theorem head_le {o p : Nat} {G : Po} {b : Te} (h : Cn o p G) (hb : b ∈ G) : b.2 = pm G 0 ∨ mk o b.2 < mk o (pm G 0) := by
  have h1 : 0 < G.length := List.length_pos_of_mem hb
  have e := head_c h1
  have c := h.1
  rw [e] at hb c
  rcases List.mem_cons.mp hb with q | q
  · exact Or.inl (by rw [q])
  · exact Or.inr ((Sd_cons.mp c).1 b q)
theorem Vn_cons {n : Nat} {t : Te} {L : Po} : Vn n (t :: L) ↔ (∀ v, n ≤ v → v < 4 → ex t.2 v = 0) ∧ Vn n L := List.forall_mem_cons
/-- all of a reduced row are no greater than its head was, and of the same variables -/
theorem red_mem {o p n k : Nat} {t : Te} {H G : Po} {b : Te} (hH : Cn o p (t :: H)) (vH : Vn n (t :: H)) (hG : Cn o p G) (vG : Vn n G) (hd : dv (pm G 0) t.2) (hg : ¬ gr G (ms t.2 (pm G 0))) (hb : b ∈ clean (addT o p G k (ms t.2 (pm G 0)) (t :: H))) : (b.2 = t.2 ∨ mk o b.2 < mk o t.2) ∧ ∀ v, n ≤ v → v < 4 → ex b.2 v = 0 := by
  rcases addT_mem (clean_mem hb) with ⟨c, h1, h2⟩ | ⟨u, h1, h2⟩
  · have c30 : mle 30 (mm c.2 (ms t.2 (pm G 0))) := Classical.byContradiction fun q => hg ⟨c, h1, q⟩
    have t30 : mle 30 t.2 := (L30_cons.mp hH.2.2.2).1
    have t0 : ∀ v, n ≤ v → v < 4 → ex t.2 v = 0 := (Vn_cons.mp vH).1
    refine ⟨?_, fun v h3 h4 => ?_⟩
    · rcases head_le hG h1 with q | q
      · exact Or.inl (by rw [← h2, q, mm_ms hd])
      · refine Or.inr ?_
        rw [← h2]
        have := mk_mm (o := o) (x := c.2) (y := pm G 0) (z := ms t.2 (pm G 0)) (mle_mono c30 (by omega)) (by rw [mm_ms hd]; exact mle_mono t30 (by omega)) q
        rwa [mm_ms hd] at this
    · rw [← h2, ex_mm, ex_ms, vG c h1 v h3 h4, t0 v h3 h4]
      omega
  · refine ⟨?_, fun v h3 h4 => by rw [← h2]; exact vH u h1 v h3 h4⟩
    rcases List.mem_cons.mp h1 with q | q
    · exact Or.inl (by rw [← h2, q])
    · exact Or.inr (by rw [← h2]; exact (Sd_cons.mp hH.1).1 u q)
theorem Cn_nil {o p : Nat} : Cn o p [] := ⟨List.Pairwise.nil, (fun _ z => nomatch z), (fun _ z => nomatch z), (fun _ z => nomatch z)⟩
theorem snoc_Cn {o p : Nat} {R : Po} {t : Te} {H : Po} (hR : Cn o p R) (hH : Cn o p (t :: H)) (hx : ∀ r ∈ R, ∀ h ∈ t :: H, mk o h.2 < mk o r.2) : Cn o p (R ++ [t]) := by
  obtain ⟨a, b, c, d⟩ := hR
  obtain ⟨a', b', c', d'⟩ := hH
  refine ⟨?_, ?_, ?_, ?_⟩
  · unfold Sd
    rw [List.pairwise_append]
    refine ⟨a, List.pairwise_singleton _ _, fun r hr s hs => ?_⟩
    rw [List.mem_singleton.mp hs]
    exact hx r hr t List.mem_cons_self
  · intro s hs
    rcases List.mem_append.mp hs with q | q
    · exact b s q
    · rw [List.mem_singleton.mp q]; exact (Lz_cons.mp b').1
  · intro s hs
    rcases List.mem_append.mp hs with q | q
    · exact c s q
    · rw [List.mem_singleton.mp q]; exact (Lp_cons.mp c').1
  · intro s hs
    rcases List.mem_append.mp hs with q | q
    · exact d s q
    · rw [List.mem_singleton.mp q]; exact (L30_cons.mp d').1
theorem lv_ok {o p n fuel : Nat} {Gs : List Po} (hp : 0 < p) (hG : ∀ G ∈ Gs, Cn o p G ∧ Vn n G) : ∀ {st u : Nat} {H R : Po}, Cn o p H → Vn n H → Cn o p R → Vn n R → R.length ≤ 40 → (∀ r ∈ R, ∀ h ∈ H, mk o h.2 < mk o r.2) → Cn o p (lv o p fuel Gs st u H R).2.2 ∧ Vn n (lv o p fuel Gs st u H R).2.2 ∧ (lv o p fuel Gs st u H R).2.2.length ≤ 40
  | 0, _, _, _, _, _, c, d, e, _ => ⟨c, d, e⟩
  | _ + 1, _, [], _, _, _, c, d, e, _ => ⟨c, d, e⟩
  | st + 1, u, t :: H, R, a, b, c, d, e, hx => by
    cases hf : fdv t.2 Gs with
    | none =>
      rw [lv_c0 hf]
      split
      · exact ⟨c, d, e⟩
      · rename_i h40
        refine lv_ok hp hG ⟨(Sd_cons.mp a.1).2, (Lz_cons.mp a.2.1).2, (Lp_cons.mp a.2.2.1).2, (L30_cons.mp a.2.2.2).2⟩ (Vn_cons.mp b).2 (snoc_Cn c a hx) (fun s hs => ?_) (by rw [List.length_append]; simp only [List.length_singleton]; omega) (fun r hr s hs => ?_)
        · rcases List.mem_append.mp hs with q | q
          · exact d s q
          · rw [List.mem_singleton.mp q]; exact (Vn_cons.mp b).1
        · rcases List.mem_append.mp hr with q | q
          · exact hx r q s (List.mem_cons_of_mem _ hs)
          · rw [List.mem_singleton.mp q]; exact (Sd_cons.mp a.1).1 s hs
    | some G =>
      rw [lv_c1 hf]
      have hm := hG G (fdv_mem hf)
      split
      · exact ⟨c, d, e⟩
      · split
        · exact ⟨c, d, e⟩
        · rename_i hng
          have ng : ¬ gr G (ms t.2 (pm G 0)) := fun z => hng (grb_iff.mpr z)
          split
          · exact ⟨c, d, e⟩
          · refine lv_ok hp hG (red_Cn hp a ng) (fun s hs => (red_mem a b hm.1 hm.2 (fdv_dv hf) ng hs).2) c d e (fun r hr s hs => ?_)
            have ht := hx r hr t List.mem_cons_self
            rcases (red_mem a b hm.1 hm.2 (fdv_dv hf) ng hs).1 with q | q
            · rw [q]; exact ht
            · omega
section OPS
variable {N : Nat → Nat} {T : Nat → Option Po} {R : Nat → Nat × Nat} {S : St} {K : Int32 → St → Prop}
theorem lvr_ok {P : Po} (w : WF N T R) (g : GP N P) : GP N (lvr N T P).2.2 := by
  have hb := prm_b w.1
  have hB := bas_GG w
  obtain ⟨a, b, c⟩ := lv_ok (fuel := N 10) (Gs := bas N T) (st := 2041) (u := 0) (R := []) (n := N 1) (show 0 < N 0 by omega) (fun G hG => ⟨(hB.1 G hG).1, (hB.2 G hG).2.2⟩) g.1 g.2.2 Cn_nil (fun _ z => nomatch z) (by decide) (fun _ z => nomatch z)
  exact ⟨a, c, b⟩
def f_left (N : Nat → Nat) (T : Nat → Option Po) (R : Nat → Nat × Nat) (x : Int32) : Int32 × (Nat → Nat) × (Nat → Option Po) × (Nat → Nat × Nat) :=
  match plc N T x with
  | none => (-2, N, T, R)
  | some i => if fre T = 25 then (-4, nu N 19 0, T, R) else if (lvr N T (gt T i)).1 = 0 then (nI (fre T - 1), usd N (lvr N T (gt T i)).2.1, tu T (fre T) (some (lvr N T (gt T i)).2.2), R) else ((lvr N T (gt T i)).1, usd N (lvr N T (gt T i)).2.1, T, R)
theorem m_left {x : Int32} (w : WF N T R) (h : M9 N T R S) (hK : D9 (f_left N T R x) S K) : w_X9_left x S K := by
  have hb := prm_b w.1
  have fl := fre_le (T := T)
  unfold w_X9_left
  unfold f_left at hK
  refine sp_placeOf w h (fun i P e hi hT g => ?_) (fun e => ?_)
  · rw [e] at hK
    simp only [gt_s hT] at hK
    refine ⟨fun _ => ?_, fun q => absurd (m_loop_ok (by omega)).1 q⟩
    intro S4 e4
    have f4 : fr9 [] [19] S S4 := by rw [e4]; exact fr9_sf (by decide)
    have h4 : M9 (nu N 19 0) T R S4 := by rw [e4]; exact M9_nu h (by decide)
    refine sp_free h4 ?_
    refine ⟨fun q => ?_, fun q => ?_⟩
    · have q' : fre T ≠ 25 := fun z => q (by rw [z]; rfl)
      rw [if_neg q'] at hK
      intro S8 e8
      have f8 : fr9 [] [19, 29] S S8 := fr9_tr (fr9_mono f4 (by decide) (by decide)) (by rw [e8]; exact fr9_sf (by decide))
      refine sp_fetch (P := P) (by omega) (PM_fr (h.2.1 i P hi hT) (f8.1 225 (by decide) (by decide)) (f8.1 226 (by decide) (by decide)) (f8.1 227 (by decide) (by decide))) (fun S9 hR9 f9 => ?_)
      have f9' : fr9 [230, 231] [19, 20, 29] S S9 := fr9_tr (fr9_mono f8 (by decide) (by decide)) (fr9_mono f9 (by decide) (by decide))
      refine sp_byBasis w h f9' (by decide) (by decide) (fun S11 hPL f11 => ?_)
      have f11' : fr9 [230, 231, 236] [19, 20, 27, 29] S S11 := fr9_tr (fr9_mono f9' (by decide) (by decide)) (fr9_mono f11 (by decide) (by decide))
      have h29 : S11 224 29 = nI 0 := by rw [f11.2 29 (by decide), f9.2 29 (by decide), e8, su_s]; rfl
      refine sp_leave (u := 0) (a := N 18) w.1 w.2.2.1 hPL (bas_GG w).1 (RM_fr hR9 (f11.2 20 (by decide)) (f11.1 230 (by decide) (by decide)) (f11.1 231 (by decide) (by decide))) g.2.1 g.1 ((f11'.2 0 (by decide)).trans (h.1 0 (by decide))) ((f11'.2 2 (by decide)).trans (h.1 2 (by decide))) ((f11'.2 10 (by decide)).trans (h.1 10 (by decide))) w.2.2.2.1 h29 (Nat.zero_le _) ((f11'.2 18 (by decide)).trans (h.1 18 (by decide))) (fun S13 hR13 z29 z18 _ _ f13 => ?_)
      have f13' : fr9 [230, 231, 232, 233, 236, 237, 238] [18, 19, 20, 27, 29, 30] S S13 := fr9_tr (fr9_mono f11' (by decide) (by decide)) (fr9_mono f13 (by decide) (by decide))
      intro S15 e15
      rw [Nat.sub_zero] at z18
      have h15 := M9_usd h f13' (by decide) z29 z18 e15
      have l15 : lo S S15 := lo_tr (lo_fr f13' (by decide)) (by rw [e15]; exact lo_su (by decide))
      have f15 : fr9 [] [19] S13 S15 := by rw [e15]; exact fr9_sf (by decide)
      have code := lv_code (o := N 2) (p := N 0) (fuel := N 10) (Gs := bas N T) (st := 2041) (u := 0) (H := P) (R := [])
      have gr := lvr_ok w g
      change D9 (if (lvr N T P).1 = 0 then _ else _) S K at hK
      rcases code with c | c
      · have c' : (lvr N T P).1 = 0 := c
        rw [if_pos c'] at hK
        rw [c]
        refine ⟨fun _ => ?_, fun z => absurd (show (0 : Int32) ≤ 0 by decide) z⟩
        have hR := hR13 c
        have hR15 : RM S15 (lvr N T P).2.2 := RM_fr hR (f15.2 20 (by decide)) (f15.1 230 (by decide) (by decide)) (f15.1 231 (by decide) (by decide))
        have p15 := h15.1 0 (by decide)
        unfold usd at p15
        rw [nu_n (by decide), nu_n (by decide)] at p15
        refine sp_lay (a := 1) hb (by omega) p15 hR15 gr.2.1 gr.1.2.2.1 (by omega) (fun S17 hP f17 hk => ?_)
        rw [scl_one gr.1.2.2.1] at hP
        have e : (nI (fre T) - 1 : Int32) = nI (fre T - 1) := pk_sub (b := 1) (by omega)
        rw [e]
        exact hK S17 (M9_lay h15 hP hk f17 (by decide) (by decide)) (lo_tr l15 (lo_fr f17 (by decide)))
      · have c' : ¬ (lvr N T P).1 = 0 := fun z => c (by have z : (lv (N 2) (N 0) (N 10) (bas N T) 2041 0 P []).1 = 0 := z; rw [z]; decide)
        rw [if_neg c'] at hK
        exact ⟨fun z => absurd z c, fun _ => hK S15 h15 l15⟩
    · have q' : fre T = 25 := (m_eq32 (by omega) (by decide)).mp q
      rw [if_pos q'] at hK
      exact hK S4 h4 (lo_fr f4 (by decide))
  · rw [e] at hK
    exact ⟨fun q => absurd q (by decide), fun _ => hK S h lo_rf⟩
def f_member (N : Nat → Nat) (T : Nat → Option Po) (R : Nat → Nat × Nat) (x : Int32) : Int32 × (Nat → Nat) × (Nat → Option Po) × (Nat → Nat × Nat) :=
  match plc N T x with
  | none => (-2, N, T, R)
  | some i => if N 13 = 0 then (-3, N, T, R) else (if (lvr N T (gt T i)).1 = 0 then (if (lvr N T (gt T i)).2.2.length = 0 then 1 else 0) else (lvr N T (gt T i)).1, usd N (lvr N T (gt T i)).2.1, T, R)
theorem m_member {x : Int32} (w : WF N T R) (h : M9 N T R S) (hK : D9 (f_member N T R x) S K) : w_X9_member x S K := by
  have hb := prm_b w.1
  have w13 : N 13 ≤ 1 := w.2.2.2.2.2.2.1
  unfold w_X9_member
  unfold f_member at hK
  refine sp_placeOf w h (fun i P e hi hT g => ?_) (fun e => ?_)
  · rw [e] at hK
    simp only [gt_s hT] at hK
    refine ⟨fun _ => ?_, fun q => absurd (m_loop_ok (by omega)).1 q⟩
    rw [h.1 13 (by decide)]
    refine (fun (a : ¬ N 13 = 0 → _) (b : N 13 = 0 → _) => ⟨fun q => a (fun q2 => q (by rw [q2]; rfl)), fun q => b ((m_eq32 (by omega) (by decide)).mp q)⟩) (fun q => ?_) (fun q => ?_)
    · rw [if_neg q] at hK
      intro S8 e8
      have f8 : fr9 [] [19, 29] S S8 := by rw [e8]; exact fr9_sf (by decide)
      refine sp_fetch (P := P) (by omega) (PM_fr (h.2.1 i P hi hT) (f8.1 225 (by decide) (by decide)) (f8.1 226 (by decide) (by decide)) (f8.1 227 (by decide) (by decide))) (fun S9 hR9 f9 => ?_)
      have f9' : fr9 [230, 231] [19, 20, 29] S S9 := fr9_tr (fr9_mono f8 (by decide) (by decide)) (fr9_mono f9 (by decide) (by decide))
      refine sp_byBasis w h f9' (by decide) (by decide) (fun S11 hPL f11 => ?_)
      have f11' : fr9 [230, 231, 236] [19, 20, 27, 29] S S11 := fr9_tr (fr9_mono f9' (by decide) (by decide)) (fr9_mono f11 (by decide) (by decide))
      have h29 : S11 224 29 = nI 0 := by rw [f11.2 29 (by decide), f9.2 29 (by decide), e8, su_s]; rfl
      refine sp_leave (u := 0) (a := N 18) w.1 w.2.2.1 hPL (bas_GG w).1 (RM_fr hR9 (f11.2 20 (by decide)) (f11.1 230 (by decide) (by decide)) (f11.1 231 (by decide) (by decide))) g.2.1 g.1 ((f11'.2 0 (by decide)).trans (h.1 0 (by decide))) ((f11'.2 2 (by decide)).trans (h.1 2 (by decide))) ((f11'.2 10 (by decide)).trans (h.1 10 (by decide))) w.2.2.2.1 h29 (Nat.zero_le _) ((f11'.2 18 (by decide)).trans (h.1 18 (by decide))) (fun S13 hR13 z29 z18 _ _ f13 => ?_)
      have f13' : fr9 [230, 231, 232, 233, 236, 237, 238] [18, 19, 20, 27, 29, 30] S S13 := fr9_tr (fr9_mono f11' (by decide) (by decide)) (fr9_mono f13 (by decide) (by decide))
      intro S15 e15
      rw [Nat.sub_zero] at z18
      have h15 := M9_usd h f13' (by decide) z29 z18 e15
      have l15 : lo S S15 := lo_tr (lo_fr f13' (by decide)) (by rw [e15]; exact lo_su (by decide))
      have f15 : fr9 [] [19] S13 S15 := by rw [e15]; exact fr9_sf (by decide)
      have code := lv_code (o := N 2) (p := N 0) (fuel := N 10) (Gs := bas N T) (st := 2041) (u := 0) (H := P) (R := [])
      have gr := lvr_ok w g
      have hk := hK S15 h15 l15
      simp only at hk
      rcases code with c | c
      · have c' : (lvr N T P).1 = 0 := c
        rw [if_pos c'] at hk
        rw [c]
        refine ⟨fun _ => ?_, fun z => absurd (show (0 : Int32) ≤ 0 by decide) z⟩
        have hR := hR13 c
        have hR15 : RM S15 (lvr N T P).2.2 := RM_fr hR (f15.2 20 (by decide)) (f15.1 230 (by decide) (by decide)) (f15.1 231 (by decide) (by decide))
        have g40 := gr.2.1
        rw [hR15.1]
        refine (fun (a : ¬ (lvr N T P).2.2.length = 0 → _) (b : (lvr N T P).2.2.length = 0 → _) => ⟨fun q => a (fun q2 => q (by rw [q2]; rfl)), fun q => b ((m_eq32 (by omega) (by decide)).mp q)⟩) (fun q2 => ?_) (fun q2 => ?_)
        · rw [if_neg q2] at hk; exact hk
        · rw [if_pos q2] at hk; exact hk
      · have c' : ¬ (lvr N T P).1 = 0 := fun z => c (by have z : (lv (N 2) (N 0) (N 10) (bas N T) 2041 0 P []).1 = 0 := z; rw [z]; decide)
        rw [if_neg c'] at hk
        exact ⟨fun z => absurd z c, fun _ => hk⟩
    · rw [if_pos q] at hK
      exact hK S h lo_rf
  · rw [e] at hK
    exact ⟨fun q => absurd q (by decide), fun _ => hK S h lo_rf⟩
end OPS
