/-! the reference: tidy -/
theorem Vn4 {P : Po} : Vn 4 P := fun _ _ v a b => absurd b (by omega)
theorem lv_bd {o p fuel b : Nat} {Gs : List Po} (hp : 0 < p) (hG : ∀ G ∈ Gs, Cn o p G) : ∀ {st u : Nat} {H R : Po}, Cn o p H → (∀ h ∈ H, mk o h.2 < b) → (∀ r ∈ R, mk o r.2 < b) → ∀ r ∈ (lv o p fuel Gs st u H R).2.2, mk o r.2 < b
  | 0, _, _, _, _, _, c => c
  | _ + 1, _, [], _, _, _, c => c
  | st + 1, u, t :: H, R, a, hb, c => by
    cases hf : fdv t.2 Gs with
    | none =>
      rw [lv_c0 hf]
      split
      · exact c
      · refine lv_bd hp hG ⟨(Sd_cons.mp a.1).2, (Lz_cons.mp a.2.1).2, (Lp_cons.mp a.2.2.1).2, (L30_cons.mp a.2.2.2).2⟩ (fun h hh => hb h (List.mem_cons_of_mem _ hh)) (fun r hr => ?_)
        rcases List.mem_append.mp hr with q | q
        · exact c r q
        · rw [List.mem_singleton.mp q]; exact hb t List.mem_cons_self
    | some G =>
      rw [lv_c1 hf]
      have hm := hG G (fdv_mem hf)
      split
      · exact c
      · split
        · exact c
        · rename_i hng
          have ng : ¬ gr G (ms t.2 (pm G 0)) := fun z => hng (grb_iff.mpr z)
          split
          · exact c
          · refine lv_bd hp hG (red_Cn hp a ng) (fun s hs => ?_) c
            have ht := hb t List.mem_cons_self
            rcases (red_mem a (Vn4) hm Vn4 (fdv_dv hf) ng hs).1 with q | q
            · rw [q]; exact ht
            · omega
section OPS
variable {N : Nat → Nat} {T : Nat → Option Po} {R : Nat → Nat × Nat} {S : St}
def GL (N : Nat → Nat) (Ls : List Po) : Prop := ∀ P ∈ Ls, GP N P ∧ 0 < P.length ∧ pc P 0 = 1
theorem GL_er {Ls : List Po} {a : Nat} (h : GL N Ls) : GL N (Ls.eraseIdx a) := fun P hP => h P (List.mem_of_mem_eraseIdx hP)
def tdr (N : Nat → Nat) (u a : Nat) (Ls : List Po) : Int32 × Nat × Po := lv (N 2) (N 0) (N 10) (Ls.eraseIdx a) 2041 u ((Ls.getD a []).drop 1) []
theorem drop_Cn {o p : Nat} {P : Po} (h : Cn o p P) (h1 : 0 < P.length) : Cn o p (P.drop 1) := by
  obtain ⟨c1, c2, c3, c4⟩ := h
  rw [head_c h1] at c1 c2 c3 c4
  exact ⟨(Sd_cons.mp c1).2, (Lz_cons.mp c2).2, (Lp_cons.mp c3).2, (L30_cons.mp c4).2⟩
theorem tdr_ok {u a : Nat} {Ls : List Po} (hp : 0 < N 0) (hG : GL N Ls) (ha : a < Ls.length) : Cn (N 2) (N 0) (tdr N u a Ls).2.2 ∧ Vn (N 1) (tdr N u a Ls).2.2 ∧ (tdr N u a Ls).2.2.length ≤ 40 ∧ ∀ r ∈ (tdr N u a Ls).2.2, mk (N 2) r.2 < mk (N 2) (pm (Ls.getD a []) 0) := by
  obtain ⟨g, l1, _⟩ := hG _ (gmem ha)
  have gE := GL_er (a := a) hG
  have cd := drop_Cn g.1 l1
  have vd : Vn (N 1) ((Ls.getD a []).drop 1) := fun t ht => g.2.2 t (List.mem_of_mem_drop ht)
  obtain ⟨x, y, z⟩ := lv_ok (fuel := N 10) (st := 2041) (u := u) (R := []) hp (fun G hG' => ⟨(gE G hG').1.1, (gE G hG').1.2.2⟩) cd vd Cn_nil (fun _ q => nomatch q) (by decide) (fun _ q => nomatch q)
  refine ⟨x, y, z, lv_bd hp (fun G hG' => (gE G hG').1.1) cd (fun s hs => ?_) (fun _ q => nomatch q)⟩
  have c1 := g.1.1
  rw [head_c l1] at c1
  exact (Sd_cons.mp c1).1 s hs
theorem tdr_GP {u a : Nat} {Ls : List Po} (hp : 0 < N 0) (hG : GL N Ls) (ha : a < Ls.length) (h40 : (tdr N u a Ls).2.2.length ≠ 40) : GL N (Ls.set a ((pc (Ls.getD a []) 0, pm (Ls.getD a []) 0) :: (tdr N u a Ls).2.2)) := by
  obtain ⟨c, v, l, b⟩ := tdr_ok (u := u) hp hG ha
  obtain ⟨g, l1, p1⟩ := hG _ (gmem ha)
  intro P hP
  rcases List.mem_or_eq_of_mem_set hP with q | q
  · exact hG P q
  · rw [q]
    have hm := pc_mem l1
    refine ⟨⟨⟨Sd_cons.mpr ⟨b, c.1⟩, Lz_cons.mpr ⟨g.1.2.1 _ hm, c.2.1⟩, Lp_cons.mpr ⟨g.1.2.2.1 _ hm, c.2.2.1⟩, L30_cons.mpr ⟨g.1.2.2.2 _ hm, c.2.2.2⟩⟩, by show _ + 1 ≤ 40; omega, Vn_cons.mpr ⟨g.2.2 _ hm, v⟩⟩, Nat.succ_pos _, p1⟩
theorem TM_set {S S' : St} {Ls : List Po} {a : Nat} {P : Po} (h : TM S Ls) (h34 : S' 224 34 = S 224 34) (hk : pkf (43 + a) S S') (hP : PM S' (43 + a) P) : TM S' (Ls.set a P) := by
  refine ⟨by rw [List.length_set, h34]; exact h.1, fun k hk2 => ?_⟩
  rw [List.length_set] at hk2
  rw [List.getD_eq_getElem?_getD, List.getElem?_set]
  by_cases q : a = k
  · rw [if_pos q, if_pos (by omega), ← q]; exact hP
  · rw [if_neg q, ← List.getD_eq_getElem?_getD]
    exact PM_pkf hk (by omega) (h.2 k hk2)
theorem TM_fr {S S' : St} {Ls : List Po} {cs fs : List Nat} (h : TM S Ls) (f : fr9 cs fs S S') (hc : ∀ c ∈ cs, 230 ≤ c) (h34 : 34 ∉ fs) : TM S' Ls := ⟨by rw [f.2 34 h34]; exact h.1, fun k hk => PM_fr (h.2 k hk) (f.1 225 (by decide) (fun z => by have := hc _ z; omega)) (f.1 226 (by decide) (fun z => by have := hc _ z; omega)) (f.1 227 (by decide) (fun z => by have := hc _ z; omega))⟩
theorem sp_tidyOne {u a : Nat} {Ls : List Po} {K : Int32 → St → Prop} (hp : prm (N 0) = true) (ho4 : N 2 < 4) (hf : N 10 ≤ 2000) (h : M9 N T R S) (hT : TM S Ls) (l18 : Ls.length ≤ 18) (hG : GL N Ls) (ha : a < Ls.length) (hu : S 224 29 = nI u) (huf : u ≤ N 10)
    (hK : ∀ S', S' 224 29 = nI (tdr N u a Ls).2.1 → M9 (addN N ((tdr N u a Ls).2.1 - u)) T R S' → lo S S' → u ≤ (tdr N u a Ls).2.1 → (tdr N u a Ls).2.1 ≤ N 10 → ((tdr N u a Ls).1 = 0 ∧ (tdr N u a Ls).2.2.length ≠ 40 → TM S' (Ls.set a ((pc (Ls.getD a []) 0, pm (Ls.getD a []) 0) :: (tdr N u a Ls).2.2))) → K (if (tdr N u a Ls).1 = 0 then (if (tdr N u a Ls).2.2.length = 40 then -6 else 0) else (tdr N u a Ls).1) S') : w_X9_tidyOne (nI a) S K := by
  have hb := prm_b hp
  obtain ⟨g, l1, p1⟩ := hG _ (gmem ha)
  have ok := tdr_ok (u := u) (show 0 < N 0 by omega) hG ha
  have gE := GL_er (a := a) hG
  refine tO_places hT l18 ha (fun S1 hPL f1 => ?_)
  have hP1 := (TM_fr hT f1 (by decide) (by decide)).2 a ha
  intro x2 e2
  rw [m_lit 43, nI_add] at e2
  subst e2
  rw [m_rf (by omega), hP1.1]
  refine ⟨vp_in_nI (by omega) (by decide), ?_⟩
  intro S4 e4
  have es : (nI (Ls.getD a []).length - 1 : Int32) = nI ((Ls.getD a []).length - 1) := pk_sub (b := 1) (by omega)
  rw [es] at e4
  have f4 : fr9 [236] [20, 27] S S4 := fr9_tr (fr9_mono f1 (by decide) (by decide)) (by rw [e4]; exact fr9_sf (by decide))
  refine tO_tail (by omega) ((TM_fr hT f4 (by decide) (by decide)).2 a ha) l1 (by rw [e4, su_s]) (fun S5 hR5 f5 => ?_)
  have f5' : fr9 [230, 231, 236] [20, 27] S S5 := fr9_tr (fr9_mono f4 (by decide) (by decide)) (fr9_mono f5 (by decide) (by decide))
  have f15 : fr9 [230, 231] [20] S1 S5 := fr9_tr (by rw [e4]; exact fr9_sf (by decide)) (fr9_mono f5 (by decide) (by decide))
  have gl40 := g.2.1
  refine sp_leave (u := u) (a := N 18) hp ho4 (PL_fr hPL (f15.2 27 (by decide)) (f15.1 225 (by decide) (by decide)) (f15.1 226 (by decide) (by decide)) (f15.1 227 (by decide) (by decide)) (f15.1 236 (by decide) (by decide))) (fun G hG' => ⟨(gE G hG').1.1, (gE G hG').2⟩) hR5 (by rw [List.length_drop]; omega) (drop_Cn g.1 l1) ((f5'.2 0 (by decide)).trans (h.1 0 (by decide))) ((f5'.2 2 (by decide)).trans (h.1 2 (by decide))) ((f5'.2 10 (by decide)).trans (h.1 10 (by decide))) hf ((f5'.2 29 (by decide)).trans hu) huf ((f5'.2 18 (by decide)).trans (h.1 18 (by decide))) (fun S6 hR6 z29 z18 u1 u2 f6 => ?_)
  have f6' : fr9 [230, 231, 232, 233, 236, 237, 238] [18, 20, 27, 29, 30] S S6 := fr9_tr (fr9_mono f5' (by decide) (by decide)) (fr9_mono f6 (by decide) (by decide))
  have h6 := M9_add h f6' (by decide) z18
  have l6 := lo_fr f6' (by decide)
  have code := lv_code (o := N 2) (p := N 0) (fuel := N 10) (Gs := Ls.eraseIdx a) (st := 2041) (u := u) (H := (Ls.getD a []).drop 1) (R := [])
  change ((0 ≤ (tdr N u a Ls).1 → _) ∧ (¬ 0 ≤ (tdr N u a Ls).1 → _))
  change (tdr N u a Ls).1 = 0 ∨ ¬ 0 ≤ (tdr N u a Ls).1 at code
  change (tdr N u a Ls).1 = 0 → RM S6 (tdr N u a Ls).2.2 at hR6
  rcases code with c | c
  · have hR := hR6 c
    rw [if_pos c] at hK
    rw [c]
    refine ⟨fun _ => ?_, fun z => absurd (show (0 : Int32) ≤ 0 by decide) z⟩
    rw [hR.1]
    have l40 := ok.2.2.1
    refine pk_eq' (j := 40) (by omega) (by decide) (fun q => ?_) (fun q => ?_)
    · rw [if_neg q] at hK
      refine tO_put (by omega) ((TM_fr hT f6' (by decide) (by decide)).2 a ha) l1 hR (by omega) (fun S7 hP7 hk7 f7 => ?_)
      exact hK S7 (by rw [f7.2 29 (by decide)]; exact z29) (M9_hi h6 hk7 (by omega) f7 (by decide) (by decide)) (lo_tr l6 (lo_fr f7 (by decide))) u1 u2 (fun _ => TM_set (TM_fr hT f6' (by decide) (by decide)) (f7.2 34 (by decide)) hk7 hP7)
    · rw [if_pos q] at hK
      exact hK S6 z29 h6 l6 u1 u2 (fun z => absurd q z.2)
  · rw [if_neg (fun z => c (by rw [z]; decide))] at hK
    exact ⟨fun z => absurd z c, fun _ => hK S6 z29 h6 l6 u1 u2 (fun z => absurd (show (0 : Int32) ≤ (tdr N u a Ls).1 by rw [z.1]; decide) c)⟩
end OPS
