/-! what is kept by term, product, derived -/
section OPS
variable {N : Nat → Nat} {T : Nat → Option Po} {R : Nat → Nat × Nat}
theorem ins_Vn {o p c n : Nat} {m : Mo} {L : Po} (hm : ∀ v, n ≤ v → v < 4 → ex m v = 0) (h : Vn n L) : Vn n (ins o p c m L) := fun t ht v h1 h2 => by
  rcases ins_mem ht with q | ⟨u, q1, q2⟩
  · rw [q]; exact hm v h1 h2
  · rw [← q2]; exact h u q1 v h1 h2
theorem clean_Vn {n : Nat} {L : Po} (h : Vn n L) : Vn n (clean L) := fun t ht => h t (clean_mem ht)
theorem wf_term {x a b c d : Int32} (w : WF N T R) : WFr (f_term N T R x a b c d) := by
  have hb := prm_b w.1
  have wn := w.2.1
  obtain ⟨D, hD⟩ := w.2.2.2.2.2.2.2.2.2.2.1
  have g := w.2.2.2.2.2.2.2.2.2.2.2.2.1 0 D (by decide) hD
  unfold f_term
  rw [gt_s hD]
  generalize hB : (if 2 ≤ N 1 then (30 : Int) else 0) = B
  generalize hC : (if 3 ≤ N 1 then (30 : Int) else 0) = C
  generalize hE : (if 4 ≤ N 1 then (30 : Int) else 0) = E
  split
  · rename_i q
    obtain ⟨⟨a0, a1⟩, ⟨b0, b1⟩, ⟨c0, c1⟩, d0, d1⟩ := q
    have hM : mle 30 (m4 a b c d) := by
      unfold mle m4
      refine ⟨?_, ?_, ?_, ?_⟩
      · show a.toInt.toNat ≤ 30; omega
      · show b.toInt.toNat ≤ 30; split at hB <;> omega
      · show c.toInt.toNat ≤ 30; split at hC <;> omega
      · show d.toInt.toNat ≤ 30; split at hE <;> omega
    have hV : ∀ v, N 1 ≤ v → v < 4 → ex (m4 a b c d) v = 0 := fun v h1 h2 => by
      rcases (show v = 1 ∨ v = 2 ∨ v = 3 by omega) with rfl | rfl | rfl
      · show b.toInt.toNat = 0; rw [if_neg (by omega)] at hB; omega
      · show c.toInt.toNat = 0; rw [if_neg (by omega)] at hC; omega
      · show d.toInt.toNat = 0; rw [if_neg (by omega)] at hE; omega
    split
    · rename_i hl
      exact WF_tu w ⟨⟨clean_Sd (ins_Sd g.1.1), clean_Lz, clean_Lp (ins_Lp (show 0 < N 0 by omega) (rs_lt (show 0 < N 0 by omega) x) g.1.2.2.1), clean_L30 (ins_L30 hM g.1.2.2.2)⟩, hl, clean_Vn (ins_Vn hV g.2.2)⟩ (by decide)
    · exact w
  · exact w
theorem prd_ok {o p n : Nat} {G : Po} (hp : 0 < p) (hG : Vn n G) : ∀ {F L : Po}, (∀ t ∈ F, ¬ gr G t.2) → Vn n F → Sd o L → Lp p L → L30 L → Vn n L → Sd o (prd o p G F L) ∧ Lp p (prd o p G F L) ∧ L30 (prd o p G F L) ∧ Vn n (prd o p G F L)
  | [], L, _, _, a, b, c, d => ⟨a, b, c, d⟩
  | t :: F, L, hg, hF, a, b, c, d => by
    show Sd o (prd o p G F (addT o p G t.1 t.2 L)) ∧ _
    refine prd_ok hp hG (fun u hu => hg u (List.mem_cons_of_mem _ hu)) (Vn_cons.mp hF).2 (addT_Sd a) (addT_Lp hp b) (addT_L30 (hg t List.mem_cons_self) c) (fun s hs v h1 h2 => ?_)
    rcases addT_mem hs with ⟨z, q1, q2⟩ | ⟨u, q1, q2⟩
    · rw [← q2, ex_mm, hG z q1 v h1 h2, (Vn_cons.mp hF).1 v h1 h2]
    · rw [← q2]; exact d u q1 v h1 h2
theorem wf_product {x y : Int32} (w : WF N T R) : WFr (f_product N T R x y) := by
  have hb := prm_b w.1
  unfold f_product
  split
  · exact w
  · rename_i i hi
    split
    · exact w
    · rename_i j hj
      split
      · exact w
      · rename_i hf
        split
        · exact w
        · rename_i hg
          have g1 := (gt_GP w hi).1
          have g2 := (gt_GP w hj).1
          have hg' : ∀ t ∈ gt T i, ¬ gr (gt T j) t.2 := fun t ht z => hg (List.any_eq_true.mpr ⟨t, ht, grb_iff.mpr z⟩)
          obtain ⟨a, b, c, d⟩ := prd_ok (o := N 2) (n := N 1) (L := []) (show 0 < N 0 by omega) g2.2.2 hg' g1.2.2 List.Pairwise.nil (fun _ z => nomatch z) (fun _ z => nomatch z) (fun _ z => nomatch z)
          exact shv_WF w hf (fun hl => ⟨⟨clean_Sd a, clean_Lz, clean_Lp b, clean_L30 c⟩, hl, clean_Vn d⟩)
theorem der_ok {o p n v : Nat} (hp : 0 < p) (hv : v < 4) : ∀ {F L : Po}, L30 F → Vn n F → Sd o L → Lp p L → L30 L → Vn n L → Sd o (der o p v F L) ∧ Lp p (der o p v F L) ∧ L30 (der o p v F L) ∧ Vn n (der o p v F L)
  | [], L, _, _, a, b, c, d => ⟨a, b, c, d⟩
  | t :: F, L, h3, hF, a, b, c, d => by
    have e : der o p v (t :: F) L = der o p v F (if t.1 * ex t.2 v % p = 0 then L else ins o p (t.1 * ex t.2 v % p) (dm v t.2) L) := rfl
    rw [e]
    split
    · exact der_ok hp hv (L30_cons.mp h3).2 (Vn_cons.mp hF).2 a b c d
    · refine der_ok hp hv (L30_cons.mp h3).2 (Vn_cons.mp hF).2 (ins_Sd a) (ins_Lp hp (Nat.mod_lt _ hp) b) (ins_L30 (mle_dm (L30_cons.mp h3).1) c) (ins_Vn (fun u h1 h2 => ?_) d)
      rw [ex_dm hv h2, (Vn_cons.mp hF).1 u h1 h2, Nat.zero_sub]
theorem wf_derived {x v : Int32} (w : WF N T R) : WFr (f_derived N T R x v) := by
  have hb := prm_b w.1
  have wn := w.2.1
  unfold f_derived
  split
  · exact w
  · rename_i i hi
    split
    · rename_i hv
      split
      · exact w
      · rename_i hf
        have g1 := (gt_GP w hi).1
        obtain ⟨a, b, c, d⟩ := der_ok (o := N 2) (n := N 1) (L := []) (v := v.toInt.toNat) (show 0 < N 0 by omega) (by omega) g1.1.2.2.2 g1.2.2 List.Pairwise.nil (fun _ z => nomatch z) (fun _ z => nomatch z) (fun _ z => nomatch z)
        exact shv_WF w hf (fun hl => ⟨⟨clean_Sd a, clean_Lz, clean_Lp b, clean_L30 c⟩, hl, clean_Vn d⟩)
    · exact w
end OPS
