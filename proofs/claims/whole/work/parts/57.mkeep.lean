/-! what is kept by each call: the easy ones -/
section OPS
variable {N : Nat → Nat} {T : Nat → Option Po} {R : Nat → Nat × Nat}
def WFr (f : Int32 × (Nat → Nat) × (Nat → Option Po) × (Nat → Nat × Nat)) : Prop := WF f.2.1 f.2.2.1 f.2.2.2
theorem gt_GP (w : WF N T R) {x : Int32} {k : Nat} (h : plc N T x = some k) : GP N (gt T k) ∧ k < 43 ∧ T k = some (gt T k) := by
  obtain ⟨a, P, hP, g⟩ := plc_some w h
  rw [gt_s hP]
  exact ⟨g, a, hP⟩
theorem shv_WF {P : Po} (w : WF N T R) (hf : fre T ≠ 25) (hP : P.length ≤ 40 → GP N P) : WFr (shv N T R P) := by
  have fl := fre_le (T := T)
  unfold shv
  split
  · rename_i h
    exact WF_tu w (hP h) (by omega)
  · exact w
theorem wf_sum {x y s : Int32} (w : WF N T R) : WFr (f_sum N T R x y s) := by
  have hb := prm_b w.1
  unfold f_sum
  split
  · exact w
  · rename_i i hi
    split
    · exact w
    · rename_i j hj
      split
      · exact w
      · rename_i hf
        have g1 := (gt_GP w hi).1
        have g2 := (gt_GP w hj).1
        refine shv_WF w hf (fun hl => ⟨red_Cn (by omega) g1.1 (gr_m1 g2.1.2.2.2), hl, fun t ht v h1 h2 => ?_⟩)
        rcases addT_mem (clean_mem ht) with ⟨c, q1, q2⟩ | ⟨u, q1, q2⟩
        · rw [← q2, ex_mm, ex_m1, g2.2.2 c q1 v h1 h2]
        · rw [← q2]; exact g1.2.2 u q1 v h1 h2
theorem wf_spair {x y : Int32} (w : WF N T R) : WFr (f_spair N T R x y) := by
  unfold f_spair
  split
  · exact w
  · rename_i i hi
    split
    · exact w
    · rename_i j hj
      split
      · exact w
      · split
        · exact w
        · split
          · exact w
          · split
            · exact w
            · rename_i z1 z2 hf hs
              exact shv_WF w hf (fun hl => sro_GP w.1 (gt_GP w hi).1 (gt_GP w hj).1 (by omega) (by omega) (Bool.eq_false_iff.mpr hs) hl)
theorem wf_keep (w : WF N T R) : WFr (f_keep N T R) := by
  have fl := fre_le (T := T)
  have hb := prm_b w.1
  obtain ⟨D, hD⟩ := w.2.2.2.2.2.2.2.2.2.2.1
  have g := w.2.2.2.2.2.2.2.2.2.2.2.2.1 0 D (by decide) hD
  unfold f_keep
  rw [gt_s hD]
  split
  · exact w
  · exact WF_tu (WF_tu w g (by omega)) ⟨Cn_nil, by decide, fun _ z => nomatch z⟩ (by decide)
theorem wf_drop {x : Int32} (w : WF N T R) : WFr (f_drop N T R x) := by
  unfold f_drop
  split
  · split
    · exact w
    · exact WF_tn w (by omega) (by omega)
  · exact w
theorem wf_left {x : Int32} (w : WF N T R) : WFr (f_left N T R x) := by
  have fl := fre_le (T := T)
  unfold f_left
  split
  · exact w
  · rename_i i hi
    have g := lvr_ok w (gt_GP w hi).1
    split
    · exact WF_nu (by decide) w
    · split
      · refine WF_cg (N := N) (fun j hj => (nu_n (by omega)).trans (nu_n (by omega))) (WF_tu w g (by omega))
      · exact WF_cg (N := N) (fun j hj => (nu_n (by omega)).trans (nu_n (by omega))) w
theorem wf_member {x : Int32} (w : WF N T R) : WFr (f_member N T R x) := by
  unfold f_member
  split
  · exact w
  · split
    · exact w
    · exact WF_cg (N := N) (fun j hj => (nu_n (by omega)).trans (nu_n (by omega))) w
theorem wf_work {x : Int32} (w : WF N T R) : WFr (f_work N T R x) := by
  unfold f_work
  split
  · exact WF_wrk (WF_nu (by decide) w)
  · exact w
end OPS
