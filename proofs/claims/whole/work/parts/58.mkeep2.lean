/-! what is kept by fuel, way, rules, clear, enter -/
section OPS
variable {N : Nat → Nat} {T : Nat → Option Po} {R : Nat → Nat × Nat}
theorem WF_sc {N' : Nat → Nat} (w : WF N T R) (h : ∀ j, j ≤ 7 → N' j = N j) (h13 : N' 13 ≤ 1) (h10 : N' 10 ≤ 2000) (h11 : N' 11 ≤ 1) (h12 : N' 12 ≤ 3) : WF N' T R := by
  unfold WF at w ⊢
  rw [h 0 (by omega), h 1 (by omega), h 2 (by omega), h 6 (by omega), h 7 (by omega)]
  obtain ⟨a, b, c, d, e, f, g, i, j, k, l, m, n, o⟩ := w
  exact ⟨a, b, c, h10, h11, h12, h13, i, j, k, l, m, fun q P hq hT => GP_cg (fun j hj => h j (by omega)) (n q P hq hT), o⟩
theorem wf_fuel {x : Int32} (w : WF N T R) : WFr (f_set 10 2000 N T R x) := by
  unfold f_set
  split
  · rename_i h
    show WF (nu N 10 x.toInt.toNat) T R
    refine WF_sc w (fun j hj => nu_n (by omega)) ?_ ?_ ?_ ?_
    · rw [nu_n (by decide)]; exact w.2.2.2.2.2.2.1
    · rw [nu_s]; omega
    · rw [nu_n (by decide)]; exact w.2.2.2.2.1
    · rw [nu_n (by decide)]; exact w.2.2.2.2.2.1
  · exact w
theorem wf_way {x : Int32} (w : WF N T R) : WFr (f_set 11 1 N T R x) := by
  unfold f_set
  split
  · rename_i h
    show WF (nu N 11 x.toInt.toNat) T R
    refine WF_sc w (fun j hj => nu_n (by omega)) ?_ ?_ ?_ ?_
    · rw [nu_n (by decide)]; exact w.2.2.2.2.2.2.1
    · rw [nu_n (by decide)]; exact w.2.2.2.1
    · rw [nu_s]; omega
    · rw [nu_n (by decide)]; exact w.2.2.2.2.2.1
  · exact w
theorem wf_rules {x : Int32} (w : WF N T R) : WFr (f_set 12 3 N T R x) := by
  unfold f_set
  split
  · rename_i h
    show WF (nu N 12 x.toInt.toNat) T R
    refine WF_sc w (fun j hj => nu_n (by omega)) ?_ ?_ ?_ ?_
    · rw [nu_n (by decide)]; exact w.2.2.2.2.2.2.1
    · rw [nu_n (by decide)]; exact w.2.2.2.1
    · rw [nu_n (by decide)]; exact w.2.2.2.2.1
    · rw [nu_s]; omega
  · exact w
theorem wf_enter {x : Int32} (w : WF N T R) : WFr (f_enter N T R x) := by
  have w6 : N 6 ≤ 18 := w.2.2.2.2.2.2.2.1
  unfold f_enter
  split
  · exact w
  · rename_i i hi
    split
    · exact w
    · split
      · exact w
      · have wc := WF_come w (show N 6 < 18 by omega) (gt_GP w hi).1 (by omega)
        show WF (nu (cmN N) 13 0) (cmT N T (gt T i)) (cmR N R)
        refine WF_sc wc (fun j hj => nu_n (by omega)) ?_ ?_ ?_ ?_
        · rw [nu_s]; omega
        · rw [nu_n (by decide)]; exact wc.2.2.2.1
        · rw [nu_n (by decide)]; exact wc.2.2.2.2.1
        · rw [nu_n (by decide)]; exact wc.2.2.2.2.2.1
theorem wf_clear (w : WF N T R) : WFr (f_clear N T R) := by
  obtain ⟨a, b, c, d, e, f, g, i, j, k, l, m, n, o⟩ := w
  have e13 : nu (nu (nu N 6 0) 7 0) 13 0 13 = 0 := nu_s
  have e7 : nu (nu (nu N 6 0) 7 0) 13 0 7 = 0 := (nu_n (by decide)).trans nu_s
  have e6 : nu (nu (nu N 6 0) 7 0) 13 0 6 = 0 := (nu_n (by decide)).trans ((nu_n (by decide)).trans nu_s)
  have en : ∀ j, j ≠ 6 → j ≠ 7 → j ≠ 13 → nu (nu (nu N 6 0) 7 0) 13 0 j = N j := fun j h1 h2 h3 => (nu_n h3).trans ((nu_n h2).trans (nu_n h1))
  unfold f_clear WFr
  show WF (nu (nu (nu N 6 0) 7 0) 13 0) (tcl T) R
  unfold WF
  rw [e13, e7, e6, en 0 (by decide) (by decide) (by decide), en 1 (by decide) (by decide) (by decide), en 2 (by decide) (by decide) (by decide), en 10 (by decide) (by decide) (by decide), en 11 (by decide) (by decide) (by decide), en 12 (by decide) (by decide) (by decide)]
  refine ⟨a, b, c, d, e, f, by omega, by omega, by omega, fun t ht => by omega, ?_, fun q hq => ?_, fun q P hq hT => ?_, fun q P hq hT => by omega⟩
  · unfold tcl; rw [if_pos (by decide)]; exact l
  · unfold tcl
    rw [if_neg (by omega)]
    exact ⟨fun z => by omega, fun ⟨P, z⟩ => nomatch z⟩
  · unfold tcl at hT
    split at hT
    · exact GP_cg (fun j hj => en j (by omega) (by omega) (by omega)) (n q P hq hT)
    · cases hT
end OPS
