/-! what is kept by order -/
section OPS
variable {N : Nat → Nat} {T : Nat → Option Po} {R : Nat → Nat × Nat}
theorem mm_m1 (x : Mo) : mm x m1 = x := rfl
theorem ins_Lz {o p c : Nat} {m : Mo} {L : Po} (hc : 0 < c) (hm : ∀ t ∈ L, mk o m ≠ mk o t.2) (h : Lz L) : Lz (ins o p c m L) := by
  induction L with
  | nil => exact Lz_cons.mpr ⟨hc, h⟩
  | cons u L ih =>
    have h' := Lz_cons.mp h
    unfold ins
    split
    · exact Lz_cons.mpr ⟨h'.1, ih (fun t ht => hm t (List.mem_cons_of_mem _ ht)) h'.2⟩
    · split
      · rename_i q
        exact absurd q (hm u List.mem_cons_self)
      · exact Lz_cons.mpr ⟨hc, h⟩
theorem Sd_ne {o : Nat} {P : Po} (h : Sd o P) : P.Pairwise (fun s t => s.2 ≠ t.2) := List.Pairwise.imp (fun q e => by rw [e] at q; exact absurd q (Nat.lt_irrefl _)) h
/-- terms with unlike monomials come into a row: it stays without noughts -/
theorem srt_fold {o p n : Nat} (hp : 0 < p) : ∀ {P L : Po}, P.Pairwise (fun s t => s.2 ≠ t.2) → Lz P → Lp p P → L30 P → Vn n P → (∀ s ∈ P, ∀ t ∈ L, s.2 ≠ t.2) → Sd o L → Lz L → Lp p L → L30 L → Vn n L →
    Cn o p (P.foldl (fun L t => ins o p (t.1 * 1 % p) (mm t.2 m1) L) L) ∧ Vn n (P.foldl (fun L t => ins o p (t.1 * 1 % p) (mm t.2 m1) L) L)
  | [], L, _, _, _, _, _, _, a, b, c, d, e => ⟨⟨a, b, c, d⟩, e⟩
  | t :: P, L, h1, h2, h3, h4, h5, h6, a, b, c, d, e => by
    have k1 := List.pairwise_cons.mp h1
    have z := Lz_cons.mp h2
    have q := Lp_cons.mp h3
    have r := L30_cons.mp h4
    have s := Vn_cons.mp h5
    have et : t.1 * 1 % p = t.1 := by rw [Nat.mul_one, Nat.mod_eq_of_lt q.1]
    rw [List.foldl_cons, et, mm_m1]
    refine srt_fold hp k1.2 z.2 q.2 r.2 s.2 (fun u hu v hv => ?_) (ins_Sd a) (ins_Lz z.1 (fun v hv w => ?_) b) (ins_Lp hp q.1 c) (ins_L30 r.1 d) (ins_Vn s.1 e)
    · rcases ins_mem hv with w | ⟨x, w1, w2⟩
      · rw [w]; exact fun y => k1.1 u hu y.symm
      · rw [← w2]; exact h6 u (List.mem_cons_of_mem _ hu) x w1
    · exact h6 t List.mem_cons_self v hv (mk_inj (mle_mono r.1 (by omega)) (mle_mono (d v hv) (by omega)) w)
theorem srt_GP {o : Nat} {P : Po} (hp : 2 ≤ N 0) (g : GP N P) : Cn o (N 0) (srt o (N 0) P) ∧ (srt o (N 0) P).length ≤ 40 ∧ Vn (N 1) (srt o (N 0) P) := by
  have len := addT_len (o := o) (p := N 0) (k := 1) (y := m1) (B := P) (L := [])
  have e : srt o (N 0) P = P.foldl (fun L t => ins o (N 0) (t.1 * 1 % N 0) (mm t.2 m1) L) [] := by
    unfold srt addT
    rw [if_neg (by decide)]
  have := srt_fold (o := o) (n := N 1) (show 0 < N 0 by omega) (L := []) (Sd_ne g.1.1) g.1.2.1 g.1.2.2.1 g.1.2.2.2 g.2.2 (fun _ _ _ z => nomatch z) List.Pairwise.nil (fun _ z => nomatch z) (fun _ z => nomatch z) (fun _ z => nomatch z) (fun _ z => nomatch z)
  rw [← e] at this
  have l40 := g.2.1
  refine ⟨this.1, ?_, this.2⟩
  unfold srt
  simp only [List.length_nil] at len
  omega
theorem wf_order {x : Int32} (w : WF N T R) : WFr (f_order N T R x) := by
  have hb := prm_b w.1
  unfold f_order
  split
  · rename_i hx
    split
    · rename_i h6
      obtain ⟨a, b, c, d, e, f, g, i, j, k, l, m, n, o⟩ := w
      show WF (nu N 2 x.toInt.toNat) (tord x.toInt.toNat (N 0) T 25) R
      have en : ∀ j, j ≠ 2 → nu N 2 x.toInt.toNat j = N j := fun j h => nu_n h
      have e2 : nu N 2 x.toInt.toNat 2 = x.toInt.toNat := nu_s
      unfold WF
      rw [e2, en 0 (by decide), en 1 (by decide), en 6 (by decide), en 7 (by decide), en 10 (by decide), en 11 (by decide), en 12 (by decide), en 13 (by decide)]
      refine ⟨a, b, by omega, d, e, f, g, i, j, k, ?_, fun q hq => ?_, fun q P hq hT => ?_, fun q P hq hT => by omega⟩
      · obtain ⟨D, hD⟩ := l
        exact ⟨srt x.toInt.toNat (N 0) D, by unfold tord; rw [if_pos (by decide), hD]; rfl⟩
      · unfold tord
        rw [if_neg (by omega)]
        exact m q hq
      · unfold tord at hT
        by_cases z : q < 25
        · rw [if_pos z] at hT
          cases hq2 : T q with
          | none => rw [hq2] at hT; cases hT
          | some Q =>
            rw [hq2] at hT
            injection hT with hT
            have gQ := n q Q hq hq2
            have s := srt_GP (o := x.toInt.toNat) hb.1 gQ
            rw [hT] at s
            unfold GP
            rw [e2, en 0 (by decide), en 1 (by decide)]
            exact s
        · rw [if_neg z] at hT
          have : (∃ P, T (25 + (q - 25)) = some P) := ⟨P, by rw [show 25 + (q - 25) = q by omega]; exact hT⟩
          have := (m (q - 25) (by omega)).mpr this
          omega
    · exact w
  · exact w
end OPS
