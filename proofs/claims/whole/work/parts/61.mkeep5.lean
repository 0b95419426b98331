/-! what is kept by tidy -/
section OPS
variable {N : Nat → Nat} {T : Nat → Option Po} {R : Nat → Nat × Nat}
theorem tdF_ok (hp : 0 < N 0) : ∀ {m a u : Nat} {Ls : List Po}, GL N Ls → a + m = Ls.length → GL N (tdF N m a u Ls).2.2 ∧ (tdF N m a u Ls).2.2.length = Ls.length
  | 0, _, _, _, h, _ => ⟨h, rfl⟩
  | m + 1, a, u, Ls, h, ha => by
    have e : tdF N (m + 1) a u Ls = if (tdr N u a Ls).1 = 0 then (if (tdr N u a Ls).2.2.length = 40 then (-6, (tdr N u a Ls).2.1, Ls) else tdF N m (a + 1) (tdr N u a Ls).2.1 (tds N u a Ls)) else ((tdr N u a Ls).1, (tdr N u a Ls).2.1, Ls) := rfl
    rw [e]
    split
    · split
      · exact ⟨h, rfl⟩
      · rename_i h40
        have hl : (tds N u a Ls).length = Ls.length := by unfold tds; rw [List.length_set]
        have := tdF_ok hp (m := m) (a := a + 1) (u := (tdr N u a Ls).2.1) (Ls := tds N u a Ls) (tdr_GP hp h (by omega) h40) (by omega)
        rw [hl] at this
        exact this
    · exact ⟨h, rfl⟩
theorem wf_tidy (w : WF N T R) : WFr (f_tidy N T R) := by
  have hb := prm_b w.1
  have w6 : N 6 ≤ 18 := w.2.2.2.2.2.2.2.1
  have len := srtF_len (N := N) (T := T) (N 6)
  have ok := tdF_ok (u := 0) (show 0 < N 0 by omega) (ltb_GL w) (show 0 + (ltb N T).length = (ltb N T).length by omega)
  rw [ltb_len] at ok
  unfold f_tidy
  rw [ltb_len]
  generalize tdF N (srtF N T (N 6)).length 0 0 (ltb N T) = r at *
  split
  · exact w
  · rename_i h7
    split
    · obtain ⟨a, b, c, d, e, f, g, i, j, k, l, m, n, o⟩ := w
      show WF (nu (nu (usd N r.2.1) 6 r.2.2.length) 13 1) (tdT T r.2.2) R
      have e13 : nu (nu (usd N r.2.1) 6 r.2.2.length) 13 1 13 = 1 := nu_s
      have e6 : nu (nu (usd N r.2.1) 6 r.2.2.length) 13 1 6 = r.2.2.length := (nu_n (by decide)).trans nu_s
      have en : ∀ j, j ≤ 12 → j ≠ 6 → nu (nu (usd N r.2.1) 6 r.2.2.length) 13 1 j = N j := fun j h1 h2 => (nu_n (by omega)).trans ((nu_n h2).trans ((nu_n (by omega)).trans (nu_n (by omega))))
      unfold WF
      rw [e13, e6, en 0 (by decide) (by decide), en 1 (by decide) (by decide), en 2 (by decide) (by decide), en 7 (by decide) (by decide), en 10 (by decide) (by decide), en 11 (by decide) (by decide), en 12 (by decide) (by decide)]
      have cgP : ∀ {P : Po}, GP N P → GP (nu (nu (usd N r.2.1) 6 r.2.2.length) 13 1) P := fun gp => GP_cg (fun j hj => en j (by omega) (by omega)) gp
      have at' : ∀ {q : Nat} {P : Po}, 25 ≤ q → tdT T r.2.2 q = some P → q - 25 < r.2.2.length ∧ P = r.2.2.getD (q - 25) [] := fun hq hT => by
        unfold tdT at hT
        rw [if_neg (by omega)] at hT
        split at hT
        · injection hT with hT
          exact ⟨by omega, hT.symm⟩
        · cases hT
      refine ⟨a, b, c, d, e, f, by omega, by omega, by omega, fun t ht => by omega, ?_, fun q hq => ?_, fun q P hq hT => cgP ?_, fun q P hq hT => ?_⟩
      · unfold tdT; rw [if_pos (by decide)]; exact l
      · constructor
        · intro hq2
          exact ⟨_, by unfold tdT; rw [if_neg (by omega), if_pos (by omega)]⟩
        · rintro ⟨P, hT⟩
          have := (at' (by omega) hT).1
          omega
      · by_cases z : q < 25
        · unfold tdT at hT
          rw [if_pos z] at hT
          exact n q P hq hT
        · obtain ⟨q1, q2⟩ := at' (by omega) hT
          rw [q2]
          exact (ok.1 _ (gmem q1)).1
      · obtain ⟨q1, q2⟩ := at' (by omega) hT
        rw [q2]
        exact (ok.1 _ (gmem q1)).2
    · exact WF_cg (N := N) (fun j hj => (nu_n (by omega)).trans (nu_n (by omega))) w
end OPS
