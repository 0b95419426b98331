/-! what holds at the start; the claim's walk -/
theorem Z_poly : ∀ q, q < 242 → kd q = (3, 2) → lpR 25 q 0 = some (.inl (nI (q + 1))) ∧ lpR 25 q 1 = some (.inl (nI (q + 2))) := by decide +kernel
theorem Z_20 : ∀ j, j < 24 → lpR 25 20 j = some (.inl (nI (22 + 3 * j))) := by decide +kernel
theorem Z_108 : ∀ j, j < 18 → lpR 25 108 j = some (.inl (nI (114 + 6 * j))) := by decide +kernel
theorem Z_109 : ∀ j, j < 18 → lpR 25 109 j = some (.inl (nI (117 + 6 * j))) := by decide +kernel
theorem Z_21 : ∀ j, j < 24 → lpR 25 21 j = some (.inl 0) := by decide +kernel
theorem Z_225 : ∀ j, j < 25 → 1 ≤ j → lpR 25 225 j = some (.inl (-1)) := by decide +kernel
theorem Z_okS {z3 z4 : Int32} {S : St} (h : Hs z3 z4 (lpR 25) S) : okS S := by
  refine ⟨fun q hq hk => ⟨h q 0 _ (Z_poly q hq hk).1, h q 1 _ (Z_poly q hq hk).2⟩, fun j hj => h 20 j _ (Z_20 j hj), fun j hj => h 108 j _ (Z_108 j hj), fun j hj => h 109 j _ (Z_109 j hj), h 104 0 (.inl (nI 1)) (by decide +kernel), h 104 1 (.inl (nI 94)) (by decide +kernel), h 104 2 (.inl (nI 105)) (by decide +kernel), h 104 3 (.inl (nI 108)) (by decide +kernel), h 104 4 (.inl (nI 109)) (by decide +kernel), h 104 5 (.inl (nI 110)) (by decide +kernel), h 104 6 (.inl (nI 111)) (by decide +kernel), h 105 0 (.inl (nI 106)) (by decide +kernel), h 105 1 (.inl (nI 107)) (by decide +kernel), h 94 0 (.inl (nI 1)) (by decide +kernel), h 94 1 (.inl (nI 95)) (by decide +kernel), h 94 2 (.inl (nI 98)) (by decide +kernel), h 94 3 (.inl (nI 101)) (by decide +kernel), h 1 3 (.inl (nI 2)) (by decide +kernel), h 1 4 (.inl (nI 3)) (by decide +kernel), h 1 5 (.inl (nI 4)) (by decide +kernel), h 1 6 (.inl (nI 7)) (by decide +kernel), h 19 0 (.inl (nI 20)) (by decide +kernel), h 19 1 (.inl (nI 21)) (by decide +kernel), h 222 0 (.inl (nI 1)) (by decide +kernel), h 222 1 (.inl (nI 104)) (by decide +kernel), h 222 2 (.inl (nI 223)) (by decide +kernel), h 0 0 (.inl (nI 1)) (by decide +kernel), h 0 1 (.inl (nI 10)) (by decide +kernel), h 0 2 (.inl (nI 13)) (by decide +kernel), h 0 3 (.inl (nI 16)) (by decide +kernel), h 0 4 (.inl (nI 19)) (by decide +kernel), h 0 5 (.inl (nI 94)) (by decide +kernel), h 0 6 (.inl (nI 104)) (by decide +kernel), h 0 7 (.inl (nI 222)) (by decide +kernel), h 224 3 (.inl (nI 225)) (by decide +kernel), h 224 4 (.inl (nI 226)) (by decide +kernel), h 224 5 (.inl (nI 227)) (by decide +kernel), h 224 8 (.inl (nI 228)) (by decide +kernel), h 224 9 (.inl (nI 229)) (by decide +kernel), h 224 21 (.inl (nI 230)) (by decide +kernel), h 224 22 (.inl (nI 231)) (by decide +kernel), h 224 23 (.inl (nI 232)) (by decide +kernel), h 224 24 (.inl (nI 233)) (by decide +kernel), h 224 25 (.inl (nI 234)) (by decide +kernel), h 224 26 (.inl (nI 235)) (by decide +kernel), h 224 28 (.inl (nI 236)) (by decide +kernel), h 224 31 (.inl (nI 237)) (by decide +kernel), h 224 32 (.inl (nI 238)) (by decide +kernel), h 224 33 (.inl (nI 239)) (by decide +kernel), h 224 36 (.inl (nI 240)) (by decide +kernel), h 224 37 (.inl (nI 241)) (by decide +kernel)⟩
def N0 (p n : Nat) : Nat → Nat := fun j => if j = 0 then p else if j = 1 then n else if j = 2 then 2 else if j = 10 then 500 else 0
def T0 : Nat → Option Po := fun k => if k = 0 then some [] else none
def R0 : Nat → Nat × Nat := fun _ => (0, 0)
theorem T0_none {k : Nat} (h : k ≠ 0) : T0 k = none := if_neg h
theorem T0_some {k : Nat} {P : Po} (h : T0 k = some P) : k = 0 ∧ P = [] := by
  unfold T0 at h
  split at h
  · rename_i e
    injection h with h
    exact ⟨e, h.symm⟩
  · cases h
theorem Z_WF (x1 x2 : Int32) : WF (N0 (pN x1) (nN x2)) T0 R0 := by
  refine ⟨pN_prm x1, nN_b x2, by show 2 < 4; decide, by show 500 ≤ 2000; decide, by show 0 ≤ 1; decide, by show 0 ≤ 3; decide, by show 0 ≤ 1; decide, by show 0 ≤ 18; decide, Nat.le_refl _, fun t ht => absurd ht (Nat.not_lt_zero t), ⟨[], rfl⟩, fun i hi => ⟨fun z => absurd z (Nat.not_lt_zero i), fun z => ?_⟩, fun k P hk hT => ?_, fun i P hi _ => absurd hi (Nat.not_lt_zero i)⟩
  · obtain ⟨P, hP⟩ := z
    have := (T0_some hP).1
    omega
  · rw [(T0_some hT).2]
    exact ⟨Cn_nil, Nat.zero_le _, fun _ z => nomatch z⟩
theorem Z_RC {x1 x2 : Int32} {S : St} (h : Hs (nI (pN x1)) (nI (nN x2)) (lpR 25) S) : RC 108 95 (N0 (pN x1) (nN x2)) T0 R0 S := by
  refine ⟨Or.inl rfl, Or.inl rfl, fun x hx => ?_, ⟨h 104 3 (.inl (nI 108)) (by decide +kernel), h 104 4 (.inl (nI 109)) (by decide +kernel), h 94 1 (.inl (nI 95)) (by decide +kernel), h 94 2 (.inl (nI 98)) (by decide +kernel)⟩, fun k P hk hT => ?_, fun k hk => ?_, h 19 2 (.inl 0) (by decide +kernel), ?_, ?_, fun t ht => absurd ht (Nat.not_lt_zero t)⟩
  · simp only [scT, List.mem_cons, List.not_mem_nil, or_false] at hx
    rcases hx with rfl | rfl | rfl | rfl | rfl | rfl | rfl | rfl | rfl | rfl | rfl | rfl | rfl | rfl | rfl
    · exact h 1 0 (.inr false) (by decide +kernel)
    · exact h 1 1 (.inr true) (by decide +kernel)
    · exact h 1 2 (.inl 2) (by decide +kernel)
    · exact h 94 4 (.inl 500) (by decide +kernel)
    · exact h 94 5 (.inl 0) (by decide +kernel)
    · exact h 94 6 (.inl 0) (by decide +kernel)
    · exact h 104 7 (.inl 0) (by decide +kernel)
    · exact h 104 8 (.inl 0) (by decide +kernel)
    · exact h 104 9 (.inl 0) (by decide +kernel)
    · exact h 104 10 (.inl 0) (by decide +kernel)
    · exact h 104 11 (.inl 0) (by decide +kernel)
    · exact h 104 12 (.inl 0) (by decide +kernel)
    · exact h 104 13 (.inl 0) (by decide +kernel)
    · exact h 104 14 (.inl 0) (by decide +kernel)
    · exact h 105 2 (.inl 0) (by decide +kernel)
  · obtain ⟨e1, e2⟩ := T0_some hT
    subst e1; subst e2
    exact PC_nil (h 10 2 (.inl 0) (by decide +kernel))
  · rw [T0_none (show 1 + k ≠ 0 by omega)]
    exact h 21 k (.inl 0) (Z_21 k hk)
  · refine ⟨h 13 2 (.inl 1) (by decide +kernel), by decide, fun t ht => ?_⟩
    have ht : t < 1 := ht
    have e : t = 0 := by omega
    subst e
    exact ⟨h 14 0 (.inl 1) (by decide +kernel), h 15 0 (.inl 0) (by decide +kernel)⟩
  · exact PC_nil (h 4 2 (.inl 0) (by decide +kernel))
theorem Z_M9 {x1 x2 : Int32} {S : St} (h : Hs (nI (pN x1)) (nI (nN x2)) (lpR 25) S) : M9 (N0 (pN x1) (nN x2)) T0 R0 S := by
  refine ⟨fun j hj => ?_, fun k P hk hT => ?_, fun k k1 k2 _ => h 225 k (.inl (-1)) (Z_225 k k2 k1), fun t ht => absurd ht (Nat.not_lt_zero t)⟩
  · simp only [sc9, List.mem_cons, List.not_mem_nil, or_false] at hj
    rcases hj with rfl | rfl | rfl | rfl | rfl | rfl | rfl | rfl | rfl | rfl | rfl | rfl | rfl | rfl | rfl
    · exact h 224 0 (.inr false) (by decide +kernel)
    · exact h 224 1 (.inr true) (by decide +kernel)
    · exact h 224 2 (.inl 2) (by decide +kernel)
    · exact h 224 6 (.inl 0) (by decide +kernel)
    · exact h 224 7 (.inl 0) (by decide +kernel)
    · exact h 224 10 (.inl 500) (by decide +kernel)
    · exact h 224 11 (.inl 0) (by decide +kernel)
    · exact h 224 12 (.inl 0) (by decide +kernel)
    · exact h 224 13 (.inl 0) (by decide +kernel)
    · exact h 224 14 (.inl 0) (by decide +kernel)
    · exact h 224 15 (.inl 0) (by decide +kernel)
    · exact h 224 16 (.inl 0) (by decide +kernel)
    · exact h 224 17 (.inl 0) (by decide +kernel)
    · exact h 224 18 (.inl 0) (by decide +kernel)
    · exact h 224 19 (.inl 0) (by decide +kernel)
  · obtain ⟨e1, e2⟩ := T0_some hT
    subst e1; subst e2
    exact ⟨h 225 0 (.inl 0) (by decide +kernel), by decide, fun t ht => absurd ht (Nat.not_lt_zero t)⟩
theorem init_all : init_ok PI := by
  intro x1 x2 S
  exact c_make S (fun S1 h1 => m_make h1 (fun S2 h2 => ⟨Z_okS h2, N0 (pN x1) (nN x2), T0, R0, Z_WF x1 x2, ⟨108, 95, Z_RC h2⟩, Z_M9 h2⟩))
theorem whole_start {p : Program} {e : Env} {s : State} {m : MethodId} {below : List Frame} {meth : Method} {c : Code} (l : Launch) (hflags : l.flags = flags0) {b L : Nat} {xs : Nat → Int32} (hL : L ≤ 3074) (C0 : lw_At p s m meth c b L xs) : W p l e room_1 s m #[Value.ref b] below meth c s.heap [] 0 0 (lw_Z below #[Value.ref b] s) (entryFrame m ([Value.ref b] : List Value).toArray 4) :=
  whole_open l hL C0 PI law_all init_all
