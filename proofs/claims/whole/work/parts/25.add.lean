/-! sums by two places, as the class makes them, are those made term by term -/
def mrgF (o p k : Nat) (y : Mo) : Nat → Po → Po → Po
  | 0, _, _ => []
  | _ + 1, [], [] => []
  | n + 1, a :: A, [] => a :: mrgF o p k y n A []
  | n + 1, [], b :: B => if (k * b.1) % p = 0 then mrgF o p k y n [] B else ((k * b.1) % p, mm b.2 y) :: mrgF o p k y n [] B
  | n + 1, a :: A, b :: B =>
    if mk o (mm b.2 y) < mk o a.2 then a :: mrgF o p k y n A (b :: B)
    else if mk o a.2 < mk o (mm b.2 y) then (if (k * b.1) % p = 0 then mrgF o p k y n (a :: A) B else ((k * b.1) % p, mm b.2 y) :: mrgF o p k y n (a :: A) B)
    else (if (a.1 + k * b.1) % p = 0 then mrgF o p k y n A B else ((a.1 + k * b.1) % p, mm b.2 y) :: mrgF o p k y n A B)
section MQ1
variable {o p k n : Nat} {y : Mo} {a b : Te} {A B : Po}
theorem mrg_nil : mrgF o p k y n [] [] = [] := by cases n <;> rfl
theorem mrg_r0 (e : k * b.1 % p = 0) : mrgF o p k y (n + 1) [] (b :: B) = mrgF o p k y n [] B := by
  conv => lhs; unfold mrgF
  rw [if_pos e]
theorem mrg_r1 (e : k * b.1 % p ≠ 0) : mrgF o p k y (n + 1) [] (b :: B) = (k * b.1 % p, mm b.2 y) :: mrgF o p k y n [] B := by
  conv => lhs; unfold mrgF
  rw [if_neg e]
theorem mrg_l : mrgF o p k y (n + 1) (a :: A) [] = a :: mrgF o p k y n A [] := rfl
theorem mrg_gt (h : mk o (mm b.2 y) < mk o a.2) : mrgF o p k y (n + 1) (a :: A) (b :: B) = a :: mrgF o p k y n A (b :: B) := by
  conv => lhs; unfold mrgF
  rw [if_pos h]
theorem mrg_lt0 (h : mk o a.2 < mk o (mm b.2 y)) (e : k * b.1 % p = 0) : mrgF o p k y (n + 1) (a :: A) (b :: B) = mrgF o p k y n (a :: A) B := by
  conv => lhs; unfold mrgF
  rw [if_neg (by omega), if_pos h, if_pos e]
theorem mrg_lt1 (h : mk o a.2 < mk o (mm b.2 y)) (e : k * b.1 % p ≠ 0) : mrgF o p k y (n + 1) (a :: A) (b :: B) = (k * b.1 % p, mm b.2 y) :: mrgF o p k y n (a :: A) B := by
  conv => lhs; unfold mrgF
  rw [if_neg (by omega), if_pos h, if_neg e]
theorem mrg_eq0 (h : mk o a.2 = mk o (mm b.2 y)) (e : (a.1 + k * b.1) % p = 0) : mrgF o p k y (n + 1) (a :: A) (b :: B) = mrgF o p k y n A B := by
  conv => lhs; unfold mrgF
  rw [if_neg (by omega), if_neg (by omega), if_pos e]
theorem mrg_eq1 (h : mk o a.2 = mk o (mm b.2 y)) (e : (a.1 + k * b.1) % p ≠ 0) : mrgF o p k y (n + 1) (a :: A) (b :: B) = ((a.1 + k * b.1) % p, mm b.2 y) :: mrgF o p k y n A B := by
  conv => lhs; unfold mrgF
  rw [if_neg (by omega), if_neg (by omega), if_neg e]
end MQ1
theorem mrg_mem {o p k : Nat} {y : Mo} {t : Te} : ∀ {n : Nat} {A B : Po}, t ∈ mrgF o p k y n A B → (∃ a ∈ A, a.2 = t.2) ∨ ∃ b ∈ B, mm b.2 y = t.2 := by
  intro n
  induction n with
  | zero => intro A B h; cases h
  | succ n ih =>
    intro A B h
    cases A with
    | nil =>
      cases B with
      | nil => cases h
      | cons b B =>
        unfold mrgF at h
        have key : t ∈ mrgF o p k y n [] B → (∃ a ∈ ([] : Po), a.2 = t.2) ∨ ∃ b' ∈ b :: B, mm b'.2 y = t.2 := fun h => by
          rcases ih h with q | ⟨c, hc, e⟩
          · exact Or.inl q
          · exact Or.inr ⟨c, List.mem_cons_of_mem _ hc, e⟩
        split at h
        · exact key h
        · rcases List.mem_cons.mp h with e | h
          · exact Or.inr ⟨b, List.mem_cons_self, by rw [e]⟩
          · exact key h
    | cons a A =>
      cases B with
      | nil =>
        unfold mrgF at h
        rcases List.mem_cons.mp h with e | h
        · exact Or.inl ⟨a, List.mem_cons_self, by rw [e]⟩
        · rcases ih h with ⟨c, hc, e⟩ | q
          · exact Or.inl ⟨c, List.mem_cons_of_mem _ hc, e⟩
          · exact Or.inr q
      | cons b B =>
        unfold mrgF at h
        split at h
        · rcases List.mem_cons.mp h with e | h
          · exact Or.inl ⟨a, List.mem_cons_self, by rw [e]⟩
          · rcases ih h with ⟨c, hc, e⟩ | q
            · exact Or.inl ⟨c, List.mem_cons_of_mem _ hc, e⟩
            · exact Or.inr q
        · split at h
          · have key : t ∈ mrgF o p k y n (a :: A) B → (∃ a' ∈ a :: A, a'.2 = t.2) ∨ ∃ b' ∈ b :: B, mm b'.2 y = t.2 := fun h => by
              rcases ih h with q | ⟨c, hc, e⟩
              · exact Or.inl q
              · exact Or.inr ⟨c, List.mem_cons_of_mem _ hc, e⟩
            split at h
            · exact key h
            · rcases List.mem_cons.mp h with e | h
              · exact Or.inr ⟨b, List.mem_cons_self, by rw [e]⟩
              · exact key h
          · have key : t ∈ mrgF o p k y n A B → (∃ a' ∈ a :: A, a'.2 = t.2) ∨ ∃ b' ∈ b :: B, mm b'.2 y = t.2 := fun h => by
              rcases ih h with ⟨c, hc, e⟩ | ⟨c, hc, e⟩
              · exact Or.inl ⟨c, List.mem_cons_of_mem _ hc, e⟩
              · exact Or.inr ⟨c, List.mem_cons_of_mem _ hc, e⟩
            split at h
            · exact key h
            · rcases List.mem_cons.mp h with e | h
              · exact Or.inr ⟨b, List.mem_cons_self, by rw [e]⟩
              · exact key h
/-- the factor's multiple is in order -/
def SdM (o : Nat) (y : Mo) (B : Po) : Prop := B.Pairwise (fun s t => mk o (mm t.2 y) < mk o (mm s.2 y))
theorem SdM_cons {o : Nat} {y : Mo} {t : Te} {L : Po} : SdM o y (t :: L) ↔ (∀ u ∈ L, mk o (mm u.2 y) < mk o (mm t.2 y)) ∧ SdM o y L := List.pairwise_cons
theorem SdM_of {o : Nat} {y : Mo} {B : Po} (h : Sd o B) (hg : ¬ gr B y) : SdM o y B := by
  have hB : ∀ t ∈ B, mle 31 (mm t.2 y) := fun t ht => mle_mono (Classical.byContradiction fun q => hg ⟨t, ht, q⟩) (show 30 ≤ 31 by omega)
  induction B with
  | nil => exact List.Pairwise.nil
  | cons t B ih =>
    have h' := Sd_cons.mp h
    refine SdM_cons.mpr ⟨fun u hu => mk_mm (hB u (List.mem_cons_of_mem _ hu)) (hB t List.mem_cons_self) (h'.1 u hu), ih h'.2 (fun ⟨u, hu, q⟩ => hg ⟨u, List.mem_cons_of_mem _ hu, q⟩) (fun u hu => hB u (List.mem_cons_of_mem _ hu))⟩
theorem mrg_ok {o p k : Nat} {y : Mo} (hp : 0 < p) : ∀ {n : Nat} {A B : Po}, Sd o A → Lz A → Lp p A → L30 A → SdM o y B → (∀ t ∈ B, mle 30 (mm t.2 y)) → A.length + B.length ≤ n →
    Sd o (mrgF o p k y n A B) ∧ Lz (mrgF o p k y n A B) ∧ Lp p (mrgF o p k y n A B) ∧ L30 (mrgF o p k y n A B) ∧ ∀ x, cf (mrgF o p k y n A B) x % p = (cf A x + k * cfm y B x) % p := by
  intro n
  induction n with
  | zero =>
    intro A B hA hz hpp h3 hB h3B hn
    have eA : A = [] := List.eq_nil_of_length_eq_zero (by omega)
    have eB : B = [] := List.eq_nil_of_length_eq_zero (by omega)
    subst eA; subst eB
    exact ⟨Sd_nil, fun _ h => (by cases h), fun _ h => (by cases h), fun _ h => (by cases h), fun x => by simp [mrgF, cf, cfm]⟩
  | succ n ih =>
    intro A B hA hz hpp h3 hB h3B hn
    cases A with
    | nil =>
      cases B with
      | nil => exact ⟨Sd_nil, fun _ h => (by cases h), fun _ h => (by cases h), fun _ h => (by cases h), fun x => by simp [mrgF, cf, cfm]⟩
      | cons b B =>
        have hB' := SdM_cons.mp hB
        have hb := h3B b List.mem_cons_self
        obtain ⟨i1, i2, i3, i4, i5⟩ := ih (A := []) (B := B) hA hz hpp h3 hB'.2 (fun t ht => h3B t (List.mem_cons_of_mem _ ht)) (by simp only [List.length_cons, List.length_nil] at hn ⊢; omega)
        unfold mrgF
        split
        · rename_i e
          refine ⟨i1, i2, i3, i4, fun x => ?_⟩
          rw [i5]
          show (cf [] x + k * cfm y B x) % p = (cf [] x + k * ((if mm b.2 y = x then b.1 else 0) + cfm y B x)) % p
          rw [Nat.mul_add]
          split
          · rw [show cf [] x + (k * b.1 + k * cfm y B x) = k * b.1 + (cf [] x + k * cfm y B x) by omega, Nat.add_mod (k * b.1), e, Nat.zero_add, Nat.mod_mod]
          · rw [Nat.mul_zero, Nat.zero_add]
        · rename_i e
          refine ⟨Sd_cons.mpr ⟨fun u hu => ?_, i1⟩, Lz_cons.mpr ⟨Nat.pos_of_ne_zero e, i2⟩, Lp_cons.mpr ⟨Nat.mod_lt _ hp, i3⟩, L30_cons.mpr ⟨hb, i4⟩, fun x => ?_⟩
          · rcases mrg_mem hu with ⟨c, hc, _⟩ | ⟨c, hc, e2⟩
            · cases hc
            · rw [← e2]; exact hB'.1 c hc
          · show ((if mm b.2 y = x then k * b.1 % p else 0) + cf _ x) % p = (cf [] x + k * ((if mm b.2 y = x then b.1 else 0) + cfm y B x)) % p
            rw [Nat.mul_add, Nat.add_mod, i5]
            split
            · rw [Nat.mod_mod, ← Nat.add_mod]; congr 1; omega
            · rw [Nat.zero_mod, Nat.zero_add, Nat.mod_mod]; congr 1; omega
    | cons a A =>
      have hA' := Sd_cons.mp hA
      have hz' := Lz_cons.mp hz
      have hp' := Lp_cons.mp hpp
      have h3' := L30_cons.mp h3
      cases B with
      | nil =>
        obtain ⟨i1, i2, i3, i4, i5⟩ := ih (A := A) (B := []) hA'.2 hz'.2 hp'.2 h3'.2 hB h3B (by simp only [List.length_cons, List.length_nil] at hn ⊢; omega)
        unfold mrgF
        refine ⟨Sd_cons.mpr ⟨fun u hu => ?_, i1⟩, Lz_cons.mpr ⟨hz'.1, i2⟩, Lp_cons.mpr ⟨hp'.1, i3⟩, L30_cons.mpr ⟨h3'.1, i4⟩, fun x => ?_⟩
        · rcases mrg_mem hu with ⟨c, hc, e2⟩ | ⟨c, hc, e2⟩
          · rw [← e2]; exact hA'.1 c hc
          · cases hc
        · show ((if a.2 = x then a.1 else 0) + cf _ x) % p = ((if a.2 = x then a.1 else 0) + cf A x + _) % p
          rw [Nat.add_mod, i5, ← Nat.add_mod, Nat.add_assoc]
      | cons b B =>
        have hB' := SdM_cons.mp hB
        have hb := h3B b List.mem_cons_self
        have h3B' : ∀ t ∈ B, mle 30 (mm t.2 y) := fun t ht => h3B t (List.mem_cons_of_mem _ ht)
        simp only [List.length_cons] at hn
        unfold mrgF
        split
        · rename_i hlt
          obtain ⟨i1, i2, i3, i4, i5⟩ := ih (A := A) (B := b :: B) hA'.2 hz'.2 hp'.2 h3'.2 hB h3B (by simp only [List.length_cons]; omega)
          refine ⟨Sd_cons.mpr ⟨fun u hu => ?_, i1⟩, Lz_cons.mpr ⟨hz'.1, i2⟩, Lp_cons.mpr ⟨hp'.1, i3⟩, L30_cons.mpr ⟨h3'.1, i4⟩, fun x => ?_⟩
          · rcases mrg_mem hu with ⟨c, hc, e2⟩ | ⟨c, hc, e2⟩
            · rw [← e2]; exact hA'.1 c hc
            · rw [← e2]
              rcases List.mem_cons.mp hc with rfl | hc
              · exact hlt
              · have := hB'.1 c hc; omega
          · show ((if a.2 = x then a.1 else 0) + cf _ x) % p = ((if a.2 = x then a.1 else 0) + cf A x + _) % p
            rw [Nat.add_mod, i5, ← Nat.add_mod, Nat.add_assoc]
        · rename_i hnl
          split
          · rename_i hlt
            obtain ⟨i1, i2, i3, i4, i5⟩ := ih (A := a :: A) (B := B) hA hz hpp h3 hB'.2 h3B' (by simp only [List.length_cons]; omega)
            split
            · rename_i e
              refine ⟨i1, i2, i3, i4, fun x => ?_⟩
              rw [i5]
              show _ = (cf (a :: A) x + k * ((if mm b.2 y = x then b.1 else 0) + cfm y B x)) % p
              rw [Nat.mul_add]
              split
              · rw [show cf (a :: A) x + (k * b.1 + k * cfm y B x) = k * b.1 + (cf (a :: A) x + k * cfm y B x) by omega, Nat.add_mod (k * b.1), e, Nat.zero_add, Nat.mod_mod]
              · rw [Nat.mul_zero, Nat.zero_add]
            · rename_i e
              refine ⟨Sd_cons.mpr ⟨fun u hu => ?_, i1⟩, Lz_cons.mpr ⟨Nat.pos_of_ne_zero e, i2⟩, Lp_cons.mpr ⟨Nat.mod_lt _ hp, i3⟩, L30_cons.mpr ⟨hb, i4⟩, fun x => ?_⟩
              · rcases mrg_mem hu with ⟨c, hc, e2⟩ | ⟨c, hc, e2⟩
                · rw [← e2]
                  rcases List.mem_cons.mp hc with rfl | hc
                  · exact hlt
                  · have := hA'.1 c hc; show mk o c.2 < mk o (mm b.2 y); omega
                · rw [← e2]; exact hB'.1 c hc
              · show ((if mm b.2 y = x then k * b.1 % p else 0) + cf _ x) % p = (cf (a :: A) x + k * ((if mm b.2 y = x then b.1 else 0) + cfm y B x)) % p
                rw [Nat.mul_add, Nat.add_mod, i5]
                split
                · rw [Nat.mod_mod, ← Nat.add_mod]; congr 1; omega
                · rw [Nat.zero_mod, Nat.zero_add, Nat.mod_mod]; congr 1; omega
          · rename_i hnl2
            have eab : a.2 = mm b.2 y := mk_inj (o := o) (mle_mono h3'.1 (by omega)) (mle_mono hb (by omega)) (by omega)
            obtain ⟨i1, i2, i3, i4, i5⟩ := ih (A := A) (B := B) hA'.2 hz'.2 hp'.2 h3'.2 hB'.2 h3B' (by omega)
            have ecf : ∀ x, (cf (a :: A) x + k * cfm y (b :: B) x) = ((if mm b.2 y = x then a.1 + k * b.1 else 0) + (cf A x + k * cfm y B x)) := fun x => by
              show ((if a.2 = x then a.1 else 0) + cf A x) + k * ((if mm b.2 y = x then b.1 else 0) + cfm y B x) = _
              rw [eab, Nat.mul_add]
              split
              · omega
              · omega
            split
            · rename_i e
              refine ⟨i1, i2, i3, i4, fun x => ?_⟩
              rw [i5, ecf]
              split
              · rw [Nat.add_mod (a.1 + k * b.1), e, Nat.zero_add, Nat.mod_mod]
              · rw [Nat.zero_add]
            · rename_i e
              refine ⟨Sd_cons.mpr ⟨fun u hu => ?_, i1⟩, Lz_cons.mpr ⟨Nat.pos_of_ne_zero e, i2⟩, Lp_cons.mpr ⟨Nat.mod_lt _ hp, i3⟩, L30_cons.mpr ⟨hb, i4⟩, fun x => ?_⟩
              · rcases mrg_mem hu with ⟨c, hc, e2⟩ | ⟨c, hc, e2⟩
                · rw [← e2]
                  show mk o c.2 < mk o (mm b.2 y)
                  rw [← eab]; exact hA'.1 c hc
                · rw [← e2]; exact hB'.1 c hc
              · rw [ecf]
                show ((if mm b.2 y = x then (a.1 + k * b.1) % p else 0) + cf _ x) % p = _
                rw [Nat.add_mod, i5]
                split
                · rw [Nat.mod_mod, ← Nat.add_mod]
                · rw [Nat.zero_mod, Nat.zero_add, Nat.mod_mod, Nat.zero_add]
/-- a polynomial as it is held: in order, no 0, all in range -/
def Cn (o p : Nat) (P : Po) : Prop := Sd o P ∧ Lz P ∧ Lp p P ∧ L30 P
theorem mrg_eq {o p k n : Nat} {y : Mo} {A B : Po} (hp : 0 < p) (hA : Cn o p A) (hB : Sd o B) (hg : ¬ gr B y) (hn : A.length + B.length ≤ n) : mrgF o p k y n A B = clean (addT o p B k y A) := by
  obtain ⟨a1, a2, a3, a4⟩ := hA
  have h3B : ∀ t ∈ B, mle 30 (mm t.2 y) := fun t ht => Classical.byContradiction fun q => hg ⟨t, ht, q⟩
  obtain ⟨i1, i2, i3, i4, i5⟩ := mrg_ok (k := k) hp a1 a2 a3 a4 (SdM_of hB hg) h3B hn
  refine uniq i1 (clean_Sd (addT_Sd a1)) i4 (clean_L30 (addT_L30 hg a4)) i3 (clean_Lp (addT_Lp hp a3)) i2 clean_Lz (fun x => ?_)
  rw [i5, clean_cf, addT_cf hg a4]
