/-! rows of terms in order: what is put in, what they come to; a row without 0 is told by its coefficients -/
def Sd (o : Nat) (L : Po) : Prop := L.Pairwise (fun s t => mk o t.2 < mk o s.2)
def L30 (L : Po) : Prop := ∀ t ∈ L, mle 30 t.2
def Lp (p : Nat) (L : Po) : Prop := ∀ t ∈ L, t.1 < p
def Lz (L : Po) : Prop := ∀ t ∈ L, 0 < t.1
def cf : Po → Mo → Nat
  | [], _ => 0
  | t :: L, x => (if t.2 = x then t.1 else 0) + cf L x
def cfm (y : Mo) : Po → Mo → Nat
  | [], _ => 0
  | t :: L, x => (if mm t.2 y = x then t.1 else 0) + cfm y L x
theorem Sd_nil {o : Nat} : Sd o [] := List.Pairwise.nil
theorem Sd_cons {o : Nat} {t : Te} {L : Po} : Sd o (t :: L) ↔ (∀ u ∈ L, mk o u.2 < mk o t.2) ∧ Sd o L := List.pairwise_cons
theorem L30_cons {t : Te} {L : Po} : L30 (t :: L) ↔ mle 30 t.2 ∧ L30 L := List.forall_mem_cons
theorem Lp_cons {p : Nat} {t : Te} {L : Po} : Lp p (t :: L) ↔ t.1 < p ∧ Lp p L := List.forall_mem_cons
theorem Lz_cons {t : Te} {L : Po} : Lz (t :: L) ↔ 0 < t.1 ∧ Lz L := List.forall_mem_cons
theorem cf_lt {o : Nat} {x : Mo} : ∀ {L : Po}, (∀ t ∈ L, mk o t.2 < mk o x) → cf L x = 0 := by
  intro L
  induction L with
  | nil => intro _; rfl
  | cons t L ih =>
    intro h
    have h1 := h t List.mem_cons_self
    unfold cf
    rw [if_neg (fun e => by rw [e] at h1; omega), ih (fun u hu => h u (List.mem_cons_of_mem _ hu))]
theorem mod_cancel {a b c p : Nat} (h : (a + b) % p = (a + c) % p) : b % p = c % p := by
  by_cases hp : p = 0
  · subst hp; simp at h; rw [h]
  · have e1 := Nat.div_add_mod (a + b) p
    have e2 := Nat.div_add_mod (a + c) p
    rcases Nat.le_total b c with q | q
    · have e : c = b + p * ((a + c) / p - (a + b) / p) := by
        have : (a + b) / p ≤ (a + c) / p := Nat.div_le_div_right (by omega)
        rw [Nat.mul_sub]
        have := Nat.mul_le_mul_left p this
        omega
      rw [e, Nat.add_mul_mod_self_left]
    · have e : b = c + p * ((a + b) / p - (a + c) / p) := by
        have : (a + c) / p ≤ (a + b) / p := Nat.div_le_div_right (by omega)
        rw [Nat.mul_sub]
        have := Nat.mul_le_mul_left p this
        omega
      rw [e, Nat.add_mul_mod_self_left]
theorem uniq {o p : Nat} : ∀ {L M : Po}, Sd o L → Sd o M → L30 L → L30 M → Lp p L → Lp p M → Lz L → Lz M → (∀ x, cf L x % p = cf M x % p) → L = M := by
  intro L
  induction L with
  | nil =>
    intro M _ hM _ _ _ hpM _ hzM h
    cases M with
    | nil => rfl
    | cons t M =>
      have h1 := h t.2
      have hs := (Sd_cons.mp hM).1
      simp only [cf, if_true, cf_lt hs, Nat.add_zero, Nat.zero_mod] at h1
      rw [Nat.mod_eq_of_lt (Lp_cons.mp hpM).1] at h1
      have := (Lz_cons.mp hzM).1
      omega
  | cons s L ih =>
    intro M hL hM h3L h3M hpL hpM hzL hzM h
    have hs := Sd_cons.mp hL
    have zs := (Lz_cons.mp hzL).1
    have ps := (Lp_cons.mp hpL).1
    cases M with
    | nil =>
      have h1 := h s.2
      simp only [cf, if_true, cf_lt hs.1, Nat.add_zero, Nat.zero_mod] at h1
      rw [Nat.mod_eq_of_lt ps] at h1
      omega
    | cons t M =>
      have ht := Sd_cons.mp hM
      have zt := (Lz_cons.mp hzM).1
      have pt := (Lp_cons.mp hpM).1
      have m3s := mle_mono (L30_cons.mp h3L).1 (show 30 ≤ 31 by omega)
      have m3t := mle_mono (L30_cons.mp h3M).1 (show 30 ≤ 31 by omega)
      rcases Nat.lt_trichotomy (mk o s.2) (mk o t.2) with q | q | q
      · exfalso
        have h1 := h t.2
        have e1 : cf (s :: L) t.2 = 0 := cf_lt (o := o) (fun u hu => by
          rcases List.mem_cons.mp hu with rfl | hu
          · exact q
          · have := hs.1 u hu; omega)
        simp only [cf, if_true, cf_lt ht.1, Nat.add_zero] at h1
        rw [show (if s.2 = t.2 then s.1 else 0) + cf L t.2 = 0 from e1, Nat.zero_mod, Nat.mod_eq_of_lt pt] at h1
        omega
      · have e2 : s.2 = t.2 := mk_inj m3s m3t q
        have h1 := h t.2
        simp only [cf, if_true, e2] at h1
        rw [← e2, cf_lt hs.1, e2, cf_lt ht.1, Nat.add_zero, Nat.add_zero, Nat.mod_eq_of_lt ps, Nat.mod_eq_of_lt pt] at h1
        have est : s = t := Prod.ext h1 e2
        subst est
        rw [ih hs.2 ht.2 (L30_cons.mp h3L).2 (L30_cons.mp h3M).2 (Lp_cons.mp hpL).2 (Lp_cons.mp hpM).2 (Lz_cons.mp hzL).2 (Lz_cons.mp hzM).2 (fun x => mod_cancel (h x))]
      · exfalso
        have h1 := h s.2
        have e1 : cf (t :: M) s.2 = 0 := cf_lt (o := o) (fun u hu => by
          rcases List.mem_cons.mp hu with rfl | hu
          · exact q
          · have := ht.1 u hu; omega)
        simp only [cf, if_true, cf_lt hs.1, Nat.add_zero] at h1
        rw [show (if t.2 = s.2 then t.1 else 0) + cf M s.2 = 0 from e1, Nat.zero_mod, Nat.mod_eq_of_lt ps] at h1
        omega
/-- a term is put into a row in order -/
def ins (o p c : Nat) (m : Mo) : Po → Po
  | [] => [(c, m)]
  | t :: L => if mk o m < mk o t.2 then t :: ins o p c m L else if mk o m = mk o t.2 then ((t.1 + c) % p, t.2) :: L else (c, m) :: t :: L
def clean (L : Po) : Po := L.filter (fun t => decide (t.1 ≠ 0))
/-- a multiple of a row is put in, term by term -/
def addT (o p : Nat) (B : Po) (k : Nat) (y : Mo) (L : Po) : Po := if k = 0 then L else B.foldl (fun L t => ins o p (t.1 * k % p) (mm t.2 y) L) L
/-- some product is too great -/
def gr (B : Po) (y : Mo) : Prop := ∃ t ∈ B, ¬ mle 30 (mm t.2 y)
theorem ins_mem {o p c : Nat} {m : Mo} {L : Po} {t : Te} (h : t ∈ ins o p c m L) : t.2 = m ∨ ∃ u ∈ L, u.2 = t.2 := by
  induction L with
  | nil => simp [ins] at h; left; rw [h]
  | cons u L ih =>
    unfold ins at h
    split at h
    · rcases List.mem_cons.mp h with rfl | h
      · exact Or.inr ⟨_, List.mem_cons_self, rfl⟩
      · rcases ih h with e | ⟨v, hv, e⟩
        · exact Or.inl e
        · exact Or.inr ⟨v, List.mem_cons_of_mem _ hv, e⟩
    · split at h
      · rcases List.mem_cons.mp h with rfl | h
        · exact Or.inr ⟨u, List.mem_cons_self, rfl⟩
        · exact Or.inr ⟨t, List.mem_cons_of_mem _ h, rfl⟩
      · rcases List.mem_cons.mp h with rfl | h
        · exact Or.inl rfl
        · exact Or.inr ⟨t, h, rfl⟩
theorem ins_Lp {o p c : Nat} {m : Mo} {L : Po} (hp : 0 < p) (hc : c < p) (h : Lp p L) : Lp p (ins o p c m L) := by
  induction L with
  | nil => intro t ht; simp [ins] at ht; rw [ht]; exact hc
  | cons u L ih =>
    unfold ins
    have h' := Lp_cons.mp h
    split
    · exact Lp_cons.mpr ⟨h'.1, ih h'.2⟩
    · split
      · exact Lp_cons.mpr ⟨Nat.mod_lt _ hp, h'.2⟩
      · exact Lp_cons.mpr ⟨hc, h⟩
theorem ins_L30 {o p c : Nat} {m : Mo} {L : Po} (hm : mle 30 m) (h : L30 L) : L30 (ins o p c m L) := by
  intro t ht
  rcases ins_mem ht with e | ⟨u, hu, e⟩
  · rw [e]; exact hm
  · rw [← e]; exact h u hu
theorem ins_Sd {o p c : Nat} {m : Mo} {L : Po} (h : Sd o L) : Sd o (ins o p c m L) := by
  induction L with
  | nil => exact Sd_cons.mpr ⟨fun _ h => (by cases h), Sd_nil⟩
  | cons u L ih =>
    have h' := Sd_cons.mp h
    unfold ins
    split
    · rename_i hlt
      refine Sd_cons.mpr ⟨fun t ht => ?_, ih h'.2⟩
      rcases ins_mem ht with e | ⟨v, hv, e⟩
      · rw [e]; exact hlt
      · rw [← e]; exact h'.1 v hv
    · split
      · exact Sd_cons.mpr ⟨h'.1, h'.2⟩
      · refine Sd_cons.mpr ⟨fun t ht => ?_, h⟩
        rcases List.mem_cons.mp ht with rfl | ht
        · show mk o t.2 < mk o m; omega
        · have := h'.1 t ht; show mk o t.2 < mk o m; omega
theorem ins_len {o p c : Nat} {m : Mo} {L : Po} : (ins o p c m L).length ≤ L.length + 1 := by
  induction L with
  | nil => exact Nat.le_refl _
  | cons u L ih =>
    unfold ins
    split
    · simp only [List.length_cons]; omega
    · split
      · simp only [List.length_cons]; omega
      · simp only [List.length_cons]; omega
theorem ins_cf {o p c : Nat} {m : Mo} {L : Po} (hm : mle 30 m) (h : L30 L) (x : Mo) : cf (ins o p c m L) x % p = (cf L x + (if m = x then c else 0)) % p := by
  induction L with
  | nil => simp [ins, cf]
  | cons u L ih =>
    have h' := L30_cons.mp h
    unfold ins
    split
    · show ((if u.2 = x then u.1 else 0) + cf (ins o p c m L) x) % p = ((if u.2 = x then u.1 else 0) + cf L x + _) % p
      rw [Nat.add_mod, ih h'.2, ← Nat.add_mod, Nat.add_assoc]
    · split
      · rename_i heq
        have e : m = u.2 := mk_inj (mle_mono hm (by omega)) (mle_mono h'.1 (by omega)) heq
        subst e
        show ((if u.2 = x then (u.1 + c) % p else 0) + cf L x) % p = ((if u.2 = x then u.1 else 0) + cf L x + (if u.2 = x then c else 0)) % p
        split
        · rw [Nat.add_mod, Nat.mod_mod, ← Nat.add_mod]
          congr 1
          omega
        · rfl
      · show ((if m = x then c else 0) + ((if u.2 = x then u.1 else 0) + cf L x)) % p = ((if u.2 = x then u.1 else 0) + cf L x + _) % p
        congr 1
        omega
theorem clean_cf {L : Po} (x : Mo) : cf (clean L) x = cf L x := by
  induction L with
  | nil => rfl
  | cons u L ih =>
    unfold clean at *
    by_cases h : u.1 = 0
    · rw [List.filter_cons_of_neg (by simp [h])]
      show _ = (if u.2 = x then u.1 else 0) + cf L x
      rw [ih, h]
      split <;> omega
    · rw [List.filter_cons_of_pos (by simp [h])]
      show (if u.2 = x then u.1 else 0) + cf _ x = (if u.2 = x then u.1 else 0) + cf L x
      rw [ih]
theorem clean_Sd {o : Nat} {L : Po} (h : Sd o L) : Sd o (clean L) := List.Pairwise.filter _ h
theorem clean_L30 {L : Po} (h : L30 L) : L30 (clean L) := fun t ht => h t (List.mem_filter.mp ht).1
theorem clean_Lp {p : Nat} {L : Po} (h : Lp p L) : Lp p (clean L) := fun t ht => h t (List.mem_filter.mp ht).1
theorem clean_Lz {L : Po} : Lz (clean L) := fun t ht => by
  have := (List.mem_filter.mp ht).2
  simp at this
  omega
theorem clean_id {L : Po} (h : Lz L) : clean L = L := by
  unfold clean
  apply List.filter_eq_self.mpr
  intro t ht
  have := h t ht
  simp
  omega
theorem fold_Sd {o p k : Nat} {y : Mo} : ∀ {B L : Po}, Sd o L → Sd o (B.foldl (fun L t => ins o p (t.1 * k % p) (mm t.2 y) L) L) := by
  intro B
  induction B with
  | nil => intro L h; exact h
  | cons t B ih => intro L h; exact ih (ins_Sd h)
theorem fold_Lp {o p k : Nat} {y : Mo} (hp : 0 < p) : ∀ {B L : Po}, Lp p L → Lp p (B.foldl (fun L t => ins o p (t.1 * k % p) (mm t.2 y) L) L) := by
  intro B
  induction B with
  | nil => intro L h; exact h
  | cons t B ih => intro L h; exact ih (ins_Lp hp (Nat.mod_lt _ hp) h)
theorem fold_L30 {o p k : Nat} {y : Mo} : ∀ {B L : Po}, (∀ t ∈ B, mle 30 (mm t.2 y)) → L30 L → L30 (B.foldl (fun L t => ins o p (t.1 * k % p) (mm t.2 y) L) L) := by
  intro B
  induction B with
  | nil => intro L _ h; exact h
  | cons t B ih => intro L hB h; exact ih (fun u hu => hB u (List.mem_cons_of_mem _ hu)) (ins_L30 (hB t List.mem_cons_self) h)
theorem fold_len {o p k : Nat} {y : Mo} : ∀ {B L : Po}, (B.foldl (fun L t => ins o p (t.1 * k % p) (mm t.2 y) L) L).length ≤ L.length + B.length := by
  intro B
  induction B with
  | nil => intro L; exact Nat.le_refl _
  | cons t B ih =>
    intro L
    have h1 := ih (L := ins o p (t.1 * k % p) (mm t.2 y) L)
    have h2 := ins_len (o := o) (p := p) (c := t.1 * k % p) (m := mm t.2 y) (L := L)
    rw [List.foldl_cons, List.length_cons]
    omega
theorem fold_cf {o p k : Nat} {y : Mo} : ∀ {B L : Po}, (∀ t ∈ B, mle 30 (mm t.2 y)) → L30 L → ∀ x, cf (B.foldl (fun L t => ins o p (t.1 * k % p) (mm t.2 y) L) L) x % p = (cf L x + k * cfm y B x) % p := by
  intro B
  induction B with
  | nil => intro L _ h x; simp [cfm]
  | cons t B ih =>
    intro L hB h x
    have ht := hB t List.mem_cons_self
    show cf (B.foldl _ (ins o p (t.1 * k % p) (mm t.2 y) L)) x % p = _
    rw [ih (fun u hu => hB u (List.mem_cons_of_mem _ hu)) (ins_L30 ht h), Nat.add_mod, ins_cf ht h]
    show _ = (cf L x + k * ((if mm t.2 y = x then t.1 else 0) + cfm y B x)) % p
    rw [← Nat.add_mod, Nat.mul_add]
    split
    · rw [show cf L x + t.1 * k % p + k * cfm y B x = (cf L x + k * cfm y B x) + t.1 * k % p by omega, Nat.add_mod, Nat.mod_mod, ← Nat.add_mod, Nat.mul_comm t.1 k]
      congr 1
      omega
    · congr 1
      omega
theorem addT_Sd {o p k : Nat} {y : Mo} {B L : Po} (h : Sd o L) : Sd o (addT o p B k y L) := by
  unfold addT; split
  · exact h
  · exact fold_Sd h
theorem addT_Lp {o p k : Nat} {y : Mo} {B L : Po} (hp : 0 < p) (h : Lp p L) : Lp p (addT o p B k y L) := by
  unfold addT; split
  · exact h
  · exact fold_Lp hp h
theorem addT_L30 {o p k : Nat} {y : Mo} {B L : Po} (hB : ¬ gr B y) (h : L30 L) : L30 (addT o p B k y L) := by
  unfold addT; split
  · exact h
  · exact fold_L30 (fun t ht => Classical.byContradiction fun q => hB ⟨t, ht, q⟩) h
theorem addT_len {o p k : Nat} {y : Mo} {B L : Po} : (addT o p B k y L).length ≤ L.length + B.length := by
  unfold addT; split
  · omega
  · exact fold_len
theorem addT_cf {o p k : Nat} {y : Mo} {B L : Po} (hB : ¬ gr B y) (h : L30 L) (x : Mo) : cf (addT o p B k y L) x % p = (cf L x + k * cfm y B x) % p := by
  unfold addT; split
  · rename_i e; rw [e, Nat.zero_mul, Nat.add_zero]
  · exact fold_cf (fun t ht => Classical.byContradiction fun q => hB ⟨t, ht, q⟩) h x
