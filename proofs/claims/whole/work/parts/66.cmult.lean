/-! the class: a product is made from its greatest monomial down -/
def rmF (A B : Po) (u : Nat → Nat) (x : Mo) : Nat → Nat
  | 0 => 0
  | k + 1 => rmF A B u x k + pc A k * cfm (pm A k) (B.drop (u k)) x
def pr (A B : Po) (u : Nat → Nat) (k : Nat) : Mo := mm (pm B (u k)) (pm A k)
def gtF (o : Nat) (A B : Po) (u : Nat → Nat) : Nat → Option Mo
  | 0 => none
  | k + 1 => if u k < B.length then (match gtF o A B u k with
    | none => some (pr A B u k)
    | some g => if mk o g < mk o (pr A B u k) then some (pr A B u k) else some g) else gtF o A B u k
def tkF (p : Nat) (A B : Po) (u : Nat → Nat) (g : Mo) : Nat → Nat
  | 0 => 0
  | k + 1 => if u k < B.length ∧ en (pr A B u k) = en g then (tkF p A B u g k + pc A k * pc B (u k)) % p else tkF p A B u g k
def adv (A B : Po) (u : Nat → Nat) (g : Mo) : Nat → Nat := fun i => if i < A.length ∧ u i < B.length ∧ en (pr A B u i) = en g then u i + 1 else u i
def mulF (o p : Nat) (A B : Po) : Nat → (Nat → Nat) → Po
  | 0, _ => []
  | n + 1, u => match gtF o A B u A.length with
    | none => []
    | some g => if tkF p A B u g A.length = 0 then mulF o p A B n (adv A B u g) else (tkF p A B u g A.length, g) :: mulF o p A B n (adv A B u g)
def msr (B : Po) (u : Nat → Nat) : Nat → Nat
  | 0 => 0
  | k + 1 => msr B u k + (B.length - u k)
section MU
variable {o p : Nat} {A B : Po} {u : Nat → Nat}
theorem gt_none : ∀ {k : Nat}, gtF o A B u k = none → ∀ i, i < k → B.length ≤ u i
  | 0, _, i, h => absurd h (Nat.not_lt_zero i)
  | k + 1, h, i, hi => by
    unfold gtF at h
    split at h
    · split at h
      · cases h
      · split at h <;> cases h
    · rename_i q
      by_cases e : i = k
      · rw [e]; omega
      · exact gt_none h i (by omega)
theorem gt_some : ∀ {k : Nat} {g : Mo}, gtF o A B u k = some g → (∃ i, i < k ∧ u i < B.length ∧ pr A B u i = g) ∧ ∀ i, i < k → u i < B.length → mk o (pr A B u i) ≤ mk o g
  | 0, g, h => by cases h
  | k + 1, g, h => by
    unfold gtF at h
    split at h
    · rename_i q
      split at h
      · rename_i e
        injection h with h
        refine ⟨⟨k, by omega, q, h⟩, fun i hi hu => ?_⟩
        by_cases e2 : i = k
        · rw [e2, h]; exact Nat.le_refl _
        · have := gt_none e i (by omega); omega
      · rename_i g2 e
        obtain ⟨⟨i, i1, i2, i3⟩, i4⟩ := gt_some e
        split at h
        · rename_i q2
          injection h with h
          refine ⟨⟨k, by omega, q, h⟩, fun j hj hu => ?_⟩
          by_cases e2 : j = k
          · rw [e2, h]; exact Nat.le_refl _
          · have := i4 j (by omega) hu
            rw [← h]; omega
        · rename_i q2
          injection h with h
          subst h
          refine ⟨⟨i, by omega, i2, i3⟩, fun j hj hu => ?_⟩
          by_cases e2 : j = k
          · rw [e2]; omega
          · exact i4 j (by omega) hu
    · rename_i q
      obtain ⟨⟨i, i1, i2, i3⟩, i4⟩ := gt_some h
      refine ⟨⟨i, by omega, i2, i3⟩, fun j hj hu => ?_⟩
      by_cases e2 : j = k
      · rw [e2] at hu; exact absurd hu q
      · exact i4 j (by omega) hu
theorem rm_nil {x : Mo} : ∀ k, (∀ i, i < k → B.length ≤ u i) → rmF A B u x k = 0
  | 0, _ => rfl
  | k + 1, h => by
    unfold rmF
    rw [rm_nil k (fun i hi => h i (by omega)), List.drop_eq_nil_of_le (h k (by omega))]
    show 0 + pc A k * 0 = 0
    omega
theorem rm_step {g x : Mo} (h30 : ∀ i, i < A.length → ∀ j, j < B.length → mle 30 (mm (pm B j) (pm A i))) (hg : mle 30 g) : ∀ k, k ≤ A.length → rmF A B u x k % p = ((if g = x then tkF p A B u g k else 0) + rmF A B (adv A B u g) x k) % p
  | 0, _ => by
    show 0 % p = ((if g = x then 0 else 0) + 0) % p
    split <;> rfl
  | k + 1, h => by
    have ih := rm_step (x := x) h30 hg k (by omega)
    unfold rmF
    rw [Nat.add_mod, ih, ← Nat.add_mod]
    rw [show tkF p A B u g (k + 1) = if u k < B.length ∧ en (pr A B u k) = en g then (tkF p A B u g k + pc A k * pc B (u k)) % p else tkF p A B u g k from rfl]
    by_cases q : u k < B.length ∧ en (pr A B u k) = en g
    · have eg : pr A B u k = g := en_inj (mle_mono (h30 k (by omega) _ q.1) (by omega)) (mle_mono hg (by omega)) q.2
      have ea : adv A B u g k = u k + 1 := if_pos ⟨by omega, q⟩
      rw [if_pos q, ea, drop_cons q.1]
      show (_ + pc A k * ((if mm (pm B (u k)) (pm A k) = x then pc B (u k) else 0) + cfm (pm A k) (B.drop (u k + 1)) x)) % p = _
      rw [show mm (pm B (u k)) (pm A k) = g from eg]
      by_cases e : g = x
      · rw [if_pos e, if_pos e, if_pos e, Nat.mul_add, Nat.add_mod ((tkF p A B u g k + pc A k * pc B (u k)) % p), Nat.mod_mod, ← Nat.add_mod]
        congr 1
        omega
      · rw [if_neg e, if_neg e, if_neg e, Nat.zero_add, Nat.zero_add, Nat.zero_add]
    · have ea : adv A B u g k = u k := if_neg (fun z => q z.2)
      rw [if_neg q, ea, Nat.add_assoc]
theorem msr_adv {g : Mo} : ∀ k, msr B (adv A B u g) k ≤ msr B u k
  | 0 => Nat.le_refl _
  | k + 1 => by
    have := msr_adv (g := g) k
    unfold msr
    have : u k ≤ adv A B u g k := by unfold adv; split <;> omega
    omega
theorem msr_lt {g : Mo} {i : Nat} (hi : i < A.length) (hu : u i < B.length) (hg : pr A B u i = g) : ∀ k, i < k → msr B (adv A B u g) k < msr B u k
  | 0, h => absurd h (Nat.not_lt_zero i)
  | k + 1, h => by
    unfold msr
    by_cases e : i = k
    · subst e
      have h1 := msr_adv (A := A) (B := B) (u := u) (g := g) i
      have ea : adv A B u g i = u i + 1 := if_pos ⟨hi, hu, by rw [hg]⟩
      rw [ea]; omega
    · have h1 := msr_lt hi hu hg k (by omega)
      have : u k ≤ adv A B u g k := by unfold adv; split <;> omega
      omega
theorem msr_0 : ∀ k, msr B u k = 0 → ∀ i, i < k → B.length ≤ u i
  | 0, _, i, h => absurd h (Nat.not_lt_zero i)
  | k + 1, h, i, hi => by
    unfold msr at h
    by_cases e : i = k
    · rw [e]; omega
    · exact msr_0 k (by omega) i (by omega)
theorem tk_lt {g : Mo} (hp : 0 < p) : ∀ k, tkF p A B u g k < p
  | 0 => hp
  | k + 1 => by
    have := tk_lt (g := g) hp k
    unfold tkF
    split
    · exact Nat.mod_lt _ hp
    · exact this
theorem mul_ok (hp : 0 < p) (hB : Sd o B) (h30 : ∀ i, i < A.length → ∀ j, j < B.length → mle 30 (mm (pm B j) (pm A i))) : ∀ (n : Nat) (u : Nat → Nat) (h : Nat), msr B u A.length ≤ n → (∀ i, i < A.length → ∀ j, u i ≤ j → j < B.length → mk o (mm (pm B j) (pm A i)) < h) →
    (∀ t ∈ mulF o p A B n u, mk o t.2 < h) ∧ Sd o (mulF o p A B n u) ∧ Lz (mulF o p A B n u) ∧ Lp p (mulF o p A B n u) ∧ L30 (mulF o p A B n u) ∧ ∀ x, cf (mulF o p A B n u) x % p = rmF A B u x A.length % p := by
  intro n
  induction n with
  | zero =>
    intro u h hm hl
    have h0 := msr_0 (B := B) (u := u) A.length (by omega)
    refine ⟨(fun _ z => nomatch z), Sd_nil, (fun _ z => nomatch z), (fun _ z => nomatch z), (fun _ z => nomatch z), fun x => ?_⟩
    rw [rm_nil A.length h0]; rfl
  | succ n ih =>
    intro u h hm hl
    unfold mulF
    cases e : gtF o A B u A.length with
    | none =>
      refine ⟨(fun _ z => nomatch z), Sd_nil, (fun _ z => nomatch z), (fun _ z => nomatch z), (fun _ z => nomatch z), fun x => ?_⟩
      rw [rm_nil A.length (gt_none e)]; rfl
    | some g =>
      obtain ⟨⟨i, i1, i2, i3⟩, i4⟩ := gt_some e
      have hg : mle 30 g := by rw [← i3]; exact h30 i i1 _ i2
      have hgl : mk o g < h := by rw [← i3]; exact hl i i1 (u i) (Nat.le_refl _) i2
      have hlt := msr_lt i1 i2 i3 A.length i1
      obtain ⟨j1, j2, j3, j4, j5, j6⟩ := ih (adv A B u g) (mk o g) (by omega) (fun k hk j hj hjl => by
        have m1 := h30 k hk j hjl
        have huk : u k < B.length := by
          have : u k ≤ adv A B u g k := by unfold adv; split <;> omega
          omega
        have m2 := h30 k hk (u k) huk
        have le := i4 k hk huk
        have desc : u k < j → mk o (mm (pm B j) (pm A k)) < mk o (pr A B u k) := fun q => mk_mm (mle_mono m1 (by omega)) (mle_mono m2 (by omega)) (Sd_lt hB q hjl)
        by_cases q : en (pr A B u k) = en g
        · have ea : adv A B u g k = u k + 1 := if_pos ⟨hk, huk, q⟩
          have := desc (by omega)
          omega
        · by_cases q2 : j = u k
          · subst q2
            have ne : mk o (pr A B u k) ≠ mk o g := fun z => q (congrArg en (mk_inj (o := o) (x := pr A B u k) (y := g) (mle_mono m2 (by omega)) (mle_mono hg (by omega)) z))
            show mk o (pr A B u k) < mk o g
            omega
          · have ea : adv A B u g k = u k := if_neg (fun z => q z.2.2)
            have := desc (by omega)
            omega)
      have step := fun x => rm_step (u := u) (x := x) (p := p) h30 hg A.length (Nat.le_refl _)
      simp only
      split
      · rename_i z
        refine ⟨fun t ht => by have := j1 t ht; omega, j2, j3, j4, j5, fun x => ?_⟩
        rw [step, j6, z]
        split <;> rw [Nat.zero_add]
      · rename_i z
        refine ⟨fun t ht => ?_, Sd_cons.mpr ⟨fun t ht => j1 t ht, j2⟩, Lz_cons.mpr ⟨Nat.pos_of_ne_zero z, j3⟩, Lp_cons.mpr ⟨tk_lt hp _, j4⟩, L30_cons.mpr ⟨hg, j5⟩, fun x => ?_⟩
        · rcases List.mem_cons.mp ht with w | w
          · rw [w]; exact hgl
          · have := j1 t w; omega
        · rw [step]
          show ((if g = x then tkF p A B u g A.length else 0) + cf _ x) % p = _
          rw [Nat.add_mod, j6, ← Nat.add_mod]
theorem rm_prd {G F : Po} (hp : 0 < p) (hG : Vn 4 G) (hF : Vn 4 F) (hgr : ∀ t ∈ F, ¬ gr G t.2) (x : Mo) : ∀ k, k ≤ F.length → cf (prd o p G (F.take k) []) x % p = rmF F G (fun _ => 0) x k % p
  | 0, _ => by rw [List.take_zero]; rfl
  | k + 1, h => by
    have hk := prd_ok (o := o) (p := p) (n := 4) hp hG (F := F.take k) (L := []) (fun t ht => hgr t (List.mem_of_mem_take ht)) (fun t ht => hF t (List.mem_of_mem_take ht)) Sd_nil (fun _ z => nomatch z) (fun _ z => nomatch z) (fun _ z => nomatch z)
    rw [prd_snoc (by omega), addT_cf (hgr _ (pc_mem (by omega))) hk.2.2.1, Nat.add_mod, rm_prd hp hG hF hgr x k (by omega), ← Nat.add_mod]
    show _ = (rmF F G (fun _ => 0) x k + pc F k * cfm (pm F k) (G.drop 0) x) % p
    rw [List.drop_zero]
theorem mul_eq (hp : 0 < p) (cA : Cn o p A) (cB : Cn o p B) (hgr : ∀ t ∈ A, ¬ gr B t.2) : mulF o p A B (A.length * B.length) (fun _ => 0) = clean (prd o p B A []) := by
  have h30 : ∀ i, i < A.length → ∀ j, j < B.length → mle 30 (mm (pm B j) (pm A i)) := fun i hi j hj => Classical.byContradiction fun q => hgr _ (pc_mem hi) ⟨_, pc_mem hj, q⟩
  have hm : ∀ k, msr B (fun _ => 0) k = k * B.length := by
    intro k
    induction k with
    | zero => rw [Nat.zero_mul]; rfl
    | succ k ih =>
      unfold msr
      rw [ih, Nat.add_mul, Nat.one_mul, Nat.sub_zero]
  obtain ⟨-, j2, j3, j4, j5, j6⟩ := mul_ok (o := o) (A := A) hp cB.1 h30 (A.length * B.length) (fun _ => 0) (2 ^ 30) (by rw [hm]; exact Nat.le_refl _) (fun i hi j _ hj => mk_lt (mle_mono (h30 i hi j hj) (by omega)))
  obtain ⟨k1, k2, k3, -⟩ := prd_ok (o := o) (p := p) (n := 4) hp Vn4 (G := B) (F := A) (L := []) hgr Vn4 Sd_nil (fun _ z => nomatch z) (fun _ z => nomatch z) (fun _ z => nomatch z)
  refine uniq j2 (clean_Sd k1) j5 (clean_L30 k3) j4 (clean_Lp k2) j3 clean_Lz (fun x => ?_)
  rw [j6, clean_cf, ← rm_prd (o := o) hp Vn4 Vn4 hgr x A.length (Nat.le_refl _), List.take_length]
end MU
/-! and so the class makes it -/
def offm (q : Nat) (S S' : St) : Prop := ∀ c, c ≠ q → c ≠ q + 1 → c ≠ q + 2 → c ≠ 3 → S' c = S c
theorem offm_off {q : Nat} {S S' : St} (h : off q S S') : offm q S S' := fun c a b d _ => h c a b d
theorem offm_tr {q : Nat} {S S' S'' : St} (h : offm q S S') (h' : offm q S' S'') : offm q S S'' := fun c a b d e => (h' c a b d e).trans (h c a b d e)
theorem isP_ne3 {q : Nat} (h : isP q) : q ≠ 3 ∧ q + 1 ≠ 3 ∧ q + 2 ≠ 3 := by
  obtain ⟨c1, c2, c3⟩ := nP_c.2.2.2.2.2.2.2.2.1
  have k := h.2
  refine ⟨fun e => ?_, fun e => ?_, fun e => ?_⟩
  · rw [e] at k; exact c1 k
  · rw [show q = 2 by omega] at k; exact c2 (by decide) k
  · rw [show q = 1 by omega] at k; exact c3 (by decide) k
theorem PC_offm {S S' : St} {q r : Nat} {P : Po} (hq : isP q) (hr : isP r) (hn : r ≠ q) (ho : offm q S S') (h : PC S r P) : PC S' r P := by
  obtain ⟨a1, a2, a3, a4, a5, a6, a7, a8⟩ := isP_apart hq hr hn
  obtain ⟨b1, b2, b3⟩ := isP_ne3 hr
  exact PC_eq h (by rw [ho r hn a1 a2 b1]) (ho _ a3 a4 a5 b2) (ho _ a6 a7 a8 b3)
section MM
variable {q1 q2 q3 o p : Nat} {A B : Po} {u : Nat → Nat} {S : St}
theorem sp_gtm {K : Int32 → St → Prop} (ho4 : o < 4) (ho : S 1 2 = nI o) (hA : PC S q2 A) (hB : PC S q3 B) (h30 : ∀ i, i < A.length → ∀ j, j < B.length → mle 30 (mm (pm B j) (pm A i))) (hu : ∀ i, i < A.length → S 3 i = nI (u i) ∧ u i ≤ B.length) (h0 : gtF o A B u A.length = none → K (-1) S) (h1 : ∀ g, gtF o A B u A.length = some g → K (nI (en g)) S) : w_X5_greatestToMeet q2 q3 S K := by
  have la := hA.2.1
  have lb := hB.2.1
  have loop : ∀ (d i : Nat) (x : Int32), i + d = A.length → (gtF o A B u i = none → x = -1) → (∀ g, gtF o A B u i = some g → x = nI (en g)) → q_it (fun _ _ _ => False) (w_X5_greatestToMeet_5 q2 q3 K) (d + 1) x (nI i) S := by
    intro d
    induction d with
    | zero =>
      intro i x hi e0 e1
      rw [q_it_s]
      unfold w_X5_greatestToMeet_5
      rw [hA.1]
      refine pk_le A.length i (fun _ => ?_) (fun z => by omega)
      rw [show i = A.length by omega] at e0 e1
      cases e : gtF o A B u A.length with
      | none => rw [e0 e]; exact h0 e
      | some g => rw [e1 g e]; exact h1 g e
    | succ d ih =>
      intro i x hi e0 e1
      have hil : i < A.length := by omega
      obtain ⟨su, lu⟩ := hu i hil
      rw [q_it_s]
      generalize q_it (fun _ _ _ => False) (w_X5_greatestToMeet_5 q2 q3 K) (d + 1) = k2 at ih ⊢
      unfold w_X5_greatestToMeet_5 w_X5_greatestToMeet_71 w_X5_greatestToMeet_68 w_X5_greatestToMeet_71
      rw [hA.1]
      refine pk_le A.length i (fun z => by omega) (fun _ => ⟨vp_in_nI (by omega) (by decide), ?_⟩)
      rw [m_rf (by omega), hB.1, su]
      refine pk_le B.length (u i) (fun z => ?_) (fun z => ⟨vp_in_nI (by omega) (by decide), ?_⟩)
      · intro x4 e4
        rw [m_lit 1, nI_add] at e4
        subst e4
        have eg : gtF o A B u (i + 1) = gtF o A B u i := by
          conv => lhs; unfold gtF
          rw [if_neg (by omega)]
        exact ih (i + 1) x (by omega) (by rw [eg]; exact e0) (by rw [eg]; exact e1)
      · rw [m_rf (by omega), (hA.2.2 i hil).2, (hB.2.2 (u i) z).2, nI_add, Nat.add_comm, ← en_mm]
        have m30 := h30 i hil _ z
        intro x5 e5
        subst e5
        have take : (gtF o A B u (i + 1) = some (mm (pm B (u i)) (pm A i))) → ∀ x4 : Int32, x4 = nI i + 1 → k2 (nI (en (mm (pm B (u i)) (pm A i)))) x4 S := fun eg x4 e4 => by
          rw [m_lit 1, nI_add] at e4
          subst e4
          refine ih (i + 1) _ (by omega) (fun z => by rw [eg] at z; cases z) (fun g z => ?_)
          rw [eg] at z
          injection z with z
          rw [z]
        cases e : gtF o A B u i with
        | none =>
          rw [e0 e]
          refine ⟨fun _ => take ?_, fun z => absurd (show (-1 : Int32) < 0 by decide) z⟩
          conv => lhs; unfold gtF
          rw [if_pos z, e]; rfl
        | some g =>
          rw [e1 g e]
          obtain ⟨⟨j, j1, j2, j3⟩, -⟩ := gt_some e
          have g30 : mle 30 g := by rw [← j3]; exact h30 j (by omega) _ j2
          have gl := en_lt g30 (by decide)
          refine pk_lt (en g) 0 (fun z => by omega) (fun _ => ?_)
          have b1 := mk_lt (o := o) (mle_mono m30 (show 30 ≤ 60 by omega))
          have b2 := mk_lt (o := o) (mle_mono g30 (show 30 ≤ 60 by omega))
          refine sp_rank (mle_mono m30 (by omega)) ho ho4 (sp_rank (mle_mono g30 (by omega)) ho ho4 ?_)
          refine pk_le (mk o (mm (pm B (u i)) (pm A i))) (mk o g) (fun q x4 e4 => ?_) (fun q => take ?_)
          · rw [m_lit 1, nI_add] at e4
            subst e4
            have eg : gtF o A B u (i + 1) = some g := by
              conv => lhs; unfold gtF
              rw [if_pos z, e]
              exact if_neg (by show ¬ mk o g < mk o (mm (pm B (u i)) (pm A i)); omega)
            refine ih (i + 1) _ (by omega) (fun z => by rw [eg] at z; cases z) (fun g2 z => ?_)
            rw [eg] at z
            injection z with z
            rw [z]
          · conv => lhs; unfold gtF
            rw [if_pos z, e]
            exact if_pos q
  unfold w_X5_greatestToMeet
  exact ⟨A.length + 1, loop A.length 0 (-1) (by omega) (fun _ => rfl) (fun g z => by cases z)⟩
theorem sp_take {K : Int32 → St → Prop} {g : Mo} (hb : 2 ≤ p ∧ p ≤ 251) (hp : S 1 0 = nI p) (hq2 : isP q2) (hq3 : isP q3) (hA : PC S q2 A) (hB : PC S q3 B) (hAp : Lp p A) (hBp : Lp p B) (h30 : ∀ i, i < A.length → ∀ j, j < B.length → mle 30 (mm (pm B j) (pm A i))) (hg : mle 30 g) (hu : ∀ i, i < A.length → S 3 i = nI (u i) ∧ u i ≤ B.length)
    (hK : ∀ S', (∀ i, i < A.length → S' 3 i = nI (adv A B u g i)) → (∀ c, c ≠ 3 → S' c = S c) → K (nI (tkF p A B u g A.length)) S') : w_X5_takeProducts q2 q3 (nI (en g)) S K := by
  have la := hA.2.1
  have lb := hB.2.1
  obtain ⟨a1, a2, a3⟩ := isP_ne3 hq2
  obtain ⟨b1, b2, b3⟩ := isP_ne3 hq3
  have loop : ∀ (d i : Nat) (S1 : St), i + d = A.length → (∀ k, k < A.length → S1 3 k = nI (if k < i then adv A B u g k else u k)) → (∀ c, c ≠ 3 → S1 c = S c) → q_it (fun _ _ _ => False) (w_X5_takeProducts_6 q2 q3 (nI (en g)) K) (d + 1) (nI (tkF p A B u g i)) (nI i) S1 := by
    intro d
    induction d with
    | zero =>
      intro i S1 hi h3 hc
      rw [q_it_s]
      unfold w_X5_takeProducts_6
      rw [hc q2 a1, hA.1]
      refine pk_le A.length i (fun _ => ?_) (fun z => by omega)
      rw [show i = A.length by omega]
      exact hK S1 (fun k hk => by rw [h3 k hk, if_pos (by omega)]) hc
    | succ d ih =>
      intro i S1 hi h3 hc
      have hil : i < A.length := by omega
      obtain ⟨_, lu⟩ := hu i hil
      have tl := tk_lt (A := A) (B := B) (u := u) (g := g) (show 0 < p by omega) i
      rw [q_it_s]
      generalize q_it (fun _ _ _ => False) (w_X5_takeProducts_6 q2 q3 (nI (en g)) K) (d + 1) = k2 at ih ⊢
      unfold w_X5_takeProducts_6 w_X5_takeProducts_87
      have s3 := h3 i hil
      rw [if_neg (by omega)] at s3
      rw [hc q2 a1, hA.1]
      refine pk_le A.length i (fun z => by omega) (fun _ => ⟨vp_in_nI (by omega) (by decide), ?_⟩)
      rw [m_rf (by omega), hc q3 b1, hB.1, s3]
      intro x6 e6
      subst e6
      have skip : ¬ (u i < B.length ∧ en (pr A B u i) = en g) → ∀ x5 : Int32, x5 = nI i + 1 → k2 (nI (tkF p A B u g i)) x5 S1 := fun q x5 e5 => by
        rw [m_lit 1, nI_add] at e5
        subst e5
        have et : tkF p A B u g (i + 1) = tkF p A B u g i := by
          conv => lhs; unfold tkF
          rw [if_neg q]
        have h := ih (i + 1) S1 (by omega) (fun k hk => by
          rw [h3 k hk]
          by_cases e : k = i
          · rw [e, if_neg (by omega), if_pos (by omega)]
            unfold adv
            rw [if_neg (fun z => q z.2)]
          · by_cases e2 : k < i
            · rw [if_pos e2, if_pos (by omega)]
            · rw [if_neg e2, if_neg (by omega)]) hc
        rw [et] at h
        exact h
      refine pk_le B.length (u i) (fun z => skip (by omega)) (fun z => ⟨vp_in_nI (by omega) (by decide), ?_⟩)
      rw [m_rf (by omega), hc _ a3, hc _ b3, hc _ a2, hc _ b2, (hA.2.2 i hil).2, (hB.2.2 (u i) z).2, (hA.2.2 i hil).1, (hB.2.2 (u i) z).1, nI_add, Nat.add_comm (en (pm A i)), ← en_mm]
      have m30 := h30 i hil _ z
      have l1 := en_lt m30 (by decide)
      have l2 := en_lt hg (by decide)
      refine pk_eq' (by omega) (by omega) (fun q => skip (fun w => q w.2)) (fun q => ?_)
      have ap : pc A i < p := hAp _ (pc_mem hil)
      have bp : pc B (u i) < p := hBp _ (pc_mem z)
      have mul := mul_lt' ap bp hb.2
      rw [pk_mul, nI_add]
      have p1 : S1 1 0 = nI p := by rw [hc 1 (by decide)]; exact hp
      refine sp_restOf' p1 hb (by omega) ?_
      have et : tkF p A B u g (i + 1) = (tkF p A B u g i + pc A i * pc B (u i)) % p := by
        conv => lhs; unfold tkF
        rw [if_pos ⟨z, q⟩]
      rw [← et, s3]
      intro S9 e9 x5 e5
      rw [m_lit 1, nI_add] at e5 e9
      subst e5
      refine ih (i + 1) S9 (by omega) (fun k hk => ?_) (fun c hc3 => by rw [e9, su_ne _ _ _ hc3]; exact hc c hc3)
      rw [e9, su_at]
      by_cases e : k = i
      · rw [if_pos ⟨rfl, e⟩, e, if_pos (by omega)]
        unfold adv
        rw [if_pos ⟨hil, z, q⟩]
      · rw [if_neg (by omega), h3 k hk]
        by_cases e2 : k < i
        · rw [if_pos e2, if_pos (by omega)]
        · rw [if_neg e2, if_neg (by omega)]
  unfold w_X5_takeProducts
  exact ⟨A.length + 1, loop A.length 0 S (by omega) (fun k hk => by rw [if_neg (by omega)]; exact (hu k hk).1) (fun _ _ => rfl)⟩
theorem alen_3 : alen 3 = 40 := by decide +kernel
theorem sp_fill {K : Unit → St → Prop} (hK : ∀ S', (∀ i, i < 40 → S' 3 i = 0) → (∀ c, c ≠ 3 → S' c = S c) → K () S') : w_J7_fill_53178 3 0 S K := by
  unfold w_J7_fill_53178
  rw [alen_3]
  intro x3 e3
  subst e3
  have loop : ∀ (d i : Nat) (S1 : St), i + d = 40 → (∀ k, k < i → S1 3 k = 0) → (∀ c, c ≠ 3 → S1 c = S c) → q_it (fun _ _ => False) (w_J7_fill_53178_5 3 0 K (nI 40)) (d + 1) (nI i) S1 := by
    intro d
    induction d with
    | zero =>
      intro i S1 hi h3 hc
      rw [q_it_s]
      unfold w_J7_fill_53178_5
      refine pk_le 40 i (fun _ => hK S1 (fun k hk => h3 k (by omega)) hc) (fun z => by omega)
    | succ d ih =>
      intro i S1 hi h3 hc
      rw [q_it_s]
      generalize q_it (fun _ _ => False) (w_J7_fill_53178_5 3 0 K (nI 40)) (d + 1) = k2 at ih ⊢
      unfold w_J7_fill_53178_5
      rw [alen_3]
      refine pk_le 40 i (fun z => by omega) (fun _ => ⟨vp_in_nI (by omega) (by decide), ?_⟩)
      intro S3 e4 x2 e2
      rw [m_lit 1, nI_add] at e2
      rw [m_rf (by omega)] at e4
      subst e2
      refine ih (i + 1) S3 (by omega) (fun k hk => ?_) (fun c hc3 => by rw [e4, su_ne _ _ _ hc3]; exact hc c hc3)
      rw [e4, su_at]
      by_cases e : k = i
      · rw [if_pos ⟨rfl, e⟩]
      · rw [if_neg (by omega)]; exact h3 k (by omega)
  exact ⟨40 + 1, loop 40 0 S (by omega) (fun k hk => by omega) (fun _ _ => rfl)⟩
theorem mul_loop {K : Int32 → St → Prop} (hq1 : isP q1) (hq2 : isP q2) (hq3 : isP q3) (hn2 : q2 ≠ q1) (hn3 : q3 ≠ q1) (hb : 2 ≤ p ∧ p ≤ 251) (ho4 : o < 4) (hAp : Lp p A) (hBp : Lp p B) (h30 : ∀ i, i < A.length → ∀ j, j < B.length → mle 30 (mm (pm B j) (pm A i))) :
    ∀ (n : Nat) (u : Nat → Nat) (acc : Po) (S : St), n ≤ 1600 → S 1 0 = nI p → S 1 2 = nI o → PC S q2 A → PC S q3 B → PC S q1 acc → (∀ i, i < A.length → S 3 i = nI (u i) ∧ u i ≤ B.length) →
    ((acc ++ mulF o p A B n u).length ≤ 40 → ∀ S', PC S' q1 (acc ++ mulF o p A B n u) → offm q1 S S' → K 0 S') →
    (40 < (acc ++ mulF o p A B n u).length → ∀ S', offm q1 S S' → K (-6) S') →
    q_it (fun _ _ => False) (w_X5_multiply_59 q1 q2 q3 K) (n + 1) (nI n) S := by
  intro n
  induction n with
  | zero =>
    intro u acc S hn hp ho hA hB hacc hu hK0 hK6
    rw [q_it_s]
    unfold w_X5_multiply_59
    refine pk_le 0 0 (fun _ => ?_) (fun z => by omega)
    unfold mulF at hK0
    rw [List.append_nil] at hK0
    exact hK0 hacc.2.1 S hacc (offm_off off_rf)
  | succ n ih =>
    intro u acc S hn hp ho hA hB hacc hu hK0 hK6
    rw [q_it_s]
    generalize q_it (fun _ _ => False) (w_X5_multiply_59 q1 q2 q3 K) (n + 1) = k2 at ih ⊢
    unfold w_X5_multiply_59 w_X5_multiply_108
    refine pk_le (n + 1) 0 (fun z => by omega) (fun _ => ?_)
    refine sp_gtm ho4 ho hA hB h30 hu (fun e => ⟨fun z => absurd z (by decide), fun _ => ?_⟩) (fun g e => ?_)
    · have em : mulF o p A B (n + 1) u = [] := by
        conv => lhs; unfold mulF
        rw [e]
      rw [em, List.append_nil] at hK0
      exact hK0 hacc.2.1 S hacc (offm_off off_rf)
    · obtain ⟨⟨j, j1, j2, j3⟩, -⟩ := gt_some e
      have g30 : mle 30 g := by rw [← j3]; exact h30 j j1 _ j2
      have gl := en_lt g30 (by decide)
      have hpos : (0 : Int32) ≤ nI (en g) := by
        rw [Int32.le_iff_toInt_le, Int32.toInt_zero, nI_toInt gl]; omega
      refine ⟨fun _ => ?_, fun z => absurd hpos z⟩
      refine sp_take hb hp hq2 hq3 hA hB hAp hBp h30 g30 hu (fun S1 h3 hc => ?_)
      have tl := tk_lt (A := A) (B := B) (u := u) (g := g) (show 0 < p by omega) A.length
      obtain ⟨a1, a2, a3⟩ := isP_ne3 hq1
      obtain ⟨b1, b2, b3⟩ := isP_ne3 hq2
      obtain ⟨c1, c2, c3⟩ := isP_ne3 hq3
      have f1 : offm q1 S S1 := fun c _ _ _ d => hc c d
      have hA1 := PC_eq hA (by rw [hc _ b1]) (hc _ b2) (hc _ b3)
      have hB1 := PC_eq hB (by rw [hc _ c1]) (hc _ c2) (hc _ c3)
      have hacc1 := PC_eq hacc (by rw [hc _ a1]) (hc _ a2) (hc _ a3)
      have p1 : S1 1 0 = nI p := by rw [hc 1 (by decide)]; exact hp
      have o1 : S1 1 2 = nI o := by rw [hc 1 (by decide)]; exact ho
      have hu1 : ∀ i, i < A.length → S1 3 i = nI (adv A B u g i) ∧ adv A B u g i ≤ B.length := fun i hi => by
        refine ⟨h3 i hi, ?_⟩
        have := (hu i hi).2
        unfold adv
        split <;> omega
      refine pk_eq (tkF p A B u g A.length) 0 (fun z x4 e4 => ?_) (fun z => ?_)
      · rw [pk_m1] at e4
        subst e4
        have em : mulF o p A B (n + 1) u = mulF o p A B n (adv A B u g) := by
          conv => lhs; unfold mulF
          rw [e]
          exact if_pos z
        rw [em] at hK0 hK6
        exact ih (adv A B u g) acc S1 (by omega) p1 o1 hA1 hB1 hacc1 hu1 (fun l S2 h2 f2 => hK0 l S2 h2 (offm_tr f1 f2)) (fun l S2 f2 => hK6 l S2 (offm_tr f1 f2))
      · have em : mulF o p A B (n + 1) u = (tkF p A B u g A.length, g) :: mulF o p A B n (adv A B u g) := by
          conv => lhs; unfold mulF
          rw [e]
          exact if_neg z
        rw [em] at hK0 hK6
        refine sp_push hacc1 (fun hl S2 h2 o2 _ => ⟨fun _ x4 e4 => ?_, fun z => absurd z (by decide)⟩) (fun hl => ⟨fun z => absurd rfl z, fun _ => hK6 ?_ S1 f1⟩)
        · rw [pk_m1] at e4
          subst e4
          have f12 := offm_tr f1 (offm_off o2)
          have es : acc ++ (tkF p A B u g A.length, g) :: mulF o p A B n (adv A B u g) = (acc ++ [(tkF p A B u g A.length, g)]) ++ mulF o p A B n (adv A B u g) := by rw [List.append_assoc]; rfl
          rw [es] at hK0 hK6
          have n3 : S2 3 = S1 3 := o2 3 (Ne.symm a1) (Ne.symm a2) (Ne.symm a3)
          exact ih (adv A B u g) _ S2 (by omega) (by rw [off_lit hq1 nP_1 o2]; exact p1) (by rw [off_lit hq1 nP_1 o2]; exact o1) (PC_off hq1 hq2 hn2 o2 hA1) (PC_off hq1 hq3 hn3 o2 hB1) h2 (by rw [n3]; exact hu1) (fun l S3 h3 f3 => hK0 l S3 h3 (offm_tr f12 f3)) (fun l S3 f3 => hK6 l S3 (offm_tr f12 f3))
        · rw [List.length_append, List.length_cons]; omega
theorem sp_multiply {K : Int32 → St → Prop} (hq1 : isP q1) (hq2 : isP q2) (hq3 : isP q3) (hn2 : q2 ≠ q1) (hn3 : q3 ≠ q1) (hb : 2 ≤ p ∧ p ≤ 251) (ho4 : o < 4) (hp : S 1 0 = nI p) (ho : S 1 2 = nI o) (hA : PC S q2 A) (hB : PC S q3 B) (cA : Cn o p A) (cB : Cn o p B)
    (hgr : (∃ t ∈ A, gr B t.2) → K (-5) S) (hK0 : (∀ t ∈ A, ¬ gr B t.2) → (clean (prd o p B A [])).length ≤ 40 → ∀ S', PC S' q1 (clean (prd o p B A [])) → offm q1 S S' → K 0 S') (hK6 : (∀ t ∈ A, ¬ gr B t.2) → 40 < (clean (prd o p B A [])).length → ∀ S', offm q1 S S' → K (-6) S') : w_X5_multiply q1 q2 q3 S K := by
  have la := hA.2.1
  have lb := hB.2.1
  have loop : ∀ (d i : Nat), i + d = A.length → (∀ t ∈ A.take i, ¬ gr B t.2) → q_it (fun _ _ => False) (w_X5_multiply_3 q1 q2 q3 K) (d + 1) (nI i) S := by
    intro d
    induction d with
    | zero =>
      intro i hi hno
      rw [q_it_s]
      unfold w_X5_multiply_3
      rw [hA.1]
      refine pk_le A.length i (fun _ => ?_) (fun z => by omega)
      rw [List.take_of_length_le (by omega)] at hno
      intro S2 e2
      have o2 : off q1 S S2 := by rw [e2]; exact off_su
      have h1 : PC S2 q1 [] := by rw [e2]; exact PC_nil (su_s _ _ _ _)
      have hA2 := PC_off hq1 hq2 hn2 o2 hA
      have hB2 := PC_off hq1 hq3 hn3 o2 hB
      refine sp_fill (fun S3 h3 hc x4 e4 => ?_)
      obtain ⟨a1, a2, a3⟩ := isP_ne3 hq1
      obtain ⟨b1, b2, b3⟩ := isP_ne3 hq2
      obtain ⟨c1, c2, c3⟩ := isP_ne3 hq3
      have hA3 := PC_eq hA2 (by rw [hc _ b1]) (hc _ b2) (hc _ b3)
      have hB3 := PC_eq hB2 (by rw [hc _ c1]) (hc _ c2) (hc _ c3)
      have h13 := PC_eq h1 (by rw [hc _ a1]) (hc _ a2) (hc _ a3)
      rw [hA3.1, hB3.1, pk_mul] at e4
      subst e4
      have f3 : offm q1 S S3 := offm_tr (offm_off o2) (fun c _ _ _ d => hc c d)
      have m1600 := Nat.mul_le_mul la lb
      have em := mul_eq (o := o) (show 0 < p by omega) cA cB hno
      refine ⟨A.length * B.length + 1, ?_⟩
      refine mul_loop hq1 hq2 hq3 hn2 hn3 hb ho4 cA.2.2.1 cB.2.2.1 (fun i hi j hj => Classical.byContradiction fun q => hno _ (pc_mem hi) ⟨_, pc_mem hj, q⟩) (A.length * B.length) (fun _ => 0) [] S3 (by omega) (by rw [hc 1 (by decide), off_lit hq1 nP_1 o2]; exact hp) (by rw [hc 1 (by decide), off_lit hq1 nP_1 o2]; exact ho) hA3 hB3 h13 (fun i hi => ⟨h3 i (by omega), Nat.zero_le _⟩) ?_ ?_
      · rw [List.nil_append, em]
        exact fun l S4 h4 f4 => hK0 hno l S4 h4 (offm_tr f3 f4)
      · rw [List.nil_append, em]
        exact fun l S4 f4 => hK6 hno l S4 (offm_tr f3 f4)
    | succ d ih =>
      intro i hi hno
      have hil : i < A.length := by omega
      rw [q_it_s]
      generalize q_it (fun _ _ => False) (w_X5_multiply_3 q1 q2 q3 K) (d + 1) = k2 at ih ⊢
      unfold w_X5_multiply_3
      rw [hA.1]
      refine pk_le A.length i (fun z => by omega) (fun _ => ⟨vp_in_nI (by omega) (by decide), ?_⟩)
      rw [m_rf (by omega), (hA.2.2 i hil).2]
      refine sp_isMultipleGreat hB cB.2.2.2 (cA.2.2.2 _ (pc_mem hil)) (fun q => ⟨fun z => absurd z (by decide), fun _ => hgr ⟨_, pc_mem hil, q⟩⟩) (fun q => ⟨fun _ x4 e4 => ?_, fun z => absurd rfl z⟩)
      rw [m_lit 1, nI_add] at e4
      subst e4
      refine ih (i + 1) (by omega) (fun t ht => ?_)
      rw [take_snoc hil] at ht
      rcases List.mem_append.mp ht with z | z
      · exact hno t z
      · rw [List.mem_singleton.mp z]; exact q
  unfold w_X5_multiply
  exact ⟨A.length + 1, loop A.length 0 (by omega) (fun t ht => by rw [List.take_zero] at ht; cases ht)⟩
end MM
section OPC
variable {b g : Nat} {N : Nat → Nat} {T : Nat → Option Po} {R : Nat → Nat × Nat} {S : St} {K : Int32 → St → Prop}
theorem offm_fr1 {q : Nat} {S S' : St} (hb : b = 108 ∨ b = 109) (h : wk q) (f : offm q S S') : fr1 b S S' := fun c hc => by
  obtain ⟨k1, k2, k3⟩ := wk_kp hb h
  refine f c (fun e => by rw [e, k1] at hc; cases hc) (fun e => by rw [e, k2] at hc; cases hc) (fun e => by rw [e, k3] at hc; cases hc) (fun e => ?_)
  rw [e, (kp_c hb).2.2.2.1] at hc
  cases hc
theorem hi_offm {q : Nat} {S S' : St} (hq : isP q) (h : offm q S S') : hi S S' := fun c hc => by
  have := isP_le q hq.1 hq.2
  exact h c (by omega) (by omega) (by omega) (by omega)
theorem c_product {x y : Int32} (w : WF N T R) (h : RC b g N T R S) (hK : D8 (f_product N T R x y) S K) : w_X8_product x y S K := by
  have hb := prm_b w.1
  have s0 : S 1 0 = nI (N 0) := h.2.2.1 (1, 0, 0) (by decide)
  have s2 : S 1 2 = nI (N 2) := h.2.2.1 (1, 2, 2) (by decide)
  unfold w_X8_product w_X8_product_22
  unfold f_product D8 at hK
  refine sp_polyAt w h (fun i P e hi hT gp => ⟨fun z => (by cases z), fun r z => ?_⟩) (fun e => ⟨fun _ => ?_, fun r z => (by cases z)⟩)
  · injection z with z
    subst z
    rw [e] at hK
    refine sp_polyAt w h (fun j Q e' hj hT' gq => ⟨fun z => (by cases z), fun r z => ?_⟩) (fun e' => ⟨fun _ => ?_, fun r z => (by cases z)⟩)
    · injection z with z
      subst z
      rw [e'] at hK
      simp only [gt_s hT, gt_s hT'] at hK
      refine sp_isFull h (fun e => ⟨fun z => absurd z (by decide), fun _ => ?_⟩) (fun e => ⟨fun _ => ⟨pcl_P h.1 hi, pcl_P h.1 hj, ?_⟩, fun z => absurd rfl z⟩)
      · rw [if_pos e] at hK
        exact hK S ⟨b, g, h⟩ hi_rf
      · rw [if_neg e] at hK
        have h16 : wk 16 := Or.inr (Or.inl rfl)
        have no : (∀ t ∈ P, ¬ gr Q t.2) → P.any (fun t => grb Q t.2) = false := fun q => by
          rw [List.any_eq_false]
          exact fun t ht z => q t ht (grb_iff.mp z)
        unfold shv at hK
        refine sp_multiply (o := N 2) (p := N 0) isP_c.2.2.2.2.1 (pcl_P h.1 hi) (pcl_P h.1 hj) (pcl_wk h.1 hi h16) (pcl_wk h.1 hj h16) hb w.2.2.1 s0 s2 (h.2.2.2.2.1 i P hi hT) (h.2.2.2.2.1 j Q hj hT') gp.1 gq.1 (fun q => ?_) (fun q hl S1 hP1 o1 => ?_) (fun q hl S1 o1 => ?_)
        · obtain ⟨t, ht, q⟩ := q
          rw [if_pos (List.any_eq_true.mpr ⟨t, ht, grb_iff.mpr q⟩)] at hK
          exact c_no (by decide) (hK S ⟨b, g, h⟩ hi_rf)
        · rw [if_neg (by rw [no q]; decide), if_pos hl] at hK
          have i1 := hi_offm isP_c.2.2.2.2.1 o1
          exact c_res e (RC_fr h (offm_fr1 h.1 h16 o1)) hP1 (fun S2 h2 i2 => hK S2 h2 (hi_tr i1 i2))
        · rw [if_neg (by rw [no q]; decide), if_neg (by omega)] at hK
          exact c_no (by decide) (hK S1 ⟨b, g, RC_fr h (offm_fr1 h.1 h16 o1)⟩ (hi_offm isP_c.2.2.2.2.1 o1))
    · rw [e'] at hK
      exact hK S ⟨b, g, h⟩ hi_rf
  · rw [e] at hK
    exact sp_polyAt w h (fun j Q _ _ _ _ => ⟨fun z => (by cases z), fun _ _ => hK S ⟨b, g, h⟩ hi_rf⟩) (fun _ => ⟨fun _ => hK S ⟨b, g, h⟩ hi_rf, fun _ _ => hK S ⟨b, g, h⟩ hi_rf⟩)
end OPC
