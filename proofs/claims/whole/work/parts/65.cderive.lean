/-! the class: derived -/
def drF (p v : Nat) : Po → Po
  | [] => []
  | t :: F => if t.1 * ex t.2 v % p = 0 then drF p v F else (t.1 * ex t.2 v % p, dm v t.2) :: drF p v F
theorem drF_app {p v : Nat} : ∀ {A B : Po}, drF p v (A ++ B) = drF p v A ++ drF p v B
  | [], _ => rfl
  | t :: A, B => by
    have e : ∀ L, drF p v (t :: L) = if t.1 * ex t.2 v % p = 0 then drF p v L else (t.1 * ex t.2 v % p, dm v t.2) :: drF p v L := fun _ => rfl
    show drF p v (t :: (A ++ B)) = drF p v (t :: A) ++ drF p v B
    rw [e, e, drF_app (A := A)]
    split <;> rfl
theorem drF_len {p v : Nat} : ∀ {A : Po}, (drF p v A).length ≤ A.length
  | [] => Nat.le_refl _
  | t :: A => by
    have := drF_len (p := p) (v := v) (A := A)
    unfold drF
    split
    · rw [List.length_cons]; omega
    · rw [List.length_cons, List.length_cons]; omega
theorem drF_mem {p v : Nat} : ∀ {A : Po} {t : Te}, t ∈ drF p v A → ∃ u ∈ A, t.1 = u.1 * ex u.2 v % p ∧ t.1 ≠ 0 ∧ t.2 = dm v u.2
  | [], _, h => nomatch h
  | s :: A, t, h => by
    unfold drF at h
    split at h
    · obtain ⟨u, hu, e⟩ := drF_mem h
      exact ⟨u, List.mem_cons_of_mem _ hu, e⟩
    · rename_i q
      rcases List.mem_cons.mp h with e | h
      · rw [e]; exact ⟨s, List.mem_cons_self, rfl, q, rfl⟩
      · obtain ⟨u, hu, e⟩ := drF_mem h
        exact ⟨u, List.mem_cons_of_mem _ hu, e⟩
def uv (v : Nat) : Mo := (if v = 0 then 1 else 0, if v = 1 then 1 else 0, if v = 2 then 1 else 0, if v = 3 then 1 else 0)
theorem dm_mm {v : Nat} {m : Mo} (hv : v < 4) (h : ex m v ≠ 0) : mm (dm v m) (uv v) = m := by
  obtain ⟨a, b, c, d⟩ := m
  rcases (show v = 0 ∨ v = 1 ∨ v = 2 ∨ v = 3 by omega) with rfl | rfl | rfl | rfl
  · rw [ex_0] at h
    apply mo_ext <;> simp [mm, dm, uv] <;> simp only at h <;> omega
  · rw [ex_1] at h
    apply mo_ext <;> simp [mm, dm, uv] <;> simp only at h <;> omega
  · rw [ex_2] at h
    apply mo_ext <;> simp [mm, dm, uv] <;> simp only at h <;> omega
  · rw [ex_3] at h
    apply mo_ext <;> simp [mm, dm, uv] <;> simp only at h <;> omega
theorem en_uv {v : Nat} (hv : v < 4) : en (uv v) = 256 ^ v := by
  rcases (show v = 0 ∨ v = 1 ∨ v = 2 ∨ v = 3 by omega) with rfl | rfl | rfl | rfl <;> rfl
theorem en_dm {v : Nat} {m : Mo} (hv : v < 4) (h : ex m v ≠ 0) : en m = en (dm v m) + 256 ^ v := by
  conv => lhs; rw [← dm_mm hv h]
  rw [en_mm, en_uv hv]
theorem nz_ex {p a e : Nat} (h : a * e % p ≠ 0) : e ≠ 0 := fun z => h (by rw [z, Nat.mul_zero, Nat.zero_mod])
theorem drF_Sd {o p v : Nat} (hv : v < 4) : ∀ {A : Po}, Sd o A → L30 A → Sd o (drF p v A)
  | [], _, _ => Sd_nil
  | t :: A, h, h3 => by
    have h' := Sd_cons.mp h
    have h3' := L30_cons.mp h3
    unfold drF
    split
    · exact drF_Sd hv h'.2 h3'.2
    · rename_i q
      refine Sd_cons.mpr ⟨fun u hu => ?_, drF_Sd hv h'.2 h3'.2⟩
      obtain ⟨w, hw, e1, e2, e3⟩ := drF_mem hu
      have lt := h'.1 w hw
      have m1 := dm_mm hv (nz_ex q)
      have m2 := dm_mm hv (nz_ex (p := p) (a := w.1) (e := ex w.2 v) (by rw [← e1]; exact e2))
      have l1 := mle_mono h3'.1 (show 30 ≤ 31 by omega)
      have l2 := mle_mono (h3'.2 w hw) (show 30 ≤ 31 by omega)
      rw [e3]
      show mk o (dm v w.2) < mk o (dm v t.2)
      rcases Nat.lt_trichotomy (mk o (dm v w.2)) (mk o (dm v t.2)) with z | z | z
      · exact z
      · have e : dm v w.2 = dm v t.2 := mk_inj (mle_dm l2) (mle_dm l1) z
        rw [← m1, ← m2, e] at lt
        omega
      · have := mk_mm (o := o) (z := uv v) (by rw [m1]; exact l1) (by rw [m2]; exact l2) z
        rw [m1, m2] at this
        omega
theorem der_cf {o p v : Nat} (hp : 0 < p) : ∀ {F L : Po} (x : Mo), L30 F → L30 L → cf (der o p v F L) x % p = (cf L x + cf (drF p v F) x) % p
  | [], L, x, _, _ => by
    show cf L x % p = (cf L x + 0) % p
    rw [Nat.add_zero]
  | t :: F, L, x, hF, hL => by
    have hF' := L30_cons.mp hF
    have e1 : der o p v (t :: F) L = der o p v F (if t.1 * ex t.2 v % p = 0 then L else ins o p (t.1 * ex t.2 v % p) (dm v t.2) L) := rfl
    rw [e1]
    unfold drF
    split
    · exact der_cf hp x hF'.2 hL
    · rw [der_cf hp x hF'.2 (ins_L30 (mle_dm hF'.1) hL), Nat.add_mod, ins_cf (mle_dm hF'.1) hL, ← Nat.add_mod]
      show _ = (cf L x + ((if dm v t.2 = x then t.1 * ex t.2 v % p else 0) + cf (drF p v F) x)) % p
      rw [Nat.add_assoc]
theorem der_eq {o p n v : Nat} {F : Po} (hp : 0 < p) (hv : v < 4) (c : Cn o p F) (hn : Vn n F) : clean (der o p v F []) = drF p v F := by
  obtain ⟨a1, a2, a3, a4⟩ := c
  obtain ⟨d1, d2, d3, _⟩ := der_ok (o := o) (p := p) (n := n) (v := v) hp hv (F := F) (L := []) a4 hn Sd_nil (fun _ z => nomatch z) (fun _ z => nomatch z) (fun _ z => nomatch z)
  refine uniq (clean_Sd d1) (drF_Sd hv a1 a4) (clean_L30 d3) (fun t ht => ?_) (clean_Lp d2) (fun t ht => ?_) clean_Lz (fun t ht => ?_) (fun x => ?_)
  · obtain ⟨u, hu, _, _, e⟩ := drF_mem ht
    rw [e]; exact mle_dm (a4 u hu)
  · obtain ⟨u, hu, e, _, _⟩ := drF_mem ht
    rw [e]; exact Nat.mod_lt _ hp
  · obtain ⟨u, hu, _, e, _⟩ := drF_mem ht
    omega
  · rw [clean_cf, der_cf (L := []) hp x a4 (fun _ z => nomatch z)]
    show (0 + _) % p = _
    rw [Nat.zero_add]
theorem sp_derive {q1 q2 p v : Nat} {F : Po} {S : St} {K : Int32 → St → Prop} (hq1 : isP q1) (hq2 : isP q2) (hn : q2 ≠ q1) (hb : 2 ≤ p ∧ p ≤ 251) (hv : v < 4) (hp : S 1 0 = nI p) (h : PC S q2 F) (hF : Lp p F) (h30 : L30 F) (hK : ∀ S', PC S' q1 (drF p v F) → off q1 S S' → K 0 S') : w_X5_derive q1 q2 (nI v) S K := by
  have hl := h.2.1
  unfold w_X5_derive
  intro S1 e1
  have loop : ∀ (d t : Nat) (S1 : St), t + d = F.length → off q1 S S1 → PC S1 q1 (drF p v (F.take t)) → q_it (fun _ _ => False) (w_X5_derive_8 q1 q2 (nI v) K) (d + 1) (nI t) S1 := by
    intro d
    induction d with
    | zero =>
      intro t S1 ht o1 h1
      have h2 := PC_off hq1 hq2 hn o1 h
      rw [q_it_s]
      unfold w_X5_derive_8
      rw [h2.1]
      refine pk_le F.length t (fun _ => ?_) (fun z => by omega)
      rw [List.take_of_length_le (by omega)] at h1
      exact hK S1 h1 o1
    | succ d ih =>
      intro t S1 ht o1 h1
      have htl : t < F.length := by omega
      have h2 := PC_off hq1 hq2 hn o1 h
      have p1 : S1 1 0 = nI p := by rw [off_lit hq1 nP_1 o1]; exact hp
      have m30 : mle 30 (pm F t) := h30 _ (pc_mem htl)
      have cp : pc F t < p := hF _ (pc_mem htl)
      have le := ex_le m30 v
      have mul := Nat.mul_le_mul (show pc F t ≤ 250 by omega) le
      rw [q_it_s]
      generalize q_it (fun _ _ => False) (w_X5_derive_8 q1 q2 (nI v) K) (d + 1) = k2 at ih ⊢
      unfold w_X5_derive_8 w_X5_derive_70
      rw [h2.1]
      refine pk_le F.length t (fun z => by omega) (fun _ => ⟨vp_in_nI (by omega) (by decide), ?_⟩)
      rw [m_rf (by omega), (h2.2.2 t htl).2]
      refine sp_exponentOf (mle_mono m30 (by omega)) hv ?_
      rw [(h2.2.2 t htl).1, pk_mul]
      refine sp_restOf' p1 hb (by omega) ?_
      have er : drF p v (F.take (t + 1)) = drF p v (F.take t) ++ drF p v [(pc F t, pm F t)] := by
        rw [take_snoc htl, drF_app]
      have ml := Nat.mod_lt (pc F t * ex (pm F t) v) (show p > 0 by omega)
      refine pk_eq' (j := 0) (by omega) (by decide) (fun q => ?_) (fun q => ?_) |> fun z => ⟨z.2, z.1⟩
      · have er2 : drF p v [(pc F t, pm F t)] = [(pc F t * ex (pm F t) v % p, dm v (pm F t))] := by
          show (if pc F t * ex (pm F t) v % p = 0 then [] else _) = _
          rw [if_neg q]; rfl
        rw [er2] at er
        have ed := en_dm hv (nz_ex q)
        refine sp_variable hv ?_
        rw [(h2.2.2 t htl).2, ed, pk_sub (by omega), Nat.add_sub_cancel]
        have ll := drF_len (p := p) (v := v) (A := F.take t)
        rw [List.length_take] at ll
        refine sp_push h1 (fun _ S2 h3 o2 _ x4 e4 => ?_) (fun z => by omega)
        rw [m_lit 1, nI_add] at e4
        subst e4
        rw [← er] at h3
        exact ih (t + 1) S2 (by omega) (off_tr o1 o2) h3
      · have er2 : drF p v [(pc F t, pm F t)] = [] := by
          show (if pc F t * ex (pm F t) v % p = 0 then [] else _) = _
          rw [if_pos q]
        rw [er2, List.append_nil] at er
        intro x4 e4
        rw [m_lit 1, nI_add] at e4
        subst e4
        rw [← er] at h1
        exact ih (t + 1) S1 (by omega) o1 h1
  refine ⟨F.length + 1, loop F.length 0 S1 (by omega) (by rw [e1]; exact off_su) ?_⟩
  rw [List.take_zero, e1]
  exact PC_nil (su_s _ _ _ _)
section OPC
variable {b g : Nat} {N : Nat → Nat} {T : Nat → Option Po} {R : Nat → Nat × Nat} {S : St} {K : Int32 → St → Prop}
theorem c_derived {x v : Int32} (w : WF N T R) (h : RC b g N T R S) (hK : D8 (f_derived N T R x v) S K) : w_X8_derived x v S K := by
  have hb := prm_b w.1
  have wn := w.2.1
  have s0 : S 1 0 = nI (N 0) := h.2.2.1 (1, 0, 0) (by decide)
  have s1 : S 1 1 = nI (N 1) := h.2.2.1 (1, 1, 1) (by decide)
  unfold w_X8_derived w_X8_derived_21
  unfold f_derived D8 at hK
  refine sp_polyAt w h (fun i P e hi hT gp => ⟨fun z => (by cases z), fun r z => ?_⟩) (fun e => ⟨fun _ => ?_, fun r z => (by cases z)⟩)
  · injection z with z
    subst z
    rw [e] at hK
    simp only [gt_s hT] at hK
    refine sp_hasVariable s1 (by omega) (fun u hu eu => ⟨fun _ => ?_, fun z => absurd z (by decide)⟩) (fun q => ⟨fun z => absurd rfl z, fun _ => ?_⟩)
    · rw [eu, nI_toInt (by omega), if_pos ⟨by omega, by omega⟩, show (u : Int).toNat = u from rfl] at hK
      refine sp_isFull h (fun e => ⟨fun z => absurd z (by decide), fun _ => ?_⟩) (fun e => ⟨fun _ => ⟨pcl_P h.1 hi, ?_⟩, fun z => absurd rfl z⟩)
      · rw [if_pos e] at hK
        exact hK S ⟨b, g, h⟩ hi_rf
      · have ll := drF_len (p := N 0) (v := u) (A := P)
        have gl := gp.2.1
        rw [if_neg e, der_eq (by omega) (by omega) gp.1 gp.2.2] at hK
        unfold shv at hK
        rw [if_pos (by omega)] at hK
        rw [eu]
        refine sp_derive isP_c.2.2.2.2.1 (pcl_P h.1 hi) (pcl_wk h.1 hi (Or.inr (Or.inl rfl))) hb (by omega) s0 (h.2.2.2.2.1 i P hi hT) gp.1.2.2.1 gp.1.2.2.2 (fun S1 h1 o1 => ?_)
        have i1 := hi_off isP_c.2.2.2.2.1 o1
        exact c_res e (RC_fr h (off_fr1 h.1 (Or.inr (Or.inl rfl)) o1)) h1 (fun S2 h2 i2 => hK S2 h2 (hi_tr i1 i2))
    · rw [if_neg (by omega)] at hK
      exact hK S ⟨b, g, h⟩ hi_rf
  · rw [e] at hK
    exact hK S ⟨b, g, h⟩ hi_rf
end OPC
