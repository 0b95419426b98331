/-! the reference's row of terms: a term comes to it -/
def fr9 (cs fs : List Nat) (S S' : St) : Prop := (∀ c, c ≠ 224 → c ∉ cs → S' c = S c) ∧ ∀ j, j ∉ fs → S' 224 j = S 224 j
theorem fr9_rf {cs fs : List Nat} {S : St} : fr9 cs fs S S := ⟨fun _ _ _ => rfl, fun _ _ => rfl⟩
theorem fr9_tr {cs fs : List Nat} {S S' S'' : St} (h : fr9 cs fs S S') (h' : fr9 cs fs S' S'') : fr9 cs fs S S'' := ⟨fun c a b => (h'.1 c a b).trans (h.1 c a b), fun j a => (h'.2 j a).trans (h.2 j a)⟩
theorem fr9_mono {cs fs cs' fs' : List Nat} {S S' : St} (h : fr9 cs fs S S') (h1 : ∀ c ∈ cs, c ∈ cs') (h2 : ∀ c ∈ fs, c ∈ fs') : fr9 cs' fs' S S' := ⟨fun c a b => h.1 c a (fun q => b (h1 c q)), fun j a => h.2 j (fun q => a (h2 j q))⟩
theorem fr9_su {cs fs : List Nat} {S : St} {c k : Nat} {v : Int32} (h : c ≠ 224) (hc : c ∈ cs) : fr9 cs fs S (su S c k v) := ⟨fun d _ b => su_ne S k v (fun e => b (by rw [e]; exact hc)), fun j _ => su_n S v (Or.inl (Ne.symm h))⟩
theorem fr9_sf {cs fs : List Nat} {S : St} {k : Nat} {v : Int32} (hk : k ∈ fs) : fr9 cs fs S (su S 224 k v) := ⟨fun d a _ => su_ne S k v a, fun j b => su_n S v (Or.inr (fun e => b (by rw [e]; exact hk)))⟩
theorem fr9_w4 {cs fs : List Nat} {S : St} {a i t : Nat} {g : Nat → Int32} (h : a ≠ 224) (ha : a ∈ cs) : fr9 cs fs S (w4 S a i g t) := ⟨fun d _ b => w4_ne S i g t (fun e => b (by rw [e]; exact ha)), fun j _ => w4_n S a i g t (Or.inl (Ne.symm h))⟩
theorem MA_eq {S S' : St} {a i : Nat} {m : Mo} (h : MA S a i m) (e : ∀ v, v < 4 → S' a (i + v) = S a (i + v)) : MA S' a i m := fun v hv => (e v hv).trans (h v hv)
def RM (S : St) (L : Po) : Prop := S 224 20 = nI L.length ∧ L.length ≤ 1700 ∧ ∀ t, t < L.length → S 230 t = nI (pc L t) ∧ MA S 231 (4 * t) (pm L t)
theorem RM_fr {S S' : St} {L : Po} (h : RM S L) (h0 : S' 224 20 = S 224 20) (h1 : S' 230 = S 230) (h2 : S' 231 = S 231) : RM S' L := by
  obtain ⟨a, b, c⟩ := h
  exact ⟨h0.trans a, b, fun t ht => ⟨by rw [h1]; exact (c t ht).1, MA_eq (c t ht).2 (fun v _ => by rw [h2])⟩⟩
def PM (S : St) (k : Nat) (P : Po) : Prop := S 225 k = nI P.length ∧ P.length ≤ 40 ∧ ∀ t, t < P.length → S 226 (40 * k + t) = nI (pc P t) ∧ MA S 227 (160 * k + 4 * t) (pm P t)
theorem PM_fr {S S' : St} {k : Nat} {P : Po} (h : PM S k P) (h0 : S' 225 = S 225) (h1 : S' 226 = S 226) (h2 : S' 227 = S 227) : PM S' k P := by
  obtain ⟨a, b, c⟩ := h
  exact ⟨by rw [h0]; exact a, b, fun t ht => ⟨by rw [h1]; exact (c t ht).1, MA_eq (c t ht).2 (fun v _ => by rw [h2])⟩⟩
theorem al_230 : alen 230 = 1700 := by decide +kernel
theorem al_231 : alen 231 = 6800 := by decide +kernel
theorem al_232 : alen 232 = 4 := by decide +kernel
theorem al_227 : alen 227 = 9760 := by decide +kernel
theorem mul4 (n : Nat) : (4 : Int32) * nI n = nI (4 * n) := pk_mul 4 n
theorem mul40 (n : Nat) : (40 : Int32) * nI n = nI (40 * n) := pk_mul 40 n
theorem mul160 (n : Nat) : (160 : Int32) * nI n = nI (160 * n) := pk_mul 160 n
theorem ins_skip {o p c : Nat} {m : Mo} {A B : Po} (h : ∀ t ∈ A, mk o m < mk o t.2) : ins o p c m (A ++ B) = A ++ ins o p c m B := by
  induction A with
  | nil => rfl
  | cons t A ih =>
    show ins o p c m (t :: (A ++ B)) = t :: (A ++ ins o p c m B)
    conv => lhs; unfold ins
    rw [if_pos (h t List.mem_cons_self), ih (fun u hu => h u (List.mem_cons_of_mem _ hu))]
theorem pc_ins {L : Po} {k t : Nat} {x : Te} (hk : k ≤ L.length) : pc (L.take k ++ x :: L.drop k) t = if t < k then pc L t else if t = k then x.1 else pc L (t - 1) := by
  have hl : (L.take k).length = k := by rw [List.length_take]; omega
  unfold pc
  rw [List.getD_eq_getElem?_getD, List.getD_eq_getElem?_getD, List.getD_eq_getElem?_getD]
  split
  · rename_i h
    rw [List.getElem?_append_left (by omega), List.getElem?_take, if_pos h]
  · rw [List.getElem?_append_right (by omega), hl]
    split
    · rename_i h; subst h; rw [Nat.sub_self]; rfl
    · rw [show t - k = (t - k - 1) + 1 by omega, List.getElem?_cons_succ, List.getElem?_drop, show k + (t - k - 1) = t - 1 by omega]
theorem pm_ins {L : Po} {k t : Nat} {x : Te} (hk : k ≤ L.length) : pm (L.take k ++ x :: L.drop k) t = if t < k then pm L t else if t = k then x.2 else pm L (t - 1) := by
  have hl : (L.take k).length = k := by rw [List.length_take]; omega
  unfold pm
  rw [List.getD_eq_getElem?_getD, List.getD_eq_getElem?_getD, List.getD_eq_getElem?_getD]
  split
  · rename_i h
    rw [List.getElem?_append_left (by omega), List.getElem?_take, if_pos h]
  · rw [List.getElem?_append_right (by omega), hl]
    split
    · rename_i h; subst h; rw [Nat.sub_self]; rfl
    · rw [show t - k = (t - k - 1) + 1 by omega, List.getElem?_cons_succ, List.getElem?_drop, show k + (t - k - 1) = t - 1 by omega]
/-- the row while its end is moved on: from i on each term lies one place further -/
def RMs (S : St) (L : Po) (i : Nat) : Prop := (∀ t, t < i → t < L.length → S 230 t = nI (pc L t) ∧ MA S 231 (4 * t) (pm L t)) ∧ ∀ t, i ≤ t → t < L.length → S 230 (t + 1) = nI (pc L t) ∧ MA S 231 (4 * (t + 1)) (pm L t)
section AD
variable {o p c : Nat} {m : Mo} {L : Po} {K : Unit → St → Prop}
theorem add_80 {S : St} {k : Nat} (h : RM S L) (hk : k ≤ L.length) (hl : L.length < 1700) (h1 : MA S 232 0 m)
    (hK : ∀ S', RM S' (L.take k ++ (c, m) :: L.drop k) → fr9 [230, 231] [20] S S' → K () S') : w_X9_add_80 (nI c) K (nI k) S := by
  unfold w_X9_add_80
  rw [h.1]
  intro x4 e4
  subst e4
  have loop : ∀ (d i : Nat) (S' : St), k + d = i → i ≤ L.length → RMs S' L i → fr9 [230, 231] [20] S S' → S' 224 20 = nI L.length → q_it (fun _ _ => False) (w_X9_add_86 (nI c) K (nI k)) (d + 1) (nI i) S' := by
    intro d
    induction d with
    | zero =>
      intro i S' hd hi hs hf h20
      have ei : i = k := by omega
      subst ei
      rw [q_it_s]
      unfold w_X9_add_86
      refine pk_le i i (fun _ => ⟨vp_in_nI (by omega) (by decide), ?_⟩) (fun q => by omega)
      rw [m_rf (by omega)]
      intro S3 e3
      subst e3
      refine loop4 (S := su S' 230 i (nI c)) (a := 231) (i := 4 * i) (g := fun v => nI (ex m v)) ?_ ?_
      · intro v kk hv hkk
        unfold w_X9_add_165
        refine pk_le 4 v (fun q => by omega) (fun _ => ⟨vp_in_nI hv (by decide), ?_⟩)
        rw [mul4, nI_add]
        refine ⟨vp_in_nI (by omega) (by decide), ?_⟩
        rw [m_rf (by omega), m_rf (by omega)]
        have e1 : w4 (su S' 230 i (nI c)) 231 (4 * i) (fun v => nI (ex m v)) v 232 v = nI (ex m v) := by
          rw [w4_n _ _ _ _ _ (Or.inl (by decide)), su_n S' _ (Or.inl (by decide)), hf.1 232 (by decide) (by decide)]
          have := h1 v hv
          rw [Nat.zero_add] at this
          exact this
        rw [e1, w4_s (g := fun v => nI (ex m v))]
        intro S5 e5 x4 e4
        rw [m_lit 1, nI_add] at e4
        subst e5; subst e4
        exact hkk
      · intro kk
        unfold w_X9_add_165
        refine pk_le 4 4 (fun _ => ?_) (fun q => by omega)
        intro S2 e2
        rw [w4_n _ _ _ _ _ (Or.inl (by decide)), su_n S' _ (Or.inl (by decide)), h20, m_lit 1, nI_add] at e2
        have hlen : (L.take i ++ (c, m) :: L.drop i).length = L.length + 1 := by
          rw [List.length_append, List.length_take, List.length_cons, List.length_drop]; omega
        refine hK S2 ⟨?_, by omega, fun t ht => ?_⟩ ?_
        · rw [e2, su_s, hlen]
        · rw [hlen] at ht
          rw [pc_ins hi, pm_ins hi, e2]
          rw [su_n _ _ (Or.inl (by decide)), w4_n _ _ _ _ _ (Or.inl (by decide)), su_at]
          by_cases q1 : t < i
          · rw [if_pos q1, if_pos q1, if_neg (by omega)]
            refine ⟨(hs.1 t q1 (by omega)).1, MA_eq (hs.1 t q1 (by omega)).2 (fun v hv => ?_)⟩
            rw [su_n _ _ (Or.inl (by decide)), w4_n _ _ _ _ _ (Or.inr (Or.inl (by omega))), su_n S' _ (Or.inl (by decide))]
          · rw [if_neg q1, if_neg q1]
            by_cases q2 : t = i
            · rw [if_pos q2, if_pos q2, if_pos ⟨rfl, q2⟩]
              refine ⟨rfl, fun v hv => ?_⟩
              rw [su_n _ _ (Or.inl (by decide)), q2, w4_at _ _ _ _ hv]
            · rw [if_neg q2, if_neg q2, if_neg (by omega)]
              have g := hs.2 (t - 1) (by omega) (by omega)
              rw [show t - 1 + 1 = t by omega] at g
              refine ⟨g.1, MA_eq g.2 (fun v hv => ?_)⟩
              rw [su_n _ _ (Or.inl (by decide)), w4_n _ _ _ _ _ (Or.inr (Or.inr (by omega))), su_n S' _ (Or.inl (by decide))]
        · rw [e2]
          exact fr9_tr hf (fr9_tr (fr9_su (by decide) (by decide)) (fr9_tr (fr9_w4 (by decide) (by decide)) (fr9_sf (by decide))))
    | succ d ih =>
      intro i S' hd hi hs hf h20
      rw [q_it_s]
      unfold w_X9_add_86
      refine pk_le i k (fun q => by omega) (fun _ => ?_)
      rw [m_lit 1, pk_sub (by omega)]
      refine ⟨vp_in_nI (by omega) (by decide), vp_in_nI (by omega) (by decide), ?_⟩
      rw [m_rf (by omega), m_rf (by omega)]
      have g := hs.1 (i - 1) (by omega) (by omega)
      rw [g.1]
      intro S7 e7
      subst e7
      refine loop4 (S := su S' 230 i (nI (pc L (i - 1)))) (a := 231) (i := 4 * i) (g := fun v => nI (ex (pm L (i - 1)) v)) ?_ ?_
      · intro v kk hv hkk
        unfold w_X9_add_111
        refine pk_le 4 v (fun q => by omega) (fun _ => ?_)
        have ee : 4 * nI i - 4 = nI (4 * (i - 1)) := by rw [mul4, m_lit 4, pk_sub (by omega)]; congr 1; omega
        rw [ee, mul4, nI_add, nI_add]
        refine ⟨vp_in_nI (by omega) (by decide), vp_in_nI (by omega) (by decide), ?_⟩
        rw [m_rf (by omega), m_rf (by omega)]
        have e1 : w4 (su S' 230 i (nI (pc L (i - 1)))) 231 (4 * i) (fun v => nI (ex (pm L (i - 1)) v)) v 231 (4 * (i - 1) + v) = nI (ex (pm L (i - 1)) v) := by
          rw [w4_n _ _ _ _ _ (Or.inr (Or.inl (by omega))), su_n S' _ (Or.inl (by decide))]
          exact g.2 v hv
        rw [e1, w4_s (g := fun v => nI (ex (pm L (i - 1)) v))]
        intro S5 e5 x5 e5'
        rw [m_lit 1, nI_add] at e5'
        subst e5; subst e5'
        exact hkk
      · intro kk
        unfold w_X9_add_111
        refine pk_le 4 4 (fun _ => ?_) (fun q => by omega)
        intro x4 e4
        have e4' : x4 = nI (i - 1) := by
          rw [e4, show i = (i - 1) + 1 by omega, pk_m1]
          congr 1
        subst e4'
        refine ih (i - 1) _ (by omega) (by omega) ⟨fun t h1 h2 => ?_, fun t h1 h2 => ?_⟩ (fr9_tr hf (fr9_tr (fr9_su (by decide) (by decide)) (fr9_w4 (by decide) (by decide)))) ?_
        · have g2 := hs.1 t (by omega) h2
          rw [w4_n _ _ _ _ _ (Or.inl (by decide)), su_n S' _ (Or.inr (by omega))]
          refine ⟨g2.1, MA_eq g2.2 (fun v hv => ?_)⟩
          rw [w4_n _ _ _ _ _ (Or.inr (Or.inl (by omega))), su_n S' _ (Or.inl (by decide))]
        · by_cases q : t = i - 1
          · rw [q, show i - 1 + 1 = i by omega, w4_n _ _ _ _ _ (Or.inl (by decide)), su_s]
            exact ⟨rfl, fun v hv => w4_at _ _ _ _ hv⟩
          · have g2 := hs.2 t (by omega) h2
            rw [w4_n _ _ _ _ _ (Or.inl (by decide)), su_n S' _ (Or.inr (by omega))]
            refine ⟨g2.1, MA_eq g2.2 (fun v hv => ?_)⟩
            rw [w4_n _ _ _ _ _ (Or.inr (Or.inr (by omega))), su_n S' _ (Or.inl (by decide))]
        · rw [w4_n _ _ _ _ _ (Or.inl (by decide)), su_n S' _ (Or.inl (by decide))]
          exact h20
  refine ⟨L.length - k + 1, ?_⟩
  refine loop (L.length - k) L.length S (by omega) (Nat.le_refl _) ⟨fun t _ ht => h.2.2 t ht, fun t h1 h2 => by omega⟩ fr9_rf h.1
theorem sp_add {S : St} (h : RM S L) (hl : L.length < 1700) (h1 : MA S 232 0 m) (hp : S 224 0 = nI p) (hb : 2 ≤ p ∧ p ≤ 251) (ho : S 224 2 = nI o) (ho4 : o < 4) (hm : mle 30 m) (h3 : L30 L) (hLp : Lp p L) (hc : c < p)
    (hK : ∀ S', RM S' (ins o p c m L) → fr9 [230, 231] [20] S S' → K () S') : w_X9_add (nI c) S K := by
  have hm31 := mle_mono hm (show 30 ≤ 31 by omega)
  have loop : ∀ (d k : Nat), k + d = L.length → (∀ t ∈ L.take k, mk o m < mk o t.2) → q_it (fun _ _ _ => False) (w_X9_add_4 (nI c) K) (d + 2) (nI k) 1 S := by
    intro d
    induction d with
    | zero =>
      intro k hd hk
      rw [q_it_s]
      unfold w_X9_add_4
      rw [h.1]
      refine pk_le L.length k (fun q => ?_) (fun q => by omega)
      unfold w_X9_add_48
      rw [h.1]
      refine pk_le L.length k (fun q => ?_) (fun q => by omega)
      refine add_80 h (by omega) hl h1 (fun S' g1 g2 => hK S' ?_ g2)
      rw [List.take_of_length_le (by omega)] at hk g1
      rw [List.drop_eq_nil_of_le (by omega)] at g1
      have e := ins_skip (p := p) (c := c) (B := []) hk
      rw [List.append_nil] at e
      rw [e]
      exact g1
    | succ d ih =>
      intro k hd hk
      rw [q_it_s]
      unfold w_X9_add_4
      rw [h.1]
      refine pk_le L.length k (fun q => by omega) (fun hkl => ⟨fun q => absurd q (by decide), fun _ => ?_⟩)
      rw [mul4]
      have g := h.2.2 k hkl
      have gm := mle_mono (h3 _ (pc_mem hkl)) (show 30 ≤ 31 by omega)
      have eL : L = L.take k ++ (pc L k, pm L k) :: L.drop (k + 1) := by
        rw [← drop_cons hkl, List.take_append_drop]
      have stop : ∀ r : Int32, r ≤ 0 → w_X9_add_48 (nI c) K (nI k) r S → w_X9_add_43 (nI c) K (q_it (fun _ _ _ => False) (w_X9_add_4 (nI c) K) (d + 1 + 1)) r (nI k) 0 S := by
        intro r hr hw
        unfold w_X9_add_43
        intro x2 e2
        rw [m_lit 0, nI_add] at e2
        subst e2
        rw [q_it_s]
        unfold w_X9_add_4
        rw [h.1]
        refine pk_le L.length k (fun q => by omega) (fun _ => ⟨fun _ => hw, fun q => absurd hr q⟩)
      refine sp_stand (j := 0) ho ho4 g.2 h1 gm hm31 (by rw [al_231]; omega) (by rw [al_232]; omega) (by rw [al_231]; decide) (by rw [al_232]; decide) (fun hlt => ⟨fun hr => stop (-1) hr ?_, fun q => absurd (by decide) q⟩) (fun heq => ⟨fun hr => stop 0 hr ?_, fun q => absurd (by decide) q⟩) (fun hgt => ⟨fun q => absurd q (by decide), fun _ => ?_⟩)
      · unfold w_X9_add_48
        rw [h.1]
        refine pk_le L.length k (fun q => by omega) (fun _ => ⟨fun _ => ?_, fun q => absurd q (by decide)⟩)
        refine add_80 h (by omega) hl h1 (fun S' g1 g2 => hK S' ?_ g2)
        have e := ins_skip (p := p) (c := c) (B := L.drop k) hk
        rw [List.take_append_drop] at e
        rw [e, drop_cons hkl]
        unfold ins
        rw [if_neg (by show ¬ mk o m < mk o (pm L k); omega), if_neg (by show ¬ mk o m = mk o (pm L k); omega), ← drop_cons hkl]
        exact g1
      · unfold w_X9_add_48
        rw [h.1]
        refine pk_le L.length k (fun q => by omega) (fun _ => ⟨fun q => absurd rfl q, fun _ => ⟨vp_in_nI (by omega) (by decide), by rw [hp]; exact nI_ne0 (by omega) (by omega), ?_⟩⟩)
        rw [m_rf (by omega), g.1, hp, nI_add]
        have hcp : pc L k < p := hLp _ (pc_mem hkl)
        rw [m_rem (by omega) (by omega) (by omega)]
        intro S5 e5
        refine hK S5 ?_ (by rw [e5]; exact fr9_su (by decide) (by decide))
        have e := ins_skip (p := p) (c := c) (B := L.drop k) hk
        rw [List.take_append_drop] at e
        have e2 : ins o p c m L = L.take k ++ ((pc L k + c) % p, pm L k) :: L.drop (k + 1) := by
          rw [e, drop_cons hkl]
          congr 1
          conv => lhs; unfold ins
          rw [if_neg (by show ¬ mk o m < mk o (pm L k); rw [heq]; omega), if_pos (by show mk o m = mk o (pm L k); rw [heq])]
        have hset : ins o p c m L = L.set k ((pc L k + c) % p, pm L k) := by
          rw [e2, List.set_eq_take_append_cons_drop, if_pos hkl]
        have hlen : (L.set k ((pc L k + c) % p, pm L k)).length = L.length := List.length_set
        rw [hset]
        refine ⟨by rw [e5, su_n S _ (Or.inl (by decide)), hlen]; exact h.1, by rw [hlen]; exact h.2.1, fun t ht => ?_⟩
        rw [hlen] at ht
        have gt := h.2.2 t ht
        have e6 : ∀ j, S5 231 j = S 231 j := fun j => by rw [e5, su_n S _ (Or.inl (by decide))]
        have epc : pc (L.set k ((pc L k + c) % p, pm L k)) t = if t = k then (pc L k + c) % p else pc L t := by
          unfold pc
          rw [List.getD_eq_getElem?_getD, List.getD_eq_getElem?_getD, List.getElem?_set]
          split
          · rename_i q; subst q; rw [if_pos rfl]; simp [hkl]
          · rename_i q; rw [if_neg (fun z => q z.symm)]; rw [List.getD_eq_getElem?_getD]
        have epm : pm (L.set k ((pc L k + c) % p, pm L k)) t = pm L t := by
          unfold pm
          rw [List.getD_eq_getElem?_getD, List.getElem?_set]
          split
          · rename_i q; subst q; simp [hkl]
          · rw [List.getD_eq_getElem?_getD]
        rw [epc, epm, e5, su_at]
        refine ⟨?_, MA_eq gt.2 (fun v _ => by rw [← e5]; exact e6 _)⟩
        by_cases q : t = k
        · rw [if_pos ⟨rfl, q⟩, if_pos q]
        · rw [if_neg (by omega), if_neg q]; exact gt.1
      · unfold w_X9_add_43
        intro x2 e2
        rw [m_lit 1, nI_add] at e2
        subst e2
        refine ih (k + 1) (by omega) (fun t ht => ?_)
        rw [take_snoc hkl] at ht
        rcases List.mem_append.mp ht with q | q
        · exact hk t q
        · rw [List.mem_singleton.mp q]; exact hgt
  unfold w_X9_add
  exact ⟨_, loop L.length 0 (by omega) (fun t ht => by simp at ht)⟩
end AD
