/-! the makers of both sides; what holds at the start -/
theorem prm_mod {p d : Nat} (h2 : 2 ≤ d) (hd : d < p) (h : p % d = 0) : prm p = false := by
  unfold prm
  have : (List.range p).all (fun d => decide (d < 2) || decide (p % d ≠ 0)) = false := by
    rw [List.all_eq_false]
    refine ⟨d, List.mem_range.mpr hd, ?_⟩
    rw [decide_eq_false (show ¬ d < 2 by omega), decide_eq_false (show ¬ p % d ≠ 0 by omega)]
    decide
  rw [this, Bool.and_false]
theorem prm_of {p : Nat} (h2 : 2 ≤ p) (h251 : p ≤ 251) (h : ∀ d, 2 ≤ d → d < p → p % d ≠ 0) : prm p = true := by
  unfold prm
  rw [decide_eq_true h2, decide_eq_true h251]
  show (true && (List.range p).all _) = true
  rw [Bool.true_and, List.all_eq_true]
  intro d hd
  rw [List.mem_range] at hd
  by_cases y : d < 2
  · rw [decide_eq_true y]; rfl
  · rw [decide_eq_true (h d (by omega) hd), Bool.or_true]
theorem prm_sq : ∀ p, p < 252 → 2 ≤ p → (∀ d, d < 16 → d < 2 ∨ p < d * d ∨ p % d ≠ 0) → prm p = true := by decide +kernel
def pN (x : Int32) : Nat := if 2 ≤ x.toInt ∧ x.toInt ≤ 251 ∧ prm x.toInt.toNat = true then x.toInt.toNat else 7
def nN (x : Int32) : Nat := if 1 ≤ x.toInt ∧ x.toInt ≤ 4 then x.toInt.toNat else 3
theorem pN_prm (x : Int32) : prm (pN x) = true := by
  unfold pN
  split
  · rename_i h; exact h.2.2
  · decide +kernel
theorem nN_b (x : Int32) : 1 ≤ nN x ∧ nN x ≤ 4 := by
  unfold nN
  split <;> omega
section PR
variable {x : Int32} {S : St} {K : Int32 → St → Prop}
theorem c_prime {E : Nat} (h1 : pN x = x.toInt.toNat → x = nI (pN x) → K 1 S) (h0 : pN x = 7 → K 0 S) : w2_X8_isPrimeInRange E x S K := by
  have t2 : (2 : Int32).toInt = 2 := by decide
  have t251 : (251 : Int32).toInt = 251 := by decide
  unfold w2_X8_isPrimeInRange w2_X8_isPrimeInRange_12
  refine ⟨fun q => h0 ?_, fun q => ⟨fun q2 => ?_, fun q2 => h0 ?_⟩⟩
  · rw [Int32.lt_iff_toInt_lt, t2] at q
    unfold pN; rw [if_neg (by omega)]
  · rw [Int32.lt_iff_toInt_lt, t2] at q
    rw [Int32.le_iff_toInt_le, t251] at q2
    have ex : x = nI x.toInt.toNat := nI_nn (by omega)
    have ei : x.toInt = (x.toInt.toNat : Int) := by omega
    generalize hp : x.toInt.toNat = p at ex ei
    have hpN : prm p = true → pN x = p := fun z => by unfold pN; rw [hp, if_pos ⟨by omega, by omega, z⟩]
    have hpn : prm p = false → pN x = 7 := fun z => by unfold pN; rw [hp, if_neg (fun y => by rw [z] at y; exact absurd y.2.2 (by decide))]
    have loop : ∀ (n d : Nat), d + n = p → 2 ≤ d → (∀ u, 2 ≤ u → u < d → p % u ≠ 0) → q_it (fun _ _ => False) (w2_X8_isPrimeInRange_16 E (nI p) K) (n + 1) (nI d) S := by
      intro n
      induction n with
      | zero =>
        intro d hd h2 hu
        rw [q_it_s]
        unfold w2_X8_isPrimeInRange_16
        refine pk_le p d (fun _ => ?_) (fun z => by omega)
        have pr := prm_of (p := p) (by omega) (by omega) (fun u u2 up => hu u u2 (by omega))
        exact h1 (by rw [hpN pr, hp]) (by rw [hpN pr]; exact ex)
      | succ n ih =>
        intro d hd h2 hu
        rw [q_it_s]
        generalize q_it (fun _ _ => False) (w2_X8_isPrimeInRange_16 E (nI p) K) (n + 1) = k at ih ⊢
        unfold w2_X8_isPrimeInRange_16
        refine pk_le p d (fun z => by omega) (fun _ => ⟨nI_ne0 (by omega) (by omega), ?_⟩)
        rw [m_rem (by omega) (by omega) (by omega)]
        have ml := Nat.mod_lt p (show d > 0 by omega)
        refine pk_eq' (j := 0) (by omega) (by decide) (fun z x1 e1 => ?_) (fun z => h0 (hpn (prm_mod h2 (by omega) z)))
        rw [m_lit 1, nI_add] at e1
        subst e1
        refine ih (d + 1) (by omega) (by omega) (fun u u2 ud => ?_)
        by_cases y : u = d
        · rw [y]; exact z
        · exact hu u u2 (by omega)
    rw [ex]
    exact ⟨p - 2 + 1, loop (p - 2) 2 (by omega) (by omega) (fun u u2 ud => by omega)⟩
  · rw [Int32.le_iff_toInt_le, t251] at q2
    unfold pN; rw [if_neg (by omega)]
theorem m_prime {E : Nat} (h1 : pN x = x.toInt.toNat → x = nI (pN x) → K 1 S) (h0 : pN x = 7 → K 0 S) : w2_X9_isPrime E x S K := by
  have t2 : (2 : Int32).toInt = 2 := by decide
  have t251 : (251 : Int32).toInt = 251 := by decide
  unfold w2_X9_isPrime w2_X9_in w2_X9_in_14
  refine ⟨fun q => ⟨fun z => absurd rfl z, fun _ => h0 ?_⟩, fun q => ⟨fun q2 => ⟨fun z => absurd rfl z, fun _ => h0 ?_⟩, fun q2 => ⟨fun _ => ?_, fun z => absurd z (by decide)⟩⟩⟩
  · rw [Int32.lt_iff_toInt_lt, t2] at q
    unfold pN; rw [if_neg (by omega)]
  · rw [Int32.lt_iff_toInt_lt, t251] at q2
    unfold pN; rw [if_neg (by omega)]
  · rw [Int32.lt_iff_toInt_lt, t2] at q
    rw [Int32.lt_iff_toInt_lt, t251] at q2
    have ex : x = nI x.toInt.toNat := nI_nn (by omega)
    generalize hp : x.toInt.toNat = p at ex
    have hpN : prm p = true → pN x = p := fun z => by unfold pN; rw [hp, if_pos ⟨by omega, by omega, z⟩]
    have hpn : prm p = false → pN x = 7 := fun z => by unfold pN; rw [hp, if_neg (fun y => by rw [z] at y; exact absurd y.2.2 (by decide))]
    have loop : ∀ (n d : Nat), d + n = 16 → 2 ≤ d → (∀ u, 2 ≤ u → u < d → p % u ≠ 0) → q_it (fun _ _ => False) (w2_X9_isPrime_15 E (nI p) K) (n + 1) (nI d) S := by
      intro n
      induction n with
      | zero =>
        intro d hd h2 hu
        have e16 : d = 16 := by omega
        subst e16
        rw [q_it_s]
        unfold w2_X9_isPrime_15
        rw [pk_mul]
        refine pk_lt p (16 * 16) (fun _ => ?_) (fun z => by omega)
        have pr := prm_sq p (by omega) (by omega) (fun u hu2 => by
          by_cases y : u < 2
          · exact Or.inl y
          · exact Or.inr (Or.inr (hu u (by omega) hu2)))
        exact h1 (by rw [hpN pr, hp]) (by rw [hpN pr]; exact ex)
      | succ n ih =>
        intro d hd h2 hu
        have dd : d * d ≤ 16 * 16 := Nat.mul_le_mul (by omega) (by omega)
        rw [q_it_s]
        generalize q_it (fun _ _ => False) (w2_X9_isPrime_15 E (nI p) K) (n + 1) = k at ih ⊢
        unfold w2_X9_isPrime_15
        rw [pk_mul]
        refine pk_lt p (d * d) (fun z => ?_) (fun z => ⟨nI_ne0 (by omega) (by omega), ?_⟩)
        · have pr := prm_sq p (by omega) (by omega) (fun u hu2 => by
            by_cases y : u < 2
            · exact Or.inl y
            · by_cases y2 : u < d
              · exact Or.inr (Or.inr (hu u (by omega) y2))
              · refine Or.inr (Or.inl ?_)
                have : d * d ≤ u * u := Nat.mul_le_mul (by omega) (by omega)
                omega)
          exact h1 (by rw [hpN pr, hp]) (by rw [hpN pr]; exact ex)
        · rw [m_rem (by omega) (by omega) (by omega)]
          have ml := Nat.mod_lt p (show d > 0 by omega)
          have dlt : d < p := by
            have : 2 * d ≤ d * d := Nat.mul_le_mul h2 (Nat.le_refl d)
            omega
          refine pk_eq' (j := 0) (by omega) (by decide) (fun z x1 e1 => ?_) (fun z => h0 (hpn (prm_mod h2 dlt z)))
          rw [m_lit 1, nI_add] at e1
          subst e1
          refine ih (d + 1) (by omega) (by omega) (fun u u2 ud => ?_)
          by_cases y : u = d
          · rw [y]; exact z
          · exact hu u u2 (by omega)
    rw [ex]
    exact ⟨14 + 1, loop 14 2 (by omega) (by omega) (fun u u2 ud => by omega)⟩
end PR
def A0 : Tab := fsn (fsn (fun _ _ => none) 0 fresh_7) 1 fresh_4
def A1 : Tab := fsu (F5 A0) 0 0 (.inl (nI 1))
def A2 : Tab := F3 (fsn A1 10 fresh_2) 10
def A3 : Tab := F3 (fsn (fsu A2 0 1 (.inl (nI 10))) 13 fresh_2) 13
def A4 : Tab := fsu A3 0 2 (.inl (nI 13))
def A5 : Tab := fsu (fsu (fsu A4 14 0 (.inl 1)) 15 0 (.inl 0)) 13 2 (.inl 1)
def A6 : Tab := F3 (fsn A5 16 fresh_2) 16
def A7 : Tab := fsn (fsu A6 0 3 (.inl (nI 16))) 19 fresh_5
def A8 : Tab := fsn (fsu (F6 A7) 0 4 (.inl (nI 19))) 94 fresh_3
def A9 : Tab := fsn (fsu (F4 A8) 0 5 (.inl (nI 94))) 104 fresh_0
def A10 : Tab := fsn (fsu (FB A9) 0 6 (.inl (nI 104))) 222 fresh_6
def A11 : Tab := fsu (F7 A10) 0 7 (.inl (nI 222))
theorem A_look : (A4 0 2 = some (.inl (nI 13)) ∧ A4 13 2 = some (.inl 0) ∧ A4 13 0 = some (.inl (nI 14)) ∧ fsu A4 14 0 (.inl 1) 13 1 = some (.inl (nI 15)) ∧ fsu A4 14 0 (.inl 1) 13 2 = some (.inl 0) ∧ fsu (fsu A4 14 0 (.inl 1)) 15 0 (.inl 0) 13 2 = some (.inl 0)) ∧ A8 0 0 = some (.inl (nI 1)) ∧ (A9 0 0 = some (.inl (nI 1)) ∧ A9 0 5 = some (.inl (nI 94))) ∧ A10 0 0 = some (.inl (nI 1)) ∧ A10 0 6 = some (.inl (nI 104)) := by decide +kernel
section IN
variable {x1 x2 z3 z4 : Int32} {S : St} {K : Unit → St → Prop}
theorem c_make37 (h : Hs z3 z4 A0 S) (hK : ∀ S', Hs z3 z4 A11 S' → K () S') : w2_X8_init_37 x1 x2 K z3 z4 S := by
  obtain ⟨⟨k1, k2, k3, k4, k5, k6⟩, k7, ⟨k8, k9⟩, k10, k11⟩ := A_look
  have r0 : q_rf 0 = 0 := by decide
  unfold w2_X8_init_37
  refine i_X5 h (fun S1 h1 S3 e3 S4 e4 => ?_)
  refine i_X3 (Hs_sn (Hs_su (.inl (nI 1)) h1 e3 rfl) e4) (fun S5 h5 S7 e7 S8 e8 => ?_)
  refine i_X3 (Hs_sn (Hs_su (.inl (nI 10)) h5 e7 rfl) e8) (fun S9 h9 S11 e11 => ?_)
  have h11 : Hs z3 z4 A4 S11 := Hs_su (.inl (nI 13)) h9 e11 rfl
  refine ⟨h11 0 2 _ k1, ?_⟩
  unfold w2_X3_push
  have s132 : S11 13 2 = 0 := h11 13 2 _ k2
  rw [s132, r0]
  refine ⟨fun _ => ⟨h11 13 0 _ k3, (vp_in_nI (by decide) (by decide) : vp_in (nI 0) 40), fun S12 e12 => ?_⟩, fun z => absurd (show (0 : Int32) < 40 by decide) z⟩
  have h12 := Hs_su (.inl 1) h11 e12 rfl
  have s132' : S12 13 2 = 0 := h12 13 2 _ k5
  rw [s132', r0]
  refine ⟨h12 13 1 _ k4, (vp_in_nI (by decide) (by decide) : vp_in (nI 0) 40), fun S13 e13 S14 e14 S15 e15 => ?_⟩
  have h13 := Hs_su (.inl 0) h12 e13 rfl
  have s132'' : S13 13 2 = 0 := h13 13 2 _ k6
  rw [s132''] at e14
  have h14 : Hs z3 z4 A5 S14 := Hs_su (.inl 1) h13 e14 (show (0 + 1 : Int32) = 1 by decide)
  refine i_X3 (Hs_sn h14 e15) (fun S16 h16 S18 e18 S19 e19 => ?_)
  refine i_X6 (F := A7) (Hs_sn (Hs_su (.inl (nI 16)) h16 e18 rfl) e19) (fun S20 h20 S22 e22 S23 e23 => ?_)
  have h23 : Hs z3 z4 A8 S23 := Hs_sn (Hs_su (.inl (nI 19)) h20 e22 rfl) e23
  refine ⟨h23 0 0 _ k7, i_X4 h23 (fun S25 h25 S27 e27 S28 e28 => ?_)⟩
  have h28 : Hs z3 z4 A9 S28 := Hs_sn (Hs_su (.inl (nI 94)) h25 e27 rfl) e28
  refine ⟨h28 0 0 _ k8, h28 0 5 _ k9, i_X0 h28 (fun S31 h31 S33 e33 S34 e34 => ?_)⟩
  have h34 : Hs z3 z4 A10 S34 := Hs_sn (Hs_su (.inl (nI 104)) h31 e33 rfl) e34
  refine ⟨h34 0 0 _ k10, h34 0 6 _ k11, i_X7 h34 (fun S37 h37 S39 e39 => ?_)⟩
  exact hK S39 (Hs_su (.inl (nI 222)) h37 e39 rfl)
theorem c_make22 (h : ∀ z4, Hs z3 z4 A0 S) (hz : z3 = nI (pN x1)) (hK : ∀ S', Hs (nI (pN x1)) (nI (nN x2)) A11 S' → K () S') : w2_X8_init_22 x1 x2 K z3 S := by
  have t1 : (1 : Int32).toInt = 1 := by decide
  have t4 : (4 : Int32).toInt = 4 := by decide
  subst hz
  unfold w2_X8_init_22 w2_X8_init_36
  have no : nN x2 = 3 → w2_X8_init_37 x1 x2 K (nI (pN x1)) 3 S := fun e => c_make37 (h 3) (fun S' h' => hK S' (by rw [e]; exact h'))
  refine ⟨fun q => no ?_, fun q => ⟨fun q2 => no ?_, fun q2 => ?_⟩⟩
  · rw [Int32.lt_iff_toInt_lt, t1] at q
    unfold nN; rw [if_neg (by omega)]
  · rw [Int32.lt_iff_toInt_lt, t4] at q2
    unfold nN; rw [if_neg (by omega)]
  · rw [Int32.lt_iff_toInt_lt, t1] at q
    rw [Int32.lt_iff_toInt_lt, t4] at q2
    have e : x2 = nI (nN x2) := by
      unfold nN; rw [if_pos ⟨by omega, by omega⟩]; exact nI_nn (by omega)
    refine c_make37 (h x2) (fun S' h' => hK S' ?_)
    rw [← e]; exact h'
theorem c_make (S : St) (hK : ∀ S', Hs (nI (pN x1)) (nI (nN x2)) A11 S' → K () S') : w2_X8_init x1 x2 (sn S 0 fresh_7) K := by
  unfold w2_X8_init
  intro S1 e1
  have h0 : ∀ z3 z4, Hs z3 z4 A0 S1 := fun z3 z4 => Hs_sn (Hs_sn (F := fun _ _ => none) (S := S) (fun _ _ _ z => by cases z) rfl) e1
  refine c_prime (fun _ e => ⟨fun z => absurd z (by decide), fun _ => c_make22 (fun z4 => h0 _ z4) e hK⟩) (fun e => ⟨fun _ => c_make22 (fun z4 => h0 _ z4) (by rw [e]; rfl) hK, fun z => absurd rfl z⟩)

def B0 : Tab := fsn A11 224 fresh_8
def B1 : Tab := fsu B0 224 2 (.inl 2)
def B2 : Tab := fsn B1 225 (fun _ => 0)
def B3 : Tab := fsu B2 224 3 (.inl (nI 225))
def B4 : Tab := fsn B3 226 (fun _ => 0)
def B5 : Tab := fsu B4 224 4 (.inl (nI 226))
def B6 : Tab := fsn B5 227 (fun _ => 0)
def B7 : Tab := fsu B6 224 5 (.inl (nI 227))
def B8 : Tab := fsn B7 228 (fun _ => 0)
def B9 : Tab := fsu B8 224 8 (.inl (nI 228))
def B10 : Tab := fsn B9 229 (fun _ => 0)
def B11 : Tab := fsu B10 224 9 (.inl (nI 229))
def B12 : Tab := fsu B11 224 10 (.inl 500)
def B13 : Tab := fsn B12 230 (fun _ => 0)
def B14 : Tab := fsu B13 224 21 (.inl (nI 230))
def B15 : Tab := fsn B14 231 (fun _ => 0)
def B16 : Tab := fsu B15 224 22 (.inl (nI 231))
def B17 : Tab := fsn B16 232 (fun _ => 0)
def B18 : Tab := fsu B17 224 23 (.inl (nI 232))
def B19 : Tab := fsn B18 233 (fun _ => 0)
def B20 : Tab := fsu B19 224 24 (.inl (nI 233))
def B21 : Tab := fsn B20 234 (fun _ => 0)
def B22 : Tab := fsu B21 224 25 (.inl (nI 234))
def B23 : Tab := fsn B22 235 (fun _ => 0)
def B24 : Tab := fsu B23 224 26 (.inl (nI 235))
def B25 : Tab := fsn B24 236 (fun _ => 0)
def B26 : Tab := fsu B25 224 28 (.inl (nI 236))
def B27 : Tab := fsn B26 237 (fun _ => 0)
def B28 : Tab := fsu B27 224 31 (.inl (nI 237))
def B29 : Tab := fsn B28 238 (fun _ => 0)
def B30 : Tab := fsu B29 224 32 (.inl (nI 238))
def B31 : Tab := fsn B30 239 (fun _ => 0)
def B32 : Tab := fsu B31 224 33 (.inl (nI 239))
def B33 : Tab := fsn B32 240 (fun _ => 0)
def B34 : Tab := fsu B33 224 36 (.inl (nI 240))
def B35 : Tab := fsn B34 241 (fun _ => 0)
def B36 : Tab := fsu B35 224 37 (.inl (nI 241))
def BZ : Tab := fsu (fsu B36 224 0 (.inr false)) 224 1 (.inr true)
def lpR (i : Nat) : Tab := fun d j => if d = 225 ∧ 1 ≤ j ∧ j < i then some (.inl (-1)) else BZ d j
theorem BZ_look : BZ 224 3 = some (.inl (nI 225)) := by decide +kernel
theorem m_make187 (h : Hs z3 z4 (fsu B36 224 0 (.inr false)) S) (hK : ∀ S', Hs z3 z4 (lpR 25) S' → K () S') : w2_X9_init_187 x1 x2 K z4 S := by
  unfold w2_X9_init_187
  intro S1 e1
  have h1 : Hs z3 z4 BZ S1 := Hs_su (.inr true) h e1 rfl
  have loop : ∀ (d t : Nat) (S1 : St), t + d = 25 → 1 ≤ t → Hs z3 z4 (lpR t) S1 → q_it (fun _ _ => False) (w2_X9_init_192 x1 x2 K) (d + 1) (nI t) S1 := by
    intro d
    induction d with
    | zero =>
      intro t S1 ht t1 h1
      rw [q_it_s]
      unfold w2_X9_init_192
      refine pk_le 25 t (fun _ => ?_) (fun z => by omega)
      rw [show t = 25 by omega] at h1
      exact hK S1 h1
    | succ d ih =>
      intro t S1 ht t1 h1
      rw [q_it_s]
      generalize q_it (fun _ _ => False) (w2_X9_init_192 x1 x2 K) (d + 1) = k at ih ⊢
      unfold w2_X9_init_192
      refine pk_le 25 t (fun z => by omega) (fun _ => ⟨?_, vp_in_nI (by omega) (by decide), fun S4 e4 x3 e3 => ?_⟩)
      · refine h1 224 3 (.inl (nI 225)) ?_
        unfold lpR
        rw [if_neg (by omega)]
        exact BZ_look
      · rw [m_lit 1, nI_add] at e3
        rw [m_rf (by omega)] at e4
        subst e3
        refine ih (t + 1) S4 (by omega) (by omega) (Hs_mono (Hs_su (.inl (-1)) h1 e4 rfl) (fun c j v q => ?_))
        unfold lpR at q
        unfold fsu lpR
        by_cases y : c = 225 ∧ j = t
        · rw [if_pos (by omega)] at q
          rw [if_pos y]; exact q
        · rw [if_neg y]
          by_cases y2 : c = 225 ∧ 1 ≤ j ∧ j < t
          · rw [if_pos (by omega)] at q
            rw [if_pos y2]; exact q
          · rw [if_neg (by omega)] at q
            rw [if_neg y2]; exact q
  refine ⟨24 + 1, loop 24 1 S1 (by decide) (by decide) (Hs_mono h1 (fun c j v q => ?_))⟩
  unfold lpR at q
  rw [if_neg (by omega)] at q
  exact q
theorem m_make168 (h : Hs z3 (nI (nN x2)) B36 S) (hK : ∀ S', Hs z3 (nI (nN x2)) (lpR 25) S' → K () S') : w2_X9_init_168 x1 x2 K z3 S := by
  have t1 : (1 : Int32).toInt = 1 := by decide
  have t4 : (4 : Int32).toInt = 4 := by decide
  unfold w2_X9_init_168 w2_X9_init_186
  intro S1 e1
  have h1 := Hs_su (.inr false) h e1 rfl
  have no : nN x2 = 3 → w2_X9_init_187 x1 x2 K 3 S1 := fun e => by
    have := m_make187 (x1 := x1) (x2 := x2) h1 hK
    rw [e] at this
    exact this
  refine ⟨fun q => no ?_, fun q => ⟨fun q2 => no ?_, fun q2 => ?_⟩⟩
  · rw [Int32.lt_iff_toInt_lt, t1] at q
    unfold nN; rw [if_neg (by omega)]
  · rw [Int32.lt_iff_toInt_lt, t4] at q2
    unfold nN; rw [if_neg (by omega)]
  · rw [Int32.lt_iff_toInt_lt, t1] at q
    rw [Int32.lt_iff_toInt_lt, t4] at q2
    have e : x2 = nI (nN x2) := by
      unfold nN; rw [if_pos ⟨by omega, by omega⟩]; exact nI_nn (by omega)
    have := m_make187 (x1 := x1) (x2 := x2) h1 hK
    rw [← e] at this
    exact this
theorem m_make (h : Hs (nI (pN x1)) (nI (nN x2)) A11 S) (hK : ∀ S', Hs (nI (pN x1)) (nI (nN x2)) (lpR 25) S' → K () S') : w2_X9_init x1 x2 (sn S 224 fresh_8) K := by
  unfold w2_X9_init
  have g0 : Hs (nI (pN x1)) (nI (nN x2)) B0 (sn S 224 fresh_8) := Hs_sn h rfl
  intro S1 e1
  have g1 : Hs (nI (pN x1)) (nI (nN x2)) B1 S1 := Hs_su (.inl 2) g0 e1 rfl
  intro S2 e2
  have g2 : Hs (nI (pN x1)) (nI (nN x2)) B2 S2 := Hs_sn g1 e2
  intro S3 e3
  have g3 : Hs (nI (pN x1)) (nI (nN x2)) B3 S3 := Hs_su (.inl (nI 225)) g2 e3 rfl
  intro S4 e4
  have g4 : Hs (nI (pN x1)) (nI (nN x2)) B4 S4 := Hs_sn g3 e4
  intro S5 e5
  have g5 : Hs (nI (pN x1)) (nI (nN x2)) B5 S5 := Hs_su (.inl (nI 226)) g4 e5 rfl
  intro S6 e6
  have g6 : Hs (nI (pN x1)) (nI (nN x2)) B6 S6 := Hs_sn g5 e6
  intro S7 e7
  have g7 : Hs (nI (pN x1)) (nI (nN x2)) B7 S7 := Hs_su (.inl (nI 227)) g6 e7 rfl
  intro S8 e8
  have g8 : Hs (nI (pN x1)) (nI (nN x2)) B8 S8 := Hs_sn g7 e8
  intro S9 e9
  have g9 : Hs (nI (pN x1)) (nI (nN x2)) B9 S9 := Hs_su (.inl (nI 228)) g8 e9 rfl
  intro S10 e10
  have g10 : Hs (nI (pN x1)) (nI (nN x2)) B10 S10 := Hs_sn g9 e10
  intro S11 e11
  have g11 : Hs (nI (pN x1)) (nI (nN x2)) B11 S11 := Hs_su (.inl (nI 229)) g10 e11 rfl
  intro S12 e12
  have g12 : Hs (nI (pN x1)) (nI (nN x2)) B12 S12 := Hs_su (.inl 500) g11 e12 rfl
  intro S13 e13
  have g13 : Hs (nI (pN x1)) (nI (nN x2)) B13 S13 := Hs_sn g12 e13
  intro S14 e14
  have g14 : Hs (nI (pN x1)) (nI (nN x2)) B14 S14 := Hs_su (.inl (nI 230)) g13 e14 rfl
  intro S15 e15
  have g15 : Hs (nI (pN x1)) (nI (nN x2)) B15 S15 := Hs_sn g14 e15
  intro S16 e16
  have g16 : Hs (nI (pN x1)) (nI (nN x2)) B16 S16 := Hs_su (.inl (nI 231)) g15 e16 rfl
  intro S17 e17
  have g17 : Hs (nI (pN x1)) (nI (nN x2)) B17 S17 := Hs_sn g16 e17
  intro S18 e18
  have g18 : Hs (nI (pN x1)) (nI (nN x2)) B18 S18 := Hs_su (.inl (nI 232)) g17 e18 rfl
  intro S19 e19
  have g19 : Hs (nI (pN x1)) (nI (nN x2)) B19 S19 := Hs_sn g18 e19
  intro S20 e20
  have g20 : Hs (nI (pN x1)) (nI (nN x2)) B20 S20 := Hs_su (.inl (nI 233)) g19 e20 rfl
  intro S21 e21
  have g21 : Hs (nI (pN x1)) (nI (nN x2)) B21 S21 := Hs_sn g20 e21
  intro S22 e22
  have g22 : Hs (nI (pN x1)) (nI (nN x2)) B22 S22 := Hs_su (.inl (nI 234)) g21 e22 rfl
  intro S23 e23
  have g23 : Hs (nI (pN x1)) (nI (nN x2)) B23 S23 := Hs_sn g22 e23
  intro S24 e24
  have g24 : Hs (nI (pN x1)) (nI (nN x2)) B24 S24 := Hs_su (.inl (nI 235)) g23 e24 rfl
  intro S25 e25
  have g25 : Hs (nI (pN x1)) (nI (nN x2)) B25 S25 := Hs_sn g24 e25
  intro S26 e26
  have g26 : Hs (nI (pN x1)) (nI (nN x2)) B26 S26 := Hs_su (.inl (nI 236)) g25 e26 rfl
  intro S27 e27
  have g27 : Hs (nI (pN x1)) (nI (nN x2)) B27 S27 := Hs_sn g26 e27
  intro S28 e28
  have g28 : Hs (nI (pN x1)) (nI (nN x2)) B28 S28 := Hs_su (.inl (nI 237)) g27 e28 rfl
  intro S29 e29
  have g29 : Hs (nI (pN x1)) (nI (nN x2)) B29 S29 := Hs_sn g28 e29
  intro S30 e30
  have g30 : Hs (nI (pN x1)) (nI (nN x2)) B30 S30 := Hs_su (.inl (nI 238)) g29 e30 rfl
  intro S31 e31
  have g31 : Hs (nI (pN x1)) (nI (nN x2)) B31 S31 := Hs_sn g30 e31
  intro S32 e32
  have g32 : Hs (nI (pN x1)) (nI (nN x2)) B32 S32 := Hs_su (.inl (nI 239)) g31 e32 rfl
  intro S33 e33
  have g33 : Hs (nI (pN x1)) (nI (nN x2)) B33 S33 := Hs_sn g32 e33
  intro S34 e34
  have g34 : Hs (nI (pN x1)) (nI (nN x2)) B34 S34 := Hs_su (.inl (nI 240)) g33 e34 rfl
  intro S35 e35
  have g35 : Hs (nI (pN x1)) (nI (nN x2)) B35 S35 := Hs_sn g34 e35
  intro S36 e36
  have g36 : Hs (nI (pN x1)) (nI (nN x2)) B36 S36 := Hs_su (.inl (nI 241)) g35 e36 rfl
  refine m_prime (fun _ e => ⟨fun z => absurd z (by decide), fun _ => ?_⟩) (fun e => ⟨fun _ => ?_, fun z => absurd rfl z⟩)
  · have := m_make168 (x1 := x1) g36 hK
    rw [← e] at this
    exact this
  · have := m_make168 (x1 := x1) g36 hK
    rw [e] at this
    exact this
end IN
