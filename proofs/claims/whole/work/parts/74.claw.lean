/-! both sides together: each call answers alike, and what both hold stays -/
section LW
variable {N : Nat → Nat} {T : Nat → Option Po} {R : Nat → Nat × Nat} {S : St}
theorem wf_terms {x1 : Int32} (w : WF N T R) : WFr (f_terms N T R x1) := by
  unfold f_terms
  (repeat' split) <;> exact w
theorem wf_number {x1 x2 : Int32} (w : WF N T R) : WFr (f_number N T R x1 x2) := by
  unfold f_number
  (repeat' split) <;> exact w
theorem wf_exponent {x1 x2 x3 : Int32} (w : WF N T R) : WFr (f_exponent N T R x1 x2 x3) := by
  unfold f_exponent
  (repeat' split) <;> exact w
theorem wf_value {x1 x2 x3 x4 x5 : Int32} (w : WF N T R) : WFr (f_value N T R x1 x2 x3 x4 x5) := by
  unfold f_value
  (repeat' split) <;> exact w
theorem wf_compare {x1 x2 : Int32} (w : WF N T R) : WFr (f_compare N T R x1 x2) := by
  unfold f_compare
  (repeat' split) <;> exact w
theorem wf_pair {x1 : Int32} (w : WF N T R) : WFr (f_pair N T R x1) := by
  unfold f_pair
  (repeat' split) <;> exact w
theorem wf_standing (w : WF N T R) : WFr (f_standing N T R) := by
  unfold f_standing
  (repeat' split) <;> exact w
theorem wf_stands {x1 x2 : Int32} (w : WF N T R) : WFr (f_stands N T R x1 x2) := by
  unfold f_stands
  (repeat' split) <;> exact w
theorem wf_without {x1 : Int32} (w : WF N T R) : WFr (f_without N T R x1) := by
  unfold f_without
  (repeat' split) <;> exact w
theorem wf_zeros (w : WF N T R) : WFr (f_zeros N T R) := by
  unfold f_zeros
  (repeat' split) <;> exact w
theorem wf_count {x1 : Int32} (w : WF N T R) : WFr (f_count N T R x1) := by
  unfold f_count
  (repeat' split) <;> exact w
def PI (S : St) : Prop := ∃ N T R, WF N T R ∧ CC N T R S ∧ M9 N T R S
theorem M9_hi8 {S' : St} (h : M9 N T R S) (i : hi S S') : M9 N T R S' := by
  obtain ⟨a, b, c, d⟩ := h
  refine ⟨fun j hj => by rw [i 224 (by decide)]; exact a j hj, fun k P hk hT => PM_fr (b k P hk hT) (i 225 (by decide)) (i 226 (by decide)) (i 227 (by decide)), fun k q1 q2 hT => by rw [i 225 (by decide)]; exact c k q1 q2 hT, fun t ht => ?_⟩
  rw [i 228 (by decide), i 229 (by decide)]
  exact d t ht
theorem kp_224 {b c : Nat} (h : kp b c = true) : c < 224 := by
  unfold kp at h
  simp only [Bool.or_eq_true, Bool.and_eq_true, decide_eq_true_eq] at h
  omega
theorem CC_lo {S' : St} (h : CC N T R S) (l : lo S S') : CC N T R S' := by
  obtain ⟨b, g, h⟩ := h
  exact ⟨b, g, RC_fr h (fun c hc => l c (kp_224 hc))⟩
/-- a call on both sides -/
theorem both {f : Int32 × (Nat → Nat) × (Nat → Option Po) × (Nat → Nat × Nat)} {C D : St → (Int32 → St → Prop) → Prop} (w : WFr f) (h9 : M9 N T R S) (hC : ∀ K, D8 f S K → C S K) (hD : ∀ S1 K, M9 N T R S1 → D9 f S1 K → D S1 K) : C S (fun r1 S1 => D S1 (fun r2 S2 => r1 = r2 ∧ PI S2)) :=
  hC _ (fun S1 h1 i1 => hD S1 _ (M9_hi8 h9 i1) (fun S2 h2 l2 => ⟨rfl, f.2.1, f.2.2.1, f.2.2.2, w, CC_lo h1 l2, h2⟩))
end LW
theorem law_all : law_ok PI := by
  refine ⟨?_, ?_, ?_, ?_, ?_, ?_, ?_, ?_, ?_, ?_, ?_, ?_, ?_, ?_, ?_, ?_, ?_, ?_, ?_, ?_, ?_, ?_, ?_, ?_, ?_, ?_, ?_, ?_, ?_⟩
  · intro x1 S h
    obtain ⟨N, T, R, w, ⟨b, g, hc⟩, h9⟩ := h
    exact both (C := fun S K => w_X8_order x1 S K) (D := fun S K => w_X9_order x1 S K) (wf_order w) h9 (fun K hK => c_order w hc hK) (fun S1 K h1 hK => m_order w h1 hK)
  · intro x1 x2 x3 x4 x5 S h
    obtain ⟨N, T, R, w, ⟨b, g, hc⟩, h9⟩ := h
    exact both (C := fun S K => w_X8_term x1 x2 x3 x4 x5 S K) (D := fun S K => w_X9_term x1 x2 x3 x4 x5 S K) (wf_term w) h9 (fun K hK => c_term w hc hK) (fun S1 K h1 hK => m_term w h1 hK)
  · intro S h
    obtain ⟨N, T, R, w, ⟨b, g, hc⟩, h9⟩ := h
    exact both (C := fun S K => w_X8_keep  S K) (D := fun S K => w_X9_keep  S K) (wf_keep w) h9 (fun K hK => c_keep w hc hK) (fun S1 K h1 hK => m_keep w h1 hK)
  · intro x1 S h
    obtain ⟨N, T, R, w, ⟨b, g, hc⟩, h9⟩ := h
    exact both (C := fun S K => w_X8_drop x1 S K) (D := fun S K => w_X9_drop x1 S K) (wf_drop w) h9 (fun K hK => c_drop hc hK) (fun S1 K h1 hK => m_drop h1 hK)
  · intro x1 S h
    obtain ⟨N, T, R, w, ⟨b, g, hc⟩, h9⟩ := h
    exact both (C := fun S K => w_X8_terms x1 S K) (D := fun S K => w_X9_terms x1 S K) (wf_terms w) h9 (fun K hK => c_terms w hc hK) (fun S1 K h1 hK => m_terms w h1 hK)
  · intro x1 x2 S h
    obtain ⟨N, T, R, w, ⟨b, g, hc⟩, h9⟩ := h
    exact both (C := fun S K => w_X8_number x1 x2 S K) (D := fun S K => w_X9_number x1 x2 S K) (wf_number w) h9 (fun K hK => c_number w hc hK) (fun S1 K h1 hK => m_number w h1 hK)
  · intro x1 x2 x3 S h
    obtain ⟨N, T, R, w, ⟨b, g, hc⟩, h9⟩ := h
    exact both (C := fun S K => w_X8_exponent x1 x2 x3 S K) (D := fun S K => w_X9_exponent x1 x2 x3 S K) (wf_exponent w) h9 (fun K hK => c_exponent w hc hK) (fun S1 K h1 hK => m_exponent w h1 hK)
  · intro x1 x2 x3 S h
    obtain ⟨N, T, R, w, ⟨b, g, hc⟩, h9⟩ := h
    exact both (C := fun S K => w_X8_sum x1 x2 x3 S K) (D := fun S K => w_X9_sum x1 x2 x3 S K) (wf_sum w) h9 (fun K hK => c_sum w hc hK) (fun S1 K h1 hK => m_sum w h1 hK)
  · intro x1 x2 S h
    obtain ⟨N, T, R, w, ⟨b, g, hc⟩, h9⟩ := h
    exact both (C := fun S K => w_X8_product x1 x2 S K) (D := fun S K => w_X9_product x1 x2 S K) (wf_product w) h9 (fun K hK => c_product w hc hK) (fun S1 K h1 hK => m_product w h1 hK)
  · intro x1 x2 S h
    obtain ⟨N, T, R, w, ⟨b, g, hc⟩, h9⟩ := h
    exact both (C := fun S K => w_X8_derived x1 x2 S K) (D := fun S K => w_X9_derived x1 x2 S K) (wf_derived w) h9 (fun K hK => c_derived w hc hK) (fun S1 K h1 hK => m_derived w h1 hK)
  · intro x1 x2 S h
    obtain ⟨N, T, R, w, ⟨b, g, hc⟩, h9⟩ := h
    exact both (C := fun S K => w_X8_spair x1 x2 S K) (D := fun S K => w_X9_spair x1 x2 S K) (wf_spair w) h9 (fun K hK => c_spair w hc hK) (fun S1 K h1 hK => m_spair w h1 hK)
  · intro x1 x2 x3 x4 x5 S h
    obtain ⟨N, T, R, w, ⟨b, g, hc⟩, h9⟩ := h
    exact both (C := fun S K => w_X8_value x1 x2 x3 x4 x5 S K) (D := fun S K => w_X9_value x1 x2 x3 x4 x5 S K) (wf_value w) h9 (fun K hK => c_value w hc hK) (fun S1 K h1 hK => m_value w h1 hK)
  · intro x1 x2 S h
    obtain ⟨N, T, R, w, ⟨b, g, hc⟩, h9⟩ := h
    exact both (C := fun S K => w_X8_compare x1 x2 S K) (D := fun S K => w_X9_compare x1 x2 S K) (wf_compare w) h9 (fun K hK => c_compare w hc hK) (fun S1 K h1 hK => m_compare w h1 hK)
  · intro x1 S h
    obtain ⟨N, T, R, w, ⟨b, g, hc⟩, h9⟩ := h
    exact both (C := fun S K => w_X8_fuel x1 S K) (D := fun S K => w_X9_fuel x1 S K) (wf_fuel w) h9 (fun K hK => c_fuel hc hK) (fun S1 K h1 hK => m_fuel h1 hK)
  · intro x1 S h
    obtain ⟨N, T, R, w, ⟨b, g, hc⟩, h9⟩ := h
    exact both (C := fun S K => w_X8_way x1 S K) (D := fun S K => w_X9_way x1 S K) (wf_way w) h9 (fun K hK => c_way hc hK) (fun S1 K h1 hK => m_way h1 hK)
  · intro x1 S h
    obtain ⟨N, T, R, w, ⟨b, g, hc⟩, h9⟩ := h
    exact both (C := fun S K => w_X8_rules x1 S K) (D := fun S K => w_X9_rules x1 S K) (wf_rules w) h9 (fun K hK => c_rules hc hK) (fun S1 K h1 hK => m_rules h1 hK)
  · intro x1 S h
    obtain ⟨N, T, R, w, ⟨b, g, hc⟩, h9⟩ := h
    exact both (C := fun S K => w_X8_enter x1 S K) (D := fun S K => w_X9_enter x1 S K) (wf_enter w) h9 (fun K hK => c_enter w hc hK) (fun S1 K h1 hK => m_enter w h1 hK)
  · intro S h
    obtain ⟨N, T, R, w, ⟨b, g, hc⟩, h9⟩ := h
    exact both (C := fun S K => w_X8_clear  S K) (D := fun S K => w_X9_clear  S K) (wf_clear w) h9 (fun K hK => c_clear hc hK) (fun S1 K h1 hK => m_clear h1 hK)
  · intro x1 S h
    obtain ⟨N, T, R, w, ⟨b, g, hc⟩, h9⟩ := h
    exact both (C := fun S K => w_X8_work x1 S K) (D := fun S K => w_X9_work x1 S K) (wf_work w) h9 (fun K hK => c_work w hc hK) (fun S1 K h1 hK => m_work w h1 hK)
  · intro S h
    obtain ⟨N, T, R, w, ⟨b, g, hc⟩, h9⟩ := h
    exact both (C := fun S K => w_X8_tidy  S K) (D := fun S K => w_X9_tidy  S K) (wf_tidy w) h9 (fun K hK => c_tidy w hc hK) (fun S1 K h1 hK => m_tidy w h1 hK)
  · intro x1 S h
    obtain ⟨N, T, R, w, ⟨b, g, hc⟩, h9⟩ := h
    exact both (C := fun S K => w_X8_left x1 S K) (D := fun S K => w_X9_left x1 S K) (wf_left w) h9 (fun K hK => c_left w hc hK) (fun S1 K h1 hK => m_left w h1 hK)
  · intro x1 S h
    obtain ⟨N, T, R, w, ⟨b, g, hc⟩, h9⟩ := h
    exact both (C := fun S K => w_X8_member x1 S K) (D := fun S K => w_X9_member x1 S K) (wf_member w) h9 (fun K hK => c_member w hc hK) (fun S1 K h1 hK => m_member w h1 hK)
  · intro x1 S h
    obtain ⟨N, T, R, w, ⟨b, g, hc⟩, h9⟩ := h
    exact both (C := fun S K => w_X8_pair x1 S K) (D := fun S K => w_X9_pair x1 S K) (wf_pair w) h9 (fun K hK => c_pair w hc hK) (fun S1 K h1 hK => m_pair w h1 hK)
  · intro S h
    obtain ⟨N, T, R, w, ⟨b, g, hc⟩, h9⟩ := h
    exact both (C := fun S K => w_X8_standing  S K) (D := fun S K => w_X9_standing  S K) (wf_standing w) h9 (fun K hK => c_standing w hc hK) (fun S1 K h1 hK => m_standing w h1 hK)
  · intro x1 x2 S h
    obtain ⟨N, T, R, w, ⟨b, g, hc⟩, h9⟩ := h
    exact both (C := fun S K => w_X8_stands x1 x2 S K) (D := fun S K => w_X9_stands x1 x2 S K) (wf_stands w) h9 (fun K hK => c_stands w hc hK) (fun S1 K h1 hK => m_stands w h1 hK)
  · intro x1 S h
    obtain ⟨N, T, R, w, ⟨b, g, hc⟩, h9⟩ := h
    exact both (C := fun S K => w_X8_without x1 S K) (D := fun S K => w_X9_without x1 S K) (wf_without w) h9 (fun K hK => c_without w hc hK) (fun S1 K h1 hK => m_without w h1 hK)
  · intro S h
    obtain ⟨N, T, R, w, ⟨b, g, hc⟩, h9⟩ := h
    exact both (C := fun S K => w_X8_zeros  S K) (D := fun S K => w_X9_zeros  S K) (wf_zeros w) h9 (fun K hK => c_zeros w hc hK) (fun S1 K h1 hK => m_zeros w h1 hK)
  · intro x1 S h
    obtain ⟨N, T, R, w, ⟨b, g, hc⟩, h9⟩ := h
    exact both (C := fun S K => w_X8_count x1 S K) (D := fun S K => w_X9_count x1 S K) (wf_count w) h9 (fun K hK => c_count w hc hK) (fun S1 K h1 hK => m_count w h1 hK)
  · intro S h
    obtain ⟨N, T, R, w, ⟨b, g, hc⟩, h9⟩ := h
    exact c_digest w hc (m_digest w h9 ⟨rfl, N, T, R, w, ⟨b, g, hc⟩, h9⟩)
