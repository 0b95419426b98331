def w_J9_floorMod_7cf53_18 (x0 : Int32) (x1 : Int32) (K : Int32 → St → Prop) (x2 : Int32) (S : St) : Prop :=
  K x2 S
def w_J9_floorMod_7cf53 (x0 : Int32) (x1 : Int32) (S : St) (K : Int32 → St → Prop) : Prop :=
  (¬ x1 = 0) ∧ ∀ x2_2 : Int32, x2_2 = x0 - x0 / x1 * x1 → (0 ≤ (x0 ^^^ x1) → (w_J9_floorMod_7cf53_18 x0 x1 K x2_2 S)) ∧ (¬ 0 ≤ (x0 ^^^ x1) → ((x2_2 = 0 → (w_J9_floorMod_7cf53_18 x0 x1 K x2_2 S)) ∧ (¬ x2_2 = 0 → (K (x2_2 + x1) S))))

def w_J9_max_7cf53 (x0 : Int32) (x1 : Int32) (S : St) (K : Int32 → St → Prop) : Prop :=
  (x0 < x1 → (K x1 S)) ∧ (¬ x0 < x1 → (K x0 S))

def w_J9_min_7cf53 (x0 : Int32) (x1 : Int32) (S : St) (K : Int32 → St → Prop) : Prop :=
  (x1 < x0 → (K x1 S)) ∧ (¬ x1 < x0 → (K x0 S))

def w_J6_compare_7cf53 (x0 : Int32) (x1 : Int32) (S : St) (K : Int32 → St → Prop) : Prop :=
  (x1 ≤ x0 → ((¬ x0 = x1 → (K 1 S)) ∧ (x0 = x1 → (K 0 S)))) ∧ (¬ x1 ≤ x0 → (K (-1) S))

def w_J7_fill_53178_5 (q0 : Nat) (x1 : Int32) (K : Unit → St → Prop) (x3 : Int32) (k5 : Int32 → St → Prop) (x2 : Int32) (S : St) : Prop :=
  (x3 ≤ x2 → (K () S)) ∧ (¬ x3 ≤ x2 → (vp_in x2 (alen q0) ∧ ∀ S_3 : St, S_3 = su S q0 (q_rf x2) x1 → ∀ x2_4 : Int32, x2_4 = x2 + 1 → k5 x2_4 S_3))
def w_J7_fill_53178 (q0 : Nat) (x1 : Int32) (S : St) (K : Unit → St → Prop) : Prop :=
  ∀ x3_1 : Int32, x3_1 = nI (alen q0) → ∃ f, q_it (fun _ _ => False) (w_J7_fill_53178_5 q0 x1 K x3_1) f 0 S

def w_X1_of (x0 : Int32) (x1 : Int32) (x2 : Int32) (x3 : Int32) (S : St) (K : Int32 → St → Prop) : Prop :=
  K (((x0 ||| (x1 <<< (8 &&& 31))) ||| (x2 <<< (16 &&& 31))) ||| (x3 <<< (24 &&& 31))) S

def w_X1_variable (x0 : Int32) (S : St) (K : Int32 → St → Prop) : Prop :=
  K (1 <<< ((8 * x0) &&& 31)) S

def w_X1_exponentOf (x0 : Int32) (x1 : Int32) (S : St) (K : Int32 → St → Prop) : Prop :=
  K (((x0.toUInt32 >>> ((8 * x1 : Int32).toUInt32 &&& Int32.toUInt32 31)).toInt32) &&& 255) S

def w_X1_isGreat (x0 : Int32) (S : St) (K : Int32 → St → Prop) : Prop :=
  (((x0 + 1633771873) &&& (-2139062144)) = 0 → (K 0 S)) ∧ (¬ ((x0 + 1633771873) &&& (-2139062144)) = 0 → (K 1 S))

def w_X1_divides (x0 : Int32) (x1 : Int32) (S : St) (K : Int32 → St → Prop) : Prop :=
  (¬ (((x1 ||| (-2139062144)) - x0) &&& (-2139062144)) = (-2139062144) → (K 0 S)) ∧ ((((x1 ||| (-2139062144)) - x0) &&& (-2139062144)) = (-2139062144) → (K 1 S))

def w_X1_leastMultiple_4 (x0 : Int32) (x1 : Int32) (K : Int32 → St → Prop) (k4 : Int32 → Int32 → St → Prop) (x2 : Int32) (x3 : Int32) (S : St) : Prop :=
  (4 ≤ x3 → (K x2 S)) ∧ (¬ 4 ≤ x3 → (w_X1_exponentOf x0 x3 S (fun r_3 S_2 => w_X1_exponentOf x1 x3 S_2 (fun r_5 S_4 => w_J9_max_7cf53 r_3 r_5 S_4 (fun r_7 S_6 => w_X1_variable x3 S_6 (fun r_9 S_8 => ∀ x2_10 : Int32, x2_10 = x2 + (r_7 * r_9) → ∀ x3_11 : Int32, x3_11 = x3 + 1 → k4 x2_10 x3_11 S_8))))))
def w_X1_leastMultiple (x0 : Int32) (x1 : Int32) (S : St) (K : Int32 → St → Prop) : Prop :=
  ∃ f, q_it (fun _ _ _ => False) (w_X1_leastMultiple_4 x0 x1 K) f 0 0 S

def w_X3_push (q0 : Nat) (x1 : Int32) (x2 : Int32) (S : St) (K : Int32 → St → Prop) : Prop :=
  ((S q0 2) < 40 → (vp_in (S q0 2) 40 ∧ ∀ S_3 : St, S_3 = su S (q0 + 1) (q_rf (S q0 2)) x1 → vp_in (S_3 q0 2) 40 ∧ ∀ S_5 : St, S_5 = su S_3 (q0 + 2) (q_rf (S_3 q0 2)) x2 → ∀ S_6 : St, S_6 = su S_5 q0 2 ((S_5 q0 2) + 1) → K 1 S_6)) ∧ (¬ (S q0 2) < 40 → (K 0 S))

def w_X3_copyFrom_13 (q0 : Nat) (q1 : Nat) (x2 : Int32) (K : Unit → St → Prop) (x3 : Int32) (k13 : Int32 → St → Prop) (x4 : Int32) (S : St) : Prop :=
  (x3 ≤ x4 → (K () S)) ∧ (¬ x3 ≤ x4 → (vp_in x4 40 ∧ w_X3_push q0 (S (q1 + 1) (q_rf x4)) (S (q1 + 2) (q_rf x4)) S (fun r_4 S_3 => ∀ x4_5 : Int32, x4_5 = x4 + 1 → k13 x4_5 S_3)))
def w_X3_copyFrom (q0 : Nat) (q1 : Nat) (x2 : Int32) (S : St) (K : Unit → St → Prop) : Prop :=
  ∀ x3_1 : Int32, x3_1 = S q1 2 → ∀ S_2 : St, S_2 = su S q0 2 0 → ∃ f, q_it (fun _ _ => False) (w_X3_copyFrom_13 q0 q1 x2 K x3_1) f x2 S_2

def w_X3_copyOf (q0 : Nat) (q1 : Nat) (S : St) (K : Unit → St → Prop) : Prop :=
  w_X3_copyFrom q0 q1 0 S (fun r_2 S_1 => K () S_1)

def w_X3_dropHead (q0 : Nat) (S : St) (K : Unit → St → Prop) : Prop :=
  w_X3_copyFrom q0 q0 1 S (fun r_2 S_1 => K () S_1)

def w_X3_head (q0 : Nat) (S : St) (K : Int32 → St → Prop) : Prop :=
  ((S q0 2) ≤ 0 → (K 0 S)) ∧ (¬ (S q0 2) ≤ 0 → (K (S (q0 + 2) (q_rf 0)) S))

def w_X2_comeWith_2 (x1 : Int32) (K : Unit → St → Prop) (k2 : Int32 → St → Prop) (x2 : Int32) (S : St) : Prop :=
  (x1 ≤ x2 → (K () S)) ∧ (¬ x1 ≤ x2 → ((153 ≤ (S 105 2) → (K () S)) ∧ (¬ 153 ≤ (S 105 2) → (vp_in (S 105 2) 153 ∧ ∀ S_4 : St, S_4 = su S 106 (q_rf (S 105 2)) x2 → vp_in (S_4 105 2) 153 ∧ ∀ S_6 : St, S_6 = su S_4 107 (q_rf (S_4 105 2)) x1 → ∀ S_7 : St, S_7 = su S_6 105 2 ((S_6 105 2) + 1) → ∀ x2_8 : Int32, x2_8 = x2 + 1 → k2 x2_8 S_7))))
def w_X2_comeWith (x1 : Int32) (S : St) (K : Unit → St → Prop) : Prop :=
  ∃ f, q_it (fun _ _ => False) (w_X2_comeWith_2 x1 K) f 0 S

def w_X2_remove_2 (x1 : Int32) (K : Unit → St → Prop) (k2 : Int32 → St → Prop) (x2 : Int32) (S : St) : Prop :=
  (((S 105 2) - 1) ≤ x2 → (∀ S_2 : St, S_2 = su S 105 2 ((S 105 2) - 1) → K () S_2)) ∧ (¬ ((S 105 2) - 1) ≤ x2 → (vp_in (x2 + 1) 153 ∧ vp_in x2 153 ∧ ∀ S_5 : St, S_5 = su S 106 (q_rf x2) (S 106 (q_rf (x2 + 1))) → ∀ S_6 : St, S_6 = su S_5 107 (q_rf x2) (S_5 107 (q_rf (x2 + 1))) → ∀ x2_7 : Int32, x2_7 = x2 + 1 → k2 x2_7 S_6))
def w_X2_remove (x1 : Int32) (S : St) (K : Unit → St → Prop) : Prop :=
  ∃ f, q_it (fun _ _ => False) (w_X2_remove_2 x1 K) f x1 S

def w_X2_waits_50 (x1 : Int32) (x2 : Int32) (K : Int32 → St → Prop) (k16 : Int32 → St → Prop) (x3 : Int32) (x4 : Int32) (x5 : Int32) (S : St) : Prop :=
  ∀ x5_1 : Int32, x5_1 = x5 + 1 → k16 x5_1 S
def w_X2_waits_16 (x1 : Int32) (x2 : Int32) (K : Int32 → St → Prop) (x3 : Int32) (x4 : Int32) (k16 : Int32 → St → Prop) (x5 : Int32) (S : St) : Prop :=
  ((S 105 2) ≤ x5 → (K 0 S)) ∧ (¬ (S 105 2) ≤ x5 → (vp_in x5 153 ∧ (¬ (S 106 (q_rf x5)) = x3 → (w_X2_waits_50 x1 x2 K k16 x3 x4 x5 S)) ∧ ((S 106 (q_rf x5)) = x3 → ((¬ (S 107 (q_rf x5)) = x4 → (w_X2_waits_50 x1 x2 K k16 x3 x4 x5 S)) ∧ ((S 107 (q_rf x5)) = x4 → (K 1 S))))))
def w_X2_waits (x1 : Int32) (x2 : Int32) (S : St) (K : Int32 → St → Prop) : Prop :=
  w_J9_min_7cf53 x1 x2 S (fun r_2 S_1 => w_J9_max_7cf53 x1 x2 S_1 (fun r_4 S_3 => ∃ f, q_it (fun _ _ => False) (w_X2_waits_16 x1 x2 K r_2 r_4) f 0 S_3))

def w_X5_hasVariable_16 (x1 : Int32) (K : Int32 → St → Prop) (S : St) : Prop :=
  K 0 S
def w_X5_hasVariable (x1 : Int32) (S : St) (K : Int32 → St → Prop) : Prop :=
  (x1 < 0 → (w_X5_hasVariable_16 x1 K S)) ∧ (¬ x1 < 0 → (((S 1 1) ≤ x1 → (w_X5_hasVariable_16 x1 K S)) ∧ (¬ (S 1 1) ≤ x1 → (K 1 S))))

def w_X5_mayBeExponent_26 (x1 : Int32) (x2 : Int32) (K : Int32 → St → Prop) (S : St) : Prop :=
  K 0 S
def w_X5_mayBeExponent_19 (x1 : Int32) (x2 : Int32) (K : Int32 → St → Prop) (z0 : Int32) (z1 : Int32) (S : St) : Prop :=
  (z1 < z0 → (w_X5_mayBeExponent_26 x1 x2 K S)) ∧ (¬ z1 < z0 → (K 1 S))
def w_X5_mayBeExponent (x1 : Int32) (x2 : Int32) (S : St) (K : Int32 → St → Prop) : Prop :=
  (x1 < 0 → (w_X5_mayBeExponent_26 x1 x2 K S)) ∧ (¬ x1 < 0 → (w_X5_hasVariable x2 S (fun r_3 S_2 => (r_3 = 0 → (w_X5_mayBeExponent_19 x1 x2 K x1 0 S_2)) ∧ (¬ r_3 = 0 → (w_X5_mayBeExponent_19 x1 x2 K x1 30 S_2)))))

def w_X5_restOf (x1 : Int32) (S : St) (K : Int32 → St → Prop) : Prop :=
  w_J9_floorMod_7cf53 x1 (S 1 0) S (fun r_2 S_1 => K r_2 S_1)

def w_X5_power_31 (x1 : Int32) (x2 : Int32) (K : Int32 → St → Prop) (k8 : Int32 → Int32 → Int32 → St → Prop) (x3 : Int32) (x4 : Int32) (x5 : Int32) (S : St) : Prop :=
  (¬ (S 1 0) = 0) ∧ ∀ x4_2 : Int32, x4_2 = (x4 * x4) - (x4 * x4) / (S 1 0) * (S 1 0) → ∀ x5_3 : Int32, x5_3 = x5 >>> (1 &&& 31) → k8 x3 x4_2 x5_3 S
def w_X5_power_8 (x1 : Int32) (x2 : Int32) (K : Int32 → St → Prop) (k8 : Int32 → Int32 → Int32 → St → Prop) (x3 : Int32) (x4 : Int32) (x5 : Int32) (S : St) : Prop :=
  (x5 ≤ 0 → (K x3 S)) ∧ (¬ x5 ≤ 0 → ((¬ (x5 &&& 1) = 1 → (w_X5_power_31 x1 x2 K k8 x3 x4 x5 S)) ∧ ((x5 &&& 1) = 1 → ((¬ (S 1 0) = 0) ∧ ∀ x3_4 : Int32, x3_4 = (x3 * x4) - (x3 * x4) / (S 1 0) * (S 1 0) → w_X5_power_31 x1 x2 K k8 x3_4 x4 x5 S))))
def w_X5_power (x1 : Int32) (x2 : Int32) (S : St) (K : Int32 → St → Prop) : Prop :=
  ∃ f, q_it (fun _ _ _ _ => False) (w_X5_power_8 x1 x2 K) f 1 x1 x2 S

def w_X5_inverse (x1 : Int32) (S : St) (K : Int32 → St → Prop) : Prop :=
  w_X5_power x1 ((S 1 0) - 2) S (fun r_2 S_1 => K r_2 S_1)

def w_X5_rank (x1 : Int32) (S : St) (K : Int32 → St → Prop) : Prop :=
  ∀ x2_1 : Int32, x2_1 = x1 &&& 255 → ∀ x3_2 : Int32, x3_2 = ((x1.toUInt32 >>> ((8 : Int32).toUInt32 &&& Int32.toUInt32 31)).toInt32) &&& 255 → ∀ x4_3 : Int32, x4_3 = ((x1.toUInt32 >>> ((16 : Int32).toUInt32 &&& Int32.toUInt32 31)).toInt32) &&& 255 → ∀ x5_4 : Int32, x5_4 = (x1.toUInt32 >>> ((24 : Int32).toUInt32 &&& Int32.toUInt32 31)).toInt32 → ∀ x6_5 : Int32, x6_5 = (((x2_1 + x3_2) + x4_3) + x5_4) <<< (20 &&& 31) → ∀ x7_6 : Int32, x7_6 = (((x2_1 <<< (15 &&& 31)) ||| (x3_2 <<< (10 &&& 31))) ||| (x4_3 <<< (5 &&& 31))) ||| x5_4 → (((S 1 2).toInt < 0 ∨ 2 < (S 1 2).toInt) → (K (((((x2_1 + x3_2) <<< (16 &&& 31)) ||| ((31 - x3_2) <<< (11 &&& 31))) ||| ((x4_3 + x5_4) <<< (5 &&& 31))) ||| (31 - x5_4)) S)) ∧ ((S 1 2) = 0 → (K x7_6 S)) ∧ ((S 1 2) = 1 → (K (x6_5 ||| x7_6) S)) ∧ ((S 1 2) = 2 → (K ((((x6_5 ||| ((31 - x5_4) <<< (15 &&& 31))) ||| ((31 - x4_3) <<< (10 &&& 31))) ||| ((31 - x3_2) <<< (5 &&& 31))) ||| (31 - x2_1)) S))

def w_X5_sortTerms_93 (q1 : Nat) (K : Unit → St → Prop) (k2 : Int32 → St → Prop) (x2 : Int32) (x3 : Int32) (x4 : Int32) (x5 : Int32) (S : St) : Prop :=
  vp_in x5 40 ∧ ∀ S_2 : St, S_2 = su S (q1 + 1) (q_rf x5) x3 → ∀ S_3 : St, S_3 = su S_2 (q1 + 2) (q_rf x5) x4 → ∀ x2_4 : Int32, x2_4 = x2 + 1 → k2 x2_4 S_3
def w_X5_sortTerms_28 (q1 : Nat) (K : Unit → St → Prop) (k2 : Int32 → St → Prop) (x2 : Int32) (x3 : Int32) (x4 : Int32) (k28 : Int32 → St → Prop) (x5 : Int32) (S : St) : Prop :=
  (x5 ≤ 0 → (w_X5_sortTerms_93 q1 K k2 x2 x3 x4 x5 S)) ∧ (¬ x5 ≤ 0 → (vp_in (x5 - 1) 40 ∧ w_X5_rank (S (q1 + 2) (q_rf (x5 - 1))) S (fun r_4 S_3 => w_X5_rank x4 S_3 (fun r_6 S_5 => (r_6 ≤ r_4 → (w_X5_sortTerms_93 q1 K k2 x2 x3 x4 x5 S_5)) ∧ (¬ r_6 ≤ r_4 → (vp_in x5 40 ∧ ∀ S_9 : St, S_9 = su S_5 (q1 + 1) (q_rf x5) (S_5 (q1 + 1) (q_rf (x5 - 1))) → ∀ S_10 : St, S_10 = su S_9 (q1 + 2) (q_rf x5) (S_9 (q1 + 2) (q_rf (x5 - 1))) → ∀ x5_11 : Int32, x5_11 = x5 + (-1) → k28 x5_11 S_10))))))
def w_X5_sortTerms_2 (q1 : Nat) (K : Unit → St → Prop) (k2 : Int32 → St → Prop) (x2 : Int32) (S : St) : Prop :=
  ((S q1 2) ≤ x2 → (K () S)) ∧ (¬ (S q1 2) ≤ x2 → (vp_in x2 40 ∧ ∀ x3_3 : Int32, x3_3 = S (q1 + 1) (q_rf x2) → ∀ x4_4 : Int32, x4_4 = S (q1 + 2) (q_rf x2) → ∃ f, q_it (fun _ _ => False) (w_X5_sortTerms_28 q1 K k2 x2 x3_3 x4_4) f x2 S))
def w_X5_sortTerms (q1 : Nat) (S : St) (K : Unit → St → Prop) : Prop :=
  ∃ f, q_it (fun _ _ => False) (w_X5_sortTerms_2 q1 K) f 1 S

def w_X5_comparePolys_15 (q1 : Nat) (q2 : Nat) (K : Int32 → St → Prop) (x3 : Int32) (k15 : Int32 → St → Prop) (x4 : Int32) (S : St) : Prop :=
  (x3 ≤ x4 → (w_J6_compare_7cf53 (S q1 2) (S q2 2) S (fun r_3 S_2 => K r_3 S_2))) ∧ (¬ x3 ≤ x4 → (vp_in x4 40 ∧ ((S (q1 + 2) (q_rf x4)) = (S (q2 + 2) (q_rf x4)) → (((S (q1 + 1) (q_rf x4)) = (S (q2 + 1) (q_rf x4)) → (∀ x4_7 : Int32, x4_7 = x4 + 1 → k15 x4_7 S)) ∧ (¬ (S (q1 + 1) (q_rf x4)) = (S (q2 + 1) (q_rf x4)) → (w_J6_compare_7cf53 (S (q1 + 1) (q_rf x4)) (S (q2 + 1) (q_rf x4)) S (fun r_9 S_8 => K r_9 S_8))))) ∧ (¬ (S (q1 + 2) (q_rf x4)) = (S (q2 + 2) (q_rf x4)) → (w_X5_rank (S (q1 + 2) (q_rf x4)) S (fun r_11 S_10 => w_X5_rank (S_10 (q2 + 2) (q_rf x4)) S_10 (fun r_13 S_12 => w_J6_compare_7cf53 r_11 r_13 S_12 (fun r_15 S_14 => K r_15 S_14)))))))
def w_X5_comparePolys (q1 : Nat) (q2 : Nat) (S : St) (K : Int32 → St → Prop) : Prop :=
  w_J9_min_7cf53 (S q1 2) (S q2 2) S (fun r_2 S_1 => ∃ f, q_it (fun _ _ => False) (w_X5_comparePolys_15 q1 q2 K r_2) f 0 S_1)

def w_X5_isMultipleGreat_2 (q0 : Nat) (x1 : Int32) (K : Int32 → St → Prop) (k2 : Int32 → St → Prop) (x2 : Int32) (S : St) : Prop :=
  ((S q0 2) ≤ x2 → (K 0 S)) ∧ (¬ (S q0 2) ≤ x2 → (vp_in x2 40 ∧ w_X1_isGreat ((S (q0 + 2) (q_rf x2)) + x1) S (fun r_4 S_3 => (r_4 = 0 → (∀ x2_6 : Int32, x2_6 = x2 + 1 → k2 x2_6 S_3)) ∧ (¬ r_4 = 0 → (K 1 S_3)))))
def w_X5_isMultipleGreat (q0 : Nat) (x1 : Int32) (S : St) (K : Int32 → St → Prop) : Prop :=
  ∃ f, q_it (fun _ _ => False) (w_X5_isMultipleGreat_2 q0 x1 K) f 0 S

def w_X5_addMultiple_206 (q1 : Nat) (q2 : Nat) (q3 : Nat) (x4 : Int32) (x5 : Int32) (K : Int32 → St → Prop) (k34 : Int32 → Int32 → Int32 → St → Prop) (x6 : Int32) (x7 : Int32) (x8 : Int32) (S : St) : Prop :=
  ∀ x8_1 : Int32, x8_1 = x8 + (-1) → k34 x6 x7 x8_1 S
def w_X5_addMultiple_187 (q1 : Nat) (q2 : Nat) (q3 : Nat) (x4 : Int32) (x5 : Int32) (K : Int32 → St → Prop) (k34 : Int32 → Int32 → Int32 → St → Prop) (x6 : Int32) (x7 : Int32) (x8 : Int32) (x11 : Int32) (x12 : Int32) (S : St) : Prop :=
  (x11 = 0 → (w_X5_addMultiple_206 q1 q2 q3 x4 x5 K k34 x6 x7 x8 S)) ∧ (¬ x11 = 0 → (w_X3_push q1 x11 x12 S (fun r_3 S_2 => (¬ r_3 = 0 → (w_X5_addMultiple_206 q1 q2 q3 x4 x5 K k34 x6 x7 x8 S_2)) ∧ (r_3 = 0 → (K (-6) S_2)))))
def w_X5_addMultiple_137 (q1 : Nat) (q2 : Nat) (q3 : Nat) (x4 : Int32) (x5 : Int32) (K : Int32 → St → Prop) (k34 : Int32 → Int32 → Int32 → St → Prop) (x6 : Int32) (x7 : Int32) (x8 : Int32) (x9 : Int32) (x10 : Int32) (x11 : Int32) (x12 : Int32) (S : St) : Prop :=
  ((S q3 2) ≤ x7 → (w_X5_addMultiple_187 q1 q2 q3 x4 x5 K k34 x6 x7 x8 x11 x12 S)) ∧ (¬ (S q3 2) ≤ x7 → ((x10 < x9 → (w_X5_addMultiple_187 q1 q2 q3 x4 x5 K k34 x6 x7 x8 x11 x12 S)) ∧ (¬ x10 < x9 → (vp_in x7 40 ∧ ∀ x12_4 : Int32, x12_4 = (S (q3 + 2) (q_rf x7)) + x5 → w_X5_restOf (x11 + (x4 * (S (q3 + 1) (q_rf x7)))) S (fun r_6 S_5 => ∀ x7_7 : Int32, x7_7 = x7 + 1 → w_X5_addMultiple_187 q1 q2 q3 x4 x5 K k34 x6 x7_7 x8 r_6 x12_4 S_5)))))
def w_X5_addMultiple_92 (q1 : Nat) (q2 : Nat) (q3 : Nat) (x4 : Int32) (x5 : Int32) (K : Int32 → St → Prop) (k34 : Int32 → Int32 → Int32 → St → Prop) (x6 : Int32) (x7 : Int32) (x8 : Int32) (x9 : Int32) (z0 : Int32) (S : St) : Prop :=
  ((S q2 2) ≤ x6 → (w_X5_addMultiple_137 q1 q2 q3 x4 x5 K k34 x6 x7 x8 x9 z0 0 0 S)) ∧ (¬ (S q2 2) ≤ x6 → ((x9 < z0 → (w_X5_addMultiple_137 q1 q2 q3 x4 x5 K k34 x6 x7 x8 x9 z0 0 0 S)) ∧ (¬ x9 < z0 → (vp_in x6 40 ∧ ∀ x12_4 : Int32, x12_4 = S (q2 + 2) (q_rf x6) → ∀ x11_5 : Int32, x11_5 = S (q2 + 1) (q_rf x6) → ∀ x6_6 : Int32, x6_6 = x6 + 1 → w_X5_addMultiple_137 q1 q2 q3 x4 x5 K k34 x6_6 x7 x8 x9 z0 x11_5 x12_4 S))))
def w_X5_addMultiple_63 (q1 : Nat) (q2 : Nat) (q3 : Nat) (x4 : Int32) (x5 : Int32) (K : Int32 → St → Prop) (k34 : Int32 → Int32 → Int32 → St → Prop) (x6 : Int32) (x7 : Int32) (x8 : Int32) (z0 : Int32) (S : St) : Prop :=
  ((S q3 2) ≤ x7 → (w_X5_addMultiple_92 q1 q2 q3 x4 x5 K k34 x6 x7 x8 z0 (-1) S)) ∧ (¬ (S q3 2) ≤ x7 → (vp_in x7 40 ∧ w_X5_rank ((S (q3 + 2) (q_rf x7)) + x5) S (fun r_4 S_3 => w_X5_addMultiple_92 q1 q2 q3 x4 x5 K k34 x6 x7 x8 z0 r_4 S_3)))
def w_X5_addMultiple_34 (q1 : Nat) (q2 : Nat) (q3 : Nat) (x4 : Int32) (x5 : Int32) (K : Int32 → St → Prop) (k34 : Int32 → Int32 → Int32 → St → Prop) (x6 : Int32) (x7 : Int32) (x8 : Int32) (S : St) : Prop :=
  (x8 ≤ 0 → (K 0 S)) ∧ (¬ x8 ≤ 0 → (((S q2 2) ≤ x6 → (w_X5_addMultiple_63 q1 q2 q3 x4 x5 K k34 x6 x7 x8 (-1) S)) ∧ (¬ (S q2 2) ≤ x6 → (vp_in x6 40 ∧ w_X5_rank (S (q2 + 2) (q_rf x6)) S (fun r_5 S_4 => w_X5_addMultiple_63 q1 q2 q3 x4 x5 K k34 x6 x7 x8 r_5 S_4)))))
def w_X5_addMultiple (q1 : Nat) (q2 : Nat) (q3 : Nat) (x4 : Int32) (x5 : Int32) (S : St) (K : Int32 → St → Prop) : Prop :=
  w_X5_isMultipleGreat q3 x5 S (fun r_2 S_1 => (r_2 = 0 → (∀ S_4 : St, S_4 = su S_1 q1 2 0 → ∀ x8_5 : Int32, x8_5 = (S_4 q2 2) + (S_4 q3 2) → ∃ f, q_it (fun _ _ _ _ => False) (w_X5_addMultiple_34 q1 q2 q3 x4 x5 K) f 0 0 x8_5 S_4)) ∧ (¬ r_2 = 0 → (K (-5) S_1)))

def w_X5_greatestToMeet_71 (q1 : Nat) (q2 : Nat) (K : Int32 → St → Prop) (k5 : Int32 → Int32 → St → Prop) (x3 : Int32) (x4 : Int32) (S : St) : Prop :=
  ∀ x4_1 : Int32, x4_1 = x4 + 1 → k5 x3 x4_1 S
def w_X5_greatestToMeet_68 (q1 : Nat) (q2 : Nat) (K : Int32 → St → Prop) (k5 : Int32 → Int32 → St → Prop) (x4 : Int32) (x5 : Int32) (S : St) : Prop :=
  w_X5_greatestToMeet_71 q1 q2 K k5 x5 x4 S
def w_X5_greatestToMeet_5 (q1 : Nat) (q2 : Nat) (K : Int32 → St → Prop) (k5 : Int32 → Int32 → St → Prop) (x3 : Int32) (x4 : Int32) (S : St) : Prop :=
  ((S q1 2) ≤ x4 → (K x3 S)) ∧ (¬ (S q1 2) ≤ x4 → (vp_in x4 40 ∧ ((S q2 2) ≤ (S 3 (q_rf x4)) → (w_X5_greatestToMeet_71 q1 q2 K k5 x3 x4 S)) ∧ (¬ (S q2 2) ≤ (S 3 (q_rf x4)) → (vp_in (S 3 (q_rf x4)) 40 ∧ ∀ x5_5 : Int32, x5_5 = (S (q1 + 2) (q_rf x4)) + (S (q2 + 2) (q_rf (S 3 (q_rf x4)))) → (x3 < 0 → (w_X5_greatestToMeet_68 q1 q2 K k5 x4 x5_5 S)) ∧ (¬ x3 < 0 → (w_X5_rank x5_5 S (fun r_8 S_7 => w_X5_rank x3 S_7 (fun r_10 S_9 => (r_8 ≤ r_10 → (w_X5_greatestToMeet_71 q1 q2 K k5 x3 x4 S_9)) ∧ (¬ r_8 ≤ r_10 → (w_X5_greatestToMeet_68 q1 q2 K k5 x4 x5_5 S_9))))))))))
def w_X5_greatestToMeet (q1 : Nat) (q2 : Nat) (S : St) (K : Int32 → St → Prop) : Prop :=
  ∃ f, q_it (fun _ _ _ => False) (w_X5_greatestToMeet_5 q1 q2 K) f (-1) 0 S

def w_X5_takeProducts_87 (q1 : Nat) (q2 : Nat) (x3 : Int32) (K : Int32 → St → Prop) (k6 : Int32 → Int32 → St → Prop) (x4 : Int32) (x5 : Int32) (S : St) : Prop :=
  ∀ x5_1 : Int32, x5_1 = x5 + 1 → k6 x4 x5_1 S
def w_X5_takeProducts_6 (q1 : Nat) (q2 : Nat) (x3 : Int32) (K : Int32 → St → Prop) (k6 : Int32 → Int32 → St → Prop) (x4 : Int32) (x5 : Int32) (S : St) : Prop :=
  ((S q1 2) ≤ x5 → (K x4 S)) ∧ (¬ (S q1 2) ≤ x5 → (vp_in x5 40 ∧ ∀ x6_3 : Int32, x6_3 = S 3 (q_rf x5) → ((S q2 2) ≤ x6_3 → (w_X5_takeProducts_87 q1 q2 x3 K k6 x4 x5 S)) ∧ (¬ (S q2 2) ≤ x6_3 → (vp_in x6_3 40 ∧ (¬ ((S (q1 + 2) (q_rf x5)) + (S (q2 + 2) (q_rf x6_3))) = x3 → (w_X5_takeProducts_87 q1 q2 x3 K k6 x4 x5 S)) ∧ (((S (q1 + 2) (q_rf x5)) + (S (q2 + 2) (q_rf x6_3))) = x3 → (w_X5_restOf (x4 + ((S (q1 + 1) (q_rf x5)) * (S (q2 + 1) (q_rf x6_3)))) S (fun r_8 S_7 => ∀ S_9 : St, S_9 = su S_7 3 (q_rf x5) ((S_7 3 (q_rf x5)) + 1) → w_X5_takeProducts_87 q1 q2 x3 K k6 r_8 x5 S_9)))))))
def w_X5_takeProducts (q1 : Nat) (q2 : Nat) (x3 : Int32) (S : St) (K : Int32 → St → Prop) : Prop :=
  ∃ f, q_it (fun _ _ _ => False) (w_X5_takeProducts_6 q1 q2 x3 K) f 0 0 S

def w_X5_multiply_108 (q1 : Nat) (q2 : Nat) (q3 : Nat) (K : Int32 → St → Prop) (k59 : Int32 → St → Prop) (x4 : Int32) (S : St) : Prop :=
  ∀ x4_1 : Int32, x4_1 = x4 + (-1) → k59 x4_1 S
def w_X5_multiply_59 (q1 : Nat) (q2 : Nat) (q3 : Nat) (K : Int32 → St → Prop) (k59 : Int32 → St → Prop) (x4 : Int32) (S : St) : Prop :=
  (x4 ≤ 0 → (K 0 S)) ∧ (¬ x4 ≤ 0 → (w_X5_greatestToMeet q2 q3 S (fun r_3 S_2 => (0 ≤ r_3 → (w_X5_takeProducts q2 q3 r_3 S_2 (fun r_6 S_5 => (r_6 = 0 → (w_X5_multiply_108 q1 q2 q3 K k59 x4 S_5)) ∧ (¬ r_6 = 0 → (w_X3_push q1 r_6 r_3 S_5 (fun r_9 S_8 => (¬ r_9 = 0 → (w_X5_multiply_108 q1 q2 q3 K k59 x4 S_8)) ∧ (r_9 = 0 → (K (-6) S_8)))))))) ∧ (¬ 0 ≤ r_3 → (K 0 S_2)))))
def w_X5_multiply_3 (q1 : Nat) (q2 : Nat) (q3 : Nat) (K : Int32 → St → Prop) (k3 : Int32 → St → Prop) (x4 : Int32) (S : St) : Prop :=
  ((S q2 2) ≤ x4 → (∀ S_2 : St, S_2 = su S q1 2 0 → w_J7_fill_53178 3 0 S_2 (fun r_4 S_3 => ∀ x4_5 : Int32, x4_5 = (S_3 q2 2) * (S_3 q3 2) → ∃ f, q_it (fun _ _ => False) (w_X5_multiply_59 q1 q2 q3 K) f x4_5 S_3))) ∧ (¬ (S q2 2) ≤ x4 → (vp_in x4 40 ∧ w_X5_isMultipleGreat q3 (S (q2 + 2) (q_rf x4)) S (fun r_9 S_8 => (r_9 = 0 → (∀ x4_11 : Int32, x4_11 = x4 + 1 → k3 x4_11 S_8)) ∧ (¬ r_9 = 0 → (K (-5) S_8)))))
def w_X5_multiply (q1 : Nat) (q2 : Nat) (q3 : Nat) (S : St) (K : Int32 → St → Prop) : Prop :=
  ∃ f, q_it (fun _ _ => False) (w_X5_multiply_3 q1 q2 q3 K) f 0 S

def w_X5_derive_70 (q1 : Nat) (q2 : Nat) (x3 : Int32) (K : Int32 → St → Prop) (k8 : Int32 → St → Prop) (x4 : Int32) (S : St) : Prop :=
  ∀ x4_1 : Int32, x4_1 = x4 + 1 → k8 x4_1 S
def w_X5_derive_8 (q1 : Nat) (q2 : Nat) (x3 : Int32) (K : Int32 → St → Prop) (k8 : Int32 → St → Prop) (x4 : Int32) (S : St) : Prop :=
  ((S q2 2) ≤ x4 → (K 0 S)) ∧ (¬ (S q2 2) ≤ x4 → (vp_in x4 40 ∧ w_X1_exponentOf (S (q2 + 2) (q_rf x4)) x3 S (fun r_4 S_3 => w_X5_restOf ((S_3 (q2 + 1) (q_rf x4)) * r_4) S_3 (fun r_6 S_5 => (r_6 = 0 → (w_X5_derive_70 q1 q2 x3 K k8 x4 S_5)) ∧ (¬ r_6 = 0 → (w_X1_variable x3 S_5 (fun r_9 S_8 => w_X3_push q1 r_6 ((S_5 (q2 + 2) (q_rf x4)) - r_9) S_8 (fun r_11 S_10 => w_X5_derive_70 q1 q2 x3 K k8 x4 S_10))))))))
def w_X5_derive (q1 : Nat) (q2 : Nat) (x3 : Int32) (S : St) (K : Int32 → St → Prop) : Prop :=
  ∀ S_1 : St, S_1 = su S q1 2 0 → ∃ f, q_it (fun _ _ => False) (w_X5_derive_8 q1 q2 x3 K) f 0 S_1

def w_X5_makeS (q1 : Nat) (q2 : Nat) (q3 : Nat) (S : St) (K : Int32 → St → Prop) : Prop :=
  w_X3_head q2 S (fun r_2 S_1 => w_X3_head q3 S_1 (fun r_4 S_3 => w_X1_leastMultiple r_2 r_4 S_3 (fun r_6 S_5 => w_X5_inverse (S_5 (q2 + 1) (q_rf 0)) S_5 (fun r_8 S_7 => w_X3_head q2 S_7 (fun r_10 S_9 => w_X5_addMultiple 7 4 q2 r_8 (r_6 - r_10) S_9 (fun r_12 S_11 => (r_12 = 0 → (w_X5_inverse (S_11 (q3 + 1) (q_rf 0)) S_11 (fun r_15 S_14 => w_X3_head q3 S_14 (fun r_17 S_16 => w_X5_addMultiple q1 7 q3 ((S_11 1 0) - r_15) (r_6 - r_17) S_16 (fun r_19 S_18 => K r_19 S_18))))) ∧ (¬ r_12 = 0 → (K r_12 S_11))))))))

def w_X5_makeMonic_31 (q1 : Nat) (K : Unit → St → Prop) (x2 : Int32) (k31 : Int32 → St → Prop) (x3 : Int32) (S : St) : Prop :=
  ((S q1 2) ≤ x3 → (K () S)) ∧ (¬ (S q1 2) ≤ x3 → (vp_in x3 40 ∧ w_X5_restOf ((S (q1 + 1) (q_rf x3)) * x2) S (fun r_4 S_3 => ∀ S_5 : St, S_5 = su S_3 (q1 + 1) (q_rf x3) r_4 → ∀ x3_6 : Int32, x3_6 = x3 + 1 → k31 x3_6 S_5)))
def w_X5_makeMonic (q1 : Nat) (S : St) (K : Unit → St → Prop) : Prop :=
  ((S q1 2) = 0 → (K () S)) ∧ (¬ (S q1 2) = 0 → ((¬ (S (q1 + 1) (q_rf 0)) = 1 → (w_X5_inverse (S (q1 + 1) (q_rf 0)) S (fun r_4 S_3 => ∃ f, q_it (fun _ _ => False) (w_X5_makeMonic_31 q1 K r_4) f 0 S_3))) ∧ ((S (q1 + 1) (q_rf 0)) = 1 → (K () S))))

def w_X5_setPoint (x1 : Int32) (x2 : Int32) (S : St) (K : Unit → St → Prop) : Prop :=
  w_X5_restOf x2 S (fun r_2 S_1 => vp_in x1 4 ∧ ∀ S_4 : St, S_4 = su S_1 2 (q_rf x1) r_2 → K () S_4)

def w_X5_setPointNumber_4 (x1 : Int32) (K : Unit → St → Prop) (k4 : Int32 → Int32 → St → Prop) (x2 : Int32) (x3 : Int32) (S : St) : Prop :=
  ((S 1 1) ≤ x3 → (K () S)) ∧ (¬ (S 1 1) ≤ x3 → ((¬ (S 1 0) = 0) ∧ w_X5_setPoint x3 (x2 - x2 / (S 1 0) * (S 1 0)) S (fun r_4 S_3 => (¬ (S_3 1 0) = 0) ∧ ∀ x2_6 : Int32, x2_6 = x2 / (S_3 1 0) → ∀ x3_7 : Int32, x3_7 = x3 + 1 → k4 x2_6 x3_7 S_3)))
def w_X5_setPointNumber (x1 : Int32) (S : St) (K : Unit → St → Prop) : Prop :=
  ∃ f, q_it (fun _ _ _ => False) (w_X5_setPointNumber_4 x1 K) f x1 0 S

def w_X5_pointsUpTo_30 (x1 : Int32) (K : Int32 → St → Prop) (x2 : Int32) (S : St) : Prop :=
  K x2 S
def w_X5_pointsUpTo_4 (x1 : Int32) (K : Int32 → St → Prop) (k4 : Int32 → Int32 → St → Prop) (x2 : Int32) (x3 : Int32) (S : St) : Prop :=
  ((S 1 1) ≤ x3 → (w_X5_pointsUpTo_30 x1 K x2 S)) ∧ (¬ (S 1 1) ≤ x3 → ((x1 < x2 → (w_X5_pointsUpTo_30 x1 K x2 S)) ∧ (¬ x1 < x2 → (∀ x2_3 : Int32, x2_3 = x2 * (S 1 0) → ∀ x3_4 : Int32, x3_4 = x3 + 1 → k4 x2_3 x3_4 S))))
def w_X5_pointsUpTo (x1 : Int32) (S : St) (K : Int32 → St → Prop) : Prop :=
  ∃ f, q_it (fun _ _ _ => False) (w_X5_pointsUpTo_4 x1 K) f 1 0 S

def w_X5_valueAtPoint_23 (q1 : Nat) (K : Int32 → St → Prop) (k4 : Int32 → Int32 → St → Prop) (x2 : Int32) (x3 : Int32) (k23 : Int32 → Int32 → St → Prop) (x4 : Int32) (x5 : Int32) (S : St) : Prop :=
  ((S 1 1) ≤ x5 → (w_X5_restOf (x2 + x4) S (fun r_3 S_2 => ∀ x3_4 : Int32, x3_4 = x3 + 1 → k4 r_3 x3_4 S_2))) ∧ (¬ (S 1 1) ≤ x5 → (vp_in x5 4 ∧ vp_in x3 40 ∧ w_X1_exponentOf (S (q1 + 2) (q_rf x3)) x5 S (fun r_8 S_7 => w_X5_power (S 2 (q_rf x5)) r_8 S_7 (fun r_10 S_9 => w_X5_restOf (x4 * r_10) S_9 (fun r_12 S_11 => ∀ x5_13 : Int32, x5_13 = x5 + 1 → k23 r_12 x5_13 S_11)))))
def w_X5_valueAtPoint_4 (q1 : Nat) (K : Int32 → St → Prop) (k4 : Int32 → Int32 → St → Prop) (x2 : Int32) (x3 : Int32) (S : St) : Prop :=
  ((S q1 2) ≤ x3 → (K x2 S)) ∧ (¬ (S q1 2) ≤ x3 → (vp_in x3 40 ∧ ∀ x4_3 : Int32, x4_3 = S (q1 + 1) (q_rf x3) → ∃ f, q_it (fun _ _ _ => False) (w_X5_valueAtPoint_23 q1 K k4 x2 x3) f x4_3 0 S))
def w_X5_valueAtPoint (q1 : Nat) (S : St) (K : Int32 → St → Prop) : Prop :=
  ∃ f, q_it (fun _ _ _ => False) (w_X5_valueAtPoint_4 q1 K) f 0 0 S

def w_X6_at_28 (x1 : Int32) (K : (Option Nat) → St → Prop) (S : St) : Prop :=
  K none S
def w_X6_at (x1 : Int32) (S : St) (K : (Option Nat) → St → Prop) : Prop :=
  (x1 < 0 → (w_X6_at_28 x1 K S)) ∧ (¬ x1 < 0 → ((24 ≤ x1 → (w_X6_at_28 x1 K S)) ∧ (¬ 24 ≤ x1 → (vp_in x1 24 ∧ ((S 21 (q_rf x1)) = 0 → (w_X6_at_28 x1 K S)) ∧ (¬ (S 21 (q_rf x1)) = 0 → (K (some (pidx 20 (q_rf x1))) S))))))

def w_X6_isFull (S : St) (K : Int32 → St → Prop) : Prop :=
  (¬ (S 19 2) = 24 → (K 0 S)) ∧ ((S 19 2) = 24 → (K 1 S))

def w_X6_put_2 (q1 : Nat) (K : Int32 → St → Prop) (k2 : Int32 → St → Prop) (x2 : Int32) (S : St) : Prop :=
  (24 ≤ x2 → (K (-4) S)) ∧ (¬ 24 ≤ x2 → (vp_in x2 24 ∧ (¬ (S 21 (q_rf x2)) = 0 → (∀ x2_4 : Int32, x2_4 = x2 + 1 → k2 x2_4 S)) ∧ ((S 21 (q_rf x2)) = 0 → (isP (pidx 20 (q_rf x2)) ∧ w_X3_copyOf (pidx 20 (q_rf x2)) q1 S (fun r_7 S_6 => ∀ S_8 : St, S_8 = su S_6 21 (q_rf x2) (vp_nar .boolean 1) → ∀ S_9 : St, S_9 = su S_8 19 2 ((S_8 19 2) + 1) → K x2 S_9)))))
def w_X6_put (q1 : Nat) (S : St) (K : Int32 → St → Prop) : Prop :=
  ∃ f, q_it (fun _ _ => False) (w_X6_put_2 q1 K) f 0 S

def w_X6_free (x1 : Int32) (S : St) (K : Unit → St → Prop) : Prop :=
  w_X6_at x1 S (fun r_2 S_1 => (r_2 = none → (K () S_1)) ∧ (∀ q_3 : Nat, r_2 = some q_3 → (vp_in x1 24 ∧ ∀ S_5 : St, S_5 = su S_1 21 (q_rf x1) (vp_nar .boolean 0) → ∀ S_6 : St, S_6 = su S_5 19 2 ((S_5 19 2) - 1) → K () S_6)))

def w_X4_begin (S : St) (K : Unit → St → Prop) : Prop :=
  ∀ S_1 : St, S_1 = su S 94 5 0 → K () S_1

def w_X4_firstDividing_38 (q1 : Nat) (x2 : Int32) (x3 : Int32) (K : Int32 → St → Prop) (k3 : Int32 → St → Prop) (x4 : Int32) (S : St) : Prop :=
  ∀ x4_1 : Int32, x4_1 = x4 + 1 → k3 x4_1 S
def w_X4_firstDividing_3 (q1 : Nat) (x2 : Int32) (x3 : Int32) (K : Int32 → St → Prop) (k3 : Int32 → St → Prop) (x4 : Int32) (S : St) : Prop :=
  (x2 ≤ x4 → (K (-1) S)) ∧ (¬ x2 ≤ x4 → ((x4 = x3 → (w_X4_firstDividing_38 q1 x2 x3 K k3 x4 S)) ∧ (¬ x4 = x3 → (vp_in x4 18 ∧ isP (pidx q1 (q_rf x4)) ∧ w_X3_head (pidx q1 (q_rf x4)) S (fun r_6 S_5 => isP (q_rf (S_5 94 1)) ∧ w_X3_head (q_rf (S_5 94 1)) S_5 (fun r_9 S_8 => w_X1_divides r_6 r_9 S_8 (fun r_11 S_10 => (r_11 = 0 → (w_X4_firstDividing_38 q1 x2 x3 K k3 x4 S_10)) ∧ (¬ r_11 = 0 → (K x4 S_10)))))))))
def w_X4_firstDividing (q1 : Nat) (x2 : Int32) (x3 : Int32) (S : St) (K : Int32 → St → Prop) : Prop :=
  ∃ f, q_it (fun _ _ => False) (w_X4_firstDividing_3 q1 x2 x3 K) f 0 S

def w_X4_moveHead (S : St) (K : Int32 → St → Prop) : Prop :=
  isP (q_rf (S 94 1)) ∧ w_X3_push 101 (S (q_rf (S 94 1) + 1) (q_rf 0)) (S (q_rf (S 94 1) + 2) (q_rf 0)) S (fun r_3 S_2 => (¬ r_3 = 0 → (isP (q_rf (S_2 94 1)) ∧ w_X3_dropHead (q_rf (S_2 94 1)) S_2 (fun r_7 S_6 => K 0 S_6))) ∧ (r_3 = 0 → (K (-6) S_2)))

def w_X4_lessenBy (q1 : Nat) (S : St) (K : Int32 → St → Prop) : Prop :=
  ((S 94 5) < (S 94 4) → (∀ S_2 : St, S_2 = su S 94 5 ((S 94 5) + 1) → ∀ S_3 : St, S_3 = su S_2 94 6 ((S_2 94 6) + 1) → isP (q_rf (S_3 94 1)) ∧ w_X3_head (q_rf (S_3 94 1)) S_3 (fun r_6 S_5 => w_X3_head q1 S_5 (fun r_8 S_7 => isP (q_rf (S_3 94 2)) ∧ w_X5_addMultiple (q_rf (S_3 94 2)) (q_rf (S_3 94 1)) q1 ((S_3 1 0) - (S_3 (q_rf (S_3 94 1) + 1) (q_rf 0))) (r_6 - r_8) S_7 (fun r_11 S_10 => (r_11 = 0 → (isP (q_rf (S_10 94 2)) ∧ ∀ S_13 : St, S_13 = su S_10 94 1 (nI (q_rf (S_10 94 2))) → isP (q_rf (S_10 94 1)) ∧ ∀ S_15 : St, S_15 = su S_13 94 2 (nI (q_rf (S_10 94 1))) → K 0 S_15)) ∧ (¬ r_11 = 0 → (K r_11 S_10))))))) ∧ (¬ (S 94 5) < (S 94 4) → (K (-7) S))

def w_X4_leave_84 (q1 : Nat) (q2 : Nat) (x3 : Int32) (x4 : Int32) (K : Int32 → St → Prop) (S : St) : Prop :=
  K 0 S
def w_X4_leave_68 (q1 : Nat) (q2 : Nat) (x3 : Int32) (x4 : Int32) (K : Int32 → St → Prop) (k19 : Int32 → St → Prop) (x5 : Int32) (z0 : Int32) (S : St) : Prop :=
  (z0 = 0 → (∀ x5_2 : Int32, x5_2 = x5 + 1 → k19 x5_2 S)) ∧ (¬ z0 = 0 → (K z0 S))
def w_X4_leave_19 (q1 : Nat) (q2 : Nat) (x3 : Int32) (x4 : Int32) (K : Int32 → St → Prop) (k19 : Int32 → St → Prop) (x5 : Int32) (S : St) : Prop :=
  (2041 ≤ x5 → (w_X4_leave_84 q1 q2 x3 x4 K S)) ∧ (¬ 2041 ≤ x5 → (isP (q_rf (S 94 1)) ∧ ((S (q_rf (S 94 1)) 2) ≤ 0 → (w_X4_leave_84 q1 q2 x3 x4 K S)) ∧ (¬ (S (q_rf (S 94 1)) 2) ≤ 0 → (w_X4_firstDividing q2 x3 x4 S (fun r_5 S_4 => (¬ r_5 = (-1) → (vp_in r_5 18 ∧ isP (pidx q2 (q_rf r_5)) ∧ w_X4_lessenBy (pidx q2 (q_rf r_5)) S_4 (fun r_10 S_9 => w_X4_leave_68 q1 q2 x3 x4 K k19 x5 r_10 S_9))) ∧ (r_5 = (-1) → (w_X4_moveHead S_4 (fun r_12 S_11 => w_X4_leave_68 q1 q2 x3 x4 K k19 x5 r_12 S_11))))))))
def w_X4_leave (q1 : Nat) (q2 : Nat) (x3 : Int32) (x4 : Int32) (S : St) (K : Int32 → St → Prop) : Prop :=
  isP (q_rf (S 94 1)) ∧ w_X3_copyOf (q_rf (S 94 1)) q1 S (fun r_3 S_2 => ∀ S_4 : St, S_4 = su S_2 101 2 0 → ∃ f, q_it (fun _ _ => False) (w_X4_leave_19 q1 q2 x3 x4 K) f 0 S_4)

def w_X0_at_21 (x1 : Int32) (K : (Option Nat) → St → Prop) (S : St) : Prop :=
  K none S
def w_X0_at (x1 : Int32) (S : St) (K : (Option Nat) → St → Prop) : Prop :=
  (x1 < 0 → (w_X0_at_21 x1 K S)) ∧ (¬ x1 < 0 → (((S 104 7) ≤ x1 → (w_X0_at_21 x1 K S)) ∧ (¬ (S 104 7) ≤ x1 → (isR (q_rf (S 104 3)) ∧ vp_in x1 18 ∧ K (some (pidx (q_rf (S 104 3)) (q_rf x1))) S))))

def w_X0_isFull (S : St) (K : Int32 → St → Prop) : Prop :=
  ((S 104 7) < 18 → (K 0 S)) ∧ (¬ (S 104 7) < 18 → (K 1 S))

def w_X0_empty (S : St) (K : Int32 → St → Prop) : Prop :=
  ∀ x1_1 : Int32, x1_1 = S 104 7 → ∀ S_2 : St, S_2 = su S 104 7 0 → ∀ S_3 : St, S_3 = su S_2 105 2 0 → ∀ S_4 : St, S_4 = su S_3 104 8 0 → K x1_1 S_4

def w_X0_take (q1 : Nat) (S : St) (K : Int32 → St → Prop) : Prop :=
  w_X0_isFull S (fun r_2 S_1 => (r_2 = 0 → (∀ x2_4 : Int32, x2_4 = S_1 104 7 → isR (q_rf (S_1 104 3)) ∧ vp_in x2_4 18 ∧ isP (pidx (q_rf (S_1 104 3)) (q_rf x2_4)) ∧ w_X3_copyOf (pidx (q_rf (S_1 104 3)) (q_rf x2_4)) q1 S_1 (fun r_9 S_8 => isR (q_rf (S_8 104 3)) ∧ isP (pidx (q_rf (S_8 104 3)) (q_rf x2_4)) ∧ w_X5_makeMonic (pidx (q_rf (S_8 104 3)) (q_rf x2_4)) S_8 (fun r_13 S_12 => ∀ S_14 : St, S_14 = su S_12 104 7 ((S_12 104 7) + 1) → w_X2_comeWith x2_4 S_14 (fun r_16 S_15 => K x2_4 S_15))))) ∧ (¬ r_2 = 0 → (K (-4) S_1)))

def w_X0_multipleOf (x1 : Int32) (S : St) (K : Int32 → St → Prop) : Prop :=
  vp_in x1 153 ∧ isR (q_rf (S 104 3)) ∧ vp_in (S 106 (q_rf x1)) 18 ∧ isP (pidx (q_rf (S 104 3)) (q_rf (S 106 (q_rf x1)))) ∧ w_X3_head (pidx (q_rf (S 104 3)) (q_rf (S 106 (q_rf x1)))) S (fun r_6 S_5 => isR (q_rf (S_5 104 3)) ∧ vp_in (S_5 107 (q_rf x1)) 18 ∧ isP (pidx (q_rf (S_5 104 3)) (q_rf (S_5 107 (q_rf x1)))) ∧ w_X3_head (pidx (q_rf (S_5 104 3)) (q_rf (S_5 107 (q_rf x1)))) S_5 (fun r_11 S_10 => w_X1_leastMultiple r_6 r_11 S_10 (fun r_13 S_12 => K r_13 S_12)))

def w_X0_nextPair_58 (K : Int32 → St → Prop) (x1 : Int32) (S : St) : Prop :=
  K x1 S
def w_X0_nextPair_52 (K : Int32 → St → Prop) (k12 : Int32 → Int32 → St → Prop) (x1 : Int32) (x2 : Int32) (S : St) : Prop :=
  ∀ x2_1 : Int32, x2_1 = x2 + 1 → k12 x1 x2_1 S
def w_X0_nextPair_12 (K : Int32 → St → Prop) (k12 : Int32 → Int32 → St → Prop) (x1 : Int32) (x2 : Int32) (S : St) : Prop :=
  ((S 105 2) ≤ x2 → (w_X0_nextPair_58 K x1 S)) ∧ (¬ (S 105 2) ≤ x2 → (w_X0_multipleOf x2 S (fun r_3 S_2 => w_X5_rank r_3 S_2 (fun r_5 S_4 => w_X0_multipleOf x1 S_4 (fun r_7 S_6 => w_X5_rank r_7 S_6 (fun r_9 S_8 => (r_9 ≤ r_5 → (w_X0_nextPair_52 K k12 x1 x2 S_8)) ∧ (¬ r_9 ≤ r_5 → (w_X0_nextPair_52 K k12 x2 x2 S_8))))))))
def w_X0_nextPair (S : St) (K : Int32 → St → Prop) : Prop :=
  (¬ (S 104 9) = 1 → (w_X0_nextPair_58 K 0 S)) ∧ ((S 104 9) = 1 → (∃ f, q_it (fun _ _ _ => False) (w_X0_nextPair_12 K) f 0 1 S))

def w_X0_isCoprime (x1 : Int32) (S : St) (K : Int32 → St → Prop) : Prop :=
  w_X0_multipleOf x1 S (fun r_2 S_1 => vp_in x1 153 ∧ isR (q_rf (S_1 104 3)) ∧ vp_in (S_1 106 (q_rf x1)) 18 ∧ isP (pidx (q_rf (S_1 104 3)) (q_rf (S_1 106 (q_rf x1)))) ∧ w_X3_head (pidx (q_rf (S_1 104 3)) (q_rf (S_1 106 (q_rf x1)))) S_1 (fun r_8 S_7 => isR (q_rf (S_7 104 3)) ∧ vp_in (S_7 107 (q_rf x1)) 18 ∧ isP (pidx (q_rf (S_7 104 3)) (q_rf (S_7 107 (q_rf x1)))) ∧ w_X3_head (pidx (q_rf (S_7 104 3)) (q_rf (S_7 107 (q_rf x1)))) S_7 (fun r_13 S_12 => (¬ r_2 = (r_8 + r_13) → (K 0 S_12)) ∧ (r_2 = (r_8 + r_13) → (K 1 S_12)))))

def w_X0_isChained_97 (x1 : Int32) (K : Int32 → St → Prop) (k30 : Int32 → St → Prop) (x2 : Int32) (x3 : Int32) (x4 : Int32) (x5 : Int32) (S : St) : Prop :=
  ∀ x5_1 : Int32, x5_1 = x5 + 1 → k30 x5_1 S
def w_X0_isChained_30 (x1 : Int32) (K : Int32 → St → Prop) (x2 : Int32) (x3 : Int32) (x4 : Int32) (k30 : Int32 → St → Prop) (x5 : Int32) (S : St) : Prop :=
  ((S 104 7) ≤ x5 → (K 0 S)) ∧ (¬ (S 104 7) ≤ x5 → ((x5 = x2 → (w_X0_isChained_97 x1 K k30 x2 x3 x4 x5 S)) ∧ (¬ x5 = x2 → ((x5 = x3 → (w_X0_isChained_97 x1 K k30 x2 x3 x4 x5 S)) ∧ (¬ x5 = x3 → (isR (q_rf (S 104 3)) ∧ vp_in x5 18 ∧ isP (pidx (q_rf (S 104 3)) (q_rf x5)) ∧ w_X3_head (pidx (q_rf (S 104 3)) (q_rf x5)) S (fun r_8 S_7 => w_X1_divides r_8 x4 S_7 (fun r_10 S_9 => (r_10 = 0 → (w_X0_isChained_97 x1 K k30 x2 x3 x4 x5 S_9)) ∧ (¬ r_10 = 0 → (w_X2_waits x2 x5 S_9 (fun r_13 S_12 => (¬ r_13 = 0 → (w_X0_isChained_97 x1 K k30 x2 x3 x4 x5 S_12)) ∧ (r_13 = 0 → (w_X2_waits x3 x5 S_12 (fun r_16 S_15 => (¬ r_16 = 0 → (w_X0_isChained_97 x1 K k30 x2 x3 x4 x5 S_15)) ∧ (r_16 = 0 → (K 1 S_15))))))))))))))))
def w_X0_isChained (x1 : Int32) (S : St) (K : Int32 → St → Prop) : Prop :=
  vp_in x1 153 ∧ ∀ x2_2 : Int32, x2_2 = S 106 (q_rf x1) → ∀ x3_3 : Int32, x3_3 = S 107 (q_rf x1) → w_X0_multipleOf x1 S (fun r_5 S_4 => ∃ f, q_it (fun _ _ => False) (w_X0_isChained_30 x1 K x2_2 x3_3 r_5) f 0 S_4)

def w_X0_reduceS_65 (x1 : Int32) (K : Int32 → St → Prop) (x2 : Int32) (S : St) : Prop :=
  (x2 = 0 → ((¬ (S 101 2) = 0 → (w_X0_take 101 S (fun r_4 S_3 => (¬ r_4 = (-4) → (∀ S_6 : St, S_6 = su S_3 104 13 ((S_3 104 13) + 1) → K 0 S_6)) ∧ (r_4 = (-4) → (K (-4) S_3))))) ∧ ((S 101 2) = 0 → (∀ S_7 : St, S_7 = su S 104 14 ((S 104 14) + 1) → K 0 S_7)))) ∧ (¬ x2 = 0 → (K x2 S))
def w_X0_reduceS (x1 : Int32) (S : St) (K : Int32 → St → Prop) : Prop :=
  vp_in x1 153 ∧ isR (q_rf (S 104 3)) ∧ vp_in (S 106 (q_rf x1)) 18 ∧ vp_in (S 107 (q_rf x1)) 18 ∧ isP (pidx (q_rf (S 104 3)) (q_rf (S 106 (q_rf x1)))) ∧ isP (pidx (q_rf (S 104 3)) (q_rf (S 107 (q_rf x1)))) ∧ w_X5_makeS 111 (pidx (q_rf (S 104 3)) (q_rf (S 106 (q_rf x1)))) (pidx (q_rf (S 104 3)) (q_rf (S 107 (q_rf x1)))) S (fun r_8 S_7 => (¬ r_8 = 0 → (w_X0_reduceS_65 x1 K r_8 S_7)) ∧ (r_8 = 0 → (isR (q_rf (S_7 104 3)) ∧ w_X4_leave 111 (q_rf (S_7 104 3)) (S_7 104 7) (-1) S_7 (fun r_12 S_11 => w_X0_reduceS_65 x1 K r_12 S_11))))

def w_X0_workNext_84 (K : Int32 → St → Prop) (x1 : Int32) (S : St) : Prop :=
  w_X2_remove x1 S (fun r_2 S_1 => K 0 S_1)
def w_X0_workNext_72 (K : Int32 → St → Prop) (x1 : Int32) (S : St) : Prop :=
  w_X0_reduceS x1 S (fun r_2 S_1 => (r_2 = 0 → (w_X0_workNext_84 K x1 S_1)) ∧ (¬ r_2 = 0 → (K r_2 S_1)))
def w_X0_workNext_42 (K : Int32 → St → Prop) (x1 : Int32) (S : St) : Prop :=
  (((S 104 10) &&& 2) = 0 → (w_X0_workNext_72 K x1 S)) ∧ (¬ ((S 104 10) &&& 2) = 0 → (w_X0_isChained x1 S (fun r_3 S_2 => (r_3 = 0 → (w_X0_workNext_72 K x1 S_2)) ∧ (¬ r_3 = 0 → (∀ S_5 : St, S_5 = su S_2 104 12 ((S_2 104 12) + 1) → w_X0_workNext_84 K x1 S_5)))))
def w_X0_workNext (S : St) (K : Int32 → St → Prop) : Prop :=
  w_X4_begin S (fun r_2 S_1 => w_X0_nextPair S_1 (fun r_4 S_3 => (((S_3 104 10) &&& 1) = 0 → (w_X0_workNext_42 K r_4 S_3)) ∧ (¬ ((S_3 104 10) &&& 1) = 0 → (w_X0_isCoprime r_4 S_3 (fun r_7 S_6 => (r_7 = 0 → (w_X0_workNext_42 K r_4 S_6)) ∧ (¬ r_7 = 0 → (∀ S_9 : St, S_9 = su S_6 104 11 ((S_6 104 11) + 1) → w_X0_workNext_84 K r_4 S_9)))))))

def w_X0_isNeedless_58 (x1 : Int32) (K : Int32 → St → Prop) (k12 : Int32 → St → Prop) (x2 : Int32) (x3 : Int32) (S : St) : Prop :=
  ∀ x3_1 : Int32, x3_1 = x3 + 1 → k12 x3_1 S
def w_X0_isNeedless_56 (x1 : Int32) (K : Int32 → St → Prop) (S : St) : Prop :=
  K 1 S
def w_X0_isNeedless_12 (x1 : Int32) (K : Int32 → St → Prop) (x2 : Int32) (k12 : Int32 → St → Prop) (x3 : Int32) (S : St) : Prop :=
  ((S 104 7) ≤ x3 → (K 0 S)) ∧ (¬ (S 104 7) ≤ x3 → (isR (q_rf (S 104 3)) ∧ vp_in x3 18 ∧ isP (pidx (q_rf (S 104 3)) (q_rf x3)) ∧ w_X3_head (pidx (q_rf (S 104 3)) (q_rf x3)) S (fun r_6 S_5 => (x3 = x1 → (w_X0_isNeedless_58 x1 K k12 x2 x3 S_5)) ∧ (¬ x3 = x1 → (w_X1_divides r_6 x2 S_5 (fun r_9 S_8 => (r_9 = 0 → (w_X0_isNeedless_58 x1 K k12 x2 x3 S_8)) ∧ (¬ r_9 = 0 → ((¬ r_6 = x2 → (w_X0_isNeedless_56 x1 K S_8)) ∧ (r_6 = x2 → ((x1 ≤ x3 → (w_X0_isNeedless_58 x1 K k12 x2 x3 S_8)) ∧ (¬ x1 ≤ x3 → (w_X0_isNeedless_56 x1 K S_8))))))))))))
def w_X0_isNeedless (x1 : Int32) (S : St) (K : Int32 → St → Prop) : Prop :=
  isR (q_rf (S 104 3)) ∧ vp_in x1 18 ∧ isP (pidx (q_rf (S 104 3)) (q_rf x1)) ∧ w_X3_head (pidx (q_rf (S 104 3)) (q_rf x1)) S (fun r_5 S_4 => ∃ f, q_it (fun _ _ => False) (w_X0_isNeedless_12 x1 K r_5) f 0 S_4)

def w_X0_sortThoseThatStay_98 (K : Int32 → St → Prop) (k4 : Int32 → Int32 → St → Prop) (x1 : Int32) (x2 : Int32) (S : St) : Prop :=
  ∀ x2_1 : Int32, x2_1 = x2 + 1 → k4 x1 x2_1 S
def w_X0_sortThoseThatStay_88 (K : Int32 → St → Prop) (k4 : Int32 → Int32 → St → Prop) (x1 : Int32) (x2 : Int32) (x3 : Int32) (S : St) : Prop :=
  vp_in x3 18 ∧ ∀ S_2 : St, S_2 = su S 110 (q_rf x3) x2 → ∀ x1_3 : Int32, x1_3 = x1 + 1 → w_X0_sortThoseThatStay_98 K k4 x1_3 x2 S_2
def w_X0_sortThoseThatStay_22 (K : Int32 → St → Prop) (k4 : Int32 → Int32 → St → Prop) (x1 : Int32) (x2 : Int32) (k22 : Int32 → St → Prop) (x3 : Int32) (S : St) : Prop :=
  (x3 ≤ 0 → (w_X0_sortThoseThatStay_88 K k4 x1 x2 x3 S)) ∧ (¬ x3 ≤ 0 → (vp_in (x3 - 1) 18 ∧ isR (q_rf (S 104 3)) ∧ vp_in (S 110 (q_rf (x3 - 1))) 18 ∧ isP (pidx (q_rf (S 104 3)) (q_rf (S 110 (q_rf (x3 - 1))))) ∧ w_X3_head (pidx (q_rf (S 104 3)) (q_rf (S 110 (q_rf (x3 - 1))))) S (fun r_7 S_6 => w_X5_rank r_7 S_6 (fun r_9 S_8 => isR (q_rf (S_8 104 3)) ∧ vp_in x2 18 ∧ isP (pidx (q_rf (S_8 104 3)) (q_rf x2)) ∧ w_X3_head (pidx (q_rf (S_8 104 3)) (q_rf x2)) S_8 (fun r_14 S_13 => w_X5_rank r_14 S_13 (fun r_16 S_15 => (r_9 ≤ r_16 → (w_X0_sortThoseThatStay_88 K k4 x1 x2 x3 S_15)) ∧ (¬ r_9 ≤ r_16 → (vp_in x3 18 ∧ ∀ S_19 : St, S_19 = su S_15 110 (q_rf x3) (S_15 110 (q_rf (x3 - 1))) → ∀ x3_20 : Int32, x3_20 = x3 + (-1) → k22 x3_20 S_19))))))))
def w_X0_sortThoseThatStay_4 (K : Int32 → St → Prop) (k4 : Int32 → Int32 → St → Prop) (x1 : Int32) (x2 : Int32) (S : St) : Prop :=
  ((S 104 7) ≤ x2 → (K x1 S)) ∧ (¬ (S 104 7) ≤ x2 → (w_X0_isNeedless x2 S (fun r_3 S_2 => (¬ r_3 = 0 → (w_X0_sortThoseThatStay_98 K k4 x1 x2 S_2)) ∧ (r_3 = 0 → (∃ f, q_it (fun _ _ => False) (w_X0_sortThoseThatStay_22 K k4 x1 x2) f x1 S_2)))))
def w_X0_sortThoseThatStay (S : St) (K : Int32 → St → Prop) : Prop :=
  ∃ f, q_it (fun _ _ _ => False) (w_X0_sortThoseThatStay_4 K) f 0 0 S

def w_X0_reduceTail_51 (x1 : Int32) (x2 : Int32) (K : Int32 → St → Prop) (q3 : Nat) (k51 : Int32 → St → Prop) (x5 : Int32) (S : St) : Prop :=
  ((S 101 2) ≤ x5 → (K 0 S)) ∧ (¬ (S 101 2) ≤ x5 → (vp_in x5 40 ∧ isP q3 ∧ w_X3_push q3 (S (101 + 1) (q_rf x5)) (S (101 + 2) (q_rf x5)) S (fun r_5 S_4 => (¬ r_5 = 0 → (∀ x5_7 : Int32, x5_7 = x5 + 1 → k51 x5_7 S_4)) ∧ (r_5 = 0 → (K (-6) S_4)))))
def w_X0_reduceTail (x1 : Int32) (x2 : Int32) (S : St) (K : Int32 → St → Prop) : Prop :=
  isR (q_rf (S 104 4)) ∧ vp_in x1 18 ∧ isP (pidx (q_rf (S 104 4)) (q_rf x1)) ∧ w_X3_copyFrom 111 (pidx (q_rf (S 104 4)) (q_rf x1)) 1 S (fun r_5 S_4 => isR (q_rf (S_4 104 4)) ∧ w_X4_leave 111 (q_rf (S_4 104 4)) x2 x1 S_4 (fun r_8 S_7 => (r_8 = 0 → (∀ S_10 : St, S_10 = su S_7 (pidx (q_rf (S 104 4)) (q_rf x1)) 2 1 → ∃ f, q_it (fun _ _ => False) (w_X0_reduceTail_51 x1 x2 K (pidx (q_rf (S 104 4)) (q_rf x1))) f 0 S_10)) ∧ (¬ r_8 = 0 → (K r_8 S_7))))

def w_X0_makeTidy_47 (K : Int32 → St → Prop) (x1 : Int32) (k47 : Int32 → St → Prop) (x2 : Int32) (S : St) : Prop :=
  (x1 ≤ x2 → (isR (q_rf (S 104 4)) ∧ ∀ S_2 : St, S_2 = su S 104 3 (nI (q_rf (S 104 4))) → isR (q_rf (S 104 3)) ∧ ∀ S_4 : St, S_4 = su S_2 104 4 (nI (q_rf (S 104 3))) → ∀ S_6 : St, S_6 = su S_4 104 7 x1 → ∀ S_7 : St, S_7 = su S_6 104 8 1 → K x1 S_7)) ∧ (¬ x1 ≤ x2 → (w_X0_reduceTail x2 x1 S (fun r_9 S_8 => (r_9 = 0 → (∀ x2_11 : Int32, x2_11 = x2 + 1 → k47 x2_11 S_8)) ∧ (¬ r_9 = 0 → (K r_9 S_8)))))
def w_X0_makeTidy_14 (K : Int32 → St → Prop) (x1 : Int32) (k14 : Int32 → St → Prop) (x2 : Int32) (S : St) : Prop :=
  (x1 ≤ x2 → (∃ f, q_it (fun _ _ => False) (w_X0_makeTidy_47 K x1) f 0 S)) ∧ (¬ x1 ≤ x2 → (isR (q_rf (S 104 4)) ∧ vp_in x2 18 ∧ isR (q_rf (S 104 3)) ∧ vp_in (S 110 (q_rf x2)) 18 ∧ isP (pidx (q_rf (S 104 4)) (q_rf x2)) ∧ isP (pidx (q_rf (S 104 3)) (q_rf (S 110 (q_rf x2)))) ∧ w_X3_copyOf (pidx (q_rf (S 104 4)) (q_rf x2)) (pidx (q_rf (S 104 3)) (q_rf (S 110 (q_rf x2)))) S (fun r_10 S_9 => ∀ x2_11 : Int32, x2_11 = x2 + 1 → k14 x2_11 S_9)))
def w_X0_makeTidy (S : St) (K : Int32 → St → Prop) : Prop :=
  w_X4_begin S (fun r_2 S_1 => w_X0_sortThoseThatStay S_1 (fun r_4 S_3 => ∃ f, q_it (fun _ _ => False) (w_X0_makeTidy_14 K r_4) f 0 S_3))

def w_X0_hasOneOfFirst_12 (q0 : Nat) (x1 : Int32) (K : Int32 → St → Prop) (k2 : Int32 → St → Prop) (x2 : Int32) (k12 : Int32 → St → Prop) (x3 : Int32) (S : St) : Prop :=
  (x1 ≤ x3 → (∀ x2_2 : Int32, x2_2 = x2 + 1 → k2 x2_2 S)) ∧ (¬ x1 ≤ x3 → (vp_in x2 40 ∧ w_X1_exponentOf (S (q0 + 2) (q_rf x2)) x3 S (fun r_5 S_4 => (r_5 ≤ 0 → (∀ x3_7 : Int32, x3_7 = x3 + 1 → k12 x3_7 S_4)) ∧ (¬ r_5 ≤ 0 → (K 1 S_4)))))
def w_X0_hasOneOfFirst_2 (q0 : Nat) (x1 : Int32) (K : Int32 → St → Prop) (k2 : Int32 → St → Prop) (x2 : Int32) (S : St) : Prop :=
  ((S q0 2) ≤ x2 → (K 0 S)) ∧ (¬ (S q0 2) ≤ x2 → (∃ f, q_it (fun _ _ => False) (w_X0_hasOneOfFirst_12 q0 x1 K k2 x2) f 0 S))
def w_X0_hasOneOfFirst (q0 : Nat) (x1 : Int32) (S : St) (K : Int32 → St → Prop) : Prop :=
  ∃ f, q_it (fun _ _ => False) (w_X0_hasOneOfFirst_2 q0 x1 K) f 0 S

def w_X0_countWithoutFirst_28 (x1 : Int32) (K : Int32 → St → Prop) (k4 : Int32 → Int32 → St → Prop) (x2 : Int32) (x3 : Int32) (S : St) : Prop :=
  ∀ x3_1 : Int32, x3_1 = x3 + 1 → k4 x2 x3_1 S
def w_X0_countWithoutFirst_4 (x1 : Int32) (K : Int32 → St → Prop) (k4 : Int32 → Int32 → St → Prop) (x2 : Int32) (x3 : Int32) (S : St) : Prop :=
  ((S 104 7) ≤ x3 → (K x2 S)) ∧ (¬ (S 104 7) ≤ x3 → (isR (q_rf (S 104 3)) ∧ vp_in x3 18 ∧ isP (pidx (q_rf (S 104 3)) (q_rf x3)) ∧ w_X0_hasOneOfFirst (pidx (q_rf (S 104 3)) (q_rf x3)) x1 S (fun r_6 S_5 => (¬ r_6 = 0 → (w_X0_countWithoutFirst_28 x1 K k4 x2 x3 S_5)) ∧ (r_6 = 0 → (∀ x2_8 : Int32, x2_8 = x2 + 1 → w_X0_countWithoutFirst_28 x1 K k4 x2_8 x3 S_5)))))
def w_X0_countWithoutFirst (x1 : Int32) (S : St) (K : Int32 → St → Prop) : Prop :=
  ∃ f, q_it (fun _ _ _ => False) (w_X0_countWithoutFirst_4 x1 K) f 0 0 S

def w_X0_isZeroAtPoint_2 (K : Int32 → St → Prop) (k2 : Int32 → St → Prop) (x1 : Int32) (S : St) : Prop :=
  ((S 104 7) ≤ x1 → (K 1 S)) ∧ (¬ (S 104 7) ≤ x1 → (isR (q_rf (S 104 3)) ∧ vp_in x1 18 ∧ isP (pidx (q_rf (S 104 3)) (q_rf x1)) ∧ w_X5_valueAtPoint (pidx (q_rf (S 104 3)) (q_rf x1)) S (fun r_6 S_5 => (r_6 = 0 → (∀ x1_8 : Int32, x1_8 = x1 + 1 → k2 x1_8 S_5)) ∧ (¬ r_6 = 0 → (K 0 S_5)))))
def w_X0_isZeroAtPoint (S : St) (K : Int32 → St → Prop) : Prop :=
  ∃ f, q_it (fun _ _ => False) (w_X0_isZeroAtPoint_2 K) f 0 S

def w_X0_hasHeadDividing_2 (x1 : Int32) (K : Int32 → St → Prop) (k2 : Int32 → St → Prop) (x2 : Int32) (S : St) : Prop :=
  ((S 104 7) ≤ x2 → (K 0 S)) ∧ (¬ (S 104 7) ≤ x2 → (isR (q_rf (S 104 3)) ∧ vp_in x2 18 ∧ isP (pidx (q_rf (S 104 3)) (q_rf x2)) ∧ w_X3_head (pidx (q_rf (S 104 3)) (q_rf x2)) S (fun r_6 S_5 => w_X1_divides r_6 x1 S_5 (fun r_8 S_7 => (r_8 = 0 → (∀ x2_10 : Int32, x2_10 = x2 + 1 → k2 x2_10 S_7)) ∧ (¬ r_8 = 0 → (K 1 S_7))))))
def w_X0_hasHeadDividing (x1 : Int32) (S : St) (K : Int32 → St → Prop) : Prop :=
  ∃ f, q_it (fun _ _ => False) (w_X0_hasHeadDividing_2 x1 K) f 0 S

def w_X7_insert_59 (x1 : Int32) (x2 : Int32) (K : Unit → St → Prop) (x4 : Int32) (S : St) : Prop :=
  vp_in x4 300 ∧ ∀ S_2 : St, S_2 = su S 223 (q_rf x4) x1 → K () S_2
def w_X7_insert_12 (x1 : Int32) (x2 : Int32) (K : Unit → St → Prop) (x3 : Int32) (k12 : Int32 → St → Prop) (x4 : Int32) (S : St) : Prop :=
  (x4 ≤ 0 → (w_X7_insert_59 x1 x2 K x4 S)) ∧ (¬ x4 ≤ 0 → (vp_in (x4 - 1) 300 ∧ w_X5_rank (S 223 (q_rf (x4 - 1))) S (fun r_4 S_3 => (r_4 ≤ x3 → (w_X7_insert_59 x1 x2 K x4 S_3)) ∧ (¬ r_4 ≤ x3 → (vp_in x4 300 ∧ ∀ S_7 : St, S_7 = su S_3 223 (q_rf x4) (S_3 223 (q_rf (x4 - 1))) → ∀ x4_8 : Int32, x4_8 = x4 + (-1) → k12 x4_8 S_7)))))
def w_X7_insert (x1 : Int32) (x2 : Int32) (S : St) (K : Unit → St → Prop) : Prop :=
  w_X5_rank x1 S (fun r_2 S_1 => ∃ f, q_it (fun _ _ => False) (w_X7_insert_12 x1 x2 K r_2) f x2 S_1)

def w_X7_nextBehind_12 (x1 : Int32) (K : Int32 → St → Prop) (k12 : Int32 → Int32 → St → Prop) (x2 : Int32) (x3 : Int32) (S : St) : Prop :=
  (x3 < 0 → (K (-1) S)) ∧ (¬ x3 < 0 → (w_X1_variable x3 S (fun r_3 S_2 => ∀ x2_4 : Int32, x2_4 = x2 + r_3 → w_X0_hasHeadDividing x2_4 S_2 (fun r_6 S_5 => (¬ r_6 = 0 → (w_X1_exponentOf x2_4 x3 S_5 (fun r_9 S_8 => w_X1_variable x3 S_8 (fun r_11 S_10 => ∀ x2_12 : Int32, x2_12 = x2_4 - (r_9 * r_11) → ∀ x3_13 : Int32, x3_13 = x3 + (-1) → k12 x2_12 x3_13 S_10)))) ∧ (r_6 = 0 → (K x2_4 S_5))))))
def w_X7_nextBehind (x1 : Int32) (S : St) (K : Int32 → St → Prop) : Prop :=
  ∀ x3_1 : Int32, x3_1 = (S 1 1) - 1 → ∃ f, q_it (fun _ _ _ => False) (w_X7_nextBehind_12 x1 K) f x1 x3_1 S

def w_X7_find_37 (K : Int32 → St → Prop) (S : St) : Prop :=
  K (-1) S
def w_X7_find_19 (K : Int32 → St → Prop) (k19 : Int32 → Int32 → St → Prop) (x1 : Int32) (x2 : Int32) (S : St) : Prop :=
  (x2 < 0 → (K x1 S)) ∧ (¬ x2 < 0 → ((300 ≤ x1 → (w_X7_find_37 K S)) ∧ (¬ 300 ≤ x1 → (w_X1_isGreat x2 S (fun r_4 S_3 => (r_4 = 0 → (w_X7_insert x2 x1 S_3 (fun r_7 S_6 => ∀ x1_8 : Int32, x1_8 = x1 + 1 → w_X7_nextBehind x2 S_6 (fun r_10 S_9 => k19 x1_8 r_10 S_9)))) ∧ (¬ r_4 = 0 → (w_X7_find_37 K S_3)))))))
def w_X7_find_18 (K : Int32 → St → Prop) (x1 : Int32) (z0 : Int32) (S : St) : Prop :=
  ∃ f, q_it (fun _ _ _ => False) (w_X7_find_19 K) f x1 z0 S
def w_X7_find (S : St) (K : Int32 → St → Prop) : Prop :=
  w_X0_hasHeadDividing 0 S (fun r_2 S_1 => (r_2 = 0 → (w_X7_find_18 K 0 0 S_1)) ∧ (¬ r_2 = 0 → (w_X7_find_18 K 0 (-1) S_1)))

def w_X8_isPrimeInRange_12 (x0 : Int32) (K : Int32 → St → Prop) (S : St) : Prop :=
  K 0 S
def w_X8_isPrimeInRange_16 (x0 : Int32) (K : Int32 → St → Prop) (k16 : Int32 → St → Prop) (x1 : Int32) (S : St) : Prop :=
  (x0 ≤ x1 → (K 1 S)) ∧ (¬ x0 ≤ x1 → ((¬ x1 = 0) ∧ (¬ (x0 - x0 / x1 * x1) = 0 → (∀ x1_4 : Int32, x1_4 = x1 + 1 → k16 x1_4 S)) ∧ ((x0 - x0 / x1 * x1) = 0 → (K 0 S))))
def w_X8_isPrimeInRange (x0 : Int32) (S : St) (K : Int32 → St → Prop) : Prop :=
  (x0 < 2 → (w_X8_isPrimeInRange_12 x0 K S)) ∧ (¬ x0 < 2 → ((x0 ≤ 251 → (∃ f, q_it (fun _ _ => False) (w_X8_isPrimeInRange_16 x0 K) f 2 S)) ∧ (¬ x0 ≤ 251 → (w_X8_isPrimeInRange_12 x0 K S))))

def w_X8_order_9 (x1 : Int32) (K : Int32 → St → Prop) (S : St) : Prop :=
  K (-2) S
def w_X8_order_84 (x1 : Int32) (K : Int32 → St → Prop) (k54 : Int32 → St → Prop) (x2 : Int32) (x3 : Int32) (S : St) : Prop :=
  ∀ x3_1 : Int32, x3_1 = x3 + 1 → k54 x3_1 S
def w_X8_order_54 (x1 : Int32) (K : Int32 → St → Prop) (x2 : Int32) (k54 : Int32 → St → Prop) (x3 : Int32) (S : St) : Prop :=
  (24 ≤ x3 → (K x2 S)) ∧ (¬ 24 ≤ x3 → (w_X6_at x3 S (fun r_3 S_2 => (r_3 = none → (w_X8_order_84 x1 K k54 x2 x3 S_2)) ∧ (∀ q_4 : Nat, r_3 = some q_4 → (isP q_4 ∧ w_X5_sortTerms q_4 S_2 (fun r_7 S_6 => w_X8_order_84 x1 K k54 x2 x3 S_6))))))
def w_X8_order (x1 : Int32) (S : St) (K : Int32 → St → Prop) : Prop :=
  (x1 < 0 → (w_X8_order_9 x1 K S)) ∧ (¬ x1 < 0 → ((x1 ≤ 3 → (((S 104 7) ≤ 0 → (∀ x2_4 : Int32, x2_4 = S 1 2 → ∀ S_5 : St, S_5 = su S 1 2 x1 → w_X5_sortTerms 10 S_5 (fun r_7 S_6 => ∃ f, q_it (fun _ _ => False) (w_X8_order_54 x1 K x2_4) f 0 S_6))) ∧ (¬ (S 104 7) ≤ 0 → (K (-3) S)))) ∧ (¬ x1 ≤ 3 → (w_X8_order_9 x1 K S))))

def w_X8_term_50 (x1 : Int32) (x2 : Int32) (x3 : Int32) (x4 : Int32) (x5 : Int32) (K : Int32 → St → Prop) (S : St) : Prop :=
  K (-2) S
def w_X8_term (x1 : Int32) (x2 : Int32) (x3 : Int32) (x4 : Int32) (x5 : Int32) (S : St) (K : Int32 → St → Prop) : Prop :=
  w_X5_mayBeExponent x2 0 S (fun r_2 S_1 => (r_2 = 0 → (w_X8_term_50 x1 x2 x3 x4 x5 K S_1)) ∧ (¬ r_2 = 0 → (w_X5_mayBeExponent x3 1 S_1 (fun r_5 S_4 => (r_5 = 0 → (w_X8_term_50 x1 x2 x3 x4 x5 K S_4)) ∧ (¬ r_5 = 0 → (w_X5_mayBeExponent x4 2 S_4 (fun r_8 S_7 => (r_8 = 0 → (w_X8_term_50 x1 x2 x3 x4 x5 K S_7)) ∧ (¬ r_8 = 0 → (w_X5_mayBeExponent x5 3 S_7 (fun r_11 S_10 => (¬ r_11 = 0 → (w_X5_restOf x1 S_10 (fun r_14 S_13 => w_X1_of x2 x3 x4 x5 S_13 (fun r_16 S_15 => w_X5_addMultiple 16 10 13 r_14 r_16 S_15 (fun r_18 S_17 => (r_18 = 0 → (w_X3_copyOf 10 16 S_17 (fun r_21 S_20 => K (S_20 10 2) S_20))) ∧ (¬ r_18 = 0 → (K r_18 S_17))))))) ∧ (r_11 = 0 → (w_X8_term_50 x1 x2 x3 x4 x5 K S_10))))))))))))

def w_X8_keep (S : St) (K : Int32 → St → Prop) : Prop :=
  w_X6_isFull S (fun r_2 S_1 => (r_2 = 0 → (w_X6_put 10 S_1 (fun r_5 S_4 => ∀ S_6 : St, S_6 = su S_4 10 2 0 → K r_5 S_6))) ∧ (¬ r_2 = 0 → (K (-4) S_1)))

def w_X8_drop (x1 : Int32) (S : St) (K : Int32 → St → Prop) : Prop :=
  w_X6_at x1 S (fun r_2 S_1 => (r_2 = none → (K (-2) S_1)) ∧ (∀ q_3 : Nat, r_2 = some q_3 → (w_X6_free x1 S_1 (fun r_5 S_4 => isP q_3 ∧ K (S_4 q_3 2) S_4))))

def w_X8_polyAt (x1 : Int32) (S : St) (K : (Option Nat) → St → Prop) : Prop :=
  (¬ x1 = (-1) → (((-2) < x1 → (w_X6_at x1 S (fun r_4 S_3 => (r_4 = none → (K none S_3)) ∧ (∀ q_5 : Nat, r_4 = some q_5 → (K (some q_5) S_3))))) ∧ (¬ (-2) < x1 → (w_X0_at ((-2) - x1) S (fun r_7 S_6 => (r_7 = none → (K none S_6)) ∧ (∀ q_8 : Nat, r_7 = some q_8 → (K (some q_8) S_6))))))) ∧ (x1 = (-1) → (K (some 10) S))

def w_X8_terms (x1 : Int32) (S : St) (K : Int32 → St → Prop) : Prop :=
  w_X8_polyAt x1 S (fun r_2 S_1 => (r_2 = none → (K (-2) S_1)) ∧ (∀ q_3 : Nat, r_2 = some q_3 → (isP q_3 ∧ K (S_1 q_3 2) S_1)))

def w_X8_number_22 (x1 : Int32) (x2 : Int32) (K : Int32 → St → Prop) (S : St) : Prop :=
  K (-2) S
def w_X8_number (x1 : Int32) (x2 : Int32) (S : St) (K : Int32 → St → Prop) : Prop :=
  w_X8_polyAt x1 S (fun r_2 S_1 => (r_2 = none → (w_X8_number_22 x1 x2 K S_1)) ∧ (∀ q_3 : Nat, r_2 = some q_3 → ((x2 < 0 → (w_X8_number_22 x1 x2 K S_1)) ∧ (¬ x2 < 0 → (isP q_3 ∧ (x2 < (S_1 q_3 2) → (vp_in x2 40 ∧ K (S_1 (q_3 + 1) (q_rf x2)) S_1)) ∧ (¬ x2 < (S_1 q_3 2) → (w_X8_number_22 x1 x2 K S_1)))))))

def w_X8_exponent_36 (x1 : Int32) (x2 : Int32) (x3 : Int32) (K : Int32 → St → Prop) (S : St) : Prop :=
  K (-2) S
def w_X8_exponent (x1 : Int32) (x2 : Int32) (x3 : Int32) (S : St) (K : Int32 → St → Prop) : Prop :=
  w_X8_polyAt x1 S (fun r_2 S_1 => (r_2 = none → (w_X8_exponent_36 x1 x2 x3 K S_1)) ∧ (∀ q_3 : Nat, r_2 = some q_3 → ((x2 < 0 → (w_X8_exponent_36 x1 x2 x3 K S_1)) ∧ (¬ x2 < 0 → (isP q_3 ∧ ((S_1 q_3 2) ≤ x2 → (w_X8_exponent_36 x1 x2 x3 K S_1)) ∧ (¬ (S_1 q_3 2) ≤ x2 → (w_X5_hasVariable x3 S_1 (fun r_8 S_7 => (¬ r_8 = 0 → (vp_in x2 40 ∧ w_X1_exponentOf (S_7 (q_3 + 2) (q_rf x2)) x3 S_7 (fun r_12 S_11 => K r_12 S_11))) ∧ (r_8 = 0 → (w_X8_exponent_36 x1 x2 x3 K S_7))))))))))

def w_X8_putResult (x1 : Int32) (S : St) (K : Int32 → St → Prop) : Prop :=
  (x1 = 0 → (w_X6_put 16 S (fun r_3 S_2 => K r_3 S_2))) ∧ (¬ x1 = 0 → (K x1 S))

def w_X8_sum_24 (x1 : Int32) (x2 : Int32) (x3 : Int32) (K : Int32 → St → Prop) (S : St) : Prop :=
  K (-2) S
def w_X8_sum (x1 : Int32) (x2 : Int32) (x3 : Int32) (S : St) (K : Int32 → St → Prop) : Prop :=
  w_X8_polyAt x1 S (fun r_2 S_1 => (r_2 = none → (w_X8_polyAt x2 S_1 (fun r_5 S_4 => (r_5 = none → (w_X8_sum_24 x1 x2 x3 K S_4)) ∧ (∀ q_6 : Nat, r_5 = some q_6 → (w_X8_sum_24 x1 x2 x3 K S_4))))) ∧ (∀ q_3 : Nat, r_2 = some q_3 → (w_X8_polyAt x2 S_1 (fun r_8 S_7 => (r_8 = none → (w_X8_sum_24 x1 x2 x3 K S_7)) ∧ (∀ q_9 : Nat, r_8 = some q_9 → (w_X6_isFull S_7 (fun r_11 S_10 => (r_11 = 0 → (w_X5_restOf x3 S_10 (fun r_14 S_13 => isP q_3 ∧ isP q_9 ∧ w_X5_addMultiple 16 q_3 q_9 r_14 0 S_13 (fun r_18 S_17 => w_X8_putResult r_18 S_17 (fun r_20 S_19 => K r_20 S_19))))) ∧ (¬ r_11 = 0 → (K (-4) S_10)))))))))

def w_X8_product_22 (x1 : Int32) (x2 : Int32) (K : Int32 → St → Prop) (S : St) : Prop :=
  K (-2) S
def w_X8_product (x1 : Int32) (x2 : Int32) (S : St) (K : Int32 → St → Prop) : Prop :=
  w_X8_polyAt x1 S (fun r_2 S_1 => (r_2 = none → (w_X8_polyAt x2 S_1 (fun r_5 S_4 => (r_5 = none → (w_X8_product_22 x1 x2 K S_4)) ∧ (∀ q_6 : Nat, r_5 = some q_6 → (w_X8_product_22 x1 x2 K S_4))))) ∧ (∀ q_3 : Nat, r_2 = some q_3 → (w_X8_polyAt x2 S_1 (fun r_8 S_7 => (r_8 = none → (w_X8_product_22 x1 x2 K S_7)) ∧ (∀ q_9 : Nat, r_8 = some q_9 → (w_X6_isFull S_7 (fun r_11 S_10 => (r_11 = 0 → (isP q_3 ∧ isP q_9 ∧ w_X5_multiply 16 q_3 q_9 S_10 (fun r_16 S_15 => w_X8_putResult r_16 S_15 (fun r_18 S_17 => K r_18 S_17)))) ∧ (¬ r_11 = 0 → (K (-4) S_10)))))))))

def w_X8_derived_21 (x1 : Int32) (x2 : Int32) (K : Int32 → St → Prop) (S : St) : Prop :=
  K (-2) S
def w_X8_derived (x1 : Int32) (x2 : Int32) (S : St) (K : Int32 → St → Prop) : Prop :=
  w_X8_polyAt x1 S (fun r_2 S_1 => (r_2 = none → (w_X8_derived_21 x1 x2 K S_1)) ∧ (∀ q_3 : Nat, r_2 = some q_3 → (w_X5_hasVariable x2 S_1 (fun r_5 S_4 => (¬ r_5 = 0 → (w_X6_isFull S_4 (fun r_8 S_7 => (r_8 = 0 → (isP q_3 ∧ w_X5_derive 16 q_3 x2 S_7 (fun r_12 S_11 => w_X8_putResult r_12 S_11 (fun r_14 S_13 => K r_14 S_13)))) ∧ (¬ r_8 = 0 → (K (-4) S_7))))) ∧ (r_5 = 0 → (w_X8_derived_21 x1 x2 K S_4))))))

def w_X8_spair_37 (x1 : Int32) (x2 : Int32) (K : Int32 → St → Prop) (S : St) : Prop :=
  K (-2) S
def w_X8_spair (x1 : Int32) (x2 : Int32) (S : St) (K : Int32 → St → Prop) : Prop :=
  w_X8_polyAt x1 S (fun r_2 S_1 => (r_2 = none → (w_X8_polyAt x2 S_1 (fun r_5 S_4 => (r_5 = none → (w_X8_spair_37 x1 x2 K S_4)) ∧ (∀ q_6 : Nat, r_5 = some q_6 → (w_X8_spair_37 x1 x2 K S_4))))) ∧ (∀ q_3 : Nat, r_2 = some q_3 → (w_X8_polyAt x2 S_1 (fun r_8 S_7 => (r_8 = none → (w_X8_spair_37 x1 x2 K S_7)) ∧ (∀ q_9 : Nat, r_8 = some q_9 → (isP q_3 ∧ ((S_7 q_3 2) = 0 → (w_X8_spair_37 x1 x2 K S_7)) ∧ (¬ (S_7 q_3 2) = 0 → (isP q_9 ∧ (¬ (S_7 q_9 2) = 0 → (w_X6_isFull S_7 (fun r_15 S_14 => (r_15 = 0 → (w_X5_makeS 16 q_3 q_9 S_14 (fun r_18 S_17 => w_X8_putResult r_18 S_17 (fun r_20 S_19 => K r_20 S_19)))) ∧ (¬ r_15 = 0 → (K (-4) S_14))))) ∧ ((S_7 q_9 2) = 0 → (w_X8_spair_37 x1 x2 K S_7))))))))))

def w_X8_value (x1 : Int32) (x2 : Int32) (x3 : Int32) (x4 : Int32) (x5 : Int32) (S : St) (K : Int32 → St → Prop) : Prop :=
  w_X8_polyAt x1 S (fun r_2 S_1 => (r_2 = none → (K (-2) S_1)) ∧ (∀ q_3 : Nat, r_2 = some q_3 → (w_X5_setPoint 0 x2 S_1 (fun r_5 S_4 => w_X5_setPoint 1 x3 S_4 (fun r_7 S_6 => w_X5_setPoint 2 x4 S_6 (fun r_9 S_8 => w_X5_setPoint 3 x5 S_8 (fun r_11 S_10 => isP q_3 ∧ w_X5_valueAtPoint q_3 S_10 (fun r_14 S_13 => K r_14 S_13))))))))

def w_X8_compare_22 (x1 : Int32) (x2 : Int32) (K : Int32 → St → Prop) (S : St) : Prop :=
  K (-2) S
def w_X8_compare (x1 : Int32) (x2 : Int32) (S : St) (K : Int32 → St → Prop) : Prop :=
  w_X8_polyAt x1 S (fun r_2 S_1 => (r_2 = none → (w_X8_polyAt x2 S_1 (fun r_5 S_4 => (r_5 = none → (w_X8_compare_22 x1 x2 K S_4)) ∧ (∀ q_6 : Nat, r_5 = some q_6 → (w_X8_compare_22 x1 x2 K S_4))))) ∧ (∀ q_3 : Nat, r_2 = some q_3 → (w_X8_polyAt x2 S_1 (fun r_8 S_7 => (r_8 = none → (w_X8_compare_22 x1 x2 K S_7)) ∧ (∀ q_9 : Nat, r_8 = some q_9 → (isP q_3 ∧ isP q_9 ∧ w_X5_comparePolys q_3 q_9 S_7 (fun r_13 S_12 => K r_13 S_12)))))))

def w_X8_fuel_11 (x1 : Int32) (K : Int32 → St → Prop) (S : St) : Prop :=
  K (-2) S
def w_X8_fuel (x1 : Int32) (S : St) (K : Int32 → St → Prop) : Prop :=
  (x1 < 0 → (w_X8_fuel_11 x1 K S)) ∧ (¬ x1 < 0 → ((x1 ≤ 2000 → (∀ x2_3 : Int32, x2_3 = S 94 4 → ∀ S_4 : St, S_4 = su S 94 4 x1 → K x2_3 S_4)) ∧ (¬ x1 ≤ 2000 → (w_X8_fuel_11 x1 K S))))

def w_X8_way_9 (x1 : Int32) (K : Int32 → St → Prop) (S : St) : Prop :=
  K (-2) S
def w_X8_way (x1 : Int32) (S : St) (K : Int32 → St → Prop) : Prop :=
  (x1 < 0 → (w_X8_way_9 x1 K S)) ∧ (¬ x1 < 0 → ((x1 ≤ 1 → (∀ x2_3 : Int32, x2_3 = S 104 9 → ∀ S_4 : St, S_4 = su S 104 9 x1 → K x2_3 S_4)) ∧ (¬ x1 ≤ 1 → (w_X8_way_9 x1 K S))))

def w_X8_rules_9 (x1 : Int32) (K : Int32 → St → Prop) (S : St) : Prop :=
  K (-2) S
def w_X8_rules (x1 : Int32) (S : St) (K : Int32 → St → Prop) : Prop :=
  (x1 < 0 → (w_X8_rules_9 x1 K S)) ∧ (¬ x1 < 0 → ((x1 ≤ 3 → (∀ x2_3 : Int32, x2_3 = S 104 10 → ∀ S_4 : St, S_4 = su S 104 10 x1 → K x2_3 S_4)) ∧ (¬ x1 ≤ 3 → (w_X8_rules_9 x1 K S))))

def w_X8_enter_17 (x1 : Int32) (K : Int32 → St → Prop) (S : St) : Prop :=
  K (-2) S
def w_X8_enter (x1 : Int32) (S : St) (K : Int32 → St → Prop) : Prop :=
  w_X8_polyAt x1 S (fun r_2 S_1 => (r_2 = none → (w_X8_enter_17 x1 K S_1)) ∧ (∀ q_3 : Nat, r_2 = some q_3 → (isP q_3 ∧ (¬ (S_1 q_3 2) = 0 → (w_X0_isFull S_1 (fun r_7 S_6 => (r_7 = 0 → (∀ S_9 : St, S_9 = su S_6 104 8 0 → w_X0_take q_3 S_9 (fun r_11 S_10 => K r_11 S_10))) ∧ (¬ r_7 = 0 → (K (-4) S_6))))) ∧ ((S_1 q_3 2) = 0 → (w_X8_enter_17 x1 K S_1)))))

def w_X8_clear (S : St) (K : Int32 → St → Prop) : Prop :=
  w_X0_empty S (fun r_2 S_1 => K r_2 S_1)

def w_X8_work_12 (x1 : Int32) (K : Int32 → St → Prop) (S : St) : Prop :=
  K (-2) S
def w_X8_work_62 (x1 : Int32) (K : Int32 → St → Prop) (x2 : Int32) (S : St) : Prop :=
  K x2 S
def w_X8_work_24 (x1 : Int32) (K : Int32 → St → Prop) (k24 : Int32 → St → Prop) (x2 : Int32) (S : St) : Prop :=
  (x1 ≤ x2 → (w_X8_work_62 x1 K x2 S)) ∧ (¬ x1 ≤ x2 → (((S 105 2) ≤ 0 → (w_X8_work_62 x1 K x2 S)) ∧ (¬ (S 105 2) ≤ 0 → (w_X0_workNext S (fun r_4 S_3 => (r_4 = 0 → (∀ x2_6 : Int32, x2_6 = x2 + 1 → k24 x2_6 S_3)) ∧ (¬ r_4 = 0 → (K r_4 S_3)))))))
def w_X8_work (x1 : Int32) (S : St) (K : Int32 → St → Prop) : Prop :=
  (x1 < 1 → (w_X8_work_12 x1 K S)) ∧ (¬ x1 < 1 → ((x1 ≤ 200 → (w_X4_begin S (fun r_4 S_3 => ∃ f, q_it (fun _ _ => False) (w_X8_work_24 x1 K) f 0 S_3))) ∧ (¬ x1 ≤ 200 → (w_X8_work_12 x1 K S))))

def w_X8_tidy (S : St) (K : Int32 → St → Prop) : Prop :=
  ((S 105 2) ≤ 0 → (w_X0_makeTidy S (fun r_3 S_2 => K r_3 S_2))) ∧ (¬ (S 105 2) ≤ 0 → (K (-3) S))

def w_X8_left (x1 : Int32) (S : St) (K : Int32 → St → Prop) : Prop :=
  w_X8_polyAt x1 S (fun r_2 S_1 => (r_2 = none → (K (-2) S_1)) ∧ (∀ q_3 : Nat, r_2 = some q_3 → (w_X4_begin S_1 (fun r_5 S_4 => w_X6_isFull S_4 (fun r_7 S_6 => (r_7 = 0 → (isP q_3 ∧ isR (q_rf (S_6 104 3)) ∧ w_X4_leave q_3 (q_rf (S_6 104 3)) (S_6 104 7) (-1) S_6 (fun r_12 S_11 => (r_12 = 0 → (w_X6_put 101 S_11 (fun r_15 S_14 => K r_15 S_14))) ∧ (¬ r_12 = 0 → (K r_12 S_11))))) ∧ (¬ r_7 = 0 → (K (-4) S_6)))))))

def w_X8_member (x1 : Int32) (S : St) (K : Int32 → St → Prop) : Prop :=
  w_X8_polyAt x1 S (fun r_2 S_1 => (r_2 = none → (K (-2) S_1)) ∧ (∀ q_3 : Nat, r_2 = some q_3 → ((¬ (S_1 104 8) = 0 → (w_X4_begin S_1 (fun r_6 S_5 => isP q_3 ∧ isR (q_rf (S_5 104 3)) ∧ w_X4_leave q_3 (q_rf (S_5 104 3)) (S_5 104 7) (-1) S_5 (fun r_10 S_9 => (r_10 = 0 → ((¬ (S_9 101 2) = 0 → (K 0 S_9)) ∧ ((S_9 101 2) = 0 → (K 1 S_9)))) ∧ (¬ r_10 = 0 → (K r_10 S_9)))))) ∧ ((S_1 104 8) = 0 → (K (-3) S_1)))))

def w_X8_pair_20 (x1 : Int32) (K : Int32 → St → Prop) (S : St) : Prop :=
  K (-1) S
def w_X8_pair (x1 : Int32) (S : St) (K : Int32 → St → Prop) : Prop :=
  (x1 < 0 → (w_X8_pair_20 x1 K S)) ∧ (¬ x1 < 0 → ((x1 < (S 105 2) → (vp_in x1 153 ∧ K ((100 * (S 106 (q_rf x1))) + (S 107 (q_rf x1))) S)) ∧ (¬ x1 < (S 105 2) → (w_X8_pair_20 x1 K S))))

def w_X8_standing (S : St) (K : Int32 → St → Prop) : Prop :=
  ((S 104 8) = 0 → (K (-3) S)) ∧ (¬ (S 104 8) = 0 → (w_X7_find S (fun r_3 S_2 => K r_3 S_2)))

def w_X8_stands_41 (x1 : Int32) (x2 : Int32) (K : Int32 → St → Prop) (S : St) : Prop :=
  K (-2) S
def w_X8_stands (x1 : Int32) (x2 : Int32) (S : St) (K : Int32 → St → Prop) : Prop :=
  (¬ (S 104 8) = 0 → (w_X7_find S (fun r_3 S_2 => (x1 < 0 → (w_X8_stands_41 x1 x2 K S_2)) ∧ (¬ x1 < 0 → ((r_3 ≤ x1 → (w_X8_stands_41 x1 x2 K S_2)) ∧ (¬ r_3 ≤ x1 → (w_X5_hasVariable x2 S_2 (fun r_7 S_6 => (¬ r_7 = 0 → (vp_in x1 300 ∧ w_X1_exponentOf (S_6 223 (q_rf x1)) x2 S_6 (fun r_11 S_10 => K r_11 S_10))) ∧ (r_7 = 0 → (w_X8_stands_41 x1 x2 K S_6)))))))))) ∧ ((S 104 8) = 0 → (K (-3) S))

def w_X8_without_15 (x1 : Int32) (K : Int32 → St → Prop) (S : St) : Prop :=
  K (-2) S
def w_X8_without (x1 : Int32) (S : St) (K : Int32 → St → Prop) : Prop :=
  (x1 < 0 → (w_X8_without_15 x1 K S)) ∧ (¬ x1 < 0 → ((x1 ≤ (S 1 1) → (((S 104 8) = 0 → (K (-3) S)) ∧ (¬ (S 104 8) = 0 → (w_X0_countWithoutFirst x1 S (fun r_5 S_4 => K r_5 S_4))))) ∧ (¬ x1 ≤ (S 1 1) → (w_X8_without_15 x1 K S))))

def w_X8_zeros_51 (K : Int32 → St → Prop) (k25 : Int32 → Int32 → St → Prop) (x1 : Int32) (x2 : Int32) (x3 : Int32) (S : St) : Prop :=
  ∀ x3_1 : Int32, x3_1 = x3 + 1 → k25 x2 x3_1 S
def w_X8_zeros_25 (K : Int32 → St → Prop) (x1 : Int32) (k25 : Int32 → Int32 → St → Prop) (x2 : Int32) (x3 : Int32) (S : St) : Prop :=
  (x1 ≤ x3 → (K x2 S)) ∧ (¬ x1 ≤ x3 → (w_X5_setPointNumber x3 S (fun r_3 S_2 => w_X0_isZeroAtPoint S_2 (fun r_5 S_4 => (r_5 = 0 → (w_X8_zeros_51 K k25 x1 x2 x3 S_4)) ∧ (¬ r_5 = 0 → (∀ x2_7 : Int32, x2_7 = x2 + 1 → w_X8_zeros_51 K k25 x1 x2_7 x3 S_4))))))
def w_X8_zeros (S : St) (K : Int32 → St → Prop) : Prop :=
  w_X5_pointsUpTo 2500 S (fun r_2 S_1 => (r_2 ≤ 2500 → (∃ f, q_it (fun _ _ _ => False) (w_X8_zeros_25 K r_2) f 0 0 S_1)) ∧ (¬ r_2 ≤ 2500 → (K (-3) S_1)))

def w_X8_count (x1 : Int32) (S : St) (K : Int32 → St → Prop) : Prop :=
  ((x1.toInt < 0 ∨ 11 < x1.toInt) → (K (-2) S)) ∧ (x1 = 0 → (K (S 1 0) S)) ∧ (x1 = 1 → (K (S 1 1) S)) ∧ (x1 = 2 → (K (S 104 7) S)) ∧ (x1 = 3 → (K (S 105 2) S)) ∧ (x1 = 4 → (K (S 104 11) S)) ∧ (x1 = 5 → (K (S 104 12) S)) ∧ (x1 = 6 → (K (S 104 13) S)) ∧ (x1 = 7 → (K (S 104 14) S)) ∧ (x1 = 8 → (K (S 94 6) S)) ∧ (x1 = 9 → (((S 104 8) = 0 → (K 0 S)) ∧ (¬ (S 104 8) = 0 → (K 1 S)))) ∧ (x1 = 10 → (K (S 19 2) S)) ∧ (x1 = 11 → (K (S 94 5) S))

def w_X8_digestOf_45 (y1 : Int64) (q3 : Nat) (K : Int64 → St → Prop) (k16 : Int64 → Int32 → St → Prop) (x6 : Int32) (k45 : Int64 → Int32 → St → Prop) (y4 : Int64) (x7 : Int32) (S : St) : Prop :=
  ((S 1 1) ≤ x7 → (∀ x6_2 : Int32, x6_2 = x6 + 1 → k16 y4 x6_2 S)) ∧ (¬ (S 1 1) ≤ x7 → (vp_in x6 40 ∧ w_X1_exponentOf (S (q3 + 2) (q_rf x6)) x7 S (fun r_5 S_4 => ∀ y4_6 : Int64, y4_6 = (31 * y4) + (r_5.toInt64) → ∀ x7_7 : Int32, x7_7 = x7 + 1 → k45 y4_6 x7_7 S_4)))
def w_X8_digestOf_16 (y1 : Int64) (q3 : Nat) (K : Int64 → St → Prop) (k16 : Int64 → Int32 → St → Prop) (y4 : Int64) (x6 : Int32) (S : St) : Prop :=
  ((S q3 2) ≤ x6 → (K y4 S)) ∧ (¬ (S q3 2) ≤ x6 → (vp_in x6 40 ∧ ∀ y4_3 : Int64, y4_3 = (31 * y4) + ((S (q3 + 1) (q_rf x6)).toInt64) → ∃ f, q_it (fun _ _ _ => False) (w_X8_digestOf_45 y1 q3 K k16 x6) f y4_3 0 S))
def w_X8_digestOf (y1 : Int64) (q3 : Nat) (S : St) (K : Int64 → St → Prop) : Prop :=
  ∀ y4_1 : Int64, y4_1 = (31 * y1) + ((S q3 2).toInt64) → ∃ f, q_it (fun _ _ _ => False) (w_X8_digestOf_16 y1 q3 K) f y4_1 0 S

def w_X8_digest_58 (K : Int64 → St → Prop) (k58 : Int64 → Int32 → St → Prop) (y1 : Int64) (x3 : Int32) (S : St) : Prop :=
  ((S 104 7) ≤ x3 → (K y1 S)) ∧ (¬ (S 104 7) ≤ x3 → (isR (q_rf (S 104 3)) ∧ vp_in x3 18 ∧ isP (pidx (q_rf (S 104 3)) (q_rf x3)) ∧ w_X8_digestOf y1 (pidx (q_rf (S 104 3)) (q_rf x3)) S (fun r_6 S_5 => ∀ x3_7 : Int32, x3_7 = x3 + 1 → k58 r_6 x3_7 S_5)))
def w_X8_digest_50 (K : Int64 → St → Prop) (k14 : Int64 → Int32 → St → Prop) (y1 : Int64) (x3 : Int32) (S : St) : Prop :=
  ∀ x3_1 : Int32, x3_1 = x3 + 1 → k14 y1 x3_1 S
def w_X8_digest_14 (K : Int64 → St → Prop) (k14 : Int64 → Int32 → St → Prop) (y1 : Int64) (x3 : Int32) (S : St) : Prop :=
  (24 ≤ x3 → (∃ f, q_it (fun _ _ _ => False) (w_X8_digest_58 K) f y1 0 S)) ∧ (¬ 24 ≤ x3 → (w_X6_at x3 S (fun r_4 S_3 => (r_4 = none → (w_X8_digest_50 K k14 y1 x3 S_3)) ∧ (∀ q_5 : Nat, r_4 = some q_5 → (isP q_5 ∧ w_X8_digestOf ((31 * y1) + (x3.toInt64)) q_5 S_3 (fun r_8 S_7 => w_X8_digest_50 K k14 r_8 x3 S_7))))))
def w_X8_digest (S : St) (K : Int64 → St → Prop) : Prop :=
  w_X8_digestOf 17 10 S (fun r_2 S_1 => ∃ f, q_it (fun _ _ _ => False) (w_X8_digest_14 K) f r_2 0 S_1)

def w_X9_in_14 (x0 : Int32) (x1 : Int32) (x2 : Int32) (K : Int32 → St → Prop) (S : St) : Prop :=
  K 0 S
def w_X9_in (x0 : Int32) (x1 : Int32) (x2 : Int32) (S : St) (K : Int32 → St → Prop) : Prop :=
  (x0 < x1 → (w_X9_in_14 x0 x1 x2 K S)) ∧ (¬ x0 < x1 → ((x2 < x0 → (w_X9_in_14 x0 x1 x2 K S)) ∧ (¬ x2 < x0 → (K 1 S))))

def w_X9_isPrime_15 (x0 : Int32) (K : Int32 → St → Prop) (k15 : Int32 → St → Prop) (x1 : Int32) (S : St) : Prop :=
  (x0 < (x1 * x1) → (K 1 S)) ∧ (¬ x0 < (x1 * x1) → ((¬ x1 = 0) ∧ (¬ (x0 - x0 / x1 * x1) = 0 → (∀ x1_4 : Int32, x1_4 = x1 + 1 → k15 x1_4 S)) ∧ ((x0 - x0 / x1 * x1) = 0 → (K 0 S))))
def w_X9_isPrime (x0 : Int32) (S : St) (K : Int32 → St → Prop) : Prop :=
  w_X9_in x0 2 251 S (fun r_2 S_1 => (¬ r_2 = 0 → (∃ f, q_it (fun _ _ => False) (w_X9_isPrime_15 x0 K) f 2 S_1)) ∧ (r_2 = 0 → (K 0 S_1)))

def w_X9_rest (y1 : Int64) (S : St) (K : Int32 → St → Prop) : Prop :=
  (¬ ((S 224 0).toInt64) = 0) ∧ ∀ x3_2 : Int32, x3_2 = (y1 - y1 / ((S 224 0).toInt64) * ((S 224 0).toInt64)).toInt32 → (0 ≤ x3_2 → (K x3_2 S)) ∧ (¬ 0 ≤ x3_2 → (K (x3_2 + (S 224 0)) S))

def w_X9_inverse_2 (x1 : Int32) (K : Int32 → St → Prop) (k2 : Int32 → St → Prop) (x2 : Int32) (S : St) : Prop :=
  (¬ (S 224 0) = 0) ∧ (((x2 * x1) - (x2 * x1) / (S 224 0) * (S 224 0)) = 1 → (K x2 S)) ∧ (¬ ((x2 * x1) - (x2 * x1) / (S 224 0) * (S 224 0)) = 1 → (∀ x2_3 : Int32, x2_3 = x2 + 1 → k2 x2_3 S))
def w_X9_inverse (x1 : Int32) (S : St) (K : Int32 → St → Prop) : Prop :=
  ∃ f, q_it (fun _ _ => False) (w_X9_inverse_2 x1 K) f 1 S

def w_X9_reversed_60 (q0 : Nat) (x1 : Int32) (q2 : Nat) (x3 : Int32) (x4 : Int32) (x5 : Int32) (K : Int32 → St → Prop) (k60 : Int32 → St → Prop) (x7 : Int32) (S : St) : Prop :=
  (x7 < x4 → (K 0 S)) ∧ (¬ x7 < x4 → (vp_in (x1 + x7) (alen q0) ∧ vp_in (x3 + x7) (alen q2) ∧ ((S q0 (q_rf (x1 + x7))) = (S q2 (q_rf (x3 + x7))) → (∀ x7_5 : Int32, x7_5 = x7 + (-1) → k60 x7_5 S)) ∧ (¬ (S q0 (q_rf (x1 + x7))) = (S q2 (q_rf (x3 + x7))) → (((S q2 (q_rf (x3 + x7))) ≤ (S q0 (q_rf (x1 + x7))) → (K (-1) S)) ∧ (¬ (S q2 (q_rf (x3 + x7))) ≤ (S q0 (q_rf (x1 + x7))) → (K 1 S))))))
def w_X9_reversed_7 (q0 : Nat) (x1 : Int32) (q2 : Nat) (x3 : Int32) (x4 : Int32) (x5 : Int32) (K : Int32 → St → Prop) (k7 : Int32 → Int32 → St → Prop) (x6 : Int32) (x7 : Int32) (S : St) : Prop :=
  (x5 ≤ x7 → ((x6 = 0 → (∀ x7_3 : Int32, x7_3 = x5 - 1 → ∃ f, q_it (fun _ _ => False) (w_X9_reversed_60 q0 x1 q2 x3 x4 x5 K) f x7_3 S)) ∧ (¬ x6 = 0 → ((0 ≤ x6 → (K 1 S)) ∧ (¬ 0 ≤ x6 → (K (-1) S)))))) ∧ (¬ x5 ≤ x7 → (vp_in (x1 + x7) (alen q0) ∧ vp_in (x3 + x7) (alen q2) ∧ ∀ x6_8 : Int32, x6_8 = x6 + ((S q0 (q_rf (x1 + x7))) - (S q2 (q_rf (x3 + x7)))) → ∀ x7_9 : Int32, x7_9 = x7 + 1 → k7 x6_8 x7_9 S))
def w_X9_reversed (q0 : Nat) (x1 : Int32) (q2 : Nat) (x3 : Int32) (x4 : Int32) (x5 : Int32) (S : St) (K : Int32 → St → Prop) : Prop :=
  ∃ f, q_it (fun _ _ _ => False) (w_X9_reversed_7 q0 x1 q2 x3 x4 x5 K) f 0 x4 S

def w_X9_lexed_3 (q0 : Nat) (x1 : Int32) (q2 : Nat) (x3 : Int32) (K : Int32 → St → Prop) (k3 : Int32 → St → Prop) (x4 : Int32) (S : St) : Prop :=
  (4 ≤ x4 → (K 0 S)) ∧ (¬ 4 ≤ x4 → (vp_in (x1 + x4) (alen q0) ∧ vp_in (x3 + x4) (alen q2) ∧ ((S q0 (q_rf (x1 + x4))) = (S q2 (q_rf (x3 + x4))) → (∀ x4_5 : Int32, x4_5 = x4 + 1 → k3 x4_5 S)) ∧ (¬ (S q0 (q_rf (x1 + x4))) = (S q2 (q_rf (x3 + x4))) → (((S q2 (q_rf (x3 + x4))) ≤ (S q0 (q_rf (x1 + x4))) → (K 1 S)) ∧ (¬ (S q2 (q_rf (x3 + x4))) ≤ (S q0 (q_rf (x1 + x4))) → (K (-1) S))))))
def w_X9_lexed (q0 : Nat) (x1 : Int32) (q2 : Nat) (x3 : Int32) (S : St) (K : Int32 → St → Prop) : Prop :=
  ∃ f, q_it (fun _ _ => False) (w_X9_lexed_3 q0 x1 q2 x3 K) f 0 S

def w_X9_stand_49 (q1 : Nat) (x2 : Int32) (q3 : Nat) (x4 : Int32) (K : Int32 → St → Prop) (k49 : Int32 → Int32 → St → Prop) (x5 : Int32) (x6 : Int32) (S : St) : Prop :=
  (4 ≤ x6 → ((x5 = 0 → (w_X9_lexed q1 x2 q3 x4 S (fun r_4 S_3 => K r_4 S_3))) ∧ (¬ x5 = 0 → ((0 ≤ x5 → (K 1 S)) ∧ (¬ 0 ≤ x5 → (K (-1) S)))))) ∧ (¬ 4 ≤ x6 → (vp_in (x2 + x6) (alen q1) ∧ vp_in (x4 + x6) (alen q3) ∧ ∀ x5_8 : Int32, x5_8 = x5 + ((S q1 (q_rf (x2 + x6))) - (S q3 (q_rf (x4 + x6)))) → ∀ x6_9 : Int32, x6_9 = x6 + 1 → k49 x5_8 x6_9 S))
def w_X9_stand (q1 : Nat) (x2 : Int32) (q3 : Nat) (x4 : Int32) (S : St) (K : Int32 → St → Prop) : Prop :=
  (¬ (S 224 2) = 0 → ((¬ (S 224 2) = 2 → ((¬ (S 224 2) = 1 → (w_X9_reversed q1 x2 q3 x4 0 2 S (fun r_5 S_4 => (r_5 = 0 → (w_X9_reversed q1 x2 q3 x4 2 4 S_4 (fun r_8 S_7 => K r_8 S_7))) ∧ (¬ r_5 = 0 → (K r_5 S_4))))) ∧ ((S 224 2) = 1 → (∃ f, q_it (fun _ _ _ => False) (w_X9_stand_49 q1 x2 q3 x4 K) f 0 0 S)))) ∧ ((S 224 2) = 2 → (w_X9_reversed q1 x2 q3 x4 0 4 S (fun r_11 S_10 => K r_11 S_10))))) ∧ ((S 224 2) = 0 → (w_X9_lexed q1 x2 q3 x4 S (fun r_13 S_12 => K r_13 S_12)))

def w_X9_divides_34 (q0 : Nat) (x1 : Int32) (q2 : Nat) (x3 : Int32) (K : Int32 → St → Prop) (k6 : Int32 → Int32 → St → Prop) (x5 : Int32) (z0 : Int32) (z1 : Int32) (S : St) : Prop :=
  ∀ x4_1 : Int32, x4_1 = z0 &&& z1 → ∀ x5_2 : Int32, x5_2 = x5 + 1 → k6 x4_1 x5_2 S
def w_X9_divides_6 (q0 : Nat) (x1 : Int32) (q2 : Nat) (x3 : Int32) (K : Int32 → St → Prop) (k6 : Int32 → Int32 → St → Prop) (x4 : Int32) (x5 : Int32) (S : St) : Prop :=
  (4 ≤ x5 → (narrow .boolean (.int x4) = .int x4 ∧ K x4 S)) ∧ (¬ 4 ≤ x5 → (vp_in (x1 + x5) (alen q0) ∧ vp_in (x3 + x5) (alen q2) ∧ ((S q2 (q_rf (x3 + x5))) < (S q0 (q_rf (x1 + x5))) → (w_X9_divides_34 q0 x1 q2 x3 K k6 x5 x4 0 S)) ∧ (¬ (S q2 (q_rf (x3 + x5))) < (S q0 (q_rf (x1 + x5))) → (w_X9_divides_34 q0 x1 q2 x3 K k6 x5 x4 1 S))))
def w_X9_divides (q0 : Nat) (x1 : Int32) (q2 : Nat) (x3 : Int32) (S : St) (K : Int32 → St → Prop) : Prop :=
  ∃ f, q_it (fun _ _ _ => False) (w_X9_divides_6 q0 x1 q2 x3 K) f 1 0 S

def w_X9_add_165 (x1 : Int32) (K : Unit → St → Prop) (x2 : Int32) (k165 : Int32 → St → Prop) (x4 : Int32) (S : St) : Prop :=
  (4 ≤ x4 → (∀ S_2 : St, S_2 = su S 224 20 ((S 224 20) + 1) → K () S_2)) ∧ (¬ 4 ≤ x4 → (vp_in x4 4 ∧ vp_in ((4 * x2) + x4) 6800 ∧ ∀ S_5 : St, S_5 = su S 231 (q_rf ((4 * x2) + x4)) (S 232 (q_rf x4)) → ∀ x4_6 : Int32, x4_6 = x4 + 1 → k165 x4_6 S_5))
def w_X9_add_111 (x1 : Int32) (K : Unit → St → Prop) (k86 : Int32 → St → Prop) (x2 : Int32) (x4 : Int32) (k111 : Int32 → St → Prop) (x5 : Int32) (S : St) : Prop :=
  (4 ≤ x5 → (∀ x4_2 : Int32, x4_2 = x4 + (-1) → k86 x4_2 S)) ∧ (¬ 4 ≤ x5 → (vp_in (((4 * x4) - 4) + x5) 6800 ∧ vp_in ((4 * x4) + x5) 6800 ∧ ∀ S_5 : St, S_5 = su S 231 (q_rf ((4 * x4) + x5)) (S 231 (q_rf (((4 * x4) - 4) + x5))) → ∀ x5_6 : Int32, x5_6 = x5 + 1 → k111 x5_6 S_5))
def w_X9_add_86 (x1 : Int32) (K : Unit → St → Prop) (x2 : Int32) (k86 : Int32 → St → Prop) (x4 : Int32) (S : St) : Prop :=
  (x4 ≤ x2 → (vp_in x2 1700 ∧ ∀ S_3 : St, S_3 = su S 230 (q_rf x2) x1 → ∃ f, q_it (fun _ _ => False) (w_X9_add_165 x1 K x2) f 0 S_3)) ∧ (¬ x4 ≤ x2 → (vp_in (x4 - 1) 1700 ∧ vp_in x4 1700 ∧ ∀ S_7 : St, S_7 = su S 230 (q_rf x4) (S 230 (q_rf (x4 - 1))) → ∃ f, q_it (fun _ _ => False) (w_X9_add_111 x1 K k86 x2 x4) f 0 S_7))
def w_X9_add_80 (x1 : Int32) (K : Unit → St → Prop) (x2 : Int32) (S : St) : Prop :=
  ∀ x4_1 : Int32, x4_1 = S 224 20 → ∃ f, q_it (fun _ _ => False) (w_X9_add_86 x1 K x2) f x4_1 S
def w_X9_add_48 (x1 : Int32) (K : Unit → St → Prop) (x2 : Int32) (x3 : Int32) (S : St) : Prop :=
  ((S 224 20) ≤ x2 → (w_X9_add_80 x1 K x2 S)) ∧ (¬ (S 224 20) ≤ x2 → ((¬ x3 = 0 → (w_X9_add_80 x1 K x2 S)) ∧ (x3 = 0 → (vp_in x2 1700 ∧ (¬ (S 224 0) = 0) ∧ ∀ S_5 : St, S_5 = su S 230 (q_rf x2) (((S 230 (q_rf x2)) + x1) - ((S 230 (q_rf x2)) + x1) / (S 224 0) * (S 224 0)) → K () S_5))))
def w_X9_add_43 (x1 : Int32) (K : Unit → St → Prop) (k4 : Int32 → Int32 → St → Prop) (x3 : Int32) (z0 : Int32) (z1 : Int32) (S : St) : Prop :=
  ∀ x2_1 : Int32, x2_1 = z0 + z1 → k4 x2_1 x3 S
def w_X9_add_4 (x1 : Int32) (K : Unit → St → Prop) (k4 : Int32 → Int32 → St → Prop) (x2 : Int32) (x3 : Int32) (S : St) : Prop :=
  ((S 224 20) ≤ x2 → (w_X9_add_48 x1 K x2 x3 S)) ∧ (¬ (S 224 20) ≤ x2 → ((x3 ≤ 0 → (w_X9_add_48 x1 K x2 x3 S)) ∧ (¬ x3 ≤ 0 → (w_X9_stand 231 (4 * x2) 232 0 S (fun r_4 S_3 => (r_4 ≤ 0 → (w_X9_add_43 x1 K k4 r_4 x2 0 S_3)) ∧ (¬ r_4 ≤ 0 → (w_X9_add_43 x1 K k4 r_4 x2 1 S_3)))))))
def w_X9_add (x1 : Int32) (S : St) (K : Unit → St → Prop) : Prop :=
  ∃ f, q_it (fun _ _ _ => False) (w_X9_add_4 x1 K) f 0 1 S

def w_X9_addTimes_156 (x1 : Int32) (x2 : Int32) (K : Int32 → St → Prop) (S : St) : Prop :=
  K 1 S
def w_X9_addTimes_84 (x1 : Int32) (x2 : Int32) (K : Int32 → St → Prop) (k67 : Int32 → St → Prop) (x3 : Int32) (k84 : Int32 → St → Prop) (x4 : Int32) (S : St) : Prop :=
  (4 ≤ x4 → (vp_in ((40 * x1) + x3) 2440 ∧ (¬ (S 224 0) = 0) ∧ w_X9_add (((S 226 (q_rf ((40 * x1) + x3))) * x2) - ((S 226 (q_rf ((40 * x1) + x3))) * x2) / (S 224 0) * (S 224 0)) S (fun r_5 S_4 => ∀ x3_6 : Int32, x3_6 = x3 + 1 → k67 x3_6 S_4))) ∧ (¬ 4 ≤ x4 → (vp_in (((160 * x1) + (4 * x3)) + x4) 9760 ∧ vp_in x4 4 ∧ ∀ S_9 : St, S_9 = su S 232 (q_rf x4) ((S 227 (q_rf (((160 * x1) + (4 * x3)) + x4))) + (S 233 (q_rf x4))) → ∀ x4_10 : Int32, x4_10 = x4 + 1 → k84 x4_10 S_9))
def w_X9_addTimes_67 (x1 : Int32) (x2 : Int32) (K : Int32 → St → Prop) (k67 : Int32 → St → Prop) (x3 : Int32) (S : St) : Prop :=
  vp_in x1 61 ∧ ((S 225 (q_rf x1)) ≤ x3 → (w_X9_addTimes_156 x1 x2 K S)) ∧ (¬ (S 225 (q_rf x1)) ≤ x3 → ((x2 = 0 → (w_X9_addTimes_156 x1 x2 K S)) ∧ (¬ x2 = 0 → (∃ f, q_it (fun _ _ => False) (w_X9_addTimes_84 x1 x2 K k67 x3) f 0 S))))
def w_X9_addTimes_15 (x1 : Int32) (x2 : Int32) (K : Int32 → St → Prop) (k2 : Int32 → St → Prop) (x3 : Int32) (k15 : Int32 → St → Prop) (x4 : Int32) (S : St) : Prop :=
  (4 ≤ x4 → (∀ x3_2 : Int32, x3_2 = x3 + 1 → k2 x3_2 S)) ∧ (¬ 4 ≤ x4 → (vp_in (((160 * x1) + (4 * x3)) + x4) 9760 ∧ vp_in x4 4 ∧ (((S 227 (q_rf (((160 * x1) + (4 * x3)) + x4))) + (S 233 (q_rf x4))) ≤ 30 → (∀ x4_6 : Int32, x4_6 = x4 + 1 → k15 x4_6 S)) ∧ (¬ ((S 227 (q_rf (((160 * x1) + (4 * x3)) + x4))) + (S 233 (q_rf x4))) ≤ 30 → (K 0 S))))
def w_X9_addTimes_2 (x1 : Int32) (x2 : Int32) (K : Int32 → St → Prop) (k2 : Int32 → St → Prop) (x3 : Int32) (S : St) : Prop :=
  vp_in x1 61 ∧ ((S 225 (q_rf x1)) ≤ x3 → (∃ f, q_it (fun _ _ => False) (w_X9_addTimes_67 x1 x2 K) f 0 S)) ∧ (¬ (S 225 (q_rf x1)) ≤ x3 → (∃ f, q_it (fun _ _ => False) (w_X9_addTimes_15 x1 x2 K k2 x3) f 0 S))
def w_X9_addTimes (x1 : Int32) (x2 : Int32) (S : St) (K : Int32 → St → Prop) : Prop :=
  ∃ f, q_it (fun _ _ => False) (w_X9_addTimes_2 x1 x2 K) f 0 S

def w_X9_byOne_2 (K : Unit → St → Prop) (k2 : Int32 → St → Prop) (x1 : Int32) (S : St) : Prop :=
  (4 ≤ x1 → (K () S)) ∧ (¬ 4 ≤ x1 → (vp_in x1 4 ∧ ∀ S_3 : St, S_3 = su S 233 (q_rf x1) 0 → ∀ x1_4 : Int32, x1_4 = x1 + 1 → k2 x1_4 S_3))
def w_X9_byOne (S : St) (K : Unit → St → Prop) : Prop :=
  ∃ f, q_it (fun _ _ => False) (w_X9_byOne_2 K) f 0 S

def w_X9_clean_69 (K : Unit → St → Prop) (k4 : Int32 → Int32 → St → Prop) (x1 : Int32) (x2 : Int32) (S : St) : Prop :=
  ∀ x2_1 : Int32, x2_1 = x2 + 1 → k4 x1 x2_1 S
def w_X9_clean_35 (K : Unit → St → Prop) (k4 : Int32 → Int32 → St → Prop) (x1 : Int32) (x2 : Int32) (k35 : Int32 → St → Prop) (x3 : Int32) (S : St) : Prop :=
  (4 ≤ x3 → (∀ x1_2 : Int32, x1_2 = x1 + 1 → w_X9_clean_69 K k4 x1_2 x2 S)) ∧ (¬ 4 ≤ x3 → (vp_in ((4 * x2) + x3) 6800 ∧ vp_in ((4 * x1) + x3) 6800 ∧ ∀ S_5 : St, S_5 = su S 231 (q_rf ((4 * x1) + x3)) (S 231 (q_rf ((4 * x2) + x3))) → ∀ x3_6 : Int32, x3_6 = x3 + 1 → k35 x3_6 S_5))
def w_X9_clean_4 (K : Unit → St → Prop) (k4 : Int32 → Int32 → St → Prop) (x1 : Int32) (x2 : Int32) (S : St) : Prop :=
  ((S 224 20) ≤ x2 → (∀ S_2 : St, S_2 = su S 224 20 x1 → K () S_2)) ∧ (¬ (S 224 20) ≤ x2 → (vp_in x2 1700 ∧ ((S 230 (q_rf x2)) = 0 → (w_X9_clean_69 K k4 x1 x2 S)) ∧ (¬ (S 230 (q_rf x2)) = 0 → (vp_in x1 1700 ∧ ∀ S_6 : St, S_6 = su S 230 (q_rf x1) (S 230 (q_rf x2)) → ∃ f, q_it (fun _ _ => False) (w_X9_clean_35 K k4 x1 x2) f 0 S_6))))
def w_X9_clean (S : St) (K : Unit → St → Prop) : Prop :=
  ∃ f, q_it (fun _ _ _ => False) (w_X9_clean_4 K) f 0 0 S

def w_X9_lay_47 (x1 : Int32) (x2 : Int32) (K : Unit → St → Prop) (k12 : Int32 → St → Prop) (x3 : Int32) (k47 : Int32 → St → Prop) (x4 : Int32) (S : St) : Prop :=
  (4 ≤ x4 → (∀ x3_2 : Int32, x3_2 = x3 + 1 → k12 x3_2 S)) ∧ (¬ 4 ≤ x4 → (vp_in ((4 * x3) + x4) 6800 ∧ vp_in (((160 * x1) + (4 * x3)) + x4) 9760 ∧ ∀ S_5 : St, S_5 = su S 227 (q_rf (((160 * x1) + (4 * x3)) + x4)) (S 231 (q_rf ((4 * x3) + x4))) → ∀ x4_6 : Int32, x4_6 = x4 + 1 → k47 x4_6 S_5))
def w_X9_lay_12 (x1 : Int32) (x2 : Int32) (K : Unit → St → Prop) (k12 : Int32 → St → Prop) (x3 : Int32) (S : St) : Prop :=
  ((S 224 20) ≤ x3 → (K () S)) ∧ (¬ (S 224 20) ≤ x3 → (vp_in x3 1700 ∧ (¬ (S 224 0) = 0) ∧ vp_in ((40 * x1) + x3) 2440 ∧ ∀ S_5 : St, S_5 = su S 226 (q_rf ((40 * x1) + x3)) (((S 230 (q_rf x3)) * x2) - ((S 230 (q_rf x3)) * x2) / (S 224 0) * (S 224 0)) → ∃ f, q_it (fun _ _ => False) (w_X9_lay_47 x1 x2 K k12 x3) f 0 S_5))
def w_X9_lay (x1 : Int32) (x2 : Int32) (S : St) (K : Unit → St → Prop) : Prop :=
  vp_in x1 61 ∧ ∀ S_2 : St, S_2 = su S 225 (q_rf x1) (S 224 20) → ∃ f, q_it (fun _ _ => False) (w_X9_lay_12 x1 x2 K) f 0 S_2

def w_X9_fetch_39 (x1 : Int32) (K : Unit → St → Prop) (k12 : Int32 → St → Prop) (x2 : Int32) (k39 : Int32 → St → Prop) (x3 : Int32) (S : St) : Prop :=
  (4 ≤ x3 → (∀ x2_2 : Int32, x2_2 = x2 + 1 → k12 x2_2 S)) ∧ (¬ 4 ≤ x3 → (vp_in (((160 * x1) + (4 * x2)) + x3) 9760 ∧ vp_in ((4 * x2) + x3) 6800 ∧ ∀ S_5 : St, S_5 = su S 231 (q_rf ((4 * x2) + x3)) (S 227 (q_rf (((160 * x1) + (4 * x2)) + x3))) → ∀ x3_6 : Int32, x3_6 = x3 + 1 → k39 x3_6 S_5))
def w_X9_fetch_12 (x1 : Int32) (K : Unit → St → Prop) (k12 : Int32 → St → Prop) (x2 : Int32) (S : St) : Prop :=
  ((S 224 20) ≤ x2 → (K () S)) ∧ (¬ (S 224 20) ≤ x2 → (vp_in ((40 * x1) + x2) 2440 ∧ vp_in x2 1700 ∧ ∀ S_4 : St, S_4 = su S 230 (q_rf x2) (S 226 (q_rf ((40 * x1) + x2))) → ∃ f, q_it (fun _ _ => False) (w_X9_fetch_39 x1 K k12 x2) f 0 S_4))
def w_X9_fetch (x1 : Int32) (S : St) (K : Unit → St → Prop) : Prop :=
  vp_in x1 61 ∧ ∀ S_2 : St, S_2 = su S 224 20 (S 225 (q_rf x1)) → ∃ f, q_it (fun _ _ => False) (w_X9_fetch_12 x1 K) f 0 S_2

def w_X9_copy (x1 : Int32) (x2 : Int32) (S : St) (K : Unit → St → Prop) : Prop :=
  w_X9_fetch x1 S (fun r_2 S_1 => w_X9_lay x2 1 S_1 (fun r_4 S_3 => K () S_3))

def w_X9_placeOf_35 (x1 : Int32) (K : Int32 → St → Prop) (S : St) : Prop :=
  K (-2) S
def w_X9_placeOf (x1 : Int32) (S : St) (K : Int32 → St → Prop) : Prop :=
  (¬ x1 = (-1) → ((x1 < 0 → ((x1 < ((-1) - (S 224 6)) → (K (-2) S)) ∧ (¬ x1 < ((-1) - (S 224 6)) → (K (23 - x1) S)))) ∧ (¬ x1 < 0 → ((24 ≤ x1 → (w_X9_placeOf_35 x1 K S)) ∧ (¬ 24 ≤ x1 → (vp_in (1 + x1) 61 ∧ ((S 225 (q_rf (1 + x1))) = (-1) → (w_X9_placeOf_35 x1 K S)) ∧ (¬ (S 225 (q_rf (1 + x1))) = (-1) → (K (1 + x1) S)))))))) ∧ (x1 = (-1) → (K 0 S))

def w_X9_free_24 (K : Int32 → St → Prop) (x1 : Int32) (S : St) : Prop :=
  K x1 S
def w_X9_free_2 (K : Int32 → St → Prop) (k2 : Int32 → St → Prop) (x1 : Int32) (S : St) : Prop :=
  (25 ≤ x1 → (w_X9_free_24 K x1 S)) ∧ (¬ 25 ≤ x1 → (vp_in x1 61 ∧ ((S 225 (q_rf x1)) = (-1) → (w_X9_free_24 K x1 S)) ∧ (¬ (S 225 (q_rf x1)) = (-1) → (∀ x1_4 : Int32, x1_4 = x1 + 1 → k2 x1_4 S))))
def w_X9_free (S : St) (K : Int32 → St → Prop) : Prop :=
  ∃ f, q_it (fun _ _ => False) (w_X9_free_2 K) f 1 S

def w_X9_shelve (x1 : Int32) (S : St) (K : Int32 → St → Prop) : Prop :=
  w_X9_clean S (fun r_2 S_1 => ((S_1 224 20) ≤ 40 → (w_X9_lay x1 1 S_1 (fun r_5 S_4 => K (x1 - 1) S_4))) ∧ (¬ (S_1 224 20) ≤ 40 → (K (-6) S_1)))

def w_X9_order_72 (x1 : Int32) (K : Int32 → St → Prop) (k38 : Int32 → St → Prop) (x2 : Int32) (x3 : Int32) (S : St) : Prop :=
  ∀ x3_1 : Int32, x3_1 = x3 + 1 → k38 x3_1 S
def w_X9_order_38 (x1 : Int32) (K : Int32 → St → Prop) (x2 : Int32) (k38 : Int32 → St → Prop) (x3 : Int32) (S : St) : Prop :=
  (25 ≤ x3 → (K x2 S)) ∧ (¬ 25 ≤ x3 → (vp_in x3 61 ∧ ((S 225 (q_rf x3)) ≤ 0 → (w_X9_order_72 x1 K k38 x2 x3 S)) ∧ (¬ (S 225 (q_rf x3)) ≤ 0 → (∀ S_4 : St, S_4 = su S 224 20 0 → w_X9_addTimes x3 1 S_4 (fun r_6 S_5 => w_X9_lay x3 1 S_5 (fun r_8 S_7 => w_X9_order_72 x1 K k38 x2 x3 S_7))))))
def w_X9_order (x1 : Int32) (S : St) (K : Int32 → St → Prop) : Prop :=
  w_X9_in x1 0 3 S (fun r_2 S_1 => (¬ r_2 = 0 → (((S_1 224 6) ≤ 0 → (∀ x2_5 : Int32, x2_5 = S_1 224 2 → ∀ S_6 : St, S_6 = su S_1 224 2 x1 → w_X9_byOne S_6 (fun r_8 S_7 => ∃ f, q_it (fun _ _ => False) (w_X9_order_38 x1 K x2_5) f 0 S_7))) ∧ (¬ (S_1 224 6) ≤ 0 → (K (-3) S_1)))) ∧ (r_2 = 0 → (K (-2) S_1)))

def w_X9_term_83 (x1 : Int32) (x2 : Int32) (x3 : Int32) (x4 : Int32) (x5 : Int32) (K : Int32 → St → Prop) (z0 : Int32) (S : St) : Prop :=
  (¬ z0 = 0 → (w_X9_fetch 0 S (fun r_3 S_2 => ∀ S_4 : St, S_4 = su S_2 232 (q_rf 0) x2 → ∀ S_5 : St, S_5 = su S_4 232 (q_rf 1) x3 → ∀ S_6 : St, S_6 = su S_5 232 (q_rf 2) x4 → ∀ S_7 : St, S_7 = su S_6 232 (q_rf 3) x5 → w_X9_rest (x1.toInt64) S_7 (fun r_9 S_8 => w_X9_add r_9 S_8 (fun r_11 S_10 => w_X9_clean S_10 (fun r_13 S_12 => ((S_12 224 20) ≤ 40 → (w_X9_lay 0 1 S_12 (fun r_16 S_15 => K (S_15 224 20) S_15))) ∧ (¬ (S_12 224 20) ≤ 40 → (K (-6) S_12)))))))) ∧ (z0 = 0 → (K (-2) S))
def w_X9_term_82 (x1 : Int32) (x2 : Int32) (x3 : Int32) (x4 : Int32) (x5 : Int32) (K : Int32 → St → Prop) (S : St) : Prop :=
  w_X9_term_83 x1 x2 x3 x4 x5 K 0 S
def w_X9_term_72 (x1 : Int32) (x2 : Int32) (x3 : Int32) (x4 : Int32) (x5 : Int32) (K : Int32 → St → Prop) (z0 : Int32) (z1 : Int32) (z2 : Int32) (S : St) : Prop :=
  w_X9_in z0 z1 z2 S (fun r_2 S_1 => (r_2 = 0 → (w_X9_term_82 x1 x2 x3 x4 x5 K S_1)) ∧ (¬ r_2 = 0 → (w_X9_term_83 x1 x2 x3 x4 x5 K 1 S_1)))
def w_X9_term_49 (x1 : Int32) (x2 : Int32) (x3 : Int32) (x4 : Int32) (x5 : Int32) (K : Int32 → St → Prop) (z0 : Int32) (z1 : Int32) (z2 : Int32) (S : St) : Prop :=
  w_X9_in z0 z1 z2 S (fun r_2 S_1 => (r_2 = 0 → (w_X9_term_82 x1 x2 x3 x4 x5 K S_1)) ∧ (¬ r_2 = 0 → ((4 ≤ (S_1 224 1) → (w_X9_term_72 x1 x2 x3 x4 x5 K x5 0 30 S_1)) ∧ (¬ 4 ≤ (S_1 224 1) → (w_X9_term_72 x1 x2 x3 x4 x5 K x5 0 0 S_1)))))
def w_X9_term_26 (x1 : Int32) (x2 : Int32) (x3 : Int32) (x4 : Int32) (x5 : Int32) (K : Int32 → St → Prop) (z0 : Int32) (z1 : Int32) (z2 : Int32) (S : St) : Prop :=
  w_X9_in z0 z1 z2 S (fun r_2 S_1 => (r_2 = 0 → (w_X9_term_82 x1 x2 x3 x4 x5 K S_1)) ∧ (¬ r_2 = 0 → ((3 ≤ (S_1 224 1) → (w_X9_term_49 x1 x2 x3 x4 x5 K x4 0 30 S_1)) ∧ (¬ 3 ≤ (S_1 224 1) → (w_X9_term_49 x1 x2 x3 x4 x5 K x4 0 0 S_1)))))
def w_X9_term (x1 : Int32) (x2 : Int32) (x3 : Int32) (x4 : Int32) (x5 : Int32) (S : St) (K : Int32 → St → Prop) : Prop :=
  w_X9_in x2 0 30 S (fun r_2 S_1 => (r_2 = 0 → (w_X9_term_82 x1 x2 x3 x4 x5 K S_1)) ∧ (¬ r_2 = 0 → ((2 ≤ (S_1 224 1) → (w_X9_term_26 x1 x2 x3 x4 x5 K x3 0 30 S_1)) ∧ (¬ 2 ≤ (S_1 224 1) → (w_X9_term_26 x1 x2 x3 x4 x5 K x3 0 0 S_1)))))

def w_X9_keep (S : St) (K : Int32 → St → Prop) : Prop :=
  w_X9_free S (fun r_2 S_1 => (¬ r_2 = 25 → (w_X9_copy 0 r_2 S_1 (fun r_5 S_4 => ∀ S_6 : St, S_6 = su S_4 225 (q_rf 0) 0 → K (r_2 - 1) S_6))) ∧ (r_2 = 25 → (K (-4) S_1)))

def w_X9_drop_22 (x1 : Int32) (K : Int32 → St → Prop) (S : St) : Prop :=
  K (-2) S
def w_X9_drop (x1 : Int32) (S : St) (K : Int32 → St → Prop) : Prop :=
  w_X9_in x1 0 23 S (fun r_2 S_1 => (r_2 = 0 → (w_X9_drop_22 x1 K S_1)) ∧ (¬ r_2 = 0 → (vp_in (1 + x1) 61 ∧ (¬ (S_1 225 (q_rf (1 + x1))) = (-1) → (∀ x2_6 : Int32, x2_6 = S_1 225 (q_rf (1 + x1)) → ∀ S_7 : St, S_7 = su S_1 225 (q_rf (1 + x1)) (-1) → K x2_6 S_7)) ∧ ((S_1 225 (q_rf (1 + x1))) = (-1) → (w_X9_drop_22 x1 K S_1)))))

def w_X9_terms (x1 : Int32) (S : St) (K : Int32 → St → Prop) : Prop :=
  w_X9_placeOf x1 S (fun r_2 S_1 => (0 ≤ r_2 → (vp_in r_2 61 ∧ K (S_1 225 (q_rf r_2)) S_1)) ∧ (¬ 0 ≤ r_2 → (K (-2) S_1)))

def w_X9_number_26 (x1 : Int32) (x2 : Int32) (K : Int32 → St → Prop) (S : St) : Prop :=
  K (-2) S
def w_X9_number (x1 : Int32) (x2 : Int32) (S : St) (K : Int32 → St → Prop) : Prop :=
  w_X9_placeOf x1 S (fun r_2 S_1 => (r_2 < 0 → (w_X9_number_26 x1 x2 K S_1)) ∧ (¬ r_2 < 0 → (vp_in r_2 61 ∧ w_X9_in x2 0 ((S_1 225 (q_rf r_2)) - 1) S_1 (fun r_6 S_5 => (¬ r_6 = 0 → (vp_in ((40 * r_2) + x2) 2440 ∧ K (S_5 226 (q_rf ((40 * r_2) + x2))) S_5)) ∧ (r_6 = 0 → (w_X9_number_26 x1 x2 K S_5))))))

def w_X9_exponent_43 (x1 : Int32) (x2 : Int32) (x3 : Int32) (K : Int32 → St → Prop) (S : St) : Prop :=
  K (-2) S
def w_X9_exponent (x1 : Int32) (x2 : Int32) (x3 : Int32) (S : St) (K : Int32 → St → Prop) : Prop :=
  w_X9_placeOf x1 S (fun r_2 S_1 => (r_2 < 0 → (w_X9_exponent_43 x1 x2 x3 K S_1)) ∧ (¬ r_2 < 0 → (vp_in r_2 61 ∧ w_X9_in x2 0 ((S_1 225 (q_rf r_2)) - 1) S_1 (fun r_6 S_5 => (r_6 = 0 → (w_X9_exponent_43 x1 x2 x3 K S_5)) ∧ (¬ r_6 = 0 → (w_X9_in x3 0 ((S_5 224 1) - 1) S_5 (fun r_9 S_8 => (¬ r_9 = 0 → (vp_in (((160 * r_2) + (4 * x2)) + x3) 9760 ∧ K (S_8 227 (q_rf (((160 * r_2) + (4 * x2)) + x3))) S_8)) ∧ (r_9 = 0 → (w_X9_exponent_43 x1 x2 x3 K S_8)))))))))

def w_X9_sum_24 (x1 : Int32) (x2 : Int32) (x3 : Int32) (K : Int32 → St → Prop) (S : St) : Prop :=
  K (-2) S
def w_X9_sum (x1 : Int32) (x2 : Int32) (x3 : Int32) (S : St) (K : Int32 → St → Prop) : Prop :=
  w_X9_placeOf x1 S (fun r_2 S_1 => w_X9_placeOf x2 S_1 (fun r_4 S_3 => (r_2 < 0 → (w_X9_sum_24 x1 x2 x3 K S_3)) ∧ (¬ r_2 < 0 → ((0 ≤ r_4 → (w_X9_free S_3 (fun r_8 S_7 => (¬ r_8 = 25 → (w_X9_fetch r_2 S_7 (fun r_11 S_10 => w_X9_byOne S_10 (fun r_13 S_12 => w_X9_rest (x3.toInt64) S_12 (fun r_15 S_14 => w_X9_addTimes r_4 r_15 S_14 (fun r_17 S_16 => w_X9_shelve r_8 S_16 (fun r_19 S_18 => K r_19 S_18))))))) ∧ (r_8 = 25 → (K (-4) S_7))))) ∧ (¬ 0 ≤ r_4 → (w_X9_sum_24 x1 x2 x3 K S_3))))))

def w_X9_product_22 (x1 : Int32) (x2 : Int32) (K : Int32 → St → Prop) (S : St) : Prop :=
  K (-2) S
def w_X9_product_63 (x1 : Int32) (x2 : Int32) (K : Int32 → St → Prop) (k49 : Int32 → St → Prop) (x3 : Int32) (x4 : Int32) (x5 : Int32) (x6 : Int32) (k63 : Int32 → St → Prop) (x7 : Int32) (S : St) : Prop :=
  (4 ≤ x7 → (vp_in ((40 * x3) + x6) 2440 ∧ w_X9_addTimes x4 (S 226 (q_rf ((40 * x3) + x6))) S (fun r_4 S_3 => (¬ r_4 = 0 → (∀ x6_6 : Int32, x6_6 = x6 + 1 → k49 x6_6 S_3)) ∧ (r_4 = 0 → (K (-5) S_3))))) ∧ (¬ 4 ≤ x7 → (vp_in (((160 * x3) + (4 * x6)) + x7) 9760 ∧ vp_in x7 4 ∧ ∀ S_9 : St, S_9 = su S 233 (q_rf x7) (S 227 (q_rf (((160 * x3) + (4 * x6)) + x7))) → ∀ x7_10 : Int32, x7_10 = x7 + 1 → k63 x7_10 S_9))
def w_X9_product_49 (x1 : Int32) (x2 : Int32) (K : Int32 → St → Prop) (x3 : Int32) (x4 : Int32) (x5 : Int32) (k49 : Int32 → St → Prop) (x6 : Int32) (S : St) : Prop :=
  vp_in x3 61 ∧ ((S 225 (q_rf x3)) ≤ x6 → (w_X9_shelve x5 S (fun r_4 S_3 => K r_4 S_3))) ∧ (¬ (S 225 (q_rf x3)) ≤ x6 → (∃ f, q_it (fun _ _ => False) (w_X9_product_63 x1 x2 K k49 x3 x4 x5 x6) f 0 S))
def w_X9_product (x1 : Int32) (x2 : Int32) (S : St) (K : Int32 → St → Prop) : Prop :=
  w_X9_placeOf x1 S (fun r_2 S_1 => w_X9_placeOf x2 S_1 (fun r_4 S_3 => (r_2 < 0 → (w_X9_product_22 x1 x2 K S_3)) ∧ (¬ r_2 < 0 → ((0 ≤ r_4 → (w_X9_free S_3 (fun r_8 S_7 => (¬ r_8 = 25 → (∀ S_10 : St, S_10 = su S_7 224 20 0 → ∃ f, q_it (fun _ _ => False) (w_X9_product_49 x1 x2 K r_2 r_4 r_8) f 0 S_10)) ∧ (r_8 = 25 → (K (-4) S_7))))) ∧ (¬ 0 ≤ r_4 → (w_X9_product_22 x1 x2 K S_3))))))

def w_X9_derived_24 (x1 : Int32) (x2 : Int32) (K : Int32 → St → Prop) (S : St) : Prop :=
  K (-2) S
def w_X9_derived_166 (x1 : Int32) (x2 : Int32) (K : Int32 → St → Prop) (k51 : Int32 → St → Prop) (x3 : Int32) (x4 : Int32) (x5 : Int32) (S : St) : Prop :=
  ∀ x5_1 : Int32, x5_1 = x5 + 1 → k51 x5_1 S
def w_X9_derived_152 (x1 : Int32) (x2 : Int32) (K : Int32 → St → Prop) (k51 : Int32 → St → Prop) (k111 : Int32 → St → Prop) (x3 : Int32) (x4 : Int32) (x5 : Int32) (x7 : Int32) (x8 : Int32) (z1 : Int32) (z2 : Int32) (z3 : Int32) (S : St) : Prop :=
  vp_in z1 4 ∧ ∀ S_2 : St, S_2 = su S 232 (q_rf z1) (z2 - z3) → ∀ x8_3 : Int32, x8_3 = x8 + 1 → k111 x8_3 S_2
def w_X9_derived_111 (x1 : Int32) (x2 : Int32) (K : Int32 → St → Prop) (k51 : Int32 → St → Prop) (x3 : Int32) (x4 : Int32) (x5 : Int32) (x7 : Int32) (k111 : Int32 → St → Prop) (x8 : Int32) (S : St) : Prop :=
  (4 ≤ x8 → (w_X9_add x7 S (fun r_3 S_2 => w_X9_derived_166 x1 x2 K k51 x3 x4 x5 S_2))) ∧ (¬ 4 ≤ x8 → (vp_in (((160 * x3) + (4 * x5)) + x8) 9760 ∧ (¬ x8 = x2 → (w_X9_derived_152 x1 x2 K k51 k111 x3 x4 x5 x7 x8 x8 (S 227 (q_rf (((160 * x3) + (4 * x5)) + x8))) 0 S)) ∧ (x8 = x2 → (w_X9_derived_152 x1 x2 K k51 k111 x3 x4 x5 x7 x8 x8 (S 227 (q_rf (((160 * x3) + (4 * x5)) + x8))) 1 S))))
def w_X9_derived_51 (x1 : Int32) (x2 : Int32) (K : Int32 → St → Prop) (x3 : Int32) (x4 : Int32) (k51 : Int32 → St → Prop) (x5 : Int32) (S : St) : Prop :=
  vp_in x3 61 ∧ ((S 225 (q_rf x3)) ≤ x5 → (w_X9_shelve x4 S (fun r_4 S_3 => K r_4 S_3))) ∧ (¬ (S 225 (q_rf x3)) ≤ x5 → (vp_in (((160 * x3) + (4 * x5)) + x2) 9760 ∧ ∀ x6_6 : Int32, x6_6 = S 227 (q_rf (((160 * x3) + (4 * x5)) + x2)) → vp_in ((40 * x3) + x5) 2440 ∧ (¬ (S 224 0) = 0) ∧ ∀ x7_9 : Int32, x7_9 = ((S 226 (q_rf ((40 * x3) + x5))) * x6_6) - ((S 226 (q_rf ((40 * x3) + x5))) * x6_6) / (S 224 0) * (S 224 0) → (x7_9 = 0 → (w_X9_derived_166 x1 x2 K k51 x3 x4 x5 S)) ∧ (¬ x7_9 = 0 → (∃ f, q_it (fun _ _ => False) (w_X9_derived_111 x1 x2 K k51 x3 x4 x5 x7_9) f 0 S))))
def w_X9_derived (x1 : Int32) (x2 : Int32) (S : St) (K : Int32 → St → Prop) : Prop :=
  w_X9_placeOf x1 S (fun r_2 S_1 => (r_2 < 0 → (w_X9_derived_24 x1 x2 K S_1)) ∧ (¬ r_2 < 0 → (w_X9_in x2 0 ((S_1 224 1) - 1) S_1 (fun r_5 S_4 => (¬ r_5 = 0 → (w_X9_free S_4 (fun r_8 S_7 => (¬ r_8 = 25 → (∀ S_10 : St, S_10 = su S_7 224 20 0 → ∃ f, q_it (fun _ _ => False) (w_X9_derived_51 x1 x2 K r_2 r_8) f 0 S_10)) ∧ (r_8 = 25 → (K (-4) S_7))))) ∧ (r_5 = 0 → (w_X9_derived_24 x1 x2 K S_4))))))

def w_X9_leastOf_54 (x1 : Int32) (x2 : Int32) (K : Unit → St → Prop) (k2 : Int32 → St → Prop) (x3 : Int32) (z1 : Int32) (z2 : Int32) (S : St) : Prop :=
  vp_in z1 4 ∧ ∀ S_2 : St, S_2 = su S 234 (q_rf z1) z2 → ∀ x3_3 : Int32, x3_3 = x3 + 1 → k2 x3_3 S_2
def w_X9_leastOf_2 (x1 : Int32) (x2 : Int32) (K : Unit → St → Prop) (k2 : Int32 → St → Prop) (x3 : Int32) (S : St) : Prop :=
  (4 ≤ x3 → (K () S)) ∧ (¬ 4 ≤ x3 → (vp_in ((160 * x1) + x3) 9760 ∧ ∀ x4_3 : Int32, x4_3 = S 227 (q_rf ((160 * x1) + x3)) → vp_in ((160 * x2) + x3) 9760 ∧ ∀ x5_5 : Int32, x5_5 = S 227 (q_rf ((160 * x2) + x3)) → (x4_3 ≤ x5_5 → (w_X9_leastOf_54 x1 x2 K k2 x3 x3 x5_5 S)) ∧ (¬ x4_3 ≤ x5_5 → (w_X9_leastOf_54 x1 x2 K k2 x3 x3 x4_3 S))))
def w_X9_leastOf (x1 : Int32) (x2 : Int32) (S : St) (K : Unit → St → Prop) : Prop :=
  ∃ f, q_it (fun _ _ => False) (w_X9_leastOf_2 x1 x2 K) f 0 S

def w_X9_makeS_113 (x1 : Int32) (x2 : Int32) (K : Int32 → St → Prop) (k13 : Int32 → St → Prop) (x3 : Int32) (z1 : Int32) (z2 : Int32) (S : St) : Prop :=
  w_X9_addTimes z1 z2 S (fun r_2 S_1 => (¬ r_2 = 0 → (∀ x3_4 : Int32, x3_4 = x3 + 1 → k13 x3_4 S_1)) ∧ (r_2 = 0 → (K (-5) S_1)))
def w_X9_makeS_32 (x1 : Int32) (x2 : Int32) (K : Int32 → St → Prop) (k13 : Int32 → St → Prop) (x3 : Int32) (x4 : Int32) (k32 : Int32 → St → Prop) (x5 : Int32) (S : St) : Prop :=
  (4 ≤ x5 → (vp_in (40 * x4) 2440 ∧ w_X9_inverse (S 226 (q_rf (40 * x4))) S (fun r_4 S_3 => (¬ x3 = 0 → ((¬ (S_3 224 0) = 0) ∧ w_X9_makeS_113 x1 x2 K k13 x3 x4 (((S_3 224 0) - r_4) - ((S_3 224 0) - r_4) / (S_3 224 0) * (S_3 224 0)) S_3)) ∧ (x3 = 0 → (w_X9_makeS_113 x1 x2 K k13 x3 x4 r_4 S_3))))) ∧ (¬ 4 ≤ x5 → (vp_in x5 4 ∧ vp_in ((160 * x4) + x5) 9760 ∧ ∀ S_9 : St, S_9 = su S 233 (q_rf x5) ((S 234 (q_rf x5)) - (S 227 (q_rf ((160 * x4) + x5)))) → ∀ x5_10 : Int32, x5_10 = x5 + 1 → k32 x5_10 S_9))
def w_X9_makeS_27 (x1 : Int32) (x2 : Int32) (K : Int32 → St → Prop) (k13 : Int32 → St → Prop) (x3 : Int32) (z0 : Int32) (S : St) : Prop :=
  ∃ f, q_it (fun _ _ => False) (w_X9_makeS_32 x1 x2 K k13 x3 z0) f 0 S
def w_X9_makeS_13 (x1 : Int32) (x2 : Int32) (K : Int32 → St → Prop) (k13 : Int32 → St → Prop) (x3 : Int32) (S : St) : Prop :=
  (2 ≤ x3 → (w_X9_clean S (fun r_3 S_2 => ((S_2 224 20) ≤ 40 → (K 0 S_2)) ∧ (¬ (S_2 224 20) ≤ 40 → (K (-6) S_2))))) ∧ (¬ 2 ≤ x3 → ((¬ x3 = 0 → (w_X9_makeS_27 x1 x2 K k13 x3 x2 S)) ∧ (x3 = 0 → (w_X9_makeS_27 x1 x2 K k13 x3 x1 S))))
def w_X9_makeS (x1 : Int32) (x2 : Int32) (S : St) (K : Int32 → St → Prop) : Prop :=
  w_X9_leastOf x1 x2 S (fun r_2 S_1 => ∀ S_3 : St, S_3 = su S_1 224 20 0 → ∃ f, q_it (fun _ _ => False) (w_X9_makeS_13 x1 x2 K) f 0 S_3)

def w_X9_spair_41 (x1 : Int32) (x2 : Int32) (K : Int32 → St → Prop) (S : St) : Prop :=
  K (-2) S
def w_X9_spair (x1 : Int32) (x2 : Int32) (S : St) (K : Int32 → St → Prop) : Prop :=
  w_X9_placeOf x1 S (fun r_2 S_1 => w_X9_placeOf x2 S_1 (fun r_4 S_3 => (r_2 < 0 → (w_X9_spair_41 x1 x2 K S_3)) ∧ (¬ r_2 < 0 → ((r_4 < 0 → (w_X9_spair_41 x1 x2 K S_3)) ∧ (¬ r_4 < 0 → (vp_in r_2 61 ∧ ((S_3 225 (q_rf r_2)) = 0 → (w_X9_spair_41 x1 x2 K S_3)) ∧ (¬ (S_3 225 (q_rf r_2)) = 0 → (vp_in r_4 61 ∧ (¬ (S_3 225 (q_rf r_4)) = 0 → (w_X9_free S_3 (fun r_12 S_11 => (¬ r_12 = 25 → (w_X9_makeS r_2 r_4 S_11 (fun r_15 S_14 => (0 ≤ r_15 → (w_X9_shelve r_12 S_14 (fun r_18 S_17 => K r_18 S_17))) ∧ (¬ 0 ≤ r_15 → (K r_15 S_14))))) ∧ (r_12 = 25 → (K (-4) S_11))))) ∧ ((S_3 225 (q_rf r_4)) = 0 → (w_X9_spair_41 x1 x2 K S_3))))))))))

def w_X9_valueAt_39 (x1 : Int32) (K : Int32 → St → Prop) (k4 : Int32 → Int32 → St → Prop) (k30 : Int32 → Int32 → St → Prop) (x2 : Int32) (x3 : Int32) (x5 : Int32) (k39 : Int32 → Int32 → St → Prop) (x4 : Int32) (x6 : Int32) (S : St) : Prop :=
  vp_in (((160 * x1) + (4 * x3)) + x5) 9760 ∧ ((S 227 (q_rf (((160 * x1) + (4 * x3)) + x5))) ≤ x6 → (∀ x5_3 : Int32, x5_3 = x5 + 1 → k30 x4 x5_3 S)) ∧ (¬ (S 227 (q_rf (((160 * x1) + (4 * x3)) + x5))) ≤ x6 → (vp_in x5 4 ∧ (¬ (S 224 0) = 0) ∧ ∀ x4_6 : Int32, x4_6 = (x4 * (S 235 (q_rf x5))) - (x4 * (S 235 (q_rf x5))) / (S 224 0) * (S 224 0) → ∀ x6_7 : Int32, x6_7 = x6 + 1 → k39 x4_6 x6_7 S))
def w_X9_valueAt_30 (x1 : Int32) (K : Int32 → St → Prop) (k4 : Int32 → Int32 → St → Prop) (x2 : Int32) (x3 : Int32) (k30 : Int32 → Int32 → St → Prop) (x4 : Int32) (x5 : Int32) (S : St) : Prop :=
  (4 ≤ x5 → ((¬ (S 224 0) = 0) ∧ ∀ x2_3 : Int32, x2_3 = (x2 + x4) - (x2 + x4) / (S 224 0) * (S 224 0) → ∀ x3_4 : Int32, x3_4 = x3 + 1 → k4 x2_3 x3_4 S)) ∧ (¬ 4 ≤ x5 → (∃ f, q_it (fun _ _ _ => False) (w_X9_valueAt_39 x1 K k4 k30 x2 x3 x5) f x4 0 S))
def w_X9_valueAt_4 (x1 : Int32) (K : Int32 → St → Prop) (k4 : Int32 → Int32 → St → Prop) (x2 : Int32) (x3 : Int32) (S : St) : Prop :=
  vp_in x1 61 ∧ ((S 225 (q_rf x1)) ≤ x3 → (K x2 S)) ∧ (¬ (S 225 (q_rf x1)) ≤ x3 → (vp_in ((40 * x1) + x3) 2440 ∧ ∀ x4_4 : Int32, x4_4 = S 226 (q_rf ((40 * x1) + x3)) → ∃ f, q_it (fun _ _ _ => False) (w_X9_valueAt_30 x1 K k4 x2 x3) f x4_4 0 S))
def w_X9_valueAt (x1 : Int32) (S : St) (K : Int32 → St → Prop) : Prop :=
  ∃ f, q_it (fun _ _ _ => False) (w_X9_valueAt_4 x1 K) f 0 0 S

def w_X9_value (x1 : Int32) (x2 : Int32) (x3 : Int32) (x4 : Int32) (x5 : Int32) (S : St) (K : Int32 → St → Prop) : Prop :=
  w_X9_placeOf x1 S (fun r_2 S_1 => (0 ≤ r_2 → (w_X9_rest (x2.toInt64) S_1 (fun r_5 S_4 => ∀ S_6 : St, S_6 = su S_4 235 (q_rf 0) r_5 → w_X9_rest (x3.toInt64) S_6 (fun r_8 S_7 => ∀ S_9 : St, S_9 = su S_7 235 (q_rf 1) r_8 → w_X9_rest (x4.toInt64) S_9 (fun r_11 S_10 => ∀ S_12 : St, S_12 = su S_10 235 (q_rf 2) r_11 → w_X9_rest (x5.toInt64) S_12 (fun r_14 S_13 => ∀ S_15 : St, S_15 = su S_13 235 (q_rf 3) r_14 → w_X9_valueAt r_2 S_15 (fun r_17 S_16 => K r_17 S_16))))))) ∧ (¬ 0 ≤ r_2 → (K (-2) S_1)))

def w_X9_compare_22 (x1 : Int32) (x2 : Int32) (K : Int32 → St → Prop) (S : St) : Prop :=
  K (-2) S
def w_X9_compare_149 (x1 : Int32) (x2 : Int32) (K : Int32 → St → Prop) (x3 : Int32) (x4 : Int32) (S : St) : Prop :=
  vp_in x3 61 ∧ vp_in x4 61 ∧ (¬ (S 225 (q_rf x3)) = (S 225 (q_rf x4)) → (((S 225 (q_rf x4)) ≤ (S 225 (q_rf x3)) → (K 1 S)) ∧ (¬ (S 225 (q_rf x4)) ≤ (S 225 (q_rf x3)) → (K (-1) S)))) ∧ ((S 225 (q_rf x3)) = (S 225 (q_rf x4)) → (K 0 S))
def w_X9_compare_28 (x1 : Int32) (x2 : Int32) (K : Int32 → St → Prop) (x3 : Int32) (x4 : Int32) (k28 : Int32 → St → Prop) (x5 : Int32) (S : St) : Prop :=
  vp_in x3 61 ∧ ((S 225 (q_rf x3)) ≤ x5 → (w_X9_compare_149 x1 x2 K x3 x4 S)) ∧ (¬ (S 225 (q_rf x3)) ≤ x5 → (vp_in x4 61 ∧ ((S 225 (q_rf x4)) ≤ x5 → (w_X9_compare_149 x1 x2 K x3 x4 S)) ∧ (¬ (S 225 (q_rf x4)) ≤ x5 → (w_X9_stand 227 ((160 * x3) + (4 * x5)) 227 ((160 * x4) + (4 * x5)) S (fun r_6 S_5 => (r_6 = 0 → (vp_in ((40 * x3) + x5) 2440 ∧ ∀ x7_9 : Int32, x7_9 = S_5 226 (q_rf ((40 * x3) + x5)) → vp_in ((40 * x4) + x5) 2440 ∧ ∀ x8_11 : Int32, x8_11 = S_5 226 (q_rf ((40 * x4) + x5)) → (x7_9 = x8_11 → (∀ x5_13 : Int32, x5_13 = x5 + 1 → k28 x5_13 S_5)) ∧ (¬ x7_9 = x8_11 → ((x8_11 ≤ x7_9 → (K 1 S_5)) ∧ (¬ x8_11 ≤ x7_9 → (K (-1) S_5)))))) ∧ (¬ r_6 = 0 → (K r_6 S_5)))))))
def w_X9_compare (x1 : Int32) (x2 : Int32) (S : St) (K : Int32 → St → Prop) : Prop :=
  w_X9_placeOf x1 S (fun r_2 S_1 => w_X9_placeOf x2 S_1 (fun r_4 S_3 => (r_2 < 0 → (w_X9_compare_22 x1 x2 K S_3)) ∧ (¬ r_2 < 0 → ((0 ≤ r_4 → (∃ f, q_it (fun _ _ => False) (w_X9_compare_28 x1 x2 K r_2 r_4) f 0 S_3)) ∧ (¬ 0 ≤ r_4 → (w_X9_compare_22 x1 x2 K S_3))))))

def w_X9_reducer_2 (K : Int32 → St → Prop) (k2 : Int32 → St → Prop) (x1 : Int32) (S : St) : Prop :=
  ((S 224 27) ≤ x1 → (K (-1) S)) ∧ (¬ (S 224 27) ≤ x1 → (vp_in x1 18 ∧ w_X9_divides 227 (160 * (S 236 (q_rf x1))) 231 0 S (fun r_4 S_3 => (r_4 = 0 → (∀ x1_6 : Int32, x1_6 = x1 + 1 → k2 x1_6 S_3)) ∧ (¬ r_4 = 0 → (K (S_3 236 (q_rf x1)) S_3)))))
def w_X9_reducer (S : St) (K : Int32 → St → Prop) : Prop :=
  ∃ f, q_it (fun _ _ => False) (w_X9_reducer_2 K) f 0 S

def w_X9_reduce_36 (x1 : Int32) (K : Int32 → St → Prop) (k36 : Int32 → St → Prop) (x2 : Int32) (S : St) : Prop :=
  (4 ≤ x2 → (vp_in (40 * x1) 2440 ∧ w_X9_inverse (S 226 (q_rf (40 * x1))) S (fun r_4 S_3 => (¬ (S_3 224 0) = 0) ∧ ∀ x2_6 : Int32, x2_6 = ((S 230 (q_rf 0)) * r_4) - ((S 230 (q_rf 0)) * r_4) / (S_3 224 0) * (S_3 224 0) → w_X9_addTimes x1 (((S_3 224 0) - x2_6) - ((S_3 224 0) - x2_6) / (S_3 224 0) * (S_3 224 0)) S_3 (fun r_8 S_7 => (¬ r_8 = 0 → (w_X9_clean S_7 (fun r_11 S_10 => ((S_10 224 20) ≤ 40 → (K 0 S_10)) ∧ (¬ (S_10 224 20) ≤ 40 → (K (-6) S_10))))) ∧ (r_8 = 0 → (K (-5) S_7)))))) ∧ (¬ 4 ≤ x2 → (vp_in x2 6800 ∧ vp_in ((160 * x1) + x2) 9760 ∧ vp_in x2 4 ∧ ∀ S_16 : St, S_16 = su S 233 (q_rf x2) ((S 231 (q_rf x2)) - (S 227 (q_rf ((160 * x1) + x2)))) → ∀ x2_17 : Int32, x2_17 = x2 + 1 → k36 x2_17 S_16))
def w_X9_reduce (x1 : Int32) (S : St) (K : Int32 → St → Prop) : Prop :=
  (¬ (S 224 29) = (S 224 10) → (∀ S_2 : St, S_2 = su S 224 29 ((S 224 29) + 1) → ∀ S_3 : St, S_3 = su S_2 224 18 ((S_2 224 18) + 1) → ∃ f, q_it (fun _ _ => False) (w_X9_reduce_36 x1 K) f 0 S_3)) ∧ ((S 224 29) = (S 224 10) → (K (-7) S))

def w_X9_goOver_105 (K : Int32 → St → Prop) (k81 : Int32 → St → Prop) (x1 : Int32) (k105 : Int32 → St → Prop) (x2 : Int32) (S : St) : Prop :=
  (4 ≤ x2 → (∀ x1_2 : Int32, x1_2 = x1 + 1 → k81 x1_2 S)) ∧ (¬ 4 ≤ x2 → (vp_in (((4 * x1) + 4) + x2) 6800 ∧ vp_in ((4 * x1) + x2) 6800 ∧ ∀ S_5 : St, S_5 = su S 231 (q_rf ((4 * x1) + x2)) (S 231 (q_rf (((4 * x1) + 4) + x2))) → ∀ x2_6 : Int32, x2_6 = x2 + 1 → k105 x2_6 S_5))
def w_X9_goOver_81 (K : Int32 → St → Prop) (k81 : Int32 → St → Prop) (x1 : Int32) (S : St) : Prop :=
  ((S 224 20) ≤ x1 → (K 0 S)) ∧ (¬ (S 224 20) ≤ x1 → (vp_in (x1 + 1) 1700 ∧ vp_in x1 1700 ∧ ∀ S_4 : St, S_4 = su S 230 (q_rf x1) (S 230 (q_rf (x1 + 1))) → ∃ f, q_it (fun _ _ => False) (w_X9_goOver_105 K k81 x1) f 0 S_4))
def w_X9_goOver_29 (K : Int32 → St → Prop) (k29 : Int32 → St → Prop) (x1 : Int32) (S : St) : Prop :=
  (4 ≤ x1 → (∀ S_2 : St, S_2 = su S 224 30 ((S 224 30) + 1) → ∀ S_3 : St, S_3 = su S_2 224 20 ((S_2 224 20) - 1) → ∃ f, q_it (fun _ _ => False) (w_X9_goOver_81 K) f 0 S_3)) ∧ (¬ 4 ≤ x1 → (vp_in x1 6800 ∧ vp_in ((4 * (S 224 30)) + x1) 160 ∧ ∀ S_7 : St, S_7 = su S 238 (q_rf ((4 * (S 224 30)) + x1)) (S 231 (q_rf x1)) → ∀ x1_8 : Int32, x1_8 = x1 + 1 → k29 x1_8 S_7))
def w_X9_goOver (S : St) (K : Int32 → St → Prop) : Prop :=
  (¬ (S 224 30) = 40 → (vp_in (S 224 30) 40 ∧ ∀ S_3 : St, S_3 = su S 237 (q_rf (S 224 30)) (S 230 (q_rf 0)) → ∃ f, q_it (fun _ _ => False) (w_X9_goOver_29 K) f 0 S_3)) ∧ ((S 224 30) = 40 → (K (-6) S))

def w_X9_leave_76 (K : Int32 → St → Prop) (k54 : Int32 → St → Prop) (x1 : Int32) (k76 : Int32 → St → Prop) (x2 : Int32) (S : St) : Prop :=
  (4 ≤ x2 → (∀ x1_2 : Int32, x1_2 = x1 + 1 → k54 x1_2 S)) ∧ (¬ 4 ≤ x2 → (vp_in ((4 * x1) + x2) 160 ∧ vp_in ((4 * x1) + x2) 6800 ∧ ∀ S_5 : St, S_5 = su S 231 (q_rf ((4 * x1) + x2)) (S 238 (q_rf ((4 * x1) + x2))) → ∀ x2_6 : Int32, x2_6 = x2 + 1 → k76 x2_6 S_5))
def w_X9_leave_54 (K : Int32 → St → Prop) (k54 : Int32 → St → Prop) (x1 : Int32) (S : St) : Prop :=
  ((S 224 30) ≤ x1 → (K 0 S)) ∧ (¬ (S 224 30) ≤ x1 → (vp_in x1 40 ∧ vp_in x1 1700 ∧ ∀ S_4 : St, S_4 = su S 230 (q_rf x1) (S 237 (q_rf x1)) → ∃ f, q_it (fun _ _ => False) (w_X9_leave_76 K k54 x1) f 0 S_4))
def w_X9_leave_34 (K : Int32 → St → Prop) (k5 : St → Prop) (z0 : Int32) (S : St) : Prop :=
  (0 ≤ z0 → (k5 S)) ∧ (¬ 0 ≤ z0 → (K z0 S))
def w_X9_leave_5 (K : Int32 → St → Prop) (k5 : St → Prop) (S : St) : Prop :=
  ((S 224 20) ≤ 0 → (∀ S_2 : St, S_2 = su S 224 20 (S 224 30) → ∃ f, q_it (fun _ _ => False) (w_X9_leave_54 K) f 0 S_2)) ∧ (¬ (S 224 20) ≤ 0 → (w_X9_reducer S (fun r_5 S_4 => (¬ r_5 = (-1) → (w_X9_reduce r_5 S_4 (fun r_8 S_7 => w_X9_leave_34 K k5 r_8 S_7))) ∧ (r_5 = (-1) → (w_X9_goOver S_4 (fun r_10 S_9 => w_X9_leave_34 K k5 r_10 S_9))))))
def w_X9_leave (S : St) (K : Int32 → St → Prop) : Prop :=
  ∀ S_1 : St, S_1 = su S 224 30 0 → ∃ f, q_it (fun _ => False) (w_X9_leave_5 K) f S_1

def w_X9_byBasis_10 (K : Unit → St → Prop) (k10 : Int32 → St → Prop) (x1 : Int32) (S : St) : Prop :=
  ((S 224 6) ≤ x1 → (K () S)) ∧ (¬ (S 224 6) ≤ x1 → (vp_in x1 18 ∧ ∀ S_3 : St, S_3 = su S 236 (q_rf x1) (25 + x1) → ∀ x1_4 : Int32, x1_4 = x1 + 1 → k10 x1_4 S_3))
def w_X9_byBasis (S : St) (K : Unit → St → Prop) : Prop :=
  ∀ S_1 : St, S_1 = su S 224 27 (S 224 6) → ∃ f, q_it (fun _ _ => False) (w_X9_byBasis_10 K) f 0 S_1

def w_X9_fuel (x1 : Int32) (S : St) (K : Int32 → St → Prop) : Prop :=
  w_X9_in x1 0 2000 S (fun r_2 S_1 => (¬ r_2 = 0 → (∀ x2_4 : Int32, x2_4 = S_1 224 10 → ∀ S_5 : St, S_5 = su S_1 224 10 x1 → K x2_4 S_5)) ∧ (r_2 = 0 → (K (-2) S_1)))

def w_X9_way (x1 : Int32) (S : St) (K : Int32 → St → Prop) : Prop :=
  w_X9_in x1 0 1 S (fun r_2 S_1 => (¬ r_2 = 0 → (∀ x2_4 : Int32, x2_4 = S_1 224 11 → ∀ S_5 : St, S_5 = su S_1 224 11 x1 → K x2_4 S_5)) ∧ (r_2 = 0 → (K (-2) S_1)))

def w_X9_rules (x1 : Int32) (S : St) (K : Int32 → St → Prop) : Prop :=
  w_X9_in x1 0 3 S (fun r_2 S_1 => (¬ r_2 = 0 → (∀ x2_4 : Int32, x2_4 = S_1 224 12 → ∀ S_5 : St, S_5 = su S_1 224 12 x1 → K x2_4 S_5)) ∧ (r_2 = 0 → (K (-2) S_1)))

def w_X9_come_23 (K : Unit → St → Prop) (k23 : Int32 → St → Prop) (x1 : Int32) (S : St) : Prop :=
  ((S 224 6) ≤ x1 → (∀ S_2 : St, S_2 = su S 224 6 ((S 224 6) + 1) → K () S_2)) ∧ (¬ (S 224 6) ≤ x1 → (vp_in (S 224 7) 160 ∧ ∀ S_4 : St, S_4 = su S 228 (q_rf (S 224 7)) x1 → vp_in (S_4 224 7) 160 ∧ ∀ S_6 : St, S_6 = su S_4 229 (q_rf (S_4 224 7)) (S_4 224 6) → ∀ S_7 : St, S_7 = su S_6 224 7 ((S_6 224 7) + 1) → ∀ x1_8 : Int32, x1_8 = x1 + 1 → k23 x1_8 S_7))
def w_X9_come (S : St) (K : Unit → St → Prop) : Prop :=
  w_X9_inverse (S 230 (q_rf 0)) S (fun r_2 S_1 => w_X9_lay (25 + (S 224 6)) r_2 S_1 (fun r_4 S_3 => ∃ f, q_it (fun _ _ => False) (w_X9_come_23 K) f 0 S_3))

def w_X9_enter_19 (x1 : Int32) (K : Int32 → St → Prop) (S : St) : Prop :=
  K (-2) S
def w_X9_enter (x1 : Int32) (S : St) (K : Int32 → St → Prop) : Prop :=
  w_X9_placeOf x1 S (fun r_2 S_1 => (r_2 < 0 → (w_X9_enter_19 x1 K S_1)) ∧ (¬ r_2 < 0 → (vp_in r_2 61 ∧ (¬ (S_1 225 (q_rf r_2)) = 0 → ((¬ (S_1 224 6) = 18 → (w_X9_fetch r_2 S_1 (fun r_8 S_7 => w_X9_come S_7 (fun r_10 S_9 => ∀ S_11 : St, S_11 = su S_9 224 13 0 → K ((S_11 224 6) - 1) S_11)))) ∧ ((S_1 224 6) = 18 → (K (-4) S_1)))) ∧ ((S_1 225 (q_rf r_2)) = 0 → (w_X9_enter_19 x1 K S_1)))))

def w_X9_clear (S : St) (K : Int32 → St → Prop) : Prop :=
  ∀ x1_1 : Int32, x1_1 = S 224 6 → ∀ S_2 : St, S_2 = su S 224 6 0 → ∀ S_3 : St, S_3 = su S_2 224 7 0 → ∀ S_4 : St, S_4 = su S_3 224 13 0 → K x1_1 S_4

def w_X9_nextPair_91 (K : Int32 → St → Prop) (k13 : Int32 → Int32 → St → Prop) (x1 : Int32) (x2 : Int32) (S : St) : Prop :=
  ∀ x2_1 : Int32, x2_1 = x2 + 1 → k13 x1 x2_1 S
def w_X9_nextPair_68 (K : Int32 → St → Prop) (k13 : Int32 → Int32 → St → Prop) (x1 : Int32) (x2 : Int32) (k68 : Int32 → St → Prop) (x3 : Int32) (S : St) : Prop :=
  (4 ≤ x3 → (w_X9_nextPair_91 K k13 x1 x2 S)) ∧ (¬ 4 ≤ x3 → (vp_in x3 4 ∧ ∀ S_3 : St, S_3 = su S 239 (q_rf x3) (S 234 (q_rf x3)) → ∀ x3_4 : Int32, x3_4 = x3 + 1 → k68 x3_4 S_3))
def w_X9_nextPair_64 (K : Int32 → St → Prop) (k13 : Int32 → Int32 → St → Prop) (x2 : Int32) (S : St) : Prop :=
  ∃ f, q_it (fun _ _ => False) (w_X9_nextPair_68 K k13 x2 x2) f 0 S
def w_X9_nextPair_13 (K : Int32 → St → Prop) (k13 : Int32 → Int32 → St → Prop) (x1 : Int32) (x2 : Int32) (S : St) : Prop :=
  ((S 224 7) ≤ x2 → (K x1 S)) ∧ (¬ (S 224 7) ≤ x2 → (vp_in x2 160 ∧ w_X9_leastOf (25 + (S 228 (q_rf x2))) (25 + (S 229 (q_rf x2))) S (fun r_4 S_3 => (x2 = 0 → (w_X9_nextPair_64 K k13 x2 S_3)) ∧ (¬ x2 = 0 → (w_X9_stand 234 0 239 0 S_3 (fun r_7 S_6 => (0 ≤ r_7 → (w_X9_nextPair_91 K k13 x1 x2 S_6)) ∧ (¬ 0 ≤ r_7 → (w_X9_nextPair_64 K k13 x2 S_6))))))))
def w_X9_nextPair (S : St) (K : Int32 → St → Prop) : Prop :=
  (¬ (S 224 11) = 0 → (∃ f, q_it (fun _ _ _ => False) (w_X9_nextPair_13 K) f 0 0 S)) ∧ ((S 224 11) = 0 → (K 0 S))

def w_X9_waits_52 (x1 : Int32) (x2 : Int32) (K : Int32 → St → Prop) (k2 : Int32 → St → Prop) (x3 : Int32) (S : St) : Prop :=
  ∀ x3_1 : Int32, x3_1 = x3 + 1 → k2 x3_1 S
def w_X9_waits_50 (x1 : Int32) (x2 : Int32) (K : Int32 → St → Prop) (S : St) : Prop :=
  K 1 S
def w_X9_waits_30 (x1 : Int32) (x2 : Int32) (K : Int32 → St → Prop) (k2 : Int32 → St → Prop) (x3 : Int32) (S : St) : Prop :=
  vp_in x3 160 ∧ (¬ (S 228 (q_rf x3)) = x2 → (w_X9_waits_52 x1 x2 K k2 x3 S)) ∧ ((S 228 (q_rf x3)) = x2 → ((¬ (S 229 (q_rf x3)) = x1 → (w_X9_waits_52 x1 x2 K k2 x3 S)) ∧ ((S 229 (q_rf x3)) = x1 → (w_X9_waits_50 x1 x2 K S))))
def w_X9_waits_2 (x1 : Int32) (x2 : Int32) (K : Int32 → St → Prop) (k2 : Int32 → St → Prop) (x3 : Int32) (S : St) : Prop :=
  ((S 224 7) ≤ x3 → (K 0 S)) ∧ (¬ (S 224 7) ≤ x3 → (vp_in x3 160 ∧ (¬ (S 228 (q_rf x3)) = x1 → (w_X9_waits_30 x1 x2 K k2 x3 S)) ∧ ((S 228 (q_rf x3)) = x1 → (((S 229 (q_rf x3)) = x2 → (w_X9_waits_50 x1 x2 K S)) ∧ (¬ (S 229 (q_rf x3)) = x2 → (w_X9_waits_30 x1 x2 K k2 x3 S))))))
def w_X9_waits (x1 : Int32) (x2 : Int32) (S : St) (K : Int32 → St → Prop) : Prop :=
  ∃ f, q_it (fun _ _ => False) (w_X9_waits_2 x1 x2 K) f 0 S

def w_X9_areCoprime_55 (x1 : Int32) (x2 : Int32) (K : Int32 → St → Prop) (k5 : Int32 → Int32 → St → Prop) (x4 : Int32) (z0 : Int32) (z1 : Int32) (S : St) : Prop :=
  ∀ x3_1 : Int32, x3_1 = z0 &&& z1 → ∀ x4_2 : Int32, x4_2 = x4 + 1 → k5 x3_1 x4_2 S
def w_X9_areCoprime_50 (x1 : Int32) (x2 : Int32) (K : Int32 → St → Prop) (k5 : Int32 → Int32 → St → Prop) (x4 : Int32) (z0 : Int32) (S : St) : Prop :=
  w_X9_areCoprime_55 x1 x2 K k5 x4 z0 1 S
def w_X9_areCoprime_5 (x1 : Int32) (x2 : Int32) (K : Int32 → St → Prop) (k5 : Int32 → Int32 → St → Prop) (x3 : Int32) (x4 : Int32) (S : St) : Prop :=
  (4 ≤ x4 → (narrow .boolean (.int x3) = .int x3 ∧ K x3 S)) ∧ (¬ 4 ≤ x4 → (vp_in ((160 * (25 + x1)) + x4) 9760 ∧ ((S 227 (q_rf ((160 * (25 + x1)) + x4))) = 0 → (w_X9_areCoprime_50 x1 x2 K k5 x4 x3 S)) ∧ (¬ (S 227 (q_rf ((160 * (25 + x1)) + x4))) = 0 → (vp_in ((160 * (25 + x2)) + x4) 9760 ∧ (¬ (S 227 (q_rf ((160 * (25 + x2)) + x4))) = 0 → (w_X9_areCoprime_55 x1 x2 K k5 x4 x3 0 S)) ∧ ((S 227 (q_rf ((160 * (25 + x2)) + x4))) = 0 → (w_X9_areCoprime_50 x1 x2 K k5 x4 x3 S))))))
def w_X9_areCoprime (x1 : Int32) (x2 : Int32) (S : St) (K : Int32 → St → Prop) : Prop :=
  ∃ f, q_it (fun _ _ _ => False) (w_X9_areCoprime_5 x1 x2 K) f 1 0 S

def w_X9_isChained_75 (x1 : Int32) (x2 : Int32) (K : Int32 → St → Prop) (k14 : Int32 → St → Prop) (x3 : Int32) (S : St) : Prop :=
  ∀ x3_1 : Int32, x3_1 = x3 + 1 → k14 x3_1 S
def w_X9_isChained_14 (x1 : Int32) (x2 : Int32) (K : Int32 → St → Prop) (k14 : Int32 → St → Prop) (x3 : Int32) (S : St) : Prop :=
  ((S 224 6) ≤ x3 → (K 0 S)) ∧ (¬ (S 224 6) ≤ x3 → ((x3 = x1 → (w_X9_isChained_75 x1 x2 K k14 x3 S)) ∧ (¬ x3 = x1 → ((x3 = x2 → (w_X9_isChained_75 x1 x2 K k14 x3 S)) ∧ (¬ x3 = x2 → (w_X9_divides 227 (160 * (25 + x3)) 234 0 S (fun r_5 S_4 => (r_5 = 0 → (w_X9_isChained_75 x1 x2 K k14 x3 S_4)) ∧ (¬ r_5 = 0 → (w_X9_waits x1 x3 S_4 (fun r_8 S_7 => (¬ r_8 = 0 → (w_X9_isChained_75 x1 x2 K k14 x3 S_7)) ∧ (r_8 = 0 → (w_X9_waits x2 x3 S_7 (fun r_11 S_10 => (¬ r_11 = 0 → (w_X9_isChained_75 x1 x2 K k14 x3 S_10)) ∧ (r_11 = 0 → (K 1 S_10)))))))))))))))
def w_X9_isChained (x1 : Int32) (x2 : Int32) (S : St) (K : Int32 → St → Prop) : Prop :=
  w_X9_leastOf (25 + x1) (25 + x2) S (fun r_2 S_1 => ∃ f, q_it (fun _ _ => False) (w_X9_isChained_14 x1 x2 K) f 0 S_1)

def w_X9_goes_12 (x1 : Int32) (K : Unit → St → Prop) (k12 : Int32 → St → Prop) (x2 : Int32) (S : St) : Prop :=
  ((S 224 7) ≤ x2 → (K () S)) ∧ (¬ (S 224 7) ≤ x2 → (vp_in (x2 + 1) 160 ∧ vp_in x2 160 ∧ ∀ S_4 : St, S_4 = su S 228 (q_rf x2) (S 228 (q_rf (x2 + 1))) → ∀ S_5 : St, S_5 = su S_4 229 (q_rf x2) (S_4 229 (q_rf (x2 + 1))) → ∀ x2_6 : Int32, x2_6 = x2 + 1 → k12 x2_6 S_5))
def w_X9_goes (x1 : Int32) (S : St) (K : Unit → St → Prop) : Prop :=
  ∀ S_1 : St, S_1 = su S 224 7 ((S 224 7) - 1) → ∃ f, q_it (fun _ _ => False) (w_X9_goes_12 x1 K) f x1 S_1

def w_X9_workOf_182 (x1 : Int32) (K : Int32 → St → Prop) (S : St) : Prop :=
  K 0 S
def w_X9_workOf_143 (x1 : Int32) (K : Int32 → St → Prop) (S : St) : Prop :=
  w_X9_goes x1 S (fun r_2 S_1 => ((S_1 224 20) ≤ 0 → (∀ S_4 : St, S_4 = su S_1 224 17 ((S_1 224 17) + 1) → w_X9_workOf_182 x1 K S_4)) ∧ (¬ (S_1 224 20) ≤ 0 → (∀ S_5 : St, S_5 = su S_1 224 16 ((S_1 224 16) + 1) → w_X9_come S_5 (fun r_7 S_6 => w_X9_workOf_182 x1 K S_6))))
def w_X9_workOf_84 (x1 : Int32) (K : Int32 → St → Prop) (x2 : Int32) (x3 : Int32) (S : St) : Prop :=
  w_X9_makeS (25 + x2) (25 + x3) S (fun r_2 S_1 => (0 ≤ r_2 → (w_X9_byBasis S_1 (fun r_5 S_4 => w_X9_leave S_4 (fun r_7 S_6 => (0 ≤ r_7 → (((S_6 224 20) ≤ 0 → (w_X9_workOf_143 x1 K S_6)) ∧ (¬ (S_6 224 20) ≤ 0 → ((¬ (S_6 224 6) = 18 → (w_X9_workOf_143 x1 K S_6)) ∧ ((S_6 224 6) = 18 → (K (-4) S_6)))))) ∧ (¬ 0 ≤ r_7 → (K r_7 S_6)))))) ∧ (¬ 0 ≤ r_2 → (K r_2 S_1)))
def w_X9_workOf_50 (x1 : Int32) (K : Int32 → St → Prop) (x2 : Int32) (x3 : Int32) (S : St) : Prop :=
  ((S 224 12) ≤ 1 → (w_X9_workOf_84 x1 K x2 x3 S)) ∧ (¬ (S 224 12) ≤ 1 → (w_X9_isChained x2 x3 S (fun r_3 S_2 => (r_3 = 0 → (w_X9_workOf_84 x1 K x2 x3 S_2)) ∧ (¬ r_3 = 0 → (∀ S_5 : St, S_5 = su S_2 224 15 ((S_2 224 15) + 1) → w_X9_goes x1 S_5 (fun r_7 S_6 => K 0 S_6))))))
def w_X9_workOf (x1 : Int32) (S : St) (K : Int32 → St → Prop) : Prop :=
  vp_in x1 160 ∧ ∀ x2_2 : Int32, x2_2 = S 228 (q_rf x1) → ∀ x3_3 : Int32, x3_3 = S 229 (q_rf x1) → (¬ ((S 224 12) &&& 1) = 1 → (w_X9_workOf_50 x1 K x2_2 x3_3 S)) ∧ (((S 224 12) &&& 1) = 1 → (w_X9_areCoprime x2_2 x3_3 S (fun r_6 S_5 => (r_6 = 0 → (w_X9_workOf_50 x1 K x2_2 x3_3 S_5)) ∧ (¬ r_6 = 0 → (∀ S_8 : St, S_8 = su S_5 224 14 ((S_5 224 14) + 1) → w_X9_goes x1 S_8 (fun r_10 S_9 => K 0 S_9))))))

def w_X9_work_67 (x1 : Int32) (K : Int32 → St → Prop) (x2 : Int32) (S : St) : Prop :=
  K x2 S
def w_X9_work_21 (x1 : Int32) (K : Int32 → St → Prop) (k21 : Int32 → St → Prop) (x2 : Int32) (S : St) : Prop :=
  (x1 ≤ x2 → (w_X9_work_67 x1 K x2 S)) ∧ (¬ x1 ≤ x2 → (((S 224 7) ≤ 0 → (w_X9_work_67 x1 K x2 S)) ∧ (¬ (S 224 7) ≤ 0 → (∀ S_3 : St, S_3 = su S 224 29 0 → w_X9_nextPair S_3 (fun r_5 S_4 => w_X9_workOf r_5 S_4 (fun r_7 S_6 => ∀ S_8 : St, S_8 = su S_6 224 19 (S_6 224 29) → (0 ≤ r_7 → (∀ x2_10 : Int32, x2_10 = x2 + 1 → k21 x2_10 S_8)) ∧ (¬ 0 ≤ r_7 → (K r_7 S_8))))))))
def w_X9_work (x1 : Int32) (S : St) (K : Int32 → St → Prop) : Prop :=
  w_X9_in x1 1 200 S (fun r_2 S_1 => (¬ r_2 = 0 → (∀ S_4 : St, S_4 = su S_1 224 19 0 → ∃ f, q_it (fun _ _ => False) (w_X9_work_21 x1 K) f 0 S_4)) ∧ (r_2 = 0 → (K (-2) S_1)))

def w_X9_isGone_108 (x1 : Int32) (K : Int32 → St → Prop) (k2 : Int32 → St → Prop) (x2 : Int32) (S : St) : Prop :=
  ∀ x2_1 : Int32, x2_1 = x2 + 1 → k2 x2_1 S
def w_X9_isGone_106 (x1 : Int32) (K : Int32 → St → Prop) (S : St) : Prop :=
  K 1 S
def w_X9_isGone_90 (x1 : Int32) (K : Int32 → St → Prop) (k2 : Int32 → St → Prop) (x2 : Int32) (x3 : Int32) (z0 : Int32) (S : St) : Prop :=
  (x3 = 0 → (w_X9_isGone_108 x1 K k2 x2 S)) ∧ (¬ x3 = 0 → ((z0 = 0 → (w_X9_isGone_106 x1 K S)) ∧ (¬ z0 = 0 → ((x1 ≤ x2 → (w_X9_isGone_108 x1 K k2 x2 S)) ∧ (¬ x1 ≤ x2 → (w_X9_isGone_106 x1 K S))))))
def w_X9_isGone_89 (x1 : Int32) (K : Int32 → St → Prop) (k2 : Int32 → St → Prop) (x2 : Int32) (x3 : Int32) (S : St) : Prop :=
  w_X9_isGone_90 x1 K k2 x2 x3 0 S
def w_X9_isGone_50 (x1 : Int32) (K : Int32 → St → Prop) (k2 : Int32 → St → Prop) (x2 : Int32) (z0 : Int32) (S : St) : Prop :=
  (z0 = 0 → (w_X9_isGone_89 x1 K k2 x2 z0 S)) ∧ (¬ z0 = 0 → (w_X9_divides 227 (160 * (25 + x1)) 227 (160 * (25 + x2)) S (fun r_3 S_2 => (r_3 = 0 → (w_X9_isGone_89 x1 K k2 x2 z0 S_2)) ∧ (¬ r_3 = 0 → (w_X9_isGone_90 x1 K k2 x2 z0 1 S_2)))))
def w_X9_isGone_49 (x1 : Int32) (K : Int32 → St → Prop) (k2 : Int32 → St → Prop) (x2 : Int32) (S : St) : Prop :=
  w_X9_isGone_50 x1 K k2 x2 0 S
def w_X9_isGone_2 (x1 : Int32) (K : Int32 → St → Prop) (k2 : Int32 → St → Prop) (x2 : Int32) (S : St) : Prop :=
  ((S 224 6) ≤ x2 → (K 0 S)) ∧ (¬ (S 224 6) ≤ x2 → ((x2 = x1 → (w_X9_isGone_49 x1 K k2 x2 S)) ∧ (¬ x2 = x1 → (w_X9_divides 227 (160 * (25 + x2)) 227 (160 * (25 + x1)) S (fun r_4 S_3 => (r_4 = 0 → (w_X9_isGone_49 x1 K k2 x2 S_3)) ∧ (¬ r_4 = 0 → (w_X9_isGone_50 x1 K k2 x2 1 S_3)))))))
def w_X9_isGone (x1 : Int32) (S : St) (K : Int32 → St → Prop) : Prop :=
  ∃ f, q_it (fun _ _ => False) (w_X9_isGone_2 x1 K) f 0 S

def w_X9_sort_107 (K : Unit → St → Prop) (k7 : Int32 → St → Prop) (x1 : Int32) (S : St) : Prop :=
  ∀ x1_1 : Int32, x1_1 = x1 + 1 → k7 x1_1 S
def w_X9_sort_85 (K : Unit → St → Prop) (k7 : Int32 → St → Prop) (x1 : Int32) (x2 : Int32) (S : St) : Prop :=
  w_X9_copy (25 + x1) (43 + x2) S (fun r_2 S_1 => ∀ S_3 : St, S_3 = su S_1 224 34 ((S_1 224 34) + 1) → w_X9_sort_107 K k7 x1 S_3)
def w_X9_sort_28 (K : Unit → St → Prop) (k7 : Int32 → St → Prop) (x1 : Int32) (k28 : Int32 → St → Prop) (x2 : Int32) (S : St) : Prop :=
  (x2 ≤ 0 → (w_X9_sort_85 K k7 x1 x2 S)) ∧ (¬ x2 ≤ 0 → (w_X9_stand 227 (160 * ((43 + x2) - 1)) 227 (160 * (25 + x1)) S (fun r_3 S_2 => (r_3 ≤ 0 → (w_X9_sort_85 K k7 x1 x2 S_2)) ∧ (¬ r_3 ≤ 0 → (w_X9_copy ((43 + x2) - 1) (43 + x2) S_2 (fun r_6 S_5 => ∀ x2_7 : Int32, x2_7 = x2 + (-1) → k28 x2_7 S_5))))))
def w_X9_sort_7 (K : Unit → St → Prop) (k7 : Int32 → St → Prop) (x1 : Int32) (S : St) : Prop :=
  ((S 224 6) ≤ x1 → (K () S)) ∧ (¬ (S 224 6) ≤ x1 → (w_X9_isGone x1 S (fun r_3 S_2 => (¬ r_3 = 0 → (w_X9_sort_107 K k7 x1 S_2)) ∧ (r_3 = 0 → (∀ x2_5 : Int32, x2_5 = S_2 224 34 → ∃ f, q_it (fun _ _ => False) (w_X9_sort_28 K k7 x1) f x2_5 S_2)))))
def w_X9_sort (S : St) (K : Unit → St → Prop) : Prop :=
  ∀ S_1 : St, S_1 = su S 224 34 0 → ∃ f, q_it (fun _ _ => False) (w_X9_sort_7 K) f 0 S_1

def w_X9_tidyOne_205 (x1 : Int32) (K : Int32 → St → Prop) (k172 : Int32 → St → Prop) (x2 : Int32) (x4 : Int32) (k205 : Int32 → St → Prop) (x5 : Int32) (S : St) : Prop :=
  (4 ≤ x5 → (∀ x4_2 : Int32, x4_2 = x4 + 1 → k172 x4_2 S)) ∧ (¬ 4 ≤ x5 → (vp_in ((4 * x4) + x5) 6800 ∧ vp_in ((((160 * x2) + (4 * x4)) + 4) + x5) 9760 ∧ ∀ S_5 : St, S_5 = su S 227 (q_rf ((((160 * x2) + (4 * x4)) + 4) + x5)) (S 231 (q_rf ((4 * x4) + x5))) → ∀ x5_6 : Int32, x5_6 = x5 + 1 → k205 x5_6 S_5))
def w_X9_tidyOne_172 (x1 : Int32) (K : Int32 → St → Prop) (x2 : Int32) (k172 : Int32 → St → Prop) (x4 : Int32) (S : St) : Prop :=
  ((S 224 20) ≤ x4 → (vp_in x2 61 ∧ ∀ S_3 : St, S_3 = su S 225 (q_rf x2) ((S 224 20) + 1) → K 0 S_3)) ∧ (¬ (S 224 20) ≤ x4 → (vp_in x4 1700 ∧ vp_in (((40 * x2) + x4) + 1) 2440 ∧ ∀ S_6 : St, S_6 = su S 226 (q_rf (((40 * x2) + x4) + 1)) (S 230 (q_rf x4)) → ∃ f, q_it (fun _ _ => False) (w_X9_tidyOne_205 x1 K k172 x2 x4) f 0 S_6))
def w_X9_tidyOne_98 (x1 : Int32) (K : Int32 → St → Prop) (k68 : Int32 → St → Prop) (x2 : Int32) (x3 : Int32) (k98 : Int32 → St → Prop) (x4 : Int32) (S : St) : Prop :=
  (4 ≤ x4 → (∀ x3_2 : Int32, x3_2 = x3 + 1 → k68 x3_2 S)) ∧ (¬ 4 ≤ x4 → (vp_in ((((160 * x2) + (4 * x3)) + 4) + x4) 9760 ∧ vp_in ((4 * x3) + x4) 6800 ∧ ∀ S_5 : St, S_5 = su S 231 (q_rf ((4 * x3) + x4)) (S 227 (q_rf ((((160 * x2) + (4 * x3)) + 4) + x4))) → ∀ x4_6 : Int32, x4_6 = x4 + 1 → k98 x4_6 S_5))
def w_X9_tidyOne_68 (x1 : Int32) (K : Int32 → St → Prop) (x2 : Int32) (k68 : Int32 → St → Prop) (x3 : Int32) (S : St) : Prop :=
  ((S 224 20) ≤ x3 → (w_X9_leave S (fun r_3 S_2 => (0 ≤ r_3 → ((¬ (S_2 224 20) = 40 → (∃ f, q_it (fun _ _ => False) (w_X9_tidyOne_172 x1 K x2) f 0 S_2)) ∧ ((S_2 224 20) = 40 → (K (-6) S_2)))) ∧ (¬ 0 ≤ r_3 → (K r_3 S_2))))) ∧ (¬ (S 224 20) ≤ x3 → (vp_in (((40 * x2) + x3) + 1) 2440 ∧ vp_in x3 1700 ∧ ∀ S_9 : St, S_9 = su S 230 (q_rf x3) (S 226 (q_rf (((40 * x2) + x3) + 1))) → ∃ f, q_it (fun _ _ => False) (w_X9_tidyOne_98 x1 K k68 x2 x3) f 0 S_9))
def w_X9_tidyOne_43 (x1 : Int32) (K : Int32 → St → Prop) (k7 : Int32 → St → Prop) (x2 : Int32) (S : St) : Prop :=
  ∀ x2_1 : Int32, x2_1 = x2 + 1 → k7 x2_1 S
def w_X9_tidyOne_7 (x1 : Int32) (K : Int32 → St → Prop) (k7 : Int32 → St → Prop) (x2 : Int32) (S : St) : Prop :=
  ((S 224 34) ≤ x2 → (∀ x2_2 : Int32, x2_2 = 43 + x1 → vp_in x2_2 61 ∧ ∀ S_4 : St, S_4 = su S 224 20 ((S 225 (q_rf x2_2)) - 1) → ∃ f, q_it (fun _ _ => False) (w_X9_tidyOne_68 x1 K x2_2) f 0 S_4)) ∧ (¬ (S 224 34) ≤ x2 → ((x2 = x1 → (w_X9_tidyOne_43 x1 K k7 x2 S)) ∧ (¬ x2 = x1 → (vp_in (S 224 27) 18 ∧ ∀ S_8 : St, S_8 = su S 236 (q_rf (S 224 27)) (43 + x2) → ∀ S_9 : St, S_9 = su S_8 224 27 ((S_8 224 27) + 1) → w_X9_tidyOne_43 x1 K k7 x2 S_9))))
def w_X9_tidyOne (x1 : Int32) (S : St) (K : Int32 → St → Prop) : Prop :=
  ∀ S_1 : St, S_1 = su S 224 27 0 → ∃ f, q_it (fun _ _ => False) (w_X9_tidyOne_7 x1 K) f 0 S_1

def w_X9_tidy_62 (K : Int32 → St → Prop) (k62 : Int32 → St → Prop) (x1 : Int32) (S : St) : Prop :=
  ((S 224 34) ≤ x1 → (∀ S_2 : St, S_2 = su S 224 6 (S 224 34) → ∀ S_3 : St, S_3 = su S_2 224 13 1 → K (S_3 224 6) S_3)) ∧ (¬ (S 224 34) ≤ x1 → (w_X9_copy (43 + x1) (25 + x1) S (fun r_5 S_4 => ∀ x1_6 : Int32, x1_6 = x1 + 1 → k62 x1_6 S_4)))
def w_X9_tidy_26 (K : Int32 → St → Prop) (k26 : Int32 → St → Prop) (x1 : Int32) (S : St) : Prop :=
  ((S 224 34) ≤ x1 → (∃ f, q_it (fun _ _ => False) (w_X9_tidy_62 K) f 0 S)) ∧ (¬ (S 224 34) ≤ x1 → (w_X9_tidyOne x1 S (fun r_4 S_3 => ∀ S_5 : St, S_5 = su S_3 224 19 (S_3 224 29) → (0 ≤ r_4 → (∀ x1_7 : Int32, x1_7 = x1 + 1 → k26 x1_7 S_5)) ∧ (¬ 0 ≤ r_4 → (K r_4 S_5)))))
def w_X9_tidy (S : St) (K : Int32 → St → Prop) : Prop :=
  ((S 224 7) ≤ 0 → (∀ S_2 : St, S_2 = su S 224 29 0 → ∀ S_3 : St, S_3 = su S_2 224 19 0 → w_X9_sort S_3 (fun r_5 S_4 => ∃ f, q_it (fun _ _ => False) (w_X9_tidy_26 K) f 0 S_4))) ∧ (¬ (S 224 7) ≤ 0 → (K (-3) S))

def w_X9_left (x1 : Int32) (S : St) (K : Int32 → St → Prop) : Prop :=
  w_X9_placeOf x1 S (fun r_2 S_1 => (0 ≤ r_2 → (∀ S_4 : St, S_4 = su S_1 224 19 0 → w_X9_free S_4 (fun r_6 S_5 => (¬ r_6 = 25 → (∀ S_8 : St, S_8 = su S_5 224 29 0 → w_X9_fetch r_2 S_8 (fun r_10 S_9 => w_X9_byBasis S_9 (fun r_12 S_11 => w_X9_leave S_11 (fun r_14 S_13 => ∀ S_15 : St, S_15 = su S_13 224 19 (S_13 224 29) → (0 ≤ r_14 → (w_X9_lay r_6 1 S_15 (fun r_18 S_17 => K (r_6 - 1) S_17))) ∧ (¬ 0 ≤ r_14 → (K r_14 S_15))))))) ∧ (r_6 = 25 → (K (-4) S_5))))) ∧ (¬ 0 ≤ r_2 → (K (-2) S_1)))

def w_X9_member (x1 : Int32) (S : St) (K : Int32 → St → Prop) : Prop :=
  w_X9_placeOf x1 S (fun r_2 S_1 => (0 ≤ r_2 → ((¬ (S_1 224 13) = 0 → (∀ S_5 : St, S_5 = su S_1 224 29 0 → w_X9_fetch r_2 S_5 (fun r_7 S_6 => w_X9_byBasis S_6 (fun r_9 S_8 => w_X9_leave S_8 (fun r_11 S_10 => ∀ S_12 : St, S_12 = su S_10 224 19 (S_10 224 29) → (0 ≤ r_11 → ((¬ (S_12 224 20) = 0 → (K 0 S_12)) ∧ ((S_12 224 20) = 0 → (K 1 S_12)))) ∧ (¬ 0 ≤ r_11 → (K r_11 S_12))))))) ∧ ((S_1 224 13) = 0 → (K (-3) S_1)))) ∧ (¬ 0 ≤ r_2 → (K (-2) S_1)))

def w_X9_pair (x1 : Int32) (S : St) (K : Int32 → St → Prop) : Prop :=
  w_X9_in x1 0 ((S 224 7) - 1) S (fun r_2 S_1 => (r_2 = 0 → (K (-1) S_1)) ∧ (¬ r_2 = 0 → (vp_in x1 160 ∧ K ((100 * (S_1 228 (q_rf x1))) + (S_1 229 (q_rf x1))) S_1)))

def w_X9_isOne_4 (x1 : Int32) (K : Int32 → St → Prop) (k4 : Int32 → Int32 → St → Prop) (x2 : Int32) (x3 : Int32) (S : St) : Prop :=
  (4 ≤ x3 → ((¬ x2 = 0 → (K 0 S)) ∧ (x2 = 0 → (K 1 S)))) ∧ (¬ 4 ≤ x3 → (vp_in ((160 * (25 + x1)) + x3) 9760 ∧ ∀ x2_4 : Int32, x2_4 = x2 + (S 227 (q_rf ((160 * (25 + x1)) + x3))) → ∀ x3_5 : Int32, x3_5 = x3 + 1 → k4 x2_4 x3_5 S))
def w_X9_isOne (x1 : Int32) (S : St) (K : Int32 → St → Prop) : Prop :=
  ∃ f, q_it (fun _ _ _ => False) (w_X9_isOne_4 x1 K) f 0 0 S

def w_X9_alone_97 (x1 : Int32) (K : Int32 → St → Prop) (k5 : Int32 → Int32 → St → Prop) (x3 : Int32) (z0 : Int32) (S : St) : Prop :=
  ∀ x3_1 : Int32, x3_1 = x3 + 1 → k5 z0 x3_1 S
def w_X9_alone_96 (x1 : Int32) (K : Int32 → St → Prop) (k5 : Int32 → Int32 → St → Prop) (x2 : Int32) (x3 : Int32) (S : St) : Prop :=
  w_X9_alone_97 x1 K k5 x3 x2 S
def w_X9_alone_57 (x1 : Int32) (K : Int32 → St → Prop) (k5 : Int32 → Int32 → St → Prop) (k29 : Int32 → Int32 → St → Prop) (x2 : Int32) (x3 : Int32) (x4 : Int32) (x6 : Int32) (z0 : Int32) (z1 : Int32) (S : St) : Prop :=
  ∀ x5_1 : Int32, x5_1 = z0 + z1 → ∀ x6_2 : Int32, x6_2 = x6 + 1 → k29 x5_1 x6_2 S
def w_X9_alone_29 (x1 : Int32) (K : Int32 → St → Prop) (k5 : Int32 → Int32 → St → Prop) (x2 : Int32) (x3 : Int32) (x4 : Int32) (k29 : Int32 → Int32 → St → Prop) (x5 : Int32) (x6 : Int32) (S : St) : Prop :=
  (4 ≤ x6 → ((¬ x5 = 0 → (w_X9_alone_96 x1 K k5 x2 x3 S)) ∧ (x5 = 0 → (vp_in (x4 + x1) 9760 ∧ (x2 ≤ (S 227 (q_rf (x4 + x1))) → (w_X9_alone_96 x1 K k5 x2 x3 S)) ∧ (¬ x2 ≤ (S 227 (q_rf (x4 + x1))) → (w_X9_alone_97 x1 K k5 x3 (S 227 (q_rf (x4 + x1))) S)))))) ∧ (¬ 4 ≤ x6 → ((¬ x6 = x1 → (vp_in (x4 + x6) 9760 ∧ w_X9_alone_57 x1 K k5 k29 x2 x3 x4 x6 x5 (S 227 (q_rf (x4 + x6))) S)) ∧ (x6 = x1 → (w_X9_alone_57 x1 K k5 k29 x2 x3 x4 x6 x5 0 S))))
def w_X9_alone_5 (x1 : Int32) (K : Int32 → St → Prop) (k5 : Int32 → Int32 → St → Prop) (x2 : Int32) (x3 : Int32) (S : St) : Prop :=
  ((S 224 6) ≤ x3 → (K x2 S)) ∧ (¬ (S 224 6) ≤ x3 → (∀ x4_2 : Int32, x4_2 = 160 * (25 + x3) → ∃ f, q_it (fun _ _ _ => False) (w_X9_alone_29 x1 K k5 x2 x3 x4_2) f 0 0 S))
def w_X9_alone (x1 : Int32) (S : St) (K : Int32 → St → Prop) : Prop :=
  ∃ f, q_it (fun _ _ _ => False) (w_X9_alone_5 x1 K) f 31 0 S

def w_X9_doesStand_2 (K : Int32 → St → Prop) (k2 : Int32 → St → Prop) (x1 : Int32) (S : St) : Prop :=
  ((S 224 6) ≤ x1 → (K 1 S)) ∧ (¬ (S 224 6) ≤ x1 → (w_X9_divides 227 (160 * (25 + x1)) 232 0 S (fun r_3 S_2 => (r_3 = 0 → (∀ x1_5 : Int32, x1_5 = x1 + 1 → k2 x1_5 S_2)) ∧ (¬ r_3 = 0 → (K 0 S_2)))))
def w_X9_doesStand (S : St) (K : Int32 → St → Prop) : Prop :=
  ∃ f, q_it (fun _ _ => False) (w_X9_doesStand_2 K) f 0 S

def w_X9_layStanding_73 (K : Unit → St → Prop) (x1 : Int32) (k73 : Int32 → St → Prop) (x2 : Int32) (S : St) : Prop :=
  (4 ≤ x2 → (∀ S_2 : St, S_2 = su S 224 35 ((S 224 35) + 1) → K () S_2)) ∧ (¬ 4 ≤ x2 → (vp_in x2 4 ∧ vp_in ((4 * x1) + x2) 1204 ∧ ∀ S_5 : St, S_5 = su S 240 (q_rf ((4 * x1) + x2)) (S 232 (q_rf x2)) → ∀ x2_6 : Int32, x2_6 = x2 + 1 → k73 x2_6 S_5))
def w_X9_layStanding_71 (K : Unit → St → Prop) (x1 : Int32) (S : St) : Prop :=
  ∃ f, q_it (fun _ _ => False) (w_X9_layStanding_73 K x1) f 0 S
def w_X9_layStanding_32 (K : Unit → St → Prop) (k5 : Int32 → St → Prop) (x1 : Int32) (k32 : Int32 → St → Prop) (x2 : Int32) (S : St) : Prop :=
  (4 ≤ x2 → (∀ x1_2 : Int32, x1_2 = x1 + (-1) → k5 x1_2 S)) ∧ (¬ 4 ≤ x2 → (vp_in (((4 * x1) - 4) + x2) 1204 ∧ vp_in ((4 * x1) + x2) 1204 ∧ ∀ S_5 : St, S_5 = su S 240 (q_rf ((4 * x1) + x2)) (S 240 (q_rf (((4 * x1) - 4) + x2))) → ∀ x2_6 : Int32, x2_6 = x2 + 1 → k32 x2_6 S_5))
def w_X9_layStanding_5 (K : Unit → St → Prop) (k5 : Int32 → St → Prop) (x1 : Int32) (S : St) : Prop :=
  (x1 ≤ 0 → (w_X9_layStanding_71 K x1 S)) ∧ (¬ x1 ≤ 0 → (w_X9_stand 240 ((4 * x1) - 4) 232 0 S (fun r_3 S_2 => (r_3 ≤ 0 → (w_X9_layStanding_71 K x1 S_2)) ∧ (¬ r_3 ≤ 0 → (∃ f, q_it (fun _ _ => False) (w_X9_layStanding_32 K k5 x1) f 0 S_2)))))
def w_X9_layStanding (S : St) (K : Unit → St → Prop) : Prop :=
  ∀ x1_1 : Int32, x1_1 = S 224 35 → ∃ f, q_it (fun _ _ => False) (w_X9_layStanding_5 K) f x1_1 S

def w_X9_findStanding_191 (K : Int32 → St → Prop) (k87 : St → Prop) (k109 : St → Prop) (k131 : St → Prop) (k153 : St → Prop) (S : St) : Prop :=
  ∀ S_1 : St, S_1 = su S 232 (q_rf 3) ((S 232 (q_rf 3)) + 1) → k153 S_1
def w_X9_findStanding_153 (K : Int32 → St → Prop) (k87 : St → Prop) (k109 : St → Prop) (k131 : St → Prop) (k153 : St → Prop) (S : St) : Prop :=
  ((S 241 (q_rf 3)) ≤ (S 232 (q_rf 3)) → (∀ S_2 : St, S_2 = su S 232 (q_rf 2) ((S 232 (q_rf 2)) + 1) → k131 S_2)) ∧ (¬ (S 241 (q_rf 3)) ≤ (S 232 (q_rf 3)) → (w_X9_doesStand S (fun r_4 S_3 => (r_4 = 0 → (w_X9_findStanding_191 K k87 k109 k131 k153 S_3)) ∧ (¬ r_4 = 0 → ((¬ (S_3 224 35) = 300 → (w_X9_layStanding S_3 (fun r_8 S_7 => w_X9_findStanding_191 K k87 k109 k131 k153 S_7))) ∧ ((S_3 224 35) = 300 → (K (-1) S_3)))))))
def w_X9_findStanding_131 (K : Int32 → St → Prop) (k87 : St → Prop) (k109 : St → Prop) (k131 : St → Prop) (S : St) : Prop :=
  ((S 241 (q_rf 2)) ≤ (S 232 (q_rf 2)) → (∀ S_2 : St, S_2 = su S 232 (q_rf 1) ((S 232 (q_rf 1)) + 1) → k109 S_2)) ∧ (¬ (S 241 (q_rf 2)) ≤ (S 232 (q_rf 2)) → (∀ S_3 : St, S_3 = su S 232 (q_rf 3) 0 → ∃ f, q_it (fun _ => False) (w_X9_findStanding_153 K k87 k109 k131) f S_3))
def w_X9_findStanding_109 (K : Int32 → St → Prop) (k87 : St → Prop) (k109 : St → Prop) (S : St) : Prop :=
  ((S 241 (q_rf 1)) ≤ (S 232 (q_rf 1)) → (∀ S_2 : St, S_2 = su S 232 (q_rf 0) ((S 232 (q_rf 0)) + 1) → k87 S_2)) ∧ (¬ (S 241 (q_rf 1)) ≤ (S 232 (q_rf 1)) → (∀ S_3 : St, S_3 = su S 232 (q_rf 2) 0 → ∃ f, q_it (fun _ => False) (w_X9_findStanding_131 K k87 k109) f S_3))
def w_X9_findStanding_87 (K : Int32 → St → Prop) (k87 : St → Prop) (S : St) : Prop :=
  ((S 241 (q_rf 0)) ≤ (S 232 (q_rf 0)) → (K (S 224 35) S)) ∧ (¬ (S 241 (q_rf 0)) ≤ (S 232 (q_rf 0)) → (∀ S_2 : St, S_2 = su S 232 (q_rf 1) 0 → ∃ f, q_it (fun _ => False) (w_X9_findStanding_109 K k87) f S_2))
def w_X9_findStanding_60 (K : Int32 → St → Prop) (k33 : Int32 → St → Prop) (x1 : Int32) (z1 : Int32) (z2 : Int32) (S : St) : Prop :=
  vp_in z1 4 ∧ ∀ S_2 : St, S_2 = su S 241 (q_rf z1) z2 → vp_in x1 4 ∧ (¬ (S_2 241 (q_rf x1)) = 31 → (∀ x1_5 : Int32, x1_5 = x1 + 1 → k33 x1_5 S_2)) ∧ ((S_2 241 (q_rf x1)) = 31 → (K (-1) S_2))
def w_X9_findStanding_33 (K : Int32 → St → Prop) (k33 : Int32 → St → Prop) (x1 : Int32) (S : St) : Prop :=
  (4 ≤ x1 → (∀ S_2 : St, S_2 = su S 232 (q_rf 0) 0 → ∃ f, q_it (fun _ => False) (w_X9_findStanding_87 K) f S_2)) ∧ (¬ 4 ≤ x1 → (((S 224 1) ≤ x1 → (w_X9_findStanding_60 K k33 x1 x1 1 S)) ∧ (¬ (S 224 1) ≤ x1 → (w_X9_alone x1 S (fun r_6 S_5 => w_X9_findStanding_60 K k33 x1 x1 r_6 S_5)))))
def w_X9_findStanding_7 (K : Int32 → St → Prop) (k7 : Int32 → St → Prop) (x1 : Int32) (S : St) : Prop :=
  ((S 224 6) ≤ x1 → (∃ f, q_it (fun _ _ => False) (w_X9_findStanding_33 K) f 0 S)) ∧ (¬ (S 224 6) ≤ x1 → (w_X9_isOne x1 S (fun r_4 S_3 => (r_4 = 0 → (∀ x1_6 : Int32, x1_6 = x1 + 1 → k7 x1_6 S_3)) ∧ (¬ r_4 = 0 → (K 0 S_3)))))
def w_X9_findStanding (S : St) (K : Int32 → St → Prop) : Prop :=
  ∀ S_1 : St, S_1 = su S 224 35 0 → ∃ f, q_it (fun _ _ => False) (w_X9_findStanding_7 K) f 0 S_1

def w_X9_standing (S : St) (K : Int32 → St → Prop) : Prop :=
  ((S 224 13) = 0 → (K (-3) S)) ∧ (¬ (S 224 13) = 0 → (w_X9_findStanding S (fun r_3 S_2 => K r_3 S_2)))

def w_X9_stands_53 (x1 : Int32) (x2 : Int32) (K : Int32 → St → Prop) (S : St) : Prop :=
  K (-2) S
def w_X9_stands (x1 : Int32) (x2 : Int32) (S : St) (K : Int32 → St → Prop) : Prop :=
  (¬ (S 224 13) = 0 → (w_X9_findStanding S (fun r_3 S_2 => w_X9_in x1 0 (r_3 - 1) S_2 (fun r_5 S_4 => (r_5 = 0 → (w_X9_stands_53 x1 x2 K S_4)) ∧ (¬ r_5 = 0 → (w_X9_in x2 0 ((S_4 224 1) - 1) S_4 (fun r_8 S_7 => (r_8 = 0 → (w_X9_stands_53 x1 x2 K S_7)) ∧ (¬ r_8 = 0 → (vp_in ((4 * x1) + x2) 1204 ∧ K (S_7 240 (q_rf ((4 * x1) + x2))) S_7))))))))) ∧ ((S 224 13) = 0 → (K (-3) S))

def w_X9_without_115 (x1 : Int32) (K : Int32 → St → Prop) (k29 : Int32 → Int32 → St → Prop) (x3 : Int32) (z0 : Int32) (z1 : Int32) (S : St) : Prop :=
  ∀ x2_1 : Int32, x2_1 = z0 + z1 → ∀ x3_2 : Int32, x3_2 = x3 + 1 → k29 x2_1 x3_2 S
def w_X9_without_60 (x1 : Int32) (K : Int32 → St → Prop) (k29 : Int32 → Int32 → St → Prop) (k43 : Int32 → Int32 → St → Prop) (x2 : Int32) (x3 : Int32) (x5 : Int32) (k60 : Int32 → Int32 → St → Prop) (x4 : Int32) (x6 : Int32) (S : St) : Prop :=
  (x1 ≤ x6 → (∀ x5_2 : Int32, x5_2 = x5 + 1 → k43 x4 x5_2 S)) ∧ (¬ x1 ≤ x6 → (vp_in (((160 * (25 + x3)) + (4 * x5)) + x6) 9760 ∧ ∀ x4_4 : Int32, x4_4 = x4 + (S 227 (q_rf (((160 * (25 + x3)) + (4 * x5)) + x6))) → ∀ x6_5 : Int32, x6_5 = x6 + 1 → k60 x4_4 x6_5 S))
def w_X9_without_43 (x1 : Int32) (K : Int32 → St → Prop) (k29 : Int32 → Int32 → St → Prop) (x2 : Int32) (x3 : Int32) (k43 : Int32 → Int32 → St → Prop) (x4 : Int32) (x5 : Int32) (S : St) : Prop :=
  vp_in (25 + x3) 61 ∧ ((S 225 (q_rf (25 + x3))) ≤ x5 → ((¬ x4 = 0 → (w_X9_without_115 x1 K k29 x3 x2 0 S)) ∧ (x4 = 0 → (w_X9_without_115 x1 K k29 x3 x2 1 S)))) ∧ (¬ (S 225 (q_rf (25 + x3))) ≤ x5 → (∃ f, q_it (fun _ _ _ => False) (w_X9_without_60 x1 K k29 k43 x2 x3 x5) f x4 0 S))
def w_X9_without_29 (x1 : Int32) (K : Int32 → St → Prop) (k29 : Int32 → Int32 → St → Prop) (x2 : Int32) (x3 : Int32) (S : St) : Prop :=
  ((S 224 6) ≤ x3 → (K x2 S)) ∧ (¬ (S 224 6) ≤ x3 → (∃ f, q_it (fun _ _ _ => False) (w_X9_without_43 x1 K k29 x2 x3) f 0 0 S))
def w_X9_without (x1 : Int32) (S : St) (K : Int32 → St → Prop) : Prop :=
  w_X9_in x1 0 (S 224 1) S (fun r_2 S_1 => (¬ r_2 = 0 → ((¬ (S_1 224 13) = 0 → (∃ f, q_it (fun _ _ _ => False) (w_X9_without_29 x1 K) f 0 0 S_1)) ∧ ((S_1 224 13) = 0 → (K (-3) S_1)))) ∧ (r_2 = 0 → (K (-2) S_1)))

def w_X9_zeros_152 (K : Int32 → St → Prop) (k50 : Int32 → Int32 → St → Prop) (x1 : Int32) (x3 : Int32) (z0 : Int32) (z1 : Int32) (S : St) : Prop :=
  ∀ x2_1 : Int32, x2_1 = z0 + z1 → ∀ x3_2 : Int32, x3_2 = x3 + 1 → k50 x2_1 x3_2 S
def w_X9_zeros_141 (K : Int32 → St → Prop) (k50 : Int32 → Int32 → St → Prop) (x1 : Int32) (x2 : Int32) (x3 : Int32) (x5 : Int32) (S : St) : Prop :=
  (x5 = 0 → (w_X9_zeros_152 K k50 x1 x3 x2 0 S)) ∧ (¬ x5 = 0 → (w_X9_zeros_152 K k50 x1 x3 x2 1 S))
def w_X9_zeros_133 (K : Int32 → St → Prop) (k50 : Int32 → Int32 → St → Prop) (k102 : Int32 → Int32 → St → Prop) (x1 : Int32) (x2 : Int32) (x3 : Int32) (x6 : Int32) (z0 : Int32) (S : St) : Prop :=
  ∀ x6_1 : Int32, x6_1 = x6 + 1 → k102 z0 x6_1 S
def w_X9_zeros_102 (K : Int32 → St → Prop) (k50 : Int32 → Int32 → St → Prop) (x1 : Int32) (x2 : Int32) (x3 : Int32) (k102 : Int32 → Int32 → St → Prop) (x5 : Int32) (x6 : Int32) (S : St) : Prop :=
  ((S 224 6) ≤ x6 → (w_X9_zeros_141 K k50 x1 x2 x3 x5 S)) ∧ (¬ (S 224 6) ≤ x6 → ((x5 = 0 → (w_X9_zeros_141 K k50 x1 x2 x3 x5 S)) ∧ (¬ x5 = 0 → (w_X9_valueAt (25 + x6) S (fun r_4 S_3 => (¬ r_4 = 0 → (w_X9_zeros_133 K k50 k102 x1 x2 x3 x6 0 S_3)) ∧ (r_4 = 0 → (w_X9_zeros_133 K k50 k102 x1 x2 x3 x6 1 S_3)))))))
def w_X9_zeros_61 (K : Int32 → St → Prop) (k50 : Int32 → Int32 → St → Prop) (x1 : Int32) (x2 : Int32) (x3 : Int32) (k61 : Int32 → Int32 → St → Prop) (x4 : Int32) (x5 : Int32) (S : St) : Prop :=
  (4 ≤ x5 → (∃ f, q_it (fun _ _ _ => False) (w_X9_zeros_102 K k50 x1 x2 x3) f 1 0 S)) ∧ (¬ 4 ≤ x5 → ((¬ (S 224 0) = 0) ∧ vp_in x5 4 ∧ ∀ S_5 : St, S_5 = su S 235 (q_rf x5) (x4 - x4 / (S 224 0) * (S 224 0)) → (¬ (S_5 224 0) = 0) ∧ ∀ x4_7 : Int32, x4_7 = x4 / (S_5 224 0) → ∀ x5_8 : Int32, x5_8 = x5 + 1 → k61 x4_7 x5_8 S_5))
def w_X9_zeros_50 (K : Int32 → St → Prop) (x1 : Int32) (k50 : Int32 → Int32 → St → Prop) (x2 : Int32) (x3 : Int32) (S : St) : Prop :=
  (x1 ≤ x3 → (K x2 S)) ∧ (¬ x1 ≤ x3 → (∃ f, q_it (fun _ _ _ => False) (w_X9_zeros_61 K k50 x1 x2 x3) f x3 0 S))
def w_X9_zeros_29 (K : Int32 → St → Prop) (k4 : Int32 → Int32 → St → Prop) (x2 : Int32) (z0 : Int32) (S : St) : Prop :=
  ∀ x2_1 : Int32, x2_1 = x2 + 1 → k4 z0 x2_1 S
def w_X9_zeros_4 (K : Int32 → St → Prop) (k4 : Int32 → Int32 → St → Prop) (x1 : Int32) (x2 : Int32) (S : St) : Prop :=
  ((S 224 1) ≤ x2 → ((x1 ≤ 2500 → (∃ f, q_it (fun _ _ _ => False) (w_X9_zeros_50 K x1) f 0 0 S)) ∧ (¬ x1 ≤ 2500 → (K (-3) S)))) ∧ (¬ (S 224 1) ≤ x2 → ((x1 ≤ 2500 → (w_X9_zeros_29 K k4 x2 (x1 * (S 224 0)) S)) ∧ (¬ x1 ≤ 2500 → (w_X9_zeros_29 K k4 x2 x1 S))))
def w_X9_zeros (S : St) (K : Int32 → St → Prop) : Prop :=
  ∃ f, q_it (fun _ _ _ => False) (w_X9_zeros_4 K) f 1 0 S

def w_X9_count_148 (x1 : Int32) (K : Int32 → St → Prop) (k126 : Int32 → Int32 → St → Prop) (x3 : Int32) (z0 : Int32) (z1 : Int32) (S : St) : Prop :=
  ∀ x2_1 : Int32, x2_1 = z0 + z1 → ∀ x3_2 : Int32, x3_2 = x3 + 1 → k126 x2_1 x3_2 S
def w_X9_count_126 (x1 : Int32) (K : Int32 → St → Prop) (k126 : Int32 → Int32 → St → Prop) (x2 : Int32) (x3 : Int32) (S : St) : Prop :=
  (25 ≤ x3 → (K x2 S)) ∧ (¬ 25 ≤ x3 → (vp_in x3 61 ∧ (¬ (S 225 (q_rf x3)) = (-1) → (w_X9_count_148 x1 K k126 x3 x2 1 S)) ∧ ((S 225 (q_rf x3)) = (-1) → (w_X9_count_148 x1 K k126 x3 x2 0 S))))
def w_X9_count (x1 : Int32) (S : St) (K : Int32 → St → Prop) : Prop :=
  ((x1.toInt < 0 ∨ 11 < x1.toInt) → (K (-2) S)) ∧ (x1 = 0 → (K (S 224 0) S)) ∧ (x1 = 1 → (K (S 224 1) S)) ∧ (x1 = 2 → (K (S 224 6) S)) ∧ (x1 = 3 → (K (S 224 7) S)) ∧ (x1 = 4 → (K (S 224 14) S)) ∧ (x1 = 5 → (K (S 224 15) S)) ∧ (x1 = 6 → (K (S 224 16) S)) ∧ (x1 = 7 → (K (S 224 17) S)) ∧ (x1 = 8 → (K (S 224 18) S)) ∧ (x1 = 9 → (((S 224 13) = 0 → (K 0 S)) ∧ (¬ (S 224 13) = 0 → (K 1 S)))) ∧ (x1 = 10 → (∃ f, q_it (fun _ _ _ => False) (w_X9_count_126 x1 K) f 0 1 S)) ∧ (x1 = 11 → (K (S 224 19) S))

def w_X9_digested_54 (y1 : Int64) (x3 : Int32) (K : Int64 → St → Prop) (k18 : Int64 → Int32 → St → Prop) (x6 : Int32) (k54 : Int64 → Int32 → St → Prop) (y4 : Int64) (x7 : Int32) (S : St) : Prop :=
  ((S 224 1) ≤ x7 → (∀ x6_2 : Int32, x6_2 = x6 + 1 → k18 y4 x6_2 S)) ∧ (¬ (S 224 1) ≤ x7 → (vp_in (((160 * x3) + (4 * x6)) + x7) 9760 ∧ ∀ y4_4 : Int64, y4_4 = (31 * y4) + ((S 227 (q_rf (((160 * x3) + (4 * x6)) + x7))).toInt64) → ∀ x7_5 : Int32, x7_5 = x7 + 1 → k54 y4_4 x7_5 S))
def w_X9_digested_18 (y1 : Int64) (x3 : Int32) (K : Int64 → St → Prop) (k18 : Int64 → Int32 → St → Prop) (y4 : Int64) (x6 : Int32) (S : St) : Prop :=
  vp_in x3 61 ∧ ((S 225 (q_rf x3)) ≤ x6 → (K y4 S)) ∧ (¬ (S 225 (q_rf x3)) ≤ x6 → (vp_in ((40 * x3) + x6) 2440 ∧ ∀ y4_4 : Int64, y4_4 = (31 * y4) + ((S 226 (q_rf ((40 * x3) + x6))).toInt64) → ∃ f, q_it (fun _ _ _ => False) (w_X9_digested_54 y1 x3 K k18 x6) f y4_4 0 S))
def w_X9_digested (y1 : Int64) (x3 : Int32) (S : St) (K : Int64 → St → Prop) : Prop :=
  vp_in x3 61 ∧ ∀ y4_2 : Int64, y4_2 = (31 * y1) + ((S 225 (q_rf x3)).toInt64) → ∃ f, q_it (fun _ _ _ => False) (w_X9_digested_18 y1 x3 K) f y4_2 0 S

def w_X9_digest_51 (K : Int64 → St → Prop) (k51 : Int64 → Int32 → St → Prop) (y1 : Int64) (x3 : Int32) (S : St) : Prop :=
  ((S 224 6) ≤ x3 → (K y1 S)) ∧ (¬ (S 224 6) ≤ x3 → (w_X9_digested y1 (25 + x3) S (fun r_3 S_2 => ∀ x3_4 : Int32, x3_4 = x3 + 1 → k51 r_3 x3_4 S_2)))
def w_X9_digest_43 (K : Int64 → St → Prop) (k11 : Int64 → Int32 → St → Prop) (y1 : Int64) (x3 : Int32) (S : St) : Prop :=
  ∀ x3_1 : Int32, x3_1 = x3 + 1 → k11 y1 x3_1 S
def w_X9_digest_11 (K : Int64 → St → Prop) (k11 : Int64 → Int32 → St → Prop) (y1 : Int64) (x3 : Int32) (S : St) : Prop :=
  (25 ≤ x3 → (∃ f, q_it (fun _ _ _ => False) (w_X9_digest_51 K) f y1 0 S)) ∧ (¬ 25 ≤ x3 → (vp_in x3 61 ∧ ((S 225 (q_rf x3)) = (-1) → (w_X9_digest_43 K k11 y1 x3 S)) ∧ (¬ (S 225 (q_rf x3)) = (-1) → (w_X9_digested ((31 * y1) + ((x3 - 1).toInt64)) x3 S (fun r_6 S_5 => w_X9_digest_43 K k11 r_6 x3 S_5)))))
def w_X9_digest (S : St) (K : Int64 → St → Prop) : Prop :=
  w_X9_digested 17 0 S (fun r_2 S_1 => ∃ f, q_it (fun _ _ _ => False) (w_X9_digest_11 K) f r_2 1 S_1)

def w_L_cell (q0 : Nat) (x1 : Int32) (S : St) (K : Int32 → St → Prop) : Prop :=
  ((nI (alen q0)) ≤ x1 → (K 0 S)) ∧ (¬ (nI (alen q0)) ≤ x1 → (vp_in x1 (alen q0) ∧ K (S q0 (q_rf x1)) S))
