def w2_X9_in_14 (E : Nat) (x0 : Int32) (x1 : Int32) (x2 : Int32) (K : Int32 → St → Prop) (S : St) : Prop :=
  K 0 S
def w2_X9_in (E : Nat) (x0 : Int32) (x1 : Int32) (x2 : Int32) (S : St) (K : Int32 → St → Prop) : Prop :=
  (x0 < x1 → (w2_X9_in_14 E x0 x1 x2 K S)) ∧ (¬ x0 < x1 → ((x2 < x0 → (w2_X9_in_14 E x0 x1 x2 K S)) ∧ (¬ x2 < x0 → (K 1 S))))

def w2_X9_isPrime_15 (E : Nat) (x0 : Int32) (K : Int32 → St → Prop) (k15 : Int32 → St → Prop) (x1 : Int32) (S : St) : Prop :=
  (x0 < (x1 * x1) → (K 1 S)) ∧ (¬ x0 < (x1 * x1) → ((¬ x1 = 0) ∧ (¬ (x0 - x0 / x1 * x1) = 0 → (∀ x1_4 : Int32, x1_4 = x1 + 1 → k15 x1_4 S)) ∧ ((x0 - x0 / x1 * x1) = 0 → (K 0 S))))
def w2_X9_isPrime (E : Nat) (x0 : Int32) (S : St) (K : Int32 → St → Prop) : Prop :=
  w2_X9_in E x0 2 251 S (fun r_2 S_1 => (¬ r_2 = 0 → (∃ f, q_it (fun _ _ => False) (w2_X9_isPrime_15 E x0 K) f 2 S_1)) ∧ (r_2 = 0 → (K 0 S_1)))

def w2_X8_isPrimeInRange_12 (E : Nat) (x0 : Int32) (K : Int32 → St → Prop) (S : St) : Prop :=
  K 0 S
def w2_X8_isPrimeInRange_16 (E : Nat) (x0 : Int32) (K : Int32 → St → Prop) (k16 : Int32 → St → Prop) (x1 : Int32) (S : St) : Prop :=
  (x0 ≤ x1 → (K 1 S)) ∧ (¬ x0 ≤ x1 → ((¬ x1 = 0) ∧ (¬ (x0 - x0 / x1 * x1) = 0 → (∀ x1_4 : Int32, x1_4 = x1 + 1 → k16 x1_4 S)) ∧ ((x0 - x0 / x1 * x1) = 0 → (K 0 S))))
def w2_X8_isPrimeInRange (E : Nat) (x0 : Int32) (S : St) (K : Int32 → St → Prop) : Prop :=
  (x0 < 2 → (w2_X8_isPrimeInRange_12 E x0 K S)) ∧ (¬ x0 < 2 → ((x0 ≤ 251 → (∃ f, q_it (fun _ _ => False) (w2_X8_isPrimeInRange_16 E x0 K) f 2 S)) ∧ (¬ x0 ≤ 251 → (w2_X8_isPrimeInRange_12 E x0 K S))))

def w2_X3_push (x1 : Int32) (x2 : Int32) (S : St) (K : Int32 → St → Prop) : Prop :=
  ((S 13 2) < 40 → ((S 13 0 = nI 14) ∧ vp_in (S 13 2) 40 ∧ ∀ S_4 : St, S_4 = su S 14 (q_rf (S 13 2)) x1 → (S_4 13 1 = nI 15) ∧ vp_in (S_4 13 2) 40 ∧ ∀ S_7 : St, S_7 = su S_4 15 (q_rf (S_4 13 2)) x2 → ∀ S_8 : St, S_8 = su S_7 13 2 ((S_7 13 2) + 1) → K 1 S_8)) ∧ (¬ (S 13 2) < 40 → (K 0 S))

def w2_X3_init (q0 : Nat) (S : St) (K : Unit → St → Prop) : Prop :=
  ∀ S_1 : St, S_1 = sn S (q0 + 1) (fun _ => 0) → ∀ S_2 : St, S_2 = su S_1 q0 0 (nI (q0 + 1)) → ∀ S_3 : St, S_3 = sn S_2 (q0 + 2) (fun _ => 0) → ∀ S_4 : St, S_4 = su S_3 q0 1 (nI (q0 + 2)) → K () S_4

def w2_X2_init (S : St) (K : Unit → St → Prop) : Prop :=
  ∀ S_1 : St, S_1 = sn S 106 (fun _ => 0) → ∀ S_2 : St, S_2 = su S_1 105 0 (nI 106) → ∀ S_3 : St, S_3 = sn S_2 107 (fun _ => 0) → ∀ S_4 : St, S_4 = su S_3 105 1 (nI 107) → K () S_4

def w2_X5_init (x1 : Int32) (x2 : Int32) (S : St) (K : Unit → St → Prop) : Prop :=
  ∀ S_1 : St, S_1 = su S 1 2 2 → ∀ S_2 : St, S_2 = sn S_1 2 (fun _ => 0) → ∀ S_3 : St, S_3 = su S_2 1 3 (nI 2) → ∀ S_4 : St, S_4 = sn S_3 3 (fun _ => 0) → ∀ S_5 : St, S_5 = su S_4 1 4 (nI 3) → ∀ S_6 : St, S_6 = sn S_5 4 fresh_2 → w2_X3_init 4 S_6 (fun r_8 S_7 => ∀ S_9 : St, S_9 = su S_7 1 5 (nI 4) → ∀ S_10 : St, S_10 = sn S_9 7 fresh_2 → w2_X3_init 7 S_10 (fun r_12 S_11 => ∀ S_13 : St, S_13 = su S_11 1 6 (nI 7) → ∀ S_14 : St, S_14 = su S_13 1 0 x1 → ∀ S_15 : St, S_15 = su S_14 1 1 x2 → K () S_15))

def w2_X6_init_23 (K : Unit → St → Prop) (k23 : Nat → Int32 → St → Prop) (E : Nat) (x1 : Int32) (S : St) : Prop :=
  (24 ≤ x1 → (E = 94 ∧ K () S)) ∧ (¬ 24 ≤ x1 → ((19 < E ∧ kd 19 = (3, 5)) ∧ (S 19 0 = nI 20) ∧ kd E = (3, 2) ∧ ∀ S_5 : St, S_5 = sn S E fresh_2 → isP E ∧ w2_X3_init E S_5 (fun r_9 S_8 => (20 < (E + 3) ∧ kd 20 = (2, 24)) ∧ (E < (E + 3) ∧ kd E = (3, 2)) ∧ vp_in x1 24 ∧ ∀ S_13 : St, S_13 = su S_8 20 (q_rf x1) (nI E) → ∀ x1_14 : Int32, x1_14 = x1 + 1 → k23 (E + 3) x1_14 S_13)))
def w2_X6_init (S : St) (K : Unit → St → Prop) : Prop :=
  ∀ S_1 : St, S_1 = sn S 20 (fun _ => -1) → ∀ S_2 : St, S_2 = su S_1 19 0 (nI 20) → ∀ S_3 : St, S_3 = sn S_2 21 (fun _ => 0) → ∀ S_4 : St, S_4 = su S_3 19 1 (nI 21) → q_it (fun _ _ _ => False) (w2_X6_init_23 K) 25 22 0 S_4

def w2_X4_init (S : St) (K : Unit → St → Prop) : Prop :=
  ∀ S_1 : St, S_1 = sn S 95 fresh_2 → w2_X3_init 95 S_1 (fun r_3 S_2 => ∀ S_4 : St, S_4 = su S_2 94 1 (nI 95) → ∀ S_5 : St, S_5 = sn S_4 98 fresh_2 → w2_X3_init 98 S_5 (fun r_7 S_6 => ∀ S_8 : St, S_8 = su S_6 94 2 (nI 98) → ∀ S_9 : St, S_9 = sn S_8 101 fresh_2 → w2_X3_init 101 S_9 (fun r_11 S_10 => ∀ S_12 : St, S_12 = su S_10 94 3 (nI 101) → ∀ S_13 : St, S_13 = su S_12 94 4 500 → ∀ S_14 : St, S_14 = su S_13 94 0 (nI 1) → K () S_14)))

def w2_X0_init_64 (K : Unit → St → Prop) (k64 : Nat → Int32 → St → Prop) (E : Nat) (x3 : Int32) (S : St) : Prop :=
  (18 ≤ x3 → (E = 222 ∧ K () S)) ∧ (¬ 18 ≤ x3 → ((104 < E ∧ kd 104 = (3, 0)) ∧ (S 104 3 = nI 108) ∧ kd E = (3, 2) ∧ ∀ S_5 : St, S_5 = sn S E fresh_2 → isP E ∧ w2_X3_init E S_5 (fun r_9 S_8 => (108 < (E + 3) ∧ kd 108 = (2, 18)) ∧ (E < (E + 3) ∧ kd E = (3, 2)) ∧ vp_in x3 18 ∧ ∀ S_13 : St, S_13 = su S_8 108 (q_rf x3) (nI E) → (104 < (E + 3) ∧ kd 104 = (3, 0)) ∧ (S_13 104 4 = nI 109) ∧ kd (E + 3) = (3, 2) ∧ ∀ S_16 : St, S_16 = sn S_13 (E + 3) fresh_2 → isP (E + 3) ∧ w2_X3_init (E + 3) S_16 (fun r_20 S_19 => (109 < (E + 6) ∧ kd 109 = (2, 18)) ∧ ((E + 3) < (E + 6) ∧ kd (E + 3) = (3, 2)) ∧ ∀ S_23 : St, S_23 = su S_19 109 (q_rf x3) (nI (E + 3)) → ∀ x3_24 : Int32, x3_24 = x3 + 1 → k64 (E + 6) x3_24 S_23))))
def w2_X0_init (S : St) (K : Unit → St → Prop) : Prop :=
  ∀ S_1 : St, S_1 = sn S 105 fresh_1 → w2_X2_init S_1 (fun r_3 S_2 => ∀ S_4 : St, S_4 = su S_2 104 2 (nI 105) → ∀ S_5 : St, S_5 = sn S_4 108 (fun _ => -1) → ∀ S_6 : St, S_6 = su S_5 104 3 (nI 108) → ∀ S_7 : St, S_7 = sn S_6 109 (fun _ => -1) → ∀ S_8 : St, S_8 = su S_7 104 4 (nI 109) → ∀ S_9 : St, S_9 = sn S_8 110 (fun _ => 0) → ∀ S_10 : St, S_10 = su S_9 104 5 (nI 110) → ∀ S_11 : St, S_11 = sn S_10 111 fresh_2 → w2_X3_init 111 S_11 (fun r_13 S_12 => ∀ S_14 : St, S_14 = su S_12 104 6 (nI 111) → ∀ S_15 : St, S_15 = su S_14 104 0 (nI 1) → ∀ S_16 : St, S_16 = su S_15 104 1 (nI 94) → q_it (fun _ _ _ => False) (w2_X0_init_64 K) 19 114 0 S_16))

def w2_X7_init (S : St) (K : Unit → St → Prop) : Prop :=
  ∀ S_1 : St, S_1 = sn S 223 (fun _ => 0) → ∀ S_2 : St, S_2 = su S_1 222 2 (nI 223) → ∀ S_3 : St, S_3 = su S_2 222 0 (nI 1) → ∀ S_4 : St, S_4 = su S_3 222 1 (nI 104) → K () S_4

def w2_X8_init_37 (x1 : Int32) (x2 : Int32) (K : Unit → St → Prop) (z3 : Int32) (z4 : Int32) (S : St) : Prop :=
  w2_X5_init z3 z4 S (fun r_2 S_1 => ∀ S_3 : St, S_3 = su S_1 0 0 (nI 1) → ∀ S_4 : St, S_4 = sn S_3 10 fresh_2 → w2_X3_init 10 S_4 (fun r_6 S_5 => ∀ S_7 : St, S_7 = su S_5 0 1 (nI 10) → ∀ S_8 : St, S_8 = sn S_7 13 fresh_2 → w2_X3_init 13 S_8 (fun r_10 S_9 => ∀ S_11 : St, S_11 = su S_9 0 2 (nI 13) → (S_11 0 2 = nI 13) ∧ w2_X3_push 1 0 S_11 (fun r_14 S_13 => ∀ S_15 : St, S_15 = sn S_13 16 fresh_2 → w2_X3_init 16 S_15 (fun r_17 S_16 => ∀ S_18 : St, S_18 = su S_16 0 3 (nI 16) → ∀ S_19 : St, S_19 = sn S_18 19 fresh_5 → w2_X6_init S_19 (fun r_21 S_20 => ∀ S_22 : St, S_22 = su S_20 0 4 (nI 19) → ∀ S_23 : St, S_23 = sn S_22 94 fresh_3 → (S_23 0 0 = nI 1) ∧ w2_X4_init S_23 (fun r_26 S_25 => ∀ S_27 : St, S_27 = su S_25 0 5 (nI 94) → ∀ S_28 : St, S_28 = sn S_27 104 fresh_0 → (S_28 0 0 = nI 1) ∧ (S_28 0 5 = nI 94) ∧ w2_X0_init S_28 (fun r_32 S_31 => ∀ S_33 : St, S_33 = su S_31 0 6 (nI 104) → ∀ S_34 : St, S_34 = sn S_33 222 fresh_6 → (S_34 0 0 = nI 1) ∧ (S_34 0 6 = nI 104) ∧ w2_X7_init S_34 (fun r_38 S_37 => ∀ S_39 : St, S_39 = su S_37 0 7 (nI 222) → K () S_39)))))))))
def w2_X8_init_36 (x1 : Int32) (x2 : Int32) (K : Unit → St → Prop) (z3 : Int32) (S : St) : Prop :=
  w2_X8_init_37 x1 x2 K z3 3 S
def w2_X8_init_22 (x1 : Int32) (x2 : Int32) (K : Unit → St → Prop) (z3 : Int32) (S : St) : Prop :=
  (x2 < 1 → (w2_X8_init_36 x1 x2 K z3 S)) ∧ (¬ x2 < 1 → ((4 < x2 → (w2_X8_init_36 x1 x2 K z3 S)) ∧ (¬ 4 < x2 → (w2_X8_init_37 x1 x2 K z3 x2 S))))
def w2_X8_init (x1 : Int32) (x2 : Int32) (S : St) (K : Unit → St → Prop) : Prop :=
  ∀ S_1 : St, S_1 = sn S 1 fresh_4 → w2_X8_isPrimeInRange 2 x1 S_1 (fun r_3 S_2 => (r_3 = 0 → (w2_X8_init_22 x1 x2 K 7 S_2)) ∧ (¬ r_3 = 0 → (w2_X8_init_22 x1 x2 K x1 S_2)))

def w2_X9_init_192 (x1 : Int32) (x2 : Int32) (K : Unit → St → Prop) (k192 : Int32 → St → Prop) (x3 : Int32) (S : St) : Prop :=
  (25 ≤ x3 → (K () S)) ∧ (¬ 25 ≤ x3 → ((S 224 3 = nI 225) ∧ vp_in x3 61 ∧ ∀ S_4 : St, S_4 = su S 225 (q_rf x3) (-1) → ∀ x3_5 : Int32, x3_5 = x3 + 1 → k192 x3_5 S_4))
def w2_X9_init_187 (x1 : Int32) (x2 : Int32) (K : Unit → St → Prop) (z1 : Int32) (S : St) : Prop :=
  ∀ S_1 : St, S_1 = su S 224 1 z1 → ∃ f, q_it (fun _ _ => False) (w2_X9_init_192 x1 x2 K) f 1 S_1
def w2_X9_init_186 (x1 : Int32) (x2 : Int32) (K : Unit → St → Prop) (S : St) : Prop :=
  w2_X9_init_187 x1 x2 K 3 S
def w2_X9_init_168 (x1 : Int32) (x2 : Int32) (K : Unit → St → Prop) (z1 : Int32) (S : St) : Prop :=
  ∀ S_1 : St, S_1 = su S 224 0 z1 → (x2 < 1 → (w2_X9_init_186 x1 x2 K S_1)) ∧ (¬ x2 < 1 → ((4 < x2 → (w2_X9_init_186 x1 x2 K S_1)) ∧ (¬ 4 < x2 → (w2_X9_init_187 x1 x2 K x2 S_1))))
def w2_X9_init (x1 : Int32) (x2 : Int32) (S : St) (K : Unit → St → Prop) : Prop :=
  ∀ S_1 : St, S_1 = su S 224 2 2 → ∀ S_2 : St, S_2 = sn S_1 225 (fun _ => 0) → ∀ S_3 : St, S_3 = su S_2 224 3 (nI 225) → ∀ S_4 : St, S_4 = sn S_3 226 (fun _ => 0) → ∀ S_5 : St, S_5 = su S_4 224 4 (nI 226) → ∀ S_6 : St, S_6 = sn S_5 227 (fun _ => 0) → ∀ S_7 : St, S_7 = su S_6 224 5 (nI 227) → ∀ S_8 : St, S_8 = sn S_7 228 (fun _ => 0) → ∀ S_9 : St, S_9 = su S_8 224 8 (nI 228) → ∀ S_10 : St, S_10 = sn S_9 229 (fun _ => 0) → ∀ S_11 : St, S_11 = su S_10 224 9 (nI 229) → ∀ S_12 : St, S_12 = su S_11 224 10 500 → ∀ S_13 : St, S_13 = sn S_12 230 (fun _ => 0) → ∀ S_14 : St, S_14 = su S_13 224 21 (nI 230) → ∀ S_15 : St, S_15 = sn S_14 231 (fun _ => 0) → ∀ S_16 : St, S_16 = su S_15 224 22 (nI 231) → ∀ S_17 : St, S_17 = sn S_16 232 (fun _ => 0) → ∀ S_18 : St, S_18 = su S_17 224 23 (nI 232) → ∀ S_19 : St, S_19 = sn S_18 233 (fun _ => 0) → ∀ S_20 : St, S_20 = su S_19 224 24 (nI 233) → ∀ S_21 : St, S_21 = sn S_20 234 (fun _ => 0) → ∀ S_22 : St, S_22 = su S_21 224 25 (nI 234) → ∀ S_23 : St, S_23 = sn S_22 235 (fun _ => 0) → ∀ S_24 : St, S_24 = su S_23 224 26 (nI 235) → ∀ S_25 : St, S_25 = sn S_24 236 (fun _ => 0) → ∀ S_26 : St, S_26 = su S_25 224 28 (nI 236) → ∀ S_27 : St, S_27 = sn S_26 237 (fun _ => 0) → ∀ S_28 : St, S_28 = su S_27 224 31 (nI 237) → ∀ S_29 : St, S_29 = sn S_28 238 (fun _ => 0) → ∀ S_30 : St, S_30 = su S_29 224 32 (nI 238) → ∀ S_31 : St, S_31 = sn S_30 239 (fun _ => 0) → ∀ S_32 : St, S_32 = su S_31 224 33 (nI 239) → ∀ S_33 : St, S_33 = sn S_32 240 (fun _ => 0) → ∀ S_34 : St, S_34 = su S_33 224 36 (nI 240) → ∀ S_35 : St, S_35 = sn S_34 241 (fun _ => 0) → ∀ S_36 : St, S_36 = su S_35 224 37 (nI 241) → w2_X9_isPrime 242 x1 S_36 (fun r_38 S_37 => (r_38 = 0 → (w2_X9_init_168 x1 x2 K 7 S_37)) ∧ (¬ r_38 = 0 → (w2_X9_init_168 x1 x2 K x1 S_37)))
