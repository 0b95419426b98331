/-! the cells of both systems, by their numbers in the order in which the constructors lay them; cell c lies at G.1 + c -/
abbrev St : Type := Nat → Nat → Int32
abbrev Cx : Type := Nat × va_G × (Nat → ClassId)
/-- a number as the number of a cell -/
def q_rf (x : Int32) : Nat := x.toNatClampNeg
def kdTab : List (Nat × Nat) := [(3, 7), (3, 4), (0, 4), (0, 40), (3, 2), (0, 40), (0, 40), (3, 2), (0, 40), (0, 40), (3, 2), (0, 40), (0, 40), (3, 2), (0, 40), (0, 40), (3, 2), (0, 40), (0, 40), (3, 5), (2, 24), (1, 24), (3, 2), (0, 40), (0, 40), (3, 2), (0, 40), (0, 40), (3, 2), (0, 40), (0, 40), (3, 2), (0, 40), (0, 40), (3, 2), (0, 40), (0, 40), (3, 2), (0, 40), (0, 40), (3, 2), (0, 40), (0, 40), (3, 2), (0, 40), (0, 40), (3, 2), (0, 40), (0, 40), (3, 2), (0, 40), (0, 40), (3, 2), (0, 40), (0, 40), (3, 2), (0, 40), (0, 40), (3, 2), (0, 40), (0, 40), (3, 2), (0, 40), (0, 40), (3, 2), (0, 40), (0, 40), (3, 2), (0, 40), (0, 40), (3, 2), (0, 40), (0, 40), (3, 2), (0, 40), (0, 40), (3, 2), (0, 40), (0, 40), (3, 2), (0, 40), (0, 40), (3, 2), (0, 40), (0, 40), (3, 2), (0, 40), (0, 40), (3, 2), (0, 40), (0, 40), (3, 2), (0, 40), (0, 40), (3, 3), (3, 2), (0, 40), (0, 40), (3, 2), (0, 40), (0, 40), (3, 2), (0, 40), (0, 40), (3, 0), (3, 1), (0, 153), (0, 153), (2, 18), (2, 18), (0, 18), (3, 2), (0, 40), (0, 40), (3, 2), (0, 40), (0, 40), (3, 2), (0, 40), (0, 40), (3, 2), (0, 40), (0, 40), (3, 2), (0, 40), (0, 40), (3, 2), (0, 40), (0, 40), (3, 2), (0, 40), (0, 40), (3, 2), (0, 40), (0, 40), (3, 2), (0, 40), (0, 40), (3, 2), (0, 40), (0, 40), (3, 2), (0, 40), (0, 40), (3, 2), (0, 40), (0, 40), (3, 2), (0, 40), (0, 40), (3, 2), (0, 40), (0, 40), (3, 2), (0, 40), (0, 40), (3, 2), (0, 40), (0, 40), (3, 2), (0, 40), (0, 40), (3, 2), (0, 40), (0, 40), (3, 2), (0, 40), (0, 40), (3, 2), (0, 40), (0, 40), (3, 2), (0, 40), (0, 40), (3, 2), (0, 40), (0, 40), (3, 2), (0, 40), (0, 40), (3, 2), (0, 40), (0, 40), (3, 2), (0, 40), (0, 40), (3, 2), (0, 40), (0, 40), (3, 2), (0, 40), (0, 40), (3, 2), (0, 40), (0, 40), (3, 2), (0, 40), (0, 40), (3, 2), (0, 40), (0, 40), (3, 2), (0, 40), (0, 40), (3, 2), (0, 40), (0, 40), (3, 2), (0, 40), (0, 40), (3, 2), (0, 40), (0, 40), (3, 2), (0, 40), (0, 40), (3, 2), (0, 40), (0, 40), (3, 2), (0, 40), (0, 40), (3, 6), (0, 300), (3, 8), (0, 61), (0, 2440), (0, 9760), (0, 160), (0, 160), (0, 1700), (0, 6800), (0, 4), (0, 4), (0, 4), (0, 4), (0, 18), (0, 40), (0, 160), (0, 4), (0, 1204), (0, 4)]
/-- what cell c is: (0, n) ints, (1, n) booleans, (2, n) rows of polynomials, (3, k) an object of the k-th kind -/
def kd (c : Nat) : Nat × Nat := kdTab.getD c (9, 0)
def pidx (c j : Nat) : Nat := if c = 20 then 22 + 3 * j else if c = 108 then 114 + 6 * j else 117 + 6 * j
def su (S : St) (c k : Nat) (v : Int32) : St := fun d => if d = c then upd (S c) k v else S d
theorem su_eq (S : St) (c k : Nat) (v : Int32) : su S c k v c = upd (S c) k v := if_pos rfl
theorem su_ne (S : St) {c d : Nat} (k : Nat) (v : Int32) (h : d ≠ c) : su S c k v d = S d := if_neg h
def objF (G : Cx) (S : St) (c : Nat) : Nat → List Value
  | 0 => [.ref (G.1 + 1), .ref (G.1 + 94), .ref (G.1 + 105), .ref (G.1 + q_rf (S c 3)), .ref (G.1 + q_rf (S c 4)), .ref (G.1 + 110), .ref (G.1 + 111), .int (S c 7), .int (S c 8), .int (S c 9), .int (S c 10), .int (S c 11), .int (S c 12), .int (S c 13), .int (S c 14)]
  | 1 => [.ref (G.1 + 106), .ref (G.1 + 107), .int (S c 2)]
  | 2 => [.ref (G.1 + (c + 1)), .ref (G.1 + (c + 2)), .int (S c 2)]
  | 3 => [.ref (G.1 + 1), .ref (G.1 + q_rf (S c 1)), .ref (G.1 + q_rf (S c 2)), .ref (G.1 + 101), .int (S c 4), .int (S c 5), .int (S c 6)]
  | 4 => [.int (S c 0), .int (S c 1), .int (S c 2), .ref (G.1 + 2), .ref (G.1 + 3), .ref (G.1 + 4), .ref (G.1 + 7)]
  | 5 => [.ref (G.1 + 20), .ref (G.1 + 21), .int (S c 2)]
  | 6 => [.ref (G.1 + 1), .ref (G.1 + 104), .ref (G.1 + 223)]
  | 7 => [.ref (G.1 + 1), .ref (G.1 + 10), .ref (G.1 + 13), .ref (G.1 + 16), .ref (G.1 + 19), .ref (G.1 + 94), .ref (G.1 + 104), .ref (G.1 + 222)]
  | 8 => [.int (S c 0), .int (S c 1), .int (S c 2), .ref (G.1 + 225), .ref (G.1 + 226), .ref (G.1 + 227), .int (S c 6), .int (S c 7), .ref (G.1 + 228), .ref (G.1 + 229), .int (S c 10), .int (S c 11), .int (S c 12), .int (S c 13), .int (S c 14), .int (S c 15), .int (S c 16), .int (S c 17), .int (S c 18), .int (S c 19), .int (S c 20), .ref (G.1 + 230), .ref (G.1 + 231), .ref (G.1 + 232), .ref (G.1 + 233), .ref (G.1 + 234), .ref (G.1 + 235), .int (S c 27), .ref (G.1 + 236), .int (S c 29), .int (S c 30), .ref (G.1 + 237), .ref (G.1 + 238), .ref (G.1 + 239), .int (S c 34), .int (S c 35), .ref (G.1 + 240), .ref (G.1 + 241)]
  | _ => []
def cellE (G : Cx) (S : St) (c : Nat) : va_E := match kd c with
  | (0, n) => .inl (G.2.2 0, n, .inl (S c))
  | (1, n) => .inl (G.2.2 1, n, .inl (S c))
  | (2, n) => .inl (G.2.2 2, n, .inr (.inr (.inr (.inr (fun j => some (G.1 + pidx c j))))))
  | (_, k) => .inr (k, objF G S c k)
theorem ce_I {G : Cx} {S : St} {c n : Nat} (h : kd c = (0, n)) : cellE G S c = .inl (G.2.2 0, n, .inl (S c)) := by simp [cellE, h]
theorem ce_Z {G : Cx} {S : St} {c n : Nat} (h : kd c = (1, n)) : cellE G S c = .inl (G.2.2 1, n, .inl (S c)) := by simp [cellE, h]
theorem ce_R {G : Cx} {S : St} {c n : Nat} (h : kd c = (2, n)) : cellE G S c = .inl (G.2.2 2, n, .inr (.inr (.inr (.inr (fun j => some (G.1 + pidx c j)))))) := by simp [cellE, h]
theorem ce_O {G : Cx} {S : St} {c k : Nat} (h : kd c = (3, k)) : cellE G S c = .inr (k, objF G S c k) := by simp [cellE, h]
def wsOf (G : Cx) (S : St) : va_W := (List.range 242).map (fun c => (G.1 + c, cellE G S c))
abbrev tysOf (G : Cx) : List (ClassId × FieldType) := [(G.2.2 0, .int), (G.2.2 1, .boolean), (G.2.2 2, .object RX3)]
abbrev fr_ (G : Cx) : Nat → Prop := fun q => G.1 ≤ q
theorem ws_at {G : Cx} {S : St} {c : Nat} (h : c < 242) : (wsOf G S)[c]? = some (G.1 + c, cellE G S c) := by
  simp [wsOf, h]
theorem ws_len {G : Cx} {S : St} : (wsOf G S).length = 242 := by simp [wsOf]
theorem ws_inv {G : Cx} {S : St} {k : Nat} {q : Nat × va_E} (h : (wsOf G S)[k]? = some q) : q = (G.1 + k, cellE G S k) ∧ k < 242 := by
  have hl := (List.getElem?_eq_some_iff.mp h).1
  rw [ws_len] at hl
  rw [ws_at hl] at h
  exact ⟨(Option.some.inj h).symm, hl⟩
theorem ws_D {G : Cx} {S : St} : va_D (fr_ G) (wsOf G S) := by
  refine ⟨fun i j p q hi hj hpq => ?_, fun k q hk => ?_⟩
  · obtain ⟨rfl, -⟩ := ws_inv hi
    obtain ⟨rfl, -⟩ := ws_inv hj
    exact Nat.add_left_cancel hpq
  · obtain ⟨rfl, -⟩ := ws_inv hk
    exact Nat.le_add_right _ _
/-- a cell that doesn't see a change in another one -/
theorem cellE_congr {G : Cx} {S S' : St} {c : Nat} (h : S' c = S c) : cellE G S' c = cellE G S c := by
  have ho : ∀ k, objF G S' c k = objF G S c k := by
    intro k
    rcases k with _ | _ | _ | _ | _ | _ | _ | _ | _ | k <;> simp [objF, h]
  unfold cellE
  split <;> simp [h, ho]
theorem ws_set {G : Cx} {S : St} {c k : Nat} {v : Int32} {e : va_E} (he : cellE G (su S c k v) c = e) : (wsOf G S).set c (G.1 + c, e) = wsOf G (su S c k v) := by
  apply List.ext_getElem?
  intro i
  by_cases hi : i < 242
  · rw [ws_at hi]
    by_cases hic : i = c
    · subst hic
      rw [List.getElem?_set_self (by rw [ws_len]; exact hi), he]
    · rw [List.getElem?_set_ne (Ne.symm hic), ws_at hi, cellE_congr (su_ne S k v hic)]
  · rw [List.getElem?_eq_none (by rw [List.length_set, ws_len]; omega), List.getElem?_eq_none (by rw [ws_len]; omega)]
/-- a polynomial's cell -/
def isP (q : Nat) : Prop := q < 242 ∧ kd q = (3, 2)
theorem isP_all : ∀ q, q < 242 → kd q = (3, 2) → (q + 2 < 242 ∧ kd (q + 1) = (0, 40)) ∧ kd (q + 2) = (0, 40) := by decide +kernel
theorem isP_1 {q : Nat} (h : isP q) : q + 1 < 242 ∧ kd (q + 1) = (0, 40) := ⟨Nat.lt_of_succ_lt (isP_all q h.1 h.2).1.1, (isP_all q h.1 h.2).1.2⟩
theorem isP_2 {q : Nat} (h : isP q) : q + 2 < 242 ∧ kd (q + 2) = (0, 40) := ⟨(isP_all q h.1 h.2).1.1, (isP_all q h.1 h.2).2⟩
/-- a row of ints -/
def isI (a : Nat) : Prop := a < 242 ∧ (kd a).1 = 0
def alen (a : Nat) : Nat := (kd a).2
theorem isI_kd {a : Nat} (h : isI a) : kd a = (0, alen a) := by
  unfold alen
  rw [← h.2]
/-- a row of the basis' polynomials -/
def isR (a : Nat) : Prop := a = 108 ∨ a = 109
theorem isR_kd {a : Nat} (h : isR a) : a < 242 ∧ kd a = (2, 18) := by
  rcases h with rfl | rfl <;> decide +kernel
