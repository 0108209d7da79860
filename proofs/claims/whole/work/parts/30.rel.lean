/-! the relation between the class's memory C and the reference's memory D -/
/-- f i, f (i + 1) .. : which is the first to be x, of m of them -/
def y_fnd (f : Int → Int) (x : Int) : Nat → Int → Int
  | 0, _ => -1
  | m + 1, i => if f i = x then i else y_fnd f x m (i + 1)
/-- the sum of f 0 .. f (m - 1) -/
def y_sum (f : Int → Int) : Nat → Int
  | 0 => 0
  | m + 1 => y_sum f m + f m
def r_T (C D : zMem) : Prop := D 0 4 = C 1 1 ∧ (0 ≤ C 1 1 ∧ C 1 1 ≤ 700) ∧ ∀ j : Int, 0 ≤ j → j < C 1 1 → D 4 j = C 2 j ∧ 0 ≤ C 2 j ∧ C 2 j ≤ 255
def r_F (C D : zMem) : Prop := D 0 5 = C 0 11 ∧ D 0 6 = C 0 12
def r_P (C D : zMem) : Prop := (D 1 0 = C 19 0 ∧ D 1 1 = C 19 1 ∧ D 1 2 = C 19 2 ∧ D 1 3 = C 19 3 ∧ D 1 4 = C 19 4 ∧ D 1 5 = C 19 6 ∧ D 1 6 = C 19 5) ∧ (0 ≤ C 19 5 ∧ C 19 5 ≤ 100) ∧
  (C 19 5 = 0 → C 19 0 = 0 ∧ C 19 1 = 0 ∧ C 19 2 = 0 ∧ C 19 3 = 0 ∧ C 19 4 = 0 ∧ C 19 6 = 0) ∧ (0 < C 19 5 → y_P C) ∧ ((0 ≤ C 19 7 ∧ 0 ≤ C 19 8 ∧ C 19 7 + C 19 8 = C 19 6) ∧ C 19 7 = y_sum (fun i => 1 - D 1 (9 + i)) (C 19 6).toNat) ∧
  (∀ i : Int, 0 ≤ i → i < C 19 6 → (-1 ≤ C 20 i ∧ C 20 i ≤ 7) ∧ (D 1 (9 + i) = if C 20 i = -1 then 0 else 1) ∧ (C 20 i ≠ -1 → D 1 (49 + i) = C 20 i) ∧ D 1 (129 + i) = C 21 i ∧ (C 21 i = -1 ∨ (0 ≤ C 21 i ∧ C 21 i < C 19 0 * C 19 1))) ∧
  ((-1 ≤ D 1 8 ∧ D 1 8 ≤ 20) ∧ ((0 < C 19 5 ∧ D 1 8 ≠ -1) ↔ 0 < C 19 8))
def r_L (C D : zMem) : Prop := ∀ i : Int, 0 ≤ i → i < C 19 6 → D 1 (149 + i) = C 57 i ∧ 0 ≤ C 57 i ∧ C 57 i < C 19 0 * C 19 1
def r_A (C D : zMem) : Prop := D 1 7 = C 55 1 ∧ (0 ≤ C 55 1 ∧ C 55 1 ≤ 20) ∧ ∀ a i : Int, 0 ≤ a → a < C 55 1 → 0 ≤ i → i < C 19 6 → D 3 (20 * a + i) = C 56 (20 * a + i) ∧ 0 ≤ C 56 (20 * a + i) ∧ C 56 (20 * a + i) < C 19 0 * C 19 1
def r_S (C D : zMem) : Prop := D 0 42 = C 48 8 ∧ (C 48 8 = 0 ∨ C 48 8 = 1) ∧ (C 48 8 = 1 → D 0 44 = C 48 11 ∧ D 0 45 = C 48 10 ∧ ∀ i : Int, 0 ≤ i → i < C 19 6 → D 22 i = C 54 i ∧ 0 ≤ C 54 i ∧ C 54 i < C 19 0 * C 19 1)
/-- what the reference's run tells: the class's trace -/
def r_out (C E E' : zMem) (R : Nat) : Prop := (∀ c j, c ≠ 0 → c ≠ 11 → c ≠ 12 → c ≠ 14 → c ≠ 15 → c ≠ 16 → c ≠ 17 → c ≠ 18 → c ≠ 19 → E' c j = E c j) ∧ (∀ j : Int, j ≠ 27 → j ≠ 28 → j ≠ 33 → j ≠ 34 → j ≠ 35 → E' 0 j = E 0 j) ∧
  y_MR E' R (C 36) ∧ (∀ k : Nat, k < R → E' 11 k = C 35 k) ∧ E' 0 33 = C 28 1 ∧ E' 0 34 = C 28 3 ∧ E' 0 35 = C 28 2 ∧
  (∀ k : Int, 0 ≤ k → k < C 28 1 → E' 14 k = C 31 k ∧ E' 15 k = C 32 k ∧ E' 16 k = C 34 k ∧ E' 17 k = C 33 k) ∧ ∀ i : Int, 0 ≤ i → i < C 19 6 → C 20 i = -1 → E' 18 i = C 29 i
def r_R (N : Nat) (C D : zMem) : Prop := ∃ R : Nat, 1 ≤ R ∧ y_TR C R ∧ y_PV C R ∧ (1 ≤ C 28 1 ∧ C 28 1 ≤ 100) ∧ (∀ k : Int, 0 ≤ k → k < C 28 1 → (0 ≤ C 34 k ∧ C 34 k < R) ∧ (-1 ≤ C 32 k ∧ C 32 k < 20) ∧ (C 32 k ≠ -1 → C 34 k + 1 < R)) ∧
  ∀ E : zMem, (∀ j : Int, 0 ≤ j → j < 149 → j ≠ 7 → E 1 j = D 1 j) → ∃ E' : zMem, Model_runs N E = some (0, E') ∧ r_out C E E' R
def Rel (N : Nat) (C D : zMem) : Prop := r_T C D ∧ r_F C D ∧ r_P C D ∧ (0 < C 19 8 → r_R N C D) ∧ r_L C D ∧ r_A C D ∧ r_S C D
/-! which cells it speaks of -/
def relC (c : Nat) (j : Int) : Bool := decide (c ≤ 2) || (decide (19 ≤ c) && decide (c ≤ 29)) || (decide (31 ≤ c) && decide (c ≤ 38)) || (decide (c = 48) && (decide (j = 8) || decide (j = 10) || decide (j = 11))) || (decide (54 ≤ c) && decide (c ≤ 57))
def relD (c : Nat) (j : Int) : Bool := (decide (c = 0) && (decide (j = 4) || decide (j = 5) || decide (j = 6) || decide (j = 42) || decide (j = 44) || decide (j = 45))) || decide (c = 1) || decide (c = 3) || decide (c = 4) || decide (c = 22)
def rsC (C : zMem) : zMem := fun c j => if relC c j = true then C c j else 0
def rsD (D : zMem) : zMem := fun c j => if relD c j = true then D c j else 0
theorem Rel_rs {N : Nat} {C D : zMem} : Rel N (rsC C) (rsD D) ↔ Rel N C D := by
  have c0 : rsC C 0 = C 0 := rfl
  have c1 : rsC C 1 = C 1 := rfl
  have c2 : rsC C 2 = C 2 := rfl
  have c19 : rsC C 19 = C 19 := rfl
  have c20 : rsC C 20 = C 20 := rfl
  have c21 : rsC C 21 = C 21 := rfl
  have c28 : rsC C 28 = C 28 := rfl
  have c29 : rsC C 29 = C 29 := rfl
  have c31 : rsC C 31 = C 31 := rfl
  have c32 : rsC C 32 = C 32 := rfl
  have c33 : rsC C 33 = C 33 := rfl
  have c34 : rsC C 34 = C 34 := rfl
  have c35 : rsC C 35 = C 35 := rfl
  have c36 : rsC C 36 = C 36 := rfl
  have c37 : rsC C 37 = C 37 := rfl
  have c38 : rsC C 38 = C 38 := rfl
  have c48a : rsC C 48 8 = C 48 8 := rfl
  have c48b : rsC C 48 10 = C 48 10 := rfl
  have c48c : rsC C 48 11 = C 48 11 := rfl
  have c54 : rsC C 54 = C 54 := rfl
  have c55 : rsC C 55 = C 55 := rfl
  have c56 : rsC C 56 = C 56 := rfl
  have c57 : rsC C 57 = C 57 := rfl
  have d1 : rsD D 1 = D 1 := rfl
  have d3 : rsD D 3 = D 3 := rfl
  have d4 : rsD D 4 = D 4 := rfl
  have d22 : rsD D 22 = D 22 := rfl
  have d0a : rsD D 0 4 = D 0 4 := rfl
  have d0b : rsD D 0 5 = D 0 5 := rfl
  have d0c : rsD D 0 6 = D 0 6 := rfl
  have d0d : rsD D 0 42 = D 0 42 := rfl
  have d0e : rsD D 0 44 = D 0 44 := rfl
  have d0f : rsD D 0 45 = D 0 45 := rfl
  simp only [Rel, r_T, r_F, r_P, r_L, r_A, r_S, r_R, r_out, y_P, y_TR, y_PV, y_MR, c0, c1, c2, c19, c20, c21, c28, c29, c31, c32, c33, c34, c35, c36, c37, c38, c48a, c48b, c48c, c54, c55, c56, c57, d1, d3, d4, d22, d0a, d0b, d0c, d0d, d0e, d0f]
theorem Rel_same {N : Nat} {C C' D D' : zMem} (h : Rel N C D) (hC : ∀ c j, relC c j = true → C' c j = C c j) (hD : ∀ c j, relD c j = true → D' c j = D c j) : Rel N C' D' := by
  have e1 : rsC C' = rsC C := by
    funext c j
    unfold rsC
    split
    · rename_i q; exact hC c j q
    · rfl
  have e2 : rsD D' = rsD D := by
    funext c j
    unfold rsD
    split
    · rename_i q; exact hD c j q
    · rfl
  rw [← Rel_rs, e1, e2, Rel_rs]
  exact h
/-- a call: both answer, both answer alike, and they stay related -/
def OK (N : Nat) (a b : zO) : Prop := ∃ (r : Int) (C' D' : zMem), a = some (r, C') ∧ b = some (r, D') ∧ Rel N C' D'
