/-! the run: one step -/
def uu_T (C M : zMem) (k R : Nat) : Prop := (M 28 1 = k ∧ M 28 10 = R) ∧ (k ≤ R ∧ R ≤ 2 * k) ∧
  (∀ j : Nat, j < k → ((0 ≤ M 31 j ∧ M 31 j < C 19 6) ∧ C 20 (M 31 j) ≠ -1) ∧ (-1 ≤ M 32 j ∧ M 32 j < C 19 6) ∧ (0 ≤ M 34 j ∧ M 34 j + 1 ≤ R) ∧ M 35 (M 34 j) = M 31 j ∧ M 36 (M 34 j) = 0 ∧ (M 32 j = -1 → M 34 j + 1 = if j + 1 = k then (R : Int) else M 34 (j + 1 : Nat)) ∧ (M 32 j ≠ -1 → (M 34 j + 2 = if j + 1 = k then (R : Int) else M 34 (j + 1 : Nat)) ∧ M 34 j + 2 ≤ R ∧ M 35 (M 34 j + 1) = M 32 j ∧ M 36 (M 34 j + 1) = if C 20 (M 31 j) = 3 then 2 else 1)) ∧ (0 < k → M 34 0 = 0) ∧
  ∀ j : Nat, j < R → (0 ≤ M 35 j ∧ M 35 j < C 19 6) ∧ (M 36 j = 0 ∨ M 36 j = 1 ∨ M 36 j = 2)
def u_J (M E : zMem) (k R : Nat) (v : Int) : Prop := (E 0 33 = k ∧ E 0 27 = R) ∧ (∀ j : Nat, j < k → E 14 j = M 31 j ∧ E 15 j = M 32 j ∧ E 16 j = M 34 j ∧ E 17 j = M 33 j) ∧ (∀ j : Nat, j < R → E 11 j = M 35 j ∧ E 12 j = y_gap (M 36) j) ∧ v = y_gap (M 36) R ∧ (0 < R → E 0 28 = if M 36 ((R - 1 : Nat) : Int) = 2 then 1 else 0)
theorem y_gap_c {f g : Int → Int} {j : Nat} (h : 0 < j → f ((j - 1 : Nat) : Int) = g ((j - 1 : Nat) : Int)) : y_gap f j = y_gap g j := by
  unfold y_gap
  by_cases c : j = 0
  · rw [if_pos c, if_pos c]
  · rw [if_neg c, if_neg c, h (by omega)]
theorem y_gap_s {f : Int → Int} {j : Nat} : y_gap f (j + 1) = if f j = 0 then 1 else if f j = 1 then 2 else 3 := by
  unfold y_gap
  rw [if_neg (by omega), Nat.add_sub_cancel]
/-- what a step tells, of a trace: x is its operand or -1 -/
theorem uu_T_add {C M M' : zMem} {k R : Nat} {st x : Int} (h : uu_T C M k R) (hst : 0 ≤ st ∧ st < C 19 6) (ho : C 20 st ≠ -1) (hx : -1 ≤ x ∧ x < C 19 6)
    (e31 : ∀ j : Int, M' 31 j = if j = k then st else M 31 j) (e32 : ∀ j : Int, M' 32 j = if j = k then x else M 32 j) (e34 : ∀ j : Int, M' 34 j = if j = k then (R : Int) else M 34 j)
    (e35 : ∀ j : Int, M' 35 j = if j = R then st else if x ≠ -1 ∧ j = R + 1 then x else M 35 j) (e36 : ∀ j : Int, M' 36 j = if j = R then 0 else if x ≠ -1 ∧ j = R + 1 then (if C 20 st = 3 then 2 else 1) else M 36 j)
    (e281 : M' 28 1 = k + 1) (e2810 : M' 28 10 = if x = -1 then (R : Int) + 1 else (R : Int) + 2) : uu_T C M' (k + 1) (if x = -1 then R + 1 else R + 2) := by
  obtain ⟨⟨a1, a2⟩, ⟨b1, b2⟩, c1, d1, f1⟩ := h
  have hR' : ((if x = -1 then R + 1 else R + 2 : Nat) : Int) = if x = -1 then (R : Int) + 1 else (R : Int) + 2 := by split <;> omega
  refine ⟨⟨by omega, by rw [hR']; exact e2810⟩, by split <;> omega, fun j hj => ?_, fun _ => ?_, fun j hj => ?_⟩
  · by_cases c : j = k
    · subst c
      rw [e31, if_pos rfl, e32, if_pos rfl, e34, if_pos rfl, e35, if_pos rfl, e36, if_pos rfl]
      refine ⟨⟨hst, ho⟩, hx, ⟨by omega, by rw [hR']; split <;> omega⟩, rfl, rfl, fun q => ?_, fun q => ⟨?_, ?_, ?_, ?_⟩⟩
      · rw [if_pos rfl, hR', if_pos q]
      · rw [if_pos rfl, hR', if_neg q]
      · rw [hR', if_neg q]; omega
      · rw [e35, if_neg (by omega), if_pos ⟨q, rfl⟩]
      · rw [e36, if_neg (by omega), if_pos ⟨q, rfl⟩]
    · obtain ⟨g1, g2, g3, g4, g5, g6, g7⟩ := c1 j (by omega)
      have jk : ¬ (j : Int) = k := by omega
      rw [e31, if_neg jk, e32, if_neg jk, e34, if_neg jk]
      have r1 : ¬ M 34 j = R := by omega
      have r2 : ¬ (x ≠ -1 ∧ M 34 j = (R : Int) + 1) := by omega
      have nx : (if j + 1 = k + 1 then ((if x = -1 then R + 1 else R + 2 : Nat) : Int) else M' 34 (j + 1 : Nat)) = if j + 1 = k then (R : Int) else M 34 (j + 1 : Nat) := by
        rw [if_neg (by omega), e34]
        by_cases q : j + 1 = k
        · rw [if_pos (by omega), if_pos q]
        · rw [if_neg (by omega), if_neg q]
      rw [nx, e35, if_neg r1, if_neg r2, e36, if_neg r1, if_neg r2]
      refine ⟨g1, g2, ⟨g3.1, by rw [hR']; split <;> omega⟩, g4, g5, g6, fun q => ?_⟩
      obtain ⟨w1, w2, w3, w4⟩ := g7 q
      have a35 : M' 35 (M 34 j + 1) = M 35 (M 34 j + 1) := by rw [e35, if_neg (show ¬ M 34 j + 1 = (R : Int) by omega), if_neg (show ¬ (x ≠ -1 ∧ M 34 j + 1 = (R : Int) + 1) by omega)]
      have a36 : M' 36 (M 34 j + 1) = M 36 (M 34 j + 1) := by rw [e36, if_neg (show ¬ M 34 j + 1 = (R : Int) by omega), if_neg (show ¬ (x ≠ -1 ∧ M 34 j + 1 = (R : Int) + 1) by omega)]
      rw [a35, a36]
      exact ⟨w1, by rw [hR']; split <;> omega, w3, w4⟩
  · rw [e34]
    by_cases c : k = 0
    · rw [if_pos (by omega)]; omega
    · rw [if_neg (by omega)]; exact d1 (by omega)
  · rw [e35, e36]
    by_cases c1 : (j : Int) = R
    · rw [if_pos c1, if_pos c1]; exact ⟨hst, Or.inl rfl⟩
    · rw [if_neg c1, if_neg c1]
      by_cases c2 : x ≠ -1 ∧ (j : Int) = R + 1
      · rw [if_pos c2, if_pos c2]
        refine ⟨by omega, ?_⟩
        split
        · exact Or.inr (Or.inr rfl)
        · exact Or.inr (Or.inl rfl)
      · rw [if_neg c2, if_neg c2]
        refine f1 j ?_
        by_cases q : x = -1
        · rw [if_pos q] at hj; omega
        · rw [if_neg q] at hj; omega
theorem u_J_add {C M M' E E' : zMem} {k R : Nat} {st x v : Int} (h : u_J M E k R v)
    (e31 : ∀ j : Int, M' 31 j = if j = k then st else M 31 j) (e32 : ∀ j : Int, M' 32 j = if j = k then x else M 32 j) (e34 : ∀ j : Int, M' 34 j = if j = k then (R : Int) else M 34 j) (e33 : ∀ j : Int, j ≠ k → M' 33 j = M 33 j)
    (e35 : ∀ j : Int, M' 35 j = if j = R then st else if x ≠ -1 ∧ j = R + 1 then x else M 35 j) (e36 : ∀ j : Int, M' 36 j = if j = R then 0 else if x ≠ -1 ∧ j = R + 1 then (if C 20 st = 3 then 2 else 1) else M 36 j)
    (f14 : ∀ j : Int, E' 14 j = if j = k then st else E 14 j) (f15 : ∀ j : Int, E' 15 j = if j = k then x else E 15 j) (f16 : ∀ j : Int, E' 16 j = if j = k then (R : Int) else E 16 j) (f17 : ∀ j : Int, j ≠ k → E' 17 j = E 17 j) (f17k : E' 17 k = M' 33 k)
    (f11 : ∀ j : Int, E' 11 j = if j = R then st else if x ≠ -1 ∧ j = R + 1 then x else E 11 j) (f12 : ∀ j : Int, E' 12 j = if j = R then v else if x ≠ -1 ∧ j = R + 1 then 1 else E 12 j)
    (f33 : E' 0 33 = k + 1) (f27 : E' 0 27 = if x = -1 then (R : Int) + 1 else (R : Int) + 2) (f28 : E' 0 28 = if x ≠ -1 ∧ C 20 st = 3 then 1 else 0) :
    u_J M' E' (k + 1) (if x = -1 then R + 1 else R + 2) (if x = -1 then 1 else if C 20 st = 3 then 3 else 2) := by
  obtain ⟨⟨a1, a2⟩, b1, c1, d1, g1⟩ := h
  have hR' : ((if x = -1 then R + 1 else R + 2 : Nat) : Int) = if x = -1 then (R : Int) + 1 else (R : Int) + 2 := by split <;> omega
  refine ⟨⟨by omega, by rw [hR']; exact f27⟩, fun j hj => ?_, fun j hj => ?_, ?_, fun _ => ?_⟩
  · by_cases c : j = k
    · subst c
      rw [f14, if_pos rfl, f15, if_pos rfl, f16, if_pos rfl, e31, if_pos rfl, e32, if_pos rfl, e34, if_pos rfl]
      exact ⟨rfl, rfl, rfl, f17k⟩
    · have jk : ¬ (j : Int) = k := by omega
      rw [f14, if_neg jk, f15, if_neg jk, f16, if_neg jk, f17 j jk, e31, if_neg jk, e32, if_neg jk, e34, if_neg jk, e33 j jk]
      exact b1 j (by omega)
  · by_cases q1 : j < R
    · have n1 : ¬ (j : Int) = R := by omega
      have n2 : ¬ (x ≠ -1 ∧ (j : Int) = R + 1) := by omega
      rw [f11, if_neg n1, if_neg n2, f12, if_neg n1, if_neg n2, e35, if_neg n1, if_neg n2]
      refine ⟨(c1 j q1).1, (c1 j q1).2.trans (y_gap_c (fun hj0 => ?_))⟩
      rw [e36, if_neg (by omega), if_neg (by omega)]
    · by_cases q2 : j = R
      · subst q2
        rw [f11, if_pos rfl, f12, if_pos rfl, e35, if_pos rfl]
        refine ⟨rfl, d1.trans (y_gap_c (fun hj0 => ?_))⟩
        rw [e36, if_neg (by omega), if_neg (by omega)]
      · have hx : x ≠ -1 := fun q => by rw [if_pos q] at hj; omega
        have hj1 : j = R + 1 := by rw [if_neg hx] at hj; omega
        subst hj1
        have n1 : ¬ ((R + 1 : Nat) : Int) = R := by omega
        have n2 : x ≠ -1 ∧ ((R + 1 : Nat) : Int) = R + 1 := ⟨hx, by omega⟩
        rw [f11, if_neg n1, if_pos n2, f12, if_neg n1, if_pos n2, e35, if_neg n1, if_pos n2]
        refine ⟨rfl, ?_⟩
        rw [y_gap_s, e36, if_pos rfl, if_pos rfl]
  · by_cases q : x = -1
    · rw [if_pos q, if_pos q, y_gap_s, e36, if_pos rfl, if_pos rfl]
    · have e : M' 36 ((R + 1 : Nat) : Int) = if C 20 st = 3 then 2 else 1 := by rw [e36, if_neg (show ¬ ((R + 1 : Nat) : Int) = R by omega), if_pos ⟨q, by omega⟩]
      rw [if_neg q, if_neg q, show R + 2 = (R + 1) + 1 by omega, y_gap_s, e]
      by_cases q3 : C 20 st = 3
      · simp [q3]
      · simp [q3]
  · rw [f28]
    by_cases q : x = -1
    · have e : M' 36 ((R : Nat) : Int) = 0 := by rw [e36, if_pos rfl]
      rw [if_neg (fun k => k.1 q), if_pos q, Nat.add_sub_cancel, e]
      simp
    · have e : M' 36 ((R + 1 : Nat) : Int) = if C 20 st = 3 then 2 else 1 := by rw [e36, if_neg (show ¬ ((R + 1 : Nat) : Int) = R by omega), if_pos ⟨q, by omega⟩]
      rw [if_neg q, show R + 2 - 1 = R + 1 by omega, e]
      by_cases q3 : C 20 st = 3
      · simp [q, q3]
      · simp [q3]
