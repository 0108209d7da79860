/-! reading: kept words against the class's words; words, numbers and measures taken -/
theorem y_is_inj {t : Int → Int} {b : Int} {w i j : Nat} (h : y_is t b w i) (h' : y_is t b w j) : z_sCh.getD i [] = z_sCh.getD j [] := by
  obtain ⟨h1, h2⟩ := h
  obtain ⟨k1, k2⟩ := h'
  unfold z_slen at h1 k1
  apply List.ext_getElem (by omega)
  intro n hn hn'
  have e := (h2 n (by omega)).symm.trans (k2 n (by omega))
  unfold z_schr at e
  rw [show ((n : Int)).toNat = n by omega] at e
  generalize z_sCh.getD i [] = l1 at *
  generalize z_sCh.getD j [] = l2 at *
  rw [List.getD_eq_getElem?_getD, List.getD_eq_getElem?_getD, List.getElem?_eq_getElem hn, List.getElem?_eq_getElem hn'] at e
  exact e
theorem y_is_same {t : Int → Int} {b : Int} {w i j : Nat} (h : z_sCh.getD i [] = z_sCh.getD j []) : y_is t b w i ↔ y_is t b w j := by
  unfold y_is z_slen z_schr
  rw [h]
theorem kept_v0 {t : Int → Int} {b : Int} {w : Nat} (h : y_is t b w 11) : y_kept t b w = 0 := by
  unfold y_kept
  rw [if_pos h]
theorem kept_v1 {t : Int → Int} {b : Int} {w : Nat} (h0 : ¬ y_is t b w 11) (h : y_is t b w 12) : y_kept t b w = 1 := by
  unfold y_kept
  rw [if_neg h0, if_pos h]
theorem kept_v2 {t : Int → Int} {b : Int} {w : Nat} (h0 : ¬ y_is t b w 11) (h1 : ¬ y_is t b w 12) (h : y_is t b w 13) : y_kept t b w = 2 := by
  unfold y_kept
  rw [if_neg h0, if_neg h1, if_pos h]
theorem kept_v3 {t : Int → Int} {b : Int} {w : Nat} (h0 : ¬ y_is t b w 11) (h1 : ¬ y_is t b w 12) (h2 : ¬ y_is t b w 13) (h : y_is t b w 14) : y_kept t b w = 3 := by
  unfold y_kept
  rw [if_neg h0, if_neg h1, if_neg h2, if_pos h]
theorem kept_v4 {t : Int → Int} {b : Int} {w : Nat} (h0 : ¬ y_is t b w 11) (h1 : ¬ y_is t b w 12) (h2 : ¬ y_is t b w 13) (h3 : ¬ y_is t b w 14) (h : y_is t b w 15) : y_kept t b w = 4 := by
  unfold y_kept
  rw [if_neg h0, if_neg h1, if_neg h2, if_neg h3, if_pos h]
theorem kept_v5 {t : Int → Int} {b : Int} {w : Nat} (h0 : ¬ y_is t b w 11) (h1 : ¬ y_is t b w 12) (h2 : ¬ y_is t b w 13) (h3 : ¬ y_is t b w 14) (h4 : ¬ y_is t b w 15) (h : y_is t b w 16) : y_kept t b w = 5 := by
  unfold y_kept
  rw [if_neg h0, if_neg h1, if_neg h2, if_neg h3, if_neg h4, if_pos h]
theorem kept_v6 {t : Int → Int} {b : Int} {w : Nat} (h0 : ¬ y_is t b w 11) (h1 : ¬ y_is t b w 12) (h2 : ¬ y_is t b w 13) (h3 : ¬ y_is t b w 14) (h4 : ¬ y_is t b w 15) (h5 : ¬ y_is t b w 16) (h : y_is t b w 17) : y_kept t b w = 6 := by
  unfold y_kept
  rw [if_neg h0, if_neg h1, if_neg h2, if_neg h3, if_neg h4, if_neg h5, if_pos h]
theorem kept_v7 {t : Int → Int} {b : Int} {w : Nat} (h0 : ¬ y_is t b w 11) (h1 : ¬ y_is t b w 12) (h2 : ¬ y_is t b w 13) (h3 : ¬ y_is t b w 14) (h4 : ¬ y_is t b w 15) (h5 : ¬ y_is t b w 16) (h6 : ¬ y_is t b w 17) (h : y_is t b w 18) : y_kept t b w = 7 := by
  unfold y_kept
  rw [if_neg h0, if_neg h1, if_neg h2, if_neg h3, if_neg h4, if_neg h5, if_neg h6, if_pos h]
theorem kept_v8 {t : Int → Int} {b : Int} {w : Nat} (h0 : ¬ y_is t b w 11) (h1 : ¬ y_is t b w 12) (h2 : ¬ y_is t b w 13) (h3 : ¬ y_is t b w 14) (h4 : ¬ y_is t b w 15) (h5 : ¬ y_is t b w 16) (h6 : ¬ y_is t b w 17) (h7 : ¬ y_is t b w 18) (h : y_is t b w 0) : y_kept t b w = 8 := by
  unfold y_kept
  rw [if_neg h0, if_neg h1, if_neg h2, if_neg h3, if_neg h4, if_neg h5, if_neg h6, if_neg h7, if_pos h]
theorem kept_v9 {t : Int → Int} {b : Int} {w : Nat} (h0 : ¬ y_is t b w 11) (h1 : ¬ y_is t b w 12) (h2 : ¬ y_is t b w 13) (h3 : ¬ y_is t b w 14) (h4 : ¬ y_is t b w 15) (h5 : ¬ y_is t b w 16) (h6 : ¬ y_is t b w 17) (h7 : ¬ y_is t b w 18) (h8 : ¬ y_is t b w 0) (h : y_is t b w 6) : y_kept t b w = 9 := by
  unfold y_kept
  rw [if_neg h0, if_neg h1, if_neg h2, if_neg h3, if_neg h4, if_neg h5, if_neg h6, if_neg h7, if_neg h8, if_pos h]
theorem kept_v10 {t : Int → Int} {b : Int} {w : Nat} (h0 : ¬ y_is t b w 11) (h1 : ¬ y_is t b w 12) (h2 : ¬ y_is t b w 13) (h3 : ¬ y_is t b w 14) (h4 : ¬ y_is t b w 15) (h5 : ¬ y_is t b w 16) (h6 : ¬ y_is t b w 17) (h7 : ¬ y_is t b w 18) (h8 : ¬ y_is t b w 0) (h9 : ¬ y_is t b w 6) (h : y_is t b w 9) : y_kept t b w = 10 := by
  unfold y_kept
  rw [if_neg h0, if_neg h1, if_neg h2, if_neg h3, if_neg h4, if_neg h5, if_neg h6, if_neg h7, if_neg h8, if_neg h9, if_pos h]
theorem kept_v11 {t : Int → Int} {b : Int} {w : Nat} (h0 : ¬ y_is t b w 11) (h1 : ¬ y_is t b w 12) (h2 : ¬ y_is t b w 13) (h3 : ¬ y_is t b w 14) (h4 : ¬ y_is t b w 15) (h5 : ¬ y_is t b w 16) (h6 : ¬ y_is t b w 17) (h7 : ¬ y_is t b w 18) (h8 : ¬ y_is t b w 0) (h9 : ¬ y_is t b w 6) (h10 : ¬ y_is t b w 9) (h : y_is t b w 10) : y_kept t b w = 11 := by
  unfold y_kept
  rw [if_neg h0, if_neg h1, if_neg h2, if_neg h3, if_neg h4, if_neg h5, if_neg h6, if_neg h7, if_neg h8, if_neg h9, if_neg h10, if_pos h]
theorem kept_f0 {t : Int → Int} {b : Int} {w : Nat} (h : y_is t b w 11) : y_kept t b w = 0 := by
  have ne : ∀ i, z_sCh.getD i [] ≠ z_sCh.getD 11 [] → ¬ y_is t b w i := fun i q k => q (y_is_inj k h)
  exact kept_v0  h
theorem kept_f1 {t : Int → Int} {b : Int} {w : Nat} (h : y_is t b w 12) : y_kept t b w = 1 := by
  have ne : ∀ i, z_sCh.getD i [] ≠ z_sCh.getD 12 [] → ¬ y_is t b w i := fun i q k => q (y_is_inj k h)
  exact kept_v1 (ne 11 (by decide +kernel)) h
theorem kept_f2 {t : Int → Int} {b : Int} {w : Nat} (h : y_is t b w 13) : y_kept t b w = 2 := by
  have ne : ∀ i, z_sCh.getD i [] ≠ z_sCh.getD 13 [] → ¬ y_is t b w i := fun i q k => q (y_is_inj k h)
  exact kept_v2 (ne 11 (by decide +kernel)) (ne 12 (by decide +kernel)) h
theorem kept_f3 {t : Int → Int} {b : Int} {w : Nat} (h : y_is t b w 14) : y_kept t b w = 3 := by
  have ne : ∀ i, z_sCh.getD i [] ≠ z_sCh.getD 14 [] → ¬ y_is t b w i := fun i q k => q (y_is_inj k h)
  exact kept_v3 (ne 11 (by decide +kernel)) (ne 12 (by decide +kernel)) (ne 13 (by decide +kernel)) h
theorem kept_f4 {t : Int → Int} {b : Int} {w : Nat} (h : y_is t b w 15) : y_kept t b w = 4 := by
  have ne : ∀ i, z_sCh.getD i [] ≠ z_sCh.getD 15 [] → ¬ y_is t b w i := fun i q k => q (y_is_inj k h)
  exact kept_v4 (ne 11 (by decide +kernel)) (ne 12 (by decide +kernel)) (ne 13 (by decide +kernel)) (ne 14 (by decide +kernel)) h
theorem kept_f5 {t : Int → Int} {b : Int} {w : Nat} (h : y_is t b w 16) : y_kept t b w = 5 := by
  have ne : ∀ i, z_sCh.getD i [] ≠ z_sCh.getD 16 [] → ¬ y_is t b w i := fun i q k => q (y_is_inj k h)
  exact kept_v5 (ne 11 (by decide +kernel)) (ne 12 (by decide +kernel)) (ne 13 (by decide +kernel)) (ne 14 (by decide +kernel)) (ne 15 (by decide +kernel)) h
theorem kept_f6 {t : Int → Int} {b : Int} {w : Nat} (h : y_is t b w 17) : y_kept t b w = 6 := by
  have ne : ∀ i, z_sCh.getD i [] ≠ z_sCh.getD 17 [] → ¬ y_is t b w i := fun i q k => q (y_is_inj k h)
  exact kept_v6 (ne 11 (by decide +kernel)) (ne 12 (by decide +kernel)) (ne 13 (by decide +kernel)) (ne 14 (by decide +kernel)) (ne 15 (by decide +kernel)) (ne 16 (by decide +kernel)) h
theorem kept_f7 {t : Int → Int} {b : Int} {w : Nat} (h : y_is t b w 18) : y_kept t b w = 7 := by
  have ne : ∀ i, z_sCh.getD i [] ≠ z_sCh.getD 18 [] → ¬ y_is t b w i := fun i q k => q (y_is_inj k h)
  exact kept_v7 (ne 11 (by decide +kernel)) (ne 12 (by decide +kernel)) (ne 13 (by decide +kernel)) (ne 14 (by decide +kernel)) (ne 15 (by decide +kernel)) (ne 16 (by decide +kernel)) (ne 17 (by decide +kernel)) h
theorem kept_f8 {t : Int → Int} {b : Int} {w : Nat} (h : y_is t b w 0) : y_kept t b w = 8 := by
  have ne : ∀ i, z_sCh.getD i [] ≠ z_sCh.getD 0 [] → ¬ y_is t b w i := fun i q k => q (y_is_inj k h)
  exact kept_v8 (ne 11 (by decide +kernel)) (ne 12 (by decide +kernel)) (ne 13 (by decide +kernel)) (ne 14 (by decide +kernel)) (ne 15 (by decide +kernel)) (ne 16 (by decide +kernel)) (ne 17 (by decide +kernel)) (ne 18 (by decide +kernel)) h
theorem kept_f9 {t : Int → Int} {b : Int} {w : Nat} (h : y_is t b w 6) : y_kept t b w = 9 := by
  have ne : ∀ i, z_sCh.getD i [] ≠ z_sCh.getD 6 [] → ¬ y_is t b w i := fun i q k => q (y_is_inj k h)
  exact kept_v9 (ne 11 (by decide +kernel)) (ne 12 (by decide +kernel)) (ne 13 (by decide +kernel)) (ne 14 (by decide +kernel)) (ne 15 (by decide +kernel)) (ne 16 (by decide +kernel)) (ne 17 (by decide +kernel)) (ne 18 (by decide +kernel)) (ne 0 (by decide +kernel)) h
theorem kept_f10 {t : Int → Int} {b : Int} {w : Nat} (h : y_is t b w 9) : y_kept t b w = 10 := by
  have ne : ∀ i, z_sCh.getD i [] ≠ z_sCh.getD 9 [] → ¬ y_is t b w i := fun i q k => q (y_is_inj k h)
  exact kept_v10 (ne 11 (by decide +kernel)) (ne 12 (by decide +kernel)) (ne 13 (by decide +kernel)) (ne 14 (by decide +kernel)) (ne 15 (by decide +kernel)) (ne 16 (by decide +kernel)) (ne 17 (by decide +kernel)) (ne 18 (by decide +kernel)) (ne 0 (by decide +kernel)) (ne 6 (by decide +kernel)) h
theorem kept_f11 {t : Int → Int} {b : Int} {w : Nat} (h : y_is t b w 10) : y_kept t b w = 11 := by
  have ne : ∀ i, z_sCh.getD i [] ≠ z_sCh.getD 10 [] → ¬ y_is t b w i := fun i q k => q (y_is_inj k h)
  exact kept_v11 (ne 11 (by decide +kernel)) (ne 12 (by decide +kernel)) (ne 13 (by decide +kernel)) (ne 14 (by decide +kernel)) (ne 15 (by decide +kernel)) (ne 16 (by decide +kernel)) (ne 17 (by decide +kernel)) (ne 18 (by decide +kernel)) (ne 0 (by decide +kernel)) (ne 6 (by decide +kernel)) (ne 9 (by decide +kernel)) h
theorem kept_no {t : Int → Int} {b : Int} {w : Nat} (h0 : ¬ y_is t b w 11) (h1 : ¬ y_is t b w 12) (h2 : ¬ y_is t b w 13) (h3 : ¬ y_is t b w 14) (h4 : ¬ y_is t b w 15) (h5 : ¬ y_is t b w 16) (h6 : ¬ y_is t b w 17) (h7 : ¬ y_is t b w 18) (h8 : ¬ y_is t b w 0) (h9 : ¬ y_is t b w 6) (h10 : ¬ y_is t b w 9) (h11 : ¬ y_is t b w 10)  : y_kept t b w = -1 := by
  unfold y_kept
  rw [if_neg h0, if_neg h1, if_neg h2, if_neg h3, if_neg h4, if_neg h5, if_neg h6, if_neg h7, if_neg h8, if_neg h9, if_neg h10, if_neg h11]
theorem kept_cases {t : Int → Int} {b : Int} {w : Nat} : (y_kept t b w = 0 ∧ y_is t b w 11) ∨ (y_kept t b w = 1 ∧ y_is t b w 12) ∨ (y_kept t b w = 2 ∧ y_is t b w 13) ∨ (y_kept t b w = 3 ∧ y_is t b w 14) ∨ (y_kept t b w = 4 ∧ y_is t b w 15) ∨ (y_kept t b w = 5 ∧ y_is t b w 16) ∨ (y_kept t b w = 6 ∧ y_is t b w 17) ∨ (y_kept t b w = 7 ∧ y_is t b w 18) ∨ (y_kept t b w = 8 ∧ y_is t b w 0) ∨ (y_kept t b w = 9 ∧ y_is t b w 6) ∨ (y_kept t b w = 10 ∧ y_is t b w 9) ∨ (y_kept t b w = 11 ∧ y_is t b w 10) ∨ y_kept t b w = -1 := by
  by_cases h0 : y_is t b w 11
  · exact Or.inl ⟨kept_f0 h0, h0⟩
  by_cases h1 : y_is t b w 12
  · exact Or.inr (Or.inl ⟨kept_f1 h1, h1⟩)
  by_cases h2 : y_is t b w 13
  · exact Or.inr (Or.inr (Or.inl ⟨kept_f2 h2, h2⟩))
  by_cases h3 : y_is t b w 14
  · exact Or.inr (Or.inr (Or.inr (Or.inl ⟨kept_f3 h3, h3⟩)))
  by_cases h4 : y_is t b w 15
  · exact Or.inr (Or.inr (Or.inr (Or.inr (Or.inl ⟨kept_f4 h4, h4⟩))))
  by_cases h5 : y_is t b w 16
  · exact Or.inr (Or.inr (Or.inr (Or.inr (Or.inr (Or.inl ⟨kept_f5 h5, h5⟩)))))
  by_cases h6 : y_is t b w 17
  · exact Or.inr (Or.inr (Or.inr (Or.inr (Or.inr (Or.inr (Or.inl ⟨kept_f6 h6, h6⟩))))))
  by_cases h7 : y_is t b w 18
  · exact Or.inr (Or.inr (Or.inr (Or.inr (Or.inr (Or.inr (Or.inr (Or.inl ⟨kept_f7 h7, h7⟩)))))))
  by_cases h8 : y_is t b w 0
  · exact Or.inr (Or.inr (Or.inr (Or.inr (Or.inr (Or.inr (Or.inr (Or.inr (Or.inl ⟨kept_f8 h8, h8⟩))))))))
  by_cases h9 : y_is t b w 6
  · exact Or.inr (Or.inr (Or.inr (Or.inr (Or.inr (Or.inr (Or.inr (Or.inr (Or.inr (Or.inl ⟨kept_f9 h9, h9⟩)))))))))
  by_cases h10 : y_is t b w 9
  · exact Or.inr (Or.inr (Or.inr (Or.inr (Or.inr (Or.inr (Or.inr (Or.inr (Or.inr (Or.inr (Or.inl ⟨kept_f10 h10, h10⟩))))))))))
  by_cases h11 : y_is t b w 10
  · exact Or.inr (Or.inr (Or.inr (Or.inr (Or.inr (Or.inr (Or.inr (Or.inr (Or.inr (Or.inr (Or.inr (Or.inl ⟨kept_f11 h11, h11⟩)))))))))))
  exact Or.inr (Or.inr (Or.inr (Or.inr (Or.inr (Or.inr (Or.inr (Or.inr (Or.inr (Or.inr (Or.inr (Or.inr (kept_no h0 h1 h2 h3 h4 h5 h6 h7 h8 h9 h10 h11))))))))))))
theorem kept_0 {t : Int → Int} {b : Int} {w : Nat} : y_is t b w 11 ↔ y_kept t b w = 0 := by
  refine ⟨kept_f0, fun h => ?_⟩
  rcases kept_cases (t := t) (b := b) (w := w) with ⟨q, r⟩ | ⟨q, r⟩ | ⟨q, r⟩ | ⟨q, r⟩ | ⟨q, r⟩ | ⟨q, r⟩ | ⟨q, r⟩ | ⟨q, r⟩ | ⟨q, r⟩ | ⟨q, r⟩ | ⟨q, r⟩ | ⟨q, r⟩ | q <;> rw [q] at h <;> first | exact r | exact absurd h (by decide)
theorem kept_1 {t : Int → Int} {b : Int} {w : Nat} : y_is t b w 12 ↔ y_kept t b w = 1 := by
  refine ⟨kept_f1, fun h => ?_⟩
  rcases kept_cases (t := t) (b := b) (w := w) with ⟨q, r⟩ | ⟨q, r⟩ | ⟨q, r⟩ | ⟨q, r⟩ | ⟨q, r⟩ | ⟨q, r⟩ | ⟨q, r⟩ | ⟨q, r⟩ | ⟨q, r⟩ | ⟨q, r⟩ | ⟨q, r⟩ | ⟨q, r⟩ | q <;> rw [q] at h <;> first | exact r | exact absurd h (by decide)
theorem kept_2 {t : Int → Int} {b : Int} {w : Nat} : y_is t b w 13 ↔ y_kept t b w = 2 := by
  refine ⟨kept_f2, fun h => ?_⟩
  rcases kept_cases (t := t) (b := b) (w := w) with ⟨q, r⟩ | ⟨q, r⟩ | ⟨q, r⟩ | ⟨q, r⟩ | ⟨q, r⟩ | ⟨q, r⟩ | ⟨q, r⟩ | ⟨q, r⟩ | ⟨q, r⟩ | ⟨q, r⟩ | ⟨q, r⟩ | ⟨q, r⟩ | q <;> rw [q] at h <;> first | exact r | exact absurd h (by decide)
theorem kept_3 {t : Int → Int} {b : Int} {w : Nat} : y_is t b w 14 ↔ y_kept t b w = 3 := by
  refine ⟨kept_f3, fun h => ?_⟩
  rcases kept_cases (t := t) (b := b) (w := w) with ⟨q, r⟩ | ⟨q, r⟩ | ⟨q, r⟩ | ⟨q, r⟩ | ⟨q, r⟩ | ⟨q, r⟩ | ⟨q, r⟩ | ⟨q, r⟩ | ⟨q, r⟩ | ⟨q, r⟩ | ⟨q, r⟩ | ⟨q, r⟩ | q <;> rw [q] at h <;> first | exact r | exact absurd h (by decide)
theorem kept_4 {t : Int → Int} {b : Int} {w : Nat} : y_is t b w 15 ↔ y_kept t b w = 4 := by
  refine ⟨kept_f4, fun h => ?_⟩
  rcases kept_cases (t := t) (b := b) (w := w) with ⟨q, r⟩ | ⟨q, r⟩ | ⟨q, r⟩ | ⟨q, r⟩ | ⟨q, r⟩ | ⟨q, r⟩ | ⟨q, r⟩ | ⟨q, r⟩ | ⟨q, r⟩ | ⟨q, r⟩ | ⟨q, r⟩ | ⟨q, r⟩ | q <;> rw [q] at h <;> first | exact r | exact absurd h (by decide)
theorem kept_5 {t : Int → Int} {b : Int} {w : Nat} : y_is t b w 16 ↔ y_kept t b w = 5 := by
  refine ⟨kept_f5, fun h => ?_⟩
  rcases kept_cases (t := t) (b := b) (w := w) with ⟨q, r⟩ | ⟨q, r⟩ | ⟨q, r⟩ | ⟨q, r⟩ | ⟨q, r⟩ | ⟨q, r⟩ | ⟨q, r⟩ | ⟨q, r⟩ | ⟨q, r⟩ | ⟨q, r⟩ | ⟨q, r⟩ | ⟨q, r⟩ | q <;> rw [q] at h <;> first | exact r | exact absurd h (by decide)
theorem kept_6 {t : Int → Int} {b : Int} {w : Nat} : y_is t b w 17 ↔ y_kept t b w = 6 := by
  refine ⟨kept_f6, fun h => ?_⟩
  rcases kept_cases (t := t) (b := b) (w := w) with ⟨q, r⟩ | ⟨q, r⟩ | ⟨q, r⟩ | ⟨q, r⟩ | ⟨q, r⟩ | ⟨q, r⟩ | ⟨q, r⟩ | ⟨q, r⟩ | ⟨q, r⟩ | ⟨q, r⟩ | ⟨q, r⟩ | ⟨q, r⟩ | q <;> rw [q] at h <;> first | exact r | exact absurd h (by decide)
theorem kept_7 {t : Int → Int} {b : Int} {w : Nat} : y_is t b w 18 ↔ y_kept t b w = 7 := by
  refine ⟨kept_f7, fun h => ?_⟩
  rcases kept_cases (t := t) (b := b) (w := w) with ⟨q, r⟩ | ⟨q, r⟩ | ⟨q, r⟩ | ⟨q, r⟩ | ⟨q, r⟩ | ⟨q, r⟩ | ⟨q, r⟩ | ⟨q, r⟩ | ⟨q, r⟩ | ⟨q, r⟩ | ⟨q, r⟩ | ⟨q, r⟩ | q <;> rw [q] at h <;> first | exact r | exact absurd h (by decide)
theorem kept_8 {t : Int → Int} {b : Int} {w : Nat} : y_is t b w 0 ↔ y_kept t b w = 8 := by
  refine ⟨kept_f8, fun h => ?_⟩
  rcases kept_cases (t := t) (b := b) (w := w) with ⟨q, r⟩ | ⟨q, r⟩ | ⟨q, r⟩ | ⟨q, r⟩ | ⟨q, r⟩ | ⟨q, r⟩ | ⟨q, r⟩ | ⟨q, r⟩ | ⟨q, r⟩ | ⟨q, r⟩ | ⟨q, r⟩ | ⟨q, r⟩ | q <;> rw [q] at h <;> first | exact r | exact absurd h (by decide)
theorem kept_9 {t : Int → Int} {b : Int} {w : Nat} : y_is t b w 6 ↔ y_kept t b w = 9 := by
  refine ⟨kept_f9, fun h => ?_⟩
  rcases kept_cases (t := t) (b := b) (w := w) with ⟨q, r⟩ | ⟨q, r⟩ | ⟨q, r⟩ | ⟨q, r⟩ | ⟨q, r⟩ | ⟨q, r⟩ | ⟨q, r⟩ | ⟨q, r⟩ | ⟨q, r⟩ | ⟨q, r⟩ | ⟨q, r⟩ | ⟨q, r⟩ | q <;> rw [q] at h <;> first | exact r | exact absurd h (by decide)
theorem kept_10 {t : Int → Int} {b : Int} {w : Nat} : y_is t b w 9 ↔ y_kept t b w = 10 := by
  refine ⟨kept_f10, fun h => ?_⟩
  rcases kept_cases (t := t) (b := b) (w := w) with ⟨q, r⟩ | ⟨q, r⟩ | ⟨q, r⟩ | ⟨q, r⟩ | ⟨q, r⟩ | ⟨q, r⟩ | ⟨q, r⟩ | ⟨q, r⟩ | ⟨q, r⟩ | ⟨q, r⟩ | ⟨q, r⟩ | ⟨q, r⟩ | q <;> rw [q] at h <;> first | exact r | exact absurd h (by decide)
theorem kept_11 {t : Int → Int} {b : Int} {w : Nat} : y_is t b w 10 ↔ y_kept t b w = 11 := by
  refine ⟨kept_f11, fun h => ?_⟩
  rcases kept_cases (t := t) (b := b) (w := w) with ⟨q, r⟩ | ⟨q, r⟩ | ⟨q, r⟩ | ⟨q, r⟩ | ⟨q, r⟩ | ⟨q, r⟩ | ⟨q, r⟩ | ⟨q, r⟩ | ⟨q, r⟩ | ⟨q, r⟩ | ⟨q, r⟩ | ⟨q, r⟩ | q <;> rw [q] at h <;> first | exact r | exact absurd h (by decide)
