/-! the run: one step on both sides -/
theorem Trace_addReading_e {M : zMem} {a b : Int} {R : Nat} (h : M 28 10 = R) (hR : R < 200) : Trace_addReading a b M = some (0, z_st (z_st (z_st M 35 R a) 36 R b) 28 10 ((R : Int) + 1)) := by
  have e1 : z_st M 35 R a 28 10 = R := by rw [z_st_c (by decide)]; exact h
  have e2 : z_st (z_st M 35 R a) 36 R b 28 10 = R := by rw [z_st_c (by decide)]; exact e1
  unfold Trace_addReading
  rw [h, z_lt_t (by omega), z_wr_t (by omega), e1, z_wr_t (by omega), z_pf_e, e2]
theorem Model_reading_e {E : zMem} {a b : Int} {R : Nat} (h : E 0 27 = R) (hR : R < 200) : Model_reading a b E = some (0, z_st (z_st (z_st E 11 R a) 12 R b) 0 27 ((R : Int) + 1)) := by
  have e1 : z_st E 11 R a 0 27 = R := by rw [z_st_c (by decide)]; exact h
  have e2 : z_st (z_st E 11 R a) 12 R b 0 27 = R := by rw [z_st_c (by decide)]; exact e1
  unfold Model_reading
  rw [h, z_wr_t (by omega), e1, z_wr_t (by omega), z_pf_e, e2]
/-- both, in the midst of a run -/
def u_I (C D : zMem) (k R : Nat) (v : Int) (M E : zMem) : Prop := (∀ c j, (c < 28 ∨ 36 < c) → M c j = C c j) ∧ (∀ c j, c ≠ 0 → c ≠ 11 → c ≠ 12 → c ≠ 14 → c ≠ 15 → c ≠ 16 → c ≠ 17 → c ≠ 18 → c ≠ 19 → E c j = D c j) ∧ (∀ j : Int, j ≠ 27 → j ≠ 28 → j ≠ 33 → j ≠ 34 → j ≠ 35 → E 0 j = D 0 j) ∧ uu_T C M k R ∧ u_J M E k R v ∧ u_V C M E
/-- what a step leaves, apart from values -/
def u_P (M : zMem) (k R : Nat) (st x kd : Int) : zMem := if x = -1 then z_st (z_st (z_st (z_st (z_st (z_st M 31 k st) 32 k x) 34 k R) 35 R st) 36 R 0) 28 10 ((R : Int) + 1) else z_st (z_st (z_st (z_st (z_st (z_st (z_st (z_st (z_st M 31 k st) 32 k x) 34 k R) 35 R st) 36 R 0) 28 10 ((R : Int) + 1)) 35 ((R + 1 : Nat) : Int) x) 36 ((R + 1 : Nat) : Int) kd) 28 10 (((R + 1 : Nat) : Int) + 1)
def u_Q (E : zMem) (k R : Nat) (st x v kd : Int) : zMem := if x = -1 then z_st (z_st (z_st (z_st (z_st (z_st (z_st E 11 R st) 12 R v) 0 27 ((R : Int) + 1)) 14 k st) 15 k x) 16 k R) 0 28 0 else z_st (z_st (z_st (z_st (z_st (z_st (z_st (z_st (z_st (z_st (z_st E 11 R st) 12 R v) 0 27 ((R : Int) + 1)) 14 k st) 15 k x) 16 k R) 0 28 0) 11 ((R + 1 : Nat) : Int) x) 12 ((R + 1 : Nat) : Int) 1) 0 27 (((R + 1 : Nat) : Int) + 1)) 0 28 kd
theorem u_P_c {M : zMem} {k R : Nat} {st x kd : Int} {c : Nat} {j : Int} (h : c ≠ 28) (h1 : c ≠ 31) (h2 : c ≠ 32) (h4 : c ≠ 34) (h5 : c ≠ 35) (h6 : c ≠ 36) : u_P M k R st x kd c j = M c j := by
  unfold u_P
  split
  · rw [z_st_c h, z_st_c h6, z_st_c h5, z_st_c h4, z_st_c h2, z_st_c h1]
  · rw [z_st_c h, z_st_c h6, z_st_c h5, z_st_c h, z_st_c h6, z_st_c h5, z_st_c h4, z_st_c h2, z_st_c h1]
theorem u_Q_c {E : zMem} {k R : Nat} {st x v kd : Int} {c : Nat} {j : Int} (h : c ≠ 0) (h1 : c ≠ 11) (h2 : c ≠ 12) (h4 : c ≠ 14) (h5 : c ≠ 15) (h6 : c ≠ 16) : u_Q E k R st x v kd c j = E c j := by
  unfold u_Q
  split
  · rw [z_st_c h, z_st_c h6, z_st_c h5, z_st_c h4, z_st_c h, z_st_c h2, z_st_c h1]
  · rw [z_st_c h, z_st_c h, z_st_c h2, z_st_c h1, z_st_c h, z_st_c h6, z_st_c h5, z_st_c h4, z_st_c h, z_st_c h2, z_st_c h1]
theorem u_fin {C D M E M2 E2 : zMem} {k R : Nat} {st x v en : Int} (h : u_I C D k R v M E) (hst : 0 ≤ st ∧ st < C 19 6) (ho : C 20 st ≠ -1) (hx : -1 ≤ x ∧ x < C 19 6)
    (f1 : ∀ c j, c ≠ 28 → c ≠ 29 → c ≠ 30 → M2 c j = u_P M k R st x (if C 20 st = 3 then 2 else 1) c j) (f2 : ∀ j : Int, j ≠ 3 → M2 28 j = u_P M k R st x (if C 20 st = 3 then 2 else 1) 28 j)
    (g1 : ∀ c j, c ≠ 0 → c ≠ 18 → c ≠ 19 → E2 c j = u_Q E k R st x v (if C 20 st = 3 then 1 else 0) c j) (g2 : ∀ j : Int, j ≠ 34 → E2 0 j = u_Q E k R st x v (if C 20 st = 3 then 1 else 0) 0 j) (hV : u_V C M2 E2) :
    u_I C D (k + 1) (if x = -1 then R + 1 else R + 2) (if x = -1 then 1 else if C 20 st = 3 then 3 else 2) (z_st (z_st M2 33 k (M2 28 3)) 28 1 ((k : Int) + 1)) (z_st (z_st (z_st E2 17 k (E2 0 34)) 0 33 ((k : Int) + 1)) 0 35 en) := by
  obtain ⟨i1, i2, i3, i4, i5, i6⟩ := h
  have ec : ((R + 1 : Nat) : Int) = (R : Int) + 1 := by omega
  have e31 : ∀ j : Int, z_st (z_st M2 33 k (M2 28 3)) 28 1 ((k : Int) + 1) 31 j = if j = k then st else M 31 j := fun j => by
    rw [z_st_c (by decide), z_st_c (by decide), f1 31 j (by decide) (by decide) (by decide)]
    unfold u_P
    split <;> simp (disch := decide) only [z_st_c, z_st_s]
  have e32 : ∀ j : Int, z_st (z_st M2 33 k (M2 28 3)) 28 1 ((k : Int) + 1) 32 j = if j = k then x else M 32 j := fun j => by
    rw [z_st_c (by decide), z_st_c (by decide), f1 32 j (by decide) (by decide) (by decide)]
    unfold u_P
    split <;> simp (disch := decide) only [z_st_c, z_st_s]
  have e34 : ∀ j : Int, z_st (z_st M2 33 k (M2 28 3)) 28 1 ((k : Int) + 1) 34 j = if j = k then (R : Int) else M 34 j := fun j => by
    rw [z_st_c (by decide), z_st_c (by decide), f1 34 j (by decide) (by decide) (by decide)]
    unfold u_P
    split <;> simp (disch := decide) only [z_st_c, z_st_s]
  have e35 : ∀ j : Int, z_st (z_st M2 33 k (M2 28 3)) 28 1 ((k : Int) + 1) 35 j = if j = R then st else if x ≠ -1 ∧ j = R + 1 then x else M 35 j := fun j => by
    rw [z_st_c (by decide), z_st_c (by decide), f1 35 j (by decide) (by decide) (by decide)]
    unfold u_P
    by_cases q : x = -1
    · rw [if_pos q, if_neg (show ¬ (x ≠ -1 ∧ j = (R : Int) + 1) from fun k => k.1 q)]
      simp (disch := decide) only [z_st_c, z_st_s]
    · rw [if_neg q]
      simp (disch := decide) only [z_st_c, z_st_s]
      by_cases q2 : j = (R : Int) + 1
      · rw [if_pos (by omega), if_neg (by omega), if_pos ⟨q, q2⟩]
      · rw [if_neg (by omega), if_neg (show ¬ (x ≠ -1 ∧ j = (R : Int) + 1) from fun k => q2 k.2)]
  have e36 : ∀ j : Int, z_st (z_st M2 33 k (M2 28 3)) 28 1 ((k : Int) + 1) 36 j = if j = R then 0 else if x ≠ -1 ∧ j = R + 1 then (if C 20 st = 3 then 2 else 1) else M 36 j := fun j => by
    rw [z_st_c (by decide), z_st_c (by decide), f1 36 j (by decide) (by decide) (by decide)]
    unfold u_P
    by_cases q : x = -1
    · rw [if_pos q, if_neg (show ¬ (x ≠ -1 ∧ j = (R : Int) + 1) from fun k => k.1 q)]
      simp (disch := decide) only [z_st_c, z_st_s]
    · rw [if_neg q]
      simp (disch := decide) only [z_st_c, z_st_s]
      by_cases q2 : j = (R : Int) + 1
      · rw [if_pos (show j = ((R + 1 : Nat) : Int) by omega), if_neg (show ¬ j = (R : Int) by omega), if_pos (show x ≠ -1 ∧ j = (R : Int) + 1 from ⟨q, q2⟩)]
      · rw [if_neg (show ¬ j = ((R + 1 : Nat) : Int) by omega), if_neg (show ¬ (x ≠ -1 ∧ j = (R : Int) + 1) from fun k => q2 k.2)]
  have e2810 : z_st (z_st M2 33 k (M2 28 3)) 28 1 ((k : Int) + 1) 28 10 = if x = -1 then (R : Int) + 1 else (R : Int) + 2 := by
    rw [z_st_n (by decide), z_st_c (by decide), f2 10 (by decide)]
    unfold u_P
    by_cases q : x = -1
    · rw [if_pos q, if_pos q, z_st_i rfl]
    · rw [if_neg q, if_neg q, z_st_i rfl]; omega
  have q0 : ∀ c j, c ≠ 0 → c ≠ 17 → c ≠ 18 → c ≠ 19 → z_st (z_st (z_st E2 17 k (E2 0 34)) 0 33 ((k : Int) + 1)) 0 35 en c j = u_Q E k R st x v (if C 20 st = 3 then 1 else 0) c j := fun c j h1 h2 h3 h4 => by
    rw [z_st_c h1, z_st_c h1, z_st_c h2]; exact g1 c j h1 h3 h4
  have f11 : ∀ j : Int, z_st (z_st (z_st E2 17 k (E2 0 34)) 0 33 ((k : Int) + 1)) 0 35 en 11 j = if j = R then st else if x ≠ -1 ∧ j = R + 1 then x else E 11 j := fun j => by
    rw [q0 11 j (by decide) (by decide) (by decide) (by decide)]
    unfold u_Q
    by_cases q : x = -1
    · rw [if_pos q, if_neg (show ¬ (x ≠ -1 ∧ j = (R : Int) + 1) from fun k => k.1 q)]
      simp (disch := decide) only [z_st_c, z_st_s]
    · rw [if_neg q]
      simp (disch := decide) only [z_st_c, z_st_s]
      by_cases q2 : j = (R : Int) + 1
      · rw [if_pos (by omega), if_neg (by omega), if_pos ⟨q, q2⟩]
      · rw [if_neg (by omega), if_neg (show ¬ (x ≠ -1 ∧ j = (R : Int) + 1) from fun k => q2 k.2)]
  have f12 : ∀ j : Int, z_st (z_st (z_st E2 17 k (E2 0 34)) 0 33 ((k : Int) + 1)) 0 35 en 12 j = if j = R then v else if x ≠ -1 ∧ j = R + 1 then 1 else E 12 j := fun j => by
    rw [q0 12 j (by decide) (by decide) (by decide) (by decide)]
    unfold u_Q
    by_cases q : x = -1
    · rw [if_pos q, if_neg (show ¬ (x ≠ -1 ∧ j = (R : Int) + 1) from fun k => k.1 q)]
      simp (disch := decide) only [z_st_c, z_st_s]
    · rw [if_neg q]
      simp (disch := decide) only [z_st_c, z_st_s]
      by_cases q2 : j = (R : Int) + 1
      · rw [if_pos (by omega), if_neg (by omega), if_pos ⟨q, q2⟩]
      · rw [if_neg (by omega), if_neg (show ¬ (x ≠ -1 ∧ j = (R : Int) + 1) from fun k => q2 k.2)]
  have f14 : ∀ j : Int, z_st (z_st (z_st E2 17 k (E2 0 34)) 0 33 ((k : Int) + 1)) 0 35 en 14 j = if j = k then st else E 14 j := fun j => by
    rw [q0 14 j (by decide) (by decide) (by decide) (by decide)]
    unfold u_Q
    split <;> simp (disch := decide) only [z_st_c, z_st_s]
  have f15 : ∀ j : Int, z_st (z_st (z_st E2 17 k (E2 0 34)) 0 33 ((k : Int) + 1)) 0 35 en 15 j = if j = k then x else E 15 j := fun j => by
    rw [q0 15 j (by decide) (by decide) (by decide) (by decide)]
    unfold u_Q
    split <;> simp (disch := decide) only [z_st_c, z_st_s]
  have f16 : ∀ j : Int, z_st (z_st (z_st E2 17 k (E2 0 34)) 0 33 ((k : Int) + 1)) 0 35 en 16 j = if j = k then (R : Int) else E 16 j := fun j => by
    rw [q0 16 j (by decide) (by decide) (by decide) (by decide)]
    unfold u_Q
    split <;> simp (disch := decide) only [z_st_c, z_st_s]
  have f27 : z_st (z_st (z_st E2 17 k (E2 0 34)) 0 33 ((k : Int) + 1)) 0 35 en 0 27 = if x = -1 then (R : Int) + 1 else (R : Int) + 2 := by
    rw [z_st_n (by decide), z_st_n (by decide), z_st_c (by decide), g2 27 (by decide)]
    unfold u_Q
    by_cases q : x = -1
    · rw [if_pos q, if_pos q, z_st_n (by decide), z_st_c (by decide), z_st_c (by decide), z_st_c (by decide), z_st_i rfl]
    · rw [if_neg q, if_neg q, z_st_n (by decide), z_st_i rfl]; omega
  have f28 : z_st (z_st (z_st E2 17 k (E2 0 34)) 0 33 ((k : Int) + 1)) 0 35 en 0 28 = if x ≠ -1 ∧ C 20 st = 3 then 1 else 0 := by
    rw [z_st_n (by decide), z_st_n (by decide), z_st_c (by decide), g2 28 (by decide)]
    unfold u_Q
    by_cases q : x = -1
    · rw [if_pos q, if_neg (fun k => k.1 q), z_st_i rfl]
    · rw [if_neg q, z_st_i rfl]
      by_cases q3 : C 20 st = 3
      · rw [if_pos q3, if_pos ⟨q, q3⟩]
      · rw [if_neg q3, if_neg (fun k => q3 k.2)]
  refine ⟨fun c j g => ?_, fun c j h0 h11 h12 h14 h15 h16 h17 h18 h19 => ?_, fun j h27 h28 h33 h34 h35 => ?_, uu_T_add i4 hst ho hx e31 e32 e34 e35 e36 (z_st_i rfl) e2810, u_J_add (C := C) i5 e31 e32 e34 (fun j hj => ?_) e35 e36 f14 f15 f16 (fun j hj => ?_) ?_ f11 f12 ?_ f27 f28, ?_⟩
  · rw [z_st_c (by omega), z_st_c (by omega), f1 c j (by omega) (by omega) (by omega), u_P_c (by omega) (by omega) (by omega) (by omega) (by omega) (by omega)]
    exact i1 c j g
  · rw [q0 c j h0 h17 h18 h19, u_Q_c h0 h11 h12 h14 h15 h16]; exact i2 c j h0 h11 h12 h14 h15 h16 h17 h18 h19
  · rw [z_st_n h35, z_st_n h33, z_st_c (by decide), g2 j h34]
    have : u_Q E k R st x v (if C 20 st = 3 then 1 else 0) 0 j = E 0 j := by
      unfold u_Q
      split
      · rw [z_st_n h28, z_st_c (by decide), z_st_c (by decide), z_st_c (by decide), z_st_n h27, z_st_c (by decide), z_st_c (by decide)]
      · rw [z_st_n h28, z_st_n h27, z_st_c (by decide), z_st_c (by decide), z_st_n h28, z_st_c (by decide), z_st_c (by decide), z_st_c (by decide), z_st_n h27, z_st_c (by decide), z_st_c (by decide)]
    rw [this]; exact i3 j h27 h28 h33 h34 h35
  · rw [z_st_c (by decide), z_st_n hj, f1 33 j (by decide) (by decide) (by decide), u_P_c (by decide) (by decide) (by decide) (by decide) (by decide) (by decide)]
  · rw [z_st_c (by decide), z_st_c (by decide), z_st_n hj, g1 17 j (by decide) (by decide) (by decide), u_Q_c (by decide) (by decide) (by decide) (by decide) (by decide) (by decide)]
  · rw [z_st_c (by decide), z_st_c (by decide), z_st_i rfl, z_st_c (by decide), z_st_i rfl]; exact hV.1.1
  · rw [z_st_n (by decide), z_st_i rfl]
  · obtain ⟨v1, v2, v3⟩ := hV
    refine ⟨?_, fun i k1 k2 k3 => ?_, fun i k1 k2 k3 k4 => ?_⟩
    · rw [z_st_n (by decide), z_st_n (by decide), z_st_c (by decide), z_st_n (by decide), z_st_c (by decide)]; exact v1
    · rw [z_st_c (by decide), z_st_c (by decide), z_st_c (by decide), z_st_c (by decide), z_st_c (by decide)]; exact v2 i k1 k2 k3
    · rw [z_st_c (by decide), z_st_c (by decide), z_st_c (by decide), z_st_c (by decide), z_st_c (by decide)]; exact v3 i k1 k2 k3 k4
