/-! moved, swapped, best, pair, idle -/
theorem Rel_whyNot {N : Nat} {C D : zMem} {v1 v2 : Int} (h : Rel N C D) (hN : 400 ≤ N) (h1 : z_Rg v1) (h2 : z_Rg v2) : ∃ r : Int, Drum_refusalOfMove N v1 v2 C = some (r, C) ∧ Model_whyNot N v1 v2 D = some (r, D) ∧ ((r = 0 ∧ 0 < C 19 8 ∧ (0 ≤ v1 ∧ v1 < C 19 6) ∧ (0 ≤ v2 ∧ v2 < C 19 0 * C 19 1)) ∨ r = -2 ∨ r = -5) := by
  obtain ⟨n1, n2, n3, n4⟩ := Rel_n h
  obtain ⟨i1, i2⟩ := Rel_isItem h h1
  obtain ⟨a1, a2⟩ := Rel_isAddress h h2
  obtain ⟨t1, t2⟩ := Rel_itemAt h hN h2
  have fb := y_fnd_b (f := C 57) (x := v2) (C 19 6).toNat 0
  unfold Drum_refusalOfMove Model_whyNot
  rw [Rel_hasRun h, z_cl_e, z_eq_b, i1, i2, z_cl_e, z_cl_e, z_eq_b, z_eq_b, a1, z_cl_e, z_eq_b, a2, z_eq_b, t1, z_cl_e]
  by_cases c : 0 < C 19 8
  · rw [if_pos c, z_eq_f (by omega)]
    by_cases ci : 0 ≤ v1 ∧ v1 < C 19 6
    · rw [if_pos ci, if_pos ci]
      by_cases ca : 0 ≤ v2 ∧ v2 < C 19 0 * C 19 1
      · rw [if_pos ca, if_pos ca]
        obtain ⟨f1, f2⟩ := Rel_fixed h ci
        rw [f1, f2]
        simp only [z_cl_e, z_jn_e, t2]
        rw [z_eq_b, z_eq_b]
        by_cases cf : C 21 v1 = -1
        · rw [if_pos cf, if_neg (by omega)]
          by_cases cx : y_fnd (C 57) v2 (C 19 6).toNat 0 = -1
          · rw [z_eq_t (by omega), z_eq_t (by omega)]
            exact ⟨0, rfl, rfl, Or.inl ⟨rfl, c, ci, ca⟩⟩
          · by_cases cy : y_fnd (C 57) v2 (C 19 6).toNat 0 = v1
            · rw [z_eq_f (by omega), z_eq_t (by omega), z_eq_f (by omega), z_eq_t (by omega)]
              exact ⟨0, rfl, rfl, Or.inl ⟨rfl, c, ci, ca⟩⟩
            · rw [z_eq_f (by omega), z_eq_f (by omega), z_eq_f (by omega), z_eq_f (by omega)]
              exact ⟨-5, rfl, rfl, Or.inr (Or.inr rfl)⟩
        · rw [if_neg cf, if_pos cf]
          exact ⟨-5, rfl, rfl, Or.inr (Or.inr rfl)⟩
      · rw [if_neg ca, if_neg ca]
        exact ⟨-2, rfl, rfl, Or.inr (Or.inl rfl)⟩
    · rw [if_neg ci, if_neg ci]
      exact ⟨-2, rfl, rfl, Or.inr (Or.inl rfl)⟩
  · rw [if_neg c, z_eq_t (by omega)]
    exact ⟨-2, rfl, rfl, Or.inr (Or.inl rfl)⟩
theorem Rel_whyNotBoth {N : Nat} {C D : zMem} {v1 v2 : Int} (h : Rel N C D) (h1 : z_Rg v1) (h2 : z_Rg v2) : ∃ r : Int, Drum_refusalOfExchange v1 v2 C = some (r, C) ∧ Model_whyNotBoth v1 v2 D = some (r, D) ∧ ((r = 0 ∧ 0 < C 19 8 ∧ (0 ≤ v1 ∧ v1 < C 19 6) ∧ (0 ≤ v2 ∧ v2 < C 19 6) ∧ v1 ≠ v2) ∨ r = -2 ∨ r = -5) := by
  obtain ⟨n1, n2, n3, n4⟩ := Rel_n h
  obtain ⟨i1, i2⟩ := Rel_isItem h h1
  obtain ⟨j1, j2⟩ := Rel_isItem h h2
  unfold Drum_refusalOfExchange Model_whyNotBoth
  rw [Rel_hasRun h, z_cl_e, z_eq_b, i1, i2, z_cl_e, z_cl_e, z_eq_b, z_eq_b, j1, j2, z_cl_e, z_cl_e, z_eq_b, z_eq_b]
  by_cases c : 0 < C 19 8
  · rw [if_pos c, z_eq_f (by omega)]
    by_cases ci : 0 ≤ v1 ∧ v1 < C 19 6
    · rw [if_pos ci, if_pos ci]
      by_cases ca : 0 ≤ v2 ∧ v2 < C 19 6
      · rw [if_pos ca, if_pos ca]
        by_cases ce : v1 = v2
        · rw [z_eq_t (by omega), z_eq_t (by omega)]
          exact ⟨-2, rfl, rfl, Or.inr (Or.inl rfl)⟩
        · rw [z_eq_f (by omega), z_eq_f (by omega)]
          obtain ⟨f1, f2⟩ := Rel_fixed h ci
          obtain ⟨g1, g2⟩ := Rel_fixed h ca
          rw [f1, f2]
          simp only [z_cl_e, z_jn_e, g1, g2]
          rw [z_eq_b, z_eq_b, z_eq_b, z_eq_b]
          by_cases cf : C 21 v1 = -1
          · rw [if_pos cf, if_neg (by omega)]
            by_cases cg : C 21 v2 = -1
            · rw [if_pos cg, if_neg (by omega)]
              exact ⟨0, rfl, rfl, Or.inl ⟨rfl, c, ci, ca, ce⟩⟩
            · rw [if_neg cg, if_pos cg]
              exact ⟨-5, rfl, rfl, Or.inr (Or.inr rfl)⟩
          · rw [if_neg cf, if_pos cf]
            exact ⟨-5, rfl, rfl, Or.inr (Or.inr rfl)⟩
      · rw [if_neg ca, if_neg ca]
        by_cases ce : v1 = v2
        · rw [z_eq_t (by omega)]; exact ⟨-2, rfl, rfl, Or.inr (Or.inl rfl)⟩
        · rw [z_eq_f (by omega)]; exact ⟨-2, rfl, rfl, Or.inr (Or.inl rfl)⟩
    · rw [if_neg ci, if_neg ci]
      by_cases ce : v1 = v2
      · rw [z_eq_t (by omega)]; exact ⟨-2, rfl, rfl, Or.inr (Or.inl rfl)⟩
      · rw [z_eq_f (by omega)]; exact ⟨-2, rfl, rfl, Or.inr (Or.inl rfl)⟩
  · rw [if_neg c, z_eq_t (by omega)]
    exact ⟨-2, rfl, rfl, Or.inr (Or.inl rfl)⟩
theorem ok_moved {N : Nat} {C D : zMem} {v1 v2 : Int} (h : Rel N C D) (hN : 400 ≤ N) (h1 : z_Rg v1) (h2 : z_Rg v2) : OK N (Drum_moved N v1 v2 C) (Model_moved N v1 v2 D) := by
  obtain ⟨r, r1, r2, r3⟩ := Rel_whyNot h hN h1 h2
  unfold Drum_moved Model_moved
  rw [r1, r2, z_cl_e, z_cl_e]
  rcases r3 with ⟨e, c, ci, ca⟩ | e | e
  · obtain ⟨R, C', D', T, t1, t2, hX, t3, t4, t5⟩ := r_X_now h c hN
    have k19 : ∀ j, C' 19 j = C 19 j := fun j => t4 19 j (by decide) (by decide) (by decide) (by decide)
    obtain ⟨⟨C2, m1, m2⟩, E2, m3, m4⟩ := r_X_moved (v1 := v1) (v2 := v2) hX hN t5 (fun _ _ _ => rfl) (by rw [k19]; exact ci) (by rw [k19, k19]; exact ca)
    rw [z_eq_t (by omega), z_lt_f (by omega), t2, z_cl_e, m1, m3, z_cl_e, z_cl_e]
    exact ⟨_, C2, E2, rfl, rfl, r_X_rel hX m2 m4⟩
  · rw [z_eq_f (by omega), z_lt_t (by omega)]; exact ⟨_, C, D, rfl, rfl, h⟩
  · rw [z_eq_f (by omega), z_lt_t (by omega)]; exact ⟨_, C, D, rfl, rfl, h⟩
theorem ok_swapped {N : Nat} {C D : zMem} {v1 v2 : Int} (h : Rel N C D) (hN : 400 ≤ N) (h1 : z_Rg v1) (h2 : z_Rg v2) : OK N (Drum_swapped N v1 v2 C) (Model_swapped N v1 v2 D) := by
  obtain ⟨r, r1, r2, r3⟩ := Rel_whyNotBoth h h1 h2
  unfold Drum_swapped Model_swapped
  rw [r1, r2, z_cl_e, z_cl_e]
  rcases r3 with ⟨e, c, ci, ca, ce⟩ | e | e
  · obtain ⟨R, C', D', T, t1, t2, hX, t3, t4, t5⟩ := r_X_now h c hN
    have k19 : ∀ j, C' 19 j = C 19 j := fun j => t4 19 j (by decide) (by decide) (by decide) (by decide)
    obtain ⟨⟨C2, m1, m2⟩, E2, m3, m4⟩ := r_X_swapped (v1 := v1) (v2 := v2) hX hN t5 (fun _ _ _ => rfl) (by rw [k19]; exact ci) (by rw [k19]; exact ca) ce
    rw [z_eq_t (by omega), z_lt_f (by omega), t2, z_cl_e, m1, m3, z_cl_e, z_cl_e]
    exact ⟨_, C2, E2, rfl, rfl, r_X_rel hX m2 m4⟩
  · rw [z_eq_f (by omega), z_lt_t (by omega)]; exact ⟨_, C, D, rfl, rfl, h⟩
  · rw [z_eq_f (by omega), z_lt_t (by omega)]; exact ⟨_, C, D, rfl, rfl, h⟩
/-- the guards of the loops -/
theorem r_X_g {N R : Nat} {C D C1 E : zMem} (hX : r_X N R C D) (s1 : s_C C C1) (s2 : s_D D E) : C1 19 6 = C 19 6 ∧ E 1 5 = C 19 6 ∧ (0 ≤ C 19 6 ∧ C 19 6 ≤ 20) ∧ (2 ≤ C 19 0 * C 19 1 ∧ C 19 0 * C 19 1 ≤ 48) ∧ Plan_addresses 19 C1 = some (C 19 0 * C 19 1, C1) ∧ Model_many E = some (C 19 0 * C 19 1, E) := by
  obtain ⟨p1, p2, p3, p4, p5, p6⟩ := Rel_P hX.1 hX.2.1
  obtain ⟨q0, q1, q2, q3, q4, q5, q6⟩ := hX.1.2.2.1.1
  have ts := y_ts p1 p2
  refine ⟨s1 19 6 (by decide) (by decide) (by decide) (by decide), ?_, ⟨by omega, by omega⟩, ⟨by omega, by omega⟩, ?_, ?_⟩
  · rw [s2 1 5 (by decide)]; exact q5
  · unfold Plan_addresses
    rw [s1 19 0 (by decide) (by decide) (by decide) (by decide), s1 19 1 (by decide) (by decide) (by decide) (by decide)]
  · rw [Model_many_e, s2 1 0 (by decide), s2 1 1 (by decide), q0, q1]
theorem r_X_f {N R : Nat} {C D C1 E : zMem} {v : Int} (hX : r_X N R C D) (s1 : s_C C C1) (s2 : s_D D E) (hv : 0 ≤ v ∧ v < C 19 6) : Plan_isFixed v C1 = some (if C 21 v ≠ -1 then 1 else 0, C1) ∧ Model_isFree v E = some (if C 21 v = -1 then 1 else 0, E) := by
  have := Rel_fixed (v := v) (r_X_rel hX s1 s2) (by rw [s1 19 6 (by decide) (by decide) (by decide) (by decide)]; exact hv)
  rw [s1 21 v (by decide) (by decide) (by decide) (by decide)] at this
  exact this
theorem r_X_i {N R : Nat} {C D C1 E : zMem} {v : Int} (hX : r_X N R C D) (hN : 400 ≤ N) (s1 : s_C C C1) (s2 : s_D D E) (hv : z_Rg v) : Drum_itemAt N v C1 = some (y_fnd (C 57) v (C 19 6).toNat 0, C1) ∧ Model_itemAt N v E = some (y_fnd (C 57) v (C 19 6).toNat 0, E) := by
  have := Rel_itemAt (v := v) (r_X_rel hX s1 s2) hN hv
  rw [s1 19 6 (by decide) (by decide) (by decide) (by decide), show C1 57 = C 57 from funext fun j => s1 57 j (by decide) (by decide) (by decide) (by decide)] at this
  exact this
theorem r_X_isMove {N R : Nat} {C D C1 : zMem} {v1 v2 : Int} (hX : r_X N R C D) (hN : 400 ≤ N) (s1 : s_C C C1) (hv : 0 ≤ v1 ∧ v1 < C 19 6) (hv2 : z_Rg v2) : Drum_isMove N v1 v2 C1 = some (if C 21 v1 = -1 ∧ y_fnd (C 57) v2 (C 19 6).toNat 0 = -1 then 1 else 0, C1) := by
  have f := (r_X_f hX s1 (E := D) (fun _ _ _ => rfl) hv).1
  have i := (r_X_i hX hN s1 (E := D) (fun _ _ _ => rfl) hv2).1
  have fb := y_fnd_b (f := C 57) (x := v2) (C 19 6).toNat 0
  have g := r_X_g hX s1 (E := D) (fun _ _ _ => rfl)
  unfold Drum_isMove
  rw [f, z_cl_e, z_jn_e, z_eq_b, i, z_cl_e]
  by_cases c : C 21 v1 = -1
  · rw [if_neg (by omega)]
    by_cases c2 : y_fnd (C 57) v2 (C 19 6).toNat 0 = -1
    · rw [if_pos ⟨c, c2⟩, z_eq_t (by omega)]
    · rw [if_neg (by omega), z_eq_f (by omega)]
  · rw [if_pos c, if_neg (by omega)]
theorem best_in {N R : Nat} {C D : zMem} {v3 : Int} (hX : r_X N R C D) (hN : 400 ≤ N) (hv : 0 ≤ v3 ∧ v3 < C 19 6) (hf : C 21 v3 = -1) {k k' : Int → Int → zMem → zO} :
    ∀ (n : Nat) (v1 v2 v4 : Int) (C1 E : zMem), s_C C C1 → s_D D E → 0 ≤ v4 → v4 ≤ C 19 0 * C 19 1 → C 19 0 * C 19 1 - v4 < n → z_Rg v1 →
      ∃ (a b : Int) (C2 E2 : zMem), Drum_best_36 N v3 k n v1 v2 v4 C1 = k a b C2 ∧ Model_best_32 N v3 k' n v1 v2 v4 E = k' a b E2 ∧ s_C C C2 ∧ s_D D E2 ∧ z_Rg a := by
  intro n
  induction n with
  | zero => intro v1 v2 v4 C1 E _ _ _ _ h; omega
  | succ n ih =>
    intro v1 v2 v4 C1 E s1 s2 h0 h1 hn hr
    obtain ⟨g1, g2, g3, g4, g5, g6⟩ := r_X_g hX s1 s2
    rw [Drum_best_36, Model_best_32, g5, g6, z_cl_e, z_cl_e]
    by_cases c : v4 < C 19 0 * C 19 1
    · have e1 := r_X_isMove (v1 := v3) (v2 := v4) hX hN s1 hv (by omega)
      have e2 := (r_X_f hX s1 s2 hv).2
      have e3 := (r_X_i (v := v4) hX hN s1 s2 (by omega)).2
      have fb := y_fnd_b (f := C 57) (x := v4) (C 19 6).toNat 0
      rw [z_lt_t (by omega), z_lt_t (by omega), e1, e2, z_cl_e, z_cl_e, z_jn_e, z_eq_b, z_eq_b, if_pos hf, e3, z_cl_e, z_jn_e]
      by_cases c2 : y_fnd (C 57) v4 (C 19 6).toNat 0 = -1
      · obtain ⟨⟨C2, m1, m2⟩, E2, m3, m4⟩ := r_X_moved (v1 := v3) (v2 := v4) hX hN s1 s2 hv ⟨h0, c⟩
        have hb := r_X_at_b (a := fun i => if i = v3 then v4 else C 57 i) hX
        have hb' : 0 ≤ y_mv C R v3 v4 ∧ y_mv C R v3 v4 ≤ 9000 := hb
        rw [if_pos ⟨hf, c2⟩, z_eq_t (by omega), m1, m3, z_cl_e, z_cl_e]
        by_cases c3 : y_mv C R v3 v4 < v1
        · obtain ⟨-, E3, m5, m6⟩ := r_X_moved (v1 := v3) (v2 := v4) hX hN m2 m4 hv ⟨h0, c⟩
          rw [z_lt_t (by omega), z_lt_t (by omega), m5, z_cl_e]
          simp only [z_nm_e]
          exact ih _ _ _ C2 E3 m2 m6 (by omega) (by omega) (by omega) (by omega)
        · rw [z_lt_f (by omega), z_lt_f (by omega)]
          simp only [z_nm_e]
          exact ih _ _ _ C2 E2 m2 m4 (by omega) (by omega) (by omega) hr
      · rw [if_neg (by omega), z_eq_f (by omega)]
        simp only [z_nm_e]
        exact ih _ _ _ C1 E s1 s2 (by omega) (by omega) (by omega) hr
    · rw [z_lt_f (by omega), z_lt_f (by omega)]
      exact ⟨v1, v2, C1, E, rfl, rfl, s1, s2, hr⟩
theorem best_fx {N R : Nat} {C D : zMem} {v3 : Int} (hX : r_X N R C D) (hN : 400 ≤ N) (hv : 0 ≤ v3 ∧ v3 < C 19 6) (hf : C 21 v3 ≠ -1) {k : Int → Int → zMem → zO} :
    ∀ (n : Nat) (v1 v2 v4 : Int) (C1 : zMem), s_C C C1 → 0 ≤ v4 → v4 ≤ C 19 0 * C 19 1 → C 19 0 * C 19 1 - v4 < n → Drum_best_36 N v3 k n v1 v2 v4 C1 = k v1 v2 C1 := by
  intro n
  induction n with
  | zero => intro v1 v2 v4 C1 _ _ _ h; omega
  | succ n ih =>
    intro v1 v2 v4 C1 s1 h0 h1 hn
    obtain ⟨g1, g2, g3, g4, g5, g6⟩ := r_X_g hX s1 (E := D) (fun _ _ _ => rfl)
    rw [Drum_best_36, g5, z_cl_e]
    by_cases c : v4 < C 19 0 * C 19 1
    · have e1 := r_X_isMove (v1 := v3) (v2 := v4) hX hN s1 hv (by omega)
      rw [z_lt_t (by omega), e1, z_cl_e, z_jn_e, z_eq_b, if_neg (fun q => hf q.1)]
      simp only [z_nm_e]
      exact ih _ _ _ C1 s1 (by omega) (by omega) (by omega)
    · rw [z_lt_f (by omega)]
theorem best_out {N R : Nat} {C D : zMem} (hX : r_X N R C D) (hN : 400 ≤ N) :
    ∀ (n : Nat) (v1 v2 v3 : Int) (C1 E : zMem), s_C C C1 → s_D D E → 0 ≤ v3 → v3 ≤ C 19 6 → C 19 6 - v3 < n → z_Rg v1 →
      ∃ (b : Int) (C2 E2 : zMem), Drum_best_22 N (fun v2_ M2 => some (v2_, M2)) n v1 v2 v3 C1 = some (b, C2) ∧ Model_best_19 N (fun v2_ M3 => some (v2_, M3)) n v1 v2 v3 E = some (b, E2) ∧ s_C C C2 ∧ s_D D E2 := by
  intro n
  induction n with
  | zero => intro v1 v2 v4 C1 E _ _ _ _ h; omega
  | succ n ih =>
    intro v1 v2 v3 C1 E s1 s2 h0 h1 hn hr
    obtain ⟨g1, g2, g3, g4, g5, g6⟩ := r_X_g hX s1 s2
    rw [Drum_best_22, Model_best_19, z_rd_t (by omega), g1, g2]
    by_cases c : v3 < C 19 6
    · rw [z_lt_t (by omega), z_lt_t (by omega), z_jn_e, z_jn_e]
      by_cases hf : C 21 v3 = -1
      · obtain ⟨a, b, C2, E2, m1, m2, m3, m4, m5⟩ := best_in (k := fun (v1_ v2_ : Int) (M1 : zMem) => z_nm (v3 + 1) (fun v3_ => Drum_best_22 N (fun v2_ M2 => some (v2_, M2)) n v1_ v2_ v3_ M1)) (k' := fun (v1_ v2_ : Int) (M1 : zMem) => z_nm (v3 + 1) (fun v3_ => Model_best_19 N (fun v2_ M3 => some (v2_, M3)) n v1_ v2_ v3_ M1)) hX hN ⟨h0, c⟩ hf N v1 v2 0 C1 E s1 s2 (by omega) (by omega) (by omega) hr
        rw [m1, m2]
        simp only [z_nm_e]
        exact ih a b (v3 + 1) C2 E2 m3 m4 (by omega) (by omega) (by omega) m5
      · obtain ⟨m, hm⟩ : ∃ m, N = m + 1 := ⟨N - 1, by omega⟩
        rw [best_fx hX hN ⟨h0, c⟩ hf N v1 v2 0 C1 s1 (by omega) (by omega) (by omega)]
        have e : ∀ K : Int → Int → zMem → zO, Model_best_32 N v3 K N v1 v2 0 E = K v1 v2 E := fun K => by
          have : Model_best_32 N v3 K (m + 1) v1 v2 0 E = K v1 v2 E := by
            rw [Model_best_32, g6, z_cl_e, z_lt_t (by omega), (r_X_f hX s1 s2 ⟨h0, c⟩).2, z_cl_e, z_eq_b, if_neg hf]
          rw [← hm] at this; exact this
        rw [e]
        simp only [z_nm_e]
        exact ih v1 v2 (v3 + 1) C1 E s1 s2 (by omega) (by omega) (by omega) hr
    · rw [z_lt_f (by omega), z_lt_f (by omega)]
      exact ⟨v2, C1, E, rfl, rfl, s1, s2⟩
theorem ok_best {N : Nat} {C D : zMem} (h : Rel N C D) (hN : 400 ≤ N) : OK N (Drum_best N C) (Model_best N D) := by
  obtain ⟨n1, n2, n3, n4⟩ := Rel_n h
  unfold Drum_best Model_best
  rw [Rel_hasRun h, z_cl_e, z_eq_b]
  by_cases c : 0 < C 19 8
  · obtain ⟨R, C', D', T, t1, t2, hX, t3, t4, t5⟩ := r_X_now h c hN
    obtain ⟨b, C2, E2, m1, m2, m3, m4⟩ := best_out hX hN N T (-1) 0 C' D' (fun _ _ _ _ _ _ => rfl) (fun _ _ _ => rfl) (by omega) (by have := (r_X_g hX (C1 := C') (E := D') (fun _ _ _ _ _ _ => rfl) (fun _ _ _ => rfl)); omega) (by have := (r_X_g hX (C1 := C') (E := D') (fun _ _ _ _ _ _ => rfl) (fun _ _ _ => rfl)); omega) (by omega)
    rw [if_pos c, z_eq_f (by omega), t1, t2, z_cl_e, z_cl_e, z_jn_e, z_jn_e]
    exact ⟨b, C2, E2, m1, m2, r_X_rel hX m3 m4⟩
  · rw [if_neg c, z_eq_t (by omega)]
    exact ⟨_, C, D, rfl, rfl, h⟩
theorem pair_in {N R : Nat} {C D : zMem} {v3 : Int} (hX : r_X N R C D) (hN : 400 ≤ N) (hv : 0 ≤ v3 ∧ v3 < C 19 6) {k k' : Int → Int → zMem → zO} :
    ∀ (n : Nat) (v1 v2 v4 : Int) (C1 E : zMem), s_C C C1 → s_D D E → v3 < v4 → v4 ≤ C 19 6 → C 19 6 - v4 < n → z_Rg v1 →
      ∃ (a b : Int) (C2 E2 : zMem), Drum_pair_38 N v3 k n v1 v2 v4 C1 = k a b C2 ∧ Model_pair_34 N v3 k' n v1 v2 v4 E = k' a b E2 ∧ s_C C C2 ∧ s_D D E2 ∧ z_Rg a := by
  intro n
  induction n with
  | zero => intro v1 v2 v4 C1 E _ _ _ _ h; omega
  | succ n ih =>
    intro v1 v2 v4 C1 E s1 s2 h0 h1 hn hr
    obtain ⟨g1, g2, g3, g4, g5, g6⟩ := r_X_g hX s1 s2
    rw [Drum_pair_38, Model_pair_34, z_rd_t (by omega), g1, g2]
    by_cases c : v4 < C 19 6
    · obtain ⟨e1, e2⟩ := r_X_f hX s1 s2 hv
      obtain ⟨e3, e4⟩ := r_X_f (v := v4) hX s1 s2 (by omega)
      rw [z_lt_t (by omega), z_lt_t (by omega), e1, e2, z_cl_e, z_cl_e, z_jn_e, z_jn_e, z_eq_b, z_eq_b, e3, e4, z_cl_e, z_cl_e, z_eq_b, z_eq_b]
      by_cases hf : C 21 v3 = -1
      · rw [if_pos hf, if_neg (by omega)]
        by_cases hg : C 21 v4 = -1
        · rw [if_pos hg, if_neg (by omega)]
          obtain ⟨⟨C2, m1, m2⟩, E2, m3, m4⟩ := r_X_swapped (v1 := v3) (v2 := v4) hX hN s1 s2 hv (by omega) (by omega)
          have hb' : 0 ≤ y_sw C R v3 v4 ∧ y_sw C R v3 v4 ≤ 9000 := r_X_at_b hX
          rw [m1, m3, z_cl_e, z_cl_e]
          by_cases c3 : y_sw C R v3 v4 < v1
          · obtain ⟨-, E3, m5, m6⟩ := r_X_swapped (v1 := v3) (v2 := v4) hX hN m2 m4 hv (by omega) (by omega)
            rw [z_lt_t (by omega), z_lt_t (by omega), m5, z_cl_e]
            simp only [z_nm_e]
            exact ih _ _ _ C2 E3 m2 m6 (by omega) (by omega) (by omega) (by omega)
          · rw [z_lt_f (by omega), z_lt_f (by omega)]
            simp only [z_nm_e]
            exact ih _ _ _ C2 E2 m2 m4 (by omega) (by omega) (by omega) hr
        · rw [if_neg hg, if_pos hg]
          simp only [z_nm_e]
          exact ih _ _ _ C1 E s1 s2 (by omega) (by omega) (by omega) hr
      · rw [if_neg hf, if_pos hf]
        simp only [z_nm_e]
        exact ih _ _ _ C1 E s1 s2 (by omega) (by omega) (by omega) hr
    · rw [z_lt_f (by omega), z_lt_f (by omega)]
      exact ⟨v1, v2, C1, E, rfl, rfl, s1, s2, hr⟩
theorem pair_out {N R : Nat} {C D : zMem} (hX : r_X N R C D) (hN : 400 ≤ N) :
    ∀ (n : Nat) (v1 v2 v3 : Int) (C1 E : zMem), s_C C C1 → s_D D E → 0 ≤ v3 → v3 ≤ C 19 6 → C 19 6 - v3 < n → z_Rg v1 →
      ∃ (b : Int) (C2 E2 : zMem), Drum_pair_22 N (fun v2_ M2 => some (v2_, M2)) n v1 v2 v3 C1 = some (b, C2) ∧ Model_pair_19 N (fun v2_ M3 => some (v2_, M3)) n v1 v2 v3 E = some (b, E2) ∧ s_C C C2 ∧ s_D D E2 := by
  intro n
  induction n with
  | zero => intro v1 v2 v4 C1 E _ _ _ _ h; omega
  | succ n ih =>
    intro v1 v2 v3 C1 E s1 s2 h0 h1 hn hr
    obtain ⟨g1, g2, g3, g4, g5, g6⟩ := r_X_g hX s1 s2
    rw [Drum_pair_22, Model_pair_19, z_rd_t (by omega), g1, g2]
    by_cases c : v3 < C 19 6
    · rw [z_lt_t (by omega), z_lt_t (by omega), z_nm_e, z_nm_e, z_jn_e, z_jn_e]
      obtain ⟨a, b, C2, E2, m1, m2, m3, m4, m5⟩ := pair_in (k := fun (v1_ v2_ : Int) (M1 : zMem) => z_nm (v3 + 1) (fun v3_ => Drum_pair_22 N (fun v2_ M2 => some (v2_, M2)) n v1_ v2_ v3_ M1)) (k' := fun (v1_ v2_ : Int) (M1 : zMem) => z_nm (v3 + 1) (fun v3_ => Model_pair_19 N (fun v2_ M3 => some (v2_, M3)) n v1_ v2_ v3_ M1)) hX hN ⟨h0, c⟩ N v1 v2 (v3 + 1) C1 E s1 s2 (by omega) (by omega) (by omega) hr
      rw [m1, m2]
      simp only [z_nm_e]
      exact ih a b (v3 + 1) C2 E2 m3 m4 (by omega) (by omega) (by omega) m5
    · rw [z_lt_f (by omega), z_lt_f (by omega)]
      exact ⟨v2, C1, E, rfl, rfl, s1, s2⟩
theorem ok_pair {N : Nat} {C D : zMem} (h : Rel N C D) (hN : 400 ≤ N) : OK N (Drum_pair N C) (Model_pair N D) := by
  obtain ⟨n1, n2, n3, n4⟩ := Rel_n h
  unfold Drum_pair Model_pair
  rw [Rel_hasRun h, z_cl_e, z_eq_b]
  by_cases c : 0 < C 19 8
  · obtain ⟨R, C', D', T, t1, t2, hX, t3, t4, t5⟩ := r_X_now h c hN
    obtain ⟨b, C2, E2, m1, m2, m3, m4⟩ := pair_out hX hN N T (-1) 0 C' D' (fun _ _ _ _ _ _ => rfl) (fun _ _ _ => rfl) (by omega) (by have := (r_X_g hX (C1 := C') (E := D') (fun _ _ _ _ _ _ => rfl) (fun _ _ _ => rfl)); omega) (by have := (r_X_g hX (C1 := C') (E := D') (fun _ _ _ _ _ _ => rfl) (fun _ _ _ => rfl)); omega) (by omega)
    rw [if_pos c, z_eq_f (by omega), t1, t2, z_cl_e, z_cl_e, z_jn_e, z_jn_e]
    exact ⟨b, C2, E2, m1, m2, r_X_rel hX m3 m4⟩
  · rw [if_neg c, z_eq_t (by omega)]
    exact ⟨_, C, D, rfl, rfl, h⟩
theorem idle_in {N R : Nat} {C D : zMem} {v1 v3 : Int} (hX : r_X N R C D) (hN : 400 ≤ N) (hr : z_Rg v1) (hv : 0 ≤ v3 ∧ v3 < C 19 6) (hf : C 21 v3 = -1) {k k' : Int → zMem → zO} :
    ∀ (n : Nat) (v2 v4 : Int) (C1 E : zMem), s_C C C1 → s_D D E → 0 ≤ v4 → v4 ≤ C 19 0 * C 19 1 → C 19 0 * C 19 1 - v4 < n →
      ∃ (b : Int) (C2 E2 : zMem), Drum_idle_36 N v1 v3 k n v2 v4 C1 = k b C2 ∧ Model_idle_32 N v1 v3 k' n v2 v4 E = k' b E2 ∧ s_C C C2 ∧ s_D D E2 := by
  intro n
  induction n with
  | zero => intro v2 v4 C1 E _ _ _ _ h; omega
  | succ n ih =>
    intro v2 v4 C1 E s1 s2 h0 h1 hn
    obtain ⟨g1, g2, g3, g4, g5, g6⟩ := r_X_g hX s1 s2
    rw [Drum_idle_36, Model_idle_32, g5, g6, z_cl_e, z_cl_e]
    by_cases c : v4 < C 19 0 * C 19 1
    · have e1 := r_X_isMove (v1 := v3) (v2 := v4) hX hN s1 hv (by omega)
      have e2 := (r_X_f hX s1 s2 hv).2
      have e3 := (r_X_i (v := v4) hX hN s1 s2 (by omega)).2
      have fb := y_fnd_b (f := C 57) (x := v4) (C 19 6).toNat 0
      rw [z_lt_t (by omega), z_lt_t (by omega), e1, e2, z_cl_e, z_cl_e, z_jn_e, z_eq_b, z_eq_b, if_pos hf, e3, z_cl_e, z_jn_e, z_jn_e]
      by_cases c2 : y_fnd (C 57) v4 (C 19 6).toNat 0 = -1
      · obtain ⟨⟨C2, m1, m2⟩, E2, m3, m4⟩ := r_X_moved (v1 := v3) (v2 := v4) hX hN s1 s2 hv ⟨h0, c⟩
        have hb' : 0 ≤ y_mv C R v3 v4 ∧ y_mv C R v3 v4 ≤ 9000 := r_X_at_b hX
        rw [if_pos ⟨hf, c2⟩, z_eq_t (by omega), m1, m3, z_cl_e, z_cl_e]
        by_cases c3 : y_mv C R v3 v4 = v1
        · rw [z_eq_t (by omega), z_eq_t (by omega)]
          simp only [z_nm_e]
          exact ih _ _ C2 E2 m2 m4 (by omega) (by omega) (by omega)
        · rw [z_eq_f (by omega), z_eq_f (by omega)]
          simp only [z_nm_e, Int.add_zero]
          exact ih _ _ C2 E2 m2 m4 (by omega) (by omega) (by omega)
      · rw [if_neg (by omega), z_eq_f (by omega)]
        simp only [z_nm_e, Int.add_zero]
        exact ih _ _ C1 E s1 s2 (by omega) (by omega) (by omega)
    · rw [z_lt_f (by omega), z_lt_f (by omega)]
      exact ⟨v2, C1, E, rfl, rfl, s1, s2⟩
theorem idle_fx {N R : Nat} {C D : zMem} {v1 v3 : Int} (hX : r_X N R C D) (hN : 400 ≤ N) (hv : 0 ≤ v3 ∧ v3 < C 19 6) (hf : C 21 v3 ≠ -1) {k : Int → zMem → zO} :
    ∀ (n : Nat) (v2 v4 : Int) (C1 : zMem), s_C C C1 → 0 ≤ v4 → v4 ≤ C 19 0 * C 19 1 → C 19 0 * C 19 1 - v4 < n → Drum_idle_36 N v1 v3 k n v2 v4 C1 = k v2 C1 := by
  intro n
  induction n with
  | zero => intro v2 v4 C1 _ _ _ h; omega
  | succ n ih =>
    intro v2 v4 C1 s1 h0 h1 hn
    obtain ⟨g1, g2, g3, g4, g5, g6⟩ := r_X_g hX s1 (E := D) (fun _ _ _ => rfl)
    rw [Drum_idle_36, g5, z_cl_e]
    by_cases c : v4 < C 19 0 * C 19 1
    · have e1 := r_X_isMove (v1 := v3) (v2 := v4) hX hN s1 hv (by omega)
      rw [z_lt_t (by omega), e1, z_cl_e, z_jn_e, z_eq_b, if_neg (fun q => hf q.1)]
      simp only [z_nm_e]
      exact ih _ _ C1 s1 (by omega) (by omega) (by omega)
    · rw [z_lt_f (by omega)]
theorem idle_out {N R : Nat} {C D : zMem} {v1 : Int} (hX : r_X N R C D) (hN : 400 ≤ N) (hr : z_Rg v1) :
    ∀ (n : Nat) (v2 v3 : Int) (C1 E : zMem), s_C C C1 → s_D D E → 0 ≤ v3 → v3 ≤ C 19 6 → C 19 6 - v3 < n →
      ∃ (b : Int) (C2 E2 : zMem), Drum_idle_22 N v1 (fun v2_ M2 => some (v2_, M2)) n v2 v3 C1 = some (b, C2) ∧ Model_idle_19 N v1 (fun v2_ M3 => some (v2_, M3)) n v2 v3 E = some (b, E2) ∧ s_C C C2 ∧ s_D D E2 := by
  intro n
  induction n with
  | zero => intro v2 v4 C1 E _ _ _ _ h; omega
  | succ n ih =>
    intro v2 v3 C1 E s1 s2 h0 h1 hn
    obtain ⟨g1, g2, g3, g4, g5, g6⟩ := r_X_g hX s1 s2
    rw [Drum_idle_22, Model_idle_19, z_rd_t (by omega), g1, g2]
    by_cases c : v3 < C 19 6
    · rw [z_lt_t (by omega), z_lt_t (by omega), z_jn_e, z_jn_e]
      by_cases hf : C 21 v3 = -1
      · obtain ⟨b, C2, E2, m1, m2, m3, m4⟩ := idle_in (k := fun (v2_ : Int) (M1 : zMem) => z_nm (v3 + 1) (fun v3_ => Drum_idle_22 N v1 (fun v2_ M2 => some (v2_, M2)) n v2_ v3_ M1)) (k' := fun (v2_ : Int) (M1 : zMem) => z_nm (v3 + 1) (fun v3_ => Model_idle_19 N v1 (fun v2_ M3 => some (v2_, M3)) n v2_ v3_ M1)) hX hN hr ⟨h0, c⟩ hf N v2 0 C1 E s1 s2 (by omega) (by omega) (by omega)
        rw [m1, m2]
        simp only [z_nm_e]
        exact ih b (v3 + 1) C2 E2 m3 m4 (by omega) (by omega) (by omega)
      · obtain ⟨m, hm⟩ : ∃ m, N = m + 1 := ⟨N - 1, by omega⟩
        rw [idle_fx hX hN ⟨h0, c⟩ hf N v2 0 C1 s1 (by omega) (by omega) (by omega)]
        have e : ∀ K : Int → zMem → zO, Model_idle_32 N v1 v3 K N v2 0 E = K v2 E := fun K => by
          have : Model_idle_32 N v1 v3 K (m + 1) v2 0 E = K v2 E := by
            rw [Model_idle_32, g6, z_cl_e, z_lt_t (by omega), (r_X_f hX s1 s2 ⟨h0, c⟩).2, z_cl_e, z_eq_b, if_neg hf]
          rw [← hm] at this; exact this
        rw [e]
        simp only [z_nm_e]
        exact ih v2 (v3 + 1) C1 E s1 s2 (by omega) (by omega) (by omega)
    · rw [z_lt_f (by omega), z_lt_f (by omega)]
      exact ⟨v2, C1, E, rfl, rfl, s1, s2⟩
theorem ok_idle {N : Nat} {C D : zMem} (h : Rel N C D) (hN : 400 ≤ N) : OK N (Drum_idle N C) (Model_idle N D) := by
  obtain ⟨n1, n2, n3, n4⟩ := Rel_n h
  unfold Drum_idle Model_idle
  rw [Rel_hasRun h, z_cl_e, z_eq_b]
  by_cases c : 0 < C 19 8
  · obtain ⟨R, C', D', T, t1, t2, hX, t3, t4, t5⟩ := r_X_now h c hN
    obtain ⟨b, C2, E2, m1, m2, m3, m4⟩ := idle_out (v1 := T) hX hN (by omega) N 0 0 C' D' (fun _ _ _ _ _ _ => rfl) (fun _ _ _ => rfl) (by omega) (by have := (r_X_g hX (C1 := C') (E := D') (fun _ _ _ _ _ _ => rfl) (fun _ _ _ => rfl)); omega) (by have := (r_X_g hX (C1 := C') (E := D') (fun _ _ _ _ _ _ => rfl) (fun _ _ _ => rfl)); omega)
    rw [if_pos c, z_eq_f (by omega), t1, t2, z_cl_e, z_cl_e, z_jn_e, z_jn_e]
    exact ⟨b, C2, E2, m1, m2, r_X_rel hX m3 m4⟩
  · rw [if_neg c, z_eq_t (by omega)]
    exact ⟨_, C, D, rfl, rfl, h⟩
