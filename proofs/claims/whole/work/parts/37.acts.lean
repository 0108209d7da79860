/-! the acts: put, swap, undo, anew -/
theorem Rel_mk {N : Nat} {C D C' D' : zMem} (h : Rel N C D) (hC : ∀ c j, c ≤ 2 ∨ (19 ≤ c ∧ c ≤ 29) ∨ (31 ≤ c ∧ c ≤ 38) → C' c j = C c j) (hD4 : ∀ j, D' 4 j = D 4 j) (hD0 : ∀ j : Int, j = 4 ∨ j = 5 ∨ j = 6 → D' 0 j = D 0 j) (hD1 : ∀ j : Int, 0 ≤ j → j < 149 → j ≠ 7 → D' 1 j = D 1 j) (hL : r_L C' D') (hA : r_A C' D') (hS : r_S C' D') : Rel N C' D' := by
  obtain ⟨hT, hF, hP, hR, -, -, -⟩ := h
  have c0 : C' 0 = C 0 := funext fun j => hC 0 j (by omega)
  have c1 : C' 1 = C 1 := funext fun j => hC 1 j (by omega)
  have c2 : C' 2 = C 2 := funext fun j => hC 2 j (by omega)
  have c19 : C' 19 = C 19 := funext fun j => hC 19 j (by omega)
  have c20 : C' 20 = C 20 := funext fun j => hC 20 j (by omega)
  have c21 : C' 21 = C 21 := funext fun j => hC 21 j (by omega)
  have c28 : C' 28 = C 28 := funext fun j => hC 28 j (by omega)
  have c29 : C' 29 = C 29 := funext fun j => hC 29 j (by omega)
  have c31 : C' 31 = C 31 := funext fun j => hC 31 j (by omega)
  have c32 : C' 32 = C 32 := funext fun j => hC 32 j (by omega)
  have c33 : C' 33 = C 33 := funext fun j => hC 33 j (by omega)
  have c34 : C' 34 = C 34 := funext fun j => hC 34 j (by omega)
  have c35 : C' 35 = C 35 := funext fun j => hC 35 j (by omega)
  have c36 : C' 36 = C 36 := funext fun j => hC 36 j (by omega)
  have c37 : C' 37 = C 37 := funext fun j => hC 37 j (by omega)
  have c38 : C' 38 = C 38 := funext fun j => hC 38 j (by omega)
  have d4 : D' 4 = D 4 := funext hD4
  refine ⟨?_, ?_, ?_, ?_, hL, hA, hS⟩
  · unfold r_T at hT ⊢
    rw [c1, c2, d4, hD0 4 (by omega)]; exact hT
  · unfold r_F at hF ⊢
    rw [c0, hD0 5 (by omega), hD0 6 (by omega)]; exact hF
  · obtain ⟨k1, k2, k3, k4, ⟨k5, k5'⟩, k6, k7, k8⟩ := hP
    have b6 : C 19 6 ≤ 20 := by
      by_cases z : C 19 5 = 0
      · have := k3 z; omega
      · exact (k4 (by omega)).2.2.2.2.2.2.1
    unfold r_P y_P
    rw [c19, c20, c21, hD1 0 (by omega) (by omega) (by omega), hD1 1 (by omega) (by omega) (by omega), hD1 2 (by omega) (by omega) (by omega), hD1 3 (by omega) (by omega) (by omega), hD1 4 (by omega) (by omega) (by omega), hD1 5 (by omega) (by omega) (by omega), hD1 6 (by omega) (by omega) (by omega), hD1 8 (by omega) (by omega) (by omega)]
    refine ⟨k1, k2, k3, k4, ⟨k5, ?_⟩, fun i g1 g2 => ?_, k7, k8⟩
    · rw [k5']
      exact y_sum_congr _ (fun j hj => by
        show 1 - D 1 (9 + j) = 1 - D' 1 (9 + j)
        rw [hD1 _ (by omega) (by omega) (by omega)])
    · rw [hD1 (9 + i) (by omega) (by omega) (by omega), hD1 (49 + i) (by omega) (by omega) (by omega), hD1 (129 + i) (by omega) (by omega) (by omega)]
      exact k6 i g1 g2
  · intro c
    rw [c19] at c
    obtain ⟨R, b1, b2, b3, b4, b5, b6⟩ := hR c
    refine ⟨R, b1, ?_, ?_, ?_, ?_, fun E hE => ?_⟩
    · unfold y_TR; rw [c28, c19, c35, c36]; exact b2
    · unfold y_PV; rw [c35, c36, c37, c38]; exact b3
    · rw [c28]; exact b4
    · rw [c28, c34, c32]; exact b5
    · obtain ⟨E', e1, e2⟩ := b6 E (fun j g1 g2 g3 => by rw [hE j g1 g2 g3]; exact hD1 j g1 g2 g3)
      refine ⟨E', e1, ?_⟩
      unfold r_out
      rw [c19, c20, c28, c29, c31, c32, c33, c34, c35, c36]
      exact e2
theorem r_S_same {C D C' D' : zMem} (h : r_S C D) (hC : ∀ c j, c = 19 ∨ c = 48 ∨ c = 54 → C' c j = C c j) (h0 : ∀ j : Int, j = 42 ∨ j = 44 ∨ j = 45 → D' 0 j = D 0 j) (h2 : ∀ j, D' 22 j = D 22 j) : r_S C' D' := by
  have c19 : C' 19 = C 19 := funext fun j => hC 19 j (by omega)
  have c48 : C' 48 = C 48 := funext fun j => hC 48 j (by omega)
  have c54 : C' 54 = C 54 := funext fun j => hC 54 j (by omega)
  have d22 : D' 22 = D 22 := funext h2
  unfold r_S
  rw [c19, c48, c54, d22, h0 42 (by omega), h0 44 (by omega), h0 45 (by omega)]
  exact h
/-- the reference's keeps -/
theorem Model_keeps_e {N : Nat} {D : zMem} (hN : 400 ≤ N) (h7 : 0 ≤ D 1 7 ∧ D 1 7 < 20) : ∃ D' : zMem, Model_keeps N D = some (0, D') ∧ (∀ c j, c ≠ 1 → c ≠ 3 → D' c j = D c j) ∧ (∀ j : Int, j ≠ 7 → D' 1 j = D 1 j) ∧ D' 1 7 = D 1 7 + 1 ∧ ∀ j : Int, D' 3 j = if 20 * D 1 7 ≤ j ∧ j < 20 * D 1 7 + 20 then D 1 (149 + (j - 20 * D 1 7)) else D 3 j := by
  have key : ∀ (n : Nat) (v : Int) (M : zMem) (k : zMem → zO), 0 ≤ v → v ≤ 20 → 20 - v < n → (∀ c j, c ≠ 3 → M c j = D c j) → (∀ j : Int, M 3 j = if 20 * D 1 7 ≤ j ∧ j < 20 * D 1 7 + v then D 1 (149 + (j - 20 * D 1 7)) else D 3 j) →
      ∃ M' : zMem, Model_keeps_2 N k n v M = k M' ∧ (∀ c j, c ≠ 3 → M' c j = D c j) ∧ ∀ j : Int, M' 3 j = if 20 * D 1 7 ≤ j ∧ j < 20 * D 1 7 + 20 then D 1 (149 + (j - 20 * D 1 7)) else D 3 j := by
    intro n
    induction n with
    | zero => intro v M k _ _ h; omega
    | succ n ih =>
      intro v M k h0 h1 hn hM hA
      rw [Model_keeps_2]
      by_cases c : v < 20
      · have m7 : M 1 7 = D 1 7 := hM 1 7 (by decide)
        have mv : M 1 (149 + v) = D 1 (149 + v) := hM 1 _ (by decide)
        simp (disch := omega) only [z_lt_t, z_lt_f, z_le_t, z_le_f, z_eq_t, z_eq_f, z_rd_t, z_wr_t, z_wz_t, z_pf_e, z_pz_t, z_nm_e, z_jn_e, z_cl_e, z_rz_t, m7, mv]
        refine ih (v + 1) _ k (by omega) (by omega) (by omega) (fun c j hc => by rw [z_st_c hc]; exact hM c j hc) (fun j => ?_)
        by_cases hj : j = 20 * D 1 7 + v
        · rw [z_st_i hj, if_pos (by omega), hj, show 149 + (20 * D 1 7 + v - 20 * D 1 7) = 149 + v by omega]
        · rw [z_st_n hj, hA]
          by_cases hq : 20 * D 1 7 ≤ j ∧ j < 20 * D 1 7 + v
          · rw [if_pos hq, if_pos (by omega)]
          · rw [if_neg hq, if_neg (by omega)]
      · rw [z_lt_f (by omega)]
        have : v = 20 := by omega
        subst this
        exact ⟨M, rfl, hM, hA⟩
  obtain ⟨M', m1, m2, m3⟩ := key N 0 D (fun (M1 : zMem) => z_rd M1 1 169 7 (fun x0 => z_wr M1 1 169 7 (x0 + 1) (fun M2 => some (0, M2)))) (by omega) (by omega) (by omega) (fun _ _ _ => rfl) (fun j => by rw [if_neg (by omega)])
  have m7 : M' 1 7 = D 1 7 := m2 1 7 (by decide)
  refine ⟨z_st M' 1 7 (D 1 7 + 1), ?_, fun c j g1 g2 => ?_, fun j g => ?_, z_st_i rfl, fun j => ?_⟩
  · unfold Model_keeps
    rw [z_jn_e]
    refine m1.trans ?_
    simp (disch := omega) only [z_lt_t, z_lt_f, z_le_t, z_le_f, z_eq_t, z_eq_f, z_rd_t, z_wr_t, z_wz_t, z_pf_e, z_pz_t, z_nm_e, z_jn_e, z_cl_e, z_rz_t, m7]
  · rw [z_st_c g1]; exact m2 c j g2
  · rw [z_st_n g]; exact m2 1 j (by decide)
  · rw [z_st_c (by decide)]; exact m3 j
theorem Rel_keep {N : Nat} {C D : zMem} (h : Rel N C D) (hN : 400 ≤ N) (c5 : 0 < C 19 5) (h20 : C 55 1 < 20) : ∃ C' D' : zMem, Acts_keep C = some (1, C') ∧ Model_keeps N D = some (0, D') ∧ (∀ c j, c ≠ 55 → c ≠ 56 → C' c j = C c j) ∧ (∀ c j, c ≠ 1 → c ≠ 3 → D' c j = D c j) ∧ (∀ j : Int, j ≠ 7 → D' 1 j = D 1 j) ∧ r_A C' D' := by
  obtain ⟨a1, a2, a3⟩ := h.2.2.2.2.2.1
  have hL := h.2.2.2.2.1
  obtain ⟨n1, n2, n3, n4⟩ := Rel_n h
  obtain ⟨D', d1, d2, d3, d4, d5⟩ := Model_keeps_e (D := D) hN (by omega)
  refine ⟨z_st (z_cpm C 57 0 56 (C 55 1 * 20) 20) 55 1 (C 55 1 + 1), D', ?_, d1, fun c j g1 g2 => ?_, d2, d3, ?_⟩
  · have e : z_cpm C 57 0 56 (C 55 1 * 20) 20 55 1 = C 55 1 := z_cpm_c (by decide)
    unfold Acts_keep
    rw [z_le_f (by omega), z_cp_t (by omega), z_pf_e, e]
  · rw [z_st_c g1, z_cpm_c g2]
  · refine ⟨by rw [d4, a1, z_st_i rfl], by rw [z_st_i rfl]; omega, fun a i g1 g2 g3 g4 => ?_⟩
    rw [z_st_i rfl] at g2
    rw [z_st_c (by decide), z_cpm_c (by decide)] at g4
    rw [z_st_c (by decide), z_st_c (by decide), z_st_c (by decide), z_cpm_c (c' := 19) (j := 0) (by decide), z_cpm_c (c' := 19) (j := 1) (by decide), d5, a1]
    by_cases e : a = C 55 1
    · subst e
      rw [if_pos (by omega), z_cpm_i (by omega), show (0 : Int) + (20 * C 55 1 + i - C 55 1 * 20) = i by omega, show 149 + (20 * C 55 1 + i - 20 * C 55 1) = 149 + i by omega]
      exact hL i g3 g4
    · rw [if_neg (by omega), z_cpm_n (by omega)]
      exact a3 a i g1 (by omega) g3 g4
theorem Rel_keep_at {N : Nat} {C D C' D' C2 D2 : zMem} (h : Rel N C D) (k1 : ∀ c j, c ≠ 55 → c ≠ 56 → C' c j = C c j) (k2 : ∀ c j, c ≠ 1 → c ≠ 3 → D' c j = D c j) (k3 : ∀ j : Int, j ≠ 7 → D' 1 j = D 1 j) (hA : r_A C' D')
    (e1 : ∀ c j, c ≠ 57 → C2 c j = C' c j) (e2 : ∀ c j, c ≠ 1 → D2 c j = D' c j) (e3 : ∀ j : Int, j < 149 → D2 1 j = D' 1 j) (hL : r_L C2 D2) : Rel N C2 D2 := by
  refine Rel_mk h (fun c j g => by rw [e1 c j (by omega)]; exact k1 c j (by omega) (by omega)) (fun j => by rw [e2 4 j (by decide)]; exact k2 4 j (by decide) (by decide)) (fun j _ => by rw [e2 0 j (by decide)]; exact k2 0 j (by decide) (by decide)) (fun j g1 g2 g3 => by rw [e3 j g2]; exact k3 j g3) hL ?_ (r_S_same h.2.2.2.2.2.2 (fun c j g => by rw [e1 c j (by omega)]; exact k1 c j (by omega) (by omega)) (fun j _ => by rw [e2 0 j (by decide)]; exact k2 0 j (by decide) (by decide)) (fun j => by rw [e2 22 j (by decide)]; exact k2 22 j (by decide) (by decide)))
  have c55 : C2 55 = C' 55 := funext fun j => e1 55 j (by decide)
  have c56 : C2 56 = C' 56 := funext fun j => e1 56 j (by decide)
  have c19 : C2 19 = C' 19 := funext fun j => e1 19 j (by decide)
  have d3 : D2 3 = D' 3 := funext fun j => e2 3 j (by decide)
  unfold r_A
  rw [c55, c56, c19, d3, e3 7 (by omega)]
  exact hA
theorem ok_put {N : Nat} {C D : zMem} {v1 v2 : Int} (h : Rel N C D) (hN : 400 ≤ N) (h1 : z_Rg v1) (h2 : z_Rg v2) : OK N (Drum_put N v1 v2 C) (Model_put N v1 v2 D) := by
  obtain ⟨r, r1, r2, r3⟩ := Rel_whyNot h hN h1 h2
  obtain ⟨a1, a2, a3⟩ := h.2.2.2.2.2.1
  have hL := h.2.2.2.2.1
  obtain ⟨n1, n2, n3, n4⟩ := Rel_n h
  unfold Drum_put Model_put
  rw [r1, r2, z_cl_e, z_cl_e, z_jn_e]
  rcases r3 with ⟨e, c, ci, ca⟩ | e | e
  · rw [z_eq_t (by omega), z_le_t (by omega), z_rd_t (by omega), a1]
    by_cases c20 : C 55 1 = 20
    · rw [z_eq_t (by omega)]; simp only []; rw [z_lt_f (by omega)]
      have : Acts_keep C = some (0, C) := by unfold Acts_keep; rw [z_le_t (by omega)]
      rw [this, z_cl_e, z_eq_t (by omega)]
      exact ⟨_, C, D, rfl, rfl, h⟩
    · obtain ⟨C', D', k0, k1, k2, k3, k4, k5⟩ := Rel_keep h hN (n4 c) (by omega)
      have hr : Rel N (z_st C' 57 v1 v2) (z_st D' 1 (149 + v1) v2) := by
        refine Rel_keep_at h k2 k3 k4 k5 (fun c j g => z_st_c g) (fun c j g => z_st_c g) (fun j g => z_st_n (by omega)) (fun i g1 g2 => ?_)
        rw [z_st_c (by decide), k2 19 _ (by decide) (by decide)] at g2
        rw [z_st_c (c' := 19) (by decide), z_st_c (c' := 19) (by decide), k2 19 0 (by decide) (by decide), k2 19 1 (by decide) (by decide)]
        by_cases hi : i = v1
        · rw [z_st_i (by omega), z_st_i hi]; exact ⟨rfl, ca⟩
        · rw [z_st_n (by omega), z_st_n hi, k4 _ (by omega), k2 57 _ (by decide) (by decide)]; exact hL i g1 g2
      obtain ⟨R, C2, D2, T, t1, t2, hX, t3, t4, t5⟩ := r_X_now hr (by rw [z_st_c (by decide), k2 19 _ (by decide) (by decide)]; exact c) hN
      rw [z_eq_f (by omega), k0, k1, z_cl_e, z_cl_e, z_eq_f (by omega), z_wr_t (by omega), z_wr_t (by omega), t1, t2, z_cl_e, z_cl_e]
      exact ⟨_, C2, D2, rfl, rfl, hX.1⟩
  · rw [z_eq_f (by omega), z_le_f (by omega)]; simp only []; rw [z_lt_t (by omega)]; exact ⟨_, C, D, rfl, rfl, h⟩
  · rw [z_eq_f (by omega), z_le_f (by omega)]; simp only []; rw [z_lt_t (by omega)]; exact ⟨_, C, D, rfl, rfl, h⟩
theorem ok_swap {N : Nat} {C D : zMem} {v1 v2 : Int} (h : Rel N C D) (hN : 400 ≤ N) (h1 : z_Rg v1) (h2 : z_Rg v2) : OK N (Drum_swap N v1 v2 C) (Model_swap N v1 v2 D) := by
  obtain ⟨r, r1, r2, r3⟩ := Rel_whyNotBoth h h1 h2
  obtain ⟨a1, a2, a3⟩ := h.2.2.2.2.2.1
  have hL := h.2.2.2.2.1
  obtain ⟨n1, n2, n3, n4⟩ := Rel_n h
  unfold Drum_swap Model_swap
  rw [r1, r2, z_cl_e, z_cl_e, z_jn_e]
  rcases r3 with ⟨e, c, ci, ca, ce⟩ | e | e
  · rw [z_eq_t (by omega), z_le_t (by omega), z_rd_t (by omega), a1]
    by_cases c20 : C 55 1 = 20
    · rw [z_eq_t (by omega)]; simp only []; rw [z_lt_f (by omega)]
      have : Acts_keep C = some (0, C) := by unfold Acts_keep; rw [z_le_t (by omega)]
      rw [this, z_cl_e, z_eq_t (by omega)]
      exact ⟨_, C, D, rfl, rfl, h⟩
    · obtain ⟨C', D', k0, k1, k2, k3, k4, k5⟩ := Rel_keep h hN (n4 c) (by omega)
      have l1 := hL v1 ci.1 ci.2
      have l2 := hL v2 ca.1 ca.2
      have x1 : D' 1 (149 + v1) = C 57 v1 := by rw [k4 _ (by omega)]; exact l1.1
      have x2 : D' 1 (149 + v2) = C 57 v2 := by rw [k4 _ (by omega)]; exact l2.1
      have y1 : C' 57 v1 = C 57 v1 := k2 57 _ (by decide) (by decide)
      have y2 : C' 57 v2 = C 57 v2 := k2 57 _ (by decide) (by decide)
      have hr : Rel N (z_st (z_st C' 57 v1 (C 57 v2)) 57 v2 (C 57 v1)) (z_st (z_st D' 1 (149 + v1) (C 57 v2)) 1 (149 + v2) (C 57 v1)) := by
        refine Rel_keep_at h k2 k3 k4 k5 (fun c j g => by rw [z_st_c g, z_st_c g]) (fun c j g => by rw [z_st_c g, z_st_c g]) (fun j g => by rw [z_st_n (by omega), z_st_n (by omega)]) (fun i g1 g2 => ?_)
        rw [z_st_c (by decide), z_st_c (by decide), k2 19 _ (by decide) (by decide)] at g2
        rw [z_st_c (c' := 19) (by decide), z_st_c (c' := 19) (by decide), z_st_c (c' := 19) (by decide), z_st_c (c' := 19) (by decide), k2 19 0 (by decide) (by decide), k2 19 1 (by decide) (by decide)]
        by_cases hi : i = v2
        · rw [z_st_i (by omega), z_st_i hi]; exact ⟨rfl, l1.2⟩
        · rw [z_st_n (by omega), z_st_n hi]
          by_cases hi' : i = v1
          · rw [z_st_i (by omega), z_st_i hi']; exact ⟨rfl, l2.2⟩
          · rw [z_st_n (by omega), z_st_n hi', k4 _ (by omega), k2 57 _ (by decide) (by decide)]; exact hL i g1 g2
      obtain ⟨R, C2, D2, T, t1, t2, hX, t3, t4, t5⟩ := r_X_now hr (by rw [z_st_c (by decide), z_st_c (by decide), k2 19 _ (by decide) (by decide)]; exact c) hN
      unfold Drum_exchange
      rw [z_eq_f (by omega), k0, k1, z_cl_e, z_cl_e, z_eq_f (by omega)]
      simp (disch := omega) only [z_lt_t, z_lt_f, z_le_t, z_le_f, z_eq_t, z_eq_f, z_rd_t, z_wr_t, z_wz_t, z_pf_e, z_pz_t, z_nm_e, z_jn_e, z_cl_e, z_rz_t, x1, x2, y1, y2, t1, t2]
      exact ⟨_, C2, D2, rfl, rfl, hX.1⟩
  · rw [z_eq_f (by omega), z_le_f (by omega)]; simp only []; rw [z_lt_t (by omega)]; exact ⟨_, C, D, rfl, rfl, h⟩
  · rw [z_eq_f (by omega), z_le_f (by omega)]; simp only []; rw [z_lt_t (by omega)]; exact ⟨_, C, D, rfl, rfl, h⟩
theorem Model_goesBack_e {N : Nat} {D : zMem} {v : Int} (hN : 400 ≤ N) (hv : 0 ≤ v ∧ v < 20) : ∃ D' : zMem, Model_goesBack N v D = some (0, D') ∧ (∀ c j, c ≠ 1 → D' c j = D c j) ∧ (∀ j : Int, j < 149 → j ≠ 7 → D' 1 j = D 1 j) ∧ D' 1 7 = v ∧ ∀ i : Int, 0 ≤ i → i < 20 → D' 1 (149 + i) = D 3 (20 * v + i) := by
  have key : ∀ (n : Nat) (i : Int) (M : zMem) (k : zMem → zO), 0 ≤ i → i ≤ 20 → 20 - i < n → (∀ c j, c ≠ 1 → M c j = D c j) → (∀ j : Int, j < 149 → M 1 j = z_st D 1 7 v 1 j) → (∀ j : Int, 0 ≤ j → j < i → M 1 (149 + j) = D 3 (20 * v + j)) →
      ∃ M' : zMem, Model_goesBack_10 N v k n i M = k M' ∧ (∀ c j, c ≠ 1 → M' c j = D c j) ∧ (∀ j : Int, j < 149 → M' 1 j = z_st D 1 7 v 1 j) ∧ ∀ j : Int, 0 ≤ j → j < 20 → M' 1 (149 + j) = D 3 (20 * v + j) := by
    intro n
    induction n with
    | zero => intro i M k _ _ h; omega
    | succ n ih =>
      intro i M k h0 h1 hn hM hM1 hA
      rw [Model_goesBack_10]
      by_cases c : i < 20
      · have m3 : M 3 (20 * v + i) = D 3 (20 * v + i) := hM 3 _ (by decide)
        simp (disch := omega) only [z_lt_t, z_lt_f, z_le_t, z_le_f, z_eq_t, z_eq_f, z_rd_t, z_wr_t, z_wz_t, z_pf_e, z_pz_t, z_nm_e, z_jn_e, z_cl_e, z_rz_t, m3]
        refine ih (i + 1) _ k (by omega) (by omega) (by omega) (fun c j hc => by rw [z_st_c hc]; exact hM c j hc) (fun j hj => by rw [z_st_n (by omega)]; exact hM1 j hj) (fun j g1 g2 => ?_)
        by_cases hj : j = i
        · rw [z_st_i (by omega), hj]
        · rw [z_st_n (by omega)]; exact hA j g1 (by omega)
      · rw [z_lt_f (by omega)]
        exact ⟨M, rfl, hM, hM1, fun j g1 g2 => hA j g1 (by omega)⟩
  obtain ⟨M', m1, m2, m3, m4⟩ := key N 0 (z_st D 1 7 v) (fun (M2 : zMem) => some (0, M2)) (by omega) (by omega) (by omega) (fun c j g => z_st_c g) (fun _ _ => rfl) (fun j g1 g2 => by omega)
  refine ⟨M', ?_, m2, fun j g1 g2 => by rw [m3 j g1, z_st_n g2], by rw [m3 7 (by omega), z_st_i rfl], m4⟩
  unfold Model_goesBack
  rw [z_wr_t (by omega), z_jn_e]
  exact m1
theorem Rel_back {N : Nat} {C D : zMem} {v : Int} (h : Rel N C D) (hN : 400 ≤ N) (hv : 0 ≤ v ∧ v < C 55 1) : ∃ C' D' : zMem, Acts_backTo v C = some (0, C') ∧ Model_goesBack N v D = some (0, D') ∧ Rel N C' D' ∧ C' 55 1 = v ∧ D' 1 7 = v := by
  obtain ⟨a1, a2, a3⟩ := h.2.2.2.2.2.1
  obtain ⟨n1, n2, n3, n4⟩ := Rel_n h
  obtain ⟨D', d1, d2, d3, d4, d5⟩ := Model_goesBack_e (D := D) (v := v) hN (by omega)
  have kC : ∀ c j, c ≠ 55 → c ≠ 57 → z_st (z_cpm C 56 (v * 20) 57 0 20) 55 1 v c j = C c j := fun c j g1 g2 => by rw [z_st_c g1, z_cpm_c g2]
  refine ⟨z_st (z_cpm C 56 (v * 20) 57 0 20) 55 1 v, D', ?_, d1, Rel_mk h (fun c j g => kC c j (by omega) (by omega)) (fun j => d2 4 j (by decide)) (fun j _ => d2 0 j (by decide)) (fun j g1 g2 g3 => d3 j g2 g3) (fun i g1 g2 => ?_) ⟨by rw [d4, z_st_i rfl], by rw [z_st_i rfl]; omega, fun a i g1 g2 g3 g4 => ?_⟩ (r_S_same h.2.2.2.2.2.2 (fun c j g => kC c j (by omega) (by omega)) (fun j _ => d2 0 j (by decide)) (fun j => d2 22 j (by decide))), z_st_i rfl, d4⟩
  · unfold Acts_backTo
    rw [z_le_t (by omega), z_lt_t (by omega), z_cp_t (by omega), z_pf_e]
  · rw [kC 19 6 (by decide) (by decide)] at g2
    rw [kC 19 0 (by decide) (by decide), kC 19 1 (by decide) (by decide), z_st_c (by decide), z_cpm_i (by omega), d5 i g1 (by omega), show v * 20 + (i - 0) = 20 * v + i by omega]
    exact a3 v i hv.1 hv.2 g1 g2
  · rw [z_st_i rfl] at g2
    rw [kC 19 6 (by decide) (by decide)] at g4
    rw [kC 19 0 (by decide) (by decide), kC 19 1 (by decide) (by decide), kC 56 _ (by decide) (by decide), d2 3 _ (by decide)]
    exact a3 a i g1 (by omega) g3 g4
theorem ok_undo {N : Nat} {C D : zMem} (h : Rel N C D) (hN : 400 ≤ N) : OK N (Drum_undo C) (Model_undo N D) := by
  obtain ⟨a1, a2, a3⟩ := h.2.2.2.2.2.1
  obtain ⟨q0, q1, q2, q3, q4, q5, q6⟩ := h.2.2.1.1
  have b5 := h.2.2.1.2.1
  unfold Drum_undo Model_undo
  rw [z_rd_t (by omega), q6]
  by_cases c : C 19 5 = 0
  · rw [z_eq_t (by omega), z_eq_t (by omega)]; exact ⟨_, C, D, rfl, rfl, h⟩
  · by_cases c2 : C 55 1 = 0
    · simp (disch := omega) only [z_lt_t, z_lt_f, z_le_t, z_le_f, z_eq_t, z_eq_f, z_rd_t, z_wr_t, z_wz_t, z_pf_e, z_pz_t, z_nm_e, z_jn_e, z_cl_e, z_rz_t, a1]; exact ⟨_, C, D, rfl, rfl, h⟩
    · obtain ⟨C', D', m1, m2, m3, m4, m5⟩ := Rel_back (v := C 55 1 - 1) h hN (by omega)
      simp (disch := omega) only [z_lt_t, z_lt_f, z_le_t, z_le_f, z_eq_t, z_eq_f, z_rd_t, z_wr_t, z_wz_t, z_pf_e, z_pz_t, z_nm_e, z_jn_e, z_cl_e, z_rz_t, a1, m1, m2, m4, m5]
      exact ⟨_, C', D', rfl, rfl, m3⟩
theorem ok_anew {N : Nat} {C D : zMem} (h : Rel N C D) (hN : 400 ≤ N) : OK N (Drum_anew C) (Model_anew N D) := by
  obtain ⟨a1, a2, a3⟩ := h.2.2.2.2.2.1
  obtain ⟨q0, q1, q2, q3, q4, q5, q6⟩ := h.2.2.1.1
  have b5 := h.2.2.1.2.1
  unfold Drum_anew Model_anew
  rw [z_rd_t (by omega), q6]
  by_cases c : C 19 5 = 0
  · rw [z_eq_t (by omega), z_eq_t (by omega)]; exact ⟨_, C, D, rfl, rfl, h⟩
  · rw [z_eq_f (by omega), z_eq_f (by omega), z_rd_t (by omega), a1, z_nm_e]
    by_cases c2 : 0 < C 55 1
    · obtain ⟨C', D', m1, m2, m3, m4, m5⟩ := Rel_back (v := 0) h hN (by omega)
      rw [z_lt_t (by omega), m1, m2, z_cl_e, z_cl_e]
      exact ⟨_, C', D', rfl, rfl, m3⟩
    · have : Acts_backTo 0 C = some (0, C) := by
        unfold Acts_backTo
        rw [z_le_t (by omega), z_lt_f (by omega)]
      rw [z_lt_f (by omega), this, z_cl_e]
      exact ⟨_, C, D, rfl, rfl, h⟩
