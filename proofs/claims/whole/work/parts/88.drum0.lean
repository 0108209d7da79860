/-! drum: pieces -/
theorem r_R_c {N : Nat} {C D C' D' : zMem} (h : r_R N C D) (hC : ∀ c j, (19 ≤ c ∧ c ≤ 29) ∨ (31 ≤ c ∧ c ≤ 38) → C' c j = C c j) (hD1 : ∀ j : Int, 0 ≤ j → j < 149 → j ≠ 7 → D' 1 j = D 1 j) : r_R N C' D' := by
  have c19 : C' 19 = C 19 := funext fun j => hC 19 j (by omega)
  have c20 : C' 20 = C 20 := funext fun j => hC 20 j (by omega)
  have c28 : C' 28 = C 28 := funext fun j => hC 28 j (by omega)
  have c29 : C' 29 = C 29 := funext fun j => hC 29 j (by omega)
  have c31 : C' 31 = C 31 := funext fun j => hC 31 j (by omega)
  have c32 : C' 32 = C 32 := funext fun j => hC 32 j (by omega)
  have c33 : C' 33 = C 33 := funext fun j => hC 33 j (by omega)
  have c34 : C' 34 = C 34 := funext fun j => hC 34 j (by omega)
  have c35 : C' 35 = C 35 := funext fun j => hC 35 j (by omega)
  have c36 : C' 36 = C 36 := funext fun j => hC 36 j (by omega)
  have c37 : C' 37 = C 37 := funext fun j => hC 37 j (by omega)
  have c38 : C' 38 = C 38 := funext fun j => hC 38 j (by omega)
  obtain ⟨R, b1, b2, b3, b4, b5, b6⟩ := h
  refine ⟨R, b1, ?_, ?_, ?_, ?_, fun E hE => ?_⟩
  · unfold y_TR; rw [c28, c19, c35, c36]; exact b2
  · unfold y_PV; rw [c35, c36, c37, c38]; exact b3
  · rw [c28]; exact b4
  · rw [c28, c34, c32]; exact b5
  · obtain ⟨E', e1, e2⟩ := b6 E (fun j g1 g2 g3 => by rw [hE j g1 g2 g3]; exact hD1 j g1 g2 g3)
    refine ⟨E', e1, ?_⟩
    unfold r_out
    rw [c19, c20, c28, c29, c31, c32, c33, c34, c35, c36]
    exact e2
theorem Rel_mk2 {N : Nat} {C D C' D' : zMem} (h : Rel N C D) (hC : ∀ c j, (19 ≤ c ∧ c ≤ 29) ∨ (31 ≤ c ∧ c ≤ 38) → C' c j = C c j) (hD1 : ∀ j : Int, 0 ≤ j → j < 149 → j ≠ 7 → D' 1 j = D 1 j) (hT : r_T C' D') (hF : r_F C' D') (hL : r_L C' D') (hA : r_A C' D') (hS : r_S C' D') : Rel N C' D' := by
  obtain ⟨-, -, hP, hR, -, -, -⟩ := h
  have c19 : C' 19 = C 19 := funext fun j => hC 19 j (by omega)
  have c20 : C' 20 = C 20 := funext fun j => hC 20 j (by omega)
  have c21 : C' 21 = C 21 := funext fun j => hC 21 j (by omega)
  refine ⟨hT, hF, ?_, fun c => ?_, hL, hA, hS⟩
  · obtain ⟨k1, k2, k3, k4, ⟨k5, k5'⟩, k6, k7, k8⟩ := hP
    have b6 : C 19 6 ≤ 20 := by
      by_cases z : C 19 5 = 0
      · have := k3 z; omega
      · exact (k4 (by omega)).2.2.2.2.2.2.1
    unfold r_P y_P
    rw [c19, c20, c21, hD1 0 (by omega) (by omega) (by omega), hD1 1 (by omega) (by omega) (by omega), hD1 2 (by omega) (by omega) (by omega), hD1 3 (by omega) (by omega) (by omega), hD1 4 (by omega) (by omega) (by omega), hD1 5 (by omega) (by omega) (by omega), hD1 6 (by omega) (by omega) (by omega), hD1 8 (by omega) (by omega) (by omega)]
    refine ⟨k1, k2, k3, k4, ⟨k5, ?_⟩, fun i g1 g2 => ?_, k7, k8⟩
    · rw [k5']
      exact y_sum_congr _ (fun j hj => by
        show 1 - D 1 (9 + j) = 1 - D' 1 (9 + j)
        rw [hD1 _ (by omega) (by omega) (by omega)])
    · rw [hD1 (9 + i) (by omega) (by omega) (by omega), hD1 (49 + i) (by omega) (by omega) (by omega), hD1 (129 + i) (by omega) (by omega) (by omega)]
      exact k6 i g1 g2
  · rw [c19] at c
    exact r_R_c (hR c) hC hD1
theorem perform_0 {C : zMem} {N : Nat} (hN : 400 ≤ N) (h6 : 0 ≤ C 19 6 ∧ C 19 6 ≤ 20) (h9 : C 19 9 = -1) : ∃ C' : zMem, Trace_perform N C = some (0, C') ∧ ∀ c j, (c < 28 ∨ 40 < c) → C' c j = C c j := by
  have u19 : ∀ j, u_0 C 19 j = C 19 j := fun j => by unfold u_0; rw [z_st_c (by decide), z_st_c (by decide), z_st_c (by decide), z_st_c (by decide), z_cpm_c (by decide), z_cpm_c (by decide)]
  have uc : ∀ c j, (c < 28 ∨ 40 < c) → u_0 C c j = C c j := fun c j g => by unfold u_0; rw [z_st_c (by omega), z_st_c (by omega), z_st_c (by omega), z_st_c (by omega), z_cpm_c (by omega), z_cpm_c (by omega)]
  have u281 : u_0 C 28 1 = 0 := by unfold u_0; rw [z_st_n (by decide), z_st_n (by decide), z_st_i rfl]
  have hu : z_st (z_st (z_st (z_st (z_cpm (z_cpm C 22 0 29 0 20) 23 0 30 0 20) 28 3 0) 28 1 0) 28 10 0) 28 2 2 = u_0 C := rfl
  obtain ⟨n, hn⟩ : ∃ n, N = n + 1 := ⟨N - 1, by omega⟩
  obtain ⟨M1, a1, a2, a3⟩ := zero2_e (N := N) (B := u_0 C) (K := fun (M1 : zMem) => z_jn (fun (M2 : zMem) => z_jn (fun (M3 : zMem) => z_jn (fun (M4 : zMem) => some (0, M4)) (fun k3 => Trace_markPasses_70 N k3 N 0 0 M3)) (fun k2 => Trace_markPasses_45 N k2 N 1 M2)) (fun k1 => Trace_markPasses_24 N k1 N 0 M1)) N 0 (u_0 C) (by omega) (by omega) (by omega) (fun _ _ _ _ => rfl) (fun j g1 g2 => by omega)
  obtain ⟨M2, b1, b2, b3⟩ := zero3_e (N := N) (B := M1) (K := fun (M2 : zMem) => z_jn (fun (M3 : zMem) => z_jn (fun (M4 : zMem) => some (0, M4)) (fun k3 => Trace_markPasses_70 N k3 N 0 0 M3)) (fun k2 => Trace_markPasses_45 N k2 N 1 M2)) N 0 M1 (by omega) (by omega) (by omega) (fun _ _ _ => rfl) (fun j g1 g2 => by omega)
  have m281 : M2 28 1 = 0 := by rw [b2 28 1 (by decide), a2 28 1 (by decide) (by decide)]; exact u281
  have mk : Trace_markPasses N (u_0 C) = some (0, M2) := by
    unfold Trace_markPasses
    rw [z_jn_e, a1, z_jn_e, b1, z_jn_e]
    have e1 : ∀ K : zMem → zO, Trace_markPasses_45 N K N 1 M2 = K M2 := fun K => by
      have : Trace_markPasses_45 N K (n + 1) 1 M2 = K M2 := by rw [Trace_markPasses_45, z_le_f (by omega)]
      rw [← hn] at this; exact this
    have e2 : ∀ K : zMem → zO, Trace_markPasses_70 N K N 0 0 M2 = K M2 := fun K => by
      have : Trace_markPasses_70 N K (n + 1) 0 0 M2 = K M2 := by rw [Trace_markPasses_70, z_lt_f (by omega)]
      rw [← hn] at this; exact this
    rw [e1]
    simp only [z_jn_e]
    rw [e2]
  have p58 : ∀ K : zMem → zO, Trace_perform_58 N K N (-1) 0 (u_0 C) = K (u_0 C) := fun K => by
    have : Trace_perform_58 N K (n + 1) (-1) 0 (u_0 C) = K (u_0 C) := by
      rw [Trace_perform_58, z_lt_t (by omega), Plan_isStep_e (by omega) (by rw [u19]; omega) (fun q => by omega), if_neg (by omega), z_cl_e, z_eq_t (by omega)]
    rw [← hn] at this; exact this
  refine ⟨M2, ?_, fun c j g => by rw [b2 c j (by omega), a2 c j (by omega) (by omega), uc c j g]⟩
  unfold Trace_perform Drum_copyItems
  rw [z_cp_t (by omega), z_cl_e, z_cp_t (by omega), z_cl_e, z_pf_e, z_pf_e, z_pf_e, z_pf_e, z_nm_e, z_jn_e, hu, u19, h9, p58, mk, z_cl_e]
theorem copyFrom_e {M : zMem} : ∃ M' : zMem, Plan_copyFrom M = some (0, M') ∧ (∀ j : Int, 0 ≤ j → j ≤ 9 → M' 19 j = M 10 j) ∧ (∀ j : Int, 0 ≤ j → j < 20 → M' 20 j = M 11 j ∧ M' 21 j = M 12 j ∧ M' 22 j = M 13 j ∧ M' 23 j = M 14 j ∧ M' 24 j = M 15 j ∧ M' 25 j = M 16 j ∧ M' 27 j = M 18 j) ∧ (∀ j : Int, 0 ≤ j → j < 8 → M' 26 j = M 17 j) ∧ ∀ c j, (c < 19 ∨ 27 < c) → M' c j = M c j := by
  unfold Plan_copyFrom Drum_copyItems
  simp only [z_pf_e, z_cp_t (show (0 : Int) ≤ 0 ∧ (0 : Int) ≤ 0 ∧ (0 : Int) ≤ 20 ∧ (0 : Int) + 20 ≤ 20 ∧ (0 : Int) + 20 ≤ 20 by decide), z_cl_e, z_cp_t (show (0 : Int) ≤ 0 ∧ (0 : Int) ≤ 0 ∧ (0 : Int) ≤ 8 ∧ (0 : Int) + 8 ≤ 8 ∧ (0 : Int) + 8 ≤ 8 by decide)]
  refine ⟨_, rfl, fun j g1 g2 => ?_, fun j g1 g2 => ⟨?_, ?_, ?_, ?_, ?_, ?_, ?_⟩, fun j g1 g2 => ?_, fun c j g => ?_⟩
  · have : j = 0 ∨ j = 1 ∨ j = 2 ∨ j = 3 ∨ j = 4 ∨ j = 5 ∨ j = 6 ∨ j = 7 ∨ j = 8 ∨ j = 9 := by omega
    rcases this with q | q | q | q | q | q | q | q | q | q <;> subst q <;> simp (disch := omega) only [z_cpm_c, z_st_c, z_st_i, z_st_n]
  · simp (disch := omega) only [z_cpm_c, z_cpm_i, z_st_c, z_st_i, z_st_n]
    rw [show (0 : Int) + (j - 0) = j by omega]
  · simp (disch := omega) only [z_cpm_c, z_cpm_i, z_st_c, z_st_i, z_st_n]
    rw [show (0 : Int) + (j - 0) = j by omega]
  · simp (disch := omega) only [z_cpm_c, z_cpm_i, z_st_c, z_st_i, z_st_n]
    rw [show (0 : Int) + (j - 0) = j by omega]
  · simp (disch := omega) only [z_cpm_c, z_cpm_i, z_st_c, z_st_i, z_st_n]
    rw [show (0 : Int) + (j - 0) = j by omega]
  · simp (disch := omega) only [z_cpm_c, z_cpm_i, z_st_c, z_st_i, z_st_n]
    rw [show (0 : Int) + (j - 0) = j by omega]
  · simp (disch := omega) only [z_cpm_c, z_cpm_i, z_st_c, z_st_i, z_st_n]
    rw [show (0 : Int) + (j - 0) = j by omega]
  · simp (disch := omega) only [z_cpm_c, z_cpm_i, z_st_c, z_st_i, z_st_n]
    rw [show (0 : Int) + (j - 0) = j by omega]
  · simp (disch := omega) only [z_cpm_c, z_cpm_i, z_st_c, z_st_i, z_st_n]
    rw [show (0 : Int) + (j - 0) = j by omega]
  · simp (disch := omega) only [z_cpm_c, z_st_c, z_st_i, z_st_n]
theorem first_e {N : Nat} {k : zMem → zO} : ∀ (d n : Nat) (M : zMem), d ≤ 20 → d < n → (∀ i : Int, 0 ≤ i → i < d → M 1 (9 + i) = 0 ∨ M 1 (9 + i) = 1) → ∃ M' : zMem, Model_drum_238 N k n ((d : Int) - 1) M = k M' ∧ (∀ c j, (c ≠ 1 ∨ j ≠ 8) → M' c j = M c j) ∧
    ((M' 1 8 = M 1 8 ∧ ∀ i : Int, 0 ≤ i → i < d → M 1 (9 + i) = 0) ∨ ((0 ≤ M' 1 8 ∧ M' 1 8 < d) ∧ M 1 (9 + M' 1 8) = 1 ∧ ∀ i : Int, 0 ≤ i → i < M' 1 8 → M 1 (9 + i) = 0)) := by
  intro d
  induction d with
  | zero =>
    intro n M hd hn h
    obtain ⟨n, rfl⟩ : ∃ x, n = x + 1 := ⟨n - 1, by omega⟩
    rw [Model_drum_238, z_le_f (by omega)]
    exact ⟨M, rfl, fun _ _ _ => rfl, Or.inl ⟨rfl, fun i g1 g2 => by omega⟩⟩
  | succ d ih =>
    intro n M hd hn h
    obtain ⟨n, rfl⟩ : ∃ x, n = x + 1 := ⟨n - 1, by omega⟩
    have hi := h d (by omega) (by omega)
    rw [show ((d + 1 : Nat) : Int) - 1 = d by omega, Model_drum_238, z_le_t (by omega), z_rd_t (by omega)]
    simp only [z_jn_e]
    rw [z_rd_t (by omega), z_wr_t (by omega), z_wr_t (by omega), z_nm_e, show (d : Int) + -1 = d - 1 by omega]
    have frame : ∀ v : Int, ∀ c j, (c ≠ 1 ∨ j ≠ 8) → z_st M 1 8 v c j = M c j := fun v c j g => by
      by_cases q : c = 1
      · subst q; exact z_st_n (by omega)
      · exact z_st_c q
    rcases hi with q | q
    · rw [z_eq_f (by omega)]
      obtain ⟨M', x1, x2, x3⟩ := ih n (z_st M 1 8 (M 1 8)) (by omega) (by omega) (fun i g1 g2 => by rw [frame _ 1 _ (by omega)]; exact h i g1 (by omega))
      refine ⟨M', x1, fun c j g => by rw [x2 c j g, frame _ c j g], ?_⟩
      rcases x3 with ⟨y1, y2⟩ | ⟨y1, y2, y3⟩
      · left
        refine ⟨by rw [y1, z_st_i rfl], fun i g1 g2 => ?_⟩
        by_cases e : i = d
        · rw [e]; exact q
        · have := y2 i g1 (by omega); rw [frame _ 1 _ (by omega)] at this; exact this
      · right
        rw [frame _ 1 _ (by omega)] at y2
        exact ⟨by omega, y2, fun i g1 g2 => by have := y3 i g1 g2; rw [frame _ 1 _ (by omega)] at this; exact this⟩
    · rw [z_eq_t (by omega)]
      obtain ⟨M', x1, x2, x3⟩ := ih n (z_st M 1 8 d) (by omega) (by omega) (fun i g1 g2 => by rw [frame _ 1 _ (by omega)]; exact h i g1 (by omega))
      refine ⟨M', x1, fun c j g => by rw [x2 c j g, frame _ c j g], Or.inr ?_⟩
      rcases x3 with ⟨y1, y2⟩ | ⟨y1, y2, y3⟩
      · rw [z_st_i rfl] at y1
        rw [y1]
        exact ⟨by omega, q, fun i g1 g2 => by have := y2 i g1 g2; rw [frame _ 1 _ (by omega)] at this; exact this⟩
      · rw [frame _ 1 _ (by omega)] at y2
        exact ⟨by omega, y2, fun i g1 g2 => by have := y3 i g1 g2; rw [frame _ 1 _ (by omega)] at this; exact this⟩
theorem fix0_e {N ca : Nat} {k : zMem → zO} : ∀ (d n : Nat) (v : Int) (M : zMem), 0 ≤ v → v + d = 48 → d < n → ∃ M' : zMem, Laws_layFixed_2 N ca k n v M = k M' ∧ ∀ c j, c ≠ 47 → M' c j = M c j := by
  intro d
  induction d with
  | zero =>
    intro n v M h0 hd hn
    obtain ⟨n, rfl⟩ : ∃ x, n = x + 1 := ⟨n - 1, by omega⟩
    rw [Laws_layFixed_2, z_lt_f (by omega)]
    exact ⟨M, rfl, fun _ _ _ => rfl⟩
  | succ d ih =>
    intro n v M h0 hd hn
    obtain ⟨n, rfl⟩ : ∃ x, n = x + 1 := ⟨n - 1, by omega⟩
    rw [Laws_layFixed_2, z_lt_t (by omega), z_wz_t (by omega), z_nm_e]
    obtain ⟨M', x1, x2⟩ := ih n (v + 1) (z_st M 47 v 0) (by omega) (by omega) (by omega)
    exact ⟨M', x1, fun c j g => by rw [x2 c j g, z_st_c g]⟩
theorem lay_0 {N : Nat} {M : zMem} (hN : 400 ≤ N) (h6 : M 19 6 = 0) : ∃ M' : zMem, Laws_layInOrder N 57 M = some (0, M') ∧ ∀ c j, c ≠ 47 → M' c j = M c j := by
  obtain ⟨n, hn⟩ : ∃ n, N = n + 1 := ⟨N - 1, by omega⟩
  obtain ⟨M1, x1, x2⟩ := fix0_e (N := N) (ca := 57) (k := fun (M1 : zMem) => z_jn (fun (M2 : zMem) => some (0, M2)) (fun k1 => Laws_layFixed_23 N 57 k1 N 0 M1)) 48 N 0 M (by omega) (by omega) (by omega)
  have m6 : M1 19 6 = 0 := by rw [x2 19 6 (by decide)]; exact h6
  have e1 : ∀ K : zMem → zO, Laws_layFixed_23 N 57 K N 0 M1 = K M1 := fun K => by
    have : Laws_layFixed_23 N 57 K (n + 1) 0 M1 = K M1 := by rw [Laws_layFixed_23, z_lt_f (by omega)]
    rw [← hn] at this; exact this
  have e2 : ∀ K : zMem → zO, Laws_layRest_2 N 57 K N 0 M1 = K M1 := fun K => by
    have : Laws_layRest_2 N 57 K (n + 1) 0 M1 = K M1 := by rw [Laws_layRest_2, z_lt_f (by omega)]
    rw [← hn] at this; exact this
  refine ⟨M1, ?_, x2⟩
  unfold Laws_layInOrder Laws_layFixed Laws_layRest
  rw [z_jn_e, x1, z_jn_e, e1, z_cl_e, z_jn_e, e2, z_cl_e]
theorem laysBy_0 {N : Nat} {E : zMem} (hN : 400 ≤ N) (h5 : E 1 5 = 0) : Model_laysBy N 0 E = some (0, E) := by
  obtain ⟨n, hn⟩ : ∃ n, N = n + 1 := ⟨N - 1, by omega⟩
  have e1 : Model_laysFixed N E = some (0, E) := by
    unfold Model_laysFixed
    rw [z_jn_e]
    have : Model_laysFixed_2 N (fun (M1 : zMem) => some (0, M1)) (n + 1) 0 E = some (0, E) := by rw [Model_laysFixed_2, z_rd_t (by omega), z_lt_f (by omega)]
    rw [← hn] at this; exact this
  have e2 : Model_laysRest N E = some (0, E) := by
    unfold Model_laysRest
    rw [z_jn_e]
    have : Model_laysRest_2 N (fun (M1 : zMem) => some (0, M1)) (n + 1) 0 E = some (0, E) := by rw [Model_laysRest_2, z_rd_t (by omega), z_lt_f (by omega)]
    rw [← hn] at this; exact this
  unfold Model_laysBy
  simp only [e1, e2, z_cl_e, z_jn_e]
  rw [z_eq_f (by omega), z_eq_f (by omega)]
