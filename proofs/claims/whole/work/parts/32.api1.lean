/-! calls that tell: end, fault, count, item, at, steps, why, acc, value, met -/
theorem Rel_T {N : Nat} {C D C' D' : zMem} (h : Rel N C D) (hC : ∀ c j, relC c j = true → c ≠ 1 → c ≠ 2 → C' c j = C c j) (hD : ∀ c j, relD c j = true → ¬ (c = 0 ∧ j = 4) → c ≠ 4 → D' c j = D c j) (hT : r_T C' D') : Rel N C' D' := by
  have h2 : Rel N (fun c j => if c = 1 then C c j else if c = 2 then C c j else C' c j) (fun c j => if c = 4 then D c j else if c = 0 then (if j = 4 then D c j else D' c j) else D' c j) := by
    refine Rel_same h (fun c j hr => ?_) (fun c j hr => ?_)
    · show (if c = 1 then C c j else if c = 2 then C c j else C' c j) = C c j
      by_cases h1 : c = 1
      · rw [if_pos h1]
      · rw [if_neg h1]
        by_cases h2 : c = 2
        · rw [if_pos h2]
        · rw [if_neg h2]; exact hC c j hr h1 h2
    · show (if c = 4 then D c j else if c = 0 then (if j = 4 then D c j else D' c j) else D' c j) = D c j
      by_cases h1 : c = 4
      · rw [if_pos h1]
      · rw [if_neg h1]
        by_cases h2 : c = 0
        · rw [if_pos h2]
          by_cases h3 : j = 4
          · rw [if_pos h3]
          · rw [if_neg h3]; exact hD c j hr (fun z => h3 z.2) h1
        · rw [if_neg h2]; exact hD c j hr (fun z => h2 z.1) h1
  exact ⟨hT, h2.2⟩
theorem ok_end {N : Nat} {C D : zMem} {v : Int} (h : Rel N C D) (hv : z_Rg v) : OK N (Drum_end v C) (Model_end v D) := by
  obtain ⟨t1, t2, t3⟩ := h.1
  unfold Drum_end Model_end
  have e4 : z_Rg (D 0 4) := by omega
  simp (disch := omega) only [z_dv_t, z_mt_t, z_il_t, z_mn_t, z_mx_t, z_fm_t, z_lc_t, z_cp_t, Model_in_e, z_cl_e, z_eq_b]
  by_cases c : 0 ≤ v ∧ v ≤ D 0 4
  · rw [if_pos c]
    simp (disch := omega) only [z_lt_t, z_lt_f, z_le_t, z_le_f, z_eq_t, z_eq_f, z_rd_t, z_wr_t, z_wz_t, z_pf_e, z_pz_t, z_nm_e, z_jn_e, z_cl_e, z_rz_t]
    refine ⟨v, _, _, rfl, rfl, Rel_T h (fun c j _ h1 _ => z_st_c h1) (fun c j hr h1 h2 => ?_) ⟨?_, ?_, fun j h1 h2 => ?_⟩⟩
    · by_cases hc : c = 0
      · subst hc; exact z_st_n (fun z => h1 ⟨rfl, z⟩)
      · exact z_st_c hc
    · rw [z_st_i rfl, z_st_i rfl]
    · rw [z_st_i rfl]; omega
    · rw [z_st_i rfl] at h2
      rw [z_st_c (by decide), z_st_c (by decide)]
      exact t3 j h1 (by omega)
  · rw [if_neg c]
    refine ⟨-1, C, D, ?_, rfl, h⟩
    by_cases c1 : 0 ≤ v
    · simp (disch := omega) only [z_lt_t, z_lt_f, z_le_t, z_le_f, z_eq_t, z_eq_f, z_rd_t, z_wr_t, z_wz_t, z_pf_e, z_pz_t, z_nm_e, z_jn_e, z_cl_e, z_rz_t]
    · simp (disch := omega) only [z_lt_t, z_lt_f, z_le_t, z_le_f, z_eq_t, z_eq_f, z_rd_t, z_wr_t, z_wz_t, z_pf_e, z_pz_t, z_nm_e, z_jn_e, z_cl_e, z_rz_t]
theorem ok_fault {N : Nat} {C D : zMem} {v : Int} (h : Rel N C D) (hv : z_Rg v) : OK N (Drum_fault v C) (Model_fault v D) := by
  obtain ⟨f1, f2⟩ := h.2.1
  unfold Drum_fault Model_fault
  by_cases c0 : v = 0
  · simp (disch := omega) only [z_lt_t, z_lt_f, z_le_t, z_le_f, z_eq_t, z_eq_f, z_rd_t, z_wr_t, z_wz_t, z_pf_e, z_pz_t, z_nm_e, z_jn_e, z_cl_e, z_rz_t]
    exact ⟨_, C, D, rfl, by rw [f1], h⟩
  · by_cases c1 : v = 1
    · simp (disch := omega) only [z_lt_t, z_lt_f, z_le_t, z_le_f, z_eq_t, z_eq_f, z_rd_t, z_wr_t, z_wz_t, z_pf_e, z_pz_t, z_nm_e, z_jn_e, z_cl_e, z_rz_t]
      exact ⟨_, C, D, rfl, by rw [f2], h⟩
    · simp (disch := omega) only [z_lt_t, z_lt_f, z_le_t, z_le_f, z_eq_t, z_eq_f, z_rd_t, z_wr_t, z_wz_t, z_pf_e, z_pz_t, z_nm_e, z_jn_e, z_cl_e, z_rz_t]
      exact ⟨_, C, D, rfl, rfl, h⟩
/-- numbers of items that are not fixed -/
theorem Rel_loose {N : Nat} {C D : zMem} (h : Rel N C D) (hN : 400 ≤ N) : Plan_loose N C = some (y_sum (fun i => if C 21 i = -1 then 1 else 0) (C 19 6).toNat, C) ∧ Model_freeItems N D = some (y_sum (fun i => if C 21 i = -1 then 1 else 0) (C 19 6).toNat, D) := by
  obtain ⟨n1, n2, n3, n4⟩ := Rel_n h
  obtain ⟨-, -, ⟨⟨q0, q1, q2, q3, q4, q5, q6⟩, p2, p3, p4, p5, p6, p7⟩, -⟩ := h
  have hf : ∀ i : Int, 0 ≤ i → i < C 19 6 → z_Rg (C 21 i) := fun i a b => by have := (p6 i a b).2.2.2.2; omega
  refine ⟨Plan_loose_e (by omega) n1 hf, ?_⟩
  rw [Model_freeItems_e (by omega) (by omega) (fun i a b => by rw [(p6 i a (by omega)).2.2.2.1]; exact hf i a (by omega)), q5]
  rw [y_sum_congr (g := fun i => if C 21 i = -1 then 1 else 0) _ (fun j hj => by show (if D 1 (129 + (j : Int)) = -1 then (1 : Int) else 0) = _; rw [(p6 j (by omega) (by omega)).2.2.2.1])]
theorem ok_count {N : Nat} {C D : zMem} {v : Int} (h : Rel N C D) (hN : 400 ≤ N) (hv : z_Rg v) : OK N (Drum_count N v C) (Model_count N v D) := by
  obtain ⟨n1, n2, n3, n4⟩ := Rel_n h
  obtain ⟨l1, l2⟩ := Rel_loose h hN
  obtain ⟨⟨t1, t2, t3⟩, -, ⟨⟨q0, q1, q2, q3, q4, q5, q6⟩, p2, p3, p4, p5, p6, p7⟩, -, -, ⟨a1, -⟩, -⟩ := id h
  have hw := Model_wordsOf_e (N := N) (M := D) (by omega) (by omega)
  rw [q5, ← p5.2] at hw
  unfold Drum_count Model_count
  rw [l1, l2, hw]
  by_cases c0 : v = 0
  · subst c0; simp (disch := omega) only [z_lt_t, z_lt_f, z_le_t, z_le_f, z_eq_t, z_eq_f, z_rd_t, z_wr_t, z_wz_t, z_pf_e, z_pz_t, z_nm_e, z_jn_e, z_cl_e, z_rz_t]; exact ⟨_, C, D, rfl, by rw [q0], h⟩
  by_cases c1 : v = 1
  · subst c1; simp (disch := omega) only [z_lt_t, z_lt_f, z_le_t, z_le_f, z_eq_t, z_eq_f, z_rd_t, z_wr_t, z_wz_t, z_pf_e, z_pz_t, z_nm_e, z_jn_e, z_cl_e, z_rz_t]; exact ⟨_, C, D, rfl, by rw [q1], h⟩
  by_cases c2 : v = 2
  · subst c2; simp (disch := omega) only [z_lt_t, z_lt_f, z_le_t, z_le_f, z_eq_t, z_eq_f, z_rd_t, z_wr_t, z_wz_t, z_pf_e, z_pz_t, z_nm_e, z_jn_e, z_cl_e, z_rz_t]; exact ⟨_, C, D, rfl, by rw [q2], h⟩
  by_cases c3 : v = 3
  · subst c3; simp (disch := omega) only [z_lt_t, z_lt_f, z_le_t, z_le_f, z_eq_t, z_eq_f, z_rd_t, z_wr_t, z_wz_t, z_pf_e, z_pz_t, z_nm_e, z_jn_e, z_cl_e, z_rz_t]; exact ⟨_, C, D, rfl, by rw [q3], h⟩
  by_cases c4 : v = 4
  · subst c4; simp (disch := omega) only [z_lt_t, z_lt_f, z_le_t, z_le_f, z_eq_t, z_eq_f, z_rd_t, z_wr_t, z_wz_t, z_pf_e, z_pz_t, z_nm_e, z_jn_e, z_cl_e, z_rz_t]; exact ⟨_, C, D, rfl, by rw [q4], h⟩
  by_cases c5 : v = 5
  · subst c5; simp (disch := omega) only [z_lt_t, z_lt_f, z_le_t, z_le_f, z_eq_t, z_eq_f, z_rd_t, z_wr_t, z_wz_t, z_pf_e, z_pz_t, z_nm_e, z_jn_e, z_cl_e, z_rz_t]; exact ⟨_, C, D, rfl, rfl, h⟩
  by_cases c6 : v = 6
  · subst c6; simp (disch := omega) only [z_lt_t, z_lt_f, z_le_t, z_le_f, z_eq_t, z_eq_f, z_rd_t, z_wr_t, z_wz_t, z_pf_e, z_pz_t, z_nm_e, z_jn_e, z_cl_e, z_rz_t]; exact ⟨_, C, D, rfl, by rw [q5]; congr 2; omega, h⟩
  by_cases c7 : v = 7
  · subst c7; simp (disch := omega) only [z_lt_t, z_lt_f, z_le_t, z_le_f, z_eq_t, z_eq_f, z_rd_t, z_wr_t, z_wz_t, z_pf_e, z_pz_t, z_nm_e, z_jn_e, z_cl_e, z_rz_t]; exact ⟨_, C, D, rfl, rfl, h⟩
  by_cases c8 : v = 8
  · subst c8; simp (disch := omega) only [z_lt_t, z_lt_f, z_le_t, z_le_f, z_eq_t, z_eq_f, z_rd_t, z_wr_t, z_wz_t, z_pf_e, z_pz_t, z_nm_e, z_jn_e, z_cl_e, z_rz_t]; exact ⟨_, C, D, rfl, by rw [a1], h⟩
  by_cases c9 : v = 9
  · subst c9; simp (disch := omega) only [z_lt_t, z_lt_f, z_le_t, z_le_f, z_eq_t, z_eq_f, z_rd_t, z_wr_t, z_wz_t, z_pf_e, z_pz_t, z_nm_e, z_jn_e, z_cl_e, z_rz_t]; exact ⟨_, C, D, rfl, by rw [q6], h⟩
  by_cases c10 : v = 10
  · subst c10; simp (disch := omega) only [z_lt_t, z_lt_f, z_le_t, z_le_f, z_eq_t, z_eq_f, z_rd_t, z_wr_t, z_wz_t, z_pf_e, z_pz_t, z_nm_e, z_jn_e, z_cl_e, z_rz_t]; exact ⟨_, C, D, rfl, by rw [t1], h⟩
  simp (disch := omega) only [z_lt_t, z_lt_f, z_le_t, z_le_f, z_eq_t, z_eq_f, z_rd_t, z_wr_t, z_wz_t, z_pf_e, z_pz_t, z_nm_e, z_jn_e, z_cl_e, z_rz_t]
  exact ⟨_, C, D, rfl, rfl, h⟩
theorem Rel_isItem {N : Nat} {C D : zMem} {v : Int} (h : Rel N C D) (hv : z_Rg v) : Plan_isItem 19 v C = some (if 0 ≤ v ∧ v < C 19 6 then 1 else 0, C) ∧ Model_isItem v D = some (if 0 ≤ v ∧ v < C 19 6 then 1 else 0, D) := by
  obtain ⟨n1, -⟩ := Rel_n h
  have q5 := h.2.2.1.1.2.2.2.2.2.1
  refine ⟨Plan_isItem_e hv n1, ?_⟩
  rw [Model_isItem_e hv (by omega), q5]
theorem ok_item {N : Nat} {C D : zMem} {v w : Int} (h : Rel N C D) (hv : z_Rg v) (hw : z_Rg w) : OK N (Drum_item v w C) (Model_item v w D) := by
  obtain ⟨n1, n2, n3, n4⟩ := Rel_n h
  obtain ⟨i1, i2⟩ := Rel_isItem h hv
  obtain ⟨-, -, ⟨⟨q0, q1, q2, q3, q4, q5, q6⟩, p2, p3, p4, p5, p6, p7⟩, -, hL, -⟩ := id h
  unfold Drum_item Model_item
  rw [i1, i2, z_cl_e, z_cl_e, z_eq_b, z_eq_b]
  by_cases c : 0 ≤ v ∧ v < C 19 6
  · rw [if_pos c, if_pos c]
    obtain ⟨g1, g2, g3, g4, g5⟩ := p6 v c.1 c.2
    obtain ⟨k1, k2, k3⟩ := hL v c.1 c.2
    rw [Plan_isStep_e hv n1 (fun _ _ => by show z_Rg (C 20 v); omega), Plan_isFixed_e hv n1 (fun _ _ => by omega), z_cl_e, z_cl_e, z_eq_b, z_eq_b]
    by_cases w0 : w = 0
    · subst w0
      simp (disch := omega) only [z_lt_t, z_lt_f, z_le_t, z_le_f, z_eq_t, z_eq_f, z_rd_t, z_wr_t, z_wz_t, z_pf_e, z_pz_t, z_nm_e, z_jn_e, z_cl_e, z_rz_t, g2]
      by_cases o : C 20 v = -1
      · rw [if_pos o, if_neg (fun z => z.2 o)]; exact ⟨_, C, D, rfl, rfl, h⟩
      · rw [if_neg o, if_pos ⟨c, o⟩]; exact ⟨_, C, D, rfl, rfl, h⟩
    by_cases w1 : w = 1
    · subst w1
      simp (disch := omega) only [z_lt_t, z_lt_f, z_le_t, z_le_f, z_eq_t, z_eq_f, z_rd_t, z_wr_t, z_wz_t, z_pf_e, z_pz_t, z_nm_e, z_jn_e, z_cl_e, z_rz_t, k1]
      exact ⟨_, C, D, rfl, rfl, h⟩
    by_cases w2 : w = 2
    · subst w2
      simp (disch := omega) only [z_lt_t, z_lt_f, z_le_t, z_le_f, z_eq_t, z_eq_f, z_rd_t, z_wr_t, z_wz_t, z_pf_e, z_pz_t, z_nm_e, z_jn_e, z_cl_e, z_rz_t, g4]
      by_cases o : C 21 v = -1
      · rw [if_neg (fun z => z.2 o)]; simp (disch := omega) only [z_lt_t, z_lt_f, z_le_t, z_le_f, z_eq_t, z_eq_f, z_rd_t, z_wr_t, z_wz_t, z_pf_e, z_pz_t, z_nm_e, z_jn_e, z_cl_e, z_rz_t]; exact ⟨_, C, D, rfl, rfl, h⟩
      · rw [if_pos ⟨c, o⟩]; simp (disch := omega) only [z_lt_t, z_lt_f, z_le_t, z_le_f, z_eq_t, z_eq_f, z_rd_t, z_wr_t, z_wz_t, z_pf_e, z_pz_t, z_nm_e, z_jn_e, z_cl_e, z_rz_t]; exact ⟨_, C, D, rfl, rfl, h⟩
    by_cases w3 : w = 3
    · subst w3
      simp (disch := omega) only [z_lt_t, z_lt_f, z_le_t, z_le_f, z_eq_t, z_eq_f, z_rd_t, z_wr_t, z_wz_t, z_pf_e, z_pz_t, z_nm_e, z_jn_e, z_cl_e, z_rz_t, g2]
      by_cases o : C 20 v = -1
      · rw [if_pos o]; simp (disch := omega) only [z_lt_t, z_lt_f, z_le_t, z_le_f, z_eq_t, z_eq_f, z_rd_t, z_wr_t, z_wz_t, z_pf_e, z_pz_t, z_nm_e, z_jn_e, z_cl_e, z_rz_t]; exact ⟨_, C, D, rfl, by rw [o], h⟩
      · rw [if_neg o]; simp (disch := omega) only [z_lt_t, z_lt_f, z_le_t, z_le_f, z_eq_t, z_eq_f, z_rd_t, z_wr_t, z_wz_t, z_pf_e, z_pz_t, z_nm_e, z_jn_e, z_cl_e, z_rz_t, g3 o]; exact ⟨_, C, D, rfl, rfl, h⟩
    simp (disch := omega) only [z_lt_t, z_lt_f, z_le_t, z_le_f, z_eq_t, z_eq_f, z_rd_t, z_wr_t, z_wz_t, z_pf_e, z_pz_t, z_nm_e, z_jn_e, z_cl_e, z_rz_t]
    exact ⟨_, C, D, rfl, rfl, h⟩
  · rw [if_neg c, if_neg c]
    exact ⟨_, C, D, rfl, rfl, h⟩
theorem Rel_itemAt {N : Nat} {C D : zMem} {v : Int} (h : Rel N C D) (hN : 400 ≤ N) (hv : z_Rg v) : Drum_itemAt N v C = some (y_fnd (C 57) v (C 19 6).toNat 0, C) ∧ Model_itemAt N v D = some (y_fnd (C 57) v (C 19 6).toNat 0, D) := by
  obtain ⟨n1, n2, n3, n4⟩ := Rel_n h
  have q5 := h.2.2.1.1.2.2.2.2.2.1
  have hL := h.2.2.2.2.1
  refine ⟨Drum_itemAt_e (by omega) n1 hv (fun i a b => by have := hL i a b; omega), ?_⟩
  rw [Model_itemAt_e (by omega) (by omega) hv (fun i a b => by have := hL i a (by omega); omega), q5]
  rw [y_fnd_congr (g := C 57) _ _ (fun j a b => (hL j a (by omega)).1)]
theorem Rel_isAddress {N : Nat} {C D : zMem} {v : Int} (h : Rel N C D) (hv : z_Rg v) : Plan_isAddress v C = some (if 0 ≤ v ∧ v < C 19 0 * C 19 1 then 1 else 0, C) ∧ (∀ K : Int → zMem → zO, z_il v (fun x0 => z_cl (Model_many D) (fun r_ M1 => z_il (r_ - 1) (fun x1 => z_cl (Model_in x0 0 x1 M1) K))) = K (if 0 ≤ v ∧ v < C 19 0 * C 19 1 then 1 else 0) D) := by
  obtain ⟨n1, n2, n3, n4⟩ := Rel_n h
  obtain ⟨q0, q1, -⟩ := h.2.2.1.1
  refine ⟨Plan_isAddress_e hv n2, fun K => ?_⟩
  rw [Model_many_e, q0, q1]
  simp (disch := omega) only [z_dv_t, z_mt_t, z_il_t, z_mn_t, z_mx_t, z_fm_t, z_lc_t, z_cp_t, z_cl_e, Model_in_e]
  have e : (0 ≤ v ∧ v ≤ C 19 0 * C 19 1 - 1) ↔ (0 ≤ v ∧ v < C 19 0 * C 19 1) := by omega
  simp only [e]
theorem ok_at {N : Nat} {C D : zMem} {v : Int} (h : Rel N C D) (hN : 400 ≤ N) (hv : z_Rg v) : OK N (Drum_at N v C) (Model_at N v D) := by
  obtain ⟨a1, a2⟩ := Rel_isAddress h hv
  obtain ⟨i1, i2⟩ := Rel_itemAt h hN hv
  unfold Drum_at Model_at
  rw [a1, a2, z_cl_e, z_eq_b, z_eq_b, i1, i2]
  by_cases c : 0 ≤ v ∧ v < C 19 0 * C 19 1
  · rw [if_pos c, if_pos c]; exact ⟨_, C, D, rfl, rfl, h⟩
  · rw [if_neg c, if_neg c]; exact ⟨_, C, D, rfl, rfl, h⟩
/-- is there a run? -/
theorem Rel_hasRun {N : Nat} {C D : zMem} (h : Rel N C D) : Model_hasRun D = some (if 0 < C 19 8 then 1 else 0, D) := by
  obtain ⟨-, -, ⟨⟨q0, q1, q2, q3, q4, q5, q6⟩, p2, p3, p4, p5, p6, p7⟩, -⟩ := h
  rw [Model_hasRun_e (by omega) (by omega), q6]
  by_cases c : 0 < C 19 8
  · rw [if_pos c, if_pos (p7.2.mpr c)]
  · rw [if_neg c, if_neg (fun z => c (p7.2.mp z))]
/-- the relation stays over a run of the reference -/
theorem Rel_out {N : Nat} {C D E' : zMem} {R : Nat} (h : Rel N C D) (ho : r_out C D E' R) : Rel N C E' := by
  refine Rel_same h (fun _ _ _ => rfl) (fun c j hr => ?_)
  obtain ⟨o1, o2, -⟩ := ho
  unfold relD at hr
  simp at hr
  by_cases hc : c = 0
  · subst hc
    exact o2 j (by omega) (by omega) (by omega) (by omega) (by omega)
  · exact o1 c j hc (by omega) (by omega) (by omega) (by omega) (by omega) (by omega) (by omega) (by omega)
theorem ok_steps {N : Nat} {C D : zMem} (h : Rel N C D) : OK N (Drum_steps C) (Model_steps N D) := by
  obtain ⟨n1, n2, n3, n4⟩ := Rel_n h
  unfold Drum_steps Model_steps
  rw [Rel_hasRun h, z_cl_e, z_eq_b]
  by_cases c : 0 < C 19 8
  · obtain ⟨R, -, -, -, -, -, hr⟩ := h.2.2.2.1 c
    obtain ⟨E', e1, e2⟩ := hr D (fun _ _ _ _ => rfl)
    rw [if_pos c, e1]
    simp (disch := omega) only [z_lt_t, z_lt_f, z_le_t, z_le_f, z_eq_t, z_eq_f, z_rd_t, z_wr_t, z_wz_t, z_pf_e, z_pz_t, z_nm_e, z_jn_e, z_cl_e, z_rz_t]
    exact ⟨_, C, E', rfl, by rw [e2.2.2.2.2.1], Rel_out h e2⟩
  · rw [if_neg c]
    simp (disch := omega) only [z_lt_t, z_lt_f, z_le_t, z_le_f, z_eq_t, z_eq_f, z_rd_t, z_wr_t, z_wz_t, z_pf_e, z_pz_t, z_nm_e, z_jn_e, z_cl_e, z_rz_t]
    exact ⟨_, C, D, rfl, rfl, h⟩
theorem ok_why {N : Nat} {C D : zMem} (h : Rel N C D) : OK N (Drum_why C) (Model_why N D) := by
  obtain ⟨n1, n2, n3, n4⟩ := Rel_n h
  unfold Drum_why Model_why
  rw [Rel_hasRun h, z_cl_e, z_eq_b]
  by_cases c : 0 < C 19 8
  · obtain ⟨R, -, -, -, -, -, hr⟩ := h.2.2.2.1 c
    obtain ⟨E', e1, e2⟩ := hr D (fun _ _ _ _ => rfl)
    rw [if_pos c, e1]
    simp (disch := omega) only [z_lt_t, z_lt_f, z_le_t, z_le_f, z_eq_t, z_eq_f, z_rd_t, z_wr_t, z_wz_t, z_pf_e, z_pz_t, z_nm_e, z_jn_e, z_cl_e, z_rz_t]
    exact ⟨_, C, E', rfl, by rw [e2.2.2.2.2.2.2.1], Rel_out h e2⟩
  · rw [if_neg c]
    simp (disch := omega) only [z_lt_t, z_lt_f, z_le_t, z_le_f, z_eq_t, z_eq_f, z_rd_t, z_wr_t, z_wz_t, z_pf_e, z_pz_t, z_nm_e, z_jn_e, z_cl_e, z_rz_t]
    exact ⟨_, C, D, rfl, rfl, h⟩
theorem ok_acc {N : Nat} {C D : zMem} (h : Rel N C D) : OK N (Drum_acc C) (Model_acc N D) := by
  obtain ⟨n1, n2, n3, n4⟩ := Rel_n h
  unfold Drum_acc Model_acc
  rw [Rel_hasRun h, z_cl_e, z_eq_b]
  by_cases c : 0 < C 19 8
  · obtain ⟨R, -, -, -, -, -, hr⟩ := h.2.2.2.1 c
    obtain ⟨E', e1, e2⟩ := hr D (fun _ _ _ _ => rfl)
    rw [if_pos c, e1]
    simp (disch := omega) only [z_lt_t, z_lt_f, z_le_t, z_le_f, z_eq_t, z_eq_f, z_rd_t, z_wr_t, z_wz_t, z_pf_e, z_pz_t, z_nm_e, z_jn_e, z_cl_e, z_rz_t]
    exact ⟨_, C, E', rfl, by rw [e2.2.2.2.2.2.1], Rel_out h e2⟩
  · rw [if_neg c]
    simp (disch := omega) only [z_lt_t, z_lt_f, z_le_t, z_le_f, z_eq_t, z_eq_f, z_rd_t, z_wr_t, z_wz_t, z_pf_e, z_pz_t, z_nm_e, z_jn_e, z_cl_e, z_rz_t]
    exact ⟨_, C, D, rfl, rfl, h⟩
theorem ok_value {N : Nat} {C D : zMem} {v : Int} (h : Rel N C D) (hv : z_Rg v) : OK N (Drum_value v C) (Model_value N v D) := by
  obtain ⟨n1, n2, n3, n4⟩ := Rel_n h
  obtain ⟨i1, i2⟩ := Rel_isItem h hv
  have p6 := h.2.2.1.2.2.2.2.2.1
  unfold Drum_value Model_value
  rw [Rel_hasRun h, z_cl_e, z_jn_e, z_jn_e, z_eq_b, i2, z_cl_e, z_eq_b]
  by_cases c : 0 < C 19 8
  · obtain ⟨R, -, -, -, -, -, hr⟩ := h.2.2.2.1 c
    obtain ⟨E', e1, e2⟩ := hr D (fun _ _ _ _ => rfl)
    rw [if_pos c, Plan_isWord_e hv n1 (fun a b => by have := p6 v a b; show z_Rg (C 20 v); omega), z_cl_e, z_eq_b]
    by_cases ci : 0 ≤ v ∧ v < C 19 6
    · obtain ⟨g1, g2, g3, g4, g5⟩ := p6 v ci.1 ci.2
      rw [if_pos ci]
      by_cases o : C 20 v = -1
      · rw [if_pos ⟨ci, o⟩]
        rw [if_pos o] at g2
        simp (disch := omega) only [z_lt_t, z_lt_f, z_le_t, z_le_f, z_eq_t, z_eq_f, z_rd_t, z_wr_t, z_wz_t, z_pf_e, z_pz_t, z_nm_e, z_jn_e, z_cl_e, z_rz_t, g2, e1]
        exact ⟨_, C, E', rfl, by rw [e2.2.2.2.2.2.2.2.2 v ci.1 ci.2 o], Rel_out h e2⟩
      · rw [if_neg (fun z => o z.2)]
        rw [if_neg o] at g2
        simp (disch := omega) only [z_lt_t, z_lt_f, z_le_t, z_le_f, z_eq_t, z_eq_f, z_rd_t, z_wr_t, z_wz_t, z_pf_e, z_pz_t, z_nm_e, z_jn_e, z_cl_e, z_rz_t, g2]
        exact ⟨_, C, D, rfl, rfl, h⟩
    · rw [if_neg ci, if_neg (fun z => ci z.1)]
      simp (disch := omega) only [z_lt_t, z_lt_f, z_le_t, z_le_f, z_eq_t, z_eq_f, z_rd_t, z_wr_t, z_wz_t, z_pf_e, z_pz_t, z_nm_e, z_jn_e, z_cl_e, z_rz_t]
      exact ⟨_, C, D, rfl, rfl, h⟩
  · rw [if_neg c]
    simp (disch := omega) only [z_lt_t, z_lt_f, z_le_t, z_le_f, z_eq_t, z_eq_f, z_rd_t, z_wr_t, z_wz_t, z_pf_e, z_pz_t, z_nm_e, z_jn_e, z_cl_e, z_rz_t]
    exact ⟨_, C, D, rfl, rfl, h⟩
theorem Trace_readingsOf_e {N R : Nat} {v : Int} {M : zMem} (hN : 400 ≤ N) (hv : z_Rg v) (hR : y_TR M R) (h6 : 0 ≤ M 19 6 ∧ M 19 6 ≤ 20) : Trace_readingsOf N v M = some (y_sum (fun k => if M 35 k = v then 1 else 0) R, M) := by
  obtain ⟨r1, r2, r3⟩ := hR
  have key : ∀ (n i : Nat), i ≤ R → R - i < n → Trace_readingsOf_4 N v (fun v1_ M1 => some (v1_, M1)) n (y_sum (fun k => if M 35 k = v then 1 else 0) i) i M = some (y_sum (fun k => if M 35 k = v then 1 else 0) R, M) := by
    intro n
    induction n with
    | zero => intro i _ h; omega
    | succ n ih =>
      intro i hi hn
      rw [Trace_readingsOf_4]
      by_cases h : i < R
      · have g := (r3 i h).1
        have ec : (i : Int) + 1 = ((i + 1 : Nat) : Int) := by omega
        have es : y_sum (fun k => if M 35 k = v then 1 else 0) (i + 1) = y_sum (fun k => if M 35 k = v then 1 else 0) i + (if M 35 i = v then 1 else 0) := rfl
        have := ih (i + 1) (by omega) (by omega)
        rw [es] at this
        by_cases h1 : M 35 i = v
        · rw [if_pos h1] at this
          simp (disch := omega) only [z_lt_t, z_lt_f, z_le_t, z_le_f, z_eq_t, z_eq_f, z_rd_t, z_wr_t, z_wz_t, z_pf_e, z_pz_t, z_nm_e, z_jn_e, z_cl_e, z_rz_t]
          rw [ec]; exact this
        · rw [if_neg h1, Int.add_zero] at this
          simp (disch := omega) only [z_lt_t, z_lt_f, z_le_t, z_le_f, z_eq_t, z_eq_f, z_rd_t, z_wr_t, z_wz_t, z_pf_e, z_pz_t, z_nm_e, z_jn_e, z_cl_e, z_rz_t]
          rw [ec]; exact this
      · simp (disch := omega) only [z_lt_t, z_lt_f, z_le_t, z_le_f, z_eq_t, z_eq_f, z_rd_t, z_wr_t, z_wz_t, z_pf_e, z_pz_t, z_nm_e, z_jn_e, z_cl_e, z_rz_t]
        rw [show R = i by omega]
  unfold Trace_readingsOf
  rw [z_jn_e]
  exact key N 0 (by omega) (by omega)
theorem Model_met_26_e {N R : Nat} {v : Int} {M : zMem} (hN : 400 ≤ N) (hv : z_Rg v) (h27 : M 0 27 = R) (hR : R ≤ 200) (h11 : ∀ k : Nat, k < R → 0 ≤ M 11 k ∧ M 11 k < 20) : Model_met_26 N v (fun v1_ M1 => some (v1_, M1)) N 0 0 M = some (y_sum (fun k => if M 11 k = v then 1 else 0) R, M) := by
  have key : ∀ (n i : Nat), i ≤ R → R - i < n → Model_met_26 N v (fun v1_ M1 => some (v1_, M1)) n (y_sum (fun k => if M 11 k = v then 1 else 0) i) i M = some (y_sum (fun k => if M 11 k = v then 1 else 0) R, M) := by
    intro n
    induction n with
    | zero => intro i _ h; omega
    | succ n ih =>
      intro i hi hn
      rw [Model_met_26]
      by_cases h : i < R
      · have g := h11 i h
        have ec : (i : Int) + 1 = ((i + 1 : Nat) : Int) := by omega
        have es : y_sum (fun k => if M 11 k = v then 1 else 0) (i + 1) = y_sum (fun k => if M 11 k = v then 1 else 0) i + (if M 11 i = v then 1 else 0) := rfl
        have := ih (i + 1) (by omega) (by omega)
        rw [es] at this
        by_cases h1 : M 11 i = v
        · rw [if_pos h1] at this
          simp (disch := omega) only [z_lt_t, z_lt_f, z_le_t, z_le_f, z_eq_t, z_eq_f, z_rd_t, z_wr_t, z_wz_t, z_pf_e, z_pz_t, z_nm_e, z_jn_e, z_cl_e, z_rz_t]
          rw [ec]; exact this
        · rw [if_neg h1] at this
          simp (disch := omega) only [z_lt_t, z_lt_f, z_le_t, z_le_f, z_eq_t, z_eq_f, z_rd_t, z_wr_t, z_wz_t, z_pf_e, z_pz_t, z_nm_e, z_jn_e, z_cl_e, z_rz_t]
          rw [ec]; exact this
      · simp (disch := omega) only [z_lt_t, z_lt_f, z_le_t, z_le_f, z_eq_t, z_eq_f, z_rd_t, z_wr_t, z_wz_t, z_pf_e, z_pz_t, z_nm_e, z_jn_e, z_cl_e, z_rz_t]
        rw [show R = i by omega]
  exact key N 0 (by omega) (by omega)
theorem ok_met {N : Nat} {C D : zMem} {v : Int} (h : Rel N C D) (hN : 400 ≤ N) (hv : z_Rg v) : OK N (Drum_met N v C) (Model_met N v D) := by
  obtain ⟨n1, n2, n3, n4⟩ := Rel_n h
  obtain ⟨i1, i2⟩ := Rel_isItem h hv
  unfold Drum_met Model_met
  rw [Rel_hasRun h, z_cl_e, z_jn_e, z_eq_b, i1, i2, z_cl_e, z_cl_e, z_eq_b, z_eq_b]
  by_cases c : 0 < C 19 8
  · obtain ⟨R, r0, r1, r2, r3, r4, hr⟩ := h.2.2.2.1 c
    obtain ⟨E', e1, e2⟩ := hr D (fun _ _ _ _ => rfl)
    rw [if_pos c]
    by_cases ci : 0 ≤ v ∧ v < C 19 6
    · rw [if_pos ci, if_pos ci, Trace_readingsOf_e hN hv r1 n1, e1]
      simp (disch := omega) only [z_lt_t, z_lt_f, z_le_t, z_le_f, z_eq_t, z_eq_f, z_rd_t, z_wr_t, z_wz_t, z_pf_e, z_pz_t, z_nm_e, z_jn_e, z_cl_e, z_rz_t]
      obtain ⟨o1, o2, ⟨m1, m2, m3, m4, m5⟩, o4, -⟩ := id e2
      rw [Model_met_26_e hN hv m1 m3 (fun k hk => (m5 k hk).1)]
      refine ⟨_, C, E', rfl, ?_, Rel_out h e2⟩
      rw [y_sum_congr (g := fun k => if C 35 k = v then 1 else 0) _ (fun j hj => by show (if E' 11 j = v then (1 : Int) else 0) = _; rw [o4 j hj])]
    · rw [if_neg ci, if_neg ci]
      simp (disch := omega) only [z_lt_t, z_lt_f, z_le_t, z_le_f, z_eq_t, z_eq_f, z_rd_t, z_wr_t, z_wz_t, z_pf_e, z_pz_t, z_nm_e, z_jn_e, z_cl_e, z_rz_t]
      exact ⟨_, C, D, rfl, rfl, h⟩
  · rw [if_neg c]
    simp (disch := omega) only [z_lt_t, z_lt_f, z_le_t, z_le_f, z_eq_t, z_eq_f, z_rd_t, z_wr_t, z_wz_t, z_pf_e, z_pz_t, z_nm_e, z_jn_e, z_cl_e, z_rz_t]
    exact ⟨_, C, D, rfl, rfl, h⟩
