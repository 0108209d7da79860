/-! law 2 on both sides -/
theorem y_grp_ref {C : zMem} {a : Int} (hP : y_P C) (ha : 0 ≤ a ∧ a < C 19 0 * C 19 1) : y_grp C a = if a / C 19 1 = C 19 0 - 1 ∧ 0 < C 19 3 then 12 + a % C 19 1 % C 19 3 else a % C 19 1 := by
  obtain ⟨p1, p2, p3, p4, p5, p6⟩ := id hP
  have hdiv := y_div (S := C 19 1) (T := C 19 0) (a := a) (by omega) ha
  unfold y_grp y_turn
  by_cases c : (C 19 0 - 1) * C 19 1 ≤ a ∧ 0 < C 19 3
  · rw [if_pos c, if_neg (by omega), if_pos ⟨hdiv.mpr c.1, c.2⟩, Int.emod_emod_of_dvd _ (Int.dvd_of_emod_eq_zero (by omega))]
  · rw [if_neg c, if_pos rfl, if_neg (fun q => c ⟨hdiv.mp q.1, q.2⟩)]
theorem Model_laysClasses_e {N : Nat} {C D E0 : zMem} (h : Rel N C D) (hP : y_P C) (hN : 400 ≤ N) (hE : ∀ j : Int, j ≠ 7 → E0 1 j = D 1 j) :
    ∃ E' : zMem, Model_laysClasses N E0 = some (0, E') ∧ (∀ c j, c ≠ 0 → c ≠ 21 → c ≠ 23 → c ≠ 24 → E' c j = E0 c j) ∧ (∀ j : Int, j ≠ 52 → E' 0 j = E0 0 j) ∧ (∀ i : Int, 0 ≤ i → i < C 19 6 → E' 21 i = C 21 i) ∧ (∀ a : Int, 0 ≤ a → a < C 19 0 * C 19 1 → E' 23 a = y_f0 C a) ∧ ∀ g : Int, 0 ≤ g → g < 24 → E' 24 g = y_cnt (y_f0 C) g (C 19 0 * C 19 1).toNat := by
  obtain ⟨p1, p2, p3, p4, p5, p6⟩ := id hP
  have ts := y_ts p1 p2
  obtain ⟨d0, d1, d2, d3, d4, d5, d6⟩ := h.2.2.1.1
  have pf := h.2.2.1.2.2.2.2.2.1
  obtain ⟨E1, a1, a2, a3⟩ := Model_laysFixed_e (D := z_st E0 0 52 0) hN (by rw [z_st_c (by decide), hE 5 (by decide)]; omega)
  have e1c : ∀ c j, c ≠ 0 → c ≠ 21 → E1 c j = E0 c j := fun c j g1 g2 => by rw [a2 c j g2, z_st_c g1]
  have e21 : ∀ i : Int, 0 ≤ i → i < C 19 6 → E1 21 i = C 21 i := fun i g1 g2 => by
    rw [a3 i g1 (by rw [z_st_c (by decide), hE 5 (by decide)]; omega), z_st_c (by decide), hE _ (by omega)]
    exact (pf i g1 g2).2.2.2.1
  have k1 : ∀ (n : Nat) (v : Int) (M : zMem) (k : zMem → zO), 0 ≤ v → v ≤ 24 → 24 - v < n → (∀ c j, c ≠ 24 → M c j = E1 c j) → (∀ a : Int, 0 ≤ a → a < v → M 24 a = 0) → ∃ M' : zMem, Model_laysClasses_11 N k n v M = k M' ∧ (∀ c j, c ≠ 24 → M' c j = E1 c j) ∧ ∀ a : Int, 0 ≤ a → a < 24 → M' 24 a = 0 := by
    intro n
    induction n with
    | zero => intro v M k _ _ h; omega
    | succ n ih =>
      intro v M k h0 h1 hn hM hA
      rw [Model_laysClasses_11]
      by_cases c : v < 24
      · simp (disch := omega) only [z_lt_t, z_lt_f, z_le_t, z_le_f, z_eq_t, z_eq_f, z_rd_t, z_wr_t, z_wz_t, z_pf_e, z_pz_t, z_nm_e, z_jn_e, z_cl_e, z_rz_t]
        refine ih (v + 1) _ k (by omega) (by omega) (by omega) (fun c j g => by rw [z_st_c g]; exact hM c j g) (fun a g1 g2 => ?_)
        by_cases e : a = v
        · rw [z_st_i e]
        · rw [z_st_n e]; exact hA a g1 (by omega)
      · rw [z_lt_f (by omega)]
        exact ⟨M, rfl, hM, fun a g1 g2 => hA a g1 (by omega)⟩
  have k2 : ∀ (n v : Nat) (M : zMem), (v : Int) ≤ C 19 0 * C 19 1 → C 19 0 * C 19 1 - v < n → (∀ c j, c ≠ 23 → c ≠ 24 → M c j = E1 c j) → (∀ a : Int, 0 ≤ a → a < v → M 23 a = y_f0 C a) → (∀ g : Int, 0 ≤ g → g < 24 → M 24 g = y_cnt (y_f0 C) g v) →
      ∃ M' : zMem, Model_laysClasses_32 N (fun M4 => some (0, M4)) n v M = some (0, M') ∧ (∀ c j, c ≠ 23 → c ≠ 24 → M' c j = E1 c j) ∧ (∀ a : Int, 0 ≤ a → a < C 19 0 * C 19 1 → M' 23 a = y_f0 C a) ∧ ∀ g : Int, 0 ≤ g → g < 24 → M' 24 g = y_cnt (y_f0 C) g (C 19 0 * C 19 1).toNat := by
    intro n
    induction n with
    | zero => intro v M _ h; omega
    | succ n ih =>
      intro v M h1 hn hM hA hB
      have m1 : ∀ j : Int, j ≠ 7 → M 1 j = D 1 j := fun j g => by rw [hM 1 j (by decide) (by decide), e1c 1 j (by decide) (by decide)]; exact hE j g
      have m0 : M 1 0 = C 19 0 := by rw [m1 _ (by decide)]; exact d0
      have m11 : M 1 1 = C 19 1 := by rw [m1 _ (by decide)]; exact d1
      have m3 : M 1 3 = C 19 3 := by rw [m1 _ (by decide)]; exact d3
      have m5 : M 1 5 = C 19 6 := by rw [m1 _ (by decide)]; exact d5
      have m21 : ∀ i : Int, 0 ≤ i → i < C 19 6 → M 21 i = C 21 i := fun i g1 g2 => by rw [hM 21 i (by decide) (by decide)]; exact e21 i g1 g2
      rw [Model_laysClasses_32, Model_many_e, m0, m11, z_cl_e]
      by_cases c : (v : Int) < C 19 0 * C 19 1
      · have gb := y_grp_b (a := v) hP
        have gr := y_grp_ref (a := v) hP ⟨by omega, c⟩
        have tk := Model_isTaken_e (N := N) (x := v) (M := M) (by omega) (by omega) (by omega) (fun i g1 g2 => by
          rw [m21 i g1 (by omega)]; have := (pf i g1 (by omega)).2.2.2.2; omega)
        rw [m5, y_fnd_congr (g := C 21) _ _ (fun j g1 g2 => m21 j g1 (by omega))] at tk
        have ec : (v : Int) + 1 = ((v + 1 : Nat) : Int) := by omega
        have tail : ∃ M' : zMem, z_cl (Model_isTaken N v M) (fun r_1 M4 => z_jn (fun (x5 x6 : Int) (M5 : zMem) => z_wr M5 23 48 x6 x5 (fun M6 => z_rd M6 23 48 v (fun x7 => z_jn (fun (M7 : zMem) => z_nm ((v : Int) + 1) (fun v1_ => Model_laysClasses_32 N (fun M4 => some (0, M4)) n v1_ M7)) (fun k4 => z_eq x7 (-1) (k4 M6) (z_rd M6 24 24 (y_grp C v) (fun x8 => z_wr M6 24 24 (y_grp C v) (x8 + 1) (fun M8 => k4 M8))))))) (fun k3 => z_eq r_1 0 (k3 (y_grp C v) v M4) (k3 (-1) v M4))) = some (0, M') ∧ (∀ c j, c ≠ 23 → c ≠ 24 → M' c j = E1 c j) ∧ (∀ a : Int, 0 ≤ a → a < C 19 0 * C 19 1 → M' 23 a = y_f0 C a) ∧ ∀ g : Int, 0 ≤ g → g < 24 → M' 24 g = y_cnt (y_f0 C) g (C 19 0 * C 19 1).toNat := by
          have cs : ∀ g : Int, y_cnt (y_f0 C) g (v + 1) = y_cnt (y_f0 C) g v + if y_f0 C v = g then 1 else 0 := fun g => rfl
          have f0e : y_f0 C v = if y_fnd (C 21) v (C 19 6).toNat 0 = -1 then y_grp C v else -1 := rfl
          rw [tk, z_cl_e, z_jn_e]
          by_cases cf : y_fnd (C 21) v (C 19 6).toNat 0 = -1
          · rw [if_pos cf] at f0e ⊢
            have x24 : z_st M 23 v (y_grp C v) 24 (y_grp C v) = y_cnt (y_f0 C) (y_grp C v) v := by rw [z_st_c (by decide)]; exact hB _ gb.1 gb.2
            rw [z_eq_t (by omega)]
            simp only []
            rw [z_wr_t (by omega), z_rd_t (by omega), z_st_i rfl, z_jn_e, z_eq_f (by omega), z_rd_t (by omega), x24, z_wr_t (by omega)]
            simp only [z_nm_e, ec]
            refine ih (v + 1) _ (by omega) (by omega) (fun c j g1 g2 => by rw [z_st_c g2, z_st_c g1]; exact hM c j g1 g2) (fun a g1 g2 => ?_) (fun g g1 g2 => ?_)
            · rw [z_st_c (by decide)]
              by_cases e : a = v
              · rw [z_st_i e, e, f0e]
              · rw [z_st_n e]; exact hA a g1 (by omega)
            · rw [cs, f0e]
              by_cases e : g = y_grp C v
              · rw [z_st_i e, e, if_pos rfl]
              · rw [z_st_n e, z_st_c (by decide), if_neg (fun q => e q.symm), Int.add_zero]; exact hB g g1 g2
          · rw [if_neg cf] at f0e ⊢
            rw [z_eq_f (by omega)]
            simp only []
            rw [z_wr_t (by omega), z_rd_t (by omega), z_st_i rfl, z_jn_e, z_eq_t (by omega)]
            simp only [z_nm_e, ec]
            refine ih (v + 1) _ (by omega) (by omega) (fun c j g1 g2 => by rw [z_st_c g1]; exact hM c j g1 g2) (fun a g1 g2 => ?_) (fun g g1 g2 => ?_)
            · by_cases e : a = v
              · rw [z_st_i e, e, f0e]
              · rw [z_st_n e]; exact hA a g1 (by omega)
            · rw [z_st_c (by decide), cs, f0e, if_neg (by omega), Int.add_zero]; exact hB g g1 g2
        have dv0 : 0 ≤ (v : Int) / C 19 1 := Int.ediv_nonneg (by omega) (by omega)
        have dv1 : (v : Int) / C 19 1 ≤ v := Int.ediv_le_self _ (by omega)
        have em0 := Int.emod_nonneg (v : Int) (show C 19 1 ≠ 0 by omega)
        have em1 := Int.emod_lt_of_pos (v : Int) (show 0 < C 19 1 by omega)
        by_cases cl : (v : Int) / C 19 1 = C 19 0 - 1
        · by_cases cq : 0 < C 19 3
          · rw [if_pos ⟨cl, cq⟩] at gr
            simp (disch := omega) only [z_lt_t, z_lt_f, z_le_t, z_le_f, z_eq_t, z_eq_f, z_rd_t, z_wr_t, z_wz_t, z_pf_e, z_pz_t, z_nm_e, z_jn_e, z_cl_e, z_rz_t, z_dv_t, z_mt_t, z_il_t, z_mn_t, z_mx_t, z_fm_t, z_lc_t, z_cp_t, m0, m11, m3] at tail ⊢
            rw [← gr]
            exact tail
          · rw [if_neg (fun q => cq q.2)] at gr
            simp (disch := omega) only [z_lt_t, z_lt_f, z_le_t, z_le_f, z_eq_t, z_eq_f, z_rd_t, z_wr_t, z_wz_t, z_pf_e, z_pz_t, z_nm_e, z_jn_e, z_cl_e, z_rz_t, z_dv_t, z_mt_t, z_il_t, z_mn_t, z_mx_t, z_fm_t, z_lc_t, z_cp_t, m0, m11, m3] at tail ⊢
            rw [← gr]
            exact tail
        · rw [if_neg (fun q => cl q.1)] at gr
          simp (disch := omega) only [z_lt_t, z_lt_f, z_le_t, z_le_f, z_eq_t, z_eq_f, z_rd_t, z_wr_t, z_wz_t, z_pf_e, z_pz_t, z_nm_e, z_jn_e, z_cl_e, z_rz_t, z_dv_t, z_mt_t, z_il_t, z_mn_t, z_mx_t, z_fm_t, z_lc_t, z_cp_t, m0, m11, m3] at tail ⊢
          rw [← gr]
          exact tail
      · rw [z_lt_f (by omega)]
        have : v = (C 19 0 * C 19 1).toNat := by omega
        subst this
        exact ⟨M, rfl, hM, fun a g1 g2 => hA a g1 (by omega), hB⟩
  obtain ⟨M1, b1, b2, b3⟩ := k1 N 0 E1 (fun (M3 : zMem) => z_jn (fun (M4 : zMem) => some (0, M4)) (fun k1 => Model_laysClasses_32 N k1 N 0 M3)) (by omega) (by omega) (by omega) (fun _ _ _ => rfl) (fun a g1 g2 => by omega)
  obtain ⟨M2, c1, c2, c3, c4⟩ := k2 N 0 M1 (by omega) (by omega) (fun c j g1 g2 => b2 c j g2) (fun a g1 g2 => by omega) (fun g g1 g2 => b3 g g1 g2)
  refine ⟨M2, ?_, fun c j g1 g2 g3 g4 => by rw [c2 c j g3 g4]; exact e1c c j g1 g2, fun j g => by rw [c2 0 j (by decide) (by decide), a2 0 j (by decide), z_st_n g], fun i g1 g2 => by rw [c2 21 i (by decide) (by decide)]; exact e21 i g1 g2, c3, c4⟩
  unfold Model_laysClasses
  rw [z_pf_e, a1, z_cl_e, z_jn_e, b1, z_jn_e]
  exact c1
