/-! the reference: whenAt, waited, timed -/
def y_MP (D : zMem) : Prop := (1 ≤ D 1 0 ∧ D 1 0 ≤ 4) ∧ (2 ≤ D 1 1 ∧ D 1 1 ≤ 12) ∧ (0 ≤ D 1 4 ∧ D 1 4 ≤ 9)
def y_MQ (D : zMem) : Prop := (0 ≤ D 0 39 ∧ D 0 39 ≤ 9) ∧ (D 0 40 = 0 ∨ (0 < D 0 40 ∧ D 0 40 < D 1 1 ∧ D 1 1 % D 0 40 = 0))
theorem y_div {S T a : Int} (hS : 0 < S) (ha : 0 ≤ a ∧ a < T * S) : a / S = T - 1 ↔ (T - 1) * S ≤ a := by
  have h1 : a / S < T := (Int.ediv_lt_iff_lt_mul hS).mpr ha.2
  have h2 : T - 1 ≤ a / S ↔ (T - 1) * S ≤ a := Int.le_ediv_iff_mul_le hS
  omega
theorem Model_whenAt_e {D : zMem} {a t : Int} (hP : y_MP D) (hQ : y_MQ D) (ha : 0 ≤ a ∧ a < D 1 0 * D 1 1) (ht : 0 ≤ t ∧ t ≤ 1000000) : Model_whenAt a t D = some (t + (a - t) % y_turn (D 1 1) (D 1 0) (D 0 40) a, D) := by
  obtain ⟨hT, hS, hmu⟩ := hP
  obtain ⟨hw, hq⟩ := hQ
  obtain ⟨t1, t2, t3, t4⟩ := y_ts hT hS
  have hdiv := y_div (S := D 1 1) (T := D 1 0) (by omega) ha
  have d1 : 0 ≤ a / D 1 1 := Int.ediv_nonneg ha.1 (by omega)
  have d2 : a / D 1 1 ≤ a := Int.ediv_le_self _ ha.1
  have s1 := Int.emod_nonneg a (show D 1 1 ≠ 0 by omega)
  have s2 := Int.emod_lt_of_pos a (show 0 < D 1 1 by omega)
  unfold Model_whenAt y_turn
  by_cases h1 : (D 1 0 - 1) * D 1 1 ≤ a
  · have e1 := hdiv.mpr h1
    by_cases h2 : 0 < D 0 40
    · rw [if_pos ⟨h1, h2⟩]
      have g1 := Int.emod_nonneg (a % D 1 1) (show D 0 40 ≠ 0 by omega)
      have g2 := Int.emod_lt_of_pos (a % D 1 1) (show 0 < D 0 40 by omega)
      have e2 : (a % D 1 1) % D 0 40 = a % D 0 40 := Int.emod_emod_of_dvd _ (Int.dvd_of_emod_eq_zero (by omega))
      simp (disch := omega) only [z_lt_t, z_lt_f, z_le_t, z_le_f, z_eq_t, z_eq_f, z_rd_t, z_wr_t, z_wz_t, z_pf_e, z_pz_t, z_nm_e, z_jn_e, z_cl_e, z_rz_t, z_dv_t, z_mt_t, z_il_t, z_mn_t, z_mx_t, z_fm_t, z_lc_t, z_cp_t]
      rw [e2, y_emod_sub]
    · rw [if_neg (by omega)]
      have e2 : (a % D 1 1) % D 1 1 = a % D 1 1 := Int.emod_emod_of_dvd _ (Int.dvd_refl _)
      simp (disch := omega) only [z_lt_t, z_lt_f, z_le_t, z_le_f, z_eq_t, z_eq_f, z_rd_t, z_wr_t, z_wz_t, z_pf_e, z_pz_t, z_nm_e, z_jn_e, z_cl_e, z_rz_t, z_dv_t, z_mt_t, z_il_t, z_mn_t, z_mx_t, z_fm_t, z_lc_t, z_cp_t, e2]
      rw [y_emod_sub]
  · rw [if_neg (by omega)]
    have e1 : ¬ a / D 1 1 = D 1 0 - 1 := fun h => h1 (hdiv.mp h)
    have e2 : (a % D 1 1) % D 1 1 = a % D 1 1 := Int.emod_emod_of_dvd _ (Int.dvd_refl _)
    simp (disch := omega) only [z_lt_t, z_lt_f, z_le_t, z_le_f, z_eq_t, z_eq_f, z_rd_t, z_wr_t, z_wz_t, z_pf_e, z_pz_t, z_nm_e, z_jn_e, z_cl_e, z_rz_t, z_dv_t, z_mt_t, z_il_t, z_mn_t, z_mx_t, z_fm_t, z_lc_t, z_cp_t, e2]
    rw [y_emod_sub]
/-- the gap ahead of reading k -/
def y_gap (kd : Int → Int) (k : Nat) : Int := if k = 0 then 0 else if kd ((k - 1 : Nat) : Int) = 0 then 1 else if kd ((k - 1 : Nat) : Int) = 1 then 2 else 3
def y_wt (w mu g : Int) : Int := if g = 0 then 0 else if g = 1 then 1 + w else if g = 2 then 1 else 1 + mu
theorem Model_waited_e {D : zMem} {g : Int} (hg : 0 ≤ g ∧ g ≤ 3) : Model_waited g D = some (y_wt (D 0 39) (D 1 4) g, D) := by
  unfold Model_waited y_wt
  by_cases h0 : g = 0
  · rw [if_pos h0]; simp (disch := omega) only [z_lt_t, z_lt_f, z_le_t, z_le_f, z_eq_t, z_eq_f, z_rd_t, z_wr_t, z_wz_t, z_pf_e, z_pz_t, z_nm_e, z_jn_e, z_cl_e, z_rz_t]
  · rw [if_neg h0]
    by_cases h1 : g = 1
    · rw [if_pos h1]; simp (disch := omega) only [z_lt_t, z_lt_f, z_le_t, z_le_f, z_eq_t, z_eq_f, z_rd_t, z_wr_t, z_wz_t, z_pf_e, z_pz_t, z_nm_e, z_jn_e, z_cl_e, z_rz_t]
    · rw [if_neg h1]
      by_cases h2 : g = 2
      · rw [if_pos h2]; simp (disch := omega) only [z_lt_t, z_lt_f, z_le_t, z_le_f, z_eq_t, z_eq_f, z_rd_t, z_wr_t, z_wz_t, z_pf_e, z_pz_t, z_nm_e, z_jn_e, z_cl_e, z_rz_t]
      · rw [if_neg h2]; simp (disch := omega) only [z_lt_t, z_lt_f, z_le_t, z_le_f, z_eq_t, z_eq_f, z_rd_t, z_wr_t, z_wz_t, z_pf_e, z_pz_t, z_nm_e, z_jn_e, z_cl_e, z_rz_t]
theorem y_gap_b {kd : Int → Int} {k : Nat} : 0 ≤ y_gap kd k ∧ y_gap kd k ≤ 3 := by
  unfold y_gap; repeat' split
  all_goals omega
/-- what is waited for from the last reading on -/
theorem y_fr_gap {it kd : Int → Int} {ls : Int → Int → Int} {w mu : Int} (k : Nat) (hk : k = 0 ∨ kd ((k - 1 : Nat) : Int) = 0 ∨ kd ((k - 1 : Nat) : Int) = 1 ∨ kd ((k - 1 : Nat) : Int) = 2) :
    (if k = 0 then 0 else y_fr it kd ls w mu (k - 1) + y_lo it kd ls w mu (k - 1)) + y_wt w mu (y_gap kd k) = y_fr it kd ls w mu k := by
  cases k with
  | zero => simp [y_gap, y_wt, y_fr]
  | succ k =>
    rw [y_fr_s, if_neg (by omega)]
    unfold y_en y_gap y_wt
    simp only [Nat.add_sub_cancel, Nat.succ_ne_zero, if_false] at hk ⊢
    rcases hk with h | h | h | h
    · first | exact h.elim | exact absurd h (by omega)
    · rw [h]; simp; omega
    · rw [h]; simp
    · rw [h]; simp; omega
abbrev y_mad (D : zMem) (q : Int) (a : Int → Int) : Int → Int → Int := fun t i => (a i - t) % y_turn (D 1 1) (D 1 0) q (a i)
/-- the reference's readings, told by a row of kinds -/
def y_MR (D : zMem) (R : Nat) (kd : Int → Int) : Prop := D 0 27 = R ∧ 1 ≤ R ∧ R ≤ 200 ∧ (D 0 28 = if kd ((R - 1 : Nat) : Int) = 2 then 1 else 0) ∧ ∀ k : Nat, k < R → (0 ≤ D 11 k ∧ D 11 k < 20) ∧ D 12 k = y_gap kd k ∧ (kd k = 0 ∨ kd k = 1 ∨ kd k = 2)
theorem y_mad_b {D : zMem} {q t : Int} {a : Int → Int} {i : Int} (hP : y_MP D) (hq : 0 ≤ q ∧ q ≤ 12) : 0 ≤ y_mad D q a t i ∧ y_mad D q a t i < 12 := by
  have hb := y_turn_b (T := D 1 0) (a := a i) hP.2.1 hq
  have e1 := Int.emod_nonneg (a i - t) (show y_turn (D 1 1) (D 1 0) q (a i) ≠ 0 by omega)
  have e2 := Int.emod_lt_of_pos (a i - t) (show 0 < y_turn (D 1 1) (D 1 0) q (a i) by omega)
  exact ⟨e1, by show (a i - t) % y_turn (D 1 1) (D 1 0) q (a i) < 12; omega⟩
set_option maxHeartbeats 4000000 in
theorem Model_timed_4_e {D : zMem} {N R : Nat} {kd : Int → Int} {k : Int → zMem → zO} (hP : y_MP D) (hQ : y_MQ D) (hR : y_MR D R kd) (ha : ∀ j : Nat, j < R → 0 ≤ D 20 (D 11 j) ∧ D 20 (D 11 j) < D 1 0 * D 1 1) :
    ∀ (n i : Nat) (M : zMem), i ≤ R → R - i < n → (∀ c j, c ≠ 13 → M c j = D c j) → (∀ j : Nat, j < i → M 13 j = y_fr (D 11) kd (y_mad D (D 0 40) (D 20)) (D 0 39) (D 1 4) j + y_lo (D 11) kd (y_mad D (D 0 40) (D 20)) (D 0 39) (D 1 4) j) →
      ∃ M' : zMem, Model_timed_4 N k n (if i = 0 then 0 else y_fr (D 11) kd (y_mad D (D 0 40) (D 20)) (D 0 39) (D 1 4) (i - 1) + y_lo (D 11) kd (y_mad D (D 0 40) (D 20)) (D 0 39) (D 1 4) (i - 1)) i M = k (y_fr (D 11) kd (y_mad D (D 0 40) (D 20)) (D 0 39) (D 1 4) (R - 1) + y_lo (D 11) kd (y_mad D (D 0 40) (D 20)) (D 0 39) (D 1 4) (R - 1)) M' ∧ (∀ c j, c ≠ 13 → M' c j = D c j) ∧ ∀ j : Nat, j < R → M' 13 j = y_fr (D 11) kd (y_mad D (D 0 40) (D 20)) (D 0 39) (D 1 4) j + y_lo (D 11) kd (y_mad D (D 0 40) (D 20)) (D 0 39) (D 1 4) j := by
  obtain ⟨r1, r2, r3, r4, r5⟩ := hR
  have hq : 0 ≤ D 0 40 ∧ D 0 40 ≤ 12 := by have := hQ.2; have := hP.2.1; omega
  have hfb := y_fr_b (it := D 11) (kd := kd) (ls := y_mad D (D 0 40) (D 20)) (n := R) hQ.1 hP.2.2 (fun _ _ _ => y_mad_b hP hq)
  intro n
  induction n with
  | zero => intro i M h1 h2; omega
  | succ n ih =>
    intro i M hi hn hM hA
    rw [Model_timed_4]
    have m27 : M 0 27 = R := by rw [hM _ _ (by decide)]; exact r1
    by_cases h : i < R
    · obtain ⟨g1, g2, g3⟩ := r5 i h
      have ga := ha i h
      have m11 : M 11 i = D 11 i := hM _ _ (by decide)
      have m20 : M 20 (D 11 i) = D 20 (D 11 i) := hM _ _ (by decide)
      have m12 : M 12 i = y_gap kd i := by rw [hM _ _ (by decide)]; exact g2
      have hPM : y_MP M := by unfold y_MP; rw [hM 1 0 (by decide), hM 1 1 (by decide), hM 1 4 (by decide)]; exact hP
      have hQM : y_MQ M := by unfold y_MQ; rw [hM 0 39 (by decide), hM 0 40 (by decide), hM 1 1 (by decide)]; exact hQ
      have hfi := hfb i (by omega)
      have fg := y_fr_gap (it := D 11) (kd := kd) (ls := y_mad D (D 0 40) (D 20)) (w := D 0 39) (mu := D 1 4) i (by
        by_cases h0 : i = 0
        · exact Or.inl h0
        · exact Or.inr ((r5 (i - 1) (by omega)).2.2))
      simp (disch := omega) only [z_lt_t, z_lt_f, z_le_t, z_le_f, z_eq_t, z_eq_f, z_rd_t, z_wr_t, z_wz_t, z_pf_e, z_pz_t, z_nm_e, z_jn_e, z_cl_e, z_rz_t, m27, m11, m20, m12]
      rw [Model_waited_e y_gap_b, z_cl_e, hM 0 39 (by decide), hM 1 4 (by decide), fg, Model_whenAt_e hPM hQM (by rw [hM 1 0 (by decide), hM 1 1 (by decide)]; exact ga) (by omega), z_cl_e, hM 1 1 (by decide), hM 1 0 (by decide), hM 0 40 (by decide)]
      have ec : (i : Int) + 1 = ((i + 1 : Nat) : Int) := by omega
      rw [ec]
      have := ih (i + 1) (z_st M 13 i (y_fr (D 11) kd (y_mad D (D 0 40) (D 20)) (D 0 39) (D 1 4) i + y_lo (D 11) kd (y_mad D (D 0 40) (D 20)) (D 0 39) (D 1 4) i)) (by omega) (by omega) (fun c j hc => by rw [z_st_c hc]; exact hM c j hc) (fun j hj => by
        by_cases hji : j = i
        · subst hji; rw [z_st_i rfl]
        · rw [z_st_n (by omega)]; exact hA j (by omega))
      rw [if_neg (by omega), Nat.add_sub_cancel] at this
      exact this
    · have hiR : i = R := by omega
      subst hiR
      simp (disch := omega) only [z_lt_t, z_lt_f, z_le_t, z_le_f, z_eq_t, z_eq_f, z_rd_t, z_wr_t, z_wz_t, z_pf_e, z_pz_t, z_nm_e, z_jn_e, z_cl_e, z_rz_t, m27]
      rw [if_neg (by omega)]
      exact ⟨M, rfl, hM, hA⟩
theorem Model_timed_e {D : zMem} {N R : Nat} {kd : Int → Int} (hN : 400 ≤ N) (hP : y_MP D) (hQ : y_MQ D) (hR : y_MR D R kd) (ha : ∀ j : Nat, j < R → 0 ≤ D 20 (D 11 j) ∧ D 20 (D 11 j) < D 1 0 * D 1 1) :
    ∃ M' : zMem, Model_timed N D = some (y_tm (D 11) kd (y_mad D (D 0 40) (D 20)) (D 0 39) (D 1 4) R, M') ∧ (∀ c j, c ≠ 13 → M' c j = D c j) ∧ ∀ j : Nat, j < R → M' 13 j = y_fr (D 11) kd (y_mad D (D 0 40) (D 20)) (D 0 39) (D 1 4) j + y_lo (D 11) kd (y_mad D (D 0 40) (D 20)) (D 0 39) (D 1 4) j := by
  unfold Model_timed
  rw [z_jn_e]
  obtain ⟨M', h1, h2, h3⟩ := Model_timed_4_e (N := N) (k := fun v1_ M1 => z_jn (fun (x0 x1 : Int) (M2 : zMem) => some ((x1 + x0), M2)) (fun k1 => z_eq (M1 0 28) 0 (k1 0 (v1_ + 1) M1) (z_rd M1 1 169 4 (fun x2 => k1 x2 (v1_ + 1) M1)))) hP hQ hR ha N 0 D (Nat.zero_le _) (by have := hR.2.2.1; omega) (fun _ _ _ => rfl) (fun j hj => by omega)
  refine ⟨M', ?_, h2, h3⟩
  rw [if_pos rfl] at h1
  refine h1.trans ?_
  obtain ⟨r1, r2, r3, r4, r5⟩ := hR
  have e28 : M' 0 28 = if kd ((R - 1 : Nat) : Int) = 2 then 1 else 0 := by rw [h2 _ _ (by decide)]; exact r4
  have e4 : M' 1 4 = D 1 4 := h2 _ _ (by decide)
  unfold y_tm y_en
  rw [if_neg (by omega), e28]
  by_cases hk : kd ((R - 1 : Nat) : Int) = 2
  · rw [if_pos hk, if_pos hk]
    simp (disch := omega) only [z_lt_t, z_lt_f, z_le_t, z_le_f, z_eq_t, z_eq_f, z_rd_t, z_wr_t, z_wz_t, z_pf_e, z_pz_t, z_nm_e, z_jn_e, z_cl_e, z_rz_t, e4]
  · rw [if_neg hk, if_neg hk]
    simp (disch := omega) only [z_lt_t, z_lt_f, z_le_t, z_le_f, z_eq_t, z_eq_f, z_rd_t, z_wr_t, z_wz_t, z_pf_e, z_pz_t, z_nm_e, z_jn_e, z_cl_e, z_rz_t]
