/-! what is lost; another wait, other quick heads -/
theorem Clock_lostBehindFirst_e {N R : Nat} {M : zMem} (hN : 400 ≤ N) (h : M 28 10 = R) (hR : 1 ≤ R ∧ R ≤ 200) : Clock_lostBehindFirst N M = some (y_sum (M 45) R - M 45 0, M) := by
  have key : ∀ (n i : Nat), 1 ≤ i → i ≤ R → R - i < n → Clock_lostBehindFirst_4 N (fun v1_ M1 => some (v1_, M1)) n (y_sum (M 45) i - M 45 0) i M = some (y_sum (M 45) R - M 45 0, M) := by
    intro n
    induction n with
    | zero => intro i _ _ h; omega
    | succ n ih =>
      intro i h1 hi hn
      rw [Clock_lostBehindFirst_4]
      by_cases hc : i < R
      · have ec : (i : Int) + 1 = ((i + 1 : Nat) : Int) := by omega
        have es : y_sum (M 45) (i + 1) = y_sum (M 45) i + M 45 i := rfl
        have := ih (i + 1) (by omega) (by omega) (by omega)
        rw [es] at this
        simp (disch := omega) only [z_lt_t, z_lt_f, z_le_t, z_le_f, z_eq_t, z_eq_f, z_rd_t, z_wr_t, z_wz_t, z_pf_e, z_pz_t, z_nm_e, z_jn_e, z_cl_e, z_rz_t]
        rw [ec, show y_sum (M 45) i - M 45 0 + M 45 i = y_sum (M 45) i + M 45 i - M 45 0 by omega]
        exact this
      · simp (disch := omega) only [z_lt_t, z_lt_f, z_le_t, z_le_f, z_eq_t, z_eq_f, z_rd_t, z_wr_t, z_wz_t, z_pf_e, z_pz_t, z_nm_e, z_jn_e, z_cl_e, z_rz_t]
        rw [show R = i by omega]
  unfold Clock_lostBehindFirst
  rw [z_jn_e]
  have := key N 1 (by omega) (by omega) (by omega)
  rw [show y_sum (M 45) 1 - M 45 0 = 0 by show (0 + M 45 0) - M 45 0 = 0; omega] at this
  exact this
theorem Clock_lostOn_e {N R : Nat} {v : Int} {M : zMem} (hN : 400 ≤ N) (hv : z_Rg v) (h : M 28 10 = R) (hR : R ≤ 200) (h35 : ∀ k : Nat, k < R → z_Rg (M 35 k)) : Clock_lostOn N v M = some (y_sum (fun k => if M 35 k = v then M 45 k else 0) R, M) := by
  have key : ∀ (n i : Nat), i ≤ R → R - i < n → Clock_lostOn_4 N v (fun v1_ M1 => some (v1_, M1)) n (y_sum (fun k => if M 35 k = v then M 45 k else 0) i) i M = some (y_sum (fun k => if M 35 k = v then M 45 k else 0) R, M) := by
    intro n
    induction n with
    | zero => intro i _ h; omega
    | succ n ih =>
      intro i hi hn
      rw [Clock_lostOn_4]
      by_cases hc : i < R
      · have g := h35 i hc
        have ec : (i : Int) + 1 = ((i + 1 : Nat) : Int) := by omega
        have es : y_sum (fun k => if M 35 k = v then M 45 k else 0) (i + 1) = y_sum (fun k => if M 35 k = v then M 45 k else 0) i + (if M 35 i = v then M 45 i else 0) := rfl
        have := ih (i + 1) (by omega) (by omega)
        rw [es] at this
        by_cases h1 : M 35 i = v
        · rw [if_pos h1] at this
          simp (disch := omega) only [z_lt_t, z_lt_f, z_le_t, z_le_f, z_eq_t, z_eq_f, z_rd_t, z_wr_t, z_wz_t, z_pf_e, z_pz_t, z_nm_e, z_jn_e, z_cl_e, z_rz_t]
          rw [ec]; exact this
        · rw [if_neg h1, Int.add_zero] at this
          simp (disch := omega) only [z_lt_t, z_lt_f, z_le_t, z_le_f, z_eq_t, z_eq_f, z_rd_t, z_wr_t, z_wz_t, z_pf_e, z_pz_t, z_nm_e, z_jn_e, z_cl_e, z_rz_t]
          rw [ec]; exact this
      · simp (disch := omega) only [z_lt_t, z_lt_f, z_le_t, z_le_f, z_eq_t, z_eq_f, z_rd_t, z_wr_t, z_wz_t, z_pf_e, z_pz_t, z_nm_e, z_jn_e, z_cl_e, z_rz_t]
        rw [show R = i by omega]
  unfold Clock_lostOn
  rw [z_jn_e]
  exact key N 0 (by omega) (by omega)
theorem Model_lostAt_e {R k : Nat} {M : zMem} {kd : Int → Int} {F L : Nat → Int} (hM : y_MR M R kd) (h13 : ∀ k : Nat, k < R → M 13 k = F k + L k) (hF : ∀ k : Nat, k < R → (if k = 0 then 0 else F (k - 1) + L (k - 1)) + y_wt (M 0 39) (M 1 4) (y_gap kd k) = F k) (hk : k < R) : Model_lostAt k M = some (L k, M) := by
  obtain ⟨m1, m2, m3, m4, m5⟩ := hM
  have e12 := (m5 k hk).2.1
  have e13 := h13 k hk
  have f := hF k hk
  unfold Model_lostAt
  by_cases h0 : k = 0
  · subst h0
    rw [if_pos rfl] at f
    have g0 : y_gap kd 0 = 0 := rfl
    have w0 : y_wt (M 0 39) (M 1 4) 0 = 0 := rfl
    rw [g0, w0] at f
    simp (disch := omega) only [z_lt_t, z_lt_f, z_le_t, z_le_f, z_eq_t, z_eq_f, z_rd_t, z_wr_t, z_wz_t, z_pf_e, z_pz_t, z_nm_e, z_jn_e, z_cl_e, z_rz_t, e13]
    congr 2; omega
  · rw [if_neg h0] at f
    have e13' := h13 (k - 1) (by omega)
    have ec : (k : Int) - 1 = ((k - 1 : Nat) : Int) := by omega
    simp (disch := omega) only [z_lt_t, z_lt_f, z_le_t, z_le_f, z_eq_t, z_eq_f, z_rd_t, z_wr_t, z_wz_t, z_pf_e, z_pz_t, z_nm_e, z_jn_e, z_cl_e, z_rz_t, ec, e12, e13, e13', Model_waited_e y_gap_b]
    congr 2; omega
theorem Model_lostOf_e {N R : Nat} {v : Int} {M : zMem} {kd : Int → Int} {F L : Nat → Int} (hN : 400 ≤ N) (hv : z_Rg v) (hM : y_MR M R kd) (h13 : ∀ k : Nat, k < R → M 13 k = F k + L k) (hF : ∀ k : Nat, k < R → (if k = 0 then 0 else F (k - 1) + L (k - 1)) + y_wt (M 0 39) (M 1 4) (y_gap kd k) = F k) : Model_lostOf N v M = some (y_sum (fun k => if v = -1 ∨ M 11 k = v then L k.toNat else 0) R, M) := by
  obtain ⟨m1, m2, m3, m4, m5⟩ := id hM
  have key : ∀ (n i : Nat), i ≤ R → R - i < n → Model_lostOf_4 N v (fun v1_ M1 => some (v1_, M1)) n (y_sum (fun k => if v = -1 ∨ M 11 k = v then L k.toNat else 0) i) i M = some (y_sum (fun k => if v = -1 ∨ M 11 k = v then L k.toNat else 0) R, M) := by
    intro n
    induction n with
    | zero => intro i _ h; omega
    | succ n ih =>
      intro i hi hn
      rw [Model_lostOf_4]
      by_cases hc : i < R
      · have g := (m5 i hc).1
        have ec : (i : Int) + 1 = ((i + 1 : Nat) : Int) := by omega
        have es : y_sum (fun k => if v = -1 ∨ M 11 k = v then L k.toNat else 0) (i + 1) = y_sum (fun k => if v = -1 ∨ M 11 k = v then L k.toNat else 0) i + (if v = -1 ∨ M 11 i = v then L (i : Int).toNat else 0) := rfl
        have := ih (i + 1) (by omega) (by omega)
        rw [es, Int.toNat_natCast] at this
        have la := Model_lostAt_e hM h13 hF hc
        by_cases h1 : v = -1
        · rw [if_pos (Or.inl h1)] at this
          simp (disch := omega) only [z_lt_t, z_lt_f, z_le_t, z_le_f, z_eq_t, z_eq_f, z_rd_t, z_wr_t, z_wz_t, z_pf_e, z_pz_t, z_nm_e, z_jn_e, z_cl_e, z_rz_t, la]
          rw [ec]; exact this
        · by_cases h2 : M 11 i = v
          · rw [if_pos (Or.inr h2)] at this
            simp (disch := omega) only [z_lt_t, z_lt_f, z_le_t, z_le_f, z_eq_t, z_eq_f, z_rd_t, z_wr_t, z_wz_t, z_pf_e, z_pz_t, z_nm_e, z_jn_e, z_cl_e, z_rz_t, la]
            rw [ec]; exact this
          · rw [if_neg (by omega)] at this
            simp (disch := omega) only [z_lt_t, z_lt_f, z_le_t, z_le_f, z_eq_t, z_eq_f, z_rd_t, z_wr_t, z_wz_t, z_pf_e, z_pz_t, z_nm_e, z_jn_e, z_cl_e, z_rz_t]
            rw [ec]; exact this
      · simp (disch := omega) only [z_lt_t, z_lt_f, z_le_t, z_le_f, z_eq_t, z_eq_f, z_rd_t, z_wr_t, z_wz_t, z_pf_e, z_pz_t, z_nm_e, z_jn_e, z_cl_e, z_rz_t]
        rw [show R = i by omega]
  unfold Model_lostOf
  rw [z_jn_e]
  exact key N 0 (by omega) (by omega)
theorem y_sum_b {f : Int → Int} {b : Int} : ∀ m : Nat, (∀ j : Nat, j < m → 0 ≤ f j ∧ f j ≤ b) → 0 ≤ y_sum f m ∧ y_sum f m ≤ b * m := by
  intro m
  induction m with
  | zero => intro _; exact ⟨Int.le_refl _, by simp [y_sum]⟩
  | succ m ih =>
    intro h
    have g := ih (fun j hj => h j (by omega))
    have g2 := h m (by omega)
    have e : b * ((m + 1 : Nat) : Int) = b * m + b := by rw [Int.natCast_add, Int.mul_add]; simp
    show 0 ≤ y_sum f m + f m ∧ y_sum f m + f m ≤ _
    rw [e]; omega
/-- all that the calls below need, behind timeNow -/
theorem Rel_losses {N R : Nat} {C D : zMem} (h : Rel N C D) (c : 0 < C 19 8) (hN : 400 ≤ N) (hB : r_B N C D R) :
    ∃ (C' D' : zMem) (T : Int) (L : Nat → Int), Drum_timeNow N C = some (T, C') ∧ Model_timeNow N D = some (T, D') ∧ Rel N C' D' ∧ (∀ j, C' 19 j = C 19 j) ∧ (0 ≤ T ∧ T ≤ 9000) ∧ (∀ k : Nat, k < R → 0 ≤ L k ∧ L k < 12) ∧
      Clock_lostBehindFirst N C' = some (y_sum (fun k => L k.toNat) R - L 0, C') ∧ Clock_lostAtFirst C' = some (L 0, C') ∧ (∀ v : Int, z_Rg v → Clock_lostOn N v C' = some (y_sum (fun k => if C 35 k = v then L k.toNat else 0) R, C')) ∧
      Model_lostOf N (-1) D' = some (y_sum (fun k => L k.toNat) R, D') ∧ (∀ v : Int, 0 ≤ v → v < 20 → Model_lostOf N v D' = some (y_sum (fun k => if C 35 k = v then L k.toNat else 0) R, D')) ∧ D' 13 0 = L 0 ∧ D' 1 5 = C 19 6 := by
  obtain ⟨b1, ⟨b21, b22, b23⟩, b3, b4, b5, b6⟩ := id hB
  obtain ⟨p1, p2, p3, p4, p5, p6⟩ := Rel_P h c
  obtain ⟨q0, q1, q2, q3, q4, q5, q6⟩ := h.2.2.1.1
  obtain ⟨C', D', t1, t2, t3, t4, t5, t6, t7, t8, t9, t10, t11, t12, t13, t14⟩ := Rel_timeNow h c hN hB
  have hb := Rel_tm_b (w := C 19 2) (q := C 19 3) (a := C 57) h c hB p3 (by omega)
  have e28 : C' 28 10 = R := by rw [t4 28 10 (by decide) (by decide) (by decide) (by decide)]; exact b21
  have e35 : ∀ j, C' 35 j = C 35 j := fun j => t4 35 j (by decide) (by decide) (by decide) (by decide)
  have e14 : D' 1 4 = C 19 4 := by rw [t6 1 4 (by decide) (by decide) (by omega)]; exact q4
  generalize hL : y_lo (C 35) (C 36) (y_ad C (C 19 3) (C 57)) (C 19 2) (C 19 4) = L at t5 t14 hb
  have e45 : ∀ k : Nat, k < R → C' 45 k = L k := fun k hk => (t5 k hk).2
  have hF : ∀ k : Nat, k < R → (if k = 0 then 0 else y_fr (C 35) (C 36) (y_ad C (C 19 3) (C 57)) (C 19 2) (C 19 4) (k - 1) + L (k - 1)) + y_wt (D' 0 39) (D' 1 4) (y_gap (C 36) k) = y_fr (C 35) (C 36) (y_ad C (C 19 3) (C 57)) (C 19 2) (C 19 4) k := by
    intro k hk
    rw [t7, e14, ← hL]
    exact y_fr_gap k (by
      by_cases h0 : k = 0
      · exact Or.inl h0
      · exact Or.inr ((b23 (k - 1) (by omega)).2))
  refine ⟨C', D', _, L, t1, t2, t3, fun j => t4 19 j (by decide) (by decide) (by decide) (by decide), ⟨hb.1, hb.2.1⟩, hb.2.2.1, ?_, ?_, fun v hv => ?_, ?_, fun v hv1 hv2 => ?_, ?_, ?_⟩
  · rw [Clock_lostBehindFirst_e hN e28 ⟨b1, b22⟩, y_sum_congr (g := fun k => L k.toNat) R (fun j hj => by rw [e45 j hj, Int.toNat_natCast]), show C' 45 0 = L 0 from e45 0 (by omega)]
  · unfold Clock_lostAtFirst
    rw [z_lt_t (by omega), z_rd_t (by omega), show C' 45 0 = L 0 from e45 0 (by omega)]
  · rw [Clock_lostOn_e hN hv e28 b22 (fun k hk => by rw [e35]; have := (b23 k hk).1; omega), y_sum_congr (g := fun k => if C 35 k = v then L k.toNat else 0) R (fun j hj => by
      show (if C' 35 j = v then C' 45 j else 0) = _
      rw [e35, e45 j hj, Int.toNat_natCast])]
  · rw [Model_lostOf_e hN (by omega) t10 t14 hF, y_sum_congr (g := fun k => L k.toNat) R (fun j hj => by
      show (if (-1 : Int) = -1 ∨ D' 11 j = -1 then L (j : Int).toNat else 0) = _
      rw [if_pos (Or.inl rfl)])]
  · rw [Model_lostOf_e hN (by omega) t10 t14 hF, y_sum_congr (g := fun k => if C 35 k = v then L k.toNat else 0) R (fun j hj => by
      show (if v = -1 ∨ D' 11 j = v then L (j : Int).toNat else 0) = _
      rw [t11 j hj]
      by_cases hc : C 35 j = v
      · rw [if_pos (Or.inr hc), if_pos hc]
      · rw [if_neg (by omega), if_neg hc])]
  · have := t14 0 (by omega)
    have f0 : y_fr (C 35) (C 36) (y_ad C (C 19 3) (C 57)) (C 19 2) (C 19 4) 0 = 0 := rfl
    rw [f0] at this
    rw [show D' 13 0 = 0 + L 0 from this]; omega
  · rw [t6 1 5 (by decide) (by decide) (by omega)]; exact q5
theorem ok_lost {N : Nat} {C D : zMem} (h : Rel N C D) (hN : 400 ≤ N) : OK N (Drum_lost N C) (Model_lost N D) := by
  obtain ⟨n1, n2, n3, n4⟩ := Rel_n h
  unfold Drum_lost Model_lost Drum_lostInAll
  rw [Rel_hasRun h, z_cl_e, z_eq_b]
  by_cases c : 0 < C 19 8
  · obtain ⟨R, hB⟩ := r_R_B h c
    obtain ⟨C', D', T, L, t1, t2, t3, t4, t5, t6, t7, t8, t9, t10, t11, t12, t13⟩ := Rel_losses h c hN hB
    rw [if_pos c, t1, t2]
    simp (disch := omega) only [z_lt_t, z_lt_f, z_le_t, z_le_f, z_eq_t, z_eq_f, z_rd_t, z_wr_t, z_wz_t, z_pf_e, z_pz_t, z_nm_e, z_jn_e, z_cl_e, z_rz_t, t7, t8, t10]
    exact ⟨_, C', D', rfl, by congr 2; omega, t3⟩
  · rw [if_neg c]
    simp (disch := omega) only [z_lt_t, z_lt_f, z_le_t, z_le_f, z_eq_t, z_eq_f, z_rd_t, z_wr_t, z_wz_t, z_pf_e, z_pz_t, z_nm_e, z_jn_e, z_cl_e, z_rz_t]
    exact ⟨_, C, D, rfl, rfl, h⟩
theorem ok_lostFor {N : Nat} {C D : zMem} {v : Int} (h : Rel N C D) (hN : 400 ≤ N) (hv : z_Rg v) : OK N (Drum_lostFor N v C) (Model_lostFor N v D) := by
  obtain ⟨n1, n2, n3, n4⟩ := Rel_n h
  obtain ⟨i1, i2⟩ := Rel_isItem h hv
  unfold Drum_lostFor Model_lostFor
  rw [Rel_hasRun h, z_cl_e, z_eq_b, i1, i2, z_cl_e, z_cl_e, z_eq_b, z_eq_b]
  by_cases c : 0 < C 19 8
  · rw [if_pos c]
    by_cases ci : 0 ≤ v ∧ v < C 19 6
    · obtain ⟨R, hB⟩ := r_R_B h c
      obtain ⟨C', D', T, L, t1, t2, t3, t4, t5, t6, t7, t8, t9, t10, t11, t12, t13⟩ := Rel_losses h c hN hB
      rw [if_pos ci, if_pos ci, t1, t2]
      simp (disch := omega) only [z_lt_t, z_lt_f, z_le_t, z_le_f, z_eq_t, z_eq_f, z_rd_t, z_wr_t, z_wz_t, z_pf_e, z_pz_t, z_nm_e, z_jn_e, z_cl_e, z_rz_t, t9 v hv, t11 v ci.1 (by omega)]
      exact ⟨_, C', D', rfl, rfl, t3⟩
    · rw [if_neg ci, if_neg ci]
      simp (disch := omega) only [z_lt_t, z_lt_f, z_le_t, z_le_f, z_eq_t, z_eq_f, z_rd_t, z_wr_t, z_wz_t, z_pf_e, z_pz_t, z_nm_e, z_jn_e, z_cl_e, z_rz_t]
      exact ⟨_, C, D, rfl, rfl, h⟩
  · rw [if_neg c]
    simp (disch := omega) only [z_lt_t, z_lt_f, z_le_t, z_le_f, z_eq_t, z_eq_f, z_rd_t, z_wr_t, z_wz_t, z_pf_e, z_pz_t, z_nm_e, z_jn_e, z_cl_e, z_rz_t]
    exact ⟨_, C, D, rfl, rfl, h⟩
theorem ok_bound {N : Nat} {C D : zMem} (h : Rel N C D) (hN : 400 ≤ N) : OK N (Drum_bound N C) (Model_bound N D) := by
  obtain ⟨n1, n2, n3, n4⟩ := Rel_n h
  unfold Drum_bound Model_bound
  rw [Rel_hasRun h, z_cl_e, z_eq_b]
  by_cases c : 0 < C 19 8
  · obtain ⟨R, hB⟩ := r_R_B h c
    obtain ⟨C', D', T, L, t1, t2, t3, t4, t5, t6, t7, t8, t9, t10, t11, t12, t13⟩ := Rel_losses h c hN hB
    rw [if_pos c, t1, t2]
    simp (disch := omega) only [z_lt_t, z_lt_f, z_le_t, z_le_f, z_eq_t, z_eq_f, z_rd_t, z_wr_t, z_wz_t, z_pf_e, z_pz_t, z_nm_e, z_jn_e, z_cl_e, z_rz_t, t7, t10, t12]
    exact ⟨_, C', D', rfl, by congr 2; omega, t3⟩
  · rw [if_neg c]
    simp (disch := omega) only [z_lt_t, z_lt_f, z_le_t, z_le_f, z_eq_t, z_eq_f, z_rd_t, z_wr_t, z_wz_t, z_pf_e, z_pz_t, z_nm_e, z_jn_e, z_cl_e, z_rz_t]
    exact ⟨_, C, D, rfl, rfl, h⟩
/-- the item for which most is lost, of the first n -/
def y_wst (L : Int → Int) : Nat → Int
  | 0 => -1
  | i + 1 => if (if y_wst L i = -1 then 0 else L (y_wst L i)) < L i then i else y_wst L i
theorem y_wst_b {L : Int → Int} : ∀ i : Nat, y_wst L i = -1 ∨ (0 ≤ y_wst L i ∧ y_wst L i < i) := by
  intro i
  induction i with
  | zero => exact Or.inl rfl
  | succ i ih =>
    show (if (if y_wst L i = -1 then 0 else L (y_wst L i)) < L i then (i : Int) else y_wst L i) = -1 ∨ (0 ≤ (if (if y_wst L i = -1 then 0 else L (y_wst L i)) < L i then (i : Int) else y_wst L i) ∧ (if (if y_wst L i = -1 then 0 else L (y_wst L i)) < L i then (i : Int) else y_wst L i) < (i + 1 : Nat))
    by_cases hc : (if y_wst L i = -1 then 0 else L (y_wst L i)) < L i
    · rw [if_pos hc]; omega
    · rw [if_neg hc]; omega
theorem ok_worst {N : Nat} {C D : zMem} (h : Rel N C D) (hN : 400 ≤ N) : OK N (Drum_worst N C) (Model_worst N D) := by
  obtain ⟨n1, n2, n3, n4⟩ := Rel_n h
  unfold Drum_worst Model_worst
  rw [Rel_hasRun h, z_cl_e, z_eq_b]
  by_cases c : 0 < C 19 8
  · obtain ⟨R, hB⟩ := r_R_B h c
    have hR2 : R ≤ 200 := hB.2.1.2.1
    obtain ⟨C', D', T, L, t1, t2, t3, t4, t5, t6, t7, t8, t9, t10, t11, t12, t13⟩ := Rel_losses h c hN hB
    have hlb : ∀ v : Int, 0 ≤ y_sum (fun k => if C 35 k = v then L k.toNat else 0) R ∧ y_sum (fun k => if C 35 k = v then L k.toNat else 0) R ≤ 12 * R := fun v => y_sum_b R (fun j hj => by
      show 0 ≤ (if C 35 j = v then L (j : Int).toNat else 0) ∧ (if C 35 j = v then L (j : Int).toNat else 0) ≤ 12
      rw [Int.toNat_natCast]
      have := t6 j hj
      split <;> omega)
    generalize hW : (fun v : Int => y_sum (fun k => if C 35 k = v then L k.toNat else 0) R) = W
    have hWe : ∀ v, y_sum (fun k => if C 35 k = v then L k.toNat else 0) R = W v := fun v => by rw [← hW]
    have hWb : ∀ v, 0 ≤ W v ∧ W v ≤ 2400 := fun v => by rw [← hWe]; have := hlb v; omega
    have e6 : C' 19 6 = C 19 6 := t4 6
    have key1 : ∀ (n i : Nat), (i : Int) ≤ C 19 6 → C 19 6 - i < n → Drum_worst_24 N (fun v1_ M1 => some (v1_, M1)) n (y_wst W i) (if y_wst W i = -1 then 0 else W (y_wst W i)) i C' = some (y_wst W (C 19 6).toNat, C') := by
      intro n
      induction n with
      | zero => intro i _ h; omega
      | succ n ih =>
        intro i hi hn
        rw [Drum_worst_24]
        by_cases hc : (i : Int) < C 19 6
        · have ec : (i : Int) + 1 = ((i + 1 : Nat) : Int) := by omega
          have hwb := y_wst_b (L := W) i
          have hmb : 0 ≤ (if y_wst W i = -1 then 0 else W (y_wst W i)) ∧ (if y_wst W i = -1 then 0 else W (y_wst W i)) ≤ 2400 := by
            have := hWb (y_wst W i); split <;> omega
          have hwi := hWb i
          have es : y_wst W (i + 1) = if (if y_wst W i = -1 then 0 else W (y_wst W i)) < W i then (i : Int) else y_wst W i := rfl
          have := ih (i + 1) (by omega) (by omega)
          rw [es] at this
          by_cases hx : (if y_wst W i = -1 then 0 else W (y_wst W i)) < W i
          · rw [if_pos hx, if_neg (show ¬ (i : Int) = -1 by omega)] at this
            simp (disch := omega) only [z_lt_t, z_lt_f, z_le_t, z_le_f, z_eq_t, z_eq_f, z_rd_t, z_wr_t, z_wz_t, z_pf_e, z_pz_t, z_nm_e, z_jn_e, z_cl_e, z_rz_t, e6, t9 i (by omega), hWe]
            rw [ec]; exact this
          · rw [if_neg hx] at this
            simp (disch := omega) only [z_lt_t, z_lt_f, z_le_t, z_le_f, z_eq_t, z_eq_f, z_rd_t, z_wr_t, z_wz_t, z_pf_e, z_pz_t, z_nm_e, z_jn_e, z_cl_e, z_rz_t, e6, t9 i (by omega), hWe]
            rw [ec]; exact this
        · simp (disch := omega) only [z_lt_t, z_lt_f, z_le_t, z_le_f, z_eq_t, z_eq_f, z_rd_t, z_wr_t, z_wz_t, z_pf_e, z_pz_t, z_nm_e, z_jn_e, z_cl_e, z_rz_t, e6]
          rw [show (C 19 6).toNat = i by omega]
    have key2 : ∀ (n i : Nat), (i : Int) ≤ C 19 6 → C 19 6 - i < n → Model_worst_19 N (fun v1_ M1 => some (v1_, M1)) n (y_wst W i) i D' = some (y_wst W (C 19 6).toNat, D') := by
      intro n
      induction n with
      | zero => intro i _ h; omega
      | succ n ih =>
        intro i hi hn
        rw [Model_worst_19]
        by_cases hc : (i : Int) < C 19 6
        · have ec : (i : Int) + 1 = ((i + 1 : Nat) : Int) := by omega
          have hwb := y_wst_b (L := W) i
          have hwi := hWb i
          have hwo := hWb (y_wst W i)
          have es : y_wst W (i + 1) = if (if y_wst W i = -1 then 0 else W (y_wst W i)) < W i then (i : Int) else y_wst W i := rfl
          have := ih (i + 1) (by omega) (by omega)
          rw [es] at this
          by_cases hy : y_wst W i = -1
          · rw [if_pos hy] at this
            by_cases hx : 0 < W i
            · rw [if_pos hx] at this
              simp (disch := omega) only [z_lt_t, z_lt_f, z_le_t, z_le_f, z_eq_t, z_eq_f, z_rd_t, z_wr_t, z_wz_t, z_pf_e, z_pz_t, z_nm_e, z_jn_e, z_cl_e, z_rz_t, t13, t11 i (by omega) (by omega), hWe]
              rw [ec]; exact this
            · rw [if_neg hx] at this
              simp (disch := omega) only [z_lt_t, z_lt_f, z_le_t, z_le_f, z_eq_t, z_eq_f, z_rd_t, z_wr_t, z_wz_t, z_pf_e, z_pz_t, z_nm_e, z_jn_e, z_cl_e, z_rz_t, t13, t11 i (by omega) (by omega), hWe]
              rw [ec]; exact this
          · rw [if_neg hy] at this
            by_cases hx : W (y_wst W i) < W i
            · rw [if_pos hx] at this
              simp (disch := omega) only [z_lt_t, z_lt_f, z_le_t, z_le_f, z_eq_t, z_eq_f, z_rd_t, z_wr_t, z_wz_t, z_pf_e, z_pz_t, z_nm_e, z_jn_e, z_cl_e, z_rz_t, t13, t11 i (by omega) (by omega), t11 (y_wst W i) (by omega) (by omega), hWe]
              rw [ec]; exact this
            · rw [if_neg hx] at this
              simp (disch := omega) only [z_lt_t, z_lt_f, z_le_t, z_le_f, z_eq_t, z_eq_f, z_rd_t, z_wr_t, z_wz_t, z_pf_e, z_pz_t, z_nm_e, z_jn_e, z_cl_e, z_rz_t, t13, t11 i (by omega) (by omega), t11 (y_wst W i) (by omega) (by omega), hWe]
              rw [ec]; exact this
        · simp (disch := omega) only [z_lt_t, z_lt_f, z_le_t, z_le_f, z_eq_t, z_eq_f, z_rd_t, z_wr_t, z_wz_t, z_pf_e, z_pz_t, z_nm_e, z_jn_e, z_cl_e, z_rz_t, t13]
          rw [show (C 19 6).toNat = i by omega]
    rw [if_pos c, t1, t2]
    simp (disch := omega) only [z_lt_t, z_lt_f, z_le_t, z_le_f, z_eq_t, z_eq_f, z_rd_t, z_wr_t, z_wz_t, z_pf_e, z_pz_t, z_nm_e, z_jn_e, z_cl_e, z_rz_t]
    exact ⟨_, C', D', key1 N 0 (by omega) (by omega), key2 N 0 (by omega) (by omega), t3⟩
  · rw [if_neg c]
    simp (disch := omega) only [z_lt_t, z_lt_f, z_le_t, z_le_f, z_eq_t, z_eq_f, z_rd_t, z_wr_t, z_wz_t, z_pf_e, z_pz_t, z_nm_e, z_jn_e, z_cl_e, z_rz_t]
    exact ⟨_, C, D, rfl, rfl, h⟩
/-- a measure with other numbers on both sides -/
theorem Rel_other {N R : Nat} {C D : zMem} {w q : Int} (h : Rel N C D) (c : 0 < C 19 8) (hN : 400 ≤ N) (hB : r_B N C D R) (hw : 0 ≤ w ∧ w ≤ 9) (hq : q = 0 ∨ (0 < q ∧ q < C 19 1 ∧ C 19 1 % q = 0)) :
    ∃ (C' : zMem) (T : Int), Clock_measure N 57 w q C = some (T, C') ∧ (∀ c j, c ≠ 42 → c ≠ 43 → c ≠ 44 → c ≠ 45 → C' c j = C c j) ∧ ∃ E : zMem, Model_takes N D = some (0, E) ∧ E 0 39 = C 19 2 ∧ E 0 40 = C 19 3 ∧
      ∀ E' : zMem, (∀ c j, c ≠ 0 → E' c j = E c j) → (∀ j : Int, j ≠ 39 → j ≠ 40 → E' 0 j = E 0 j) → E' 0 39 = w → E' 0 40 = q → ∃ E1 E2 : zMem, Model_runs N E' = some (0, E1) ∧ Model_timed N E1 = some (T, E2) ∧ Rel N C' E2 := by
  obtain ⟨b1, b2, b3, b4, b5, b6⟩ := id hB
  have hP := Rel_P h c
  obtain ⟨p1, p2, p3, p4, p5, p6⟩ := id hP
  obtain ⟨n1, n2, n3, n4⟩ := Rel_n h
  obtain ⟨q0, q1, q2, q3, q4, q5, q6⟩ := h.2.2.1.1
  have hL := h.2.2.2.2.1
  obtain ⟨C', c1, c2, c3⟩ := Clock_measure_e (N := N) (ca := 57) (w := w) (q := q) hP hN b2 hw (by omega) (by decide) (fun i g1 g2 => by have := hL i g1 g2; omega)
  obtain ⟨E, t1, t2, t3, t4, t5, t6⟩ := Model_takes_e (D := D) hN
  refine ⟨C', _, c1, c2, E, t1, by rw [t4, q2], by rw [t5, q3], fun E' g1 g2 g3 g4 => ?_⟩
  obtain ⟨E1, E2, s1, s2, s3⟩ := Rel_run (E := E') (w := w) (q := q) (a := C 57) h c hN hB (fun j k1 k2 k3 => by rw [g1 1 j (by decide)]; exact t2 1 j (by decide) (by decide)) ⟨g3, hw⟩ ⟨g4, hq⟩ (fun i k1 k2 => by
    rw [g1 20 i (by decide), t6 i k1 (by omega)]; exact hL i k1 k2)
  refine ⟨E1, E2, s1, s2, Rel_same h (fun c j hr => ?_) (fun c j hr => ?_)⟩
  · unfold relC at hr; simp at hr
    exact c2 c j (by omega) (by omega) (by omega) (by omega)
  · obtain ⟨u1, u2, -⟩ := s3
    unfold relD at hr; simp at hr
    by_cases hc : c = 0
    · subst hc
      rw [u2 j (by omega) (by omega) (by omega) (by omega) (by omega), g2 j (by omega) (by omega)]
      exact t3 j (by omega) (by omega)
    · rw [u1 c j hc (by omega), g1 c j hc]
      exact t2 c j hc (by omega)
theorem ok_waiting {N : Nat} {C D : zMem} {v : Int} (h : Rel N C D) (hN : 400 ≤ N) (hv : z_Rg v) : OK N (Drum_waiting N v C) (Model_waiting N v D) := by
  obtain ⟨n1, n2, n3, n4⟩ := Rel_n h
  unfold Drum_waiting Model_waiting
  rw [Rel_hasRun h, z_cl_e, z_eq_b]
  by_cases c : 0 < C 19 8
  · rw [if_pos c]
    by_cases cv : 0 ≤ v ∧ v ≤ 9
    · obtain ⟨R, hB⟩ := r_R_B h c
      obtain ⟨p1, p2, p3, p4, p5, p6⟩ := Rel_P h c
      obtain ⟨C', T, t1, t2, E, t3, t4, t5, t6⟩ := Rel_other (w := v) (q := C 19 3) h c hN hB cv p4
      obtain ⟨E1, E2, s1, s2, s3⟩ := t6 (z_st E 0 39 v) (fun c j hc => z_st_c hc) (fun j h1 h2 => z_st_n h1) (z_st_i rfl) (by rw [z_st_n (by decide)]; exact t5)
      simp (disch := omega) only [z_lt_t, z_lt_f, z_le_t, z_le_f, z_eq_t, z_eq_f, z_rd_t, z_wr_t, z_wz_t, z_pf_e, z_pz_t, z_nm_e, z_jn_e, z_cl_e, z_rz_t, z_dv_t, z_mt_t, z_il_t, z_mn_t, z_mx_t, z_fm_t, z_lc_t, z_cp_t, Model_in_e, t1, t3, s1, s2]
      exact ⟨_, C', E2, rfl, rfl, s3⟩
    · refine ⟨-2, C, D, ?_, ?_, h⟩
      · by_cases c1 : 0 ≤ v
        · simp (disch := omega) only [z_lt_t, z_lt_f, z_le_t, z_le_f, z_eq_t, z_eq_f, z_rd_t, z_wr_t, z_wz_t, z_pf_e, z_pz_t, z_nm_e, z_jn_e, z_cl_e, z_rz_t]
        · simp (disch := omega) only [z_lt_t, z_lt_f, z_le_t, z_le_f, z_eq_t, z_eq_f, z_rd_t, z_wr_t, z_wz_t, z_pf_e, z_pz_t, z_nm_e, z_jn_e, z_cl_e, z_rz_t]
      · simp (disch := omega) only [z_lt_t, z_lt_f, z_le_t, z_le_f, z_eq_t, z_eq_f, z_rd_t, z_wr_t, z_wz_t, z_pf_e, z_pz_t, z_nm_e, z_jn_e, z_cl_e, z_rz_t, z_dv_t, z_mt_t, z_il_t, z_mn_t, z_mx_t, z_fm_t, z_lc_t, z_cp_t, Model_in_e]
  · rw [if_neg c]
    simp (disch := omega) only [z_lt_t, z_lt_f, z_le_t, z_le_f, z_eq_t, z_eq_f, z_rd_t, z_wr_t, z_wz_t, z_pf_e, z_pz_t, z_nm_e, z_jn_e, z_cl_e, z_rz_t]
    exact ⟨_, C, D, rfl, rfl, h⟩
theorem Drum_isQuick_e {q S : Int} {M : zMem} (hq : z_Rg q) (hS : 0 ≤ S ∧ S ≤ 12) : Drum_isQuick q S M = some (if q = 0 ∨ (0 < q ∧ q < S ∧ S % q = 0) then 1 else 0, M) := by
  unfold Drum_isQuick
  by_cases c0 : q = 0
  · rw [if_pos (Or.inl c0)]; simp (disch := omega) only [z_lt_t, z_lt_f, z_le_t, z_le_f, z_eq_t, z_eq_f, z_rd_t, z_wr_t, z_wz_t, z_pf_e, z_pz_t, z_nm_e, z_jn_e, z_cl_e, z_rz_t]
  · by_cases c1 : 0 < q
    · by_cases c2 : q < S
      · have e1 := Int.emod_nonneg S (show q ≠ 0 by omega)
        have e2 := Int.emod_lt_of_pos S (show 0 < q by omega)
        by_cases c3 : S % q = 0
        · rw [if_pos (Or.inr ⟨c1, c2, c3⟩)]; simp (disch := omega) only [z_lt_t, z_lt_f, z_le_t, z_le_f, z_eq_t, z_eq_f, z_rd_t, z_wr_t, z_wz_t, z_pf_e, z_pz_t, z_nm_e, z_jn_e, z_cl_e, z_rz_t, z_dv_t, z_mt_t, z_il_t, z_mn_t, z_mx_t, z_fm_t, z_lc_t, z_cp_t]
        · rw [if_neg (by omega)]; simp (disch := omega) only [z_lt_t, z_lt_f, z_le_t, z_le_f, z_eq_t, z_eq_f, z_rd_t, z_wr_t, z_wz_t, z_pf_e, z_pz_t, z_nm_e, z_jn_e, z_cl_e, z_rz_t, z_dv_t, z_mt_t, z_il_t, z_mn_t, z_mx_t, z_fm_t, z_lc_t, z_cp_t]
      · rw [if_neg (by omega)]; simp (disch := omega) only [z_lt_t, z_lt_f, z_le_t, z_le_f, z_eq_t, z_eq_f, z_rd_t, z_wr_t, z_wz_t, z_pf_e, z_pz_t, z_nm_e, z_jn_e, z_cl_e, z_rz_t]
    · rw [if_neg (by omega)]; simp (disch := omega) only [z_lt_t, z_lt_f, z_le_t, z_le_f, z_eq_t, z_eq_f, z_rd_t, z_wr_t, z_wz_t, z_pf_e, z_pz_t, z_nm_e, z_jn_e, z_cl_e, z_rz_t]
theorem Model_isQuick_e {q : Int} {M : zMem} (hq : z_Rg q) (hS : 0 ≤ M 1 1 ∧ M 1 1 ≤ 12) : Model_isQuick q M = some (if q = 0 ∨ (0 < q ∧ q < M 1 1 ∧ M 1 1 % q = 0) then 1 else 0, M) := by
  unfold Model_isQuick
  by_cases c0 : q = 0
  · rw [if_pos (Or.inl c0)]; simp (disch := omega) only [z_lt_t, z_lt_f, z_le_t, z_le_f, z_eq_t, z_eq_f, z_rd_t, z_wr_t, z_wz_t, z_pf_e, z_pz_t, z_nm_e, z_jn_e, z_cl_e, z_rz_t]
  · by_cases c1 : 0 < q ∧ q < M 1 1
    · have e1 := Int.emod_nonneg (M 1 1) (show q ≠ 0 by omega)
      have e2 := Int.emod_lt_of_pos (M 1 1) (show 0 < q by omega)
      by_cases c3 : M 1 1 % q = 0
      · rw [if_pos (Or.inr ⟨c1.1, c1.2, c3⟩)]; simp (disch := omega) only [z_lt_t, z_lt_f, z_le_t, z_le_f, z_eq_t, z_eq_f, z_rd_t, z_wr_t, z_wz_t, z_pf_e, z_pz_t, z_nm_e, z_jn_e, z_cl_e, z_rz_t, z_dv_t, z_mt_t, z_il_t, z_mn_t, z_mx_t, z_fm_t, z_lc_t, z_cp_t, Model_in_e]
      · rw [if_neg (by omega)]; simp (disch := omega) only [z_lt_t, z_lt_f, z_le_t, z_le_f, z_eq_t, z_eq_f, z_rd_t, z_wr_t, z_wz_t, z_pf_e, z_pz_t, z_nm_e, z_jn_e, z_cl_e, z_rz_t, z_dv_t, z_mt_t, z_il_t, z_mn_t, z_mx_t, z_fm_t, z_lc_t, z_cp_t, Model_in_e]
    · rw [if_neg (by omega)]; simp (disch := omega) only [z_lt_t, z_lt_f, z_le_t, z_le_f, z_eq_t, z_eq_f, z_rd_t, z_wr_t, z_wz_t, z_pf_e, z_pz_t, z_nm_e, z_jn_e, z_cl_e, z_rz_t, z_dv_t, z_mt_t, z_il_t, z_mn_t, z_mx_t, z_fm_t, z_lc_t, z_cp_t, Model_in_e]
theorem ok_quicker {N : Nat} {C D : zMem} {v : Int} (h : Rel N C D) (hN : 400 ≤ N) (hv : z_Rg v) : OK N (Drum_quicker N v C) (Model_quicker N v D) := by
  obtain ⟨n1, n2, n3, n4⟩ := Rel_n h
  unfold Drum_quicker Model_quicker
  rw [Rel_hasRun h, z_cl_e, z_eq_b]
  by_cases c : 0 < C 19 8
  · obtain ⟨p1, p2, p3, p4, p5, p6⟩ := Rel_P h c
    obtain ⟨q0, q1, -⟩ := h.2.2.1.1
    rw [if_pos c, Drum_isQuick_e hv (by omega), Model_isQuick_e hv (by omega), z_cl_e, z_cl_e, z_eq_b, z_eq_b, q1]
    by_cases cv : v = 0 ∨ (0 < v ∧ v < C 19 1 ∧ C 19 1 % v = 0)
    · obtain ⟨R, hB⟩ := r_R_B h c
      obtain ⟨C', T, t1, t2, E, t3, t4, t5, t6⟩ := Rel_other (w := C 19 2) (q := v) h c hN hB p3 cv
      obtain ⟨E1, E2, s1, s2, s3⟩ := t6 (z_st E 0 40 v) (fun c j hc => z_st_c hc) (fun j h1 h2 => z_st_n h2) (by rw [z_st_n (by decide)]; exact t4) (z_st_i rfl)
      rw [if_pos cv, if_pos cv]
      simp (disch := omega) only [z_lt_t, z_lt_f, z_le_t, z_le_f, z_eq_t, z_eq_f, z_rd_t, z_wr_t, z_wz_t, z_pf_e, z_pz_t, z_nm_e, z_jn_e, z_cl_e, z_rz_t, t1, t3, s1, s2]
      exact ⟨_, C', E2, rfl, rfl, s3⟩
    · rw [if_neg cv, if_neg cv]
      simp (disch := omega) only [z_lt_t, z_lt_f, z_le_t, z_le_f, z_eq_t, z_eq_f, z_rd_t, z_wr_t, z_wz_t, z_pf_e, z_pz_t, z_nm_e, z_jn_e, z_cl_e, z_rz_t]
      exact ⟨_, C, D, rfl, rfl, h⟩
  · rw [if_neg c]
    simp (disch := omega) only [z_lt_t, z_lt_f, z_le_t, z_le_f, z_eq_t, z_eq_f, z_rd_t, z_wr_t, z_wz_t, z_pf_e, z_pz_t, z_nm_e, z_jn_e, z_cl_e, z_rz_t]
    exact ⟨_, C, D, rfl, rfl, h⟩
