/-! calls that tell times -/
def r_B (N : Nat) (C D : zMem) (R : Nat) : Prop := 1 ≤ R ∧ y_TR C R ∧ y_PV C R ∧ (1 ≤ C 28 1 ∧ C 28 1 ≤ 100) ∧ (∀ k : Int, 0 ≤ k → k < C 28 1 → (0 ≤ C 34 k ∧ C 34 k < R) ∧ (-1 ≤ C 32 k ∧ C 32 k < 20) ∧ (C 32 k ≠ -1 → C 34 k + 1 < R)) ∧
  ∀ E : zMem, (∀ j : Int, 0 ≤ j → j < 149 → j ≠ 7 → E 1 j = D 1 j) → ∃ E' : zMem, Model_runs N E = some (0, E') ∧ r_out C E E' R
theorem r_R_B {N : Nat} {C D : zMem} (h : Rel N C D) (c : 0 < C 19 8) : ∃ R : Nat, r_B N C D R := h.2.2.2.1 c
/-- what a timed run of the reference leaves -/
def r_tout (C E E2 : zMem) (R : Nat) (w q : Int) (a : Int → Int) : Prop := (∀ c j, c ≠ 0 → (c < 11 ∨ 19 < c) → E2 c j = E c j) ∧ (∀ j : Int, j ≠ 27 → j ≠ 28 → j ≠ 33 → j ≠ 34 → j ≠ 35 → E2 0 j = E 0 j) ∧
  y_MR E2 R (C 36) ∧ (∀ k : Nat, k < R → E2 11 k = C 35 k) ∧ E2 0 33 = C 28 1 ∧
  (∀ k : Int, 0 ≤ k → k < C 28 1 → E2 14 k = C 31 k ∧ E2 15 k = C 32 k ∧ E2 16 k = C 34 k ∧ E2 17 k = C 33 k) ∧
  ∀ k : Nat, k < R → E2 13 k = y_fr (C 35) (C 36) (y_ad C q a) w (C 19 4) k + y_lo (C 35) (C 36) (y_ad C q a) w (C 19 4) k
theorem Rel_P {N : Nat} {C D : zMem} (h : Rel N C D) (c : 0 < C 19 8) : y_P C := by
  have p4 := h.2.2.1.2.2.2.1
  exact p4 ((Rel_n h).2.2.2 c)
/-- the reference's timed, over readings that lie in its memory -/
theorem Rel_timed {N R : Nat} {C D E : zMem} {w q : Int} {a : Int → Int} (h : Rel N C D) (c : 0 < C 19 8) (hN : 400 ≤ N) (hB : r_B N C D R) (hE : ∀ j : Int, 0 ≤ j → j < 149 → j ≠ 7 → E 1 j = D 1 j) (hM : y_MR E R (C 36)) (h11 : ∀ k : Nat, k < R → E 11 k = C 35 k) (hw : E 0 39 = w ∧ 0 ≤ w ∧ w ≤ 9) (hq : E 0 40 = q ∧ (q = 0 ∨ (0 < q ∧ q < C 19 1 ∧ C 19 1 % q = 0)))
    (ha : ∀ i : Int, 0 ≤ i → i < C 19 6 → E 20 i = a i ∧ 0 ≤ a i ∧ a i < C 19 0 * C 19 1) :
    ∃ E2 : zMem, Model_timed N E = some (y_tm (C 35) (C 36) (y_ad C q a) w (C 19 4) R, E2) ∧ (∀ c j, c ≠ 13 → E2 c j = E c j) ∧ ∀ k : Nat, k < R → E2 13 k = y_fr (C 35) (C 36) (y_ad C q a) w (C 19 4) k + y_lo (C 35) (C 36) (y_ad C q a) w (C 19 4) k := by
  obtain ⟨p1, p2, p3, p4, p5, p6⟩ := Rel_P h c
  obtain ⟨q0, q1, q2, q3, q4, q5, q6⟩ := h.2.2.1.1
  obtain ⟨-, ⟨r1, r2, r3⟩, -⟩ := hB
  have e0 : E 1 0 = C 19 0 := by rw [hE 0 (by omega) (by omega) (by omega)]; exact q0
  have e1 : E 1 1 = C 19 1 := by rw [hE 1 (by omega) (by omega) (by omega)]; exact q1
  have e4 : E 1 4 = C 19 4 := by rw [hE 4 (by omega) (by omega) (by omega)]; exact q4
  have hMP : y_MP E := by unfold y_MP; rw [e0, e1, e4]; exact ⟨p1, p2, p5⟩
  have hMQ : y_MQ E := by unfold y_MQ; rw [hw.1, hq.1, e1]; exact ⟨hw.2, hq.2⟩
  obtain ⟨E2, t1, t2, t3⟩ := Model_timed_e hN hMP hMQ hM (fun j hj => by
    rw [h11 j hj, e0, e1]
    have := (r3 j hj).1
    have g := ha _ this.1 this.2
    rw [g.1]; exact g.2)
  have hc : ∀ k : Nat, k < R → E 11 k = C 35 k ∧ C 36 k = C 36 k ∧ ∀ t, y_mad E (E 0 40) (E 20) t (E 11 k) = y_ad C q a t (E 11 k) := by
    intro k hk
    refine ⟨h11 k hk, rfl, fun t => ?_⟩
    have g := (r3 k hk).1
    have g2 := ha _ g.1 g.2
    show (E 20 (E 11 k) - t) % y_turn (E 1 1) (E 1 0) (E 0 40) (E 20 (E 11 k)) = (a (E 11 k) - t) % y_turn (C 19 1) (C 19 0) q (a (E 11 k))
    rw [h11 k hk, g2.1, e0, e1, hq.1]
  rw [hw.1, e4] at t1 t3
  refine ⟨E2, ?_, t2, fun k hk => ?_⟩
  · rw [t1, y_tm_congr hc]
  · rw [t3 k hk, y_fr_congr hc k (by omega), y_lo_congr hc hk]
theorem Rel_run {N R : Nat} {C D E : zMem} {w q : Int} {a : Int → Int} (h : Rel N C D) (c : 0 < C 19 8) (hN : 400 ≤ N) (hB : r_B N C D R) (hE : ∀ j : Int, 0 ≤ j → j < 149 → j ≠ 7 → E 1 j = D 1 j) (hw : E 0 39 = w ∧ 0 ≤ w ∧ w ≤ 9) (hq : E 0 40 = q ∧ (q = 0 ∨ (0 < q ∧ q < C 19 1 ∧ C 19 1 % q = 0)))
    (ha : ∀ i : Int, 0 ≤ i → i < C 19 6 → E 20 i = a i ∧ 0 ≤ a i ∧ a i < C 19 0 * C 19 1) :
    ∃ E1 E2 : zMem, Model_runs N E = some (0, E1) ∧ Model_timed N E1 = some (y_tm (C 35) (C 36) (y_ad C q a) w (C 19 4) R, E2) ∧ r_tout C E E2 R w q a := by
  obtain ⟨-, -, -, -, -, hr⟩ := id hB
  obtain ⟨E1, s1, o1, o2, o3, o4, o5, o6, o7, o8, o9⟩ := hr E hE
  have k1 : ∀ j, E1 1 j = E 1 j := fun j => o1 1 j (by decide) (by decide) (by decide) (by decide) (by decide) (by decide) (by decide) (by decide) (by decide)
  have k20 : ∀ j, E1 20 j = E 20 j := fun j => o1 20 j (by decide) (by decide) (by decide) (by decide) (by decide) (by decide) (by decide) (by decide) (by decide)
  obtain ⟨E2, t1, t2, t3⟩ := Rel_timed (E := E1) (w := w) (q := q) (a := a) h c hN hB (fun j b1 b2 b3 => by rw [k1]; exact hE j b1 b2 b3) o3 o4 (by rw [o2 39 (by omega) (by omega) (by omega) (by omega) (by omega)]; exact hw) (by rw [o2 40 (by omega) (by omega) (by omega) (by omega) (by omega)]; exact hq) (fun i b1 b2 => by rw [k20]; exact ha i b1 b2)
  refine ⟨E1, E2, s1, t1, fun c j b1 b2 => ?_, fun j b1 b2 b3 b4 b5 => ?_, ?_, fun k hk => ?_, ?_, fun k b1 b2 => ?_, t3⟩
  · rw [t2 c j (by omega)]; exact o1 c j b1 (by omega) (by omega) (by omega) (by omega) (by omega) (by omega) (by omega) (by omega)
  · rw [t2 0 j (by decide)]; exact o2 j b1 b2 b3 b4 b5
  · obtain ⟨m1, m2, m3, m4, m5⟩ := o3
    refine ⟨by rw [t2 _ _ (by decide)]; exact m1, m2, m3, by rw [t2 _ _ (by decide)]; exact m4, fun k hk => ?_⟩
    rw [t2 11 _ (by decide), t2 12 _ (by decide)]
    exact m5 k hk
  · rw [t2 11 _ (by decide)]; exact o4 k hk
  · rw [t2 0 _ (by decide)]; exact o5
  · rw [t2 14 _ (by decide), t2 15 _ (by decide), t2 16 _ (by decide), t2 17 _ (by decide)]; exact o8 k b1 b2
theorem Model_takes_e {N : Nat} {D : zMem} (hN : 400 ≤ N) : ∃ E : zMem, Model_takes N D = some (0, E) ∧ (∀ c j, c ≠ 0 → c ≠ 20 → E c j = D c j) ∧ (∀ j : Int, j ≠ 39 → j ≠ 40 → E 0 j = D 0 j) ∧ E 0 39 = D 1 2 ∧ E 0 40 = D 1 3 ∧ ∀ i : Int, 0 ≤ i → i < 20 → E 20 i = D 1 (149 + i) := by
  have key : ∀ (n i : Nat) (M : zMem), i ≤ 20 → 20 - i < n → (∀ c j, c ≠ 20 → M c j = D c j) → (∀ j : Int, 0 ≤ j → j < i → M 20 j = D 1 (149 + j)) → ∀ k : zMem → zO, ∃ M' : zMem, Model_takes_2 N k n i M = k M' ∧ (∀ c j, c ≠ 20 → M' c j = D c j) ∧ ∀ j : Int, 0 ≤ j → j < 20 → M' 20 j = D 1 (149 + j) := by
    intro n
    induction n with
    | zero => intro i M _ h; omega
    | succ n ih =>
      intro i M hi hn hM hA k
      rw [Model_takes_2]
      by_cases h : i < 20
      · have ec : (i : Int) + 1 = ((i + 1 : Nat) : Int) := by omega
        simp (disch := omega) only [z_lt_t, z_lt_f, z_le_t, z_le_f, z_eq_t, z_eq_f, z_rd_t, z_wr_t, z_wz_t, z_pf_e, z_pz_t, z_nm_e, z_jn_e, z_cl_e, z_rz_t]
        rw [ec]
        refine ih (i + 1) _ (by omega) (by omega) (fun c j hc => by rw [z_st_c hc]; exact hM c j hc) (fun j h1 h2 => ?_) k
        by_cases hj : j = i
        · rw [z_st_i hj, hM 1 _ (by decide), hj]
        · rw [z_st_n hj]; exact hA j h1 (by omega)
      · simp (disch := omega) only [z_lt_t, z_lt_f, z_le_t, z_le_f, z_eq_t, z_eq_f, z_rd_t, z_wr_t, z_wz_t, z_pf_e, z_pz_t, z_nm_e, z_jn_e, z_cl_e, z_rz_t]
        exact ⟨M, rfl, hM, fun j h1 h2 => hA j h1 (by omega)⟩
  obtain ⟨M', m1, m2, m3⟩ := key N 0 D (by omega) (by omega) (fun _ _ _ => rfl) (fun j h1 h2 => by omega) (fun (M1 : zMem) => z_rd M1 1 169 2 (fun x0 => z_pf M1 0 39 x0 (fun M2 => z_rd M2 1 169 3 (fun x1 => z_pf M2 0 40 x1 (fun M3 => some (0, M3))))))
  refine ⟨z_st (z_st M' 0 39 (M' 1 2)) 0 40 (M' 1 3), ?_, fun c j h1 h2 => ?_, fun j h1 h2 => ?_, ?_, ?_, fun i h1 h2 => ?_⟩
  · unfold Model_takes
    rw [z_jn_e]
    refine m1.trans ?_
    simp (disch := omega) only [z_lt_t, z_lt_f, z_le_t, z_le_f, z_eq_t, z_eq_f, z_rd_t, z_wr_t, z_wz_t, z_pf_e, z_pz_t, z_nm_e, z_jn_e, z_cl_e, z_rz_t, z_st_c, z_st_i, z_st_n]
  · rw [z_st_c h1, z_st_c h1]; exact m2 c j h2
  · rw [z_st_n h2, z_st_n h1]; exact m2 0 j (by decide)
  · rw [z_st_n (by decide), z_st_i rfl]; exact m2 1 _ (by decide)
  · rw [z_st_i rfl]; exact m2 1 _ (by decide)
  · rw [z_st_c (by decide), z_st_c (by decide)]; exact m3 i h1 h2
/-- timeNow on both sides -/
theorem Rel_timeNow {N R : Nat} {C D : zMem} (h : Rel N C D) (c : 0 < C 19 8) (hN : 400 ≤ N) (hB : r_B N C D R) :
    ∃ C' D' : zMem, Drum_timeNow N C = some (y_tm (C 35) (C 36) (y_ad C (C 19 3) (C 57)) (C 19 2) (C 19 4) R, C') ∧ Model_timeNow N D = some (y_tm (C 35) (C 36) (y_ad C (C 19 3) (C 57)) (C 19 2) (C 19 4) R, D') ∧ Rel N C' D' ∧
      (∀ c j, c ≠ 42 → c ≠ 43 → c ≠ 44 → c ≠ 45 → C' c j = C c j) ∧ (∀ k : Nat, k < R → C' 44 k = y_fr (C 35) (C 36) (y_ad C (C 19 3) (C 57)) (C 19 2) (C 19 4) k + y_lo (C 35) (C 36) (y_ad C (C 19 3) (C 57)) (C 19 2) (C 19 4) k ∧ C' 45 k = y_lo (C 35) (C 36) (y_ad C (C 19 3) (C 57)) (C 19 2) (C 19 4) k) ∧
      (∀ c j, c ≠ 0 → c ≠ 20 → (c < 11 ∨ 19 < c) → D' c j = D c j) ∧ D' 0 39 = C 19 2 ∧ D' 0 40 = C 19 3 ∧ (∀ i : Int, 0 ≤ i → i < C 19 6 → D' 20 i = C 57 i) ∧ y_MR D' R (C 36) ∧ (∀ k : Nat, k < R → D' 11 k = C 35 k) ∧ D' 0 33 = C 28 1 ∧
      (∀ k : Int, 0 ≤ k → k < C 28 1 → D' 14 k = C 31 k ∧ D' 15 k = C 32 k ∧ D' 16 k = C 34 k ∧ D' 17 k = C 33 k) ∧
      ∀ k : Nat, k < R → D' 13 k = y_fr (C 35) (C 36) (y_ad C (C 19 3) (C 57)) (C 19 2) (C 19 4) k + y_lo (C 35) (C 36) (y_ad C (C 19 3) (C 57)) (C 19 2) (C 19 4) k := by
  have hP := Rel_P h c
  obtain ⟨p1, p2, p3, p4, p5, p6⟩ := id hP
  obtain ⟨q0, q1, q2, q3, q4, q5, q6⟩ := h.2.2.1.1
  obtain ⟨n1, n2, n3, n4⟩ := Rel_n h
  have hL := h.2.2.2.2.1
  obtain ⟨b1, b2, b3, b4, b5, b6⟩ := id hB
  obtain ⟨C', c1, c2, c3⟩ := Clock_measure_e (N := N) (ca := 57) (w := C 19 2) (q := C 19 3) hP hN b2 p3 (by omega) (by decide) (fun i g1 g2 => by have := hL i g1 g2; omega)
  obtain ⟨E, t1, t2, t3, t4, t5, t6⟩ := Model_takes_e (D := D) hN
  obtain ⟨E1, E2, s1, s2, s3⟩ := Rel_run (E := E) (w := C 19 2) (q := C 19 3) (a := C 57) h c hN hB (fun j g1 g2 g3 => t2 1 j (by decide) (by decide)) (by rw [t4, q2]; exact ⟨rfl, p3⟩) (by rw [t5, q3]; exact ⟨rfl, p4⟩) (fun i g1 g2 => by
    rw [t6 i g1 (by omega)]; exact hL i g1 g2)
  obtain ⟨u1, u2, u3, u4, u5, u6, u7⟩ := s3
  have hD' : ∀ c j, c ≠ 0 → c ≠ 20 → (c < 11 ∨ 19 < c) → E2 c j = D c j := fun c j g1 g2 g3 => by rw [u1 c j g1 g3]; exact t2 c j g1 g2
  refine ⟨C', E2, ?_, ?_, ?_, c2, c3, hD', ?_, ?_, fun i g1 g2 => ?_, u3, u4, u5, u6, u7⟩
  · unfold Drum_timeNow
    rw [c1, z_cl_e]
  · unfold Model_timeNow
    rw [t1, z_cl_e, s1, z_cl_e, s2, z_cl_e]
  · refine Rel_same h (fun c j hr => ?_) (fun c j hr => ?_)
    · unfold relC at hr; simp at hr
      exact c2 c j (by omega) (by omega) (by omega) (by omega)
    · unfold relD at hr; simp at hr
      by_cases hc : c = 0
      · subst hc
        rw [u2 j (by omega) (by omega) (by omega) (by omega) (by omega)]
        exact t3 j (by omega) (by omega)
      · exact hD' c j hc (by omega) (by omega)
  · rw [u2 39 (by omega) (by omega) (by omega) (by omega) (by omega), t4, q2]
  · rw [u2 40 (by omega) (by omega) (by omega) (by omega) (by omega), t5, q3]
  · rw [u1 20 i (by decide) (by omega), t6 i g1 (by omega)]
    exact (hL i g1 g2).1
/-- TIME is a number that fits -/
theorem Rel_tm_b {N R : Nat} {C D : zMem} {w q : Int} {a : Int → Int} (h : Rel N C D) (c : 0 < C 19 8) (hB : r_B N C D R) (hw : 0 ≤ w ∧ w ≤ 9) (hq : 0 ≤ q ∧ q ≤ 12) : 0 ≤ y_tm (C 35) (C 36) (y_ad C q a) w (C 19 4) R ∧ y_tm (C 35) (C 36) (y_ad C q a) w (C 19 4) R ≤ 9000 ∧ (∀ k : Nat, k < R → 0 ≤ y_lo (C 35) (C 36) (y_ad C q a) w (C 19 4) k ∧ y_lo (C 35) (C 36) (y_ad C q a) w (C 19 4) k < 12) ∧ ∀ k : Nat, k ≤ R → 0 ≤ y_fr (C 35) (C 36) (y_ad C q a) w (C 19 4) k ∧ y_fr (C 35) (C 36) (y_ad C q a) w (C 19 4) k ≤ 40 * k := by
  obtain ⟨p1, p2, p3, p4, p5, p6⟩ := Rel_P h c
  obtain ⟨b1, ⟨r1, r2, r3⟩, -⟩ := hB
  have hl : ∀ k : Nat, k < R → ∀ t, 0 ≤ y_ad C q a t (C 35 k) ∧ y_ad C q a t (C 35 k) < 12 := by
    intro k hk t
    have hb := y_turn_b (T := C 19 0) (a := a (C 35 k)) p2 hq
    have e1 := Int.emod_nonneg (a (C 35 k) - t) (show y_turn (C 19 1) (C 19 0) q (a (C 35 k)) ≠ 0 by omega)
    have e2 := Int.emod_lt_of_pos (a (C 35 k) - t) (show 0 < y_turn (C 19 1) (C 19 0) q (a (C 35 k)) by omega)
    exact ⟨e1, by show (a (C 35 k) - t) % y_turn (C 19 1) (C 19 0) q (a (C 35 k)) < 12; omega⟩
  have hf := y_fr_b (kd := C 36) hw p5 hl
  have hlo : ∀ k : Nat, k < R → 0 ≤ y_lo (C 35) (C 36) (y_ad C q a) w (C 19 4) k ∧ y_lo (C 35) (C 36) (y_ad C q a) w (C 19 4) k < 12 := fun k hk => hl k hk _
  refine ⟨?_, ?_, hlo, hf⟩
  all_goals
    unfold y_tm y_en
    rw [if_neg (by omega)]
    have g1 := hf (R - 1) (by omega)
    have g2 := hlo (R - 1) (by omega)
    split <;> omega
theorem ok_time {N : Nat} {C D : zMem} (h : Rel N C D) (hN : 400 ≤ N) : OK N (Drum_time N C) (Model_time N D) := by
  obtain ⟨n1, n2, n3, n4⟩ := Rel_n h
  unfold Drum_time Model_time
  rw [Rel_hasRun h, z_cl_e, z_eq_b]
  by_cases c : 0 < C 19 8
  · obtain ⟨R, hB⟩ := r_R_B h c
    obtain ⟨C', D', t1, t2, t3, -⟩ := Rel_timeNow h c hN hB
    rw [if_pos c, t1, t2]
    simp (disch := omega) only [z_lt_t, z_lt_f, z_le_t, z_le_f, z_eq_t, z_eq_f, z_rd_t, z_wr_t, z_wz_t, z_pf_e, z_pz_t, z_nm_e, z_jn_e, z_cl_e, z_rz_t]
    exact ⟨_, C', D', rfl, rfl, t3⟩
  · rw [if_neg c]
    simp (disch := omega) only [z_lt_t, z_lt_f, z_le_t, z_le_f, z_eq_t, z_eq_f, z_rd_t, z_wr_t, z_wz_t, z_pf_e, z_pz_t, z_nm_e, z_jn_e, z_cl_e, z_rz_t]
    exact ⟨_, C, D, rfl, rfl, h⟩
theorem ok_rounds {N : Nat} {C D : zMem} (h : Rel N C D) (hN : 400 ≤ N) : OK N (Drum_rounds N C) (Model_rounds N D) := by
  obtain ⟨n1, n2, n3, n4⟩ := Rel_n h
  unfold Drum_rounds Model_rounds
  rw [Rel_hasRun h, z_cl_e, z_eq_b, z_jn_e]
  by_cases c : 0 < C 19 8
  · obtain ⟨R, hB⟩ := r_R_B h c
    obtain ⟨p1, p2, p3, p4, p5, p6⟩ := Rel_P h c
    obtain ⟨q0, q1, -⟩ := h.2.2.1.1
    obtain ⟨C', D', t1, t2, t3, t4, t5, t6, -⟩ := Rel_timeNow h c hN hB
    have hb := Rel_tm_b (w := C 19 2) (q := C 19 3) (a := C 57) h c hB p3 (by omega)
    have e1 : C' 19 1 = C 19 1 := t4 _ _ (by decide) (by decide) (by decide) (by decide)
    have e2 : D' 1 1 = C 19 1 := by rw [t6 1 1 (by decide) (by decide) (by omega)]; exact q1
    rw [if_pos c, t1, t2]
    simp (disch := omega) only [z_lt_t, z_lt_f, z_le_t, z_le_f, z_eq_t, z_eq_f, z_rd_t, z_wr_t, z_wz_t, z_pf_e, z_pz_t, z_nm_e, z_jn_e, z_cl_e, z_rz_t, z_dv_t, z_mt_t, z_il_t, z_mn_t, z_mx_t, z_fm_t, z_lc_t, z_cp_t, e1, e2]
    exact ⟨_, C', D', rfl, rfl, t3⟩
  · rw [if_neg c]
    simp (disch := omega) only [z_lt_t, z_lt_f, z_le_t, z_le_f, z_eq_t, z_eq_f, z_rd_t, z_wr_t, z_wz_t, z_pf_e, z_pz_t, z_nm_e, z_jn_e, z_cl_e, z_rz_t]
    exact ⟨_, C, D, rfl, rfl, h⟩
theorem Clock_whenOf_e {v : Int} {M : zMem} {R : Nat} (h : M 28 10 = R) (hR : R ≤ 200) (hv : 0 ≤ v ∧ v < R) : Clock_whenOf v M = some (M 44 v, M) := by
  unfold Clock_whenOf
  simp (disch := omega) only [z_lt_t, z_lt_f, z_le_t, z_le_f, z_eq_t, z_eq_f, z_rd_t, z_wr_t, z_wz_t, z_pf_e, z_pz_t, z_nm_e, z_jn_e, z_cl_e, z_rz_t]
set_option maxHeartbeats 1000000 in
theorem ok_done {N : Nat} {C D : zMem} {v w : Int} (h : Rel N C D) (hN : 400 ≤ N) (hv : z_Rg v) (hw : z_Rg w) : OK N (Drum_done N v w C) (Model_done N v w D) := by
  obtain ⟨n1, n2, n3, n4⟩ := Rel_n h
  unfold Drum_done Model_done Drum_whenRead
  rw [Rel_hasRun h, z_cl_e, z_jn_e, z_jn_e, z_eq_b]
  by_cases c : 0 < C 19 8
  · obtain ⟨R, hB⟩ := r_R_B h c
    obtain ⟨b1, ⟨b21, b22, b23⟩, b3, b4, b5, b6⟩ := id hB
    obtain ⟨C', D', t1, t2, t3, t4, t5, t6, t7, t8, t9, t10, t11, t12, t13, t14⟩ := Rel_timeNow h c hN hB
    rw [if_pos c, t1]
    by_cases cv : 0 ≤ v
    · by_cases cw : 0 ≤ w ∧ w ≤ 4
      · by_cases ck : C 28 1 ≤ v
        · have e33 : D' 0 33 = C 28 1 := t12
          simp (disch := omega) only [z_lt_t, z_lt_f, z_le_t, z_le_f, z_eq_t, z_eq_f, z_rd_t, z_wr_t, z_wz_t, z_pf_e, z_pz_t, z_nm_e, z_jn_e, z_cl_e, z_rz_t, z_dv_t, z_mt_t, z_il_t, z_mn_t, z_mx_t, z_fm_t, z_lc_t, z_cp_t, Model_in_e, z_eq_b]
          simp (disch := omega) only [z_lt_t, z_lt_f, z_le_t, z_le_f, z_eq_t, z_eq_f, z_rd_t, z_wr_t, z_wz_t, z_pf_e, z_pz_t, z_nm_e, z_jn_e, z_cl_e, z_rz_t, t2, e33]
          exact ⟨_, C, D', rfl, rfl, Rel_same t3 (fun c j hr => by
            unfold relC at hr; simp at hr
            exact (t4 c j (by omega) (by omega) (by omega) (by omega)).symm) (fun _ _ _ => rfl)⟩
        · obtain ⟨k1, k2, k3⟩ := b5 v cv (by omega)
          obtain ⟨d14, d15, d16, d17⟩ := t13 v cv (by omega)
          have e33 : D' 0 33 = C 28 1 := t12
          have hC : Rel N C D' := Rel_same t3 (fun c j hr => by
            unfold relC at hr; simp at hr
            exact (t4 c j (by omega) (by omega) (by omega) (by omega)).symm) (fun _ _ _ => rfl)
          have e28 : C' 28 10 = R := by rw [t4 28 10 (by decide) (by decide) (by decide) (by decide)]; exact b21
          simp (disch := omega) only [z_lt_t, z_lt_f, z_le_t, z_le_f, z_eq_t, z_eq_f, z_rd_t, z_wr_t, z_wz_t, z_pf_e, z_pz_t, z_nm_e, z_jn_e, z_cl_e, z_rz_t, z_dv_t, z_mt_t, z_il_t, z_mn_t, z_mx_t, z_fm_t, z_lc_t, z_cp_t, Model_in_e, z_eq_b]
          by_cases w0 : w = 0
          · simp (disch := omega) only [z_lt_t, z_lt_f, z_le_t, z_le_f, z_eq_t, z_eq_f, z_rd_t, z_wr_t, z_wz_t, z_pf_e, z_pz_t, z_nm_e, z_jn_e, z_cl_e, z_rz_t, t2, e33, d14]
            exact ⟨_, C, D', rfl, rfl, hC⟩
          by_cases w1 : w = 1
          · simp (disch := omega) only [z_lt_t, z_lt_f, z_le_t, z_le_f, z_eq_t, z_eq_f, z_rd_t, z_wr_t, z_wz_t, z_pf_e, z_pz_t, z_nm_e, z_jn_e, z_cl_e, z_rz_t, t2, e33, d15]
            exact ⟨_, C, D', rfl, rfl, hC⟩
          by_cases w2 : w = 2
          · have g1 := t5 (C 34 v).toNat (by omega)
            have g2 := t14 (C 34 v).toNat (by omega)
            rw [show (((C 34 v).toNat : Nat) : Int) = C 34 v by omega] at g1 g2
            rw [Clock_whenOf_e e28 b22 k1]
            simp (disch := omega) only [z_lt_t, z_lt_f, z_le_t, z_le_f, z_eq_t, z_eq_f, z_rd_t, z_wr_t, z_wz_t, z_pf_e, z_pz_t, z_nm_e, z_jn_e, z_cl_e, z_rz_t, t2, e33, d16, g1.1, g2]
            exact ⟨_, C', D', rfl, rfl, t3⟩
          by_cases w3 : w = 3
          · by_cases o : C 32 v = -1
            · simp (disch := omega) only [z_lt_t, z_lt_f, z_le_t, z_le_f, z_eq_t, z_eq_f, z_rd_t, z_wr_t, z_wz_t, z_pf_e, z_pz_t, z_nm_e, z_jn_e, z_cl_e, z_rz_t, t2, e33, d15]
              exact ⟨_, C, D', rfl, rfl, hC⟩
            · have k4 := k3 o
              have g1 := t5 (C 34 v + 1).toNat (by omega)
              have g2 := t14 (C 34 v + 1).toNat (by omega)
              rw [show (((C 34 v + 1).toNat : Nat) : Int) = C 34 v + 1 by omega] at g1 g2
              rw [Clock_whenOf_e e28 b22 (v := C 34 v + 1) (by omega)]
              simp (disch := omega) only [z_lt_t, z_lt_f, z_le_t, z_le_f, z_eq_t, z_eq_f, z_rd_t, z_wr_t, z_wz_t, z_pf_e, z_pz_t, z_nm_e, z_jn_e, z_cl_e, z_rz_t, t2, e33, d15, d16, g1.1, g2]
              exact ⟨_, C', D', rfl, rfl, t3⟩
          simp (disch := omega) only [z_lt_t, z_lt_f, z_le_t, z_le_f, z_eq_t, z_eq_f, z_rd_t, z_wr_t, z_wz_t, z_pf_e, z_pz_t, z_nm_e, z_jn_e, z_cl_e, z_rz_t, t2, e33, d17]
          exact ⟨_, C, D', rfl, rfl, hC⟩
      · refine ⟨-20002, C, D, ?_, ?_, h⟩
        · by_cases c1 : 0 ≤ w
          · simp (disch := omega) only [z_lt_t, z_lt_f, z_le_t, z_le_f, z_eq_t, z_eq_f, z_rd_t, z_wr_t, z_wz_t, z_pf_e, z_pz_t, z_nm_e, z_jn_e, z_cl_e, z_rz_t]
          · simp (disch := omega) only [z_lt_t, z_lt_f, z_le_t, z_le_f, z_eq_t, z_eq_f, z_rd_t, z_wr_t, z_wz_t, z_pf_e, z_pz_t, z_nm_e, z_jn_e, z_cl_e, z_rz_t]
        · simp (disch := omega) only [z_lt_t, z_lt_f, z_le_t, z_le_f, z_eq_t, z_eq_f, z_rd_t, z_wr_t, z_wz_t, z_pf_e, z_pz_t, z_nm_e, z_jn_e, z_cl_e, z_rz_t, z_dv_t, z_mt_t, z_il_t, z_mn_t, z_mx_t, z_fm_t, z_lc_t, z_cp_t, Model_in_e, z_eq_b]
    · refine ⟨-20002, C, D, ?_, ?_, h⟩
      · simp (disch := omega) only [z_lt_t, z_lt_f, z_le_t, z_le_f, z_eq_t, z_eq_f, z_rd_t, z_wr_t, z_wz_t, z_pf_e, z_pz_t, z_nm_e, z_jn_e, z_cl_e, z_rz_t]
      · simp (disch := omega) only [z_lt_t, z_lt_f, z_le_t, z_le_f, z_eq_t, z_eq_f, z_rd_t, z_wr_t, z_wz_t, z_pf_e, z_pz_t, z_nm_e, z_jn_e, z_cl_e, z_rz_t]
  · rw [if_neg c]
    refine ⟨-20002, C, D, ?_, rfl, h⟩
    simp (disch := omega) only [z_lt_t, z_lt_f, z_le_t, z_le_f, z_eq_t, z_eq_f, z_rd_t, z_wr_t, z_wz_t, z_pf_e, z_pz_t, z_nm_e, z_jn_e, z_cl_e, z_rz_t]
