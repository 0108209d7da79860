/-! the run: values, accumulator, operands -/
def p_S (C : zMem) (G : Int → Int) (i : Int) : Prop := G (9 + i) = 1 ∧ G (49 + i) = C 20 i ∧ (C 20 i ≠ 7 → G (69 + i) = C 23 i ∧ (0 ≤ C 23 i ∧ C 23 i < C 19 6) ∧ G (109 + i) = C 25 i ∧ (0 ≤ C 25 i ∧ C 25 i < C 19 6) ∧ C 20 (C 25 i) ≠ -1 ∧ (C 20 i ≤ 4 → C 20 (C 23 i) = -1) ∧ (C 20 i = 5 → C 20 (C 23 i) ≠ -1) ∧ (C 20 i = 6 → (0 ≤ C 20 (C 23 i) ∧ C 20 (C 23 i) ≤ 4) ∧ G (89 + i) = C 24 i ∧ 1 ≤ C 24 i ∧ C 24 i ≤ 7))
def p_W (C : zMem) (G : Int → Int) (i : Int) : Prop := G (9 + i) = 0 ∧ G (29 + i) = C 22 i ∧ -10000 ≤ C 22 i ∧ C 22 i ≤ 9999
/-- the plan, as the run needs it -/
def p_R (C : zMem) (G : Int → Int) : Prop := (1 ≤ C 19 6 ∧ C 19 6 ≤ 20) ∧ G 5 = C 19 6 ∧ (∀ i : Int, 0 ≤ i → i < C 19 6 → (-1 ≤ C 20 i ∧ C 20 i ≤ 7) ∧ (C 20 i = -1 → p_W C G i) ∧ (C 20 i ≠ -1 → p_S C G i)) ∧ (G 8 = C 19 9 ∧ (0 ≤ C 19 9 ∧ C 19 9 < C 19 6) ∧ C 20 (C 19 9) ≠ -1) ∧ p_T C
def u_V (C M E : zMem) : Prop := (E 0 34 = M 28 3 ∧ -10000 ≤ M 28 3 ∧ M 28 3 ≤ 9999) ∧ (∀ i : Int, 0 ≤ i → i < C 19 6 → C 20 i = -1 → E 18 i = M 29 i ∧ -10000 ≤ M 29 i ∧ M 29 i ≤ 9999) ∧ ∀ i : Int, 0 ≤ i → i < C 19 6 → C 20 i ≠ -1 → C 20 i ≠ 7 → E 19 i = M 30 i ∧ (0 ≤ M 30 i ∧ M 30 i < C 19 6) ∧ (C 20 i ≤ 4 → C 20 (M 30 i) = -1) ∧ (5 ≤ C 20 i → M 30 i = C 23 i)
theorem u_within {v : Int} {M : zMem} (hv : -200000000 ≤ v ∧ v ≤ 200000000) : Trace_within v M = some ((v + 10000) % 20000 - 10000, M) ∧ Model_rounded v M = some ((v + 10000) % 20000 - 10000, M) ∧ -10000 ≤ (v + 10000) % 20000 - 10000 ∧ (v + 10000) % 20000 - 10000 ≤ 9999 := by
  have e1 := Int.emod_nonneg (v + 10000) (show (20000 : Int) ≠ 0 by decide)
  have e2 := Int.emod_lt_of_pos (v + 10000) (show (0 : Int) < 20000 by decide)
  refine ⟨?_, ?_, by omega, by omega⟩
  · unfold Trace_within
    rw [z_fm_t (by omega), show v - -10000 = v + 10000 by omega]
    rfl
  · unfold Model_rounded
    rw [z_fm_t (by omega)]
theorem u_mul {a b : Int} (ha : -10000 ≤ a ∧ a ≤ 9999) (hb : -10000 ≤ b ∧ b ≤ 9999) : -200000000 ≤ a * b ∧ a * b ≤ 200000000 := by
  have h1 : a * b ≤ (a.natAbs * b.natAbs : Nat) := by
    have := Int.le_natAbs (a := a * b)
    rw [Int.natAbs_mul] at this; exact this
  have h2 : -(a * b) ≤ (a.natAbs * b.natAbs : Nat) := by
    have := Int.le_natAbs (a := -(a * b))
    rw [Int.natAbs_neg, Int.natAbs_mul] at this; exact this
  have h3 : a.natAbs * b.natAbs ≤ 10000 * 10000 := Nat.mul_le_mul (by omega) (by omega)
  omega
theorem u_V_acc {C M E : zMem} {a : Int} (h : u_V C M E) (ha : -10000 ≤ a ∧ a ≤ 9999) : u_V C (z_st M 28 3 a) (z_st E 0 34 a) := by
  refine ⟨⟨by rw [z_st_i rfl, z_st_i rfl], by rw [z_st_i rfl]; exact ha⟩, fun i g1 g2 g3 => ?_, fun i g1 g2 g3 g4 => ?_⟩
  · rw [z_st_c (by decide), z_st_c (by decide)]; exact h.2.1 i g1 g2 g3
  · rw [z_st_c (by decide), z_st_c (by decide)]; exact h.2.2 i g1 g2 g3 g4
theorem carry_e {C M E : zMem} {N : Nat} {st : Int} (hN : 400 ≤ N) (hR : p_R C (E 1)) (hM : ∀ c j, (c < 28 ∨ 36 < c) → M c j = C c j) (h : u_V C M E) (hst : 0 ≤ st ∧ st < C 19 6) (ho : C 20 st ≠ -1) (ho2 : C 20 st ≤ 4 ∨ C 20 st = 6) :
    ∃ M' E' : zMem, Trace_carryOut st (C 20 st) (M 30 st) M = some (0, M') ∧ Model_goes N st (C 20 st) E = some (0, E') ∧ u_V C M' E' ∧ (∀ c j, c ≠ 28 → c ≠ 29 → c ≠ 30 → M' c j = M c j) ∧ (∀ j : Int, j ≠ 3 → M' 28 j = M 28 j) ∧ (∀ c j, c ≠ 0 → c ≠ 18 → c ≠ 19 → E' c j = E c j) ∧ ∀ j : Int, j ≠ 34 → E' 0 j = E 0 j := by
  obtain ⟨r1, r2, r3, r4, r5⟩ := id hR
  obtain ⟨⟨v1, v1b⟩, v2, v3⟩ := id h
  obtain ⟨k1, k2, k3⟩ := r3 st hst.1 hst.2
  obtain ⟨s1, s2, s3⟩ := k3 ho
  obtain ⟨t1, t2, t3, t4, t5, t6, t7, t8⟩ := s3 (by omega)
  obtain ⟨o1, o2, o3, o4⟩ := v3 st hst.1 hst.2 ho (by omega)
  unfold Trace_carryOut Model_goes
  rw [z_rd_t (c := 19) (by omega), o1]
  by_cases c4 : C 20 st ≤ 4
  · have hw := o3 c4
    obtain ⟨w1, w2⟩ := v2 (M 30 st) o2.1 o2.2 hw
    have fin : ∀ a : Int, -10000 ≤ a ∧ a ≤ 9999 → u_V C (z_st M 28 3 a) (z_st E 0 34 a) ∧ (∀ c j, c ≠ 28 → c ≠ 29 → c ≠ 30 → z_st M 28 3 a c j = M c j) ∧ (∀ j : Int, j ≠ 3 → z_st M 28 3 a 28 j = M 28 j) ∧ (∀ c j, c ≠ 0 → c ≠ 18 → c ≠ 19 → z_st E 0 34 a c j = E c j) ∧ ∀ j : Int, j ≠ 34 → z_st E 0 34 a 0 j = E 0 j := fun a ha => ⟨u_V_acc h ha, fun c j g1 _ _ => z_st_c g1, fun j g => z_st_n g, fun c j g1 _ _ => z_st_c g1, fun j g => z_st_n g⟩
    by_cases e0 : C 20 st = 0
    · refine ⟨z_st M 28 3 (M 29 (M 30 st)), z_st E 0 34 (M 29 (M 30 st)), ?_, ?_, fin _ w2⟩
      · rw [z_eq_t (by omega), z_rd_t (by omega), z_pf_e]
      · rw [z_eq_t (by omega), z_rd_t (by omega), w1, z_pf_e]
    by_cases e1 : C 20 st = 1
    · obtain ⟨x1, -, x3⟩ := u_within (v := M 28 3 + M 29 (M 30 st)) (M := M) (by omega)
      obtain ⟨-, x2, -⟩ := u_within (v := M 28 3 + M 29 (M 30 st)) (M := E) (by omega)
      refine ⟨_, _, ?_, ?_, fin _ x3⟩
      · rw [z_eq_f (by omega), z_eq_t (by omega), z_rd_t (by omega), x1, z_cl_e, z_pf_e]
      · rw [z_eq_f (by omega), z_eq_t (by omega), z_rd_t (by omega), w1, v1, x2, z_cl_e, z_pf_e]
    by_cases e2 : C 20 st = 2
    · obtain ⟨x1, -, x3⟩ := u_within (v := M 28 3 - M 29 (M 30 st)) (M := M) (by omega)
      obtain ⟨-, x2, -⟩ := u_within (v := M 28 3 - M 29 (M 30 st)) (M := E) (by omega)
      refine ⟨_, _, ?_, ?_, fin _ x3⟩
      · rw [z_eq_f (by omega), z_eq_f (by omega), z_eq_t (by omega), z_rd_t (by omega), x1, z_cl_e, z_pf_e]
      · rw [z_eq_f (by omega), z_eq_f (by omega), z_eq_t (by omega), z_rd_t (by omega), w1, v1, x2, z_cl_e, z_pf_e]
    by_cases e3 : C 20 st = 3
    · have hm := u_mul (a := M 28 3) (b := M 29 (M 30 st)) v1b w2
      obtain ⟨x1, -, x3⟩ := u_within (v := M 28 3 * M 29 (M 30 st)) (M := M) (by omega)
      obtain ⟨-, x2, -⟩ := u_within (v := M 28 3 * M 29 (M 30 st)) (M := E) (by omega)
      refine ⟨_, _, ?_, ?_, fin _ x3⟩
      · rw [z_eq_f (by omega), z_eq_f (by omega), z_eq_f (by omega), z_eq_t (by omega), z_rd_t (by omega), x1, z_cl_e, z_pf_e]
      · rw [z_eq_f (by omega), z_eq_f (by omega), z_eq_f (by omega), z_eq_t (by omega), z_rd_t (by omega), w1, v1, x2, z_cl_e, z_pf_e]
    · refine ⟨z_st M 29 (M 30 st) (M 28 3), z_st E 18 (M 30 st) (M 28 3), ?_, ?_, ⟨?_, fun i g1 g2 g3 => ?_, fun i g1 g2 g3 g4 => ?_⟩, fun c j g1 g2 _ => z_st_c g2, fun j g => z_st_c (by decide), fun c j g1 g2 _ => z_st_c g2, fun j g => z_st_c (by decide)⟩
      · rw [z_eq_f (by omega), z_eq_f (by omega), z_eq_f (by omega), z_eq_f (by omega), z_eq_t (by omega), z_wr_t (by omega)]
      · rw [z_eq_f (by omega), z_eq_f (by omega), z_eq_f (by omega), z_eq_f (by omega), z_eq_t (by omega), z_wr_t (by omega), v1]
      · rw [z_st_c (by decide), z_st_c (by decide)]; exact ⟨v1, v1b⟩
      · by_cases ci : i = M 30 st
        · rw [z_st_i ci, z_st_i ci]; exact ⟨rfl, v1b⟩
        · rw [z_st_n ci, z_st_n ci]; exact v2 i g1 g2 g3
      · rw [z_st_c (by decide), z_st_c (by decide)]; exact v3 i g1 g2 g3 g4
  · have e6 : C 20 st = 6 := by omega
    obtain ⟨x1, x2, x3, x4⟩ := t8 e6
    have ex : M 30 st = C 23 st := o4 (by omega)
    rw [ex]
    obtain ⟨y1, y2, y3, y4⟩ := v3 (C 23 st) t2.1 t2.2 (by omega) (by omega)
    have hw := y3 x1.2
    obtain ⟨b1, b2⟩ := wb_e (E := E) hN r1 r5 r2 (fun i g1 g2 => by
      obtain ⟨-, z2, z3⟩ := r3 i g1 g2
      by_cases c : C 20 i = -1
      · rw [if_pos c]; exact (z2 c).1
      · rw [if_neg c]; exact (z3 c).1) (k := fun (v3_ : Int) (M1 : zMem) => some (v3_, M1)) (C 24 st).toNat N (M 30 (C 23 st)) (by omega) (by omega) y2.1 y2.2 hw
    rw [show (((C 24 st).toNat : Nat) : Int) = C 24 st by omega] at b1 b2
    have wlt : y_wk C (M 30 (C 23 st)) < C 19 7 := by rw [r5.1.1]; exact y_wk_lt y2.1 y2.2 hw
    have nn := y_wk_nn (C := C) (M 30 (C 23 st))
    have m19 : ∀ j, M 19 j = C 19 j := fun j => hM 19 j (by omega)
    have m20 : ∀ j, M 20 j = C 20 j := fun j => hM 20 j (by omega)
    have m8 := r5.1.2
    have wf : Plan_wordFurther (M 30 (C 23 st)) (C 24 st) M = some (C 26 ((y_wk C (M 30 (C 23 st)) + C 24 st) % C 19 7), M) := by
      have em0 := Int.emod_nonneg (y_wk C (M 30 (C 23 st)) + C 24 st) (show C 19 7 ≠ 0 by omega)
      have em1 := Int.emod_lt_of_pos (y_wk C (M 30 (C 23 st)) + C 24 st) (show 0 < C 19 7 by omega)
      unfold Plan_wordFurther
      rw [Plan_isWord_e (by omega) (by rw [m19]; omega) (fun _ _ => by rw [m20, hw]; omega), m19, m20, if_pos ⟨y2, hw⟩, z_cl_e, z_eq_f (by omega), m19, z_le_t (by omega), z_lt_f (by omega), z_rd_t (by omega), hM 27 _ (by omega), (r5.2 _ y2.1 y2.2 hw).1, z_mt_t (by omega), z_rd_t (by omega), hM 26 _ (by omega)]
    generalize C 26 ((y_wk C (M 30 (C 23 st)) + C 24 st) % C 19 7) = nw at wf b1 b2
    refine ⟨z_st M 30 (C 23 st) nw, z_st E 19 (C 23 st) nw, ?_, ?_, ⟨?_, fun i g1 g2 g3 => ?_, fun i g1 g2 g3 g4 => ?_⟩, fun c j g1 g2 g3 => z_st_c g3, fun j g => z_st_c (by decide), fun c j g1 g2 g3 => z_st_c g3, fun j g => z_st_c (by decide)⟩
    · rw [z_eq_f (by omega), z_eq_f (by omega), z_eq_f (by omega), z_eq_f (by omega), z_eq_f (by omega), z_eq_f (by omega), z_eq_t (by omega), z_rd_t (by omega), z_rd_t (by omega), hM 24 _ (by omega), wf, z_cl_e, z_wr_t (by omega)]
    · have wbe : Model_wordBehind N (M 30 (C 23 st)) (C 24 st) E = some (nw, E) := by unfold Model_wordBehind; rw [z_jn_e]; exact b1
      rw [z_eq_f (by omega), z_eq_f (by omega), z_eq_f (by omega), z_eq_f (by omega), z_eq_f (by omega), z_eq_f (by omega), z_eq_t (by omega), z_rd_t (by omega), y1, z_rd_t (by omega), x2, wbe, z_cl_e, z_wr_t (by omega)]
    · rw [z_st_c (by decide), z_st_c (by decide)]; exact ⟨v1, v1b⟩
    · rw [z_st_c (by decide), z_st_c (by decide)]; exact v2 i g1 g2 g3
    · by_cases ci : i = C 23 st
      · rw [z_st_i ci, z_st_i ci, ci]; exact ⟨rfl, b2.1, fun _ => b2.2, fun q => by omega⟩
      · rw [z_st_n ci, z_st_n ci]; exact v3 i g1 g2 g3 g4
