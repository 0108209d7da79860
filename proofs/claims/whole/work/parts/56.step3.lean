/-! the run: the step itself -/
theorem z_st_f {M : zMem} {c c' : Nat} {i v : Int} (h : c' ≠ c) : z_st M c i v c' = M c' := funext fun _ => z_st_c h
theorem u_I_282 {C D M E : zMem} {k R : Nat} {v a : Int} (h : u_I C D k R v M E) : u_I C D k R v (z_st M 28 2 a) E := by
  obtain ⟨i1, i2, i3, i4, i5, i6⟩ := h
  refine ⟨fun c j g => by rw [z_st_c (by omega)]; exact i1 c j g, i2, i3, ?_, ?_, ?_⟩
  · unfold uu_T at i4 ⊢
    simp (disch := decide) only [z_st_f, z_st_n]
    exact i4
  · unfold u_J at i5 ⊢
    simp (disch := decide) only [z_st_f]
    exact i5
  · unfold u_V at i6 ⊢
    simp (disch := decide) only [z_st_f, z_st_n]
    exact i6
theorem u_V_c {C M E M' E' : zMem} (h : u_V C M E) (e1 : M' 28 3 = M 28 3) (e2 : ∀ j, M' 29 j = M 29 j) (e3 : ∀ j, M' 30 j = M 30 j) (f1 : E' 0 34 = E 0 34) (f2 : ∀ j, E' 18 j = E 18 j) (f3 : ∀ j, E' 19 j = E 19 j) : u_V C M' E' := by
  unfold u_V at h ⊢
  rw [e1, f1, show M' 29 = M 29 from funext e2, show M' 30 = M 30 from funext e3, show E' 18 = E 18 from funext f2, show E' 19 = E 19 from funext f3]
  exact h
theorem u_P_3 {M : zMem} {k R : Nat} {st x kd : Int} {j : Int} (h : j ≠ 10) : u_P M k R st x kd 28 j = M 28 j := by
  unfold u_P
  split
  · rw [z_st_n h, z_st_c (by decide), z_st_c (by decide), z_st_c (by decide), z_st_c (by decide), z_st_c (by decide)]
  · rw [z_st_n h, z_st_c (by decide), z_st_c (by decide), z_st_n h, z_st_c (by decide), z_st_c (by decide), z_st_c (by decide), z_st_c (by decide), z_st_c (by decide)]
theorem u_Q_0 {E : zMem} {k R : Nat} {st x v kd : Int} {j : Int} (h27 : j ≠ 27) (h28 : j ≠ 28) : u_Q E k R st x v kd 0 j = E 0 j := by
  unfold u_Q
  split
  · rw [z_st_n h28, z_st_c (by decide), z_st_c (by decide), z_st_c (by decide), z_st_n h27, z_st_c (by decide), z_st_c (by decide)]
  · rw [z_st_n h28, z_st_n h27, z_st_c (by decide), z_st_c (by decide), z_st_n h28, z_st_c (by decide), z_st_c (by decide), z_st_c (by decide), z_st_n h27, z_st_c (by decide), z_st_c (by decide)]
/-- the reference's tail of a step -/
theorem ref_tail {C D E2 : zMem} {N k : Nat} {st v' : Int} (hR : p_R C (D 1)) (h1 : ∀ j, E2 1 j = D 1 j) (hst : 0 ≤ st ∧ st < C 19 6) (ho : C 20 st ≠ -1) (hk : k < 100) (h33 : E2 0 33 = k) (h34 : z_Rg (E2 0 34)) (h19 : C 20 st ≠ 7 → E2 19 st = C 23 st ∨ C 20 st ≠ 5) :
    ∃ nx' : Int, (∀ (n : Nat) (K : zMem → zO), z_wr E2 17 100 (E2 0 33) (E2 0 34) (fun M9 => z_pf M9 0 33 ((M9 0 33) + 1) (fun M10 => z_jn (fun (x4 : Int) (M11 : zMem) => z_pf M11 0 35 x4 (fun M12 => z_jn (fun (x5 : Int) (M13 : zMem) => Model_runs_74 N K n x5 v' M13) (fun k4 => z_jn (fun (M14 : zMem) => z_rd M14 1 169 (109 + st) (fun x6 => k4 x6 M14)) (fun k5 => z_eq (C 20 st) 5 (z_lt (M12 0 34) 0 (z_rd M12 19 20 st (fun x7 => k4 x7 M12)) (k5 M12)) (k5 M12))))) (fun k3 => z_eq (C 20 st) 7 (k3 1 M10) (z_eq (M10 0 33) 100 (k3 2 M10) (k3 0 M10))))) = Model_runs_74 N K n nx' v' (z_st (z_st (z_st E2 17 k (E2 0 34)) 0 33 ((k : Int) + 1)) 0 35 (if C 20 st = 7 then 1 else if k + 1 = 100 then 2 else 0))) ∧ (C 20 st ≠ 7 → nx' = if C 20 st = 5 ∧ E2 0 34 < 0 then C 23 st else C 25 st) := by
  obtain ⟨r1, r2, r3, r4, r5⟩ := id hR
  obtain ⟨k1, k2, k3⟩ := r3 st hst.1 hst.2
  obtain ⟨s1, s2, s3⟩ := k3 ho
  have e33 : z_st E2 17 k (E2 0 34) 0 33 = k := by rw [z_st_c (by decide)]; exact h33
  have e34 : ∀ a : Int, z_st (z_st (z_st E2 17 k (E2 0 34)) 0 33 ((k : Int) + 1)) 0 35 a 0 34 = E2 0 34 := fun a => by rw [z_st_n (by decide), z_st_n (by decide), z_st_c (by decide)]
  have e1 : ∀ (a j : Int), z_st (z_st (z_st E2 17 k (E2 0 34)) 0 33 ((k : Int) + 1)) 0 35 a 1 j = D 1 j := fun a j => by rw [z_st_c (by decide), z_st_c (by decide), z_st_c (by decide)]; exact h1 j
  have e19 : ∀ (a j : Int), z_st (z_st (z_st E2 17 k (E2 0 34)) 0 33 ((k : Int) + 1)) 0 35 a 19 j = E2 19 j := fun a j => by rw [z_st_c (by decide), z_st_c (by decide), z_st_c (by decide)]
  by_cases c7 : C 20 st = 7
  · refine ⟨D 1 (109 + st), fun n K => ?_, fun q => absurd c7 q⟩
    rw [h33, z_wr_t (by omega), z_pf_e, e33, z_jn_e, z_eq_t (by omega)]
    simp only []
    rw [z_pf_e, z_jn_e, z_jn_e, z_eq_f (by omega)]
    simp only []
    rw [z_rd_t (by omega), e1, if_pos c7]
  · obtain ⟨t1, t2, t3, t4, t5, t6, t7, t8⟩ := s3 c7
    refine ⟨if C 20 st = 5 ∧ E2 0 34 < 0 then C 23 st else C 25 st, fun n K => ?_, fun _ => rfl⟩
    have e33' : z_st (z_st E2 17 k (E2 0 34)) 0 33 ((k : Int) + 1) 0 33 = (k : Int) + 1 := z_st_i rfl
    have tl : ∀ en' : Int, z_pf (z_st (z_st E2 17 k (E2 0 34)) 0 33 ((k : Int) + 1)) 0 35 en' (fun M12 => z_jn (fun (x5 : Int) (M13 : zMem) => Model_runs_74 N K n x5 v' M13) (fun k4 => z_jn (fun (M14 : zMem) => z_rd M14 1 169 (109 + st) (fun x6 => k4 x6 M14)) (fun k5 => z_eq (C 20 st) 5 (z_lt (M12 0 34) 0 (z_rd M12 19 20 st (fun x7 => k4 x7 M12)) (k5 M12)) (k5 M12)))) = Model_runs_74 N K n (if C 20 st = 5 ∧ E2 0 34 < 0 then C 23 st else C 25 st) v' (z_st (z_st (z_st E2 17 k (E2 0 34)) 0 33 ((k : Int) + 1)) 0 35 en') := by
      intro en'
      rw [z_pf_e, z_jn_e, z_jn_e, e34]
      by_cases c5 : C 20 st = 5
      · rw [z_eq_t (by omega)]
        by_cases cl : E2 0 34 < 0
        · rw [if_pos ⟨c5, cl⟩, z_lt_t (by omega), z_rd_t (by omega), e19]
          rcases h19 c7 with q | q
          · rw [q]
          · exact absurd c5 q
        · rw [if_neg (fun q => cl q.2), z_lt_f (by omega)]
          simp only []
          rw [z_rd_t (by omega), e1, t3]
      · rw [if_neg (fun q => c5 q.1), z_eq_f (by omega)]
        simp only []
        rw [z_rd_t (by omega), e1, t3]
    rw [h33, z_wr_t (by omega), z_pf_e, e33, z_jn_e, z_eq_f (by omega), e33', if_neg c7]
    by_cases q : k + 1 = 100
    · rw [if_pos q, z_eq_t (by omega)]; exact tl 2
    · rw [if_neg q, z_eq_f (by omega)]; exact tl 0
