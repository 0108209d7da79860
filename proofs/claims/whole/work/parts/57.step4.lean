/-! the run: the step on both sides -/
theorem cls_tail {C M2 : zMem} {k : Nat} {st : Int} (hM : ∀ c j, (c < 28 ∨ 36 < c) → M2 c j = C c j) (h6 : C 19 6 ≤ 20) (hst : 0 ≤ st ∧ st < C 19 6) (ho : -1 ≤ C 20 st ∧ C 20 st ≤ 7) (hk : k < 100) (h3 : z_Rg (M2 28 3)) :
    z_wr M2 33 100 k (M2 28 3) (fun M8 => z_pf M8 28 1 ((k : Int) + 1) (fun M9 => z_eq (C 20 st) 7 (z_pf M9 28 2 1 (fun M11 => some ((-1), M11))) (z_jn (fun (M10 : zMem) => z_rd M10 25 20 st (fun x2 => some (x2, M10))) (fun k2 => z_eq (C 20 st) 5 (z_lt (M9 28 3) 0 (z_rd M9 23 20 st (fun x3 => some (x3, M9))) (k2 M9)) (k2 M9))))) = some (if C 20 st = 7 then -1 else if C 20 st = 5 ∧ M2 28 3 < 0 then C 23 st else C 25 st, if C 20 st = 7 then z_st (z_st (z_st M2 33 k (M2 28 3)) 28 1 ((k : Int) + 1)) 28 2 1 else z_st (z_st M2 33 k (M2 28 3)) 28 1 ((k : Int) + 1)) := by
  have e3 : z_st (z_st M2 33 k (M2 28 3)) 28 1 ((k : Int) + 1) 28 3 = M2 28 3 := by rw [z_st_n (by decide), z_st_c (by decide)]
  have e23 : z_st (z_st M2 33 k (M2 28 3)) 28 1 ((k : Int) + 1) 23 st = C 23 st := by rw [z_st_c (by decide), z_st_c (by decide)]; exact hM 23 st (by omega)
  have e25 : z_st (z_st M2 33 k (M2 28 3)) 28 1 ((k : Int) + 1) 25 st = C 25 st := by rw [z_st_c (by decide), z_st_c (by decide)]; exact hM 25 st (by omega)
  rw [z_wr_t (by omega), z_pf_e]
  by_cases c7 : C 20 st = 7
  · rw [z_eq_t (by omega), z_pf_e, if_pos c7, if_pos c7]
  · rw [z_eq_f (by omega), z_jn_e, if_neg c7, if_neg c7, e3]
    by_cases c5 : C 20 st = 5
    · rw [z_eq_t (by omega)]
      by_cases cl : M2 28 3 < 0
      · rw [if_pos ⟨c5, cl⟩, z_lt_t (by omega), z_rd_t (by omega), e23]
      · rw [if_neg (fun q => cl q.2), z_lt_f (by omega)]
        simp only []
        rw [z_rd_t (by omega), e25]
    · rw [if_neg (fun q => c5 q.1), z_eq_f (by omega)]
      simp only []
      rw [z_rd_t (by omega), e25]
theorem step_e {C D M E : zMem} {N k R : Nat} {st v : Int} (hN : 400 ≤ N) (h : u_I C D k R v M E) (hR : p_R C (D 1)) (hk : k < 100) (hst : 0 ≤ st ∧ st < C 19 6) (ho : C 20 st ≠ -1) (h2 : M 28 2 = 2) (h35 : E 0 35 = 0) :
    ∃ (nxt nx' v' : Int) (R' : Nat) (M' E' : zMem), Trace_doStep st k M = some (nxt, M') ∧ (∀ (n : Nat) (K : zMem → zO), Model_runs_74 N K (n + 1) st v E = Model_runs_74 N K n nx' v' E') ∧ u_I C D (k + 1) R' v' M' E' ∧ (C 20 st = 7 → nxt = -1 ∧ M' 28 2 = 1 ∧ E' 0 35 = 1) ∧ (C 20 st ≠ 7 → nx' = nxt ∧ ((0 ≤ nxt ∧ nxt < C 19 6) ∧ C 20 nxt ≠ -1) ∧ M' 28 2 = 2 ∧ E' 0 35 = if k + 1 = 100 then 2 else 0) := by
  obtain ⟨i1, i2, i3, i4, i5, i6⟩ := id h
  obtain ⟨r1, r2, r3, r4, r5⟩ := id hR
  obtain ⟨k1, k2, k3⟩ := r3 st hst.1 hst.2
  obtain ⟨s1, s2, s3⟩ := k3 ho
  obtain ⟨⟨a1, a2⟩, ⟨b1, b2⟩, -⟩ := id i4
  obtain ⟨⟨j1, j2⟩, -⟩ := id i5
  obtain ⟨w1, w2, w3⟩ := id i6
  have m20 : M 20 st = C 20 st := i1 20 st (by omega)
  have e1 : ∀ j, E 1 j = D 1 j := fun j => i2 1 j (by decide) (by decide) (by decide) (by decide) (by decide) (by decide) (by decide) (by decide) (by decide)
  have hE1 : E 1 = D 1 := funext e1
  have hnx : C 20 st ≠ 7 → ∀ acc : Int, (0 ≤ (if C 20 st = 5 ∧ acc < 0 then C 23 st else C 25 st) ∧ (if C 20 st = 5 ∧ acc < 0 then C 23 st else C 25 st) < C 19 6) ∧ C 20 (if C 20 st = 5 ∧ acc < 0 then C 23 st else C 25 st) ≠ -1 := fun q acc => by
    obtain ⟨t1, t2, t3, t4, t5, t6, t7, t8⟩ := s3 q
    by_cases c : C 20 st = 5 ∧ acc < 0
    · rw [if_pos c]; exact ⟨t2, t7 c.1⟩
    · rw [if_neg c]; exact ⟨t4, t5⟩
  by_cases cx : C 20 st = 5 ∨ C 20 st = 7
  · -- no operand
    have n3 : ¬ C 20 st = 3 := by omega
    have hPd : u_P M k R st (-1) (if C 20 st = 3 then 2 else 1) = z_st (z_st (z_st (z_st (z_st (z_st M 31 k st) 32 k (-1)) 34 k R) 35 R st) 36 R 0) 28 10 ((R : Int) + 1) := if_pos rfl
    have hQd : u_Q E k R st (-1) v (if C 20 st = 3 then 1 else 0) = z_st (z_st (z_st (z_st (z_st (z_st (z_st E 11 R st) 12 R v) 0 27 ((R : Int) + 1)) 14 k st) 15 k (-1)) 16 k R) 0 28 0 := if_pos rfl
    have hV : u_V C (u_P M k R st (-1) (if C 20 st = 3 then 2 else 1)) (u_Q E k R st (-1) v (if C 20 st = 3 then 1 else 0)) := u_V_c i6 (u_P_3 (by decide)) (fun j => u_P_c (by decide) (by decide) (by decide) (by decide) (by decide) (by decide)) (fun j => u_P_c (by decide) (by decide) (by decide) (by decide) (by decide) (by decide)) (u_Q_0 (by decide) (by decide)) (fun j => u_Q_c (by decide) (by decide) (by decide) (by decide) (by decide) (by decide)) (fun j => u_Q_c (by decide) (by decide) (by decide) (by decide) (by decide) (by decide))
    have hP20 : ∀ c j, (c < 28 ∨ 36 < c) → u_P M k R st (-1) (if C 20 st = 3 then 2 else 1) c j = C c j := fun c j g => by rw [u_P_c (by omega) (by omega) (by omega) (by omega) (by omega) (by omega)]; exact i1 c j g
    have hP3 : u_P M k R st (-1) (if C 20 st = 3 then 2 else 1) 28 3 = M 28 3 := u_P_3 (by decide)
    have hP2 : u_P M k R st (-1) (if C 20 st = 3 then 2 else 1) 28 2 = 2 := by rw [u_P_3 (by decide)]; exact h2
    have hQ34 : u_Q E k R st (-1) v (if C 20 st = 3 then 1 else 0) 0 34 = M 28 3 := by rw [u_Q_0 (by decide) (by decide)]; exact w1.1
    have hQ33 : u_Q E k R st (-1) v (if C 20 st = 3 then 1 else 0) 0 33 = k := by rw [u_Q_0 (by decide) (by decide)]; exact j1
    have ct := cls_tail (M2 := u_P M k R st (-1) (if C 20 st = 3 then 2 else 1)) (k := k) hP20 r1.2 hst k1 hk (by rw [hP3]; omega)
    obtain ⟨nx', rt1, rt2⟩ := ref_tail (N := N) (v' := 1) (E2 := u_Q E k R st (-1) v (if C 20 st = 3 then 1 else 0)) (k := k) hR (fun j => by rw [u_Q_c (by decide) (by decide) (by decide) (by decide) (by decide) (by decide)]; exact e1 j) hst ho hk hQ33 (by rw [hQ34]; omega) (fun q => Or.inl (by
      have g := w3 st hst.1 hst.2 ho q
      rw [u_Q_c (by decide) (by decide) (by decide) (by decide) (by decide) (by decide), g.1]; exact g.2.2.2 (by omega)))
    have fin := u_fin (x := -1) (en := if C 20 st = 7 then 1 else if k + 1 = 100 then 2 else 0) h hst ho (by omega) (fun _ _ _ _ _ => rfl) (fun _ _ => rfl) (fun _ _ _ _ _ => rfl) (fun _ _ => rfl) hV
    rw [if_pos rfl, if_pos rfl] at fin
    refine ⟨if C 20 st = 7 then -1 else if C 20 st = 5 ∧ (u_P M k R st (-1) (if C 20 st = 3 then 2 else 1)) 28 3 < 0 then C 23 st else C 25 st, nx', 1, R + 1, if C 20 st = 7 then z_st (z_st (z_st (u_P M k R st (-1) (if C 20 st = 3 then 2 else 1)) 33 k ((u_P M k R st (-1) (if C 20 st = 3 then 2 else 1)) 28 3)) 28 1 ((k : Int) + 1)) 28 2 1 else (z_st (z_st (u_P M k R st (-1) (if C 20 st = 3 then 2 else 1)) 33 k ((u_P M k R st (-1) (if C 20 st = 3 then 2 else 1)) 28 3)) 28 1 ((k : Int) + 1)), (z_st (z_st (z_st (u_Q E k R st (-1) v (if C 20 st = 3 then 1 else 0)) 17 k ((u_Q E k R st (-1) v (if C 20 st = 3 then 1 else 0)) 0 34)) 0 33 ((k : Int) + 1)) 0 35 (if C 20 st = 7 then 1 else if k + 1 = 100 then 2 else 0)), ?_, fun n K => ?_, ?_, fun q => ⟨if_pos q, by rw [if_pos q, z_st_i rfl], by rw [z_st_i rfl, if_pos q]⟩, fun q => ⟨?_, ?_, ?_, by rw [z_st_i rfl, if_neg q]⟩⟩
    · -- the class
      refine Eq.trans ?_ ct
      have m2810 : z_st (z_st M 31 k st) 32 k (-1) 28 10 = R := by rw [z_st_c (by decide), z_st_c (by decide)]; exact a2
      have m2810' : z_st (z_st (z_st M 31 k st) 32 k (-1)) 34 k R 28 10 = R := by rw [z_st_c (by decide)]; exact m2810
      have it := Plan_isItem_e (v := -1) (pl := 19) (M := u_P M k R st (-1) (if C 20 st = 3 then 2 else 1)) (by omega) (by rw [hP20 19 6 (by omega)]; omega)
      rw [if_neg (show ¬ (0 ≤ (-1 : Int) ∧ (-1 : Int) < (u_P M k R st (-1) (if C 20 st = 3 then 2 else 1)) 19 6) from fun q => absurd q.1 (by decide))] at it
      unfold Trace_doStep
      rw [z_rd_t (by omega), m20, z_jn_e, z_jn_e]
      have hb : ∀ X Y : zO, z_eq (C 20 st) 5 X (z_eq (C 20 st) 7 X Y) = X := fun X Y => by
        rcases cx with c | c
        · rw [z_eq_t (by omega)]
        · rw [z_eq_f (by omega), z_eq_t (by omega)]
      rw [hb]
      simp only []
      rw [z_wr_t (by omega), z_wr_t (by omega), m2810, z_wr_t (by omega), Trace_addReading_e m2810' (by omega), z_cl_e, ← hPd, it, z_cl_e, z_jn_e, z_eq_t (by omega)]
    · refine Eq.trans ?_ (rt1 n K)
      have q27 : z_st (z_st (z_st E 11 R st) 12 R v) 0 27 ((R : Int) + 1) 0 33 = k := by rw [z_st_n (by decide), z_st_c (by decide), z_st_c (by decide)]; exact j1
      have q1 : z_st (z_st (z_st E 11 R st) 12 R v) 0 27 ((R : Int) + 1) 1 (49 + st) = C 20 st := by rw [z_st_c (by decide), z_st_c (by decide), z_st_c (by decide), e1]; exact s2
      have q33b : z_st (z_st (z_st (z_st E 11 R st) 12 R v) 0 27 ((R : Int) + 1)) 14 k st 0 33 = k := by rw [z_st_c (by decide)]; exact q27
      have q33c : z_st (z_st (z_st (z_st (z_st E 11 R st) 12 R v) 0 27 ((R : Int) + 1)) 14 k st) 15 k (-1) 0 33 = k := by rw [z_st_c (by decide)]; exact q33b
      have q27c : z_st (z_st (z_st (z_st (z_st E 11 R st) 12 R v) 0 27 ((R : Int) + 1)) 14 k st) 15 k (-1) 0 27 = (R : Int) + 1 := by rw [z_st_c (by decide), z_st_c (by decide), z_st_i rfl]
      have q15 : u_Q E k R st (-1) v (if C 20 st = 3 then 1 else 0) 15 k = -1 := by rw [hQd, z_st_c (by decide), z_st_c (by decide), z_st_i rfl]
      have go : Model_goes N st (C 20 st) (u_Q E k R st (-1) v (if C 20 st = 3 then 1 else 0)) = some (0, u_Q E k R st (-1) v (if C 20 st = 3 then 1 else 0)) := by
        unfold Model_goes
        rw [z_rd_t (by omega)]
        rcases cx with c | c
        · rw [z_eq_f (by omega), z_eq_f (by omega), z_eq_f (by omega), z_eq_f (by omega), z_eq_f (by omega), z_eq_t (by omega)]
        · rw [z_eq_f (by omega), z_eq_f (by omega), z_eq_f (by omega), z_eq_f (by omega), z_eq_f (by omega), z_eq_f (by omega), z_eq_f (by omega)]
      rw [Model_runs_74, h35, z_eq_t (by omega), Model_reading_e j2 (by omega), z_cl_e, z_rd_t (by omega), q1, q27, z_wr_t (by omega), z_jn_e, z_jn_e, z_le_t (by omega), z_eq_f (by omega)]
      simp only []
      rw [q33b, z_wr_t (by omega), q33c, q27c, z_wr_t (by omega), z_pz_t (by omega), show (R : Int) + 1 - 1 = R by omega, ← hQd, hQ33, z_rd_t (by omega), q15, z_jn_e, z_eq_t (by omega)]
      simp only []
      rw [go, z_cl_e, hQ33]
    · by_cases q : C 20 st = 7
      · rw [if_pos q]; exact u_I_282 fin
      · rw [if_neg q]; exact fin
    · rw [rt2 q, if_neg q, hP3, hQ34]
    · rw [if_neg q]; exact hnx q _
    · rw [if_neg q, z_st_n (by decide), z_st_c (by decide)]; exact hP2
  · -- an operand
    have n7 : C 20 st ≠ 7 := fun q => cx (Or.inr q)
    obtain ⟨t1, t2, t3, t4, t5, t6, t7, t8⟩ := s3 n7
    obtain ⟨o1, o2, o3, o4⟩ := w3 st hst.1 hst.2 ho n7
    have xn : ¬ M 30 st = -1 := by omega
    have hPd : (u_P M k R st (M 30 st) (if C 20 st = 3 then 2 else 1)) = z_st (z_st (z_st (z_st (z_st (z_st (z_st (z_st (z_st M 31 k st) 32 k (M 30 st)) 34 k R) 35 R st) 36 R 0) 28 10 ((R : Int) + 1)) 35 ((R + 1 : Nat) : Int) (M 30 st)) 36 ((R + 1 : Nat) : Int) (if C 20 st = 3 then 2 else 1)) 28 10 (((R + 1 : Nat) : Int) + 1) := if_neg xn
    have hQd : (u_Q E k R st (M 30 st) v (if C 20 st = 3 then 1 else 0)) = z_st (z_st (z_st (z_st (z_st (z_st (z_st (z_st (z_st (z_st (z_st E 11 R st) 12 R v) 0 27 ((R : Int) + 1)) 14 k st) 15 k (M 30 st)) 16 k R) 0 28 0) 11 ((R + 1 : Nat) : Int) (M 30 st)) 12 ((R + 1 : Nat) : Int) 1) 0 27 (((R + 1 : Nat) : Int) + 1)) 0 28 (if C 20 st = 3 then 1 else 0) := if_neg xn
    have hV : u_V C (u_P M k R st (M 30 st) (if C 20 st = 3 then 2 else 1)) (u_Q E k R st (M 30 st) v (if C 20 st = 3 then 1 else 0)) := u_V_c i6 (u_P_3 (by decide)) (fun j => u_P_c (by decide) (by decide) (by decide) (by decide) (by decide) (by decide)) (fun j => u_P_c (by decide) (by decide) (by decide) (by decide) (by decide) (by decide)) (u_Q_0 (by decide) (by decide)) (fun j => u_Q_c (by decide) (by decide) (by decide) (by decide) (by decide) (by decide)) (fun j => u_Q_c (by decide) (by decide) (by decide) (by decide) (by decide) (by decide))
    have hP20 : ∀ c j, (c < 28 ∨ 36 < c) → (u_P M k R st (M 30 st) (if C 20 st = 3 then 2 else 1)) c j = C c j := fun c j g => by rw [u_P_c (by omega) (by omega) (by omega) (by omega) (by omega) (by omega)]; exact i1 c j g
    have hQ1 : ∀ j, (u_Q E k R st (M 30 st) v (if C 20 st = 3 then 1 else 0)) 1 j = D 1 j := fun j => by rw [u_Q_c (by decide) (by decide) (by decide) (by decide) (by decide) (by decide)]; exact e1 j
    have hP30 : (u_P M k R st (M 30 st) (if C 20 st = 3 then 2 else 1)) 30 st = M 30 st := u_P_c (by decide) (by decide) (by decide) (by decide) (by decide) (by decide)
    obtain ⟨M2, E2, c1, c2, c3, c4, c5, c6, c7⟩ := carry_e (st := st) hN (by rw [show (u_Q E k R st (M 30 st) v (if C 20 st = 3 then 1 else 0)) 1 = D 1 from funext hQ1]; exact hR) hP20 hV hst ho (by omega)
    rw [hP30] at c1
    have hM20 : ∀ c j, (c < 28 ∨ 36 < c) → M2 c j = C c j := fun c j g => by rw [c4 c j (by omega) (by omega) (by omega)]; exact hP20 c j g
    have hQ33 : (u_Q E k R st (M 30 st) v (if C 20 st = 3 then 1 else 0)) 0 33 = k := by rw [u_Q_0 (by decide) (by decide)]; exact j1
    have hE33 : E2 0 33 = k := by rw [c7 33 (by decide)]; exact hQ33
    have hE1' : ∀ j, E2 1 j = D 1 j := fun j => by rw [c6 1 j (by decide) (by decide) (by decide)]; exact hQ1 j
    have ct := cls_tail (M2 := M2) (k := k) hM20 r1.2 hst k1 hk (by have := c3.1; omega)
    obtain ⟨nx', rt1, rt2⟩ := ref_tail (N := N) (v' := if C 20 st = 3 then 3 else 2) (E2 := E2) (k := k) hR hE1' hst ho hk hE33 (by have := c3.1; omega) (fun q => Or.inr (fun q5 => cx (Or.inl q5)))
    have fin := u_fin (x := M 30 st) (en := if C 20 st = 7 then 1 else if k + 1 = 100 then 2 else 0) h hst ho (by omega) c4 c5 c6 c7 c3
    rw [if_neg xn, if_neg xn] at fin
    rw [if_neg n7, if_neg n7] at ct
    refine ⟨if C 20 st = 5 ∧ M2 28 3 < 0 then C 23 st else C 25 st, nx', if C 20 st = 3 then 3 else 2, R + 2, z_st (z_st M2 33 k (M2 28 3)) 28 1 ((k : Int) + 1), z_st (z_st (z_st E2 17 k (E2 0 34)) 0 33 ((k : Int) + 1)) 0 35 (if C 20 st = 7 then 1 else if k + 1 = 100 then 2 else 0), ?_, fun n K => ?_, fin, fun q => absurd q n7, fun q => ⟨?_, hnx q _, ?_, by rw [z_st_i rfl, if_neg q]⟩⟩
    · refine Eq.trans ?_ ct
      have m2810 : z_st (z_st M 31 k st) 32 k (M 30 st) 28 10 = R := by rw [z_st_c (by decide), z_st_c (by decide)]; exact a2
      have m2810' : z_st (z_st (z_st M 31 k st) 32 k (M 30 st)) 34 k R 28 10 = R := by rw [z_st_c (by decide)]; exact m2810
      generalize hMB : z_st (z_st (z_st (z_st (z_st (z_st M 31 k st) 32 k (M 30 st)) 34 k R) 35 R st) 36 R 0) 28 10 ((R : Int) + 1) = MB at hPd
      have mB6 : MB 19 6 = C 19 6 := by rw [← hMB, z_st_c (by decide), z_st_c (by decide), z_st_c (by decide), z_st_c (by decide), z_st_c (by decide), z_st_c (by decide)]; exact i1 19 6 (by omega)
      have mB10 : MB 28 10 = ((R + 1 : Nat) : Int) := by rw [← hMB, z_st_i rfl]; omega
      have it := Plan_isItem_e (v := M 30 st) (pl := 19) (M := MB) (by omega) (by rw [mB6]; omega)
      rw [mB6, if_pos o2] at it
      have hb : ∀ F : Int → Int → zMem → zO, z_eq (C 20 st) 3 (F 2 (M 30 st) MB) (F 1 (M 30 st) MB) = F (if C 20 st = 3 then 2 else 1) (M 30 st) MB := fun F => by
        by_cases q : C 20 st = 3
        · rw [if_pos q, z_eq_t (by omega)]
        · rw [if_neg q, z_eq_f (by omega)]
      unfold Trace_doStep
      rw [z_rd_t (by omega), m20, z_jn_e, z_jn_e, z_eq_f (by omega), z_eq_f (by omega), z_rd_t (by omega)]
      simp only []
      rw [z_wr_t (by omega), z_wr_t (by omega), m2810, z_wr_t (by omega), Trace_addReading_e m2810' (by omega), z_cl_e, hMB, it, z_cl_e, z_jn_e, z_eq_f (by omega), z_jn_e]
      refine (hb (fun (x4 x5 : Int) (M12 : zMem) => z_cl (Trace_addReading x5 x4 M12) (fun u_1 M13 => z_cl (Trace_carryOut st (C 20 st) (M 30 st) M13) (fun u_2 M14 => z_wr M14 33 100 k (M14 28 3) (fun M8 => z_pf M8 28 1 ((k : Int) + 1) (fun M9 => z_eq (C 20 st) 7 (z_pf M9 28 2 1 (fun M11 => some ((-1), M11))) (z_jn (fun (M10 : zMem) => z_rd M10 25 20 st (fun x2 => some (x2, M10))) (fun k2 => z_eq (C 20 st) 5 (z_lt (M9 28 3) 0 (z_rd M9 23 20 st (fun x3 => some (x3, M9))) (k2 M9)) (k2 M9))))))))).trans ?_
      rw [Trace_addReading_e mB10 (by omega), z_cl_e, ← hPd, c1, z_cl_e]
    · refine Eq.trans ?_ (rt1 n K)
      have q27 : z_st (z_st (z_st E 11 R st) 12 R v) 0 27 ((R : Int) + 1) 0 33 = k := by rw [z_st_n (by decide), z_st_c (by decide), z_st_c (by decide)]; exact j1
      have q1 : z_st (z_st (z_st E 11 R st) 12 R v) 0 27 ((R : Int) + 1) 1 (49 + st) = C 20 st := by rw [z_st_c (by decide), z_st_c (by decide), z_st_c (by decide), e1]; exact s2
      have q33b : z_st (z_st (z_st (z_st E 11 R st) 12 R v) 0 27 ((R : Int) + 1)) 14 k st 0 33 = k := by rw [z_st_c (by decide)]; exact q27
      have q19b : z_st (z_st (z_st (z_st E 11 R st) 12 R v) 0 27 ((R : Int) + 1)) 14 k st 19 st = M 30 st := by rw [z_st_c (by decide), z_st_c (by decide), z_st_c (by decide), z_st_c (by decide)]; exact o1
      have q33c : z_st (z_st (z_st (z_st (z_st E 11 R st) 12 R v) 0 27 ((R : Int) + 1)) 14 k st) 15 k (M 30 st) 0 33 = k := by rw [z_st_c (by decide)]; exact q33b
      have q27c : z_st (z_st (z_st (z_st (z_st E 11 R st) 12 R v) 0 27 ((R : Int) + 1)) 14 k st) 15 k (M 30 st) 0 27 = (R : Int) + 1 := by rw [z_st_c (by decide), z_st_c (by decide), z_st_i rfl]
      generalize hEB : z_st (z_st (z_st (z_st (z_st (z_st (z_st E 11 R st) 12 R v) 0 27 ((R : Int) + 1)) 14 k st) 15 k (M 30 st)) 16 k R) 0 28 0 = EB at hQd
      have b33 : EB 0 33 = k := by rw [← hEB, z_st_n (by decide), z_st_c (by decide)]; exact q33c
      have b15 : EB 15 k = M 30 st := by rw [← hEB, z_st_c (by decide), z_st_c (by decide), z_st_i rfl]
      have b19 : EB 19 st = M 30 st := by rw [← hEB, z_st_c (by decide), z_st_c (by decide), z_st_c (by decide)]; exact q19b
      have b27 : EB 0 27 = ((R + 1 : Nat) : Int) := by rw [← hEB, z_st_n (by decide), z_st_c (by decide), q27c]; omega
      have hle : ∀ X Y : zO, z_le 5 (C 20 st) (z_eq (C 20 st) 6 X Y) X = X := fun X Y => by
        by_cases q : C 20 st = 6
        · rw [z_le_t (by omega), z_eq_t (by omega)]
        · rw [z_le_f (by omega)]
      rw [Model_runs_74, h35, z_eq_t (by omega), Model_reading_e j2 (by omega), z_cl_e, z_rd_t (by omega), q1, q27, z_wr_t (by omega), z_jn_e, z_jn_e, hle]
      simp only []
      rw [z_rd_t (by omega), q19b, q33b]
      rw [z_wr_t (by omega), q33c, q27c, z_wr_t (by omega), z_pz_t (by omega), show (R : Int) + 1 - 1 = R by omega, hEB, b33, z_rd_t (by omega), b15, z_jn_e, z_eq_f (by omega), z_rd_t (by omega), b19, Model_reading_e b27 (by omega), z_cl_e, z_jn_e]
      by_cases q3 : C 20 st = 3
      · rw [if_pos q3] at hQd c2 ⊢
        rw [z_eq_t (by omega)]
        simp only []
        rw [z_jn_e, z_eq_t (by omega)]
        simp only []
        rw [z_pz_t (by omega), ← hQd, c2, z_cl_e]
      · rw [if_neg q3] at hQd c2 ⊢
        rw [z_eq_f (by omega)]
        simp only []
        rw [z_jn_e, z_eq_f (by omega)]
        simp only []
        rw [z_pz_t (by omega), ← hQd, c2, z_cl_e]
    · rw [rt2 q, c3.1.1]
    · rw [z_st_n (by decide), z_st_c (by decide), c5 2 (by decide), u_P_3 (by decide)]; exact h2
