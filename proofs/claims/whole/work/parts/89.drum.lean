/-! drum -/
/-- the reference behind a text without a fault, up to the laying -/
def dS (N : Nat) (M17 : zMem) : zO := z_cl (Model_laysBy N 0 M17) (fun u_2 M18 => z_cl (Model_takesLaid N M18) (fun u_3 M19 => z_rd M19 1 169 6 (fun x1 => some (x1, M19))))
theorem dS_e {N : Nat} {E : zMem} {m : Int} (hN : 1000 ≤ N) (h12 : E 0 12 = 0) (h5 : E 1 5 = m) (hm : 0 ≤ m ∧ m ≤ 20) (hs : ∀ i : Int, 0 ≤ i → i < m → E 1 (9 + i) = 0 ∨ E 1 (9 + i) = 1) :
    ∃ E' : zMem, dR N E = dS N E' ∧ (∀ c j, c ≠ 0 → (c ≠ 1 ∨ j ≠ 8) → E' c j = E c j) ∧ (∀ j : Int, j ≠ 4 → j ≠ 5 → j ≠ 6 → j ≠ 42 → E' 0 j = E 0 j) ∧ (E' 0 4 = 0 ∧ E' 0 5 = E 0 13 ∧ E' 0 6 = E 0 14 ∧ E' 0 42 = 0) ∧
      ((E' 1 8 = -1 ∧ ∀ i : Int, 0 ≤ i → i < m → E 1 (9 + i) = 0) ∨ ((0 ≤ E' 1 8 ∧ E' 1 8 < m) ∧ E 1 (9 + E' 1 8) = 1 ∧ ∀ i : Int, 0 ≤ i → i < E' 1 8 → E 1 (9 + i) = 0)) := by
  obtain ⟨E1, hE1⟩ : ∃ E1, E1 = z_st (z_st (z_st (z_st E 0 4 0) 0 5 (E 0 13)) 0 6 (E 0 14)) 1 8 (-1) := ⟨_, rfl⟩
  have c0 : ∀ c j, c ≠ 0 → (c ≠ 1 ∨ j ≠ 8) → E1 c j = E c j := fun c j g1 g2 => by
    rw [hE1]
    by_cases q : c = 1
    · subst q; rw [z_st_n (by omega), z_st_c g1, z_st_c g1, z_st_c g1]
    · rw [z_st_c q, z_st_c g1, z_st_c g1, z_st_c g1]
  have c1 : ∀ j : Int, j ≠ 4 → j ≠ 5 → j ≠ 6 → E1 0 j = E 0 j := fun j g1 g2 g3 => by rw [hE1, z_st_c (by decide), z_st_n g3, z_st_n g2, z_st_n g1]
  have c4 : E1 0 4 = 0 ∧ E1 0 5 = E 0 13 ∧ E1 0 6 = E 0 14 ∧ E1 1 8 = -1 := by
    rw [hE1]
    exact ⟨by simp (disch := omega) only [z_st_c, z_st_i, z_st_n], by simp (disch := omega) only [z_st_c, z_st_i, z_st_n], by simp (disch := omega) only [z_st_c, z_st_i, z_st_n], z_st_i rfl⟩
  obtain ⟨E2, x1, x2, x3⟩ := first_e (N := N) (k := fun (M16 : zMem) => z_pz M16 0 42 0 (fun M17 => dS N M17)) m.toNat N E1 (by omega) (by omega) (fun i g1 g2 => by rw [c0 1 _ (by decide) (by omega)]; exact hs i g1 (by omega))
  rw [show ((m.toNat : Nat) : Int) = m by omega] at x1 x3
  refine ⟨z_st E2 0 42 0, ?_, fun c j g1 g2 => ?_, fun j g1 g2 g3 g4 => ?_, ⟨?_, ?_, ?_, z_st_i rfl⟩, ?_⟩
  · unfold dR
    simp only [z_pf_e]
    rw [z_eq_t (by rw [z_st_n (by decide), z_st_n (by decide), z_st_n (by decide)]; omega), z_wr_t (by omega), z_rd_t (by omega)]
    simp only [z_st_n (show (13 : Int) ≠ 4 by decide), z_st_n (show (14 : Int) ≠ 5 by decide), z_st_n (show (14 : Int) ≠ 4 by decide)]
    rw [← hE1, c0 1 5 (by decide) (by omega), h5, z_nm_e, z_jn_e]
    refine Eq.trans x1 ?_
    rw [z_pz_t (by omega)]
  · rw [z_st_c g1, x2 c j g2, c0 c j g1 g2]
  · rw [z_st_n g4, x2 0 j (by omega), c1 j g1 g2 g3]
  · rw [z_st_n (by decide), x2 0 4 (by omega)]; exact c4.1
  · rw [z_st_n (by decide), x2 0 5 (by omega)]; exact c4.2.1
  · rw [z_st_n (by decide), x2 0 6 (by omega)]; exact c4.2.2.1
  · rw [z_st_c (by decide)]
    rcases x3 with ⟨y1, y2⟩ | ⟨y1, y2, y3⟩
    · exact Or.inl ⟨by rw [y1]; exact c4.2.2.2, fun i g1 g2 => by have := y2 i g1 g2; rw [c0 1 _ (by decide) (by omega)] at this; exact this⟩
    · exact Or.inr ⟨y1, by rw [c0 1 _ (by decide) (by omega)] at y2; exact y2, fun i g1 g2 => by have := y3 i g1 g2; rw [c0 1 _ (by decide) (by omega)] at this; exact this⟩
theorem lay_of {N : Nat} {M M' : zMem} (h : Drum_layBy N 57 0 M = some (0, M')) : Laws_layInOrder N 57 M = some (0, M') := by
  unfold Drum_layBy at h
  rw [z_eq_t (by omega)] at h
  unfold Laws_layInOrder at h ⊢
  cases hA : Laws_layFixed N 57 M with
  | none => rw [hA] at h; exact absurd h (by intro q; cases q)
  | some p =>
    obtain ⟨r, M1⟩ := p
    rw [hA, z_cl_e] at h
    rw [z_cl_e]
    cases hB : Laws_layRest N 57 M1 with
    | none => rw [hB] at h; exact absurd h (by intro q; cases q)
    | some p2 =>
      obtain ⟨r2, M2⟩ := p2
      rw [hB, z_cl_e, z_cl_e] at h
      rw [z_cl_e]
      exact h
theorem drum_ok {N : Nat} {C D : zMem} (h : Rel N C D) (hv : z_Rg (C 9 3) ∧ z_Rg (C 9 4)) (hN : 1000 ≤ N) : OK N (Drum_drum N C) (Model_drum N D) := by
  obtain ⟨M', E', x1, x2, x3, x4, x5, x6⟩ := read_j hN h.1 hv
  obtain ⟨M4, hM4⟩ : ∃ M4, M4 = z_st (z_st (z_st M' 0 11 (M' 3 6)) 0 12 (M' 3 7)) 1 1 0 := ⟨_, rfl⟩
  have m4c : ∀ c j, c ≠ 0 → c ≠ 1 → M4 c j = M' c j := fun c j g1 g2 => by rw [hM4, z_st_c g2, z_st_c g1, z_st_c g1]
  have m411 : M4 0 11 = M' 3 6 ∧ M4 0 12 = M' 3 7 ∧ M4 1 1 = 0 := by
    rw [hM4]
    exact ⟨by simp (disch := omega) only [z_st_c, z_st_i, z_st_n], by simp (disch := omega) only [z_st_c, z_st_i, z_st_n], z_st_i rfl⟩
  have cl : Drum_drum N C = z_eq (M4 0 11) 0 (z_cl (Plan_copyFrom M4) (fun u_1 M5 => z_cl (Trace_perform N M5) (fun u_2 M6 => z_cl (Laws_layInOrder N 57 M6) (fun u_3 M7 => z_cl (Search_forget M7) (fun u_4 M8 => z_pf M8 55 1 0 (fun M9 => some ((M9 19 5), M9))))))) (some ((-4), M4)) := by
    unfold Drum_drum
    rw [x1, z_cl_e, z_pf_e, z_pf_e, z_pf_e, z_st_c (c := 0) (c' := 3) (by decide), hM4]
  rw [cl, x2]
  rcases x6 with ⟨b1, b2, b3, b4⟩ | ⟨⟨f1, f2, f3, f4, f5⟩, e7, hk⟩
  · -- a fault
    rw [z_eq_f (by omega)]
    obtain ⟨E1, hE1⟩ : ∃ E1, E1 = z_st (z_st (z_st E' 0 4 0) 0 5 (E' 0 13)) 0 6 (E' 0 14) := ⟨_, rfl⟩
    have e1c : ∀ c j, c ≠ 0 → E1 c j = E' c j := fun c j g => by rw [hE1, z_st_c g, z_st_c g, z_st_c g]
    have e10 : ∀ j : Int, j ≠ 4 → j ≠ 5 → j ≠ 6 → E1 0 j = E' 0 j := fun j g1 g2 g3 => by rw [hE1, z_st_n g3, z_st_n g2, z_st_n g1]
    have e14 : E1 0 4 = 0 ∧ E1 0 5 = E' 0 13 ∧ E1 0 6 = E' 0 14 := by
      rw [hE1]
      exact ⟨by simp (disch := omega) only [z_st_c, z_st_i, z_st_n], by simp (disch := omega) only [z_st_c, z_st_i, z_st_n], z_st_i rfl⟩
    obtain ⟨E2, y1, y2, -, y3⟩ := drum183_e (N := N) (k := fun (M20 : zMem) => z_cl (Model_wordsOf N M20) (fun r_ M21 => z_pf M21 0 22 r_ (fun M22 => some ((-4), M22)))) 169 N 0 E1 (by omega) (by omega) (by omega)
    have e21 : ∀ j : Int, 0 ≤ j → j < 169 → E2 1 j = D 1 j := fun j g1 g2 => by rw [y2 j g1 g2, e1c 2 j (by decide)]; exact x4 j g1 g2
    have n5 := (Rel_n h)
    have q5 := h.2.2.1.1.2.2.2.2.2.1
    have wo := Model_wordsOf_e (N := N) (M := E2) (by omega) (by rw [e21 5 (by omega) (by omega)]; omega)
    have er : dR N E' = some (-4, z_st E2 0 22 (y_sum (fun i => 1 - E2 1 (9 + i)) (E2 1 5).toNat)) := by
      unfold dR
      simp only [z_pf_e]
      simp only [z_st_n (show (13 : Int) ≠ 4 by decide), z_st_n (show (14 : Int) ≠ 5 by decide), z_st_n (show (14 : Int) ≠ 4 by decide)]
      rw [← hE1, z_eq_f (by rw [e10 12 (by decide) (by decide) (by decide)]; omega), z_jn_e]
      refine Eq.trans y1 ?_
      rw [wo, z_cl_e, z_pf_e]
    rw [er]
    refine ⟨-4, _, _, rfl, rfl, ?_⟩
    have ec : ∀ c j, (c = 3 ∨ c = 4 ∨ 10 < c ∨ (c = 0 ∧ 23 < j)) → z_st E2 0 22 (y_sum (fun i => 1 - E2 1 (9 + i)) (E2 1 5).toNat) c j = D c j := fun c j g => by
      by_cases q : c = 0
      · subst q; rw [z_st_n (by omega), y3 0 j (by decide), e10 j (by omega) (by omega) (by omega)]; exact x5 0 j (by omega)
      · rw [z_st_c q, y3 c j (by omega), e1c c j q]; exact x5 c j (by omega)
    have e1 : ∀ j : Int, 0 ≤ j → j < 169 → z_st E2 0 22 (y_sum (fun i => 1 - E2 1 (9 + i)) (E2 1 5).toNat) 1 j = D 1 j := fun j g1 g2 => by rw [z_st_c (by decide)]; exact e21 j g1 g2
    have cc : ∀ c j, 18 < c → M4 c j = C c j := fun c j g => by rw [m4c c j (by omega) (by omega)]; exact x3 c j (by omega)
    obtain ⟨hT, hF, hP, hR, hL, hA, hS⟩ := id h
    refine Rel_mk2 h (fun c j g => cc c j (by omega)) (fun j g1 g2 g3 => e1 j g1 (by omega)) ?_ ?_ ?_ ?_ (r_S_same hS (fun c j g => cc c j (by omega)) (fun j g => ec 0 j (by omega)) (fun j => ec 22 j (by omega)))
    · refine ⟨?_, by omega, fun j g1 g2 => by omega⟩
      rw [z_st_n (by decide), y3 0 4 (by decide), e14.1, m411.2.2]
    · refine ⟨?_, ?_⟩
      · rw [z_st_n (by decide), y3 0 5 (by decide), e14.2.1, m411.1, b3]
      · rw [z_st_n (by decide), y3 0 6 (by decide), e14.2.2, m411.2.1, b4]
    · intro i g1 g2
      rw [cc 19 6 (by decide)] at g2
      rw [e1 _ (by omega) (by omega), cc 57 i (by decide), cc 19 0 (by decide), cc 19 1 (by decide)]
      exact hL i g1 g2
    · unfold r_A at hA ⊢
      rw [e1 7 (by omega) (by omega), cc 55 1 (by decide)]
      refine ⟨hA.1, hA.2.1, fun a i g1 g2 g3 g4 => ?_⟩
      rw [cc 19 6 (by decide)] at g4
      rw [ec 3 _ (by omega), cc 56 _ (by decide), cc 19 0 (by decide), cc 19 1 (by decide)]
      exact hA.2.2 a i g1 g2 g3 g4
  · -- no fault
    rw [z_eq_t (by omega)]
    obtain ⟨M5, c1, c2, c3, c4, c5⟩ := copyFrom_e (M := M4)
    rw [c1, z_cl_e]
    have m5 : ∀ j : Int, 0 ≤ j → j ≤ 9 → M5 19 j = M' 10 j := fun j g1 g2 => by rw [c2 j g1 g2, m4c 10 j (by decide) (by decide)]
    have m511 : M5 0 11 = M' 3 6 ∧ M5 0 12 = M' 3 7 ∧ M5 1 1 = 0 := by rw [c5 0 11 (by omega), c5 0 12 (by omega), c5 1 1 (by omega)]; exact m411
    -- what is the same in both roads: the end
    have fin : ∀ (M6 M7 E2 E3 : zMem) (n6 : Int), (∀ c j, (c < 28 ∨ 40 < c) → M6 c j = M5 c j) → (∀ c j, c ≠ 57 → c ≠ 47 → M7 c j = M6 c j) → (∀ c j, c ≠ 21 → E3 c j = E2 c j) → (0 ≤ n6 ∧ n6 ≤ 20) → M5 19 6 = n6 → E2 1 5 = n6 → E2 1 6 = M5 19 5 → E2 1 7 = 0 → (E2 0 4 = 0 ∧ E2 0 5 = E' 0 13 ∧ E2 0 6 = E' 0 14 ∧ E2 0 42 = 0) →
        Trace_perform N M5 = some (0, M6) → Laws_layInOrder N 57 M6 = some (0, M7) → Model_laysBy N 0 E2 = some (0, E3) → (∀ i : Int, 0 ≤ i → i < n6 → E3 21 i = M7 57 i ∧ 0 ≤ M7 57 i ∧ M7 57 i < M5 19 0 * M5 19 1) → r_P M5 E2 → (0 < M5 19 8 → r_R N M6 E2) →
        OK N (z_cl (Trace_perform N M5) (fun u_2 M6 => z_cl (Laws_layInOrder N 57 M6) (fun u_3 M7 => z_cl (Search_forget M7) (fun u_4 M8 => z_pf M8 55 1 0 (fun M9 => some ((M9 19 5), M9)))))) (dS N E2) := by
      intro M6 M7 E2 E3 n6 p1 p2 p3 p4 p5 p6 p7 p8 p9 q1 q2 q3 q4 q5 q6
      obtain ⟨E4, t1, t2, t3, t4⟩ := Model_takesLaid_e (N := N) (n6 := n6) (E := E3) (by omega) p4 (by rw [p3 1 5 (by decide)]; exact p6)
      obtain ⟨M9, hM9⟩ : ∃ M9, M9 = z_st (z_st M7 48 8 0) 55 1 0 := ⟨_, rfl⟩
      have n9 : ∀ c j, (c < 28 ∨ 40 < c) → c ≠ 57 → c ≠ 47 → c ≠ 48 → c ≠ 55 → M9 c j = M5 c j := fun c j g1 g2 g3 g4 g5 => by rw [hM9, z_st_c g5, z_st_c g4, p2 c j g2 g3, p1 c j g1]
      have n96 : ∀ c j, c ≠ 57 → c ≠ 47 → c ≠ 48 → c ≠ 55 → M9 c j = M6 c j := fun c j g2 g3 g4 g5 => by rw [hM9, z_st_c g5, z_st_c g4, p2 c j g2 g3]
      have n19 : M9 19 = M5 19 := funext fun j => n9 19 j (by omega) (by omega) (by omega) (by omega) (by omega)
      have n20 : M9 20 = M5 20 := funext fun j => n9 20 j (by omega) (by omega) (by omega) (by omega) (by omega)
      have n21 : M9 21 = M5 21 := funext fun j => n9 21 j (by omega) (by omega) (by omega) (by omega) (by omega)
      have E41 : ∀ j : Int, j < 149 → E4 1 j = E2 1 j := fun j g => by rw [t3 j g, p3 1 j (by decide)]
      have E4c : ∀ c j, c ≠ 1 → c ≠ 21 → E4 c j = E2 c j := fun c j g1 g2 => by rw [t2 c j g1, p3 c j g2]
      unfold dS Search_forget
      rw [q1, z_cl_e, q2, z_cl_e, z_pz_t (by omega), z_cl_e, z_pf_e, ← hM9, q3, z_cl_e, t1, z_cl_e, z_rd_t (by omega)]
      refine ⟨M9 19 5, M9, E4, rfl, ?_, ⟨?_, ?_, ?_, ?_, ?_, ?_, ?_⟩⟩
      · rw [n19, E41 6 (by omega), p7]
      · refine ⟨?_, ?_, fun j g1 g2 => ?_⟩
        · rw [E4c 0 4 (by decide) (by decide), p9.1, n9 1 1 (by omega) (by omega) (by omega) (by omega) (by omega), m511.2.2]
        · rw [n9 1 1 (by omega) (by omega) (by omega) (by omega) (by omega), m511.2.2]; omega
        · rw [n9 1 1 (by omega) (by omega) (by omega) (by omega) (by omega), m511.2.2] at g2; omega
      · refine ⟨?_, ?_⟩
        · rw [E4c 0 5 (by decide) (by decide), p9.2.1, n9 0 11 (by omega) (by omega) (by omega) (by omega) (by omega), m511.1, f1, f4]
        · rw [E4c 0 6 (by decide) (by decide), p9.2.2.1, n9 0 12 (by omega) (by omega) (by omega) (by omega) (by omega), m511.2.1, f2, f5]
      · obtain ⟨k1, k2, k3, k4, ⟨k5, k5'⟩, k6, k7, k8⟩ := q5
        unfold r_P y_P
        rw [n19, n20, n21, E41 0 (by omega), E41 1 (by omega), E41 2 (by omega), E41 3 (by omega), E41 4 (by omega), E41 5 (by omega), E41 6 (by omega), E41 8 (by omega)]
        refine ⟨k1, k2, k3, k4, ⟨k5, ?_⟩, fun i g1 g2 => ?_, k7, k8⟩
        · rw [k5']
          exact y_sum_congr _ (fun j hj => by
            show 1 - E2 1 (9 + j) = 1 - E4 1 (9 + j)
            rw [E41 _ (by omega)])
        · rw [E41 (9 + i) (by omega), E41 (49 + i) (by omega), E41 (129 + i) (by omega)]
          exact k6 i g1 g2
      · intro c
        rw [n19] at c
        exact r_R_c (q6 c) (fun c j g => n96 c j (by omega) (by omega) (by omega) (by omega)) (fun j g1 g2 g3 => E41 j g2)
      · intro i g1 g2
        rw [n19] at g2 ⊢
        obtain ⟨u1, u2⟩ := q4 i g1 (by omega)
        have m57 : M9 57 i = M7 57 i := by rw [hM9, z_st_c (by decide), z_st_c (by decide)]
        rw [t4 i g1 (by omega), m57]
        exact ⟨u1, u2⟩
      · have m55 : M9 55 1 = 0 := by rw [hM9, z_st_i rfl]
        refine ⟨by rw [E41 7 (by omega), p8, m55], by omega, fun a i g1 g2 => by omega⟩
      · have m48 : M9 48 8 = 0 := by rw [hM9, z_st_c (by decide), z_st_i rfl]
        refine ⟨by rw [E4c 0 42 (by decide) (by decide), p9.2.2.2, m48], by omega, fun q => by omega⟩
    rcases hk with ⟨k1, k2, k3⟩ | ⟨t, sz, m, hp, hl, h16, h105⟩
    · -- no lines at all
      obtain ⟨E2, d1, d2, d3, d4, d5⟩ := dS_e (N := N) (E := E') (m := 0) hN f3 (k3 5 (by omega) (by omega)) (by omega) (fun i g1 g2 => by omega)
      have z5 : ∀ j : Int, 0 ≤ j → j ≤ 8 → M5 19 j = 0 := fun j g1 g2 => by rw [m5 j g1 (by omega)]; exact k1 j g1 g2
      have w5 : ∀ j : Int, 0 ≤ j → j < 169 → j ≠ 8 → E2 1 j = 0 := fun j g1 g2 g3 => by rw [d2 1 j (by decide) (by omega)]; exact k3 j g1 g2
      obtain ⟨M6, r1, r2⟩ := perform_0 (C := M5) (N := N) (by omega) (by rw [z5 6 (by omega) (by omega)]; omega) (by rw [m5 9 (by omega) (by omega)]; exact k2)
      obtain ⟨M7, s1, s2⟩ := lay_0 (N := N) (M := M6) (by omega) (by rw [r2 19 6 (by omega)]; exact z5 6 (by omega) (by omega))
      have e18 : E2 1 8 = -1 := by
        rcases d5 with q | q
        · exact q.1
        · omega
      rw [d1]
      refine fin M6 M7 E2 E2 0 r2 (fun c j _ g => s2 c j g) (fun _ _ _ => rfl) (by omega) (z5 6 (by omega) (by omega)) (w5 5 (by omega) (by omega) (by omega)) (by rw [w5 6 (by omega) (by omega) (by omega), z5 5 (by omega) (by omega)]) (w5 7 (by omega) (by omega) (by omega)) d4 r1 s1 (laysBy_0 (by omega) (w5 5 (by omega) (by omega) (by omega))) (fun i g1 g2 => by omega) ?_ (fun q => by rw [z5 8 (by omega) (by omega)] at q; omega)
      unfold r_P
      rw [z5 0 (by omega) (by omega), z5 1 (by omega) (by omega), z5 2 (by omega) (by omega), z5 3 (by omega) (by omega), z5 4 (by omega) (by omega), z5 5 (by omega) (by omega), z5 6 (by omega) (by omega), z5 7 (by omega) (by omega), z5 8 (by omega) (by omega), w5 0 (by omega) (by omega) (by omega), w5 1 (by omega) (by omega) (by omega), w5 2 (by omega) (by omega) (by omega), w5 3 (by omega) (by omega) (by omega), w5 4 (by omega) (by omega) (by omega), w5 5 (by omega) (by omega) (by omega), w5 6 (by omega) (by omega) (by omega), e18]
      exact ⟨⟨rfl, rfl, rfl, rfl, rfl, rfl, rfl⟩, by omega, fun _ => ⟨rfl, rfl, rfl, rfl, rfl, rfl⟩, fun q => by omega, ⟨by omega, rfl⟩, fun i g1 g2 => by omega, by omega, ⟨fun q => by omega, fun q => by omega⟩⟩
    · have rr := plI_r hp
      obtain ⟨pf, pn, ps, pit⟩ := id hp
      unfold plN at pn
      have ts := y_ts pf.1.2 pf.2.1.2
      have is01 : ∀ i : Int, 0 ≤ i → i < m → (M' 11 i = -1 → E' 1 (9 + i) = 0) ∧ (M' 11 i ≠ -1 → E' 1 (9 + i) = 1) := fun i g1 g2 => ⟨fun q => ((pit i g1 g2).2.2.1 q).1, fun q => ((pit i g1 g2).2.2.2 q).1⟩
      obtain ⟨E2, d1, d2, d3, d4, d5⟩ := dS_e (N := N) (E := E') (m := m) hN f3 pn.2.1 (by omega) (fun i g1 g2 => by
        by_cases q : M' 11 i = -1
        · exact Or.inl ((is01 i g1 g2).1 q)
        · exact Or.inr ((is01 i g1 g2).2 q))
      have w1 : ∀ j : Int, j ≠ 8 → E2 1 j = E' 1 j := fun j g => d2 1 j (by decide) (by omega)
      have a3 : ∀ j : Int, 0 ≤ j → j < 20 → M5 20 j = M' 11 j ∧ M5 21 j = M' 12 j ∧ M5 22 j = M' 13 j ∧ M5 23 j = M' 14 j ∧ M5 24 j = M' 15 j ∧ M5 25 j = M' 16 j ∧ M5 27 j = M' 18 j := fun j g1 g2 => by
        have := c3 j g1 g2
        rw [m4c 11 j (by decide) (by decide), m4c 12 j (by decide) (by decide), m4c 13 j (by decide) (by decide), m4c 14 j (by decide) (by decide), m4c 15 j (by decide) (by decide), m4c 16 j (by decide) (by decide), m4c 18 j (by decide) (by decide)] at this
        exact this
      have a4 : ∀ j : Int, 0 ≤ j → j < 8 → M5 26 j = M' 17 j := fun j g1 g2 => by rw [c4 j g1 g2, m4c 17 j (by decide) (by decide)]
      have t6 : M5 19 6 = m := by rw [m5 6 (by omega) (by omega)]; exact pn.1
      have t7 := m5 7 (by omega) (by omega)
      have t8 := m5 8 (by omega) (by omega)
      have t9 := m5 9 (by omega) (by omega)
      have t5 : M5 19 5 = m + 1 := by rw [m5 5 (by omega) (by omega)]; exact h105
      have ewk : ∀ i : Int, i ≤ 20 → y_wk M5 i = wkD M' i := fun i g => y_sum_congr _ (fun j hj => by
        show (if M5 20 j = -1 then (1 : Int) else 0) = if M' 11 j = -1 then 1 else 0
        rw [(a3 j (by omega) (by omega)).1])
      have hP5 : y_P M5 := by
        unfold y_P
        rw [m5 0 (by omega) (by omega), m5 1 (by omega) (by omega), m5 2 (by omega) (by omega), m5 3 (by omega) (by omega), m5 4 (by omega) (by omega), t6]
        exact ⟨pf.1.2, pf.2.1.2, pf.2.2.1.2, pf.2.2.2.1.2, pf.2.2.2.2.2, by omega⟩
      -- the first step
      have fst : (M' 10 8 = 0 ∧ E2 1 8 = -1 ∧ M5 19 9 = -1) ∨ (0 < M' 10 8 ∧ E2 1 8 = M5 19 9 ∧ (0 ≤ M5 19 9 ∧ M5 19 9 < m) ∧ M' 11 (M5 19 9) ≠ -1) := by
        by_cases c : M' 10 8 = 0
        · obtain ⟨z1, z2⟩ := ps.1 c
          left
          refine ⟨c, ?_, by rw [t9]; exact z1⟩
          rcases d5 with q | ⟨q1, q2, q3⟩
          · exact q.1
          · have := (is01 _ q1.1 q1.2).1 (z2 _ q1.1 q1.2)
            omega
        · obtain ⟨z1, z2, z3⟩ := ps.2 (by omega)
          right
          have y1 := (is01 _ z1.1 z1.2).2 z2
          refine ⟨by omega, ?_, by rw [t9]; exact z1, by rw [t9]; exact z2⟩
          rcases d5 with ⟨q1, q2⟩ | ⟨q1, q2, q3⟩
          · have := q2 _ z1.1 z1.2
            omega
          · by_cases l : E2 1 8 < M' 10 9
            · have := (is01 _ q1.1 q1.2).1 (z3 _ q1.1 l)
              omega
            · by_cases l2 : M' 10 9 < E2 1 8
              · have := q3 _ z1.1 l2
                omega
              · omega
      have rP : r_P M5 E2 := by
        unfold r_P
        refine ⟨?_, ?_, ?_, ?_, ⟨?_, ?_⟩, fun i g1 g2 => ?_, ?_, ?_⟩
        · rw [w1 0 (by omega), w1 1 (by omega), w1 2 (by omega), w1 3 (by omega), w1 4 (by omega), w1 5 (by omega), w1 6 (by omega), m5 0 (by omega) (by omega), m5 1 (by omega) (by omega), m5 2 (by omega) (by omega), m5 3 (by omega) (by omega), m5 4 (by omega) (by omega), t6, t5]
          exact ⟨pf.1.1, pf.2.1.1, pf.2.2.1.1, pf.2.2.2.1.1, pf.2.2.2.2.1, pn.2.1, h16⟩
        · omega
        · intro q; omega
        · exact fun _ => hP5
        · omega
        · rw [t7, t6, pn.2.2.2.2.2.2.2.2.2.2.1]
          exact y_sum_congr _ (fun j hj => by
            show (if M' 11 j = -1 then (1 : Int) else 0) = 1 - E2 1 (9 + j)
            rw [w1 _ (by omega)]
            by_cases q : M' 11 j = -1
            · rw [if_pos q, (is01 j (by omega) (by omega)).1 q]; rfl
            · rw [if_neg q, (is01 j (by omega) (by omega)).2 q]; rfl)
        · rw [t6] at g2
          obtain ⟨i1, i2, i3, i4⟩ := pit i g1 g2
          obtain ⟨b0, b1, -⟩ := a3 i g1 (by omega)
          rw [b0, b1, w1 _ (by omega), w1 _ (by omega), w1 _ (by omega), m5 0 (by omega) (by omega), m5 1 (by omega) (by omega)]
          refine ⟨i2.1, ?_, fun q => (i4 q).2.1, i2.2.1, i2.2.2⟩
          by_cases q : M' 11 i = -1
          · rw [if_pos q]; exact (is01 i g1 g2).1 q
          · rw [if_neg q]; exact (is01 i g1 g2).2 q
        · rcases fst with q | q <;> omega
        · rcases fst with q | q
          · exact ⟨fun z => by omega, fun z => by omega⟩
          · exact ⟨fun z => by omega, fun z => ⟨by omega, by omega⟩⟩
      -- the run
      have run : ∃ M6 : zMem, Trace_perform N M5 = some (0, M6) ∧ (∀ c j, (c < 28 ∨ 40 < c) → M6 c j = M5 c j) ∧ (0 < M5 19 8 → r_R N M6 E2) := by
        rcases fst with ⟨q1, q2, q3⟩ | ⟨q1, q2, q3, q4⟩
        · obtain ⟨M6, r1, r2⟩ := perform_0 (C := M5) (N := N) (by omega) (by omega) q3
          exact ⟨M6, r1, r2, fun z => by omega⟩
        · have pR : p_R M5 (E2 1) := by
            refine ⟨by omega, by rw [w1 5 (by omega), t6]; exact pn.2.1, fun i g1 g2 => ?_, ⟨q2, by omega, by rw [(a3 _ q3.1 (by omega)).1]; exact q4⟩, ⟨⟨?_, by omega⟩, fun i g1 g2 g3 => ?_⟩⟩
            · rw [t6] at g2
              obtain ⟨i1, i2, i3, i4⟩ := pit i g1 g2
              obtain ⟨b0, b1, b2, b3, b4, b5, b6⟩ := a3 i g1 (by omega)
              refine ⟨by rw [b0]; exact i2.1, fun z => ?_, fun z => ?_⟩
              · rw [b0] at z
                obtain ⟨y1, y2, y3, -⟩ := i3 z
                unfold p_W
                rw [w1 _ (by omega), w1 _ (by omega), b2]
                exact ⟨y1, y2, by omega⟩
              · rw [b0] at z
                obtain ⟨y1, y2, y3, -⟩ := i4 z
                unfold p_S
                rw [w1 _ (by omega), w1 _ (by omega), w1 _ (by omega), w1 _ (by omega), w1 _ (by omega), b0, b3, b4, b5, t6]
                refine ⟨y1, y2, fun z7 => ?_⟩
                obtain ⟨l1, l2, l3, l4⟩ := hl i g1 g2 z z7
                unfold okF okS at l3
                unfold okS at l4
                have r14 : 0 ≤ M' 14 i ∧ M' 14 i < m := by
                  rcases l3 with k | k | k
                  · exact k.2.1
                  · exact k.2.1.1
                  · exact k.2.2.1
                have e14 := (a3 (M' 14 i) r14.1 (by omega)).1
                have e16 := (a3 (M' 16 i) l4.1.1 (by omega)).1
                rw [e14, e16]
                have o14 := (pit _ r14.1 r14.2).2.1.1
                refine ⟨l1, r14, l2, l4.1, l4.2, fun k4 => ?_, fun k5 => ?_, fun k6 => ⟨?_, y3 k6⟩⟩
                · rcases l3 with k | k | k
                  · omega
                  · omega
                  · exact k.2.2.2
                · rcases l3 with k | k | k
                  · exact k.2.2
                  · omega
                  · omega
                · rcases l3 with k | k | k
                  · omega
                  · have := k.2.1.2; have := k.2.2; omega
                  · omega
            · rw [t6, ewk m (by omega), t7]; exact pn.2.2.2.2.2.2.2.2.2.2.1
            · rw [t6] at g2
              obtain ⟨b0, b1, b2, b3, b4, b5, b6⟩ := a3 i g1 (by omega)
              rw [b0] at g3
              obtain ⟨-, -, -, y4, y5⟩ := (pit i g1 g2).2.2.1 g3
              have wl := wkD_lt (M := M') g1 g2 g3
              have wn := wkD_nn (M := M') i
              rw [ewk i (by omega), b6, a4 _ wn (by omega)]
              exact ⟨y4, y5⟩
          obtain ⟨M6, r1, r2, r3⟩ := perform_e (N := N) (by omega) pR
          exact ⟨M6, r1, r2, fun _ => r3⟩
      obtain ⟨M6, r1, r2, r3⟩ := run
      have c19 : M6 19 = M5 19 := funext fun j => r2 19 j (by omega)
      obtain ⟨L, M7, E3, l1, l2, l3, l4⟩ := law0_e (N := N) (C := M6) (D := E2) (ca := 57) (by unfold y_P; rw [c19]; exact hP5) (by omega) (Or.inl rfl) (by rw [c19, t6, w1 5 (by omega)]; exact pn.2.1) (fun i g1 g2 => by
        rw [c19, t6] at g2
        rw [c19, w1 _ (by omega), r2 21 i (by omega), (a3 i g1 (by omega)).2.1, m5 0 (by omega) (by omega), m5 1 (by omega) (by omega)]
        exact (pit i g1 g2).2.1.2)
      rw [d1]
      refine fin M6 M7 E2 E3 m r2 l3.1 l3.2.1 (by omega) t6 (by rw [w1 5 (by omega)]; exact pn.2.1) (by rw [w1 6 (by omega), t5]; exact h16) (by rw [w1 7 (by omega)]; exact e7) d4 r1 (lay_of l1) l2 (fun i g1 g2 => ?_) rP r3
      obtain ⟨y1, y2, y3⟩ := l3.2.2.1 i g1 (by rw [c19, t6]; exact g2)
      have y4 := l4 i g1 (by rw [c19, t6]; exact g2)
      rw [c19] at y3
      rw [y1, y2]
      exact ⟨rfl, y3.resolve_left y4⟩
