/-! reading: the first line -/
theorem isQuick_b {q S : Int} {M : zMem} (hq : 0 ≤ q ∧ q ≤ 100000) (hS : z_Rg S) : ∃ r : Int, (r = 0 ∨ r = 1) ∧ Drum_isQuick q S M = some (r, M) := by
  unfold Drum_isQuick
  simp only [z_jn_e]
  by_cases c : q = 0
  · exact ⟨1, Or.inr rfl, by rw [z_eq_t (by omega)]⟩
  · rw [z_eq_f (by omega), z_lt_t (by omega)]
    by_cases d : q < S
    · have e0 := Int.emod_nonneg S (show q ≠ 0 by omega)
      have e1 := Int.emod_lt_of_pos S (show 0 < q by omega)
      rw [z_lt_t (by omega), z_mt_t (by omega), z_eq_e (by omega) (by omega)]
      by_cases f : S % q = 0
      · rw [if_pos f]; exact ⟨1, Or.inr rfl, rfl⟩
      · rw [if_neg f]; exact ⟨0, Or.inl rfl, rfl⟩
    · rw [z_lt_f (by omega)]; exact ⟨0, Or.inl rfl, rfl⟩
theorem quickT_b {N : Nat} {S : Int} {M : zMem} (hN : 1000 ≤ N) (h : cT M) (hS : z_Rg S) : ∃ (r : Int) (M' : zMem), z_eq (M 9 1) 2 (z_cl (Drum_isQuick (M 9 3) S M) (fun r_1 M4 => z_eq r_1 0 (z_cl (Reader_fail 2 M4) (fun u_1 M5 => z_cl (Reader_takeNumber N 0 12 M5) (fun r_ M3 => some (r_, M3)))) (z_cl (Reader_takeNumber N 0 12 M4) (fun r_ M3 => some (r_, M3))))) (z_cl (Reader_takeNumber N 0 12 M) (fun r_ M3 => some (r_, M3))) = some (r, M') ∧ bM M M' := by
  have k := h.2.2.2.1
  obtain ⟨r, M', y1, y2, y3⟩ := number_b (N := N) (lo := 0) (hi := 12) hN h (by omega) (by omega)
  refine ⟨r, M', ?_, y3⟩
  by_cases c : M 9 1 = 2
  · obtain ⟨r1, hr, e⟩ := isQuick_b (q := M 9 3) (S := S) (M := M) (h.2.2.2.2.1 c) hS
    simp only [e, z_cl_e, fail_b h, y1]
    rw [z_eq_t (by omega)]
    rcases hr with q | q <;> subst q
    · rw [z_eq_t (by omega)]
    · rw [z_eq_f (by omega)]
  · rw [z_eq_f (by omega), y1, z_cl_e]
theorem quick_b {N : Nat} {S : Int} {M : zMem} (hN : 1000 ≤ N) (h : cT M) (hS : z_Rg S) : ∃ (r : Int) (M' : zMem), Reader_takeQuick N S M = some (r, M') ∧ bM M M' := by
  obtain ⟨M1, x1, x2⟩ := word_b (i := 4) hN h
  obtain ⟨r, M', y1, y2⟩ := quickT_b (N := N) hN x2.1 hS
  refine ⟨r, M', ?_, bM_t x2 y2⟩
  unfold Reader_takeQuick
  rw [x1, z_cl_e]
  simp only [z_jn_e]
  exact y1
def dT5 (N : Nat) (M : zMem) : zO := z_cl (Reader_takeMeasure N 5 0 9 M) (fun r_4 M10 => z_pf M10 10 4 r_4 (fun M11 => some (0, M11)))
def dT4 (N : Nat) (M : zMem) : zO := z_cl (Reader_takeQuick N (M 10 1) M) (fun r_3 M8 => z_pf M8 10 3 r_3 (fun M9 => dT5 N M9))
def dT3 (N : Nat) (M : zMem) : zO := z_cl (Reader_takeMeasure N 3 0 9 M) (fun r_2 M6 => z_pf M6 10 2 r_2 (fun M7 => dT4 N M7))
def dT2 (N : Nat) (M : zMem) : zO := z_cl (Reader_takeMeasure N 2 2 12 M) (fun r_1 M4 => z_pf M4 10 1 r_1 (fun M5 => dT3 N M5))
def dT1 (N : Nat) (M : zMem) : zO := z_cl (Reader_takeMeasure N 1 1 4 M) (fun r_ M2 => z_pf M2 10 0 r_ (fun M3 => dT2 N M3))
theorem dT_e {N : Nat} {M : zMem} : Reader_readDrum N M = z_cl (Reader_takeWord N 0 M) (fun u_ M1 => dT1 N M1) := rfl
def eT5 (N : Nat) (E : zMem) : zO := z_cl (Model_named N 26 0 9 E) (fun r_3 M14 => z_wr M14 1 169 4 r_3 (fun M15 => some (0, M15)))
def eT4c (N : Nat) (M10 : zMem) : zO := z_jn (fun (M11 : zMem) => z_jn (fun (x2 x3 : Int) (M12 : zMem) => z_wr M12 1 169 x3 x2 (fun M13 => eT5 N M13)) (fun k3 => z_eq (M11 0 12) 0 (z_cl (Model_reads N 0 12 M11) (fun r_4 M16 => k3 r_4 3 M16)) (k3 0 3 M11))) (fun k2 => z_eq (M10 0 12) 0 (z_eq (M10 0 9) 2 (z_cl (Model_isQuick (M10 0 10) M10) (fun r_5 M17 => z_eq r_5 0 (z_cl (Model_faults 2 M17) (fun u_2 M18 => k2 M18)) (k2 M17))) (k2 M10)) (k2 M10))
def eT4 (N : Nat) (M8 : zMem) : zO := z_jn (fun (x1 : Int) (M9 : zMem) => z_cl (Model_passes N x1 M9) (fun u_1 M10 => eT4c N M10)) (fun k1 => z_jn (fun (M19 : zMem) => k1 1 M19) (fun k4 => z_eq (M8 0 12) 0 (z_cl (Model_isWord N 25 M8) (fun r_6 M20 => z_eq r_6 0 (k1 0 M20) (k4 M20))) (k4 M8)))
def eT3 (N : Nat) (E : zMem) : zO := z_cl (Model_named N 24 0 9 E) (fun r_2 M7 => z_wr M7 1 169 2 r_2 (fun M8 => eT4 N M8))
def eT2 (N : Nat) (E : zMem) : zO := z_cl (Model_named N 23 2 12 E) (fun r_1 M5 => z_wr M5 1 169 1 r_1 (fun M6 => eT3 N M6))
def eT1 (N : Nat) (E : zMem) : zO := z_cl (Model_named N 22 1 4 E) (fun r_ M3 => z_wr M3 1 169 0 r_ (fun M4 => eT2 N M4))
theorem eT_e {N : Nat} {E : zMem} : Model_readsDrum N E = z_jn (fun (x0 : Int) (M1 : zMem) => z_cl (Model_passes N x0 M1) (fun u_ M2 => eT1 N M2)) (fun k0 => z_eq (E 0 11) 8 (k0 1 E) (k0 0 E)) := rfl
/-- frames of the first line -/
def dF (M M' : zMem) : Prop := (∀ c j, c ≠ 9 → c ≠ 3 → c ≠ 10 → M' c j = M c j) ∧ ∀ j : Int, 5 ≤ j → M' 10 j = M 10 j
def eF (E E' : zMem) : Prop := ∀ c j, (c ≠ 0 ∨ j < 7 ∨ 14 < j) → (c ≠ 1 ∨ 5 ≤ j) → E' c j = E c j
theorem dF_t {M M' M'' : zMem} (h : dF M M') (h' : dF M' M'') : dF M M'' := ⟨fun c j g1 g2 g3 => by rw [h'.1 c j g1 g2 g3, h.1 c j g1 g2 g3], fun j g => by rw [h'.2 j g, h.2 j g]⟩
theorem eF_t {E E' E'' : zMem} (h : eF E E') (h' : eF E' E'') : eF E E'' := fun c j g1 g2 => by rw [h' c j g1 g2, h c j g1 g2]
theorem dF_a {M M' : zMem} (h : aM M M') : dF M M' := ⟨fun c j g1 g2 _ => h c j g1 g2, fun j _ => h 10 j (by decide) (by decide)⟩
theorem eF_a {E E' : zMem} (h : aE E E') : eF E E' := fun c j g1 _ => h c j g1
theorem dF_s {M : zMem} {j v : Int} (h : j < 5) : dF M (z_st M 10 j v) := ⟨fun c j' g1 g2 g3 => z_st_c g3, fun j' g => z_st_n (by omega)⟩
theorem eF_s {E : zMem} {j v : Int} (h : j < 5) : eF E (z_st E 1 j v) := fun c j' g1 g2 => by
  by_cases q : c = 1
  · subst q; exact z_st_n (by omega)
  · exact z_st_c q
theorem cT_10 {M : zMem} {j v : Int} (h : cT M) : cT (z_st M 10 j v) := cT_c h (fun c j g => z_st_c (by omega))
theorem bE_10 {M E : zMem} {j v j' v' : Int} (h : bE M E) : bE (z_st M 10 j v) (z_st E 1 j' v') := by
  unfold bE at h ⊢
  rw [z_st_c (by decide), z_st_c (by decide), z_st_c (by decide), z_st_c (by decide), z_st_c (by decide), z_st_c (by decide), z_st_c (by decide), z_st_c (by decide), z_st_c (by decide)]
  exact h
theorem bd_10 {M E : zMem} {j v j' v' : Int} (h : bd M E) : bd (z_st M 10 j v) (z_st E 1 j' v') := ⟨cT_10 h.1, bE_10 h.2⟩
theorem gd_10 {t : Int → Int} {sz b : Int} {w : Nat} {M E : zMem} {j v j' v' : Int} (h : gd t sz b w M E) : gd t sz b w (z_st M 10 j v) (z_st E 1 j' v') := by
  refine ⟨tt_T_c h.1 (z_st_c (by decide)) (fun _ => z_st_c (by decide)) (z_st_c (by decide)) (fun _ => z_st_c (by decide)), ?_, ?_⟩
  · rw [z_st_c (by decide), z_st_c (by decide), z_st_c (by decide), z_st_c (by decide), z_st_c (by decide), z_st_c (by decide), z_st_c (by decide), z_st_c (by decide)]; exact h.2.1
  · have e1 : z_st M 10 j v 9 = M 9 := funext fun x => z_st_c (by decide)
    have e2 : z_st E 1 j' v' 0 = E 0 := funext fun x => z_st_c (by decide)
    unfold tk_S
    rw [e1, e2]
    exact h.2.2
/-- what the rest of the line comes to -/
def dO (t : Int → Int) (sz : Int) (M E : zMem) (a b : zO) : Prop := ∃ M' E' : zMem, a = some (0, M') ∧ b = some (0, E') ∧ dF M M' ∧ eF E E' ∧ (bd M' E' ∨ ∃ (b' : Int) (w' : Nat), gd t sz b' w' M' E' ∧
  (E' 1 0 = M' 10 0 ∧ 1 ≤ M' 10 0 ∧ M' 10 0 ≤ 4) ∧ (E' 1 1 = M' 10 1 ∧ 2 ≤ M' 10 1 ∧ M' 10 1 ≤ 12) ∧ (E' 1 2 = M' 10 2 ∧ 0 ≤ M' 10 2 ∧ M' 10 2 ≤ 9) ∧ (E' 1 3 = M' 10 3 ∧ (M' 10 3 = 0 ∨ (0 < M' 10 3 ∧ M' 10 3 < M' 10 1 ∧ M' 10 1 % M' 10 3 = 0))) ∧ (E' 1 4 = M' 10 4 ∧ 0 ≤ M' 10 4 ∧ M' 10 4 ≤ 9))
theorem dO_t {t : Int → Int} {sz : Int} {M E M1 E1 : zMem} {a b : zO} (h1 : dF M M1) (h2 : eF E E1) (h : dO t sz M1 E1 a b) : dO t sz M E a b := by
  obtain ⟨M', E', x1, x2, x3, x4, x5⟩ := h
  exact ⟨M', E', x1, x2, dF_t h1 x3, eF_t h2 x4, x5⟩
section
variable {t : Int → Int} {sz b : Int} {w N : Nat} {M E : zMem}
theorem dB5 (hN : 1000 ≤ N) (h : bd M E) : dO t sz M E (dT5 N M) (eT5 N E) := by
  obtain ⟨r, M1, x1, x2, x3⟩ := measure_b (N := N) (i := 5) (lo := 0) (hi := 9) hN h.1 (by omega) (by omega)
  unfold dT5 eT5
  rw [x1, z_cl_e, z_pf_e, named_b h.2, z_cl_e, z_wr_t (by omega)]
  exact ⟨_, _, rfl, rfl, dF_t (dF_a (bM_a x3)) (dF_s (by omega)), eF_s (by omega), Or.inl (bd_10 (bM_d h x3))⟩
theorem dB4 (hN : 1000 ≤ N) (h : bd M E) (hS : z_Rg (M 10 1)) : dO t sz M E (dT4 N M) (eT4 N E) := by
  have e12 := h.2.1
  obtain ⟨r, M1, x1, x2⟩ := quick_b (N := N) hN h.1 hS
  unfold dT4 eT4 eT4c
  simp only [z_jn_e, x1, z_cl_e, z_pf_e]
  rw [z_eq_f (by omega), passes_b e12 (by omega)]
  simp only [z_cl_e]
  rw [z_eq_f (by omega), z_eq_f (by omega), z_wr_t (by omega)]
  exact dO_t (dF_t (dF_a (bM_a x2)) (dF_s (by omega))) (eF_s (by omega)) (dB5 hN (bd_10 (bM_d h x2)))
theorem dB3 (hN : 1000 ≤ N) (h : bd M E) (hS : z_Rg (M 10 1)) : dO t sz M E (dT3 N M) (eT3 N E) := by
  obtain ⟨r, M1, x1, x2, x3⟩ := measure_b (N := N) (i := 3) (lo := 0) (hi := 9) hN h.1 (by omega) (by omega)
  unfold dT3 eT3
  rw [x1, z_cl_e, z_pf_e, named_b h.2, z_cl_e, z_wr_t (by omega)]
  exact dO_t (dF_t (dF_a (bM_a x3)) (dF_s (by omega))) (eF_s (by omega)) (dB4 hN (bd_10 (bM_d h x3)) (by rw [z_st_n (by decide), x3.2 10 1 (by decide)]; exact hS))
theorem dB2 (hN : 1000 ≤ N) (h : bd M E) : dO t sz M E (dT2 N M) (eT2 N E) := by
  obtain ⟨r, M1, x1, x2, x3⟩ := measure_b (N := N) (i := 2) (lo := 2) (hi := 12) hN h.1 (by omega) (by omega)
  unfold dT2 eT2
  rw [x1, z_cl_e, z_pf_e, named_b h.2, z_cl_e, z_wr_t (by omega)]
  exact dO_t (dF_t (dF_a (bM_a x3)) (dF_s (by omega))) (eF_s (by omega)) (dB3 hN (bd_10 (bM_d h x3)) (by rw [z_st_i rfl]; exact x2))
theorem dB1 (hN : 1000 ≤ N) (h : bd M E) : dO t sz M E (dT1 N M) (eT1 N E) := by
  obtain ⟨r, M1, x1, x2, x3⟩ := measure_b (N := N) (i := 1) (lo := 1) (hi := 4) hN h.1 (by omega) (by omega)
  unfold dT1 eT1
  rw [x1, z_cl_e, z_pf_e, named_b h.2, z_cl_e, z_wr_t (by omega)]
  exact dO_t (dF_t (dF_a (bM_a x3)) (dF_s (by omega))) (eF_s (by omega)) (dB2 hN (bd_10 (bM_d h x3)))
def d0 (M E : zMem) : Prop := E 1 0 = M 10 0 ∧ 1 ≤ M 10 0 ∧ M 10 0 ≤ 4
def d1 (M E : zMem) : Prop := E 1 1 = M 10 1 ∧ 2 ≤ M 10 1 ∧ M 10 1 ≤ 12
def d2 (M E : zMem) : Prop := E 1 2 = M 10 2 ∧ 0 ≤ M 10 2 ∧ M 10 2 ≤ 9
def d3 (M E : zMem) : Prop := E 1 3 = M 10 3 ∧ (M 10 3 = 0 ∨ (0 < M 10 3 ∧ M 10 3 < M 10 1 ∧ M 10 1 % M 10 3 = 0))
theorem dJ5 (hN : 1000 ≤ N) (h : gd t sz b w M E) (q0 : d0 M E) (q1 : d1 M E) (q2 : d2 M E) (q3 : d3 M E) : dO t sz M E (dT5 N M) (eT5 N E) := by
  obtain ⟨r, r', M1, E1, x1, x2, x3, x4, x5, x6, x7⟩ := measure_j (i := 5) (i' := 26) (lo := 0) (hi := 9) hN h (by decide +kernel) (by omega)
  unfold dT5 eT5
  rw [x1, x2, z_cl_e, z_cl_e, z_pf_e, z_wr_t (by omega)]
  refine ⟨_, _, rfl, rfl, dF_t (dF_a x5) (dF_s (by omega)), eF_t (eF_a x6) (eF_s (by omega)), ?_⟩
  rcases x7 with k | ⟨b', w', k, e, l1, l2⟩
  · exact Or.inl (bd_10 k)
  · have m : ∀ j, M1 10 j = M 10 j := fun j => x5 10 j (by decide) (by decide)
    have n : ∀ j, E1 1 j = E 1 j := fun j => x6 1 j (by omega)
    refine Or.inr ⟨b', w', gd_10 k, ?_⟩
    unfold d0 d1 d2 d3 at *
    rw [z_st_i rfl, z_st_i rfl, z_st_n (by decide), z_st_n (by decide), z_st_n (by decide), z_st_n (by decide), z_st_n (by decide), z_st_n (by decide), z_st_n (by decide), z_st_n (by decide), m, m, m, m, n, n, n, n]
    exact ⟨q0, q1, q2, q3, e, l1, l2⟩
theorem dJ4 (hN : 1000 ≤ N) (h : gd t sz b w M E) (q0 : d0 M E) (q1 : d1 M E) (q2 : d2 M E) : dO t sz M E (dT4 N M) (eT4 N E) := by
  unfold d0 d1 d2 at *
  obtain ⟨r, M1, E1, x1, x2, x3, x4, x5, x6, x7⟩ := word_j (i := 4) (i' := 25) hN h (by decide +kernel)
  have m : ∀ j, M1 10 j = M 10 j := fun j => x5 10 j (by decide) (by decide)
  have n : ∀ j, E1 1 j = E 1 j := fun j => x6 1 j (by omega)
  have hE : eT4 N E = eT4c N E1 := by
    unfold eT4
    simp only [z_jn_e]
    rw [z_eq_t (by have := h.2.1.2.2; omega), x2, z_cl_e]
    rcases x3 with q | q <;> subst q
    · rw [z_eq_t (by omega), x4, z_cl_e]
    · rw [z_eq_f (by omega), x4, z_cl_e]
  have hM : ∀ S, Reader_takeQuick N S M = z_jn (fun (M2 : zMem) => z_cl (Reader_takeNumber N 0 12 M2) (fun r_ M3 => some (r_, M3))) (fun k0 => z_eq (M1 9 1) 2 (z_cl (Drum_isQuick (M1 9 3) S M1) (fun r_1 M4 => z_eq r_1 0 (z_cl (Reader_fail 2 M4) (fun u_1 M5 => k0 M5)) (k0 M4))) (k0 M1)) := fun S => by
    unfold Reader_takeQuick
    rw [x1, z_cl_e]
  unfold dT4
  rw [hE, hM]
  unfold eT4c
  simp only [z_jn_e]
  rcases x7 with k | ⟨b', w', k, -⟩
  · have e12 := k.2.1
    obtain ⟨r3, M2, f1, f2⟩ := quickT_b (N := N) (S := M 10 1) hN k.1 (by omega)
    rw [f1, z_cl_e, z_pf_e, z_eq_f (by omega), z_eq_f (by omega), z_wr_t (by omega)]
    exact dO_t (dF_t (dF_a (aM_t x5 (bM_a f2))) (dF_s (by omega))) (eF_t (eF_a x6) (eF_s (by omega))) (dB5 hN (bd_10 (bM_d k f2)))
  · have g12 := k.2.1.2.2
    have g3 := k.2.2.2.1
    have g10 := k.2.2.2.2.2.1
    have rg := tk_r k.2.2
    have a2 : M1 9 1 = 2 → E1 0 9 = 2 ∧ E1 0 10 = min (M1 9 3) 99999 := fun c => by
      rcases k.2.2.2.2.2.2 with q | q | q | q | q | q
      · have q1 := q.1; clear q; omega
      · have q1 := q.1; clear q; omega
      · exact ⟨q.2.1, q.2.2.2⟩
      · have q1 := q.1; clear q; omega
      · have q1 := q.1; clear q; omega
      · have q1 := q.1; clear q; omega
    have a3 : ¬ M1 9 1 = 2 → E1 0 9 ≠ 2 := fun c => by
      rcases k.2.2.2.2.2.2 with q | q | q | q | q | q <;> have q1 := q.1 <;> have q2 := q.2.1 <;> clear q <;> omega
    obtain ⟨r1, r2, M2, E2, y1, y2, y3, y4, y5, y6, y7⟩ := number_j (lo := 0) (hi := 12) hN k (by omega)
    -- the number is taken on both sides
    have go : (M1 9 1 = 2 → (M1 9 3 = 0 ∨ (0 < M1 9 3 ∧ M1 9 3 < M 10 1 ∧ M 10 1 % M1 9 3 = 0))) → dO t sz M E (z_cl (z_cl (Reader_takeNumber N 0 12 M1) (fun r_ M3 => some (r_, M3))) (fun r_3 M8 => z_pf M8 10 3 r_3 (fun M9 => dT5 N M9))) (z_eq (E1 0 12) 0 (z_cl (Model_reads N 0 12 E1) (fun r_4 M16 => z_wr M16 1 169 3 r_4 (fun M13 => eT5 N M13))) (z_wr E1 1 169 3 0 (fun M13 => eT5 N M13))) := fun hq => by
      rw [y1, z_cl_e, z_cl_e, z_pf_e, z_eq_t (by omega), y2, z_cl_e, z_wr_t (by omega)]
      apply dO_t (dF_t (dF_a (aM_t x5 y5)) (dF_s (j := 3) (v := r1) (by omega))) (eF_t (eF_a (aE_t x6 y6)) (eF_s (j := 3) (v := r2) (by omega)))
      rcases y7 with l | ⟨b2, w2, l, e, l1, l2, hk⟩
      · exact dB5 hN (bd_10 l)
      · have m2 : ∀ j, M2 10 j = M 10 j := fun j => by rw [y5 10 j (by decide) (by decide), m]
        have n2 : ∀ j, E2 1 j = E 1 j := fun j => by rw [y6 1 j (by omega), n]
        refine dJ5 hN (gd_10 l) ?_ ?_ ?_ ?_
        · unfold d0; rw [z_st_n (by decide), z_st_n (by decide), m2, n2]; exact q0
        · unfold d1; rw [z_st_n (by decide), z_st_n (by decide), m2, n2]; exact q1
        · unfold d2; rw [z_st_n (by decide), z_st_n (by decide), m2, n2]; exact q2
        · unfold d3; rw [z_st_i rfl, z_st_i rfl, z_st_n (by decide), m2, hk.2]
          exact ⟨by rw [e, hk.2], hq hk.1⟩
    rw [z_eq_t (x := E1 0 12) (by omega)]
    by_cases c : M1 9 1 = 2
    · obtain ⟨c1, c2⟩ := a2 c
      have g3 := g3 c
      rw [z_eq_t (x := M1 9 1) (by omega), Drum_isQuick_e (by omega) (by omega), z_cl_e, z_eq_b, z_eq_t (x := E1 0 9) (by omega), Model_isQuick_e (by omega) (by rw [n]; omega), z_cl_e, z_eq_b, n, q1.1]
      by_cases d : M1 9 3 = 0 ∨ (0 < M1 9 3 ∧ M1 9 3 < M 10 1 ∧ M 10 1 % M1 9 3 = 0)
      · have : E1 0 10 = M1 9 3 := by omega
        rw [if_pos d, this, if_pos d]
        exact go (fun _ => d)
      · have d' : ¬ (E1 0 10 = 0 ∨ (0 < E1 0 10 ∧ E1 0 10 < M 10 1 ∧ M 10 1 % E1 0 10 = 0)) := by
          by_cases z : M1 9 3 ≤ 99999
          · rw [show E1 0 10 = M1 9 3 by omega]; exact d
          · omega
        rw [if_neg d, if_neg d']
        obtain ⟨M3, E3, z1, z2, z3, z4, z5⟩ := fail_j (k := 2) k (by omega)
        obtain ⟨rn, M4, n1, n2, n3⟩ := number_b (N := N) (lo := 0) (hi := 12) hN z3.1 (by omega) (by omega)
        have e12 := z3.2.1
        rw [z1, z_cl_e, n1, z_cl_e, z_cl_e, z_pf_e, z2, z_cl_e, z_eq_f (by omega), z_wr_t (by omega)]
        exact dO_t (dF_t (dF_a (aM_t x5 (aM_t z4 (bM_a n3)))) (dF_s (by omega))) (eF_t (eF_a (aE_t x6 z5)) (eF_s (by omega))) (dB5 hN (bd_10 (bM_d z3 n3)))
    · rw [z_eq_f (x := M1 9 1) (by omega), z_eq_f (x := E1 0 9) (by have := a3 c; omega)]
      exact go (fun q => absurd q c)
theorem dJ3 (hN : 1000 ≤ N) (h : gd t sz b w M E) (q0 : d0 M E) (q1 : d1 M E) : dO t sz M E (dT3 N M) (eT3 N E) := by
  obtain ⟨r, r', M1, E1, x1, x2, x3, x4, x5, x6, x7⟩ := measure_j (i := 3) (i' := 24) (lo := 0) (hi := 9) hN h (by decide +kernel) (by omega)
  unfold dT3 eT3
  rw [x1, x2, z_cl_e, z_cl_e, z_pf_e, z_wr_t (by omega)]
  apply dO_t (dF_t (dF_a x5) (dF_s (j := 2) (v := r) (by omega))) (eF_t (eF_a x6) (eF_s (j := 2) (v := r') (by omega)))
  have m : ∀ j, M1 10 j = M 10 j := fun j => x5 10 j (by decide) (by decide)
  have n : ∀ j, E1 1 j = E 1 j := fun j => x6 1 j (by omega)
  unfold d0 d1 at *
  rcases x7 with k | ⟨b', w', k, e, l1, l2⟩
  · exact dB4 hN (bd_10 k) (by rw [z_st_n (by decide), m]; omega)
  · refine dJ4 hN (gd_10 k) ?_ ?_ ?_
    · unfold d0; rw [z_st_n (by decide), z_st_n (by decide), m, n]; exact q0
    · unfold d1; rw [z_st_n (by decide), z_st_n (by decide), m, n]; exact q1
    · unfold d2; rw [z_st_i rfl, z_st_i rfl]; exact ⟨e, l1, l2⟩
theorem dJ2 (hN : 1000 ≤ N) (h : gd t sz b w M E) (q0 : d0 M E) : dO t sz M E (dT2 N M) (eT2 N E) := by
  obtain ⟨r, r', M1, E1, x1, x2, x3, x4, x5, x6, x7⟩ := measure_j (i := 2) (i' := 23) (lo := 2) (hi := 12) hN h (by decide +kernel) (by omega)
  unfold dT2 eT2
  rw [x1, x2, z_cl_e, z_cl_e, z_pf_e, z_wr_t (by omega)]
  apply dO_t (dF_t (dF_a x5) (dF_s (j := 1) (v := r) (by omega))) (eF_t (eF_a x6) (eF_s (j := 1) (v := r') (by omega)))
  have m : ∀ j, M1 10 j = M 10 j := fun j => x5 10 j (by decide) (by decide)
  have n : ∀ j, E1 1 j = E 1 j := fun j => x6 1 j (by omega)
  unfold d0 at *
  rcases x7 with k | ⟨b', w', k, e, l1, l2⟩
  · exact dB3 hN (bd_10 k) (by rw [z_st_i rfl]; exact x3)
  · refine dJ3 hN (gd_10 k) ?_ ?_
    · unfold d0; rw [z_st_n (by decide), z_st_n (by decide), m, n]; exact q0
    · unfold d1; rw [z_st_i rfl, z_st_i rfl]; exact ⟨e, l1, l2⟩
theorem dJ1 (hN : 1000 ≤ N) (h : gd t sz b w M E) : dO t sz M E (dT1 N M) (eT1 N E) := by
  obtain ⟨r, r', M1, E1, x1, x2, x3, x4, x5, x6, x7⟩ := measure_j (i := 1) (i' := 22) (lo := 1) (hi := 4) hN h (by decide +kernel) (by omega)
  unfold dT1 eT1
  rw [x1, x2, z_cl_e, z_cl_e, z_pf_e, z_wr_t (by omega)]
  apply dO_t (dF_t (dF_a x5) (dF_s (j := 0) (v := r) (by omega))) (eF_t (eF_a x6) (eF_s (j := 0) (v := r') (by omega)))
  rcases x7 with k | ⟨b', w', k, e, l1, l2⟩
  · exact dB2 hN (bd_10 k)
  · exact dJ2 hN (gd_10 k) (by unfold d0; rw [z_st_i rfl, z_st_i rfl]; exact ⟨e, l1, l2⟩)
theorem drum_j (hN : 1000 ≤ N) (h : gd t sz b w M E) : dO t sz M E (Reader_readDrum N M) (Model_readsDrum N E) := by
  have ek := is_k (n := 8) hN h (by decide) kept_8
  have rg := tk_r h.2.2
  rw [dT_e, eT_e]
  unfold Reader_takeWord
  simp only [ek, z_cl_e, z_jn_e, z_eq_b]
  by_cases c : E 0 11 = 8
  · obtain ⟨b', w', M', E', x1, x2, x3, x4, x5, x6⟩ := pass_j hN h
    rw [if_pos c, z_eq_t (by omega), x1, z_cl_e, z_cl_e, x3, z_cl_e]
    exact dO_t (dF_a x5) (eF_a x6) (dJ1 hN x4)
  · obtain ⟨Mf, M', E', x1, x1', -, x2, x3, x4, x5⟩ := failadv_j (k := 1) hN h (by omega)
    rw [if_neg c, z_eq_f (by omega), x1, z_cl_e, x1', z_cl_e, z_cl_e, passes_0 x2 x3.2.1, z_cl_e]
    exact dO_t (dF_a x4) (eF_a x5) (dB1 hN x3)
end
