/-! lawful, address, ways, dearest, lays -/
theorem Rel_whyNotLaw {N : Nat} {C D : zMem} {v : Int} (h : Rel N C D) (hN : 400 ≤ N) (hv : z_Rg v) : ∃ r : Int, Drum_refusalOfLaw N v C = some (r, C) ∧ Model_whyNotLaw N v D = some (r, D) ∧ ((r = 0 ∧ 0 < C 19 8 ∧ (v = 0 ∨ v = 1 ∨ (v = 2 ∧ y_rk C (C 19 6) ≤ 4))) ∨ r = -2 ∨ (r = -3 ∧ 0 < C 19 8)) := by
  obtain ⟨n1, n2, n3, n4⟩ := Rel_n h
  obtain ⟨l1, l2⟩ := Rel_loose h hN
  have hl : y_sum (fun i => if C 21 i = -1 then 1 else 0) (C 19 6).toNat = y_rk C (C 19 6) := rfl
  rw [hl] at l1 l2
  have lb : 0 ≤ y_rk C (C 19 6) ∧ y_rk C (C 19 6) ≤ 20 := by
    have := y_sum_b (f := fun i => if C 21 i = -1 then 1 else 0) (b := 1) (C 19 6).toNat (fun j _ => by
      show 0 ≤ (if C 21 j = -1 then (1 : Int) else 0) ∧ (if C 21 j = -1 then (1 : Int) else 0) ≤ 1
      split <;> omega)
    rw [hl] at this; omega
  unfold Drum_refusalOfLaw Model_whyNotLaw
  rw [Rel_hasRun h, z_cl_e, z_eq_b]
  by_cases c : 0 < C 19 8
  · rw [if_pos c, z_eq_f (by omega), z_il_t hv, Model_in_e hv (by omega) (by omega), z_cl_e, z_eq_b]
    by_cases cv : 0 ≤ v ∧ v ≤ 2
    · rw [if_pos cv, z_le_t (by omega), z_lt_f (by omega), z_jn_e, z_jn_e, l1, l2, z_cl_e, z_cl_e]
      by_cases c2 : v = 2
      · rw [z_eq_t (by omega), z_eq_t (by omega)]
        by_cases c4 : 4 < y_rk C (C 19 6)
        · rw [z_lt_t (by omega), z_lt_t (by omega)]
          exact ⟨-3, rfl, rfl, Or.inr (Or.inr ⟨rfl, c⟩)⟩
        · rw [z_lt_f (by omega), z_lt_f (by omega)]
          exact ⟨0, rfl, rfl, Or.inl ⟨rfl, c, by omega⟩⟩
      · rw [z_eq_f (by omega), z_eq_f (by omega)]
        exact ⟨0, rfl, rfl, Or.inl ⟨rfl, c, by omega⟩⟩
    · rw [if_neg cv]
      refine ⟨-2, ?_, rfl, Or.inr (Or.inl rfl)⟩
      by_cases c0 : 0 ≤ v
      · rw [z_le_t (by omega), z_lt_t (by omega)]
      · rw [z_le_f (by omega)]
  · rw [if_neg c, z_eq_t (by omega)]
    exact ⟨-2, rfl, rfl, Or.inr (Or.inl rfl)⟩
theorem Rel_sames {N : Nat} {C D M' E' : zMem} {ca : Nat} (h : Rel N C D) (hca : ca = 58) (k1 : ∀ c j, (c < 42 ∨ 54 < c ∨ c = 46) → c ≠ ca → M' c j = C c j) (k2 : ∀ c j, c = 1 ∨ c = 3 ∨ c = 4 → E' c j = D c j) (k3 : ∀ j : Int, j = 4 ∨ j = 5 ∨ j = 6 → E' 0 j = D 0 j) (k4 : r_S M' E') : Rel N M' E' := by
  have c19 : M' 19 = C 19 := funext fun j => k1 19 j (by omega) (by omega)
  have c55 : M' 55 = C 55 := funext fun j => k1 55 j (by omega) (by omega)
  have c56 : M' 56 = C 56 := funext fun j => k1 56 j (by omega) (by omega)
  have c57 : M' 57 = C 57 := funext fun j => k1 57 j (by omega) (by omega)
  have d1 : E' 1 = D 1 := funext fun j => k2 1 j (by omega)
  have d3 : E' 3 = D 3 := funext fun j => k2 3 j (by omega)
  refine Rel_mk h (fun c j g => k1 c j (by omega) (by omega)) (fun j => k2 4 j (by omega)) k3 (fun j _ _ _ => by rw [d1]) ?_ ?_ k4
  · unfold r_L; rw [c19, c57, d1]; exact h.2.2.2.2.1
  · unfold r_A; rw [c19, c55, c56, d1, d3]; exact h.2.2.2.2.2.1
theorem ok_ways {N : Nat} {C D : zMem} (h : Rel N C D) (hN : 400 ≤ N) : OK N (Drum_ways N C) (Model_ways N D) := by
  obtain ⟨r, r1, r2, r3⟩ := Rel_whyNotLaw (v := 2) h hN (by omega)
  unfold Drum_ways Model_ways
  rw [r1, r2, z_cl_e, z_cl_e]
  rcases r3 with ⟨e, c, hv⟩ | e | ⟨e, -⟩
  · obtain ⟨C', E', l1, l2, l3, l4, l5, l6, l7⟩ := law2_e (D := D) h (fun _ _ => rfl) h.2.2.2.2.2.2 c hN (by omega)
    rw [z_eq_t (by omega), z_lt_f (by omega), l1, l2, z_cl_e, z_cl_e]
    exact ⟨C' 48 11, C', E', rfl, by rw [(l6.2.2 l7).1], Rel_sames (ca := 58) h rfl (fun c j g _ => l3 c j (by omega)) l4 l5 l6⟩
  · rw [z_eq_f (by omega), z_lt_t (by omega), z_il_t (by omega), z_il_t (by omega)]; exact ⟨_, C, D, rfl, rfl, h⟩
  · rw [z_eq_f (by omega), z_lt_t (by omega), z_il_t (by omega), z_il_t (by omega)]; exact ⟨_, C, D, rfl, rfl, h⟩
theorem ok_dearest {N : Nat} {C D : zMem} (h : Rel N C D) (hN : 400 ≤ N) : OK N (Drum_dearest N C) (Model_dearest N D) := by
  obtain ⟨r, r1, r2, r3⟩ := Rel_whyNotLaw (v := 2) h hN (by omega)
  unfold Drum_dearest Model_dearest
  rw [r1, r2, z_cl_e, z_cl_e]
  rcases r3 with ⟨e, c, hv⟩ | e | ⟨e, -⟩
  · obtain ⟨C', E', l1, l2, l3, l4, l5, l6, l7⟩ := law2_e (D := D) h (fun _ _ => rfl) h.2.2.2.2.2.2 c hN (by omega)
    rw [z_eq_t (by omega), z_lt_f (by omega), l1, l2, z_cl_e, z_cl_e]
    exact ⟨C' 48 10, C', E', rfl, by rw [(l6.2.2 l7).2.1], Rel_sames (ca := 58) h rfl (fun c j g _ => l3 c j (by omega)) l4 l5 l6⟩
  · rw [z_eq_f (by omega), z_lt_t (by omega)]; exact ⟨_, C, D, rfl, rfl, h⟩
  · rw [z_eq_f (by omega), z_lt_t (by omega)]; exact ⟨_, C, D, rfl, rfl, h⟩
theorem ok_address {N : Nat} {C D : zMem} {v w : Int} (h : Rel N C D) (hN : 400 ≤ N) (hv : z_Rg v) (hw : z_Rg w) : OK N (Drum_address N v w C) (Model_address N v w D) := by
  obtain ⟨r, r1, r2, r3⟩ := Rel_whyNotLaw (v := v) h hN hv
  obtain ⟨i1, i2⟩ := Rel_isItem h hw
  obtain ⟨n1, n2, n3, n4⟩ := Rel_n h
  unfold Drum_address Model_address
  rw [i2, z_cl_e, z_eq_b, r1, r2, z_cl_e, z_cl_e, i1, z_cl_e, z_eq_b]
  by_cases ci : 0 ≤ w ∧ w < C 19 6
  · rw [if_pos ci, if_pos ci]
    rcases r3 with ⟨e, c, hv⟩ | e | ⟨e, -⟩
    · obtain ⟨M', E', l1, l2, l3, l4, l5, l6, l7⟩ := lay_e (D := D) (ca := 58) (v := v) h (fun _ _ => rfl) h.2.2.2.2.2.2 c hN (Or.inr rfl) hv
      rw [z_eq_f (by omega), z_eq_t (by omega), z_lt_f (by omega), l1, l2, z_cl_e, z_cl_e, z_rd_t (by omega), z_rd_t (by omega)]
      exact ⟨M' 58 w, M', E', rfl, by rw [(l7 w ci.1 ci.2).1], Rel_sames h rfl l3 l4 l5 l6⟩
    · rw [z_eq_t (by omega), z_lt_t (by omega), e]; exact ⟨_, C, D, rfl, rfl, h⟩
    · rw [z_eq_f (by omega), z_eq_f (by omega), z_lt_t (by omega)]; exact ⟨_, C, D, rfl, rfl, h⟩
  · rw [if_neg ci, if_neg ci]
    refine ⟨-2, C, D, ?_, rfl, h⟩
    by_cases c2 : r = -2
    · rw [z_eq_t (by omega)]
    · rw [z_eq_f (by omega)]
theorem Model_lawful_27_e {N : Nat} {n6 : Int} {E : zMem} {k : zMem → zO} (hN : 400 ≤ N) (h6 : 0 ≤ n6 ∧ n6 ≤ 20) (h5 : E 1 5 = n6) : ∃ E' : zMem, Model_lawful_27 N k N 0 E = k E' ∧ (∀ c j, c ≠ 20 → E' c j = E c j) ∧ ∀ i : Int, 0 ≤ i → i < n6 → E' 20 i = E 21 i := by
  have key : ∀ (n : Nat) (v : Int) (M : zMem), 0 ≤ v → v ≤ n6 → n6 - v < n → (∀ c j, c ≠ 20 → M c j = E c j) → (∀ i : Int, 0 ≤ i → i < v → M 20 i = E 21 i) → ∃ E' : zMem, Model_lawful_27 N k n v M = k E' ∧ (∀ c j, c ≠ 20 → E' c j = E c j) ∧ ∀ i : Int, 0 ≤ i → i < n6 → E' 20 i = E 21 i := by
    intro n
    induction n with
    | zero => intro v M _ _ h; omega
    | succ n ih =>
      intro v M h0 h1 hn hM hA
      have m5 : M 1 5 = n6 := by rw [hM 1 5 (by decide)]; exact h5
      have m21 : M 21 v = E 21 v := hM 21 v (by decide)
      rw [Model_lawful_27]
      by_cases c : v < n6
      · simp (disch := omega) only [z_lt_t, z_lt_f, z_le_t, z_le_f, z_eq_t, z_eq_f, z_rd_t, z_wr_t, z_wz_t, z_pf_e, z_pz_t, z_nm_e, z_jn_e, z_cl_e, z_rz_t, m5, m21]
        refine ih (v + 1) _ (by omega) (by omega) (by omega) (fun c j g => by rw [z_st_c g]; exact hM c j g) (fun i g1 g2 => ?_)
        by_cases e : i = v
        · rw [z_st_i e, e]
        · rw [z_st_n e]; exact hA i g1 (by omega)
      · simp (disch := omega) only [z_lt_t, z_lt_f, z_le_t, z_le_f, z_eq_t, z_eq_f, z_rd_t, z_wr_t, z_wz_t, z_pf_e, z_pz_t, z_nm_e, z_jn_e, z_cl_e, z_rz_t, m5]
        exact ⟨M, rfl, hM, fun i g1 g2 => hA i g1 (by omega)⟩
  exact key N 0 E (by omega) (by omega) (by omega) (fun _ _ _ => rfl) (fun i g1 g2 => by omega)
theorem ok_lawful {N : Nat} {C D : zMem} {v : Int} (h : Rel N C D) (hN : 400 ≤ N) (hv : z_Rg v) : OK N (Drum_lawful N v C) (Model_lawful N v D) := by
  obtain ⟨r, r1, r2, r3⟩ := Rel_whyNotLaw (v := v) h hN hv
  obtain ⟨n1, n2, n3, n4⟩ := Rel_n h
  unfold Drum_lawful Model_lawful
  rw [r1, r2, z_cl_e, z_cl_e]
  rcases r3 with ⟨e, c, hv⟩ | e | ⟨e, -⟩
  · obtain ⟨M', E', l1, l2, l3, l4, l5, l6, l7⟩ := lay_e (D := D) (ca := 58) (v := v) h (fun _ _ => rfl) h.2.2.2.2.2.2 c hN (Or.inr rfl) hv
    have h' : Rel N M' E' := Rel_sames h rfl l3 l4 l5 l6
    have k19 : ∀ j, M' 19 j = C 19 j := fun j => l3 19 j (by omega) (by omega)
    have c' : 0 < M' 19 8 := by rw [k19]; exact c
    have hP := Rel_P h' c'
    obtain ⟨p1, p2, p3, p4, p5, p6⟩ := id hP
    have ts := y_ts p1 p2
    obtain ⟨q0, q1, q2, q3, q4, q5, q6⟩ := h'.2.2.1.1
    obtain ⟨R, hB⟩ := r_R_B h' c'
    obtain ⟨C2, m1, m2, m3⟩ := Clock_measure_e (N := N) (ca := 58) (w := M' 19 2) (q := M' 19 3) hP hN hB.2.1 p3 (by omega) (by decide) (fun i g1 g2 => by
      rw [k19] at g2; have := l7 i g1 g2; rw [← k19, ← k19] at this; omega)
    obtain ⟨E3, t1, t2, t3, t4, t5, t6⟩ := Model_takes_e (D := E') hN
    obtain ⟨E4, s1, o1, o2, o3, o4, o5, o6, o7, o8, o9⟩ := hB.2.2.2.2.2 E3 (fun j k1 k2 k3 => t2 1 j (by decide) (by decide))
    have oc : ∀ c j, c ≠ 0 → (c < 11 ∨ 19 < c) → E4 c j = E3 c j := fun c j g1 g2 => o1 c j g1 (by omega) (by omega) (by omega) (by omega) (by omega) (by omega) (by omega) (by omega)
    obtain ⟨E5, f1, f2, f3⟩ := Model_lawful_27_e (k := fun (M5 : zMem) => z_cl (Model_timed N M5) (fun r_1 M6 => some (r_1, M6))) (n6 := C 19 6) (E := E4) hN n1 (by rw [oc 1 5 (by decide) (by omega), t2 1 5 (by decide) (by decide), q5, k19])
    obtain ⟨E6, u1, u2, -⟩ := Rel_timed (E := E5) (w := M' 19 2) (q := M' 19 3) (a := M' 58) h' c' hN hB (fun j g1 g2 g3 => by rw [f2 1 j (by decide), oc 1 j (by decide) (by omega)]; exact t2 1 j (by decide) (by decide)) (by
      obtain ⟨m1, m2, m3, m4, m5⟩ := o3
      refine ⟨by rw [f2 0 27 (by decide)]; exact m1, m2, m3, by rw [f2 0 28 (by decide)]; exact m4, fun k hk => ?_⟩
      rw [f2 11 k (by decide), f2 12 k (by decide)]
      exact m5 k hk) (fun k hk => by rw [f2 11 k (by decide)]; exact o4 k hk) (by
        rw [f2 0 39 (by decide), o2 39 (by decide) (by decide) (by decide) (by decide) (by decide), t4, q2]; exact ⟨rfl, p3⟩) (by
        rw [f2 0 40 (by decide), o2 40 (by decide) (by decide) (by decide) (by decide) (by decide), t5, q3]; exact ⟨rfl, p4⟩) (fun i g1 g2 => by
        rw [k19] at g2
        rw [f3 i g1 g2, oc 21 i (by decide) (by omega), t2 21 i (by decide) (by decide), k19, k19]
        exact l7 i g1 g2)
    rw [z_eq_t (by omega), z_lt_f (by omega), l1, l2, z_cl_e, z_cl_e, m1, t1, z_cl_e, z_cl_e, s1, z_cl_e, z_jn_e, f1, u1, z_cl_e]
    refine ⟨_, C2, E6, rfl, rfl, Rel_same h' (fun c j hr => ?_) (fun c j hr => ?_)⟩
    · unfold relC at hr; simp at hr
      exact m2 c j (by omega) (by omega) (by omega) (by omega)
    · unfold relD at hr; simp at hr
      rw [u2 c j (by omega), f2 c j (by omega)]
      by_cases hc : c = 0
      · subst hc
        rw [o2 j (by omega) (by omega) (by omega) (by omega) (by omega)]
        exact t3 j (by omega) (by omega)
      · rw [oc c j hc (by omega)]; exact t2 c j hc (by omega)
  · rw [z_eq_f (by omega), z_lt_t (by omega)]; exact ⟨_, C, D, rfl, rfl, h⟩
  · rw [z_eq_f (by omega), z_lt_t (by omega)]; exact ⟨_, C, D, rfl, rfl, h⟩
theorem Model_takesLaid_e {N : Nat} {n6 : Int} {E : zMem} (hN : 400 ≤ N) (h6 : 0 ≤ n6 ∧ n6 ≤ 20) (h5 : E 1 5 = n6) : ∃ E' : zMem, Model_takesLaid N E = some (0, E') ∧ (∀ c j, c ≠ 1 → E' c j = E c j) ∧ (∀ j : Int, j < 149 → E' 1 j = E 1 j) ∧ ∀ i : Int, 0 ≤ i → i < n6 → E' 1 (149 + i) = E 21 i := by
  have key : ∀ (n : Nat) (v : Int) (M : zMem), 0 ≤ v → v ≤ n6 → n6 - v < n → (∀ c j, c ≠ 1 → M c j = E c j) → (∀ j : Int, j < 149 → M 1 j = E 1 j) → (∀ i : Int, 0 ≤ i → i < v → M 1 (149 + i) = E 21 i) → ∃ E' : zMem, Model_takesLaid_2 N (fun M1 => some (0, M1)) n v M = some (0, E') ∧ (∀ c j, c ≠ 1 → E' c j = E c j) ∧ (∀ j : Int, j < 149 → E' 1 j = E 1 j) ∧ ∀ i : Int, 0 ≤ i → i < n6 → E' 1 (149 + i) = E 21 i := by
    intro n
    induction n with
    | zero => intro v M _ _ h; omega
    | succ n ih =>
      intro v M h0 h1 hn hM hM1 hA
      have m5 : M 1 5 = n6 := by rw [hM1 5 (by decide)]; exact h5
      have m21 : M 21 v = E 21 v := hM 21 v (by decide)
      rw [Model_takesLaid_2]
      by_cases c : v < n6
      · simp (disch := omega) only [z_lt_t, z_lt_f, z_le_t, z_le_f, z_eq_t, z_eq_f, z_rd_t, z_wr_t, z_wz_t, z_pf_e, z_pz_t, z_nm_e, z_jn_e, z_cl_e, z_rz_t, m5, m21]
        refine ih (v + 1) _ (by omega) (by omega) (by omega) (fun c j g => by rw [z_st_c g]; exact hM c j g) (fun j g => by rw [z_st_n (by omega)]; exact hM1 j g) (fun i g1 g2 => ?_)
        by_cases e : i = v
        · rw [z_st_i (by omega), e]
        · rw [z_st_n (by omega)]; exact hA i g1 (by omega)
      · simp (disch := omega) only [z_lt_t, z_lt_f, z_le_t, z_le_f, z_eq_t, z_eq_f, z_rd_t, z_wr_t, z_wz_t, z_pf_e, z_pz_t, z_nm_e, z_jn_e, z_cl_e, z_rz_t, m5]
        exact ⟨M, rfl, hM, hM1, fun i g1 g2 => hA i g1 (by omega)⟩
  unfold Model_takesLaid
  rw [z_jn_e]
  exact key N 0 E (by omega) (by omega) (by omega) (fun _ _ _ => rfl) (fun _ _ => rfl) (fun i g1 g2 => by omega)
theorem ok_lays {N : Nat} {C D : zMem} {v : Int} (h : Rel N C D) (hN : 400 ≤ N) (hv : z_Rg v) : OK N (Drum_lays N v C) (Model_lays N v D) := by
  obtain ⟨r, r1, r2, r3⟩ := Rel_whyNotLaw (v := v) h hN hv
  obtain ⟨a1, a2, a3⟩ := h.2.2.2.2.2.1
  have hL := h.2.2.2.2.1
  obtain ⟨n1, n2, n3, n4⟩ := Rel_n h
  unfold Drum_lays Model_lays
  rw [r1, r2, z_cl_e, z_cl_e]
  rcases r3 with ⟨e, c, hv⟩ | e | ⟨e, c⟩
  · by_cases c20 : C 55 1 = 20
    · simp (disch := omega) only [z_lt_t, z_lt_f, z_le_t, z_le_f, z_eq_t, z_eq_f, z_rd_t, z_wr_t, z_wz_t, z_pf_e, z_pz_t, z_nm_e, z_jn_e, z_cl_e, z_rz_t, a1]
      exact ⟨_, C, D, rfl, rfl, h⟩
    · obtain ⟨C1, D1, k0, k1, k2, k3, k4, k5⟩ := Rel_keep h hN (n4 c) (by omega)
      have h1 : Rel N C1 D1 := Rel_keep_at h k2 k3 k4 k5 (fun _ _ _ => rfl) (fun _ _ _ => rfl) (fun _ _ => rfl) (fun i g1 g2 => by
        rw [k2 19 6 (by decide) (by decide)] at g2
        rw [k4 _ (by omega), k2 57 i (by decide) (by decide), k2 19 0 (by decide) (by decide), k2 19 1 (by decide) (by decide)]
        exact hL i g1 g2)
      have c19 : C1 19 = C 19 := funext fun j => k2 19 j (by decide) (by decide)
      have c21 : C1 21 = C 21 := funext fun j => k2 21 j (by decide) (by decide)
      have hrk : y_rk C1 (C1 19 6) = y_rk C (C 19 6) := by unfold y_rk; rw [c19, c21]
      obtain ⟨M', E', l1, l2, l3, l4, l5, l6, l7⟩ := lay_e (D := D) (ca := 57) (v := v) h1 (fun j g => (k4 j g).symm) (r_S_same h1.2.2.2.2.2.2 (fun _ _ _ => rfl) (fun j _ => (k3 0 j (by decide) (by decide)).symm) (fun j => (k3 22 j (by decide) (by decide)).symm)) (by rw [c19]; exact c) hN (Or.inl rfl) (by rw [hrk]; exact hv)
      obtain ⟨E2, e1, e2, e3, e4, e5⟩ := Model_keeps_e (D := E') hN (by rw [l4 1 7 (by omega), a1]; omega)
      have q5 := h.2.2.1.1.2.2.2.2.2.1
      obtain ⟨E3, f1, f2, f3, f4⟩ := Model_takesLaid_e (n6 := C 19 6) (E := E2) hN n1 (by rw [e3 5 (by decide), l4 1 5 (by omega)]; exact q5)
      have m19 : ∀ j, M' 19 j = C 19 j := fun j => by rw [l3 19 j (by omega) (by omega), c19]
      have hr : Rel N M' E3 := by
        refine Rel_mk h1 (fun c j g => l3 c j (by omega) (by omega)) (fun j => ?_) (fun j g => ?_) (fun j g1 g2 g3 => ?_) (fun i g1 g2 => ?_) ⟨?_, ?_, fun a i g1 g2 g3 g4 => ?_⟩ (r_S_same l6 (fun _ _ _ => rfl) (fun j _ => ?_) (fun j => ?_))
        · rw [f2 4 j (by decide), e2 4 j (by decide) (by decide), l4 4 j (by omega)]; exact (k3 4 j (by decide) (by decide)).symm
        · rw [f2 0 j (by decide), e2 0 j (by decide) (by decide), l5 j g]; exact (k3 0 j (by decide) (by decide)).symm
        · rw [f3 j g2, e3 j g3, l4 1 j (by omega)]; exact (k4 j g3).symm
        · rw [m19] at g2
          have := l7 i g1 (by rw [c19]; exact g2)
          rw [c19] at this
          rw [f4 i g1 g2, e2 21 i (by decide) (by decide), m19, m19]; exact this
        · rw [f3 7 (by decide), e4, l4 1 7 (by omega), l3 55 1 (by omega) (by omega), ← k5.1]
          have := Model_keeps_e (D := D) hN (by omega)
          obtain ⟨Dk, w1, w2, w3, w4, w5⟩ := this
          rw [k1] at w1
          have : D1 = Dk := by injection w1 with w1; injection w1
          rw [this, w4]
        · rw [l3 55 1 (by omega) (by omega)]; exact k5.2.1
        · rw [l3 55 1 (by omega) (by omega)] at g2
          rw [m19] at g4
          have kk := k5.2.2 a i g1 g2 g3 (by rw [c19]; exact g4)
          rw [c19] at kk
          obtain ⟨Dk, w1, w2, w3, w4, w5⟩ := Model_keeps_e (D := D) hN (by omega)
          rw [k1] at w1
          have hdk : D1 = Dk := by injection w1 with w1; injection w1
          have e3' : E3 3 (20 * a + i) = D1 3 (20 * a + i) := by
            have l17 : E' 1 7 = D 1 7 := l4 1 7 (by omega)
            have l13 : E' 3 (20 * a + i) = D 3 (20 * a + i) := l4 3 _ (by omega)
            rw [f2 3 _ (by decide), e5, hdk, w5, l17, l13, l4 1 _ (by omega)]
          rw [e3', l3 56 _ (by omega) (by omega), m19, m19]
          exact kk
        · rw [f2 0 j (by decide), e2 0 j (by decide) (by decide)]
        · rw [f2 22 j (by decide), e2 22 j (by decide) (by decide)]
      obtain ⟨R, C2, D2, T, t1, t2, hX, t3, t4, t5⟩ := r_X_now hr (by rw [m19]; exact c) hN
      simp (disch := omega) only [z_lt_t, z_lt_f, z_le_t, z_le_f, z_eq_t, z_eq_f, z_rd_t, z_wr_t, z_wz_t, z_pf_e, z_pz_t, z_nm_e, z_jn_e, z_cl_e, z_rz_t, a1, k0, l1, l2, e1, f1, t1, t2]
      exact ⟨_, C2, D2, rfl, rfl, hX.1⟩
  · simp (disch := omega) only [z_lt_t, z_lt_f, z_le_t, z_le_f, z_eq_t, z_eq_f, z_rd_t, z_wr_t, z_wz_t, z_pf_e, z_pz_t, z_nm_e, z_jn_e, z_cl_e, z_rz_t]
    exact ⟨-2, C, D, rfl, by rw [e], h⟩
  · by_cases c20 : C 55 1 = 20
    · simp (disch := omega) only [z_lt_t, z_lt_f, z_le_t, z_le_f, z_eq_t, z_eq_f, z_rd_t, z_wr_t, z_wz_t, z_pf_e, z_pz_t, z_nm_e, z_jn_e, z_cl_e, z_rz_t, a1]
      exact ⟨_, C, D, rfl, rfl, h⟩
    · simp (disch := omega) only [z_lt_t, z_lt_f, z_le_t, z_le_f, z_eq_t, z_eq_f, z_rd_t, z_wr_t, z_wz_t, z_pf_e, z_pz_t, z_nm_e, z_jn_e, z_cl_e, z_rz_t, a1]
      exact ⟨_, C, D, rfl, rfl, h⟩
