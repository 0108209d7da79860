/-! other layings: moved, swapped, best, pair, idle -/
def s_C (C C1 : zMem) : Prop := ∀ c j, c ≠ 42 → c ≠ 43 → c ≠ 44 → c ≠ 45 → C1 c j = C c j
def s_D (D E : zMem) : Prop := ∀ c j, c ≠ 13 → E c j = D c j
/-- ready to time -/
def r_X (N R : Nat) (C D : zMem) : Prop := Rel N C D ∧ 0 < C 19 8 ∧ r_B N C D R ∧ (D 0 39 = C 19 2 ∧ D 0 40 = C 19 3) ∧ (∀ i : Int, 0 ≤ i → i < C 19 6 → D 20 i = C 57 i) ∧ y_MR D R (C 36) ∧ ∀ k : Nat, k < R → D 11 k = C 35 k
theorem r_X_now {N : Nat} {C D : zMem} (h : Rel N C D) (c : 0 < C 19 8) (hN : 400 ≤ N) : ∃ (R : Nat) (C' D' : zMem) (T : Int), Drum_timeNow N C = some (T, C') ∧ Model_timeNow N D = some (T, D') ∧ r_X N R C' D' ∧ (0 ≤ T ∧ T ≤ 9000) ∧ s_C C C' ∧ s_C C' C := by
  obtain ⟨p1, p2, p3, p4, p5, p6⟩ := Rel_P h c
  obtain ⟨R, hB⟩ := r_R_B h c
  obtain ⟨C', D', t1, t2, t3, t4, t5, t6, t7, t8, t9, t10, t11, t12, t13, t14⟩ := Rel_timeNow h c hN hB
  have hb := Rel_tm_b (w := C 19 2) (q := C 19 3) (a := C 57) h c hB p3 (by omega)
  have k19 : ∀ j, C' 19 j = C 19 j := fun j => t4 19 j (by decide) (by decide) (by decide) (by decide)
  have c' : 0 < C' 19 8 := by rw [k19]; exact c
  obtain ⟨R', hB'⟩ := r_R_B t3 c'
  have eR : R' = R := by
    have e1 := hB.2.1.1
    have e2 := hB'.2.1.1
    rw [t4 28 10 (by decide) (by decide) (by decide) (by decide)] at e2
    omega
  subst eR
  have k36 : C' 36 = C 36 := funext fun j => t4 36 j (by decide) (by decide) (by decide) (by decide)
  have k35 : C' 35 = C 35 := funext fun j => t4 35 j (by decide) (by decide) (by decide) (by decide)
  have k57 : C' 57 = C 57 := funext fun j => t4 57 j (by decide) (by decide) (by decide) (by decide)
  refine ⟨R', C', D', _, t1, t2, ⟨t3, c', hB', ⟨by rw [t7, k19], by rw [t8, k19]⟩, fun i g1 g2 => ?_, by rw [k36]; exact t10, by rw [k35]; exact t11⟩, ⟨hb.1, hb.2.1⟩, t4, fun c j g1 g2 g3 g4 => (t4 c j g1 g2 g3 g4).symm⟩
  rw [k19] at g2
  rw [k57]; exact t9 i g1 g2
theorem r_X_rel {N R : Nat} {C D C1 E : zMem} (hX : r_X N R C D) (h1 : s_C C C1) (h2 : s_D D E) : Rel N C1 E := by
  refine Rel_same hX.1 (fun c j hr => ?_) (fun c j hr => ?_)
  · unfold relC at hr; simp at hr
    exact h1 c j (by omega) (by omega) (by omega) (by omega)
  · unfold relD at hr; simp at hr
    exact h2 c j (by omega)
/-- TIME with the items at a -/
def y_at (C : zMem) (R : Nat) (a : Int → Int) : Int := y_tm (C 35) (C 36) (y_ad C (C 19 3) a) (C 19 2) (C 19 4) R
def y_mv (C : zMem) (R : Nat) (v1 v2 : Int) : Int := y_at C R (fun i => if i = v1 then v2 else C 57 i)
def y_sw (C : zMem) (R : Nat) (v1 v2 : Int) : Int := y_at C R (fun i => if i = v2 then C 57 v1 else if i = v1 then C 57 v2 else C 57 i)
theorem s_C_at {C C1 : zMem} {R : Nat} {a : Int → Int} (h : s_C C C1) : y_at C1 R a = y_at C R a := by
  have k19 : C1 19 = C 19 := funext fun j => h 19 j (by decide) (by decide) (by decide) (by decide)
  have k36 : C1 36 = C 36 := funext fun j => h 36 j (by decide) (by decide) (by decide) (by decide)
  have k35 : C1 35 = C 35 := funext fun j => h 35 j (by decide) (by decide) (by decide) (by decide)
  have ka : y_ad C1 = y_ad C := by funext q a t i; unfold y_ad; rw [k19]
  unfold y_at
  rw [k19, k35, k36, ka]
theorem Clock_walk0_e {C M : zMem} {N R : Nat} {a : Int → Int} (hP : y_P C) (hN : 400 ≤ N) (hR : y_TR C R) (hV : y_PV C R) (ha : ∀ i : Int, 0 ≤ i → i < C 19 6 → 0 ≤ a i ∧ a i ≤ 48) (hM : ∀ c j, c ≠ 42 → c ≠ 43 → M c j = C c j)
    (hA : ∀ i : Int, 0 ≤ i → i < C 19 6 → M 42 i = y_turn (C 19 1) (C 19 0) (C 19 3) (a i) ∧ M 43 i = Int.tmod (a i) (y_turn (C 19 1) (C 19 0) (C 19 3) (a i))) :
    ∃ M' : zMem, Clock_walk N (M 19 2) 0 M = some (y_at C R a, M') ∧ s_C C M' := by
  obtain ⟨p1, p2, p3, p4, p5, p6⟩ := id hP
  obtain ⟨r1, r2, r3⟩ := id hR
  have hA' : ∀ k : Nat, k < R → M 42 (C 35 k) = y_turn (C 19 1) (C 19 0) (C 19 3) (a (C 35 k)) ∧ M 43 (C 35 k) = Int.tmod (a (C 35 k)) (y_turn (C 19 1) (C 19 0) (C 19 3) (a (C 35 k))) := fun k hk => hA _ (r3 k hk).1.1 (r3 k hk).1.2
  obtain ⟨hW, hc, h4⟩ := y_aimed (q := C 19 3) hP hR (by omega) (fun k hk => ha _ (r3 k hk).1.1 (r3 k hk).1.2) hM hA'
  have e2 : M 19 2 = C 19 2 := hM _ _ (by decide) (by decide)
  obtain ⟨M2, b1, b2, b3⟩ := Clock_walk_e (w := C 19 2) (v2 := 0) hN hW p3 (Or.inr ⟨rfl, y_PV_of hV (fun j => hM 35 j (by decide) (by decide)) (fun j => hM 36 j (by decide) (by decide)) (fun j => hM 37 j (by decide) (by decide)) (fun j => hM 38 j (by decide) (by decide)), y_TU_of (a := a) hP (fun j => hM 35 j (by decide) (by decide)) (fun k hk => (hA' k hk).1)⟩)
  rw [h4] at b1
  refine ⟨M2, ?_, fun c j g1 g2 g3 g4 => by rw [b2 c j g3 g4]; exact hM c j g1 g2⟩
  rw [e2, b1, y_tm_congr hc]
  rfl
theorem Drum_timeMoved_e {C : zMem} {N R : Nat} {v1 v2 : Int} (hP : y_P C) (hN : 400 ≤ N) (hR : y_TR C R) (hV : y_PV C R) (ha : ∀ i : Int, 0 ≤ i → i < C 19 6 → 0 ≤ C 57 i ∧ C 57 i ≤ 48) (h1 : 0 ≤ v1 ∧ v1 < C 19 6) (h2 : 0 ≤ v2 ∧ v2 ≤ 48) :
    ∃ M' : zMem, Drum_timeMoved N v1 v2 C = some (y_mv C R v1 v2, M') ∧ s_C C M' := by
  obtain ⟨p1, p2, p3, p4, p5, p6⟩ := id hP
  obtain ⟨M1, a1, a2, a3⟩ := Clock_aim_e (ca := 57) (q := C 19 3) hP hN (by omega) (by decide) (fun i g1 g2 => by have := ha i g1 g2; omega)
  have e3 : M1 19 3 = C 19 3 := a2 _ _ (by decide) (by decide)
  have e1 : M1 19 1 = C 19 1 := a2 _ _ (by decide) (by decide)
  have e0 : M1 19 0 = C 19 0 := a2 _ _ (by decide) (by decide)
  have hP1 : y_P M1 := by
    unfold y_P
    rw [a2 19 0 (by decide) (by decide), a2 19 1 (by decide) (by decide), a2 19 2 (by decide) (by decide), a2 19 3 (by decide) (by decide), a2 19 4 (by decide) (by decide), a2 19 6 (by decide) (by decide)]
    exact hP
  have hi := Clock_aimItem_e (i := v1) (a := v2) (q := M1 19 3) hP1 (by omega) (by omega) (by omega)
  rw [e0, e1, e3] at hi
  obtain ⟨M', w1, w2⟩ := Clock_walk0_e (a := fun i => if i = v1 then v2 else C 57 i) (M := z_st (z_st M1 42 v1 (y_turn (C 19 1) (C 19 0) (C 19 3) v2)) 43 v1 (Int.tmod v2 (y_turn (C 19 1) (C 19 0) (C 19 3) v2))) hP hN hR hV (fun i g1 g2 => by
    show 0 ≤ (if i = v1 then v2 else C 57 i) ∧ (if i = v1 then v2 else C 57 i) ≤ 48
    have := ha i g1 g2
    split <;> omega) (fun c j g1 g2 => by rw [z_st_c g2, z_st_c g1]; exact a2 c j g1 g2) (fun i g1 g2 => by
    show _ = y_turn _ _ _ (if i = v1 then v2 else C 57 i) ∧ _ = Int.tmod (if i = v1 then v2 else C 57 i) (y_turn _ _ _ (if i = v1 then v2 else C 57 i))
    by_cases hc : i = v1
    · rw [if_pos hc, z_st_c (by decide), z_st_i hc, z_st_i hc]; exact ⟨rfl, rfl⟩
    · rw [if_neg hc, z_st_c (by decide), z_st_n hc, z_st_n hc, z_st_c (by decide)]
      have := a3 i.toNat (by omega)
      rw [show ((i.toNat : Nat) : Int) = i by omega] at this
      exact this)
  refine ⟨M', ?_, w2⟩
  unfold Drum_timeMoved
  rw [a1, z_cl_e, e3, hi, z_cl_e, w1, z_cl_e]
  rfl
theorem Drum_timeExchanged_e {C : zMem} {N R : Nat} {v1 v2 : Int} (hP : y_P C) (hN : 400 ≤ N) (hR : y_TR C R) (hV : y_PV C R) (ha : ∀ i : Int, 0 ≤ i → i < C 19 6 → 0 ≤ C 57 i ∧ C 57 i ≤ 48) (h1 : 0 ≤ v1 ∧ v1 < C 19 6) (h2 : 0 ≤ v2 ∧ v2 < C 19 6) :
    ∃ M' : zMem, Drum_timeExchanged N v1 v2 C = some (y_sw C R v1 v2, M') ∧ s_C C M' := by
  obtain ⟨p1, p2, p3, p4, p5, p6⟩ := id hP
  obtain ⟨M1, a1, a2, a3⟩ := Clock_aim_e (ca := 57) (q := C 19 3) hP hN (by omega) (by decide) (fun i g1 g2 => by have := ha i g1 g2; omega)
  have e3 : M1 19 3 = C 19 3 := a2 _ _ (by decide) (by decide)
  have e1 : M1 19 1 = C 19 1 := a2 _ _ (by decide) (by decide)
  have e0 : M1 19 0 = C 19 0 := a2 _ _ (by decide) (by decide)
  have e57 : ∀ j, M1 57 j = C 57 j := fun j => a2 _ _ (by decide) (by decide)
  have hP1 : y_P M1 := by
    unfold y_P
    rw [a2 19 0 (by decide) (by decide), a2 19 1 (by decide) (by decide), a2 19 2 (by decide) (by decide), a2 19 3 (by decide) (by decide), a2 19 4 (by decide) (by decide), a2 19 6 (by decide) (by decide)]
    exact hP
  have b1 := ha v1 h1.1 h1.2
  have b2 := ha v2 h2.1 h2.2
  have hi := Clock_aimItem_e (i := v1) (a := C 57 v2) (q := M1 19 3) hP1 (by omega) (by omega) (by omega)
  rw [e0, e1, e3] at hi
  generalize hM2 : z_st (z_st M1 42 v1 (y_turn (C 19 1) (C 19 0) (C 19 3) (C 57 v2))) 43 v1 (Int.tmod (C 57 v2) (y_turn (C 19 1) (C 19 0) (C 19 3) (C 57 v2))) = M2 at hi
  have k2 : ∀ c j, c ≠ 42 → c ≠ 43 → M2 c j = C c j := fun c j g1 g2 => by rw [← hM2, z_st_c g2, z_st_c g1]; exact a2 c j g1 g2
  have f3 : M2 19 3 = C 19 3 := k2 _ _ (by decide) (by decide)
  have f1 : M2 19 1 = C 19 1 := k2 _ _ (by decide) (by decide)
  have f0 : M2 19 0 = C 19 0 := k2 _ _ (by decide) (by decide)
  have f57 : ∀ j, M2 57 j = C 57 j := fun j => k2 _ _ (by decide) (by decide)
  have hP2 : y_P M2 := by
    unfold y_P
    rw [k2 19 0 (by decide) (by decide), k2 19 1 (by decide) (by decide), k2 19 2 (by decide) (by decide), k2 19 3 (by decide) (by decide), k2 19 4 (by decide) (by decide), k2 19 6 (by decide) (by decide)]
    exact hP
  have hi2 := Clock_aimItem_e (i := v2) (a := C 57 v1) (q := M2 19 3) hP2 (by omega) (by omega) (by omega)
  rw [f0, f1, f3] at hi2
  obtain ⟨M', w1, w2⟩ := Clock_walk0_e (a := fun i => if i = v2 then C 57 v1 else if i = v1 then C 57 v2 else C 57 i) (M := z_st (z_st M2 42 v2 (y_turn (C 19 1) (C 19 0) (C 19 3) (C 57 v1))) 43 v2 (Int.tmod (C 57 v1) (y_turn (C 19 1) (C 19 0) (C 19 3) (C 57 v1)))) hP hN hR hV (fun i g1 g2 => by
    show 0 ≤ (if i = v2 then C 57 v1 else if i = v1 then C 57 v2 else C 57 i) ∧ (if i = v2 then C 57 v1 else if i = v1 then C 57 v2 else C 57 i) ≤ 48
    have := ha i g1 g2
    split
    · omega
    · split <;> omega) (fun c j g1 g2 => by rw [z_st_c g2, z_st_c g1]; exact k2 c j g1 g2) (fun i g1 g2 => by
    show _ = y_turn _ _ _ (if i = v2 then C 57 v1 else if i = v1 then C 57 v2 else C 57 i) ∧ _ = Int.tmod (if i = v2 then C 57 v1 else if i = v1 then C 57 v2 else C 57 i) (y_turn _ _ _ (if i = v2 then C 57 v1 else if i = v1 then C 57 v2 else C 57 i))
    by_cases hc2 : i = v2
    · rw [if_pos hc2, z_st_c (by decide), z_st_i hc2, z_st_i hc2]; exact ⟨rfl, rfl⟩
    · rw [if_neg hc2, z_st_c (by decide), z_st_n hc2, z_st_n hc2, z_st_c (by decide), ← hM2]
      by_cases hc : i = v1
      · rw [if_pos hc, z_st_c (by decide), z_st_i hc, z_st_i hc]; exact ⟨rfl, rfl⟩
      · rw [if_neg hc, z_st_c (by decide), z_st_n hc, z_st_n hc, z_st_c (by decide)]
        have := a3 i.toNat (by omega)
        rw [show ((i.toNat : Nat) : Int) = i by omega] at this
        exact this)
  refine ⟨M', ?_, w2⟩
  unfold Drum_timeExchanged
  rw [a1, z_cl_e, z_rd_t (by omega), e57, e3, hi, z_cl_e, z_rd_t (by omega), f57, f3, hi2, z_cl_e, w1, z_cl_e]
  rfl
theorem r_X_at_b {N R : Nat} {C D : zMem} {a : Int → Int} (hX : r_X N R C D) : 0 ≤ y_at C R a ∧ y_at C R a ≤ 9000 := by
  obtain ⟨h, c, hB, -⟩ := hX
  obtain ⟨p1, p2, p3, p4, p5, p6⟩ := Rel_P h c
  have := Rel_tm_b (w := C 19 2) (q := C 19 3) (a := a) h c hB p3 (by omega)
  exact ⟨this.1, this.2.1⟩
theorem s_C_ctx {N R : Nat} {C D C1 : zMem} (hX : r_X N R C D) (h1 : s_C C C1) : y_P C1 ∧ y_TR C1 R ∧ y_PV C1 R ∧ ∀ i : Int, 0 ≤ i → i < C1 19 6 → 0 ≤ C1 57 i ∧ C1 57 i ≤ 48 := by
  have hr : Rel N C1 D := r_X_rel hX h1 (fun _ _ _ => rfl)
  have c' : 0 < C1 19 8 := by rw [h1 19 8 (by decide) (by decide) (by decide) (by decide)]; exact hX.2.1
  have hP := Rel_P hr c'
  obtain ⟨p1, p2, p3, p4, p5, p6⟩ := id hP
  have ts := y_ts p1 p2
  obtain ⟨R', hB'⟩ := r_R_B hr c'
  have eR : R' = R := by
    have e1 := hX.2.2.1.2.1.1
    have e2 := hB'.2.1.1
    rw [h1 28 10 (by decide) (by decide) (by decide) (by decide)] at e2
    omega
  subst eR
  exact ⟨hP, hB'.2.1, hB'.2.2.1, fun i g1 g2 => by have := hr.2.2.2.2.1 i g1 g2; omega⟩
/-- the reference's timed, of a laying -/
theorem r_X_timed {N R : Nat} {C D E : zMem} {a : Int → Int} (hX : r_X N R C D) (hN : 400 ≤ N) (h2 : ∀ c j, c ≠ 13 → c ≠ 20 → E c j = D c j) (ha : ∀ i : Int, 0 ≤ i → i < C 19 6 → E 20 i = a i ∧ 0 ≤ a i ∧ a i < C 19 0 * C 19 1) : ∃ E2 : zMem, Model_timed N E = some (y_at C R a, E2) ∧ ∀ c j, c ≠ 13 → E2 c j = E c j := by
  obtain ⟨h, c, hB, ⟨d1, d2⟩, d3, d4, d5⟩ := hX
  obtain ⟨p1, p2, p3, p4, p5, p6⟩ := Rel_P h c
  obtain ⟨E2, t1, t2, t3⟩ := Rel_timed (E := E) (w := C 19 2) (q := C 19 3) (a := a) h c hN hB (fun j g1 g2 g3 => h2 1 j (by decide) (by decide)) (by
    obtain ⟨m1, m2, m3, m4, m5⟩ := d4
    refine ⟨by rw [h2 0 _ (by decide) (by decide)]; exact m1, m2, m3, by rw [h2 0 _ (by decide) (by decide)]; exact m4, fun k hk => ?_⟩
    rw [h2 11 _ (by decide) (by decide), h2 12 _ (by decide) (by decide)]
    exact m5 k hk) (fun k hk => by rw [h2 11 _ (by decide) (by decide)]; exact d5 k hk) (by rw [h2 0 39 (by decide) (by decide)]; exact ⟨d1, p3⟩) (by rw [h2 0 40 (by decide) (by decide)]; exact ⟨d2, p4⟩) ha
  exact ⟨E2, t1, t2⟩
theorem r_X_moved {N R : Nat} {C D C1 E : zMem} {v1 v2 : Int} (hX : r_X N R C D) (hN : 400 ≤ N) (s1 : s_C C C1) (s2 : s_D D E) (h1 : 0 ≤ v1 ∧ v1 < C 19 6) (h2 : 0 ≤ v2 ∧ v2 < C 19 0 * C 19 1) :
    (∃ C2 : zMem, Drum_timeMoved N v1 v2 C1 = some (y_mv C R v1 v2, C2) ∧ s_C C C2) ∧ ∃ E2 : zMem, Model_timeMoved N v1 v2 E = some (y_mv C R v1 v2, E2) ∧ s_D D E2 := by
  obtain ⟨hP, hR, hV, hA⟩ := s_C_ctx hX s1
  obtain ⟨p1, p2, p3, p4, p5, p6⟩ := Rel_P hX.1 hX.2.1
  have ts := y_ts p1 p2
  have hL := hX.1.2.2.2.2.1
  have d3 := hX.2.2.2.2.1
  have k57 : C1 57 = C 57 := funext fun j => s1 57 j (by decide) (by decide) (by decide) (by decide)
  have k196 : C1 19 6 = C 19 6 := s1 19 6 (by decide) (by decide) (by decide) (by decide)
  constructor
  · obtain ⟨M', m1, m2⟩ := Drum_timeMoved_e (v1 := v1) (v2 := v2) hP hN hR hV hA (by omega) (by omega)
    refine ⟨M', ?_, fun c j g1 g2 g3 g4 => by rw [m2 c j g1 g2 g3 g4]; exact s1 c j g1 g2 g3 g4⟩
    rw [m1]; unfold y_mv; rw [s_C_at s1, k57]
  · obtain ⟨E2, t1, t2⟩ := r_X_timed (E := z_st E 20 v1 v2) (a := fun i => if i = v1 then v2 else C 57 i) hX hN (fun c j g1 g2 => by rw [z_st_c g2]; exact s2 c j g1) (fun i g1 g2 => by
      show _ = (if i = v1 then v2 else C 57 i) ∧ 0 ≤ (if i = v1 then v2 else C 57 i) ∧ (if i = v1 then v2 else C 57 i) < _
      by_cases hc : i = v1
      · rw [if_pos hc, z_st_i hc]; exact ⟨rfl, h2⟩
      · rw [if_neg hc, z_st_n hc, s2 20 i (by decide)]; exact ⟨d3 i g1 g2, (hL i g1 g2).2⟩)
    refine ⟨z_st E2 20 v1 (E 20 v1), ?_, fun c j g1 => ?_⟩
    · unfold Model_timeMoved
      simp (disch := omega) only [z_lt_t, z_lt_f, z_le_t, z_le_f, z_eq_t, z_eq_f, z_rd_t, z_wr_t, z_wz_t, z_pf_e, z_pz_t, z_nm_e, z_jn_e, z_cl_e, z_rz_t, t1]
      rfl
    · by_cases hc : c = 20
      · subst hc
        by_cases hj : j = v1
        · rw [z_st_i hj, hj]; exact s2 20 v1 (by decide)
        · rw [z_st_n hj, t2 20 j (by decide), z_st_n hj]; exact s2 20 j (by decide)
      · rw [z_st_c hc, t2 c j g1, z_st_c hc]; exact s2 c j g1
theorem r_X_swapped {N R : Nat} {C D C1 E : zMem} {v1 v2 : Int} (hX : r_X N R C D) (hN : 400 ≤ N) (s1 : s_C C C1) (s2 : s_D D E) (h1 : 0 ≤ v1 ∧ v1 < C 19 6) (h2 : 0 ≤ v2 ∧ v2 < C 19 6) (hne : v1 ≠ v2) :
    (∃ C2 : zMem, Drum_timeExchanged N v1 v2 C1 = some (y_sw C R v1 v2, C2) ∧ s_C C C2) ∧ ∃ E2 : zMem, Model_timeSwapped N v1 v2 E = some (y_sw C R v1 v2, E2) ∧ s_D D E2 := by
  obtain ⟨hP, hR, hV, hA⟩ := s_C_ctx hX s1
  obtain ⟨p1, p2, p3, p4, p5, p6⟩ := Rel_P hX.1 hX.2.1
  have ts := y_ts p1 p2
  have hL := hX.1.2.2.2.2.1
  have d3 := hX.2.2.2.2.1
  have k57 : C1 57 = C 57 := funext fun j => s1 57 j (by decide) (by decide) (by decide) (by decide)
  have k196 : C1 19 6 = C 19 6 := s1 19 6 (by decide) (by decide) (by decide) (by decide)
  constructor
  · obtain ⟨M', m1, m2⟩ := Drum_timeExchanged_e (v1 := v1) (v2 := v2) hP hN hR hV hA (by omega) (by omega)
    refine ⟨M', ?_, fun c j g1 g2 g3 g4 => by rw [m2 c j g1 g2 g3 g4]; exact s1 c j g1 g2 g3 g4⟩
    rw [m1]; unfold y_sw; rw [s_C_at s1, k57]
  · have x0 : E 20 v1 = C 57 v1 := by rw [s2 20 v1 (by decide)]; exact d3 v1 h1.1 h1.2
    have x1 : E 20 v2 = C 57 v2 := by rw [s2 20 v2 (by decide)]; exact d3 v2 h2.1 h2.2
    obtain ⟨E2, t1, t2⟩ := r_X_timed (E := z_st (z_st E 20 v1 (C 57 v2)) 20 v2 (C 57 v1)) (a := fun i => if i = v2 then C 57 v1 else if i = v1 then C 57 v2 else C 57 i) hX hN (fun c j g1 g2 => by rw [z_st_c g2, z_st_c g2]; exact s2 c j g1) (fun i g1 g2 => by
      show _ = (if i = v2 then C 57 v1 else if i = v1 then C 57 v2 else C 57 i) ∧ 0 ≤ (if i = v2 then C 57 v1 else if i = v1 then C 57 v2 else C 57 i) ∧ (if i = v2 then C 57 v1 else if i = v1 then C 57 v2 else C 57 i) < _
      by_cases hc : i = v2
      · rw [if_pos hc, z_st_i hc]; exact ⟨rfl, (hL v1 h1.1 h1.2).2⟩
      · rw [if_neg hc, z_st_n hc]
        by_cases hc' : i = v1
        · rw [if_pos hc', z_st_i hc']; exact ⟨rfl, (hL v2 h2.1 h2.2).2⟩
        · rw [if_neg hc', z_st_n hc', s2 20 i (by decide)]; exact ⟨d3 i g1 g2, (hL i g1 g2).2⟩)
    refine ⟨z_st (z_st E2 20 v1 (E 20 v1)) 20 v2 (E 20 v2), ?_, fun c j g1 => ?_⟩
    · unfold Model_timeSwapped
      simp (disch := omega) only [z_lt_t, z_lt_f, z_le_t, z_le_f, z_eq_t, z_eq_f, z_rd_t, z_wr_t, z_wz_t, z_pf_e, z_pz_t, z_nm_e, z_jn_e, z_cl_e, z_rz_t, x0, x1, t1]
      rfl
    · by_cases hc : c = 20
      · subst hc
        by_cases hj : j = v2
        · rw [z_st_i hj, hj]; exact s2 20 v2 (by decide)
        · rw [z_st_n hj]
          by_cases hj' : j = v1
          · rw [z_st_i hj', hj']; exact s2 20 v1 (by decide)
          · rw [z_st_n hj', t2 20 j (by decide), z_st_n hj, z_st_n hj']; exact s2 20 j (by decide)
      · rw [z_st_c hc, z_st_c hc, t2 c j g1, z_st_c hc, z_st_c hc]; exact s2 c j g1
theorem Rel_fixed {N : Nat} {C D : zMem} {v : Int} (h : Rel N C D) (hv : 0 ≤ v ∧ v < C 19 6) : Plan_isFixed v C = some (if C 21 v ≠ -1 then 1 else 0, C) ∧ Model_isFree v D = some (if C 21 v = -1 then 1 else 0, D) := by
  obtain ⟨n1, n2, n3, n4⟩ := Rel_n h
  have g := h.2.2.1.2.2.2.2.2.1 v hv.1 hv.2
  have gb : z_Rg (C 21 v) := by
    rcases g.2.2.2.2 with e | ⟨e1, e2⟩
    · omega
    · have hs : 0 < C 19 5 := by
        by_cases z : C 19 5 = 0
        · have := h.2.2.1.2.2.1 z; omega
        · have := h.2.2.1.2.1; omega
      obtain ⟨p1, p2, -⟩ := h.2.2.1.2.2.2.1 hs
      have := y_ts p1 p2; omega
  constructor
  · rw [Plan_isFixed_e (by omega) n1 (fun _ _ => gb)]
    by_cases hc : C 21 v ≠ -1
    · rw [if_pos ⟨hv, hc⟩, if_pos hc]
    · rw [if_neg (fun k => hc k.2), if_neg hc]
  · rw [Model_isFree_e (by omega) (by rw [g.2.2.2.1]; exact gb), g.2.2.2.1]
