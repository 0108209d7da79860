/-! Clock.aim, measure -/
def y_turn (S T q a : Int) : Int := if (T - 1) * S ≤ a ∧ 0 < q then q else S
theorem y_turn_b {S T q a : Int} (hS : 2 ≤ S ∧ S ≤ 12) (hq : 0 ≤ q ∧ q ≤ 12) : 1 ≤ y_turn S T q a ∧ y_turn S T q a ≤ 12 := by
  unfold y_turn; split <;> omega
/-- the DRUM: tracks, sectors, wait, quick, mul, items -/
def y_P (C : zMem) : Prop := (1 ≤ C 19 0 ∧ C 19 0 ≤ 4) ∧ (2 ≤ C 19 1 ∧ C 19 1 ≤ 12) ∧ (0 ≤ C 19 2 ∧ C 19 2 ≤ 9) ∧ (C 19 3 = 0 ∨ (0 < C 19 3 ∧ C 19 3 < C 19 1 ∧ C 19 1 % C 19 3 = 0)) ∧ (0 ≤ C 19 4 ∧ C 19 4 ≤ 9) ∧ (0 ≤ C 19 6 ∧ C 19 6 ≤ 20 ∧ C 19 6 ≤ C 19 0 * C 19 1)
theorem y_ts {T S : Int} (hT : 1 ≤ T ∧ T ≤ 4) (hS : 2 ≤ S ∧ S ≤ 12) : 2 ≤ T * S ∧ T * S ≤ 48 ∧ (T - 1) * S = T * S - S ∧ S ≤ T * S := by
  have h : T = 1 ∨ T = 2 ∨ T = 3 ∨ T = 4 := by omega
  rcases h with rfl | rfl | rfl | rfl <;> omega
theorem Clock_turnAt_e {C : zMem} {a q : Int} (hP : y_P C) (ha : -1 ≤ a ∧ a ≤ 48) (hq : 0 ≤ q ∧ q ≤ 12) : Clock_turnAt a q C = some (y_turn (C 19 1) (C 19 0) q a, C) := by
  obtain ⟨hT, hS, -⟩ := hP
  obtain ⟨t1, t2, t3, t4⟩ := y_ts hT hS
  unfold Clock_turnAt y_turn
  by_cases h1 : (C 19 0 - 1) * C 19 1 ≤ a
  · by_cases h2 : 0 < q
    · rw [if_pos ⟨h1, h2⟩]
      simp (disch := omega) only [z_lt_t, z_lt_f, z_le_t, z_le_f, z_eq_t, z_eq_f, z_rd_t, z_wr_t, z_wz_t, z_pf_e, z_pz_t, z_nm_e, z_jn_e, z_cl_e, z_rz_t]
    · rw [if_neg (by omega)]
      simp (disch := omega) only [z_lt_t, z_lt_f, z_le_t, z_le_f, z_eq_t, z_eq_f, z_rd_t, z_wr_t, z_wz_t, z_pf_e, z_pz_t, z_nm_e, z_jn_e, z_cl_e, z_rz_t]
  · rw [if_neg (by omega)]
    simp (disch := omega) only [z_lt_t, z_lt_f, z_le_t, z_le_f, z_eq_t, z_eq_f, z_rd_t, z_wr_t, z_wz_t, z_pf_e, z_pz_t, z_nm_e, z_jn_e, z_cl_e, z_rz_t]
theorem Clock_aimItem_e {C : zMem} {i a q : Int} (hP : y_P C) (hi : 0 ≤ i ∧ i < 20) (ha : -1 ≤ a ∧ a ≤ 48) (hq : 0 ≤ q ∧ q ≤ 12) : Clock_aimItem i a q C = some (0, z_st (z_st C 42 i (y_turn (C 19 1) (C 19 0) q a)) 43 i (Int.tmod a (y_turn (C 19 1) (C 19 0) q a))) := by
  have hb := y_turn_b (T := C 19 0) (a := a) hP.2.1 hq
  unfold Clock_aimItem
  rw [Clock_turnAt_e hP ha hq]
  generalize y_turn (C 19 1) (C 19 0) q a = t at hb ⊢
  simp (disch := omega) only [z_lt_t, z_lt_f, z_le_t, z_le_f, z_eq_t, z_eq_f, z_rd_t, z_wr_t, z_wz_t, z_pf_e, z_pz_t, z_nm_e, z_jn_e, z_cl_e, z_rz_t, z_mt_e]
theorem Clock_aim_2_e {C : zMem} {N ca : Nat} {q : Int} {k : zMem → zO} (hP : y_P C) (hq : 0 ≤ q ∧ q ≤ 12) (hca : ca ≠ 42 ∧ ca ≠ 43) (ha : ∀ i : Int, 0 ≤ i → i < C 19 6 → -1 ≤ C ca i ∧ C ca i ≤ 48) :
    ∀ (n i : Nat) (M : zMem), (i : Int) ≤ C 19 6 → C 19 6 - i < n → (∀ c j, c ≠ 42 → c ≠ 43 → M c j = C c j) → (∀ j : Nat, j < i → M 42 j = y_turn (C 19 1) (C 19 0) q (C ca j) ∧ M 43 j = Int.tmod (C ca j) (y_turn (C 19 1) (C 19 0) q (C ca j))) →
      ∃ M' : zMem, Clock_aim_2 N ca q k n i M = k M' ∧ (∀ c j, c ≠ 42 → c ≠ 43 → M' c j = C c j) ∧ ∀ j : Nat, (j : Int) < C 19 6 → M' 42 j = y_turn (C 19 1) (C 19 0) q (C ca j) ∧ M' 43 j = Int.tmod (C ca j) (y_turn (C 19 1) (C 19 0) q (C ca j)) := by
  obtain ⟨p1, p2, p3, p4, p5, p6⟩ := id hP
  intro n
  induction n with
  | zero => intro i M h1 h2; omega
  | succ n ih =>
    intro i M hi hn hM hA
    rw [Clock_aim_2]
    have m6 : M 19 6 = C 19 6 := hM _ _ (by decide) (by decide)
    have mca : M ca i = C ca i := hM _ _ hca.1 hca.2
    have hPM : y_P M := by
      unfold y_P
      rw [hM 19 0 (by decide) (by decide), hM 19 1 (by decide) (by decide), hM 19 2 (by decide) (by decide), hM 19 3 (by decide) (by decide), hM 19 4 (by decide) (by decide), hM 19 6 (by decide) (by decide)]
      exact hP
    by_cases h : (i : Int) < C 19 6
    · have hai := ha i (by omega) h
      simp (disch := omega) only [z_lt_t, z_lt_f, z_le_t, z_le_f, z_eq_t, z_eq_f, z_rd_t, z_wr_t, z_wz_t, z_pf_e, z_pz_t, z_nm_e, z_jn_e, z_cl_e, z_rz_t, m6, mca]
      rw [Clock_aimItem_e hPM (by omega) (by omega) hq]
      simp only [z_cl_e, z_nm_e]
      rw [hM 19 1 (by decide) (by decide), hM 19 0 (by decide) (by decide)]
      have ec : (i : Int) + 1 = ((i + 1 : Nat) : Int) := by omega
      rw [ec]
      refine ih (i + 1) _ (by omega) (by omega) (fun c j a1 a2 => by rw [z_st_c a2, z_st_c a1]; exact hM c j a1 a2) (fun j hj => ?_)
      by_cases hji : j = i
      · subst hji
        rw [z_st_c (by decide), z_st_i rfl, z_st_i rfl]
        exact ⟨rfl, rfl⟩
      · rw [z_st_c (by decide), z_st_n (by omega), z_st_n (by omega), z_st_c (by decide)]
        exact hA j (by omega)
    · simp (disch := omega) only [z_lt_t, z_lt_f, z_le_t, z_le_f, z_eq_t, z_eq_f, z_rd_t, z_wr_t, z_wz_t, z_pf_e, z_pz_t, z_nm_e, z_jn_e, z_cl_e, z_rz_t, m6]
      exact ⟨M, rfl, hM, fun j hj => hA j (by omega)⟩
theorem Clock_aim_e {C : zMem} {N ca : Nat} {q : Int} (hP : y_P C) (hN : 400 ≤ N) (hq : 0 ≤ q ∧ q ≤ 12) (hca : ca ≠ 42 ∧ ca ≠ 43) (ha : ∀ i : Int, 0 ≤ i → i < C 19 6 → -1 ≤ C ca i ∧ C ca i ≤ 48) :
    ∃ M' : zMem, Clock_aim N ca q C = some (0, M') ∧ (∀ c j, c ≠ 42 → c ≠ 43 → M' c j = C c j) ∧ ∀ j : Nat, (j : Int) < C 19 6 → M' 42 j = y_turn (C 19 1) (C 19 0) q (C ca j) ∧ M' 43 j = Int.tmod (C ca j) (y_turn (C 19 1) (C 19 0) q (C ca j)) := by
  obtain ⟨M', h1, h2, h3⟩ := Clock_aim_2_e (N := N) (k := fun M1 => some (0, M1)) hP hq hca ha N 0 C (by have := hP.2.2.2.2.2; omega) (by have := hP.2.2.2.2.2; omega) (fun _ _ _ _ => rfl) (fun j hj => by omega)
  refine ⟨M', ?_, h2, h3⟩
  unfold Clock_aim
  rw [z_jn_e]
  exact h1
theorem Clock_walk_e {C : zMem} {N R : Nat} {w v2 : Int} (hN : 400 ≤ N) (hW : y_W C R) (hw : 0 ≤ w ∧ w ≤ 9) (hv : v2 = 1 ∨ (v2 = 0 ∧ y_PV C R ∧ y_TU C R)) :
    ∃ M' : zMem, Clock_walk N w v2 C = some (y_tm (C 35) (C 36) (y_ls C) w (C 19 4) R, M') ∧ (∀ c j, c ≠ 44 → c ≠ 45 → M' c j = C c j) ∧
        (v2 = 1 → ∀ j : Nat, j < R → M' 44 j = y_fr (C 35) (C 36) (y_ls C) w (C 19 4) j + y_lo (C 35) (C 36) (y_ls C) w (C 19 4) j ∧ M' 45 j = y_lo (C 35) (C 36) (y_ls C) w (C 19 4) j) := by
  obtain ⟨M', h1, h2, h3⟩ := Clock_walk_8_e (N := N) (k := fun v4_ M1 => some (v4_, M1)) hW hw hv N 0 0 C 0 (Nat.zero_le _) (Nat.le_refl _) (by have := hW.2.1; omega) (fun _ _ _ _ => rfl) (fun j h1 h2 => by omega) rfl (fun h m a1 a2 a3 => by
    rcases hv with rfl | ⟨-, hPV, -⟩
    · omega
    · obtain ⟨L, p, l1, l2, l3, l4, -⟩ := hPV.2 m a2 a3
      rw [l1]; omega)
  refine ⟨M', ?_, h2, fun h j hj => h3 h j (Nat.zero_le _) hj⟩
  unfold Clock_walk
  rw [z_jn_e]
  exact h1
/-- what is lost for an item at an address, from a time on -/
def y_ad (C : zMem) (q : Int) (a : Int → Int) : Int → Int → Int := fun t i => (a i - t) % y_turn (C 19 1) (C 19 0) q (a i)
theorem y_emod_sub {a t m : Int} : (a % m - t) % m = (a - t) % m := by
  rw [Int.sub_emod, Int.emod_emod_of_dvd _ (Int.dvd_refl m), ← Int.sub_emod]
/-- the readings of a trace, R of them -/
def y_TR (C : zMem) (R : Nat) : Prop := C 28 10 = R ∧ R ≤ 200 ∧ ∀ k : Nat, k < R → (0 ≤ C 35 k ∧ C 35 k < C 19 6) ∧ (C 36 k = 0 ∨ C 36 k = 1 ∨ C 36 k = 2)
/-- fit for a walk, once aimed -/
theorem y_aimed {C M : zMem} {R : Nat} {q : Int} {a : Int → Int} (hP : y_P C) (hR : y_TR C R) (hq : 0 ≤ q ∧ q ≤ 12) (ha : ∀ k : Nat, k < R → 0 ≤ a (C 35 k) ∧ a (C 35 k) ≤ 48)
    (hM : ∀ c j, c ≠ 42 → c ≠ 43 → M c j = C c j) (hA : ∀ k : Nat, k < R → M 42 (C 35 k) = y_turn (C 19 1) (C 19 0) q (a (C 35 k)) ∧ M 43 (C 35 k) = Int.tmod (a (C 35 k)) (y_turn (C 19 1) (C 19 0) q (a (C 35 k)))) :
    y_W M R ∧ ((∀ k : Nat, k < R → M 35 k = C 35 k ∧ M 36 k = C 36 k ∧ ∀ t, y_ls M t (M 35 k) = y_ad C q a t (M 35 k)) ∧ M 19 4 = C 19 4) := by
  obtain ⟨p1, p2, p3, p4, p5, p6⟩ := id hP
  obtain ⟨r1, r2, r3⟩ := hR
  have m35 : ∀ j, M 35 j = C 35 j := fun j => hM _ _ (by decide) (by decide)
  have m36 : ∀ j, M 36 j = C 36 j := fun j => hM _ _ (by decide) (by decide)
  have m19 : ∀ j, M 19 j = C 19 j := fun j => hM _ _ (by decide) (by decide)
  have m28 : ∀ j, M 28 j = C 28 j := fun j => hM _ _ (by decide) (by decide)
  refine ⟨⟨by rw [m28]; exact r1, r2, by rw [m19]; exact p5, fun k hk => ?_⟩, fun k hk => ?_, m19 4⟩
  · obtain ⟨g1, g2⟩ := r3 k hk
    have ga := ha k hk
    have hb := y_turn_b (T := C 19 0) (a := a (C 35 k)) p2 hq
    have hA' := hA k hk
    rw [m35, m36, hA'.1, hA'.2, Int.tmod_eq_emod_of_nonneg (by omega)]
    have e1 := Int.emod_nonneg (a (C 35 k)) (show y_turn (C 19 1) (C 19 0) q (a (C 35 k)) ≠ 0 by omega)
    have e2 := Int.emod_lt_of_pos (a (C 35 k)) (show 0 < y_turn (C 19 1) (C 19 0) q (a (C 35 k)) by omega)
    exact ⟨⟨g1.1, by omega⟩, g2, hb, e1, e2⟩
  · refine ⟨m35 k, m36 k, fun t => ?_⟩
    have ga := ha k hk
    have hA' := hA k hk
    show (M 43 (M 35 k) - t) % M 42 (M 35 k) = (a (M 35 k) - t) % _
    rw [m35, hA'.1, hA'.2, Int.tmod_eq_emod_of_nonneg (by omega), y_emod_sub]
theorem y_TU_of {C M : zMem} {R : Nat} {a : Int → Int} (hP : y_P C) (hm : ∀ j, M 35 j = C 35 j) (hA : ∀ k : Nat, k < R → M 42 (C 35 k) = y_turn (C 19 1) (C 19 0) (C 19 3) (a (C 35 k))) : y_TU M R := by
  obtain ⟨p1, p2, p3, p4, p5, p6⟩ := id hP
  by_cases h : 0 < C 19 3
  · refine ⟨C 19 1, C 19 3, by omega, h, Int.dvd_of_emod_eq_zero (by omega), fun k hk => ?_⟩
    rw [hm, hA k hk]
    unfold y_turn
    split
    · exact Or.inr rfl
    · exact Or.inl rfl
  · refine ⟨C 19 1, C 19 1, by omega, by omega, Int.dvd_refl _, fun k hk => ?_⟩
    rw [hm, hA k hk]
    unfold y_turn
    rw [if_neg (by omega)]
    exact Or.inl rfl
theorem y_PV_of {C M : zMem} {R : Nat} (h : y_PV C R) (h5 : ∀ j, M 35 j = C 35 j) (h6 : ∀ j, M 36 j = C 36 j) (h7 : ∀ j, M 37 j = C 37 j) (h8 : ∀ j, M 38 j = C 38 j) : y_PV M R := by
  unfold y_PV
  simp only [h5, h6, h7, h8]
  exact h
/-- measure: TIME with the items laid as cell ca says; when and waited are told -/
theorem Clock_measure_e {C : zMem} {N R ca : Nat} {w q : Int} (hP : y_P C) (hN : 400 ≤ N) (hR : y_TR C R) (hw : 0 ≤ w ∧ w ≤ 9) (hq : 0 ≤ q ∧ q ≤ 12) (hca : ca ≠ 42 ∧ ca ≠ 43) (ha : ∀ i : Int, 0 ≤ i → i < C 19 6 → 0 ≤ C ca i ∧ C ca i ≤ 48) :
    ∃ M' : zMem, Clock_measure N ca w q C = some (y_tm (C 35) (C 36) (y_ad C q (C ca)) w (C 19 4) R, M') ∧ (∀ c j, c ≠ 42 → c ≠ 43 → c ≠ 44 → c ≠ 45 → M' c j = C c j) ∧
      ∀ j : Nat, j < R → M' 44 j = y_fr (C 35) (C 36) (y_ad C q (C ca)) w (C 19 4) j + y_lo (C 35) (C 36) (y_ad C q (C ca)) w (C 19 4) j ∧ M' 45 j = y_lo (C 35) (C 36) (y_ad C q (C ca)) w (C 19 4) j := by
  obtain ⟨M1, a1, a2, a3⟩ := Clock_aim_e hP hN hq hca (fun i h1 h2 => by have := ha i h1 h2; omega)
  obtain ⟨r1, r2, r3⟩ := id hR
  have hA : ∀ k : Nat, k < R → M1 42 (C 35 k) = y_turn (C 19 1) (C 19 0) q (C ca (C 35 k)) ∧ M1 43 (C 35 k) = Int.tmod (C ca (C 35 k)) (y_turn (C 19 1) (C 19 0) q (C ca (C 35 k))) := by
    intro k hk
    obtain ⟨g1, -⟩ := r3 k hk
    have := a3 (C 35 k).toNat (by omega)
    rw [show (((C 35 k).toNat : Nat) : Int) = C 35 k by omega] at this
    exact this
  obtain ⟨hW, hc, h4⟩ := y_aimed hP hR hq (fun k hk => by have := (r3 k hk).1; exact ha _ this.1 this.2) a2 hA
  obtain ⟨M2, b1, b2, b3⟩ := Clock_walk_e hN hW hw (Or.inl rfl)
  rw [h4] at b1 b3
  refine ⟨M2, ?_, fun c j c1 c2 c3 c4 => by rw [b2 c j c3 c4]; exact a2 c j c1 c2, fun j hj => ?_⟩
  · unfold Clock_measure
    rw [a1, z_cl_e, b1, z_cl_e, y_tm_congr hc]
  · obtain ⟨d1, d2⟩ := b3 rfl j hj
    rw [d1, d2, y_fr_congr hc j (by omega), y_lo_congr hc hj]
    exact ⟨rfl, rfl⟩
