set_option maxHeartbeats 4000000 in
theorem Clock_walk_8_e {C : zMem} {N R : Nat} {w v2 : Int} {k : Int → zMem → zO} (hW : y_W C R) (hw : 0 ≤ w ∧ w ≤ 9) (hv : v2 = 1 ∨ (v2 = 0 ∧ y_PV C R ∧ y_TU C R)) :
    ∀ (n i b : Nat) (M : zMem) (e : Int), i ≤ R → b ≤ i → R - i < n → (∀ c j, c ≠ 44 → c ≠ 45 → M c j = C c j) →
      (∀ j : Nat, b ≤ j → j < i → M 44 j = y_fr (C 35) (C 36) (y_ls C) w (C 19 4) j + y_lo (C 35) (C 36) (y_ls C) w (C 19 4) j ∧ M 45 j = y_lo (C 35) (C 36) (y_ls C) w (C 19 4) j) →
      (e = y_tm (C 35) (C 36) (y_ls C) w (C 19 4) i) → (v2 = 0 → ∀ m : Nat, i < m → m ≤ R → 0 < C 37 m → (b : Int) + C 38 m ≤ m) →
      ∃ M' : zMem, Clock_walk_8 N w v2 k n (y_fr (C 35) (C 36) (y_ls C) w (C 19 4) i) e i M = k (y_tm (C 35) (C 36) (y_ls C) w (C 19 4) R) M' ∧ (∀ c j, c ≠ 44 → c ≠ 45 → M' c j = C c j) ∧
        (v2 = 1 → ∀ j : Nat, b ≤ j → j < R → M' 44 j = y_fr (C 35) (C 36) (y_ls C) w (C 19 4) j + y_lo (C 35) (C 36) (y_ls C) w (C 19 4) j ∧ M' 45 j = y_lo (C 35) (C 36) (y_ls C) w (C 19 4) j) := by
  obtain ⟨hR, hR2, hmu, hit⟩ := hW
  have hlb : ∀ q : Nat, q < R → ∀ t, 0 ≤ y_ls C t (C 35 q) ∧ y_ls C t (C 35 q) < 12 := by
    intro q hq t
    obtain ⟨-, -, h1, -⟩ := hit q hq
    have g1 := Int.emod_nonneg (C 43 (C 35 q) - t) (show C 42 (C 35 q) ≠ 0 by omega)
    have g2 := Int.emod_lt_of_pos (C 43 (C 35 q) - t) (show 0 < C 42 (C 35 q) by omega)
    exact ⟨g1, by show (C 43 (C 35 q) - t) % C 42 (C 35 q) < 12; omega⟩
  have hfb := y_fr_b (kd := C 36) hw hmu hlb
  intro n
  induction n with
  | zero => intro i b M e _ _ h; omega
  | succ n ih =>
    intro i b M e hi hb hn hM hA he hB
    rw [Clock_walk_8]
    have e1 : M 28 10 = R := by rw [hM _ _ (by decide) (by decide)]; exact hR
    by_cases hiR : i < R
    · obtain ⟨h1, h2, h3, h4⟩ := hit i hiR
      have hf := hfb i (by omega)
      have m35 : M 35 i = C 35 i := hM _ _ (by decide) (by decide)
      have m36 : M 36 i = C 36 i := hM _ _ (by decide) (by decide)
      have m42 : M 42 (C 35 i) = C 42 (C 35 i) := hM _ _ (by decide) (by decide)
      have m43 : M 43 (C 35 i) = C 43 (C 35 i) := hM _ _ (by decide) (by decide)
      have lo : (C 43 (C 35 i) - y_fr (C 35) (C 36) (y_ls C) w (C 19 4) i) % C 42 (C 35 i) = y_lo (C 35) (C 36) (y_ls C) w (C 19 4) i := rfl
      have lob := hlb i hiR (y_fr (C 35) (C 36) (y_ls C) w (C 19 4) i)
      have lob2 : 0 ≤ y_lo (C 35) (C 36) (y_ls C) w (C 19 4) i ∧ y_lo (C 35) (C 36) (y_ls C) w (C 19 4) i < 12 := lob
      have st := y_fr_s (C 35) (C 36) (y_ls C) w (C 19 4) i
      have en : y_en (C 35) (C 36) (y_ls C) w (C 19 4) i = y_fr (C 35) (C 36) (y_ls C) w (C 19 4) i + y_lo (C 35) (C 36) (y_ls C) w (C 19 4) i + 1 + (if C 36 i = 2 then C 19 4 else 0) := rfl
      have hf1 := hfb (i + 1) (by omega)
      simp (disch := omega) only [z_lt_t, z_lt_f, z_le_t, z_le_f, z_eq_t, z_eq_f, z_rd_t, z_wr_t, z_wz_t, z_pf_e, z_pz_t, z_nm_e, z_jn_e, z_cl_e, z_rz_t, e1, m35, m36, m42, m43, Clock_lostFrom_e, lo]
      -- behind the reading
      have M3c : ∀ c j, c ≠ 44 → c ≠ 45 → z_st (z_st M 45 i (y_lo (C 35) (C 36) (y_ls C) w (C 19 4) i)) 44 i (y_fr (C 35) (C 36) (y_ls C) w (C 19 4) i + y_lo (C 35) (C 36) (y_ls C) w (C 19 4) i) c j = C c j := by
        intro c j a1 a2
        rw [z_st_c a1, z_st_c a2]
        exact hM c j a1 a2
      have M3A : ∀ j : Nat, b ≤ j → j < i + 1 → z_st (z_st M 45 i (y_lo (C 35) (C 36) (y_ls C) w (C 19 4) i)) 44 i (y_fr (C 35) (C 36) (y_ls C) w (C 19 4) i + y_lo (C 35) (C 36) (y_ls C) w (C 19 4) i) 44 j = y_fr (C 35) (C 36) (y_ls C) w (C 19 4) j + y_lo (C 35) (C 36) (y_ls C) w (C 19 4) j ∧ z_st (z_st M 45 i (y_lo (C 35) (C 36) (y_ls C) w (C 19 4) i)) 44 i (y_fr (C 35) (C 36) (y_ls C) w (C 19 4) i + y_lo (C 35) (C 36) (y_ls C) w (C 19 4) i) 45 j = y_lo (C 35) (C 36) (y_ls C) w (C 19 4) j := by
        intro j a1 a2
        by_cases hj : j = i
        · subst hj
          rw [z_st_i rfl, z_st_c (by decide), z_st_i rfl]
          exact ⟨rfl, rfl⟩
        · rw [z_st_n (by omega), z_st_c (by decide), z_st_c (by decide), z_st_n (by omega)]
          exact hA j a1 (by omega)
      generalize z_st (z_st M 45 i (y_lo (C 35) (C 36) (y_ls C) w (C 19 4) i)) 44 i (y_fr (C 35) (C 36) (y_ls C) w (C 19 4) i + y_lo (C 35) (C 36) (y_ls C) w (C 19 4) i) = M3 at M3c M3A ⊢
      have m19 : M3 19 4 = C 19 4 := M3c _ _ (by decide) (by decide)
      have m37 : M3 37 (i + 1 : Nat) = C 37 (i + 1 : Nat) := M3c _ _ (by decide) (by decide)
      have m38 : M3 38 (i + 1 : Nat) = C 38 (i + 1 : Nat) := M3c _ _ (by decide) (by decide)
      have ec : (i : Int) + 1 = ((i + 1 : Nat) : Int) := by omega
      have tmS : y_tm (C 35) (C 36) (y_ls C) w (C 19 4) (i + 1) = y_en (C 35) (C 36) (y_ls C) w (C 19 4) i := by
        unfold y_tm; rw [if_neg (by omega)]; rfl
      -- the tail, once for all kinds
      have tail : ∀ e' f' : Int, e' = y_en (C 35) (C 36) (y_ls C) w (C 19 4) i → f' = y_fr (C 35) (C 36) (y_ls C) w (C 19 4) (i + 1) →
          ∃ M' : zMem, (z_eq v2 0 (z_lt 0 (M3 37 ((i : Int) + 1)) (z_lt 0 (M3 38 ((i : Int) + 1)) (z_le (M3 38 ((i : Int) + 1)) ((i : Int) + 1) (z_rd M3 44 200 ((i : Int) + 1 - (M3 38 ((i : Int) + 1))) (fun x10 => z_rd M3 45 200 ((i : Int) + 1 - (M3 38 ((i : Int) + 1))) (fun x11 => Clock_walk_8 N w v2 k n (f' + (M3 37 ((i : Int) + 1)) * (f' - (x10 - x11))) (e' + (M3 37 ((i : Int) + 1)) * (f' - (x10 - x11))) ((i : Int) + 1 + (M3 37 ((i : Int) + 1)) * (M3 38 ((i : Int) + 1))) M3))) (Clock_walk_8 N w v2 k n f' e' ((i : Int) + 1) M3)) (Clock_walk_8 N w v2 k n f' e' ((i : Int) + 1) M3)) (Clock_walk_8 N w v2 k n f' e' ((i : Int) + 1) M3)) (Clock_walk_8 N w v2 k n f' e' ((i : Int) + 1) M3))
            = k (y_tm (C 35) (C 36) (y_ls C) w (C 19 4) R) M' ∧ (∀ c j, c ≠ 44 → c ≠ 45 → M' c j = C c j) ∧
            (v2 = 1 → ∀ j : Nat, b ≤ j → j < R → M' 44 j = y_fr (C 35) (C 36) (y_ls C) w (C 19 4) j + y_lo (C 35) (C 36) (y_ls C) w (C 19 4) j ∧ M' 45 j = y_lo (C 35) (C 36) (y_ls C) w (C 19 4) j) := by
        intro e' f' he' hf'
        subst he'; subst hf'
        rw [ec]
        rcases hv with rfl | ⟨rfl, hPV, hTU⟩
        · simp (disch := omega) only [z_lt_t, z_lt_f, z_le_t, z_le_f, z_eq_t, z_eq_f, z_rd_t, z_wr_t, z_wz_t, z_pf_e, z_pz_t, z_nm_e, z_jn_e, z_cl_e, z_rz_t]
          obtain ⟨M', q1, q2, q3⟩ := ih (i + 1) b M3 _ (by omega) (by omega) (by omega) M3c M3A tmS.symm (fun h => by omega)
          exact ⟨M', q1, q2, fun _ => q3 rfl⟩
        · have hpb := hPV.1 (i + 1) (by omega)
          by_cases hp : 0 < C 37 (i + 1 : Nat)
          · obtain ⟨L, p, j1, j2, j3, j4, j5, j6, j7⟩ := y_jump (w := w) hPV hTU (by omega) hp
            have hbL := hB rfl (i + 1) (by omega) (by omega) hp
            rw [j1] at hbL
            have rd := M3A (i + 1 - L) (by omega) (by omega)
            have ei : ((i + 1 : Nat) : Int) - (L : Int) = ((i + 1 - L : Nat) : Int) := by omega
            simp (disch := omega) only [z_lt_t, z_lt_f, z_le_t, z_le_f, z_eq_t, z_eq_f, z_rd_t, z_wr_t, z_wz_t, z_pf_e, z_pz_t, z_nm_e, z_jn_e, z_cl_e, z_rz_t, m37, m38, j1, j2, ei]
            rw [rd.1, rd.2]
            have e9 : y_fr (C 35) (C 36) (y_ls C) w (C 19 4) (i + 1 - L) + y_lo (C 35) (C 36) (y_ls C) w (C 19 4) (i + 1 - L) - y_lo (C 35) (C 36) (y_ls C) w (C 19 4) (i + 1 - L) = y_fr (C 35) (C 36) (y_ls C) w (C 19 4) (i + 1 - L) := by omega
            rw [e9, ← j6]
            rw [show i + 1 - 1 = i by omega] at j7
            rw [← j7]
            have ej : ((i + 1 : Nat) : Int) + (p : Int) * (L : Int) = ((i + 1 + p * L : Nat) : Int) := by
              rw [Int.natCast_add (i + 1) (p * L), Int.natCast_mul]
            rw [ej]
            have hpL : 0 < p * L := Nat.mul_pos (by omega) j3
            obtain ⟨M', q1, q2, q3⟩ := ih (i + 1 + p * L) (i + 1 + p * L) M3 (y_en (C 35) (C 36) (y_ls C) w (C 19 4) (i + 1 + p * L - 1)) j5 (Nat.le_refl _) (by omega) M3c (fun j a1 a2 => by omega) (by unfold y_tm; rw [if_neg (by omega)]) (fun _ m a1 a2 a3 => by
              obtain ⟨L2, p2, l1, l2, -, -, -, -, l3⟩ := hPV.2 m a2 a3
              have := l3 (i + 1) (by omega) hp
              rw [j1, j2] at this
              rw [l1]
              have e8 : ((i + 1 + p * L : Nat) : Int) = ((i + 1 : Nat) : Int) + (p : Int) * (L : Int) := ej.symm
              omega)
            exact ⟨M', q1, q2, fun h => by omega⟩
          · simp (disch := omega) only [z_lt_t, z_lt_f, z_le_t, z_le_f, z_eq_t, z_eq_f, z_rd_t, z_wr_t, z_wz_t, z_pf_e, z_pz_t, z_nm_e, z_jn_e, z_cl_e, z_rz_t, m37, m38]
            obtain ⟨M', q1, q2, q3⟩ := ih (i + 1) b M3 _ (by omega) (by omega) (by omega) M3c M3A tmS.symm (fun h m a1 a2 a3 => hB h m (by omega) a2 a3)
            exact ⟨M', q1, q2, fun h => by omega⟩
      rcases h2 with h2 | h2 | h2
      · rw [h2] at st en
        simp (disch := omega) only [z_lt_t, z_lt_f, z_le_t, z_le_f, z_eq_t, z_eq_f, z_rd_t, z_wr_t, z_wz_t, z_pf_e, z_pz_t, z_nm_e, z_jn_e, z_cl_e, z_rz_t, h2]
        exact tail (y_fr (C 35) (C 36) (y_ls C) w (C 19 4) i + y_lo (C 35) (C 36) (y_ls C) w (C 19 4) i + 1 + 0) (y_fr (C 35) (C 36) (y_ls C) w (C 19 4) i + y_lo (C 35) (C 36) (y_ls C) w (C 19 4) i + 1 + 0 + w) (by rw [en]; simp) (by rw [st, en]; simp)
      · rw [h2] at st en
        simp (disch := omega) only [z_lt_t, z_lt_f, z_le_t, z_le_f, z_eq_t, z_eq_f, z_rd_t, z_wr_t, z_wz_t, z_pf_e, z_pz_t, z_nm_e, z_jn_e, z_cl_e, z_rz_t, h2]
        exact tail (y_fr (C 35) (C 36) (y_ls C) w (C 19 4) i + y_lo (C 35) (C 36) (y_ls C) w (C 19 4) i + 1 + 0) (y_fr (C 35) (C 36) (y_ls C) w (C 19 4) i + y_lo (C 35) (C 36) (y_ls C) w (C 19 4) i + 1 + 0 + 0) (by rw [en]; simp) (by rw [st, en]; simp)
      · rw [h2] at st en
        simp (disch := omega) only [z_lt_t, z_lt_f, z_le_t, z_le_f, z_eq_t, z_eq_f, z_rd_t, z_wr_t, z_wz_t, z_pf_e, z_pz_t, z_nm_e, z_jn_e, z_cl_e, z_rz_t, h2, m19]
        exact tail (y_fr (C 35) (C 36) (y_ls C) w (C 19 4) i + y_lo (C 35) (C 36) (y_ls C) w (C 19 4) i + 1 + C 19 4) (y_fr (C 35) (C 36) (y_ls C) w (C 19 4) i + y_lo (C 35) (C 36) (y_ls C) w (C 19 4) i + 1 + C 19 4 + 0) (by rw [en]; simp) (by rw [st, en]; simp)
    · have hiR : i = R := by omega
      subst hiR
      simp (disch := omega) only [z_lt_t, z_lt_f, z_le_t, z_le_f, z_eq_t, z_eq_f, z_rd_t, z_wr_t, z_wz_t, z_pf_e, z_pz_t, z_nm_e, z_jn_e, z_cl_e, z_rz_t, e1]
      exact ⟨M, by rw [he], hM, fun _ => hA⟩
