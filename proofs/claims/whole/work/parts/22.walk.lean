/-! Clock.walk: TIME, with passes left out or not -/
theorem y_skip {it kd : Int → Int} {ls : Int → Int → Int} {w mu : Int} {m L p : Nat} (hm : 0 < m) (hkd : ∀ j : Nat, m ≤ j + 2 * L → j < m + (p - 1) * L → kd (j + L : Nat) = kd j)
    (hd : ∀ j : Nat, m ≤ j + L → j ≤ m + (p - 1) * L → y_fr it kd ls w mu (j + L) - y_fr it kd ls w mu j = y_fr it kd ls w mu m - y_fr it kd ls w mu (m - L)) (hL : 0 < L) (h2 : 2 * L ≤ m) :
    ∀ i : Nat, i ≤ p → y_fr it kd ls w mu (m + i * L) = y_fr it kd ls w mu m + i * (y_fr it kd ls w mu m - y_fr it kd ls w mu (m - L)) ∧ y_en it kd ls w mu (m + i * L - 1) = y_en it kd ls w mu (m - 1) + i * (y_fr it kd ls w mu m - y_fr it kd ls w mu (m - L)) := by
  intro i
  induction i with
  | zero => intro _; simp
  | succ i ih =>
    intro hi
    obtain ⟨g1, g2⟩ := ih (by omega)
    have hle : i * L ≤ (p - 1) * L := Nat.mul_le_mul_right L (by omega)
    have d1 := hd (m + i * L) (by omega) (by omega)
    have e1 : m + (i + 1) * L = m + i * L + L := by rw [Nat.add_mul]; omega
    have e2 : m + (i + 1) * L - 1 = (m + i * L - 1) + L := by rw [Nat.add_mul]; omega
    have e3 : m + i * L - 1 + 1 = m + i * L := by omega
    have k1 := hkd (m + i * L - 1) (by omega) (by omega)
    have s1 := y_fr_s it kd ls w mu (m + i * L - 1)
    have s2 := y_fr_s it kd ls w mu (m + i * L - 1 + L)
    rw [e3] at s1
    have e4 : m + i * L - 1 + L + 1 = m + i * L + L := by omega
    rw [e4, k1] at s2
    have e5 : ((i + 1 : Nat) : Int) * (y_fr it kd ls w mu m - y_fr it kd ls w mu (m - L)) = i * (y_fr it kd ls w mu m - y_fr it kd ls w mu (m - L)) + (y_fr it kd ls w mu m - y_fr it kd ls w mu (m - L)) := by
      rw [Int.natCast_succ, Int.add_mul, Int.one_mul]
    constructor
    · rw [e1, e5]; omega
    · rw [e2, e5]; omega
theorem y_mod {p t m : Int} (hm : 0 < m) (hp : 0 ≤ p ∧ p < m) : (p - t) % m = if p - t % m < 0 then p - t % m + m else p - t % m := by
  have h1 := Int.ediv_mul_add_emod t m
  have h2 := Int.emod_nonneg t (show m ≠ 0 by omega)
  have h3 := Int.emod_lt_of_pos t hm
  split
  · rename_i h
    have e : p - t = (p - t % m + m) + m * (-(t / m) - 1) := by
      rw [Int.mul_sub, Int.mul_neg, Int.mul_comm m (t / m)]; omega
    rw [e, Int.add_mul_emod_self_left]
    exact Int.emod_eq_of_lt (by omega) (by omega)
  · rename_i h
    have e : p - t = (p - t % m) + m * (-(t / m)) := by
      rw [Int.mul_neg, Int.mul_comm m (t / m)]; omega
    rw [e, Int.add_mul_emod_self_left]
    exact Int.emod_eq_of_lt (by omega) (by omega)
theorem Clock_lostFrom_e {t m p : Int} {M : zMem} (ht : 0 ≤ t ∧ t ≤ 1000000) (hm : 1 ≤ m ∧ m ≤ 12) (hp : 0 ≤ p ∧ p < m) : Clock_lostFrom t m p M = some ((p - t) % m, M) := by
  have h2 := Int.emod_nonneg t (show m ≠ 0 by omega)
  have h3 := Int.emod_lt_of_pos t (show 0 < m by omega)
  rw [y_mod (by omega) hp]
  unfold Clock_lostFrom
  simp (disch := omega) only [z_lt_t, z_lt_f, z_le_t, z_le_f, z_eq_t, z_eq_f, z_rd_t, z_wr_t, z_wz_t, z_pf_e, z_pz_t, z_nm_e, z_jn_e, z_cl_e, z_rz_t, z_dv_t, z_mt_t, z_il_t, z_mn_t, z_mx_t, z_fm_t, z_lc_t, z_cp_t]
  by_cases h : p - t % m < 0
  · rw [if_pos h]; simp (disch := omega) only [z_lt_t, z_lt_f, z_le_t, z_le_f, z_eq_t, z_eq_f, z_rd_t, z_wr_t, z_wz_t, z_pf_e, z_pz_t, z_nm_e, z_jn_e, z_cl_e, z_rz_t]
  · rw [if_neg h]; simp (disch := omega) only [z_lt_t, z_lt_f, z_le_t, z_le_f, z_eq_t, z_eq_f, z_rd_t, z_wr_t, z_wz_t, z_pf_e, z_pz_t, z_nm_e, z_jn_e, z_cl_e, z_rz_t]
abbrev y_ls (C : zMem) : Int → Int → Int := fun t i => (C 43 i - t) % (C 42 i)
/-- the memory is fit for a walk of R readings -/
def y_W (C : zMem) (R : Nat) : Prop := C 28 10 = R ∧ R ≤ 200 ∧ (0 ≤ C 19 4 ∧ C 19 4 ≤ 9) ∧ ∀ k : Nat, k < R → (0 ≤ C 35 k ∧ C 35 k < 20) ∧ (C 36 k = 0 ∨ C 36 k = 1 ∨ C 36 k = 2) ∧ (1 ≤ C 42 (C 35 k) ∧ C 42 (C 35 k) ≤ 12) ∧ (0 ≤ C 43 (C 35 k) ∧ C 43 (C 35 k) < C 42 (C 35 k))
/-- the marks of the passes -/
def y_PV (C : zMem) (R : Nat) : Prop := (∀ m : Nat, m ≤ R → 0 ≤ C 37 m ∧ C 37 m ≤ 200) ∧ ∀ m : Nat, m ≤ R → 0 < C 37 m → ∃ L p : Nat, C 38 m = L ∧ C 37 m = p ∧ 0 < L ∧ 2 * L ≤ m ∧ m + p * L ≤ R ∧ (∀ j : Nat, m ≤ j + 2 * L → j < m + (p - 1) * L → C 35 (j + L : Nat) = C 35 j ∧ C 36 (j + L : Nat) = C 36 j) ∧ ∀ m' : Nat, m' < m → 0 < C 37 m' → (m' : Int) + C 37 m' * C 38 m' + L ≤ m
/-- turns: all are one number, or a divisor of it -/
def y_TU (C : zMem) (R : Nat) : Prop := ∃ S q : Int, 0 < S ∧ 0 < q ∧ q ∣ S ∧ ∀ k : Nat, k < R → C 42 (C 35 k) = S ∨ C 42 (C 35 k) = q
theorem y_jump {C : zMem} {R : Nat} {w : Int} (hV : y_PV C R) (hU : y_TU C R) {m : Nat} (hm : m ≤ R) (h0 : 0 < C 37 m) :
    ∃ L p : Nat, C 38 m = L ∧ C 37 m = p ∧ 0 < L ∧ 2 * L ≤ m ∧ m + p * L ≤ R ∧ y_fr (C 35) (C 36) (y_ls C) w (C 19 4) (m + p * L) = y_fr (C 35) (C 36) (y_ls C) w (C 19 4) m + p * (y_fr (C 35) (C 36) (y_ls C) w (C 19 4) m - y_fr (C 35) (C 36) (y_ls C) w (C 19 4) (m - L)) ∧ y_en (C 35) (C 36) (y_ls C) w (C 19 4) (m + p * L - 1) = y_en (C 35) (C 36) (y_ls C) w (C 19 4) (m - 1) + p * (y_fr (C 35) (C 36) (y_ls C) w (C 19 4) m - y_fr (C 35) (C 36) (y_ls C) w (C 19 4) (m - L)) := by
  obtain ⟨L, p, h1, h2, h3, h4, h5, h6, -⟩ := hV.2 m hm h0
  obtain ⟨S, q, hS, hq, hqS, htu⟩ := hU
  refine ⟨L, p, h1, h2, h3, h4, h5, ?_⟩
  have hp : 0 < p := by omega
  have hpl : (p - 1) * L + L = p * L := by
    obtain ⟨p', rfl⟩ : ∃ p', p = p' + 1 := ⟨p - 1, by omega⟩
    rw [Nat.add_sub_cancel, Nat.add_mul, Nat.one_mul]
  have key : ∃ (T : Int) (j0 : Nat), 0 < T ∧ (∀ j : Nat, m - 2 * L ≤ j → j < m + (p - 1) * L → C 42 (C 35 j) ∣ T) ∧ (m - 2 * L ≤ j0 ∧ j0 < m - L) ∧ C 42 (C 35 j0) = T := by
    by_cases hex : ∃ j0 : Nat, (m - 2 * L ≤ j0 ∧ j0 < m - L) ∧ C 42 (C 35 j0) = S
    · obtain ⟨j0, hj0, he⟩ := hex
      refine ⟨S, j0, hS, fun j _ hj => ?_, hj0, he⟩
      rcases htu j (by omega) with h | h
      · rw [h]; exact Int.dvd_refl _
      · rw [h]; exact hqS
    · have hall : ∀ j : Nat, m - 2 * L ≤ j → j < m - L → C 42 (C 35 j) = q := by
        intro j ha hb
        rcases htu j (by omega) with h | h
        · exact absurd ⟨j, ⟨ha, hb⟩, h⟩ hex
        · exact h
      refine ⟨q, m - 2 * L, hq, ?_, ⟨by omega, by omega⟩, hall _ (by omega) (by omega)⟩
      have hper : ∀ i : Nat, ∀ j : Nat, m - 2 * L ≤ j → j < m - L + i → j < m + (p - 1) * L → C 42 (C 35 j) = q := by
        intro i
        induction i with
        | zero => intro j ha hb _; exact hall j ha (by omega)
        | succ i ih =>
          intro j ha hb hc
          by_cases hj : j < m - L + i
          · exact ih j ha hj hc
          · have := h6 (j - L) (by omega) (by omega)
            rw [show (j - L + L : Nat) = j by omega] at this
            rw [this.1]
            exact ih (j - L) (by omega) (by omega) (by omega)
      intro j ha hb
      rw [hper (j + 1) j ha (by omega) hb]
      exact Int.dvd_refl _
  obtain ⟨T, j0, hT, hdv, hj0, he⟩ := key
  have P := y_pass (it := C 35) (kd := C 36) (ph := C 43) (tu := C 42) (ls := y_ls C) (w := w) (mu := C 19 4) (a := m - 2 * L) (e := m + (p - 1) * L) (j0 := j0) (fun _ _ _ => rfl) hT h3 (fun j ha hb => h6 j (by omega) hb) hdv ⟨hj0.1, by omega⟩ he
  have Pm := P (m - L) (by omega) (by omega)
  rw [show m - L + L = m by omega] at Pm
  exact y_skip (by omega) (fun j ha hb => (h6 j ha hb).2) (fun j ha hb => by rw [(P j (by omega) hb).1, Pm.1]) h3 h4 p (Nat.le_refl _)
