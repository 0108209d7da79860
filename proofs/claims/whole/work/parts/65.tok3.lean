/-! tokens: digits -/
theorem digits_j {t : Int → Int} {sz : Int} {N : Nat} {k k' : zMem → zO} : ∀ (d n n' : Nat) (M E : zMem) (i : Int), 0 ≤ i → i + d = sz → d < n → d < n' → tt_T t sz M E → M 9 5 = i → E 0 7 = i → (0 ≤ M 9 3 ∧ M 9 3 ≤ 100000 ∧ E 0 10 = min (M 9 3) 99999) →
    ∃ (i' : Int) (M' E' : zMem), Tokens_takeDigits_5 N k n M = k M' ∧ Model_next_139 N k' n' E = k' E' ∧ (i ≤ i' ∧ i' ≤ sz) ∧ M' 9 5 = i' ∧ E' 0 7 = i' ∧ (0 ≤ M' 9 3 ∧ M' 9 3 ≤ 100000 ∧ E' 0 10 = min (M' 9 3) 99999) ∧ (∀ c j, (c ≠ 9 ∨ (j ≠ 5 ∧ j ≠ 3)) → M' c j = M c j) ∧ ∀ c j, (c ≠ 0 ∨ (j ≠ 7 ∧ j ≠ 10)) → E' c j = E c j := by
  intro d
  induction d with
  | zero =>
    intro n n' M E i h0 hd hn hn' hT h5 h7 h3
    obtain ⟨m, e⟩ : ∃ m, n = m + 1 := ⟨n - 1, by omega⟩
    obtain ⟨m', e'⟩ : ∃ m', n' = m' + 1 := ⟨n' - 1, by omega⟩
    subst e e'
    obtain ⟨⟨t1, t2, t3, t4⟩, t5⟩ := id hT
    refine ⟨i, M, E, ?_, ?_, by omega, h5, h7, h3, fun _ _ _ => rfl, fun _ _ _ => rfl⟩
    · rw [Tokens_takeDigits_5, h5]
      by_cases c : i < 700
      · rw [z_lt_t (by omega), Tape_byteAt_e (by omega) (by omega), if_neg (by omega), z_cl_e, Tokens_isDigit_e (by omega), if_neg (by omega), z_cl_e, z_eq_t (by omega)]
      · rw [z_lt_f (by omega)]
    · rw [Model_next_139, Model_isAt_e (by omega) (by omega) (by omega) (by omega) (fun q => by omega), if_neg (fun q => by omega), z_cl_e, z_eq_t (by omega)]
  | succ d ih =>
    intro n n' M E i h0 hd hn hn' hT h5 h7 h3
    obtain ⟨m, e⟩ : ∃ m, n = m + 1 := ⟨n - 1, by omega⟩
    obtain ⟨m', e'⟩ : ∃ m', n' = m' + 1 := ⟨n' - 1, by omega⟩
    subst e e'
    obtain ⟨⟨t1, t2, t3, t4⟩, t5⟩ := id hT
    obtain ⟨b1, b2, b3⟩ := t5 i h0 (by omega)
    have e4 : E 4 (E 0 7) = t i := by rw [h7]; exact b2
    have a1 := Model_isAt_e (M := E) (a := 48) (b := 57) (by omega) (by omega) (by omega) (by omega) (fun q => by omega)
    rw [e4] at a1
    have bt : Tape_byteAt i M = some (t i, M) := by rw [Tape_byteAt_e (by omega) (by omega), if_pos (by omega), b1]
    rw [Tokens_takeDigits_5, Model_next_139, h5, z_lt_t (by omega), bt, z_cl_e, Tokens_isDigit_e (by omega), z_cl_e, z_eq_b, a1, z_cl_e, z_eq_b]
    by_cases c : 48 ≤ t i ∧ t i ≤ 57
    · rw [if_pos c, if_pos (by omega), h5, bt, z_cl_e, z_mn_t (by omega), z_pf_e, z_pf_e, z_st_n (by decide), h5, h7, z_rd_t (by omega), b2, z_mn_t (by omega), z_pf_e, z_pf_e, z_st_n (by decide), h7]
      obtain ⟨i', M', E', x1, x2, x3, x4, x5, x6, x7, x8⟩ := ih m m' (z_st (z_st M 9 3 (min (M 9 3 * 10 + t i - 48) 100000)) 9 5 (i + 1)) (z_st (z_st E 0 10 (min 99999 (10 * E 0 10 + t i - 48))) 0 7 (i + 1)) (i + 1) (by omega) (by omega) (by omega) (by omega) (tt_T_c hT (by rw [z_st_c (by decide), z_st_c (by decide)]) (fun j => by rw [z_st_c (by decide), z_st_c (by decide)]) (by rw [z_st_n (by decide), z_st_n (by decide)]) (fun j => by rw [z_st_c (by decide), z_st_c (by decide)])) (z_st_i rfl) (z_st_i rfl) (by
        rw [z_st_n (by decide), z_st_i rfl, z_st_n (by decide), z_st_i rfl]; omega)
      refine ⟨i', M', E', x1, x2, by omega, x4, x5, x6, fun c j g => ?_, fun c j g => ?_⟩
      · rw [x7 c j g]
        by_cases q : c = 9
        · subst q; rw [z_st_n (by omega), z_st_n (by omega)]
        · rw [z_st_c q, z_st_c q]
      · rw [x8 c j g]
        by_cases q : c = 0
        · subst q; rw [z_st_n (by omega), z_st_n (by omega)]
        · rw [z_st_c q, z_st_c q]
    · rw [if_neg c, if_neg (by omega)]
      exact ⟨i, M, E, rfl, rfl, by omega, h5, h7, h3, fun _ _ _ => rfl, fun _ _ _ => rfl⟩
