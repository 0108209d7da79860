/-! tokens: signs of the tape on both sides -/
theorem Tape_byteAt_e {M : zMem} {i : Int} (hi : 0 ≤ i ∧ i ≤ 10000) (hs : 0 ≤ M 1 1 ∧ M 1 1 ≤ 700) : Tape_byteAt i M = some (if i < M 1 1 then M 2 i else -1, M) := by
  unfold Tape_byteAt
  rw [z_jn_e, z_le_t (by omega)]
  by_cases c : i < M 1 1
  · rw [z_lt_t (by omega), z_rd_t (by omega), if_pos c]
  · rw [z_lt_f (by omega), if_neg c]
theorem Tokens_isDigit_e {M : zMem} {b : Int} (hb : z_Rg b) : Tokens_isDigit b M = some (if 48 ≤ b ∧ b ≤ 57 then 1 else 0, M) := by
  unfold Tokens_isDigit
  rw [z_jn_e]
  by_cases c : 48 ≤ b
  · rw [z_le_t (by omega)]
    by_cases d : b ≤ 57
    · rw [z_le_t (by omega), if_pos ⟨c, d⟩]
    · rw [z_le_f (by omega), if_neg (fun q => d q.2)]
  · rw [z_le_f (by omega), if_neg (fun q => c q.1)]
theorem Tokens_isLetter_e {M : zMem} {b : Int} (hb : z_Rg b) : Tokens_isLetter b M = some (if 97 ≤ b ∧ b ≤ 122 then 1 else 0, M) := by
  unfold Tokens_isLetter
  rw [z_jn_e]
  by_cases c : 97 ≤ b
  · rw [z_le_t (by omega)]
    by_cases d : b ≤ 122
    · rw [z_le_t (by omega), if_pos ⟨c, d⟩]
    · rw [z_le_f (by omega), if_neg (fun q => d q.2)]
  · rw [z_le_f (by omega), if_neg (fun q => c q.1)]
theorem Tokens_isBlank_e {M : zMem} {b : Int} (hb : z_Rg b) : Tokens_isBlank b M = some (if b = 32 ∨ b = 10 then 1 else 0, M) := by
  unfold Tokens_isBlank
  rw [z_jn_e]
  by_cases c : b = 32
  · rw [z_eq_t (by omega), if_pos (Or.inl c)]
  · rw [z_eq_f (by omega)]
    by_cases d : b = 10
    · rw [z_eq_t (by omega), if_pos (Or.inr d)]
    · rw [z_eq_f (by omega), if_neg (by omega)]
theorem Model_isAt_e {M : zMem} {a b : Int} (h7 : 0 ≤ M 0 7 ∧ M 0 7 ≤ 700) (h4 : 0 ≤ M 0 4 ∧ M 0 4 ≤ 700) (ha : z_Rg a) (hb : z_Rg b) (hby : M 0 7 < M 0 4 → 0 ≤ M 4 (M 0 7) ∧ M 4 (M 0 7) ≤ 255) : Model_isAt a b M = some (if M 0 7 < M 0 4 ∧ a ≤ M 4 (M 0 7) ∧ M 4 (M 0 7) ≤ b then 1 else 0, M) := by
  unfold Model_isAt
  rw [z_jn_e]
  by_cases c : M 0 7 < M 0 4
  · have q := hby c
    rw [z_lt_t (by omega), z_rd_t (by omega), z_il_t (by omega), z_il_t ha, z_il_t hb, Model_in_e (by omega) ha hb, z_cl_e, z_eq_b]
    by_cases d : a ≤ M 4 (M 0 7) ∧ M 4 (M 0 7) ≤ b
    · rw [if_pos d, if_pos ⟨c, d⟩]
    · rw [if_neg d, if_neg (fun q => d q.2)]
  · rw [z_lt_f (by omega), if_neg (fun q => c q.1)]
/-- from i on, while the sign is one of p -/
def y_run (t : Int → Int) (sz : Int) (p : Int → Prop) [DecidablePred p] : Nat → Int → Int
  | 0, i => i
  | n + 1, i => if i < sz ∧ p (t i) then y_run t sz p n (i + 1) else i
/-- the same tape on both sides -/
def tt_T (t : Int → Int) (sz : Int) (M E : zMem) : Prop := (M 1 1 = sz ∧ E 0 4 = sz ∧ 0 ≤ sz ∧ sz ≤ 700) ∧ ∀ j : Int, 0 ≤ j → j < sz → M 2 j = t j ∧ E 4 j = t j ∧ 0 ≤ t j ∧ t j ≤ 255
theorem tt_T_c {t : Int → Int} {sz : Int} {M E M' E' : zMem} (h : tt_T t sz M E) (h1 : M' 1 1 = M 1 1) (h2 : ∀ j, M' 2 j = M 2 j) (h4 : E' 0 4 = E 0 4) (h5 : ∀ j, E' 4 j = E 4 j) : tt_T t sz M' E' := by
  unfold tt_T at h ⊢
  rw [h1, h4, show M' 2 = M 2 from funext h2, show E' 4 = E 4 from funext h5]
  exact h
/-- blanks are skipped alike -/
theorem skip_j {t : Int → Int} {sz : Int} {N : Nat} {k k' : zMem → zO} : ∀ (d n n' : Nat) (M E : zMem) (i : Int), 0 ≤ i → i + d = sz → d < n → d < n' → tt_T t sz M E → M 9 5 = i → E 0 7 = i →
    ∃ (i' : Int) (M' E' : zMem), Tokens_skipBlanks_0 N k n M = k M' ∧ Model_next_0 N k' n' E = k' E' ∧ (i ≤ i' ∧ i' ≤ sz) ∧ M' 9 5 = i' ∧ E' 0 7 = i' ∧ (∀ c j, (c ≠ 9 ∨ j ≠ 5) → M' c j = M c j) ∧ (∀ c j, (c ≠ 0 ∨ j ≠ 7) → E' c j = E c j) ∧ (i' < sz → t i' ≠ 32 ∧ t i' ≠ 10) := by
  intro d
  induction d with
  | zero =>
    intro n n' M E i h0 hd hn hn' hT h5 h7
    obtain ⟨m, e⟩ : ∃ m, n = m + 1 := ⟨n - 1, by omega⟩
    obtain ⟨m', e'⟩ : ∃ m', n' = m' + 1 := ⟨n' - 1, by omega⟩
    subst e e'
    obtain ⟨⟨t1, t2, t3, t4⟩, t5⟩ := id hT
    refine ⟨i, M, E, ?_, ?_, by omega, h5, h7, fun _ _ _ => rfl, fun _ _ _ => rfl, fun q => by omega⟩
    · rw [Tokens_skipBlanks_0, h5]
      by_cases c : i < 700
      · rw [z_lt_t (by omega), Tape_byteAt_e (by omega) (by omega), if_neg (by omega), z_cl_e, Tokens_isBlank_e (by omega), if_neg (by omega), z_cl_e, z_eq_t (by omega)]
      · rw [z_lt_f (by omega)]
    · rw [Model_next_0, Model_isAt_e (by omega) (by omega) (by omega) (by omega) (fun q => by omega), if_neg (fun q => by omega), z_cl_e, z_jn_e, z_eq_t (by omega), Model_isAt_e (by omega) (by omega) (by omega) (by omega) (fun q => by omega), if_neg (fun q => by omega), z_cl_e, z_eq_t (by omega)]
  | succ d ih =>
    intro n n' M E i h0 hd hn hn' hT h5 h7
    obtain ⟨m, e⟩ : ∃ m, n = m + 1 := ⟨n - 1, by omega⟩
    obtain ⟨m', e'⟩ : ∃ m', n' = m' + 1 := ⟨n' - 1, by omega⟩
    subst e e'
    obtain ⟨⟨t1, t2, t3, t4⟩, t5⟩ := id hT
    obtain ⟨b1, b2, b3⟩ := t5 i h0 (by omega)
    have e4 : E 4 (E 0 7) = t i := by rw [h7]; exact b2
    have a1 := Model_isAt_e (M := E) (a := 32) (b := 32) (by omega) (by omega) (by omega) (by omega) (fun q => by omega)
    have a2 := Model_isAt_e (M := E) (a := 10) (b := 10) (by omega) (by omega) (by omega) (by omega) (fun q => by omega)
    rw [e4] at a1 a2
    rw [Tokens_skipBlanks_0, Model_next_0, h5, z_lt_t (by omega), Tape_byteAt_e (by omega) (by omega), if_pos (by omega), b1, z_cl_e, Tokens_isBlank_e (by omega), z_cl_e, z_eq_b, a1, z_cl_e, z_jn_e, z_eq_b, a2, z_cl_e, z_eq_b]
    by_cases c : t i = 32 ∨ t i = 10
    · have next : ∃ (i' : Int) (M' E' : zMem), Tokens_skipBlanks_0 N k m (z_st M 9 5 (i + 1)) = k M' ∧ Model_next_0 N k' m' (z_st E 0 7 (i + 1)) = k' E' ∧ (i ≤ i' ∧ i' ≤ sz) ∧ M' 9 5 = i' ∧ E' 0 7 = i' ∧ (∀ c j, (c ≠ 9 ∨ j ≠ 5) → M' c j = M c j) ∧ (∀ c j, (c ≠ 0 ∨ j ≠ 7) → E' c j = E c j) ∧ (i' < sz → t i' ≠ 32 ∧ t i' ≠ 10) := by
        obtain ⟨i', M', E', x1, x2, x3, x4, x5, x6, x7, x8⟩ := ih m m' (z_st M 9 5 (i + 1)) (z_st E 0 7 (i + 1)) (i + 1) (by omega) (by omega) (by omega) (by omega) (tt_T_c hT (z_st_c (by decide)) (fun j => z_st_c (by decide)) (z_st_n (by decide)) (fun j => z_st_c (by decide))) (z_st_i rfl) (z_st_i rfl)
        refine ⟨i', M', E', x1, x2, by omega, x4, x5, fun c j g => ?_, fun c j g => ?_, x8⟩
        · rw [x6 c j g]
          by_cases q : c = 9
          · subst q; exact z_st_n (by omega)
          · exact z_st_c q
        · rw [x7 c j g]
          by_cases q : c = 0
          · subst q; exact z_st_n (by omega)
          · exact z_st_c q
      rw [if_pos c, z_pf_e, h5]
      by_cases c1 : t i = 32
      · rw [if_pos (by omega)]; simp only [z_pf_e, h7]; exact next
      · rw [if_neg (by omega), if_pos (by omega)]; simp only [z_pf_e, h7]; exact next
    · rw [if_neg c, if_neg (by omega), if_neg (by omega)]
      exact ⟨i, M, E, rfl, rfl, by omega, h5, h7, fun _ _ _ => rfl, fun _ _ _ => rfl, fun _ => by omega⟩
