/-! tokens: letters -/
/-- the code of a name: n letters from b on -/
def y_nm (t : Int → Int) (b : Int) : Nat → Int
  | 0 => 0
  | n + 1 => if n < 6 then y_nm t b n * 27 + t (b + n) - 97 + 1 else -1
theorem letters_j {t : Int → Int} {sz b : Int} {N : Nat} {k k' : zMem → zO} : ∀ (d n n' : Nat) (M E : zMem) (w : Nat), 0 ≤ b → b + w + d = sz → d < n → d < n' → tt_T t sz M E → M 9 5 = b + w → M 9 2 = b → M 9 4 = y_nm t b w → E 0 7 = b + w →
    ∃ (w' : Nat) (M' E' : zMem), Tokens_takeLetters_5 N k n M = k M' ∧ Model_next_88 N k' n' E = k' E' ∧ (w ≤ w' ∧ b + w' ≤ sz) ∧ M' 9 5 = b + w' ∧ M' 9 4 = y_nm t b w' ∧ E' 0 7 = b + w' ∧ (∀ c j, (c ≠ 9 ∨ (j ≠ 5 ∧ j ≠ 4)) → M' c j = M c j) ∧ (∀ c j, (c ≠ 0 ∨ j ≠ 7) → E' c j = E c j) ∧ (∀ x : Nat, w ≤ x → x < w' → 97 ≤ t (b + x) ∧ t (b + x) ≤ 122) ∧ (b + w' < sz → ¬ (97 ≤ t (b + w') ∧ t (b + w') ≤ 122)) := by
  intro d
  induction d with
  | zero =>
    intro n n' M E w h0 hd hn hn' hT h5 h2 h4 h7
    obtain ⟨m, e⟩ : ∃ m, n = m + 1 := ⟨n - 1, by omega⟩
    obtain ⟨m', e'⟩ : ∃ m', n' = m' + 1 := ⟨n' - 1, by omega⟩
    subst e e'
    obtain ⟨⟨t1, t2, t3, t4⟩, t5⟩ := id hT
    refine ⟨w, M, E, ?_, ?_, by omega, h5, h4, h7, fun _ _ _ => rfl, fun _ _ _ => rfl, fun x g1 g2 => by omega, fun q => by omega⟩
    · rw [Tokens_takeLetters_5, h5]
      by_cases c : b + (w : Int) < 700
      · rw [z_lt_t (by omega), Tape_byteAt_e (by omega) (by omega), if_neg (by omega), z_cl_e, Tokens_isLetter_e (by omega), if_neg (by omega), z_cl_e, z_eq_t (by omega)]
      · rw [z_lt_f (by omega)]
    · rw [Model_next_88, Model_isAt_e (by omega) (by omega) (by omega) (by omega) (fun q => by omega), if_neg (fun q => by omega), z_cl_e, z_eq_t (by omega)]
  | succ d ih =>
    intro n n' M E w h0 hd hn hn' hT h5 h2 h4 h7
    obtain ⟨m, e⟩ : ∃ m, n = m + 1 := ⟨n - 1, by omega⟩
    obtain ⟨m', e'⟩ : ∃ m', n' = m' + 1 := ⟨n' - 1, by omega⟩
    subst e e'
    obtain ⟨⟨t1, t2, t3, t4⟩, t5⟩ := id hT
    obtain ⟨b1, b2, b3⟩ := t5 (b + w) (by omega) (by omega)
    have e4 : E 4 (E 0 7) = t (b + w) := by rw [h7]; exact b2
    have a1 := Model_isAt_e (M := E) (a := 97) (b := 122) (by omega) (by omega) (by omega) (by omega) (fun q => by omega)
    rw [e4] at a1
    rw [Tokens_takeLetters_5, Model_next_88, h5, z_lt_t (by omega), Tape_byteAt_e (by omega) (by omega), if_pos (by omega), b1, z_cl_e, Tokens_isLetter_e (by omega), z_cl_e, z_eq_b, a1, z_cl_e, z_eq_b]
    by_cases c : 97 ≤ t (b + w) ∧ t (b + w) ≤ 122
    · have es : y_nm t b (w + 1) = if w < 6 then y_nm t b w * 27 + t (b + w) - 97 + 1 else -1 := rfl
      have next : ∃ (w' : Nat) (M' E' : zMem), Tokens_takeLetters_5 N k m (z_st (z_st M 9 4 (y_nm t b (w + 1))) 9 5 (b + w + 1)) = k M' ∧ Model_next_88 N k' m' (z_st E 0 7 (b + w + 1)) = k' E' ∧ (w ≤ w' ∧ b + w' ≤ sz) ∧ M' 9 5 = b + w' ∧ M' 9 4 = y_nm t b w' ∧ E' 0 7 = b + w' ∧ (∀ c j, (c ≠ 9 ∨ (j ≠ 5 ∧ j ≠ 4)) → M' c j = M c j) ∧ (∀ c j, (c ≠ 0 ∨ j ≠ 7) → E' c j = E c j) ∧ (∀ x : Nat, w ≤ x → x < w' → 97 ≤ t (b + x) ∧ t (b + x) ≤ 122) ∧ (b + w' < sz → ¬ (97 ≤ t (b + w') ∧ t (b + w') ≤ 122)) := by
        obtain ⟨w', M', E', x1, x2, x3, x4, x5, x6, x7, x8, x9, x10⟩ := ih m m' (z_st (z_st M 9 4 (y_nm t b (w + 1))) 9 5 (b + w + 1)) (z_st E 0 7 (b + w + 1)) (w + 1) h0 (by omega) (by omega) (by omega) (tt_T_c hT (by rw [z_st_c (by decide), z_st_c (by decide)]) (fun j => by rw [z_st_c (by decide), z_st_c (by decide)]) (z_st_n (by decide)) (fun j => z_st_c (by decide))) (by rw [z_st_i rfl]; omega) (by rw [z_st_n (by decide), z_st_n (by decide)]; exact h2) (by rw [z_st_n (by decide), z_st_i rfl]) (by rw [z_st_i rfl]; omega)
        refine ⟨w', M', E', x1, x2, by omega, x4, x5, x6, fun c j g => ?_, fun c j g => ?_, fun x g1 g2 => ?_, x10⟩
        · rw [x7 c j g]
          by_cases q : c = 9
          · subst q; rw [z_st_n (by omega), z_st_n (by omega)]
          · rw [z_st_c q, z_st_c q]
        · rw [x8 c j g]
          by_cases q : c = 0
          · subst q; exact z_st_n (by omega)
          · exact z_st_c q
        · by_cases q : x = w
          · rw [q]; exact c
          · exact x9 x (by omega) g2
      rw [if_pos c, if_pos (by omega), z_pf_e, h7, z_jn_e, h2]
      by_cases cw : w < 6
      · rw [if_pos cw] at es
        rw [z_lt_t (by omega)]
        simp only []
        rw [z_jn_e, z_eq_f (by omega), h5, Tape_byteAt_e (by omega) (by omega), if_pos (by omega), b1, z_cl_e, h4, ← es]
        simp only [z_pf_e]
        rw [z_st_n (by decide), h5]
        exact next
      · rw [if_neg cw] at es
        rw [z_lt_f (by omega)]
        simp only []
        rw [z_jn_e, z_eq_t (by omega), ← es]
        simp only [z_pf_e]
        rw [z_st_n (by decide), h5]
        exact next
    · rw [if_neg c, if_neg (by omega)]
      exact ⟨w, M, E, rfl, rfl, by omega, h5, h4, h7, fun _ _ _ => rfl, fun _ _ _ => rfl, fun x g1 g2 => by omega, fun _ => c⟩
