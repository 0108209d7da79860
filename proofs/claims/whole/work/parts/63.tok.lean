/-! tokens: signs of the tape on both sides -/
theorem Tape_byteAt_e {M : zMem} {i : Int} (hi : 0 ≤ i ∧ i ≤ 10000) (hs : 0 ≤ M 1 1 ∧ M 1 1 ≤ 700) : Tape_byteAt i M = some (if i < M 1 1 then M 2 i else -1, M) := by
  unfold Tape_byteAt
  rw [z_jn_e, z_le_t (by omega)]
  by_cases c : i < M 1 1
  · rw [z_lt_t (by omega), z_rd_t (by omega), if_pos c]
  · rw [z_lt_f (by omega), if_neg c]
theorem Tokens_isDigit_e {M : zMem} {b : Int} (hb : z_Rg b) : Tokens_isDigit b M = some (if 48 ≤ b ∧ b ≤ 57 then 1 else 0, M) := by
  unfold Tokens_isDigit
  rw [z_jn_e]
  by_cases c : 48 ≤ b
  · rw [z_le_t (by omega)]
    by_cases d : b ≤ 57
    · rw [z_le_t (by omega), if_pos ⟨c, d⟩]
    · rw [z_le_f (by omega), if_neg (fun q => d q.2)]
  · rw [z_le_f (by omega), if_neg (fun q => c q.1)]
theorem Tokens_isLetter_e {M : zMem} {b : Int} (hb : z_Rg b) : Tokens_isLetter b M = some (if 97 ≤ b ∧ b ≤ 122 then 1 else 0, M) := by
  unfold Tokens_isLetter
  rw [z_jn_e]
  by_cases c : 97 ≤ b
  · rw [z_le_t (by omega)]
    by_cases d : b ≤ 122
    · rw [z_le_t (by omega), if_pos ⟨c, d⟩]
    · rw [z_le_f (by omega), if_neg (fun q => d q.2)]
  · rw [z_le_f (by omega), if_neg (fun q => c q.1)]
theorem Tokens_isBlank_e {M : zMem} {b : Int} (hb : z_Rg b) : Tokens_isBlank b M = some (if b = 32 ∨ b = 10 then 1 else 0, M) := by
  unfold Tokens_isBlank
  rw [z_jn_e]
  by_cases c : b = 32
  · rw [z_eq_t (by omega), if_pos (Or.inl c)]
  · rw [z_eq_f (by omega)]
    by_cases d : b = 10
    · rw [z_eq_t (by omega), if_pos (Or.inr d)]
    · rw [z_eq_f (by omega), if_neg (by omega)]
theorem Model_isAt_e {M : zMem} {a b : Int} (h7 : 0 ≤ M 0 7 ∧ M 0 7 ≤ 700) (h4 : 0 ≤ M 0 4 ∧ M 0 4 ≤ 700) (ha : z_Rg a) (hb : z_Rg b) (hby : M 0 7 < M 0 4 → 0 ≤ M 4 (M 0 7) ∧ M 4 (M 0 7) ≤ 255) : Model_isAt a b M = some (if M 0 7 < M 0 4 ∧ a ≤ M 4 (M 0 7) ∧ M 4 (M 0 7) ≤ b then 1 else 0, M) := by
  unfold Model_isAt
  rw [z_jn_e]
  by_cases c : M 0 7 < M 0 4
  · have q := hby c
    rw [z_lt_t (by omega), z_rd_t (by omega), z_il_t (by omega), z_il_t ha, z_il_t hb, Model_in_e (by omega) ha hb, z_cl_e, z_eq_b]
    by_cases d : a ≤ M 4 (M 0 7) ∧ M 4 (M 0 7) ≤ b
    · rw [if_pos d, if_pos ⟨c, d⟩]
    · rw [if_neg d, if_neg (fun q => d q.2)]
  · rw [z_lt_f (by omega), if_neg (fun q => c q.1)]
/-- from i on, while the sign is one of p -/
def y_run (t : Int → Int) (sz : Int) (p : Int → Prop) [DecidablePred p] : Nat → Int → Int
  | 0, i => i
  | n + 1, i => if i < sz ∧ p (t i) then y_run t sz p n (i + 1) else i
