/-! small methods of both sides -/
theorem Model_in_e {v a b : Int} {M : zMem} (h0 : z_Rg v) (h1 : z_Rg a) (h2 : z_Rg b) : Model_in v a b M = some (if a ≤ v ∧ v ≤ b then 1 else 0, M) := by
  unfold Model_in
  simp (disch := omega) only [z_lt_t, z_lt_f, z_le_t, z_le_f, z_eq_t, z_eq_f, z_rd_t, z_wr_t, z_wz_t, z_pf_e, z_pz_t, z_nm_e, z_jn_e, z_cl_e, z_rz_t, z_dv_t, z_mt_t, z_il_t, z_mn_t, z_mx_t, z_fm_t, z_lc_t, z_cp_t]
  by_cases c1 : a ≤ v
  · by_cases c2 : v ≤ b
    · rw [if_pos (show a ≤ v ∧ v ≤ b from ⟨c1, c2⟩)]
      have e1 : 0 ≤ (if a < v then (1 : Int) else if v = a then 0 else -1) := by split; omega; split <;> omega
      have e2 : (if a < v then (1 : Int) else if v = a then 0 else -1) ≤ 1 := by split; omega; split <;> omega
      have e3 : (if b < v then (1 : Int) else if v = b then 0 else -1) ≤ 0 := by split; omega; split <;> omega
      have e4 : -1 ≤ (if b < v then (1 : Int) else if v = b then 0 else -1) := by split; omega; split <;> omega
      simp (disch := omega) only [z_lt_t, z_lt_f, z_le_t, z_le_f, z_eq_t, z_eq_f, z_rd_t, z_wr_t, z_wz_t, z_pf_e, z_pz_t, z_nm_e, z_jn_e, z_cl_e, z_rz_t]
    · rw [if_neg (show ¬ (a ≤ v ∧ v ≤ b) by omega)]
      have e1 : 0 ≤ (if a < v then (1 : Int) else if v = a then 0 else -1) := by split; omega; split <;> omega
      have e2 : (if a < v then (1 : Int) else if v = a then 0 else -1) ≤ 1 := by split; omega; split <;> omega
      have e3 : (if b < v then (1 : Int) else if v = b then 0 else -1) = 1 := by rw [if_pos (by omega)]
      simp (disch := omega) only [z_lt_t, z_lt_f, z_le_t, z_le_f, z_eq_t, z_eq_f, z_rd_t, z_wr_t, z_wz_t, z_pf_e, z_pz_t, z_nm_e, z_jn_e, z_cl_e, z_rz_t, e3]
  · rw [if_neg (show ¬ (a ≤ v ∧ v ≤ b) by omega)]
    have e1 : (if a < v then (1 : Int) else if v = a then 0 else -1) = -1 := by rw [if_neg (by omega), if_neg (by omega)]
    simp (disch := omega) only [z_lt_t, z_lt_f, z_le_t, z_le_f, z_eq_t, z_eq_f, z_rd_t, z_wr_t, z_wz_t, z_pf_e, z_pz_t, z_nm_e, z_jn_e, z_cl_e, z_rz_t, e1]
theorem z_rz_b {p : Prop} [Decidable p] {M : zMem} : z_rz (if p then 1 else 0) M = some (if p then 1 else 0, M) := z_rz_t (by split <;> omega)
theorem Model_isItem_e {v : Int} {M : zMem} (hv : z_Rg v) (hm : 0 ≤ M 1 5 ∧ M 1 5 ≤ 20) : Model_isItem v M = some (if 0 ≤ v ∧ v < M 1 5 then 1 else 0, M) := by
  unfold Model_isItem
  simp (disch := omega) only [z_lt_t, z_lt_f, z_le_t, z_le_f, z_eq_t, z_eq_f, z_rd_t, z_wr_t, z_wz_t, z_pf_e, z_pz_t, z_nm_e, z_jn_e, z_cl_e, z_rz_t, z_dv_t, z_mt_t, z_il_t, z_mn_t, z_mx_t, z_fm_t, z_lc_t, z_cp_t, Model_in_e]
  have e : (0 ≤ v ∧ v ≤ M 1 5 - 1) ↔ (0 ≤ v ∧ v < M 1 5) := by omega
  simp only [e]
theorem Model_many_e {M : zMem} : Model_many M = some (M 1 0 * M 1 1, M) := by
  unfold Model_many
  simp (disch := omega) only [z_lt_t, z_lt_f, z_le_t, z_le_f, z_eq_t, z_eq_f, z_rd_t, z_wr_t, z_wz_t, z_pf_e, z_pz_t, z_nm_e, z_jn_e, z_cl_e, z_rz_t]
theorem Model_hasRun_e {M : zMem} (h6 : z_Rg (M 1 6)) (h8 : z_Rg (M 1 8)) : Model_hasRun M = some (if 0 < M 1 6 ∧ M 1 8 ≠ -1 then 1 else 0, M) := by
  unfold Model_hasRun
  by_cases c1 : 0 < M 1 6
  · by_cases c2 : M 1 8 = -1
    · rw [if_neg (by omega)]; simp (disch := omega) only [z_lt_t, z_lt_f, z_le_t, z_le_f, z_eq_t, z_eq_f, z_rd_t, z_wr_t, z_wz_t, z_pf_e, z_pz_t, z_nm_e, z_jn_e, z_cl_e, z_rz_t]
    · rw [if_pos ⟨c1, c2⟩]; simp (disch := omega) only [z_lt_t, z_lt_f, z_le_t, z_le_f, z_eq_t, z_eq_f, z_rd_t, z_wr_t, z_wz_t, z_pf_e, z_pz_t, z_nm_e, z_jn_e, z_cl_e, z_rz_t]
  · rw [if_neg (by omega)]; simp (disch := omega) only [z_lt_t, z_lt_f, z_le_t, z_le_f, z_eq_t, z_eq_f, z_rd_t, z_wr_t, z_wz_t, z_pf_e, z_pz_t, z_nm_e, z_jn_e, z_cl_e, z_rz_t]
theorem Model_isFree_e {v : Int} {M : zMem} (hv : 0 ≤ v ∧ v < 20) (h : z_Rg (M 1 (129 + v))) : Model_isFree v M = some (if M 1 (129 + v) = -1 then 1 else 0, M) := by
  unfold Model_isFree
  by_cases c : M 1 (129 + v) = -1
  · rw [if_pos c]; simp (disch := omega) only [z_lt_t, z_lt_f, z_le_t, z_le_f, z_eq_t, z_eq_f, z_rd_t, z_wr_t, z_wz_t, z_pf_e, z_pz_t, z_nm_e, z_jn_e, z_cl_e, z_rz_t]
  · rw [if_neg c]; simp (disch := omega) only [z_lt_t, z_lt_f, z_le_t, z_le_f, z_eq_t, z_eq_f, z_rd_t, z_wr_t, z_wz_t, z_pf_e, z_pz_t, z_nm_e, z_jn_e, z_cl_e, z_rz_t]
theorem Plan_isItem_e {v : Int} {pl : Nat} {M : zMem} (hv : z_Rg v) (hm : 0 ≤ M pl 6 ∧ M pl 6 ≤ 20) : Plan_isItem pl v M = some (if 0 ≤ v ∧ v < M pl 6 then 1 else 0, M) := by
  unfold Plan_isItem
  by_cases c1 : 0 ≤ v
  · by_cases c2 : v < M pl 6
    · rw [if_pos ⟨c1, c2⟩]; simp (disch := omega) only [z_lt_t, z_lt_f, z_le_t, z_le_f, z_eq_t, z_eq_f, z_rd_t, z_wr_t, z_wz_t, z_pf_e, z_pz_t, z_nm_e, z_jn_e, z_cl_e, z_rz_t]
    · rw [if_neg (by omega)]; simp (disch := omega) only [z_lt_t, z_lt_f, z_le_t, z_le_f, z_eq_t, z_eq_f, z_rd_t, z_wr_t, z_wz_t, z_pf_e, z_pz_t, z_nm_e, z_jn_e, z_cl_e, z_rz_t]
  · rw [if_neg (by omega)]; simp (disch := omega) only [z_lt_t, z_lt_f, z_le_t, z_le_f, z_eq_t, z_eq_f, z_rd_t, z_wr_t, z_wz_t, z_pf_e, z_pz_t, z_nm_e, z_jn_e, z_cl_e, z_rz_t]
theorem Plan_isStep_e {v : Int} {pl : Nat} {M : zMem} (hv : z_Rg v) (hm : 0 ≤ M pl 6 ∧ M pl 6 ≤ 20) (ho : 0 ≤ v → v < M pl 6 → z_Rg (M (pl + 1) v)) : Plan_isStep pl v M = some (if (0 ≤ v ∧ v < M pl 6) ∧ M (pl + 1) v ≠ -1 then 1 else 0, M) := by
  unfold Plan_isStep
  rw [Plan_isItem_e hv hm, z_cl_e, z_jn_e, z_eq_b]
  by_cases c : 0 ≤ v ∧ v < M pl 6
  · have := ho c.1 c.2
    rw [if_pos c]
    by_cases c2 : M (pl + 1) v = -1
    · rw [if_neg (by omega)]; simp (disch := omega) only [z_lt_t, z_lt_f, z_le_t, z_le_f, z_eq_t, z_eq_f, z_rd_t, z_wr_t, z_wz_t, z_pf_e, z_pz_t, z_nm_e, z_jn_e, z_cl_e, z_rz_t]
    · rw [if_pos ⟨c, c2⟩]; simp (disch := omega) only [z_lt_t, z_lt_f, z_le_t, z_le_f, z_eq_t, z_eq_f, z_rd_t, z_wr_t, z_wz_t, z_pf_e, z_pz_t, z_nm_e, z_jn_e, z_cl_e, z_rz_t]
  · rw [if_neg c, if_neg (by omega)]
theorem Plan_isWord_e {v : Int} {pl : Nat} {M : zMem} (hv : z_Rg v) (hm : 0 ≤ M pl 6 ∧ M pl 6 ≤ 20) (ho : 0 ≤ v → v < M pl 6 → z_Rg (M (pl + 1) v)) : Plan_isWord pl v M = some (if (0 ≤ v ∧ v < M pl 6) ∧ M (pl + 1) v = -1 then 1 else 0, M) := by
  unfold Plan_isWord
  rw [Plan_isItem_e hv hm, z_cl_e, z_jn_e, z_eq_b]
  by_cases c : 0 ≤ v ∧ v < M pl 6
  · have := ho c.1 c.2
    rw [if_pos c]
    by_cases c2 : M (pl + 1) v = -1
    · rw [if_pos ⟨c, c2⟩]; simp (disch := omega) only [z_lt_t, z_lt_f, z_le_t, z_le_f, z_eq_t, z_eq_f, z_rd_t, z_wr_t, z_wz_t, z_pf_e, z_pz_t, z_nm_e, z_jn_e, z_cl_e, z_rz_t]
    · rw [if_neg (by omega)]; simp (disch := omega) only [z_lt_t, z_lt_f, z_le_t, z_le_f, z_eq_t, z_eq_f, z_rd_t, z_wr_t, z_wz_t, z_pf_e, z_pz_t, z_nm_e, z_jn_e, z_cl_e, z_rz_t]
  · rw [if_neg c, if_neg (by omega)]
theorem Plan_isFixed_e {v : Int} {M : zMem} (hv : z_Rg v) (hm : 0 ≤ M 19 6 ∧ M 19 6 ≤ 20) (ho : 0 ≤ v → v < M 19 6 → z_Rg (M 21 v)) : Plan_isFixed v M = some (if (0 ≤ v ∧ v < M 19 6) ∧ M 21 v ≠ -1 then 1 else 0, M) := by
  unfold Plan_isFixed
  rw [Plan_isItem_e hv hm, z_cl_e, z_jn_e, z_eq_b]
  by_cases c : 0 ≤ v ∧ v < M 19 6
  · have := ho c.1 c.2
    rw [if_pos c]
    by_cases c2 : M 21 v = -1
    · rw [if_neg (by omega)]; simp (disch := omega) only [z_lt_t, z_lt_f, z_le_t, z_le_f, z_eq_t, z_eq_f, z_rd_t, z_wr_t, z_wz_t, z_pf_e, z_pz_t, z_nm_e, z_jn_e, z_cl_e, z_rz_t]
    · rw [if_pos ⟨c, c2⟩]; simp (disch := omega) only [z_lt_t, z_lt_f, z_le_t, z_le_f, z_eq_t, z_eq_f, z_rd_t, z_wr_t, z_wz_t, z_pf_e, z_pz_t, z_nm_e, z_jn_e, z_cl_e, z_rz_t]
  · rw [if_neg c, if_neg (by omega)]
theorem Plan_isAddress_e {v : Int} {M : zMem} (hv : z_Rg v) (hm : 0 ≤ M 19 0 * M 19 1 ∧ M 19 0 * M 19 1 ≤ 48) : Plan_isAddress v M = some (if 0 ≤ v ∧ v < M 19 0 * M 19 1 then 1 else 0, M) := by
  unfold Plan_isAddress Plan_addresses
  by_cases c1 : 0 ≤ v
  · by_cases c2 : v < M 19 0 * M 19 1
    · rw [if_pos ⟨c1, c2⟩]; simp (disch := omega) only [z_lt_t, z_lt_f, z_le_t, z_le_f, z_eq_t, z_eq_f, z_rd_t, z_wr_t, z_wz_t, z_pf_e, z_pz_t, z_nm_e, z_jn_e, z_cl_e, z_rz_t]
    · rw [if_neg (by omega)]; simp (disch := omega) only [z_lt_t, z_lt_f, z_le_t, z_le_f, z_eq_t, z_eq_f, z_rd_t, z_wr_t, z_wz_t, z_pf_e, z_pz_t, z_nm_e, z_jn_e, z_cl_e, z_rz_t]
  · rw [if_neg (by omega)]; simp (disch := omega) only [z_lt_t, z_lt_f, z_le_t, z_le_f, z_eq_t, z_eq_f, z_rd_t, z_wr_t, z_wz_t, z_pf_e, z_pz_t, z_nm_e, z_jn_e, z_cl_e, z_rz_t]
theorem y_fnd_congr {f g : Int → Int} {x : Int} : ∀ (m : Nat) (i : Int), (∀ j : Int, i ≤ j → j < i + m → f j = g j) → y_fnd f x m i = y_fnd g x m i := by
  intro m
  induction m with
  | zero => intro i _; rfl
  | succ m ih =>
    intro i h
    show (if f i = x then i else y_fnd f x m (i + 1)) = (if g i = x then i else y_fnd g x m (i + 1))
    rw [h i (by omega) (by omega), ih (i + 1) (fun j h1 h2 => h j (by omega) (by omega))]
theorem y_fnd_b {f : Int → Int} {x : Int} : ∀ (m : Nat) (i : Int), y_fnd f x m i = -1 ∨ (i ≤ y_fnd f x m i ∧ y_fnd f x m i < i + m ∧ f (y_fnd f x m i) = x) := by
  intro m
  induction m with
  | zero => intro i; exact Or.inl rfl
  | succ m ih =>
    intro i
    show (if f i = x then i else y_fnd f x m (i + 1)) = -1 ∨ (i ≤ (if f i = x then i else y_fnd f x m (i + 1)) ∧ (if f i = x then i else y_fnd f x m (i + 1)) < i + (m + 1 : Nat) ∧ f (if f i = x then i else y_fnd f x m (i + 1)) = x)
    by_cases h : f i = x
    · rw [if_pos h]; exact Or.inr ⟨by omega, by omega, h⟩
    · rw [if_neg h]
      rcases ih (i + 1) with g | g
      · exact Or.inl g
      · exact Or.inr ⟨by omega, by omega, g.2.2⟩
theorem y_sum_congr {f g : Int → Int} : ∀ (m : Nat), (∀ j : Nat, j < m → f j = g j) → y_sum f m = y_sum g m := by
  intro m
  induction m with
  | zero => intro _; rfl
  | succ m ih =>
    intro h
    show y_sum f m + f m = y_sum g m + g m
    rw [h m (by omega), ih (fun j hj => h j (by omega))]
theorem Drum_itemAt_e {N : Nat} {x : Int} {M : zMem} (hN : 100 ≤ N) (h6 : 0 ≤ M 19 6 ∧ M 19 6 ≤ 20) (hx : z_Rg x) (ha : ∀ i : Int, 0 ≤ i → i < M 19 6 → z_Rg (M 57 i)) : Drum_itemAt N x M = some (y_fnd (M 57) x (M 19 6).toNat 0, M) := by
  have key : ∀ (n m : Nat) (i : Int), 0 ≤ i → i + m = M 19 6 → m < n → Drum_itemAt_2 N x (fun M1 => some ((-1), M1)) n i M = some (y_fnd (M 57) x m i, M) := by
    intro n
    induction n with
    | zero => intro m i _ _ h; omega
    | succ n ih =>
      intro m i hi him hmn
      rw [Drum_itemAt_2]
      cases m with
      | zero => simp (disch := omega) only [z_lt_t, z_lt_f, z_le_t, z_le_f, z_eq_t, z_eq_f, z_rd_t, z_wr_t, z_wz_t, z_pf_e, z_pz_t, z_nm_e, z_jn_e, z_cl_e, z_rz_t]; rfl
      | succ m =>
        have g := ha i hi (by omega)
        show _ = some ((if M 57 i = x then i else y_fnd (M 57) x m (i + 1)), M)
        by_cases h : M 57 i = x
        · rw [if_pos h]; simp (disch := omega) only [z_lt_t, z_lt_f, z_le_t, z_le_f, z_eq_t, z_eq_f, z_rd_t, z_wr_t, z_wz_t, z_pf_e, z_pz_t, z_nm_e, z_jn_e, z_cl_e, z_rz_t]
        · rw [if_neg h]; simp (disch := omega) only [z_lt_t, z_lt_f, z_le_t, z_le_f, z_eq_t, z_eq_f, z_rd_t, z_wr_t, z_wz_t, z_pf_e, z_pz_t, z_nm_e, z_jn_e, z_cl_e, z_rz_t]
          exact ih m (i + 1) (by omega) (by omega) (by omega)
  unfold Drum_itemAt
  rw [z_jn_e]
  exact key N _ 0 (by omega) (by omega) (by omega)
theorem Model_itemAt_e {N : Nat} {x : Int} {M : zMem} (hN : 100 ≤ N) (h6 : 0 ≤ M 1 5 ∧ M 1 5 ≤ 20) (hx : z_Rg x) (ha : ∀ i : Int, 0 ≤ i → i < M 1 5 → z_Rg (M 1 (149 + i))) : Model_itemAt N x M = some (y_fnd (fun i => M 1 (149 + i)) x (M 1 5).toNat 0, M) := by
  have key : ∀ (n m : Nat) (i : Int), 0 ≤ i → i + m = M 1 5 → m < n → Model_itemAt_2 N x (fun M1 => some ((-1), M1)) n i M = some (y_fnd (fun i => M 1 (149 + i)) x m i, M) := by
    intro n
    induction n with
    | zero => intro m i _ _ h; omega
    | succ n ih =>
      intro m i hi him hmn
      rw [Model_itemAt_2]
      cases m with
      | zero => simp (disch := omega) only [z_lt_t, z_lt_f, z_le_t, z_le_f, z_eq_t, z_eq_f, z_rd_t, z_wr_t, z_wz_t, z_pf_e, z_pz_t, z_nm_e, z_jn_e, z_cl_e, z_rz_t]; rfl
      | succ m =>
        have g := ha i hi (by omega)
        show _ = some ((if M 1 (149 + i) = x then i else y_fnd (fun i => M 1 (149 + i)) x m (i + 1)), M)
        by_cases h : M 1 (149 + i) = x
        · rw [if_pos h]; simp (disch := omega) only [z_lt_t, z_lt_f, z_le_t, z_le_f, z_eq_t, z_eq_f, z_rd_t, z_wr_t, z_wz_t, z_pf_e, z_pz_t, z_nm_e, z_jn_e, z_cl_e, z_rz_t]
        · rw [if_neg h]; simp (disch := omega) only [z_lt_t, z_lt_f, z_le_t, z_le_f, z_eq_t, z_eq_f, z_rd_t, z_wr_t, z_wz_t, z_pf_e, z_pz_t, z_nm_e, z_jn_e, z_cl_e, z_rz_t]
          exact ih m (i + 1) (by omega) (by omega) (by omega)
  unfold Model_itemAt
  rw [z_jn_e]
  exact key N _ 0 (by omega) (by omega) (by omega)
theorem Plan_loose_e {N : Nat} {M : zMem} (hN : 100 ≤ N) (h6 : 0 ≤ M 19 6 ∧ M 19 6 ≤ 20) (ha : ∀ i : Int, 0 ≤ i → i < M 19 6 → z_Rg (M 21 i)) : Plan_loose N M = some (y_sum (fun i => if M 21 i = -1 then 1 else 0) (M 19 6).toNat, M) := by
  have key : ∀ (n i : Nat), (i : Int) ≤ M 19 6 → M 19 6 - i < n → Plan_loose_4 N (fun v1_ M1 => some (v1_, M1)) n (y_sum (fun i => if M 21 i = -1 then 1 else 0) i) i M = some (y_sum (fun i => if M 21 i = -1 then 1 else 0) (M 19 6).toNat, M) := by
    intro n
    induction n with
    | zero => intro i _ h; omega
    | succ n ih =>
      intro i hi hn
      rw [Plan_loose_4]
      by_cases h : (i : Int) < M 19 6
      · have g := ha i (by omega) h
        have ec : (i : Int) + 1 = ((i + 1 : Nat) : Int) := by omega
        have es : y_sum (fun i => if M 21 i = -1 then 1 else 0) (i + 1) = y_sum (fun i => if M 21 i = -1 then 1 else 0) i + (if M 21 i = -1 then 1 else 0) := rfl
        have := ih (i + 1) (by omega) (by omega)
        rw [es] at this
        by_cases h1 : M 21 i = -1
        · rw [if_pos h1] at this
          simp (disch := omega) only [z_lt_t, z_lt_f, z_le_t, z_le_f, z_eq_t, z_eq_f, z_rd_t, z_wr_t, z_wz_t, z_pf_e, z_pz_t, z_nm_e, z_jn_e, z_cl_e, z_rz_t]
          rw [ec]; exact this
        · rw [if_neg h1, Int.add_zero] at this
          simp (disch := omega) only [z_lt_t, z_lt_f, z_le_t, z_le_f, z_eq_t, z_eq_f, z_rd_t, z_wr_t, z_wz_t, z_pf_e, z_pz_t, z_nm_e, z_jn_e, z_cl_e, z_rz_t]
          rw [ec]; exact this
      · simp (disch := omega) only [z_lt_t, z_lt_f, z_le_t, z_le_f, z_eq_t, z_eq_f, z_rd_t, z_wr_t, z_wz_t, z_pf_e, z_pz_t, z_nm_e, z_jn_e, z_cl_e, z_rz_t]
        rw [show (M 19 6).toNat = i by omega]
  unfold Plan_loose
  rw [z_jn_e]
  exact key N 0 (by omega) (by omega)
theorem Model_freeItems_e {N : Nat} {M : zMem} (hN : 100 ≤ N) (h6 : 0 ≤ M 1 5 ∧ M 1 5 ≤ 20) (ha : ∀ i : Int, 0 ≤ i → i < M 1 5 → z_Rg (M 1 (129 + i))) : Model_freeItems N M = some (y_sum (fun i => if M 1 (129 + i) = -1 then 1 else 0) (M 1 5).toNat, M) := by
  have key : ∀ (n i : Nat), (i : Int) ≤ M 1 5 → M 1 5 - i < n → Model_freeItems_4 N (fun v1_ M1 => some (v1_, M1)) n (y_sum (fun i => if M 1 (129 + i) = -1 then 1 else 0) i) i M = some (y_sum (fun i => if M 1 (129 + i) = -1 then 1 else 0) (M 1 5).toNat, M) := by
    intro n
    induction n with
    | zero => intro i _ h; omega
    | succ n ih =>
      intro i hi hn
      rw [Model_freeItems_4]
      by_cases h : (i : Int) < M 1 5
      · have g := ha i (by omega) h
        have ec : (i : Int) + 1 = ((i + 1 : Nat) : Int) := by omega
        have es : y_sum (fun i => if M 1 (129 + i) = -1 then 1 else 0) (i + 1) = y_sum (fun i => if M 1 (129 + i) = -1 then 1 else 0) i + (if M 1 (129 + (i : Int)) = -1 then 1 else 0) := rfl
        have := ih (i + 1) (by omega) (by omega)
        rw [es] at this
        by_cases h1 : M 1 (129 + (i : Int)) = -1
        · rw [if_pos h1] at this
          simp (disch := omega) only [z_lt_t, z_lt_f, z_le_t, z_le_f, z_eq_t, z_eq_f, z_rd_t, z_wr_t, z_wz_t, z_pf_e, z_pz_t, z_nm_e, z_jn_e, z_cl_e, z_rz_t]
          rw [ec]; exact this
        · rw [if_neg h1] at this
          simp (disch := omega) only [z_lt_t, z_lt_f, z_le_t, z_le_f, z_eq_t, z_eq_f, z_rd_t, z_wr_t, z_wz_t, z_pf_e, z_pz_t, z_nm_e, z_jn_e, z_cl_e, z_rz_t]
          rw [ec]; exact this
      · simp (disch := omega) only [z_lt_t, z_lt_f, z_le_t, z_le_f, z_eq_t, z_eq_f, z_rd_t, z_wr_t, z_wz_t, z_pf_e, z_pz_t, z_nm_e, z_jn_e, z_cl_e, z_rz_t]
        rw [show (M 1 5).toNat = i by omega]
  unfold Model_freeItems
  rw [z_jn_e]
  exact key N 0 (by omega) (by omega)
theorem Model_wordsOf_e {N : Nat} {M : zMem} (hN : 100 ≤ N) (h6 : 0 ≤ M 1 5 ∧ M 1 5 ≤ 20) : Model_wordsOf N M = some (y_sum (fun i => 1 - M 1 (9 + i)) (M 1 5).toNat, M) := by
  have key : ∀ (n i : Nat), (i : Int) ≤ M 1 5 → M 1 5 - i < n → Model_wordsOf_4 N (fun v1_ M1 => some (v1_, M1)) n (y_sum (fun i => 1 - M 1 (9 + i)) i) i M = some (y_sum (fun i => 1 - M 1 (9 + i)) (M 1 5).toNat, M) := by
    intro n
    induction n with
    | zero => intro i _ h; omega
    | succ n ih =>
      intro i hi hn
      rw [Model_wordsOf_4]
      by_cases h : (i : Int) < M 1 5
      · have ec : (i : Int) + 1 = ((i + 1 : Nat) : Int) := by omega
        have := ih (i + 1) (by omega) (by omega)
        simp (disch := omega) only [z_lt_t, z_lt_f, z_le_t, z_le_f, z_eq_t, z_eq_f, z_rd_t, z_wr_t, z_wz_t, z_pf_e, z_pz_t, z_nm_e, z_jn_e, z_cl_e, z_rz_t]
        rw [ec]; exact this
      · simp (disch := omega) only [z_lt_t, z_lt_f, z_le_t, z_le_f, z_eq_t, z_eq_f, z_rd_t, z_wr_t, z_wz_t, z_pf_e, z_pz_t, z_nm_e, z_jn_e, z_cl_e, z_rz_t]
        rw [show (M 1 5).toNat = i by omega]
  unfold Model_wordsOf
  rw [z_jn_e]
  exact key N 0 (by omega) (by omega)
/-! what the relation gives -/
theorem Rel_n {N : Nat} {C D : zMem} (h : Rel N C D) : (0 ≤ C 19 6 ∧ C 19 6 ≤ 20) ∧ (0 ≤ C 19 0 * C 19 1 ∧ C 19 0 * C 19 1 ≤ 48) ∧ (0 ≤ C 19 8 ∧ C 19 8 ≤ 20) ∧ (0 < C 19 8 → 0 < C 19 5) := by
  obtain ⟨-, -, ⟨p1, p2, p3, p4, p5, p6, p7⟩, -⟩ := h
  have h8 : 0 < C 19 8 → 0 < C 19 5 := fun g => (p7.2.mpr g).1
  by_cases c : C 19 5 = 0
  · obtain ⟨q0, q1, q2, q3, q4, q6⟩ := p3 c
    rw [q0, q6]
    have := p5.1
    refine ⟨by omega, by omega, by omega, h8⟩
  · have hP := p4 (by omega)
    obtain ⟨a1, a2, a3, a4, a5, a6⟩ := hP
    obtain ⟨t1, t2, t3, t4⟩ := y_ts a1 a2
    have := p5.1
    refine ⟨by omega, by omega, by omega, h8⟩
