/-! reading: the pieces of an item's line -/
theorem gd_c {t : Int → Int} {sz b : Int} {w : Nat} {M E M' E' : zMem} (h : gd t sz b w M E) (hM : ∀ c j, (c = 1 ∨ c = 2 ∨ c = 3 ∨ c = 9) → M' c j = M c j) (hE : ∀ c j, (c = 4 ∨ (c = 0 ∧ j < 22)) → E' c j = E c j) : gd t sz b w M' E' := by
  refine ⟨tt_T_c h.1 (hM 1 1 (by omega)) (fun j => hM 2 j (by omega)) (hE 0 4 (by omega)) (fun j => hE 4 j (by omega)), ?_, ?_⟩
  · rw [hM 9 3 (by omega), hM 9 4 (by omega), hM 3 6 (by omega), hE 0 12 (by omega), hE 0 21 (by omega), hM 3 7 (by omega), hE 0 13 (by omega), hE 0 14 (by omega)]; exact h.2.1
  · have k := h.2.2
    unfold tk_S at k ⊢
    rw [hM 9 1 (by omega), hM 9 2 (by omega), hM 9 3 (by omega), hM 9 4 (by omega), hM 9 5 (by omega), hE 0 7 (by omega), hE 0 8 (by omega), hE 0 9 (by omega), hE 0 10 (by omega), hE 0 11 (by omega)]
    exact k
theorem bd_c {M E M' E' : zMem} (h : bd M E) (hM : ∀ c j, (c = 1 ∨ c = 2 ∨ c = 3 ∨ c = 9) → M' c j = M c j) (hE : ∀ j : Int, j < 22 → E' 0 j = E 0 j) : bd M' E' := by
  refine ⟨cT_c h.1 hM, ?_⟩
  have k := h.2
  unfold bE at k ⊢
  rw [hM 3 6 (by omega), hM 3 7 (by omega), hE 9 (by omega), hE 10 (by omega), hE 11 (by omega), hE 12 (by omega), hE 13 (by omega), hE 14 (by omega), hE 21 (by omega)]
  exact k
section
variable {t : Int → Int} {sz b m : Int} {w N : Nat} {M E : zMem}
theorem operation_e (hN : 1000 ≤ N) (h : gd t sz b w M E) : Tokens_operation N M = some (if E 0 11 ≤ 7 then E 0 11 else -1, M) := by
  have rg := (tk_r h.2.2).2.2
  unfold Tokens_operation
  simp only [is_k (n := 0) (s := 11) hN h (by decide) kept_0, is_k (n := 1) (s := 12) hN h (by decide) kept_1, is_k (n := 2) (s := 13) hN h (by decide) kept_2, is_k (n := 3) (s := 14) hN h (by decide) kept_3, is_k (n := 4) (s := 15) hN h (by decide) kept_4, is_k (n := 5) (s := 16) hN h (by decide) kept_5, is_k (n := 6) (s := 17) hN h (by decide) kept_6, is_k (n := 7) (s := 18) hN h (by decide) kept_7, z_cl_e, z_eq_b]
  have : E 0 11 = -1 ∨ E 0 11 = 0 ∨ E 0 11 = 1 ∨ E 0 11 = 2 ∨ E 0 11 = 3 ∨ E 0 11 = 4 ∨ E 0 11 = 5 ∨ E 0 11 = 6 ∨ E 0 11 = 7 ∨ 8 ≤ E 0 11 := by omega
  rcases this with q | q | q | q | q | q | q | q | q | q
  all_goals first | (rw [q]; rfl) | skip
  rw [if_neg (by omega), if_neg (by omega), if_neg (by omega), if_neg (by omega), if_neg (by omega), if_neg (by omega), if_neg (by omega), if_neg (by omega), if_neg (by omega)]
theorem isLineWord_e (hN : 1000 ≤ N) (h : gd t sz b w M E) : Tokens_isLineWord N M = some (if 8 ≤ E 0 11 then 1 else 0, M) := by
  have rg := (tk_r h.2.2).2.2
  have k8 : y_is t b w 7 ↔ y_kept t b w = 8 := (y_is_same (by decide +kernel)).trans kept_8
  have k9 : y_is t b w 8 ↔ y_kept t b w = 9 := (y_is_same (by decide +kernel)).trans kept_9
  unfold Tokens_isLineWord
  simp only [is_k (n := 8) (s := 7) hN h (by decide) k8, is_k (n := 9) (s := 8) hN h (by decide) k9, is_k (n := 10) (s := 9) hN h (by decide) kept_10, is_k (n := 11) (s := 10) hN h (by decide) kept_11, z_cl_e, z_eq_b, z_jn_e]
  have : E 0 11 = 8 ∨ E 0 11 = 9 ∨ E 0 11 = 10 ∨ E 0 11 = 11 ∨ E 0 11 ≤ 7 := by omega
  rcases this with q | q | q | q | q
  all_goals first | (rw [q]; rfl) | skip
  rw [if_neg (by omega), if_neg (by omega), if_neg (by omega), if_neg (by omega), if_neg (by omega)]
theorem itemNamed_b {v : Int} (hN : 1000 ≤ N) (hm : 0 ≤ m ∧ m ≤ 20) (hv : z_Rg v) (hf : ∀ i : Int, 0 ≤ i → i < m → z_Rg (M 4 i)) : ∃ r : Int, (-1 ≤ r ∧ r < 20) ∧ Reader_itemNamed N v m M = some (r, M) := by
  have loop : ∀ (d n : Nat) (i : Int), 0 ≤ i → i + d = m → d < n → ∃ r : Int, (-1 ≤ r ∧ r < 20) ∧ Reader_itemNamed_2 N v m (fun (M1 : zMem) => some ((-1), M1)) n i M = some (r, M) := by
    intro d
    induction d with
    | zero =>
      intro n i h0 hd hn
      obtain ⟨n, rfl⟩ : ∃ k, n = k + 1 := ⟨n - 1, by omega⟩
      rw [Reader_itemNamed_2, z_lt_f (by omega)]
      exact ⟨-1, by omega, rfl⟩
    | succ d ih =>
      intro n i h0 hd hn
      obtain ⟨n, rfl⟩ : ∃ k, n = k + 1 := ⟨n - 1, by omega⟩
      have hr := hf i h0 (by omega)
      rw [Reader_itemNamed_2, z_lt_t (by omega), z_lt_t (by omega), z_rd_t (by omega), z_eq_e hr hv]
      by_cases c : M 4 i = v
      · rw [if_pos c]
        exact ⟨i, by omega, rfl⟩
      · rw [if_neg c, z_nm_e]
        exact ih n (i + 1) (by omega) (by omega) (by omega)
  unfold Reader_itemNamed
  rw [z_jn_e]
  exact loop m.toNat N 0 (by omega) (by omega) (by omega)
/-- an item's own name, cut into its pieces -/
def nA (N : Nat) (M5 : zMem) : zO := z_cl (Tokens_advance N M5) (fun u_ M6 => some (0, M6))
def nK (N : Nat) (v1 x0 x1 : Int) (M4 : zMem) : zO := z_eq (M4 9 1) 1 (z_eq x0 0 (z_eq x1 0 (z_eq (M4 9 4) (-1) (z_cl (Reader_fail 2 M4) (fun u_1 M8 => nA N M8)) (z_lt v1 20 (z_wr M4 4 20 v1 (M4 9 4) (fun M9 => nA N M9)) (nA N M4))) (z_cl (Reader_fail 2 M4) (fun u_1 M8 => nA N M8))) (z_cl (Reader_fail 2 M4) (fun u_1 M8 => nA N M8))) (z_cl (Reader_fail 1 M4) (fun u_2 M10 => nA N M10))
def nQ (N : Nat) (v1 x0 : Int) (M2 : zMem) : zO := z_cl (Reader_itemNamed N (M2 9 4) v1 M2) (fun r_1 M3 => z_eq r_1 (-1) (nK N v1 x0 0 M3) (nK N v1 x0 1 M3))
theorem nT_e {v1 : Int} : Reader_takeItemName N v1 M = z_cl (Tokens_isLineWord N M) (fun r_ M1 => z_eq r_ 0 (z_cl (Tokens_operation N M1) (fun r_2 M12 => z_eq r_2 (-1) (nQ N v1 0 M12) (nQ N v1 1 M12))) (nQ N v1 1 M1)) := rfl
theorem nQ_e {v1 x0 r : Int} (hr : Reader_itemNamed N (M 9 4) v1 M = some (r, M)) (hr' : -1 ≤ r ∧ r < 20) : nQ N v1 x0 M = nK N v1 x0 (if r = -1 then 0 else 1) M := by
  unfold nQ
  rw [hr, z_cl_e, z_eq_e (by omega) (by omega)]
  by_cases c : r = -1
  · rw [if_pos c, if_pos c]
  · rw [if_neg c, if_neg c]
theorem nG (hN : 1000 ≤ N) (h : gd t sz b w M E) {r : Int} (hr : Reader_itemNamed N (M 9 4) m M = some (r, M)) (hr' : -1 ≤ r ∧ r < 20) :
    ∃ x0 x1 : Int, Reader_takeItemName N m M = nK N m x0 x1 M ∧ (x0 = 0 ∨ x0 = 1) ∧ (x0 = 0 ↔ E 0 11 = -1) ∧ (x1 = 0 ∨ x1 = 1) ∧ (x1 = 0 ↔ r = -1) := by
  have rg := (tk_r h.2.2).2.2
  refine ⟨if E 0 11 = -1 then 0 else 1, if r = -1 then 0 else 1, ?_, by split <;> omega, by split <;> omega, by split <;> omega, by split <;> omega⟩
  rw [nT_e, isLineWord_e hN h, z_cl_e, z_eq_b, operation_e hN h, z_cl_e, nQ_e hr hr', nQ_e hr hr']
  by_cases c3 : 8 ≤ E 0 11
  · rw [if_pos c3, if_neg (show ¬ E 0 11 = -1 by omega)]
  · rw [if_neg c3, if_pos (show E 0 11 ≤ 7 by omega)]
    by_cases c2 : E 0 11 = -1
    · rw [z_eq_t (by omega), if_pos c2]
    · rw [z_eq_f (by omega), if_neg c2]
theorem ownName_e (hN : 1000 ≤ N) (h : gd t sz b w M E) (k1 : M 9 1 = 1) (hm : 0 ≤ m ∧ m < 20) {r : Int} (hr : Reader_itemNamed N (M 9 4) m M = some (r, M)) (hr' : -1 ≤ r ∧ r < 20) : Reader_takeItemName N m M = if w ≤ 6 ∧ E 0 11 = -1 ∧ r = -1 then nA N (z_st M 4 m (M 9 4)) else z_cl (Reader_fail 2 M) (fun u_1 M8 => nA N M8) := by
  have r4 := h.2.2.2.2.1 k1
  have hw : (M 9 4 = -1 ↔ ¬ w ≤ 6) := by
    rcases h.2.2.2.2.2.2 with q | q | q | q | q | q
    · have q1 := q.1; clear q; omega
    · obtain ⟨-, -, q2, -, q3, q4⟩ := q
      have nb := y_nm_b w q4
      rw [q3]
      constructor
      · intro e c
        have := (nb.1 c).1
        omega
      · intro c; exact nb.2 (by omega)
    · have q1 := q.1; clear q; omega
    · have q1 := q.1; clear q; omega
    · have q1 := q.1; clear q; omega
    · have q1 := q.1; clear q; omega
  obtain ⟨x0, x1, e, a1, a2, b1, b2⟩ := nG (m := m) hN h hr hr'
  rw [e]
  unfold nK
  rw [z_eq_t (x := M 9 1) (by omega)]
  by_cases c0 : x0 = 0
  · rw [z_eq_t (x := x0) (by omega)]
    by_cases c1 : x1 = 0
    · rw [z_eq_t (x := x1) (by omega)]
      by_cases c : w ≤ 6
      · rw [z_eq_f (x := M 9 4) (by omega), z_lt_t (by omega), z_wr_t (by omega), if_pos ⟨c, a2.1 c0, b2.1 c1⟩]
      · rw [z_eq_t (x := M 9 4) (by omega), if_neg (fun q => c q.1)]
    · rw [z_eq_f (x := x1) (by omega), if_neg (fun q => c1 (b2.2 q.2.2))]
  · rw [z_eq_f (x := x0) (by omega), if_neg (fun q => c0 (a2.2 q.2.1))]
def nM (m : Int) (M M' : zMem) : Prop := ∀ c j, c ≠ 3 → c ≠ 9 → (c ≠ 4 ∨ j ≠ m) → M' c j = M c j
def nE (m : Int) (E E' : zMem) : Prop := ∀ c j, (c ≠ 0 ∨ j < 7 ∨ 14 < j) → ((c ≠ 5 ∧ c ≠ 6) ∨ j ≠ m) → E' c j = E c j
theorem itemName_j (hN : 1000 ≤ N) (h : gd t sz b w M E) (hm : 0 ≤ m ∧ m < 20) (h5 : E 1 5 = m) (hn : ∀ i : Int, 0 ≤ i → i < m → nmS t sz M E i) :
    ∃ M' E' : zMem, Reader_takeItemName N m M = some (0, M') ∧ Model_readsName N E = some (0, E') ∧ nM m M M' ∧ nE m E E' ∧ (bd M' E' ∨ ∃ (b' : Int) (w' : Nat), gd t sz b' w' M' E' ∧ nmS t sz M' E' m) := by
  have rg := tk_r h.2.2
  have kk := h.2.2.1
  -- the reference's rest
  have ref : ∀ E1 : zMem, E1 1 5 = m → z_rd E1 1 169 5 (fun x0 => z_wr E1 5 20 x0 (E1 0 8) (fun M2 => z_rd M2 1 169 5 (fun x1 => z_wr M2 6 20 x1 ((M2 0 7) - (M2 0 8)) (fun M3 => z_eq (M3 0 9) 1 (z_cl (Model_passes N 1 M3) (fun u_ M5 => some (0, M5))) (z_cl (Model_passes N 0 M3) (fun u_ M5 => some (0, M5))))))) = z_eq (E1 0 9) 1 (z_cl (Model_passes N 1 (z_st (z_st E1 5 m (E1 0 8)) 6 m (E1 0 7 - E1 0 8))) (fun u_ M5 => some (0, M5))) (z_cl (Model_passes N 0 (z_st (z_st E1 5 m (E1 0 8)) 6 m (E1 0 7 - E1 0 8))) (fun u_ M5 => some (0, M5))) := fun E1 e5 => by
    rw [z_rd_t (by omega), e5, z_wr_t (by omega), z_rd_t (by omega), z_st_c (by decide), e5, z_wr_t (by omega), z_st_c (by decide), z_st_c (by decide), z_st_c (by decide), z_st_c (by decide)]
  have nE0 : ∀ E1 : zMem, aE E E1 → ∀ x y : Int, nE m E (z_st (z_st E1 5 m x) 6 m y) := fun E1 hE x y c j g1 g2 => by
    rw [← hE c j g1]
    by_cases q6 : c = 6
    · subst q6; rw [z_st_n (by omega), z_st_c (by decide)]
    · rw [z_st_c q6]
      by_cases q5 : c = 5
      · subst q5; rw [z_st_n (by omega)]
      · rw [z_st_c q5]
  have bad : ∀ (k : Int) (E1 M1 : zMem), bd M1 E1 → aE E E1 → (k = 0 ∨ k = 1) → Model_passes N k (z_st (z_st E1 5 m (E1 0 8)) 6 m (E1 0 7 - E1 0 8)) = some (0, z_st (z_st E1 5 m (E1 0 8)) 6 m (E1 0 7 - E1 0 8)) ∧ bd M1 (z_st (z_st E1 5 m (E1 0 8)) 6 m (E1 0 7 - E1 0 8)) := fun k E1 M1 hb hE hk => by
    have b2 : bd M1 (z_st (z_st E1 5 m (E1 0 8)) 6 m (E1 0 7 - E1 0 8)) := bd_c hb (fun _ _ _ => rfl) (fun j _ => by rw [z_st_c (by decide), z_st_c (by decide)])
    exact ⟨passes_b b2.2.1 (by omega), b2⟩
  unfold Model_readsName
  simp only [z_jn_e]
  by_cases c : M 9 1 = 1
  · obtain ⟨e9, w1, kp, nm, lets⟩ : E 0 9 = 1 ∧ 1 ≤ w ∧ E 0 11 = y_kept t b w ∧ M 9 4 = y_nm t b w ∧ ∀ x : Nat, x < w → 97 ≤ t (b + x) ∧ t (b + x) ≤ 122 := by
      rcases h.2.2.2.2.2.2 with q | q | q | q | q | q
      · have q1 := q.1; clear q; omega
      · exact q.2
      · have q1 := q.1; clear q; omega
      · have q1 := q.1; clear q; omega
      · have q1 := q.1; clear q; omega
      · have q1 := q.1; clear q; omega
    obtain ⟨r, r1, r2, r3⟩ := named_j (m := m) (b := b) (w := w) hN h.1 (by omega) h5 hn ⟨kk.2.2.2.2.1, kk.2.2.2.2.2⟩ lets
    have own := ownName_e (m := m) (r := r) hN h c hm (by rw [nm]; exact r1) (by omega)
    rw [own, z_eq_t (x := E 0 9) (by omega), kk.2.1, kk.2.2.2.1, show b + (w : Int) - b = w by omega, r2]
    by_cases ok : w ≤ 6 ∧ E 0 11 = -1 ∧ r = -1
    · rw [if_pos ok, z_le_t (by omega), z_eq_t (x := E 0 11) (by omega), z_cl_e, z_eq_t (by omega), ref E h5, z_eq_t (by omega)]
      have g2 : gd t sz b w (z_st M 4 m (M 9 4)) (z_st (z_st E 5 m (E 0 8)) 6 m (E 0 7 - E 0 8)) := gd_c h (fun c j g => z_st_c (by omega)) (fun c j g => by rw [z_st_c (by omega), z_st_c (by omega)])
      obtain ⟨b', w', M', E', x1, x2, x3, x4, x5, x6⟩ := pass_j hN g2
      have m4 : M' 4 m = M 9 4 := by rw [x5 4 m (by decide) (by decide), z_st_i rfl]
      have e5 : E' 5 m = b := by rw [x6 5 m (by omega), z_st_c (by decide), z_st_i rfl, kk.2.1]
      have e6 : E' 6 m = w := by rw [x6 6 m (by omega), z_st_i rfl, kk.2.1, kk.2.2.2.1]; omega
      refine ⟨M', E', ?_, ?_, fun c j g1 g2 g3 => ?_, fun c j g1 g2 => ?_, Or.inr ⟨b', w', x4, ?_⟩⟩
      · unfold nA; rw [x1, z_cl_e]
      · rw [x3, z_cl_e]
      · rw [x5 c j g2 g1]
        by_cases q : c = 4
        · subst q; exact z_st_n (by omega)
        · exact z_st_c q
      · rw [x6 c j g1]; exact nE0 E aE_r _ _ c j g1 g2
      · unfold nmS
        rw [e5, e6, m4, nm, show ((w : Int)).toNat = w by omega]
        exact ⟨by omega, rfl, lets⟩
    · obtain ⟨Mf, M', E', x1, x1', -, x2, x3, x4, x5⟩ := failadv_j (k := 2) hN h (by omega)
      have ea : nA N Mf = some (0, M') := by unfold nA; rw [x1', z_cl_e]
      have e9' := x3.2.2.2.2.2.1
      have e5 : E' 1 5 = m := by rw [x5 1 5 (by omega)]; exact h5
      have rest := bad 1 E' M' x3 x5 (Or.inr rfl)
      have rest0 := bad 0 E' M' x3 x5 (Or.inl rfl)
      have badR : z_eq (E' 0 9) 1 (z_cl (Model_passes N 1 (z_st (z_st E' 5 m (E' 0 8)) 6 m (E' 0 7 - E' 0 8))) (fun u_ M5 => some (0, M5))) (z_cl (Model_passes N 0 (z_st (z_st E' 5 m (E' 0 8)) 6 m (E' 0 7 - E' 0 8))) (fun u_ M5 => some (0, M5))) = some (0, z_st (z_st E' 5 m (E' 0 8)) 6 m (E' 0 7 - E' 0 8)) := by
        rw [rest.1, rest0.1, z_cl_e]
        by_cases q : E' 0 9 = 1
        · rw [z_eq_t (by omega)]
        · rw [z_eq_f (by omega)]
      have res : ∃ M'' E'' : zMem, some ((0 : Int), M') = some (0, M'') ∧ some ((0 : Int), z_st (z_st E' 5 m (E' 0 8)) 6 m (E' 0 7 - E' 0 8)) = some (0, E'') ∧ nM m M M'' ∧ nE m E E'' ∧ (bd M'' E'' ∨ ∃ (b' : Int) (w' : Nat), gd t sz b' w' M'' E'' ∧ nmS t sz M'' E'' m) := ⟨_, _, rfl, rfl, fun c j g1 g2 g3 => x4 c j g2 g1, nE0 E' x5 _ _, Or.inl rest.2⟩
      rw [if_neg ok, x1, z_cl_e, ea]
      have sz7 := h.1.1.2.2
      by_cases c1 : w ≤ 6
      · rw [z_le_t (by omega)]
        by_cases c2 : E 0 11 = -1
        · rw [z_eq_t (x := E 0 11) (by omega), z_cl_e, z_eq_f (by omega), x2, z_cl_e, ref E' e5, badR]
          exact res
        · rw [z_eq_f (x := E 0 11) (by omega), x2, z_cl_e, ref E' e5, badR]
          exact res
      · rw [z_le_f (by omega), x2, z_cl_e, ref E' e5, badR]
        exact res
  · have e9 : E 0 9 ≠ 1 := by
      rcases h.2.2.2.2.2.2 with q | q | q | q | q | q <;> have q1 := q.1 <;> have q2 := q.2.1 <;> clear q <;> omega
    have g2 : gd t sz b w M (z_st (z_st E 5 m (E 0 8)) 6 m (E 0 7 - E 0 8)) := gd_c h (fun c j g => rfl) (fun c j g => by rw [z_st_c (by omega), z_st_c (by omega)])
    obtain ⟨Mf, M', E', x1, x1', -, x2, x3, x4, x5⟩ := failadv_j (k := 1) hN g2 (by omega)
    have ea : nA N Mf = some (0, M') := by unfold nA; rw [x1', z_cl_e]
    obtain ⟨r, r3, r1⟩ := itemNamed_b (v := M 9 4) (m := m) (M := M) hN (by omega) h.2.1.1.1.2 (fun i g1 g2 => by
      obtain ⟨-, n1, n2⟩ := hn i g1 g2
      have := y_nm_r n2
      rw [n1]; omega)
    obtain ⟨z0, z1, ez, -, -, -, -⟩ := nG (m := m) hN h r1 r3
    have et : Reader_takeItemName N m M = some (0, M') := by
      rw [ez]
      unfold nK
      rw [z_eq_f (by omega), x1, z_cl_e, ea]
    rw [et, z_eq_f (x := E 0 9) (by omega), ref E h5, z_eq_f (x := E 0 9) (by omega), passes_0 x2 x3.2.1, z_cl_e]
    exact ⟨_, _, rfl, rfl, fun c j g1 g2 g3 => x4 c j g2 g1, fun c j g1 g2 => by rw [x5 c j g1]; exact nE0 E aE_r _ _ c j g1 g2, Or.inl x3⟩
/-! an operation -/
theorem takeOp_j (hN : 1000 ≤ N) (h : gd t sz b w M E) : ∃ (op : Int) (M' E' : zMem), Reader_takeOperation N M = some (op, M') ∧ Model_passes N (if 0 ≤ E 0 11 ∧ E 0 11 ≤ 7 then 1 else 0) E = some (0, E') ∧ (-1 ≤ op ∧ op ≤ 7) ∧ aO t sz M E M' E' (op = E 0 11 ∧ 0 ≤ op) := by
  have rg := (tk_r h.2.2).2.2
  unfold Reader_takeOperation
  simp only [operation_e hN h, z_cl_e, z_jn_e]
  by_cases c : 0 ≤ E 0 11 ∧ E 0 11 ≤ 7
  · obtain ⟨b', w', M', E', x1, x2, x3, x4, x5, x6⟩ := pass_j hN h
    rw [if_pos (by omega), if_pos c, z_eq_f (by omega), x1, z_cl_e]
    exact ⟨_, _, _, rfl, x3, by omega, x5, x6, Or.inr ⟨b', w', x4, rfl, c.1⟩⟩
  · obtain ⟨Mf, M', E', x1, x1', -, x2, x3, x4, x5⟩ := failadv_j (k := 1) hN h (by omega)
    have : (if E 0 11 ≤ 7 then E 0 11 else -1) = -1 := by split <;> omega
    rw [this, if_neg c, z_eq_t (by omega), x1, z_cl_e, x1', z_cl_e]
    exact ⟨_, _, _, rfl, passes_0 x2 x3.2.1, by omega, x4, x5, Or.inl x3⟩
/-! a reference -/
def rfS (t : Int → Int) (sz : Int) (M E : zMem) (ca cb : Nat) (m k v : Int) : Prop := (E 7 k = M cb m ∧ 0 ≤ E 7 k ∧ 1 ≤ E 8 k ∧ E 7 k + E 8 k ≤ sz) ∧ M ca m = y_nm t (E 7 k) (E 8 k).toNat ∧ (∀ x : Nat, x < (E 8 k).toNat → 97 ≤ t (E 7 k + x) ∧ t (E 7 k + x) ≤ 122) ∧ E 9 k = m ∧ E 10 k = v
def rfM (ca cb : Nat) (m : Int) (M M' : zMem) : Prop := ∀ c j, c ≠ 3 → c ≠ 9 → ((c ≠ ca ∧ c ≠ cb) ∨ j ≠ m) → M' c j = M c j
def rfE (k : Int) (E E' : zMem) : Prop := ∀ c j, (c ≠ 0 ∨ j < 7 ∨ (14 < j ∧ j ≠ 21)) → ((c < 7 ∨ 10 < c) ∨ j ≠ k) → E' c j = E c j
theorem takeRef_j {ca cb : Nat} {k v : Int} (hN : 1000 ≤ N) (h : gd t sz b w M E) (hm : 0 ≤ m ∧ m < 20) (h5 : E 1 5 = m) (hk : E 0 21 = k ∧ 0 ≤ k ∧ k < 24) (hv : v = 0 ∨ v = 1) (hc : (ca = 5 ∧ cb = 6) ∨ (ca = 7 ∧ cb = 8)) :
    ∃ M' E' : zMem, Reader_takeReference N ca cb m M = some (0, M') ∧ Model_readsRef N v E = some (0, E') ∧ rfM ca cb m M M' ∧ rfE k E E' ∧ (bd M' E' ∨ ∃ (b' : Int) (w' : Nat), gd t sz b' w' M' E' ∧ rfS t sz M' E' ca cb m k v ∧ E' 0 21 = k + 1) := by
  have rg := tk_r h.2.2
  have kk := h.2.2.1
  have g12 := h.2.1.2.2
  unfold Reader_takeReference Model_readsRef
  simp only [z_jn_e]
  rw [z_eq_t (x := E 0 12) (by omega), hk.1]
  by_cases c : M 9 1 = 1
  · obtain ⟨e9, w1, kp, nm, lets⟩ : E 0 9 = 1 ∧ 1 ≤ w ∧ E 0 11 = y_kept t b w ∧ M 9 4 = y_nm t b w ∧ ∀ x : Nat, x < w → 97 ≤ t (b + x) ∧ t (b + x) ≤ 122 := by
      rcases h.2.2.2.2.2.2 with q | q | q | q | q | q
      · have q1 := q.1; clear q; omega
      · exact q.2
      · have q1 := q.1; clear q; omega
      · have q1 := q.1; clear q; omega
      · have q1 := q.1; clear q; omega
      · have q1 := q.1; clear q; omega
    rw [z_eq_t (x := M 9 1) (by omega), z_lt_t (by omega), z_wr_t (by omega), z_wr_t (by omega), z_eq_t (x := E 0 9) (by omega), z_wr_t (by omega)]
    simp only [z_st_c (show (0 : Nat) ≠ 7 by decide), z_st_c (show (0 : Nat) ≠ 8 by decide), z_st_c (show (0 : Nat) ≠ 9 by decide), z_st_c (show (0 : Nat) ≠ 10 by decide), z_st_c (show (1 : Nat) ≠ 7 by decide), z_st_c (show (1 : Nat) ≠ 8 by decide), hk.1]
    rw [z_wr_t (by omega), z_rd_t (by omega)]
    simp only [z_st_c (show (0 : Nat) ≠ 7 by decide), z_st_c (show (0 : Nat) ≠ 8 by decide), z_st_c (show (1 : Nat) ≠ 7 by decide), z_st_c (show (1 : Nat) ≠ 8 by decide), hk.1]
    rw [z_wr_t (by omega)]
    simp only [z_st_c (show (0 : Nat) ≠ 7 by decide), z_st_c (show (0 : Nat) ≠ 8 by decide), z_st_c (show (0 : Nat) ≠ 9 by decide), hk.1]
    rw [z_wz_t (by omega), z_pf_e]
    simp only [z_st_c (show (0 : Nat) ≠ 7 by decide), z_st_c (show (0 : Nat) ≠ 8 by decide), z_st_c (show (0 : Nat) ≠ 9 by decide), z_st_c (show (0 : Nat) ≠ 10 by decide), hk.1, h5, kk.2.1, kk.2.2.2.1]
    have n9 : (9 : Nat) ≠ ca := by omega
    rw [z_st_c n9, kk.1, show b + (w : Int) - b = w by omega]
    obtain ⟨M1, hM1⟩ : ∃ M1, M1 = z_st (z_st M ca m (M 9 4)) cb m b := ⟨_, rfl⟩
    obtain ⟨E1, hE1⟩ : ∃ E1, E1 = z_st (z_st (z_st (z_st (z_st E 7 k b) 8 k w) 9 k m) 10 k v) 0 21 (k + 1) := ⟨_, rfl⟩
    rw [← hM1, ← hE1]
    have fm : rfM ca cb m M M1 := fun c j g1 g2 g3 => by
      rw [hM1]
      by_cases q : c = cb
      · subst q
        rw [z_st_n (by omega), z_st_c (by omega)]
      · rw [z_st_c q]
        by_cases q : c = ca
        · subst q; rw [z_st_n (by omega)]
        · rw [z_st_c q]
    have fe : rfE k E E1 := fun c j g1 g2 => by
      rw [hE1]
      by_cases q : c = 0
      · subst q; rw [z_st_n (by omega), z_st_c (by decide), z_st_c (by decide), z_st_c (by decide), z_st_c (by decide)]
      · rw [z_st_c q]
        by_cases q : c = 10
        · subst q; rw [z_st_n (by omega), z_st_c (by decide), z_st_c (by decide), z_st_c (by decide)]
        · rw [z_st_c q]
          by_cases q : c = 9
          · subst q; rw [z_st_n (by omega), z_st_c (by decide), z_st_c (by decide)]
          · rw [z_st_c q]
            by_cases q : c = 8
            · subst q; rw [z_st_n (by omega), z_st_c (by decide)]
            · rw [z_st_c q]
              by_cases q : c = 7
              · subst q; rw [z_st_n (by omega)]
              · rw [z_st_c q]
    have e0 : ∀ j : Int, j < 15 → E1 0 j = E 0 j := fun j g => by
      rw [hE1, z_st_n (by omega), z_st_c (by decide), z_st_c (by decide), z_st_c (by decide), z_st_c (by decide)]
    have e21 : E1 0 21 = k + 1 := by rw [hE1, z_st_i rfl]
    have g2 : gd t sz b w M1 E1 := by
      have ga : gd t sz b w M1 E := gd_c h (fun c j g => by rw [hM1, z_st_c (by omega), z_st_c (by omega)]) (fun c j g => rfl)
      refine ⟨tt_T_c ga.1 rfl (fun _ => rfl) (e0 4 (by omega)) (fun j => fe 4 j (by omega) (by omega)), ⟨⟨ga.2.1.1.1, by omega, ga.2.1.1.2.2.1, by rw [e0 13 (by omega)]; exact ga.2.1.1.2.2.2.1, by rw [e0 14 (by omega)]; exact ga.2.1.1.2.2.2.2⟩, ga.2.1.2.1, by rw [e0 12 (by omega)]; exact ga.2.1.2.2⟩, ?_⟩
      have kt := ga.2.2
      unfold tk_S at kt ⊢
      rw [e0 7 (by omega), e0 8 (by omega), e0 9 (by omega), e0 10 (by omega), e0 11 (by omega)]
      exact kt
    obtain ⟨b', w', M', E', x1, x2, x3, x4, x5, x6⟩ := pass_j hN g2
    rw [x1, z_cl_e, z_eq_t (x := E1 0 12) (by rw [e0 12 (by omega)]; omega), z_eq_t (x := E1 0 9) (by rw [e0 9 (by omega)]; omega), x3, z_cl_e]
    have mca : M' ca m = M 9 4 := by rw [x5 ca m (by omega) (by omega), hM1, z_st_c (by omega), z_st_i rfl]
    have mcb : M' cb m = b := by rw [x5 cb m (by omega) (by omega), hM1, z_st_i rfl]
    have e7 : E' 7 k = b := by rw [x6 7 k (by omega), hE1, z_st_c (by decide), z_st_c (by decide), z_st_c (by decide), z_st_c (by decide), z_st_i rfl]
    have e8 : E' 8 k = w := by rw [x6 8 k (by omega), hE1, z_st_c (by decide), z_st_c (by decide), z_st_c (by decide), z_st_i rfl]
    have e9' : E' 9 k = m := by rw [x6 9 k (by omega), hE1, z_st_c (by decide), z_st_c (by decide), z_st_i rfl]
    have e10 : E' 10 k = v := by rw [x6 10 k (by omega), hE1, z_st_c (by decide), z_st_i rfl]
    refine ⟨M', E', rfl, rfl, fun c j g1 g2 g3 => by rw [x5 c j g2 g1]; exact fm c j g1 g2 g3, fun c j g1 g2 => by rw [x6 c j (by omega)]; exact fe c j g1 g2, Or.inr ⟨b', w', x4, ?_, ?_⟩⟩
    · unfold rfS
      rw [e7, e8, mca, mcb, nm, show ((w : Int)).toNat = w by omega]
      exact ⟨by omega, rfl, lets, e9', e10⟩
    · rw [x6 0 21 (by omega), hE1, z_st_i rfl]
  · have e9 : E 0 9 ≠ 1 := by
      rcases h.2.2.2.2.2.2 with q | q | q | q | q | q <;> have q1 := q.1 <;> have q2 := q.2.1 <;> clear q <;> omega
    obtain ⟨Mf, M', E', x1, x1', -, x2, x3, x4, x5⟩ := failadv_j (k := 1) hN h (by omega)
    rw [z_eq_f (x := M 9 1) (by omega), x1, z_cl_e, x1', z_cl_e, z_eq_f (x := E 0 9) (by omega), z_eq_t (x := E 0 12) (by omega), z_eq_f (x := E 0 9) (by omega), passes_0 x2 x3.2.1, z_cl_e]
    exact ⟨_, _, rfl, rfl, fun c j g1 g2 g3 => x4 c j g2 g1, fun c j g1 g2 => x5 c j (by omega), Or.inl x3⟩
end
