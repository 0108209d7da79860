/-! reading: the good state (both go on alike), the bad state (the first fault is told on both sides) -/
def gd (t : Int → Int) (sz b : Int) (w : Nat) (M E : zMem) : Prop := tt_T t sz M E ∧ (((z_Rg (M 9 3) ∧ z_Rg (M 9 4)) ∧ (0 ≤ E 0 21 ∧ E 0 21 ≤ 24) ∧ M 3 7 = -1 ∧ E 0 13 = 0 ∧ E 0 14 = -1) ∧ M 3 6 = 0 ∧ E 0 12 = 0) ∧ tk_S t sz b w M E
def cT (M : zMem) : Prop := (z_Rg (M 9 3) ∧ z_Rg (M 9 4)) ∧ (1 ≤ M 3 6 ∧ M 3 6 ≤ 4) ∧ (∃ (t : Int → Int) (sz b : Int) (w : Nat) (E : zMem), tt_T t sz M E ∧ 0 ≤ b ∧ b + w ≤ sz ∧ M 9 2 = b ∧ M 9 5 = b + w) ∧ (0 ≤ M 9 1 ∧ M 9 1 ≤ 5) ∧ (M 9 1 = 2 → 0 ≤ M 9 3 ∧ M 9 3 ≤ 100000) ∧ (M 9 1 = 1 → -1 ≤ M 9 4 ∧ M 9 4 ≤ 400000000)
def bE (M E : zMem) : Prop := E 0 12 = 1 ∧ E 0 13 = M 3 6 ∧ E 0 14 = M 3 7 ∧ (0 ≤ E 0 10 ∧ E 0 10 ≤ 99999) ∧ (0 ≤ E 0 9 ∧ E 0 9 ≤ 4) ∧ (-1 ≤ E 0 11 ∧ E 0 11 ≤ 11) ∧ (0 ≤ E 0 21 ∧ E 0 21 ≤ 24)
def bd (M E : zMem) : Prop := cT M ∧ bE M E
/-- frames of one act -/
def aM (M M' : zMem) : Prop := ∀ c j, c ≠ 9 → c ≠ 3 → M' c j = M c j
def aE (E E' : zMem) : Prop := ∀ c j, (c ≠ 0 ∨ j < 7 ∨ 14 < j) → E' c j = E c j
theorem aM_t {M M' M'' : zMem} (h : aM M M') (h' : aM M' M'') : aM M M'' := fun c j g1 g2 => by rw [h' c j g1 g2, h c j g1 g2]
theorem aE_t {E E' E'' : zMem} (h : aE E E') (h' : aE E' E'') : aE E E'' := fun c j g => by rw [h' c j g, h c j g]
theorem aM_r {M : zMem} : aM M M := fun _ _ _ _ => rfl
theorem aE_r {E : zMem} : aE E E := fun _ _ _ => rfl
theorem cT_c {M M' : zMem} (h : cT M) (hc : ∀ c j, (c = 1 ∨ c = 2 ∨ c = 3 ∨ c = 9) → M' c j = M c j) : cT M' := by
  obtain ⟨h1, h2, ⟨t, sz, b, w, E, k1, k2, k3, k4, k5⟩, h4, h5, h6⟩ := h
  unfold cT
  rw [hc 3 6 (by omega), hc 9 1 (by omega), hc 9 3 (by omega), hc 9 4 (by omega)]
  refine ⟨h1, h2, ⟨t, sz, b, w, E, tt_T_c k1 (hc 1 1 (by omega)) (fun j => hc 2 j (by omega)) rfl (fun _ => rfl), k2, k3, ?_, ?_⟩, h4, h5, h6⟩
  · rw [hc 9 2 (by omega), k4]
  · rw [hc 9 5 (by omega), k5]
theorem y_kept_b {t : Int → Int} {b : Int} {w : Nat} : -1 ≤ y_kept t b w ∧ y_kept t b w ≤ 11 := by
  unfold y_kept
  repeat' split
  all_goals omega
theorem tk_r {t : Int → Int} {sz b : Int} {w : Nat} {M E : zMem} (h : tk_S t sz b w M E) : (0 ≤ M 9 1 ∧ M 9 1 ≤ 5) ∧ (0 ≤ E 0 9 ∧ E 0 9 ≤ 4) ∧ (-1 ≤ E 0 11 ∧ E 0 11 ≤ 11) := by
  have kb := y_kept_b (t := t) (b := b) (w := w)
  obtain ⟨-, -, -, -, h⟩ := h
  rcases h with ⟨a, b, c⟩ | ⟨a, b, c, d, -⟩ | ⟨a, b, c, d⟩ | ⟨a, b, c, -⟩ | ⟨a, b, c, -⟩ | ⟨a, b, c, -⟩ <;> omega
theorem pass_j {t : Int → Int} {sz b : Int} {w N : Nat} {M E : zMem} (hN : 1000 ≤ N) (h : gd t sz b w M E) :
    ∃ (b' : Int) (w' : Nat) (M' E' : zMem), Tokens_advance N M = some (0, M') ∧ Model_next N E = some (0, E') ∧ Model_passes N 1 E = some (0, E') ∧ gd t sz b' w' M' E' ∧ aM M M' ∧ aE E E' := by
  obtain ⟨g1, ⟨g2, g3, g4⟩, ⟨k1, k2, k3, k4, k5⟩⟩ := h
  obtain ⟨b', w', M', E', x1, x2, x3, x4, x5, x6⟩ := adv_j (i := b + w) hN g1 g2.1 k1.2.2.1 k1.2.2.2.1 (by omega)
  refine ⟨b', w', M', E', x1, x2, ?_, ⟨x3, ⟨⟨x5.2, by rw [x6 0 21 (by omega), x5.1 3 7 (by decide), x6 0 13 (by omega), x6 0 14 (by omega)]; exact g2.2⟩, by rw [x5.1 3 6 (by decide), g3], by rw [x6 0 12 (by omega), g4]⟩, x4⟩, fun c j q1 q2 => x5.1 c j q1, fun c j q => x6 c j (by omega)⟩
  unfold Model_passes
  simp only [z_jn_e]
  rw [z_eq_f (by omega), z_eq_t (by omega), x2, z_cl_e]
theorem fail_j {t : Int → Int} {sz b k : Int} {w : Nat} {M E : zMem} (h : gd t sz b w M E) (hk : 1 ≤ k ∧ k ≤ 4) :
    ∃ (M' E' : zMem), Reader_fail k M = some (0, M') ∧ Model_faults k E = some (0, E') ∧ bd M' E' ∧ aM M M' ∧ aE E E' := by
  obtain ⟨g1, ⟨g2, g3, g4⟩, gk⟩ := h
  have r := tk_r gk
  obtain ⟨k1, k2, k3, k4, k5⟩ := gk
  refine ⟨z_st (z_st M 3 6 k) 3 7 (M 9 2), z_st (z_st (z_st E 0 12 1) 0 13 k) 0 14 (E 0 8), ?_, ?_, ⟨⟨?_, ?_, ⟨t, sz, b, w, E, tt_T_c g1 ?_ (fun j => ?_) rfl (fun _ => rfl), k1.2.2.2.2.1, k1.2.2.2.2.2, ?_, ?_⟩, ?_, ?_, ?_⟩, ?_, ?_, ?_, ?_, ?_, ?_, ?_⟩, fun c j q1 q2 => ?_, fun c j q => ?_⟩
  · unfold Reader_fail Reader_failAt
    rw [z_eq_t (by omega), z_pf_e, z_pf_e, z_cl_e]
  · unfold Model_faults
    rw [z_eq_t (by omega), z_pz_t (by omega), z_pf_e, z_pf_e, z_st_n (by decide), z_st_n (by decide)]
  · rw [z_st_c (by decide), z_st_c (by decide), z_st_c (by decide), z_st_c (by decide)]; exact g2.1
  · rw [z_st_n (by decide), z_st_i rfl]; exact hk
  · rw [z_st_c (by decide), z_st_c (by decide)]
  · rw [z_st_c (by decide), z_st_c (by decide)]
  · rw [z_st_c (by decide), z_st_c (by decide), k1.1]
  · rw [z_st_c (by decide), z_st_c (by decide), k1.2.2.1]
  · rw [z_st_c (by decide), z_st_c (by decide)]; exact r.1
  · rw [z_st_c (by decide), z_st_c (by decide), z_st_c (by decide), z_st_c (by decide)]; exact k2
  · rw [z_st_c (by decide), z_st_c (by decide), z_st_c (by decide), z_st_c (by decide)]; exact k3
  · rw [z_st_n (by decide), z_st_n (by decide), z_st_i rfl]
  · rw [z_st_n (by decide), z_st_i rfl, z_st_n (by decide), z_st_i rfl]
  · rw [z_st_i rfl, z_st_i rfl, k1.1, k1.2.1]
  · rw [z_st_n (by decide), z_st_n (by decide), z_st_n (by decide)]; exact k4
  · rw [z_st_n (by decide), z_st_n (by decide), z_st_n (by decide)]; exact r.2.1
  · rw [z_st_n (by decide), z_st_n (by decide), z_st_n (by decide)]; exact r.2.2
  · rw [z_st_n (by decide), z_st_n (by decide), z_st_n (by decide)]; exact g2.2.1
  · rw [z_st_c q2, z_st_c q2]
  · by_cases z : c = 0
    · subst z; rw [z_st_n (by omega), z_st_n (by omega), z_st_n (by omega)]
    · rw [z_st_c z, z_st_c z, z_st_c z]
/-! the bad state: the class's tokens go on, the fault stays -/
def bM (M M' : zMem) : Prop := cT M' ∧ ∀ c j, c ≠ 9 → M' c j = M c j
theorem bM_r {M : zMem} (h : cT M) : bM M M := ⟨h, fun _ _ _ => rfl⟩
theorem bM_t {M M' M'' : zMem} (h : bM M M') (h' : bM M' M'') : bM M M'' := ⟨h'.1, fun c j g => by rw [h'.2 c j g, h.2 c j g]⟩
theorem bM_a {M M' : zMem} (h : bM M M') : aM M M' := fun c j g _ => h.2 c j g
theorem bM_d {M M' E : zMem} (h : bd M E) (h' : bM M M') : bd M' E := by
  refine ⟨h'.1, ?_⟩
  have k := h.2
  unfold bE at k ⊢
  rw [h'.2 3 6 (by decide), h'.2 3 7 (by decide)]
  exact k
theorem adv_b {N : Nat} {M : zMem} (hN : 1000 ≤ N) (h : cT M) : ∃ M' : zMem, Tokens_advance N M = some (0, M') ∧ bM M M' := by
  obtain ⟨h1, h2, ⟨t, sz, b, w, E, k1, k2, k3, k4, k5⟩, h4, h5, h6⟩ := h
  obtain ⟨b', w', M', E', x1, x2, x3, x4, x5, x6⟩ := adv_j (i := b + w) (E := z_st E 0 7 (b + w)) hN (tt_T_c k1 rfl (fun _ => rfl) (z_st_n (by decide)) (fun j => z_st_c (by decide))) h1 k5 (z_st_i rfl) (by omega)
  have r := tk_r x4
  obtain ⟨y1, y2, y3, y4, y5⟩ := x4
  exact ⟨M', x1, ⟨x5.2, by rw [x5.1 3 6 (by decide)]; exact h2, ⟨t, sz, b', w', E', x3, y1.2.2.2.2.1, y1.2.2.2.2.2, y1.1, y1.2.2.1⟩, r.1, y2, y3⟩, x5.1⟩
theorem failadv_j {t : Int → Int} {sz b k : Int} {w N : Nat} {M E : zMem} (hN : 1000 ≤ N) (h : gd t sz b w M E) (hk : 1 ≤ k ∧ k ≤ 4) :
    ∃ (M1 M' E' : zMem), Reader_fail k M = some (0, M1) ∧ Tokens_advance N M1 = some (0, M') ∧ M1 9 3 = M 9 3 ∧ Model_faults k E = some (0, E') ∧ bd M' E' ∧ aM M M' ∧ aE E E' := by
  obtain ⟨M1, E', x1, x2, x3, x4, x5⟩ := fail_j h hk
  obtain ⟨M', y1, y2⟩ := adv_b hN x3.1
  have e : M1 9 3 = M 9 3 := by
    unfold Reader_fail Reader_failAt at x1
    rw [z_eq_t (by have := h.2.1.2.1; omega), z_pf_e, z_pf_e, z_cl_e] at x1
    injection x1 with x1
    injection x1 with _ x1
    rw [← x1, z_st_c (by decide), z_st_c (by decide)]
  exact ⟨M1, M', E', x1, y1, e, x2, bM_d x3 y2, aM_t x4 (bM_a y2), x5⟩
theorem fail_b {k : Int} {M : zMem} (h : cT M) : Reader_fail k M = some (0, M) := by
  unfold Reader_fail Reader_failAt
  rw [z_eq_f (by have := h.2.1; omega), z_cl_e]
theorem is_b {N i : Nat} {M : zMem} (hN : 1000 ≤ N) (h : cT M) : ∃ r : Int, (r = 0 ∨ r = 1) ∧ Tokens_is N i M = some (r, M) := by
  obtain ⟨h1, h2, ⟨t, sz, b, w, E, k1, k2, k3, k4, k5⟩, h4, h5, h6⟩ := h
  obtain ⟨e1, e2⟩ := Tokens_is_e (i := i) hN k1 k2 k3 k4 k5 (by omega)
  by_cases c : M 9 1 = 1 ∧ y_is t b w i
  · exact ⟨1, Or.inr rfl, e1 c⟩
  · exact ⟨0, Or.inl rfl, e2 c⟩
theorem faults_b {k : Int} {E : zMem} (h : E 0 12 = 1) : Model_faults k E = some (0, E) := by
  unfold Model_faults
  rw [z_eq_f (by omega)]
theorem passes_b {N : Nat} {v : Int} {E : zMem} (h : E 0 12 = 1) (hv : z_Rg v) : Model_passes N v E = some (0, E) := by
  unfold Model_passes
  simp only [z_jn_e, faults_b h, z_cl_e]
  rw [z_eq_f (x := E 0 12) (by omega)]
  by_cases c : v = 0
  · rw [z_eq_t (by omega)]
  · rw [z_eq_f (by omega)]
theorem passes_0 {N : Nat} {E E' : zMem} (h : Model_faults 1 E = some (0, E')) (h' : E' 0 12 = 1) : Model_passes N 0 E = some (0, E') := by
  unfold Model_passes
  simp only [z_jn_e, h, z_cl_e]
  rw [z_eq_t (by omega), z_eq_f (by omega)]
theorem reads_b {N : Nat} {lo hi : Int} {M E : zMem} (h : bE M E) (h1 : z_Rg lo) (h2 : z_Rg hi) : Model_reads N lo hi E = some (E 0 10, E) := by
  obtain ⟨b1, b2, b3, b4, b5, b6⟩ := h
  unfold Model_reads
  simp only [z_nm_e, z_jn_e, z_cl_e, faults_b b1, passes_b b1 (show z_Rg 1 by omega), z_il_t h1, z_il_t h2]
  rw [z_il_t (by omega), Model_in_e (by omega) h1 h2]
  simp only [z_cl_e, faults_b b1, passes_b b1 (show z_Rg 1 by omega), z_eq_b]
  by_cases c : E 0 9 = 2
  · rw [z_eq_t (by omega)]
    split <;> rfl
  · rw [z_eq_f (by omega)]
theorem named_b {N i : Nat} {lo hi : Int} {M E : zMem} (h : bE M E) : Model_named N i lo hi E = some (0, E) := by
  obtain ⟨b1, b2, b3, b4, b5, b6⟩ := h
  unfold Model_named
  simp only [z_jn_e, z_cl_e, passes_b b1 (show z_Rg 1 by omega)]
  rw [z_eq_f (by omega), z_eq_f (by omega)]
theorem number_b {N : Nat} {lo hi : Int} {M : zMem} (hN : 1000 ≤ N) (h : cT M) (h1 : z_Rg lo) (h2 : z_Rg hi) : ∃ (r : Int) (M' : zMem), Reader_takeNumber N lo hi M = some (r, M') ∧ z_Rg r ∧ bM M M' := by
  have a := h.2.2.2.1
  have b := h.2.2.2.2.1
  obtain ⟨M', x1, x2⟩ := adv_b hN h
  refine ⟨M 9 3, M', ?_, h.1.1, x2⟩
  unfold Reader_takeNumber
  simp only [z_jn_e, z_nm_e, x1, z_cl_e, fail_b h]
  by_cases c : M 9 1 = 2
  · have b := b c
    rw [z_eq_t (by omega)]
    by_cases d : lo ≤ M 9 3
    · rw [z_le_t (by omega), z_lt_e h2 (by omega)]
      split <;> rfl
    · rw [z_le_f (by omega)]
  · rw [z_eq_f (by omega)]
theorem word_b {N i : Nat} {M : zMem} (hN : 1000 ≤ N) (h : cT M) : ∃ M' : zMem, Reader_takeWord N i M = some (0, M') ∧ bM M M' := by
  obtain ⟨r, hr, e⟩ := is_b (i := i) hN h
  obtain ⟨M', x1, x2⟩ := adv_b hN h
  refine ⟨M', ?_, x2⟩
  unfold Reader_takeWord
  simp only [e, z_cl_e, z_jn_e, fail_b h, x1]
  rcases hr with q | q <;> subst q
  · rw [z_eq_t (by omega)]
  · rw [z_eq_f (by omega)]
theorem measure_b {N i : Nat} {lo hi : Int} {M : zMem} (hN : 1000 ≤ N) (h : cT M) (h1 : z_Rg lo) (h2 : z_Rg hi) : ∃ (r : Int) (M' : zMem), Reader_takeMeasure N i lo hi M = some (r, M') ∧ z_Rg r ∧ bM M M' := by
  obtain ⟨M1, x1, x2⟩ := word_b (i := i) hN h
  obtain ⟨r, M2, y1, y2, y3⟩ := number_b hN x2.1 h1 h2
  refine ⟨r, M2, ?_, y2, bM_t x2 y3⟩
  unfold Reader_takeMeasure
  rw [x1, z_cl_e, y1, z_cl_e]
