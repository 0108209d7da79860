/-! reading: the line of a word -/
section
variable {t : Int → Int} {sz b m : Int} {w N : Nat} {M E : zMem}
theorem isSign_e (h : gd t sz b w M E) : Model_isSign 45 E = some (if M 9 1 = 4 then 1 else 0, E) ∧ Model_isSign 59 E = some (if M 9 1 = 3 then 1 else 0, E) := by
  have rg := tk_r h.2.2
  have kk := h.2.2.1
  have sz7 := h.1.1.2.2
  have cases : (E 0 9 ≠ 3 ∧ M 9 1 ≠ 3 ∧ M 9 1 ≠ 4) ∨ (E 0 9 = 3 ∧ w = 1 ∧ ((M 9 1 = 3 ∧ t b = 59) ∨ (M 9 1 = 4 ∧ t b = 45))) := by
    rcases h.2.2.2.2.2.2 with q | q | q | q | q | q
    · left; have q1 := q.1; have q2 := q.2.1; clear q; omega
    · left; have q1 := q.1; have q2 := q.2.1; clear q; omega
    · left; have q1 := q.1; have q2 := q.2.1; clear q; omega
    · right; exact ⟨q.2.1, q.2.2.2.1, Or.inl ⟨q.1, q.2.2.2.2⟩⟩
    · right; exact ⟨q.2.1, q.2.2.2.1, Or.inr ⟨q.1, q.2.2.2.2⟩⟩
    · left; have q1 := q.1; have q2 := q.2.1; clear q; omega
  unfold Model_isSign
  simp only [z_jn_e]
  rcases cases with ⟨a1, a2, a3⟩ | ⟨a1, a2, a3⟩
  · rw [z_eq_f (by omega), z_eq_f (by omega), if_neg a3, if_neg a2]
    exact ⟨rfl, rfl⟩
  · obtain ⟨u1, u2, u3⟩ := h.1.2 b (by omega) (by omega)
    rw [z_eq_t (by omega), z_eq_t (by omega), z_rd_t (by omega), z_rd_t (by omega), kk.2.1, u2]
    rcases a3 with ⟨q1, q2⟩ | ⟨q1, q2⟩
    · rw [z_eq_f (by omega), z_eq_t (by omega), if_neg (by omega), if_pos q1]; exact ⟨rfl, rfl⟩
    · rw [z_eq_t (by omega), z_eq_f (by omega), if_pos q1, if_neg (by omega)]; exact ⟨rfl, rfl⟩
theorem wJ3 (hN : 1000 ≤ N) (h : gd t sz b w M E) (hp : plI t sz M E m) (hm : m < 20 ∧ m < M 10 0 * M 10 1 ∧ M 10 7 < 8) (hnm : nmS t sz M E m) (h21 : E 0 21 = 2 * rkD M m) : iO t sz m M E (wT3 N M) (iT3 N 9 E) := by
  have rr := plI_r hp
  have n5 := hp.2.1.2.1
  have f1 : mE m (2 * rkD M m) E (z_st E 1 (9 + m) 0) := mE_s (by omega)
  have h1 : gd t sz b w M (z_st E 1 (9 + m) 0) := gd_c h (fun _ _ _ => rfl) (fun c j g => z_st_c (by omega))
  obtain ⟨E1, hE1⟩ : ∃ E1, E1 = z_st E 1 (9 + m) 0 := ⟨_, rfl⟩
  have g12 : E1 0 12 = 0 := by rw [hE1]; exact h1.2.1.2.2
  rw [← hE1] at f1 h1
  have e9 : E1 1 (9 + m) = 0 := by rw [hE1, z_st_i rfl]
  have e5 : ∀ c j, c ≠ 1 → E1 c j = E c j := fun c j g => by rw [hE1, z_st_c g]
  have er : iT3 N 9 E = iT5 N 9 m E1 := by
    unfold iT3 iT4
    simp only [z_jn_e]
    rw [z_rd_t (by omega), n5, z_eq_f (by omega), z_wr_t (by omega), ← hE1, z_eq_t (by omega), z_eq_f (by omega)]
  rw [er]
  -- the sign
  have sg : ∃ (r : Int) (M2 E2 : zMem) (b2 : Int) (w2 : Nat), (r = 0 ∨ r = 1) ∧ Reader_takeMinus N M = some (r, M2) ∧ (∀ K : zMem → zO, z_eq r 0 (K E1) (z_cl (Model_next N E1) (fun u_4 M30 => K M30)) = K E2) ∧ Model_isSign 45 E1 = some (r, E1) ∧ gd t sz b2 w2 M2 E2 ∧ aM M M2 ∧ aE E1 E2 := by
    have s := (isSign_e h1).1
    have rg := (tk_r h.2.2).1
    unfold Reader_takeMinus
    by_cases c : M 9 1 = 4
    · obtain ⟨b2, w2, M2, E2, x1, x2, x3, x4, x5, x6⟩ := pass_j hN h1
      rw [if_pos c] at s
      refine ⟨1, M2, E2, b2, w2, Or.inr rfl, ?_, fun K => ?_, s, x4, x5, x6⟩
      · rw [z_eq_t (by omega), x1, z_cl_e]
      · rw [z_eq_f (by omega), x2, z_cl_e]
    · rw [if_neg c] at s
      refine ⟨0, M, E1, b, w, Or.inl rfl, ?_, fun K => ?_, s, h1, aM_r, aE_r⟩
      · rw [z_eq_f (by omega)]
      · rw [z_eq_t (by omega)]
  obtain ⟨r, M2, E2, b2, w2, hr, x1, x2, x3, x4, x5, x6⟩ := sg
  obtain ⟨r1, r1', M3, E3, y1, y2, y3, y4, y5, y6, y7⟩ := number_j (lo := 0) (hi := 9999) hN x4 (by omega)
  unfold wT3 wT4 iT5
  simp only [z_jn_e]
  have goE : z_cl (Model_isSign 45 E1) (fun r_5 M25 => z_eq r_5 0 (z_cl (Model_reads N 0 9999 M25) (fun r_6 M27 => z_eq r_5 0 (z_wr M27 1 169 (29 + m) r_6 (fun M29 => iT6 N 9 m M29)) (z_wr M27 1 169 (29 + m) (-r_6) (fun M29 => iT6 N 9 m M29)))) (z_cl (Model_next N M25) (fun u_4 M30 => z_cl (Model_reads N 0 9999 M30) (fun r_6 M27 => z_eq r_5 0 (z_wr M27 1 169 (29 + m) r_6 (fun M29 => iT6 N 9 m M29)) (z_wr M27 1 169 (29 + m) (-r_6) (fun M29 => iT6 N 9 m M29)))))) = iT6 N 9 m (z_st E3 1 (29 + m) (if r = 0 then r1' else -r1')) := by
    rw [x3, z_cl_e, x2 (fun M30 => z_cl (Model_reads N 0 9999 M30) (fun r_6 M27 => z_eq r 0 (z_wr M27 1 169 (29 + m) r_6 (fun M29 => iT6 N 9 m M29)) (z_wr M27 1 169 (29 + m) (-r_6) (fun M29 => iT6 N 9 m M29))))]
    rw [y2, z_cl_e]
    rcases hr with q | q
    · rw [z_eq_t (by omega), z_wr_t (by omega), if_pos q]
    · rw [z_eq_f (by omega), z_wr_t (by omega), if_neg (by omega)]
  rw [z_eq_t (by omega), goE, x1, z_cl_e, y1, z_cl_e]
  have fm : mM m M M3 := mM_a (aM_t x5 y5)
  have fe : mE m (2 * rkD M m) E (z_st E3 1 (29 + m) (if r = 0 then r1' else -r1')) := mE_t f1 (mE_t (mE_a (aE_t x6 y6)) (mE_s (by omega)))
  refine iO_t fm fe rr.1 ?_
  have hp3 := plI_m hp fm fe (Or.inl hm.1)
  rcases y7 with k | ⟨b3, w3, g3, l1, l2, l3, -⟩
  · have k' : bd M3 (z_st E3 1 (29 + m) (if r = 0 then r1' else -r1')) := bd_c k (fun _ _ _ => rfl) (fun j _ => z_st_c (by decide))
    exact bad_iO k' (wB5 hN (cP_of hp3 k.1)) (iB6 (Or.inl rfl) ⟨rr.1, hm.1⟩ k'.2.1)
  · have m10 : ∀ j, M3 10 j = M 10 j := fun j => fm 10 j (by omega) (by omega) (by omega)
    have ee : ∀ c j, (c ≠ 0 ∨ j < 7 ∨ 14 < j) → (c ≠ 1 ∨ j ≠ 29 + m) → z_st E3 1 (29 + m) (if r = 0 then r1' else -r1') c j = E1 c j := fun c j q1 q2 => by
      rw [← aE_t x6 y6 c j q1]
      by_cases q : c = 1
      · subst q; exact z_st_n (by omega)
      · exact z_st_c q
    have erk : rkD M3 m = rkD M m := rkD_c (Int.le_refl m) (fun j _ _ => fm 11 j (by omega) (by omega) (by omega))
    refine wJ5 hN (gd_c g3 (fun _ _ _ => rfl) (fun c j g => z_st_c (by omega))) hp3 (by rw [m10, m10, m10]; exact hm) hr ⟨l2, l3⟩ ?_ ?_ ?_ ?_
    · rw [ee 1 _ (by omega) (by omega)]; exact e9
    · rw [z_st_i rfl, l1]
    · unfold nmS at hnm ⊢
      rw [ee 5 m (by omega) (by omega), ee 6 m (by omega) (by omega), e5 5 m (by decide), e5 6 m (by decide), y5 4 m (by decide) (by decide), x5 4 m (by decide) (by decide)]
      exact hnm
    · rw [ee 0 21 (by omega) (by omega), e5 0 21 (by decide), erk]; exact h21
theorem itemWord_1 {s : Nat} (hN : 1000 ≤ N) (hi : Tokens_is N s M = some (1, M)) : Reader_takeItemWord N s 1 M = z_cl (Tokens_advance N M) (fun u_ M3 => some (0, M3)) := by
  unfold Reader_takeItemWord Reader_takeWord
  simp only [hi, z_cl_e, z_jn_e]
  rw [z_eq_f (by omega), z_eq_f (by omega), z_eq_f (by omega)]
  cases Tokens_advance N M with
  | none => rfl
  | some p => rfl
theorem itemWord_0 {s : Nat} {M1 : zMem} (hN : 1000 ≤ N) (hi : Tokens_is N s M = some (1, M)) (hf : Reader_fail 3 M = some (0, M1)) (hb : cT M1) : ∃ M2 : zMem, Reader_takeItemWord N s 0 M = some (0, M2) ∧ bM M1 M2 := by
  obtain ⟨M2, x1, x2⟩ := word_b (i := s) hN hb
  refine ⟨M2, ?_, x2⟩
  unfold Reader_takeItemWord
  simp only [hi, z_cl_e, z_jn_e]
  rw [z_eq_f (by omega), z_eq_t (by omega), hf, z_cl_e, x1, z_cl_e]
theorem wline_j (hN : 1000 ≤ N) (h : gd t sz b w M E) (hp : plI t sz M E m) (h11 : E 0 11 = 9) (h21 : E 0 21 = 2 * rkD M m) : iO t sz m M E (Reader_readWord N M) (Model_readsItem N E) := by
  have rr := plI_r hp
  obtain ⟨f, n, s, it⟩ := id hp
  unfold plN at n
  have g12 := h.2.1.2.2
  have ts := y_ts f.1.2 f.2.1.2
  have e0 := f.1.1
  have e1 := f.2.1.1
  have ek := is_k (n := 9) (s := 6) hN h (by decide) kept_9
  rw [if_pos h11] at ek
  rw [wT_e, iT_e, h11]
  unfold iT1 Plan_addresses
  simp only [z_jn_e, z_cl_e]
  rw [z_eq_t (x := (9 : Int)) (by omega), z_eq_t (x := (9 : Int)) (by omega)]
  by_cases c : M 10 7 < 8 ∧ m < M 10 0 * M 10 1
  · obtain ⟨b1, w1, M1, E1, x1, x2, x3, x4, x5, x6⟩ := pass_j hN h
    have hp1 := plI_a hp x5 x6
    have n1 := hp1.2.1
    unfold plN at n1
    obtain ⟨M2, E2, y1, y2, y3, y4, y5⟩ := itemName_j (m := m) hN x4 (by omega) n1.2.1 (fun i g1 g2 => (hp1.2.2.2 i g1 g2).1)
    rw [z_lt_t (by omega), z_lt_t (by omega), itemWord_1 hN ek, x1, z_cl_e, z_cl_e]
    unfold wT2 iT2
    rw [z_eq_f (by omega), z_rd_t (by omega), z_rd_t (by omega), z_rd_t (by omega), n.2.1, e0, e1, z_eq_f (by omega), z_eq_t (by omega), x2, z_cl_e, n1.1, y1, z_cl_e, y2, z_cl_e]
    have fm : mM m M M2 := mM_t (mM_a x5) (mM_n y3)
    have fe : mE m (2 * rkD M m) E E2 := mE_t (mE_a x6) (mE_n y4)
    refine iO_t fm fe rr.1 ?_
    have hp2 := plI_m hp fm fe (Or.inl (by omega))
    have n2 := hp2.2.1
    rcases y5 with k | ⟨b2, w2, g2, nm2⟩
    · exact bad_iO k (wB3 hN (cP_of hp2 k.1)) (iB3 (Or.inl rfl) (by omega) n2.2.1 k.2.1)
    · have m10 : ∀ j, M2 10 j = M 10 j := fun j => fm 10 j (by omega) (by omega) (by omega)
      have erk : rkD M2 m = rkD M m := rkD_c (Int.le_refl m) (fun j _ _ => fm 11 j (by omega) (by omega) (by omega))
      refine wJ3 hN g2 hp2 (by rw [m10, m10, m10]; omega) nm2 ?_
      rw [y4 0 21 (by omega) (by omega), x6 0 21 (by omega), erk]; exact h21
  · obtain ⟨Mf, E1, x1, x2, x3f, x4f, x5⟩ := fail_j (k := 3) h (by omega)
    obtain ⟨M1, wx1, wx2⟩ := itemWord_0 hN ek x1 x3f.1
    have x3 := bM_d x3f wx2
    have x4 := aM_t x4f (bM_a wx2)
    have hp1 := plI_a hp x4 x5
    have cl : z_lt (M 10 7) 8 (z_lt (M 10 6) (M 10 0 * M 10 1) (z_cl (Reader_takeItemWord N 6 1 M) (fun u_ M2 => wT2 N M2)) (z_cl (Reader_takeItemWord N 6 0 M) (fun u_ M2 => wT2 N M2))) (z_cl (Reader_takeItemWord N 6 0 M) (fun u_ M2 => wT2 N M2)) = wT2 N M1 := by
      rw [wx1, z_cl_e]
      by_cases c1 : M 10 7 < 8
      · rw [z_lt_t (by omega), z_lt_f (by omega)]
      · rw [z_lt_f (by omega)]
    have fin : iO t sz m M E (wT2 N M1) (iT2 N 9 E1) := by
      refine iO_t (mM_a x4) (mE_a x5) rr.1 (bad_iO x3 (wB2 hN (cP_of hp1 x3.1)) ?_)
      unfold iT2
      rw [z_eq_f (by have := x3.2.1; omega)]
      exact ⟨E1, rfl, fun _ _ _ => rfl, fun _ _ => rfl⟩
    rw [cl]
    by_cases c1 : M 10 7 = 8
    · rw [z_eq_t (x := E 0 22) (by omega), x2, z_cl_e]
      exact fin
    · rw [z_eq_f (x := E 0 22) (by omega), z_rd_t (by omega), z_rd_t (by omega), z_rd_t (by omega), n.2.1, e0, e1, z_eq_t (by omega), x2, z_cl_e]
      exact fin
end
