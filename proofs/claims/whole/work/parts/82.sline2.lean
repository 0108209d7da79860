/-! reading: the line of a step -/
section
variable {t : Int → Int} {sz b m : Int} {w N : Nat} {M E : zMem}
theorem sJ4b {op v : Int} (hN : 1000 ≤ N) (h : gd t sz b w M E) (hp : plI t sz M E m) (hm : m < 20 ∧ m < M 10 0 * M 10 1 ∧ M 10 8 < 12) (ho : 0 ≤ op ∧ op ≤ 6) (h9 : E 1 (9 + m) = 1) (h49 : E 1 (49 + m) = op) (h89 : op = 6 → E 1 (89 + m) = v ∧ 1 ≤ v ∧ v ≤ 7) (hnm : nmS t sz M E m)
    (hrf : rfS t sz M E 5 6 m (2 * rkD M m) 0) (h21 : E 0 21 = 2 * rkD M m + 1) : iO t sz m M E (sT4b N op v M) (z_cl (oT3 N E) (fun u_5 M31 => iT6 N 10 m M31)) := by
  have rr := plI_r hp
  have n := hp.2.1
  unfold plN at n
  have rk0 := rkD_nn (M := M) m
  obtain ⟨M1, E1, x1, x2, x3, x4, x5⟩ := takeRef_j (ca := 7) (cb := 8) (m := m) (k := 2 * rkD M m + 1) (v := 1) hN h (by omega) n.2.1 (by omega) (Or.inr rfl) (Or.inr ⟨rfl, rfl⟩)
  unfold sT4b oT3
  rw [n.1, x1, z_cl_e, x2, z_cl_e, z_cl_e]
  have fm : mM m M M1 := mM_f (Or.inr ⟨rfl, rfl⟩) x3
  have fe : mE m (2 * rkD M m) E E1 := mE_f (by omega) x4
  refine iO_t fm fe rr.1 ?_
  have hp1 := plI_m hp fm fe (Or.inl hm.1)
  rcases x5 with k | ⟨b2, w2, g2, rf, e21⟩
  · exact bad_iO k (sB5 hN (cP_of hp1 k.1)) (iB6 (Or.inr rfl) (by omega) k.2.1)
  · have m10 : ∀ j, M1 10 j = M 10 j := fun j => fm 10 j (by omega) (by omega) (by omega)
    have e1 : ∀ j, E1 1 j = E 1 j := fun j => x4 1 j (by omega) (by omega)
    have erk : rkD M1 m = rkD M m := rkD_c (Int.le_refl m) (fun j _ _ => fm 11 j (by omega) (by omega) (by omega))
    refine sJ5 hN g2 hp1 (by rw [m10, m10, m10]; exact hm) (by omega) (by rw [e1]; exact h9) (by rw [e1]; exact h49) (by rw [e1]; exact h89) ?_ (fun _ => ⟨?_, ?_⟩) ?_
    · unfold nmS at hnm ⊢
      rw [x4 5 m (by omega) (by omega), x4 6 m (by omega) (by omega), x3 4 m (by decide) (by decide) (by omega)]
      exact hnm
    · rw [erk]
      unfold rfS at hrf ⊢
      rw [x4 7 _ (by omega) (by omega), x4 8 _ (by omega) (by omega), x4 9 _ (by omega) (by omega), x4 10 _ (by omega) (by omega), x3 5 m (by decide) (by decide) (by omega), x3 6 m (by decide) (by decide) (by omega)]
      exact hrf
    · rw [erk]; exact rf
    · rw [erk, e21, if_neg (by omega)]; omega
theorem sJ4a {op : Int} (hN : 1000 ≤ N) (h : gd t sz b w M E) (hp : plI t sz M E m) (hm : m < 20 ∧ m < M 10 0 * M 10 1 ∧ M 10 8 < 12) (ho : 0 ≤ op ∧ op ≤ 6) (h9 : E 1 (9 + m) = 1) (h49 : E 1 (49 + m) = op) (hnm : nmS t sz M E m)
    (hrf : rfS t sz M E 5 6 m (2 * rkD M m) 0) (h21 : E 0 21 = 2 * rkD M m + 1) : iO t sz m M E (sT4a N op M) (z_cl (oT2 N op E) (fun u_5 M31 => iT6 N 10 m M31)) := by
  have rr := plI_r hp
  have n := hp.2.1
  have g12 := h.2.1.2.2
  unfold sT4a oT2
  simp only [z_jn_e]
  by_cases c : op = 6
  · obtain ⟨r, r', M1, E1, x1, x2, x3, x4, x5, x6, x7⟩ := number_j (lo := 1) (hi := 7) hN h (by omega)
    rw [z_eq_t (by omega), x1, z_cl_e, z_eq_t (x := op) (by omega), z_eq_t (x := E 0 12) (by omega), z_rd_t (by omega), n.2.1, x2, z_cl_e, z_wr_t (by omega)]
    have fm : mM m M M1 := mM_a x5
    have fe : mE m (2 * rkD M m) E (z_st E1 1 (89 + m) r') := mE_t (mE_a x6) (mE_s (by omega))
    refine iO_t fm fe rr.1 ?_
    have hp1 := plI_m hp fm fe (Or.inl hm.1)
    have ee : ∀ c j, (c ≠ 0 ∨ 14 < j) → (c ≠ 1 ∨ j ≠ 89 + m) → z_st E1 1 (89 + m) r' c j = E c j := fun c j q1 q2 => by
      rw [← x6 c j (by omega)]
      by_cases q : c = 1
      · subst q; exact z_st_n (by omega)
      · exact z_st_c q
    rcases x7 with k | ⟨b2, w2, g2, l1, l2, l3, -⟩
    · have k' : bd M1 (z_st E1 1 (89 + m) r') := bd_c k (fun _ _ _ => rfl) (fun j _ => z_st_c (by decide))
      rw [oB3 k'.2.1, z_cl_e]
      exact bad_iO k' (sB4b hN (cP_of hp1 k.1)) (iB6 (Or.inr rfl) (by omega) k'.2.1)
    · have m10 : ∀ j, M1 10 j = M 10 j := fun j => fm 10 j (by omega) (by omega) (by omega)
      have erk : rkD M1 m = rkD M m := rkD_c (Int.le_refl m) (fun j _ _ => fm 11 j (by omega) (by omega) (by omega))
      refine sJ4b hN (gd_c g2 (fun _ _ _ => rfl) (fun c j g => z_st_c (by omega))) hp1 (by rw [m10, m10, m10]; exact hm) ho ?_ ?_ (fun _ => ⟨?_, l2, l3⟩) ?_ ?_ ?_
      · rw [ee 1 _ (by omega) (by omega)]; exact h9
      · rw [ee 1 _ (by omega) (by omega)]; exact h49
      · rw [z_st_i rfl]; exact l1
      · unfold nmS at hnm ⊢
        rw [ee 5 m (by omega) (by omega), ee 6 m (by omega) (by omega), x5 4 m (by decide) (by decide)]
        exact hnm
      · rw [erk]
        unfold rfS at hrf ⊢
        rw [ee 7 _ (by omega) (by omega), ee 8 _ (by omega) (by omega), ee 9 _ (by omega) (by omega), ee 10 _ (by omega) (by omega), x5 5 m (by decide) (by decide), x5 6 m (by decide) (by decide)]
        exact hrf
      · rw [ee 0 21 (by omega) (by omega), erk]; exact h21
  · rw [z_eq_f (by omega), z_eq_f (by omega)]
    exact sJ4b hN h hp hm ho h9 h49 (fun q => absurd q c) hnm hrf h21
theorem sJ3 (hN : 1000 ≤ N) (h : gd t sz b w M E) (hp : plI t sz M E m) (hm : m < 20 ∧ m < M 10 0 * M 10 1 ∧ M 10 8 < 12) (hnm : nmS t sz M E m) (h21 : E 0 21 = 2 * rkD M m) : iO t sz m M E (sT3 N M) (iT3 N 10 E) := by
  have rr := plI_r hp
  have n5 := hp.2.1.2.1
  have rk0 := rkD_nn (M := M) m
  have rkm : rkD M m ≤ M 10 8 := hp.2.1.2.2.2.2.2.2.2.2.2.2.2
  have f1 : mE m (2 * rkD M m) E (z_st E 1 (9 + m) 1) := mE_s (by omega)
  have h1 : gd t sz b w M (z_st E 1 (9 + m) 1) := gd_c h (fun _ _ _ => rfl) (fun c j g => z_st_c (by omega))
  obtain ⟨E1, hE1⟩ : ∃ E1, E1 = z_st E 1 (9 + m) 1 := ⟨_, rfl⟩
  rw [← hE1] at f1 h1
  have g12 := h1.2.1.2.2
  have e9 : E1 1 (9 + m) = 1 := by rw [hE1, z_st_i rfl]
  have e5 : ∀ c j, c ≠ 1 → E1 c j = E c j := fun c j g => by rw [hE1, z_st_c g]
  have n5' : E1 1 5 = m := by rw [hE1, z_st_n (by omega)]; exact n5
  have rg := (tk_r h1.2.2).2.2
  obtain ⟨op, M2, E2, x1, x2, x3, x4, x5, x6⟩ := takeOp_j hN h1
  have e25 : E2 1 5 = m := by rw [x5 1 5 (by omega)]; exact n5'
  have er : iT3 N 10 E = z_cl (oT1 N (E1 0 11) (z_st E2 1 (49 + m) (E1 0 11))) (fun u_5 M31 => iT6 N 10 m M31) := by
    unfold iT3 iT4
    simp only [z_jn_e]
    rw [z_rd_t (by omega), n5, z_eq_t (by omega), z_wr_t (by omega), ← hE1, z_eq_t (by omega), z_eq_t (by omega), oT_e]
    simp only [z_nm_e]
    rw [z_il_t (by omega), Model_in_e (by omega) (by omega) (by omega), z_cl_e, x2, z_cl_e, z_rd_t (by omega), e25, z_wr_t (by omega)]
  rw [er]
  unfold sT3
  rw [x1, z_cl_e]
  have fm : mM m M M2 := mM_a x4
  have fe : mE m (2 * rkD M m) E (z_st E2 1 (49 + m) (E1 0 11)) := mE_t f1 (mE_t (mE_a x5) (mE_s (by omega)))
  refine iO_t fm fe rr.1 ?_
  have hp2 := plI_m hp fm fe (Or.inl hm.1)
  have n2 := hp2.2.1
  unfold plN at n2
  have ee : ∀ c j, (c ≠ 0 ∨ 14 < j) → (c ≠ 1 ∨ j ≠ 49 + m) → z_st E2 1 (49 + m) (E1 0 11) c j = E1 c j := fun c j q1 q2 => by
    rw [← x5 c j (by omega)]
    by_cases q : c = 1
    · subst q; exact z_st_n (by omega)
    · exact z_st_c q
  rcases x6 with k | ⟨b2, w2, g2, l1, l2⟩
  · have k' : bd M2 (z_st E2 1 (49 + m) (E1 0 11)) := bd_c k (fun _ _ _ => rfl) (fun j _ => z_st_c (by decide))
    rw [oB1 k'.2.1, z_cl_e]
    exact bad_iO k' (sB4 hN x3 (cP_of hp2 k.1)) (iB6 (Or.inr rfl) (by omega) k'.2.1)
  · have m10 : ∀ j, M2 10 j = M 10 j := fun j => fm 10 j (by omega) (by omega) (by omega)
    have erk : rkD M2 m = rkD M m := rkD_c (Int.le_refl m) (fun j _ _ => fm 11 j (by omega) (by omega) (by omega))
    have g3 : gd t sz b2 w2 M2 (z_st E2 1 (49 + m) (E1 0 11)) := gd_c g2 (fun _ _ _ => rfl) (fun c j g => z_st_c (by omega))
    have hm2 : m < 20 ∧ m < M2 10 0 * M2 10 1 ∧ M2 10 8 < 12 := by rw [m10, m10, m10]; exact hm
    have q9 : z_st E2 1 (49 + m) (E1 0 11) 1 (9 + m) = 1 := by rw [ee 1 _ (by omega) (by omega)]; exact e9
    have q49 : z_st E2 1 (49 + m) (E1 0 11) 1 (49 + m) = op := by rw [z_st_i rfl, l1]
    have qnm : nmS t sz M2 (z_st E2 1 (49 + m) (E1 0 11)) m := by
      unfold nmS at hnm ⊢
      rw [ee 5 m (by omega) (by omega), ee 6 m (by omega) (by omega), e5 5 m (by decide), e5 6 m (by decide), x4 4 m (by decide) (by decide)]
      exact hnm
    have q21 : z_st E2 1 (49 + m) (E1 0 11) 0 21 = 2 * rkD M2 m := by rw [ee 0 21 (by omega) (by omega), e5 0 21 (by decide), erk]; exact h21
    have q12 := g3.2.1.2.2
    have m108 := m10 8
    obtain ⟨E3, hE3⟩ : ∃ E3, E3 = z_st E2 1 (49 + m) (E1 0 11) := ⟨_, rfl⟩
    rw [← hE3] at hp2 g3 q9 q49 qnm q21 q12 n2 ⊢
    unfold sT4 oT1
    rw [z_eq_t (x := E3 0 12) (by omega), ← l1]
    by_cases c : op = 7
    · rw [z_eq_t (by omega), z_eq_t (by omega), z_cl_e]
      exact sJ5 hN g3 hp2 hm2 (by omega) q9 q49 (fun q => by omega) qnm (fun q => absurd c q) (by rw [if_pos c, q21]; omega)
    · rw [z_eq_f (by omega), z_eq_f (by omega)]
      obtain ⟨M4, E4, y1, y2, y3, y4, y5⟩ := takeRef_j (ca := 5) (cb := 6) (m := m) (k := 2 * rkD M2 m) (v := 0) hN g3 (by omega) n2.2.1 (by omega) (Or.inl rfl) (Or.inl ⟨rfl, rfl⟩)
      rw [n2.1, y1, z_cl_e, y2, z_cl_e]
      have fm4 : mM m M2 M4 := mM_f (Or.inl ⟨rfl, rfl⟩) y3
      have fe4 : mE m (2 * rkD M2 m) E3 E4 := mE_f (by omega) y4
      refine iO_t fm4 fe4 rr.1 ?_
      have hp4 := plI_m hp2 fm4 fe4 (Or.inl hm.1)
      rcases y5 with k | ⟨b4, w4, g4, rf, e21⟩
      · rw [oB2 (by omega) k.2.1, z_cl_e]
        exact bad_iO k (sB4a hN x3 (cP_of hp4 k.1)) (iB6 (Or.inr rfl) (by omega) k.2.1)
      · have m10' : ∀ j, M4 10 j = M2 10 j := fun j => fm4 10 j (by omega) (by omega) (by omega)
        have e1 : ∀ j, E4 1 j = E3 1 j := fun j => y4 1 j (by omega) (by omega)
        have erk4 : rkD M4 m = rkD M2 m := rkD_c (Int.le_refl m) (fun j _ _ => fm4 11 j (by omega) (by omega) (by omega))
        refine sJ4a hN g4 hp4 (by rw [m10', m10', m10']; exact hm2) (by omega) (by rw [e1]; exact q9) (by rw [e1]; exact q49) ?_ (by rw [erk4]; exact rf) (by rw [erk4]; exact e21)
        unfold nmS at qnm ⊢
        rw [y4 5 m (by omega) (by omega), y4 6 m (by omega) (by omega), y3 4 m (by decide) (by decide) (by omega)]
        exact qnm
theorem sline_j (hN : 1000 ≤ N) (h : gd t sz b w M E) (hp : plI t sz M E m) (h11 : E 0 11 ≠ 9) (h21 : E 0 21 = 2 * rkD M m) : iO t sz m M E (Reader_readStep N M) (Model_readsItem N E) := by
  have rr := plI_r hp
  obtain ⟨f, n, s, it⟩ := id hp
  unfold plN at n
  have g12 := h.2.1.2.2
  have rg := (tk_r h.2.2).2.2
  have ts := y_ts f.1.2 f.2.1.2
  have e0 := f.1.1
  have e1 := f.2.1.1
  have k10 : y_is t b w 20 ↔ y_kept t b w = 10 := (y_is_same (by decide +kernel)).trans kept_10
  have ek := is_k (n := 10) (s := 20) hN h (by decide) k10
  rw [sT_e, iT_e]
  unfold iT1 Plan_addresses
  simp only [z_jn_e, z_cl_e]
  rw [z_eq_f (x := E 0 11) (y := 9) (by omega)]
  by_cases c0 : E 0 11 = 10
  · rw [if_pos c0] at ek
    rw [c0, z_eq_t (x := (10 : Int)) (by omega), z_eq_f (x := (10 : Int)) (by omega)]
    by_cases c : M 10 8 < 12 ∧ m < M 10 0 * M 10 1
    · obtain ⟨b1, w1, M1, E1, x1, x2, x3, x4, x5, x6⟩ := pass_j hN h
      have hp1 := plI_a hp x5 x6
      have n1 := hp1.2.1
      unfold plN at n1
      obtain ⟨M2, E2, y1, y2, y3, y4, y5⟩ := itemName_j (m := m) hN x4 (by omega) n1.2.1 (fun i g1 g2 => (hp1.2.2.2 i g1 g2).1)
      rw [z_lt_t (by omega), z_lt_t (by omega), itemWord_1 hN ek, x1, z_cl_e, z_cl_e]
      unfold sT2 iT2
      rw [z_eq_f (by omega), z_rd_t (by omega), z_rd_t (by omega), z_rd_t (by omega), n.2.1, e0, e1, z_eq_f (by omega), z_eq_t (by omega), x2, z_cl_e, n1.1, y1, z_cl_e, y2, z_cl_e]
      have fm : mM m M M2 := mM_t (mM_a x5) (mM_n y3)
      have fe : mE m (2 * rkD M m) E E2 := mE_t (mE_a x6) (mE_n y4)
      refine iO_t fm fe rr.1 ?_
      have hp2 := plI_m hp fm fe (Or.inl (by omega))
      have n2 := hp2.2.1
      rcases y5 with k | ⟨b2, w2, g2, nm2⟩
      · exact bad_iO k (sB3 hN (cP_of hp2 k.1)) (iB3 (Or.inr rfl) (by omega) n2.2.1 k.2.1)
      · have m10 : ∀ j, M2 10 j = M 10 j := fun j => fm 10 j (by omega) (by omega) (by omega)
        have erk : rkD M2 m = rkD M m := rkD_c (Int.le_refl m) (fun j _ _ => fm 11 j (by omega) (by omega) (by omega))
        refine sJ3 hN g2 hp2 (by rw [m10, m10, m10]; omega) nm2 ?_
        rw [y4 0 21 (by omega) (by omega), x6 0 21 (by omega), erk]; exact h21
    · obtain ⟨Mf, E1, x1, x2, x3f, x4f, x5⟩ := fail_j (k := 3) h (by omega)
      obtain ⟨M1, wx1, wx2⟩ := itemWord_0 hN ek x1 x3f.1
      have x3 := bM_d x3f wx2
      have x4 := aM_t x4f (bM_a wx2)
      have hp1 := plI_a hp x4 x5
      have cl : z_lt (M 10 8) 12 (z_lt (M 10 6) (M 10 0 * M 10 1) (z_cl (Reader_takeItemWord N 20 1 M) (fun u_ M2 => sT2 N M2)) (z_cl (Reader_takeItemWord N 20 0 M) (fun u_ M2 => sT2 N M2))) (z_cl (Reader_takeItemWord N 20 0 M) (fun u_ M2 => sT2 N M2)) = sT2 N M1 := by
        rw [wx1, z_cl_e]
        by_cases c1 : M 10 8 < 12
        · rw [z_lt_t (by omega), z_lt_f (by omega)]
        · rw [z_lt_f (by omega)]
      have fin : iO t sz m M E (sT2 N M1) (iT2 N 10 E1) := by
        refine iO_t (mM_a x4) (mE_a x5) rr.1 (bad_iO x3 (sB2 hN (cP_of hp1 x3.1)) ?_)
        unfold iT2
        rw [z_eq_f (by have := x3.2.1; omega)]
        exact ⟨E1, rfl, fun _ _ _ => rfl, fun _ _ => rfl⟩
      rw [cl]
      by_cases c1 : M 10 8 = 12
      · rw [z_eq_t (x := E 0 23) (by omega), x2, z_cl_e]
        exact fin
      · rw [z_eq_f (x := E 0 23) (by omega), z_rd_t (by omega), z_rd_t (by omega), z_rd_t (by omega), n.2.1, e0, e1, z_eq_t (by omega), x2, z_cl_e]
        exact fin
  · rw [if_neg c0] at ek
    obtain ⟨Mf, M1, E1, x1, x1', -, x2, x3, x4, x5⟩ := failadv_j (k := 1) hN h (by omega)
    have hp1 := plI_a hp x4 x5
    have iw : ∀ v : Int, Reader_takeItemWord N 20 v M = some (0, M1) := fun v => by
      unfold Reader_takeItemWord Reader_takeWord
      simp only [ek, z_cl_e, z_jn_e]
      rw [z_eq_t (by omega), z_eq_t (by omega), x1, z_cl_e, x1', z_cl_e, z_cl_e]
    rw [z_eq_f (x := E 0 11) (y := 10) (by omega), x2, z_cl_e, iw, iw, z_cl_e]
    have cl : z_lt (M 10 8) 12 (z_lt (M 10 6) (M 10 0 * M 10 1) (sT2 N M1) (sT2 N M1)) (sT2 N M1) = sT2 N M1 := by
      rw [z_lt_e (x := M 10 6) (by omega) (by omega), z_lt_e (by omega) (by omega)]
      split
      · split <;> rfl
      · rfl
    rw [cl]
    refine iO_t (mM_a x4) (mE_a x5) rr.1 (bad_iO x3 (sB2 hN (cP_of hp1 x3.1)) ?_)
    unfold iT2
    rw [z_eq_f (by have := x3.2.1; omega)]
    exact ⟨E1, rfl, fun _ _ _ => rfl, fun _ _ => rfl⟩
end
