/-! reading: the line of a word, put into the plan -/
section
variable {t : Int → Int} {sz b m : Int} {w N : Nat} {M E M' E' : zMem}
theorem plI_add (h : plI t sz M E m) (hm : m < 20) (hM : ∀ c j, c ≠ 10 → c ≠ 17 → (c < 11 ∨ 18 < c ∨ j ≠ m) → M' c j = M c j) (h17 : ∀ j : Int, 0 ≤ j → j < wkD M m → M' 17 j = M 17 j) (h10 : ∀ j : Int, j < 6 → M' 10 j = M 10 j) (hE1 : ∀ j : Int, j ≠ 5 → E' 1 j = E 1 j) (hE : ∀ c j, c ≠ 0 → c ≠ 1 → E' c j = E c j)
    (hn : plN M' E' (m + 1)) (hs : plS M' (m + 1)) (hi : itI t sz M' E' m) : plI t sz M' E' (m + 1) := by
  have r := plI_r h
  obtain ⟨f, n, s, it⟩ := h
  refine ⟨plF_c f (fun j g => h10 j (by omega)) (fun j g => hE1 j (by omega)), hn, hs, fun i g1 g2 => ?_⟩
  by_cases c : i = m
  · rw [c]; exact hi
  · exact itI_c (m := m) (it i g1 (by omega)) ⟨g1, by omega⟩ (fun c q => hM c i (by omega) (by omega) (by omega)) (fun j q1 q2 => hM 11 j (by omega) (by omega) (by omega)) h17 ⟨h10 0 (by omega), h10 1 (by omega)⟩ ⟨hE 5 i (by decide) (by decide), hE 6 i (by decide) (by decide)⟩ ⟨hE1 _ (by omega), hE1 _ (by omega), hE1 _ (by omega), hE1 _ (by omega), hE1 _ (by omega)⟩ (fun c k q1 q2 q3 => hE c k (by omega) (by omega))
theorem addWord_e {v a k : Int} (h6 : M 10 6 = m ∧ 0 ≤ m ∧ m < 20) (h7 : M 10 7 = k ∧ 0 ≤ k ∧ k < 8) :
    ∃ M' : zMem, Plan_addWord v a M = some (0, M') ∧ (∀ c j, c ≠ 10 → c ≠ 17 → (c < 11 ∨ 18 < c ∨ j ≠ m) → M' c j = M c j) ∧ (∀ j : Int, j ≠ k → M' 17 j = M 17 j) ∧ (∀ j : Int, j ≠ 6 → j ≠ 7 → M' 10 j = M 10 j) ∧ M' 10 6 = m + 1 ∧ M' 10 7 = k + 1 ∧ M' 11 m = -1 ∧ M' 12 m = a ∧ M' 13 m = v ∧ M' 18 m = k ∧ M' 17 k = m := by
  refine ⟨z_st (z_st (z_st (z_st (z_st (z_st (z_st (z_st (z_st M 17 k m) 18 m k) 13 m v) 10 7 (k + 1)) 11 m (-1)) 12 m a) 14 m (-1)) 16 m (-1)) 10 6 (m + 1), ?_, fun c j g1 g2 g3 => ?_, fun j g => ?_, fun j g1 g2 => ?_, ?_, ?_, ?_, ?_, ?_, ?_, ?_⟩
  · unfold Plan_addWord Plan_addItem
    simp (disch := omega) only [z_lt_t, z_lt_f, z_le_t, z_le_f, z_eq_t, z_eq_f, z_rd_t, z_wr_t, z_wz_t, z_pf_e, z_pz_t, z_nm_e, z_jn_e, z_cl_e, z_rz_t, z_st_c, z_st_i, z_st_n, h6.1, h7.1]
  · rw [z_st_c g1]
    by_cases q : j = m
    · rw [z_st_c (by omega), z_st_c (by omega), z_st_c (by omega), z_st_c (by omega), z_st_c (by omega), z_st_c (by omega), z_st_c (by omega), z_st_c (by omega)]
    · have z : ∀ (X : zMem) (c' : Nat) (v : Int), z_st X c' m v c j = X c j := fun X c' v => by
        by_cases e : c = c'
        · subst e; exact z_st_n q
        · exact z_st_c e
      rw [z, z, z, z, z_st_c g1, z, z, z_st_c g2]
  · simp (disch := omega) only [z_st_c, z_st_i, z_st_n]
  · simp (disch := omega) only [z_st_c, z_st_i, z_st_n]
  · simp (disch := omega) only [z_st_c, z_st_i, z_st_n]
  · simp (disch := omega) only [z_st_c, z_st_i, z_st_n]
  · simp (disch := omega) only [z_st_c, z_st_i, z_st_n]
  · simp (disch := omega) only [z_st_c, z_st_i, z_st_n]
  · simp (disch := omega) only [z_st_c, z_st_i, z_st_n]
  · simp (disch := omega) only [z_st_c, z_st_i, z_st_n]
  · simp (disch := omega) only [z_st_c, z_st_i, z_st_n]
def wT5 (N : Nat) (r_ r_1 : Int) (M5 : zMem) : zO := z_cl (Reader_takeAddress N M5) (fun r_2 M6 => z_eq (M6 3 6) 0 (z_jn (fun (x1 : Int) (M7 : zMem) => z_cl (Plan_addWord x1 r_2 M7) (fun u_2 M8 => some (0, M8))) (fun k1 => z_eq r_ 0 (k1 r_1 M6) (k1 (-r_1) M6))) (some (0, M6)))
def wT4 (N : Nat) (r_ : Int) (M4 : zMem) : zO := z_cl (Reader_takeNumber N 0 9999 M4) (fun r_1 M5 => wT5 N r_ r_1 M5)
def wT3 (N : Nat) (M3 : zMem) : zO := z_cl (Reader_takeMinus N M3) (fun r_ M4 => wT4 N r_ M4)
def wT2 (N : Nat) (M2 : zMem) : zO := z_cl (Reader_takeItemName N (M2 10 6) M2) (fun u_1 M3 => wT3 N M3)
theorem wT_e : Reader_readWord N M = z_jn (fun (x0 : Int) (M1 : zMem) => z_cl (Reader_takeItemWord N 6 x0 M1) (fun u_ M2 => wT2 N M2)) (fun k0 => z_jn (fun (M9 : zMem) => k0 0 M9) (fun k2 => z_lt (M 10 7) 8 (z_cl (Plan_addresses 10 M) (fun r_3 M10 => z_lt (M 10 6) r_3 (k0 1 M10) (k2 M10))) (k2 M))) := rfl
theorem wB5 {r r1 : Int} (hN : 1000 ≤ N) (h : cP M) : bO M (wT5 N r r1 M) := by
  obtain ⟨x, M1, e, e1⟩ := address_b hN h
  unfold wT5
  rw [e, z_cl_e, z_eq_f (by have := e1.1.2.1; omega)]
  exact ⟨M1, rfl, cP_k h e1, bF_k e1⟩
theorem wB4 {r : Int} (hN : 1000 ≤ N) (h : cP M) : bO M (wT4 N r M) := by
  obtain ⟨x, M1, e, -, e1⟩ := number_b (N := N) (lo := 0) (hi := 9999) hN h.1 (by omega) (by omega)
  unfold wT4
  rw [e, z_cl_e]
  exact bO_t (bF_k e1) (wB5 hN (cP_k h e1))
theorem wB3 (hN : 1000 ≤ N) (h : cP M) : bO M (wT3 N M) := by
  obtain ⟨r, M1, -, e, e1⟩ := minus_b (N := N) hN h.1
  unfold wT3
  rw [e, z_cl_e]
  exact bO_t (bF_k e1) (wB4 hN (cP_k h e1))
theorem wB2 (hN : 1000 ≤ N) (h : cP M) : bO M (wT2 N M) := by
  obtain ⟨M1, e1, e2, e3⟩ := itemName_b hN h
  unfold wT2
  rw [e1, z_cl_e]
  exact bO_t e3 (wB3 hN e2)
theorem wJ5 {r r1 : Int} (hN : 1000 ≤ N) (h : gd t sz b w M E) (hp : plI t sz M E m) (hm : m < 20 ∧ m < M 10 0 * M 10 1 ∧ M 10 7 < 8) (hr : r = 0 ∨ r = 1) (hr1 : 0 ≤ r1 ∧ r1 ≤ 9999) (h9 : E 1 (9 + m) = 0) (h29 : E 1 (29 + m) = if r = 0 then r1 else -r1) (hnm : nmS t sz M E m) (h21 : E 0 21 = 2 * rkD M m) : iO t sz m M E (wT5 N r r1 M) (iT6 N 9 m E) := by
  have rr := plI_r hp
  have n := hp.2.1
  unfold wT5 iT6
  rw [z_wr_t (by omega)]
  have hp1 : plI t sz M (z_st E 1 (129 + m) (-1)) m := plI_m hp (fun _ _ _ _ _ => rfl) (mE_s (by omega)) (Or.inl hm.1)
  have h1 : gd t sz b w M (z_st E 1 (129 + m) (-1)) := gd_c h (fun _ _ _ => rfl) (fun c j g => z_st_c (by omega))
  have n1 := hp1.2.1
  obtain ⟨r2, M2, E2, x1, x2, x3, x4, x5⟩ := address_j (k3 := fun M8 => iEnd 9 M8) hN h1 ⟨n.1, n1.2.1, rr.1, hm.1⟩ hp1.1.1 hp1.1.2.1 (fun i g1 g2 => (hp1.2.2.2 i g1 g2).2.1.2) (z_st_i rfl)
  rw [x1, z_cl_e, x2]
  have fm : mM m M M2 := mM_a x3
  have fe : mE m (2 * rkD M m) E E2 := mE_t (mE_s (by omega)) (mE_d x4)
  have hp2 : plI t sz M2 E2 m := plI_m hp fm fe (Or.inl hm.1)
  refine iO_t fm fe rr.1 ?_
  rcases x5 with k | ⟨b2, w2, g2, e129, hr2⟩
  · rw [z_eq_f (by have := k.1.2.1; omega)]
    exact bad_iO k ⟨M2, rfl, cP_of hp2 k.1, fun _ _ _ => rfl⟩ (iB_end (Or.inl rfl))
  · have m10 : ∀ j, M2 10 j = M 10 j := fun j => x3 10 j (by decide) (by decide)
    obtain ⟨f2, n2, s2, it2⟩ := id hp2
    unfold plN at n2
    have h107 := m10 7
    have hts : M2 10 0 * M2 10 1 = M 10 0 * M 10 1 := by rw [m10, m10]
    obtain ⟨M3, y1, y2, y3, y4, y5, y6, y7, y8, y9, y10, y11⟩ := addWord_e (m := m) (k := M2 10 7) (v := if r = 0 then r1 else -r1) (a := r2) (M := M2) (by omega) (by omega)
    obtain ⟨E3, z1, z2, z3, z4, z5, z6, z7⟩ := iEnd_e (v1 := 9) (E := E2) (Or.inl rfl)
    have cl : z_eq (M2 3 6) 0 (z_jn (fun (x1 : Int) (M7 : zMem) => z_cl (Plan_addWord x1 r2 M7) (fun u_2 M8 => some (0, M8))) (fun k1 => z_eq r 0 (k1 r1 M2) (k1 (-r1) M2))) (some (0, M2)) = some (0, M3) := by
      simp only [z_jn_e]
      rw [z_eq_t (by have := g2.2.1.2.1; omega)]
      rcases hr with q | q
      · rw [if_pos q] at y1
        rw [z_eq_t (by omega), y1, z_cl_e]
      · rw [if_neg (by omega)] at y1
        rw [z_eq_f (by omega), y1, z_cl_e]
    rw [cl, z1]
    have ew : wkD M3 m = wkD M2 m := wkD_c (Int.le_refl m) (fun j q1 q2 => y2 11 j (by decide) (by decide) (by omega))
    have er : rkD M3 m = rkD M2 m := rkD_c (Int.le_refl m) (fun j q1 q2 => y2 11 j (by decide) (by decide) (by omega))
    have er0 : rkD M2 m = rkD M m := rkD_c (Int.le_refl m) (fun j q1 q2 => x3 11 j (by decide) (by decide))
    have ew1 : wkD M3 (m + 1) = wkD M3 m + 1 := by rw [wkD_s rr.1, if_pos y7]
    have er1 : rkD M3 (m + 1) = rkD M3 m := by rw [rkD_s rr.1, if_pos (Or.inl y7)]; omega
    have t0 := y4 0 (by omega) (by omega)
    have t1 := y4 1 (by omega) (by omega)
    have t8 := y4 8 (by omega) (by omega)
    have t9 := y4 9 (by omega) (by omega)
    rw [if_pos rfl] at z6 z7
    refine ⟨M3, E3, rfl, rfl, fun c j g => ?_, fun c j g => ?_, Or.inr ⟨b2, w2, gd_c g2 (fun c j g => y2 c j (by omega) (by omega) (by omega)) (fun c j g => ?_), plI_add hp2 hm.1 y2 (fun j q1 q2 => y3 j (by omega)) (fun j q => y4 j (by omega) (by omega)) z4 z2 ?_ ?_ ?_, ?_, z4 6 (by omega), y4 5 (by omega) (by omega)⟩⟩
    · exact y2 c j (by omega) (by omega) (by omega)
    · by_cases q : c = 0
      · subst q; exact z3 j (by omega) (by omega)
      · by_cases q1 : c = 1
        · subst q1; exact z4 j (by omega)
        · exact z2 c j q q1
    · rcases g with g | g
      · subst g; exact z2 4 j (by decide) (by decide)
      · rw [g.1]; exact z3 j (by omega) (by omega)
    · unfold plN
      rw [ew1, er1, ew, er, t0, t1, t8, y5, y6, z5, z6, z7]
      omega
    · unfold plS at s2 ⊢
      rw [t8, t9]
      refine ⟨fun q => ⟨(s2.1 q).1, fun i g1 g2 => ?_⟩, fun q => ?_⟩
      · by_cases e : i = m
        · rw [e]; exact y7
        · rw [y2 11 i (by decide) (by decide) (by omega)]; exact (s2.1 q).2 i g1 (by omega)
      · obtain ⟨k1, k2, k3⟩ := s2.2 q
        refine ⟨by omega, ?_, fun i g1 g2 => ?_⟩
        · rw [y2 11 _ (by decide) (by decide) (by omega)]; exact k2
        · rw [y2 11 i (by decide) (by decide) (by omega)]; exact k3 i g1 g2
    · have nm2 : nmS t sz M3 E3 m := by
        unfold nmS at hnm ⊢
        rw [z2 5 m (by decide) (by decide), z2 6 m (by decide) (by decide), x4 5 m (by omega) (by omega), x4 6 m (by omega) (by omega), z_st_c (by decide), z_st_c (by decide), y2 4 m (by decide) (by decide) (by omega), x3 4 m (by decide) (by decide)]
        exact hnm
      refine ⟨nm2, ⟨by omega, ?_, ?_⟩, fun _ => ⟨?_, ?_, ?_, ?_, ?_⟩, fun q => absurd y7 q⟩
      · rw [z4 _ (by omega), y8]; exact e129
      · rw [y8, t0, t1, m10, m10]; exact hr2
      · rw [z4 _ (by omega), x4 1 _ (by omega) (by omega), z_st_n (by omega)]; exact h9
      · rw [z4 _ (by omega), x4 1 _ (by omega) (by omega), z_st_n (by omega), y9]; exact h29
      · rw [y9]; split <;> omega
      · rw [y10, ew]; omega
      · rw [ew, ← n2.2.2.2.2.2.2.2.2.2.2.1]; exact y11
    · rw [z3 21 (by omega) (by omega), x4 0 21 (by omega) (by omega), z_st_c (by decide), er1, er, er0]; exact h21
end
