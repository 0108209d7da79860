/-! reading: the line of a step -/
def sT5 (N : Nat) (r_ v3_ : Int) (M5 : zMem) : zO := z_cl (Reader_takeAddress N M5) (fun r_1 M6 => z_eq (M6 3 6) 0 (z_cl (Plan_addStep r_ v3_ r_1 M6) (fun u_2 M7 => some (0, M7))) (some (0, M6)))
def sT4b (N : Nat) (r_ x1 : Int) (M9 : zMem) : zO := z_cl (Reader_takeReference N 7 8 (M9 10 6) M9) (fun u_4 M10 => sT5 N r_ x1 M10)
def sT4a (N : Nat) (r_ : Int) (M8 : zMem) : zO := z_jn (fun (x1 : Int) (M9 : zMem) => sT4b N r_ x1 M9) (fun k2 => z_eq r_ 6 (z_cl (Reader_takeNumber N 1 7 M8) (fun r_2 M11 => k2 r_2 M11)) (k2 0 M8))
def sT4 (N : Nat) (r_ : Int) (M4 : zMem) : zO := z_eq r_ 7 (sT5 N r_ 0 M4) (z_cl (Reader_takeReference N 5 6 (M4 10 6) M4) (fun u_3 M8 => sT4a N r_ M8))
def sT3 (N : Nat) (M3 : zMem) : zO := z_cl (Reader_takeOperation N M3) (fun r_ M4 => sT4 N r_ M4)
def sT2 (N : Nat) (M2 : zMem) : zO := z_cl (Reader_takeItemName N (M2 10 6) M2) (fun u_1 M3 => sT3 N M3)
theorem sT_e {N : Nat} {M : zMem} : Reader_readStep N M = z_jn (fun (x0 : Int) (M1 : zMem) => z_cl (Reader_takeItemWord N 20 x0 M1) (fun u_ M2 => sT2 N M2)) (fun k0 => z_jn (fun (M12 : zMem) => k0 0 M12) (fun k3 => z_lt (M 10 8) 12 (z_cl (Plan_addresses 10 M) (fun r_3 M13 => z_lt (M 10 6) r_3 (k0 1 M13) (k3 M13))) (k3 M))) := rfl
def oT3 (N : Nat) (M5 : zMem) : zO := z_cl (Model_readsRef N 1 M5) (fun u_2 M6 => some (0, M6))
def oT2 (N : Nat) (v : Int) (M4 : zMem) : zO := z_jn (fun (M5 : zMem) => oT3 N M5) (fun k0 => z_eq v 6 (z_eq (M4 0 12) 0 (z_rd M4 1 169 5 (fun x2 => z_cl (Model_reads N 1 7 M4) (fun r_1 M7 => z_wr M7 1 169 (89 + x2) r_1 (fun M8 => k0 M8)))) (k0 M4)) (k0 M4))
def oT1 (N : Nat) (v : Int) (M3 : zMem) : zO := z_eq (M3 0 12) 0 (z_eq v 7 (some (0, M3)) (z_cl (Model_readsRef N 0 M3) (fun u_1 M4 => oT2 N v M4))) (some (0, M3))
theorem oT_e {N : Nat} {E : zMem} : Model_readsOp N E = z_nm (E 0 11) (fun v1_ => z_il v1_ (fun x0 => z_cl (Model_in x0 0 7 E) (fun r_ M1 => z_cl (Model_passes N r_ M1) (fun u_ M2 => z_rd M2 1 169 5 (fun x1 => z_wr M2 1 169 (49 + x1) v1_ (fun M3 => oT1 N v1_ M3)))))) := rfl
section
variable {t : Int → Int} {sz b m : Int} {w N : Nat} {M E : zMem}
theorem sB5 {r r1 : Int} (hN : 1000 ≤ N) (h : cP M) : bO M (sT5 N r r1 M) := by
  obtain ⟨x, M1, e, e1⟩ := address_b hN h
  unfold sT5
  rw [e, z_cl_e, z_eq_f (by have := e1.1.2.1; omega)]
  exact ⟨M1, rfl, cP_k h e1, bF_k e1⟩
theorem sB4b {r x : Int} (hN : 1000 ≤ N) (h : cP M) : bO M (sT4b N r x M) := by
  obtain ⟨M1, e1, e2, e3⟩ := ref_b (N := N) hN (Or.inr ⟨rfl, rfl⟩) h
  unfold sT4b
  rw [e1, z_cl_e]
  exact bO_t e3 (sB5 hN e2)
theorem sB4a {r : Int} (hN : 1000 ≤ N) (hr : -1 ≤ r ∧ r ≤ 7) (h : cP M) : bO M (sT4a N r M) := by
  obtain ⟨x, M1, e, -, e1⟩ := number_b (N := N) (lo := 1) (hi := 7) hN h.1 (by omega) (by omega)
  unfold sT4a
  simp only [z_jn_e]
  rw [e, z_cl_e, z_eq_e (by omega) (by omega)]
  split
  · exact bO_t (bF_k e1) (sB4b hN (cP_k h e1))
  · exact sB4b hN h
theorem sB4 {r : Int} (hN : 1000 ≤ N) (hr : -1 ≤ r ∧ r ≤ 7) (h : cP M) : bO M (sT4 N r M) := by
  unfold sT4
  rw [z_eq_e (by omega) (by omega)]
  split
  · exact sB5 hN h
  · obtain ⟨M1, e1, e2, e3⟩ := ref_b (N := N) hN (Or.inl ⟨rfl, rfl⟩) h
    rw [e1, z_cl_e]
    exact bO_t e3 (sB4a hN hr e2)
theorem sB3 (hN : 1000 ≤ N) (h : cP M) : bO M (sT3 N M) := by
  obtain ⟨r, M1, hr, e, e1⟩ := takeOp_b hN h.1
  unfold sT3
  rw [e, z_cl_e]
  exact bO_t (bF_k e1) (sB4 hN hr (cP_k h e1))
theorem sB2 (hN : 1000 ≤ N) (h : cP M) : bO M (sT2 N M) := by
  obtain ⟨M1, e1, e2, e3⟩ := itemName_b hN h
  unfold sT2
  rw [e1, z_cl_e]
  exact bO_t e3 (sB3 hN e2)
theorem ref_bE {v : Int} (h : E 0 12 = 1) : Model_readsRef N v E = some (0, E) := by
  unfold Model_readsRef
  simp only [z_jn_e]
  rw [z_eq_f (by omega), z_eq_f (by omega), passes_b h (by omega), z_cl_e]
theorem oB3 (h : E 0 12 = 1) : oT3 N E = some (0, E) := by
  unfold oT3
  rw [ref_bE h, z_cl_e]
theorem oB2 {v : Int} (hv : -1 ≤ v ∧ v ≤ 7) (h : E 0 12 = 1) : oT2 N v E = some (0, E) := by
  unfold oT2
  simp only [z_jn_e]
  rw [z_eq_f (x := E 0 12) (by omega), oB3 h, z_eq_e (by omega) (by omega)]
  split <;> rfl
theorem oB1 {v : Int} (h : E 0 12 = 1) : oT1 N v E = some (0, E) := by
  unfold oT1
  rw [z_eq_f (by omega)]
theorem addStep_e {op v a k : Int} (h6 : M 10 6 = m ∧ 0 ≤ m ∧ m < 20) (h8 : M 10 8 = k ∧ 0 ≤ k ∧ k < 12) :
    ∃ M' : zMem, Plan_addStep op v a M = some (0, M') ∧ (∀ c j, c ≠ 10 → (c < 11 ∨ 18 < c ∨ j ≠ m) → M' c j = M c j) ∧ (∀ j, M' 17 j = M 17 j) ∧ (∀ j : Int, j ≠ 6 → j ≠ 8 → j ≠ 9 → M' 10 j = M 10 j) ∧ M' 10 6 = m + 1 ∧ M' 10 8 = k + 1 ∧ M' 10 9 = (if k = 0 then m else M 10 9) ∧ M' 11 m = op ∧ M' 12 m = a ∧ M' 15 m = v := by
  have base : ∀ (X : zMem) (f9 : Int), X 10 6 = m → X 10 8 = k → X 10 9 = f9 → (∀ c j, c ≠ 10 → X c j = M c j) → (∀ j : Int, j ≠ 9 → X 10 j = M 10 j) → ∃ M' : zMem, z_wr X 15 20 (X 10 6) v (fun M2 => z_pf M2 10 8 ((M2 10 8) + 1) (fun M3 => z_cl (Plan_addItem op a M3) (fun u_ M4 => some (0, M4)))) = some (0, M') ∧ (∀ c j, c ≠ 10 → (c < 11 ∨ 18 < c ∨ j ≠ m) → M' c j = M c j) ∧ (∀ j, M' 17 j = M 17 j) ∧ (∀ j : Int, j ≠ 6 → j ≠ 8 → j ≠ 9 → M' 10 j = M 10 j) ∧ M' 10 6 = m + 1 ∧ M' 10 8 = k + 1 ∧ M' 10 9 = f9 ∧ M' 11 m = op ∧ M' 12 m = a ∧ M' 15 m = v := by
    intro X f9 x6 x8 x9 xc x10
    refine ⟨z_st (z_st (z_st (z_st (z_st (z_st (z_st X 15 m v) 10 8 (k + 1)) 11 m op) 12 m a) 14 m (-1)) 16 m (-1)) 10 6 (m + 1), ?_, fun c j g1 g3 => ?_, fun j => ?_, fun j g1 g2 g3 => ?_, ?_, ?_, ?_, ?_, ?_, ?_⟩
    · unfold Plan_addItem
      simp (disch := omega) only [z_lt_t, z_lt_f, z_le_t, z_le_f, z_eq_t, z_eq_f, z_rd_t, z_wr_t, z_wz_t, z_pf_e, z_pz_t, z_nm_e, z_jn_e, z_cl_e, z_rz_t, z_st_c, z_st_i, z_st_n, x6, x8]
    · rw [z_st_c g1, ← xc c j g1]
      by_cases q : j = m
      · rw [z_st_c (by omega), z_st_c (by omega), z_st_c (by omega), z_st_c (by omega), z_st_c (by omega), z_st_c (by omega)]
      · have z : ∀ (X : zMem) (c' : Nat) (v : Int), z_st X c' m v c j = X c j := fun X c' v => by
          by_cases e : c = c'
          · subst e; exact z_st_n q
          · exact z_st_c e
        rw [z, z, z, z, z_st_c g1, z]
    · simp (disch := omega) only [z_st_c, z_st_i, z_st_n]
      exact xc 17 j (by decide)
    · simp (disch := omega) only [z_st_c, z_st_i, z_st_n]
      exact x10 j g3
    · simp (disch := omega) only [z_st_c, z_st_i, z_st_n]
    · simp (disch := omega) only [z_st_c, z_st_i, z_st_n]
    · simp (disch := omega) only [z_st_c, z_st_i, z_st_n]
      exact x9
    · simp (disch := omega) only [z_st_c, z_st_i, z_st_n]
    · simp (disch := omega) only [z_st_c, z_st_i, z_st_n]
    · simp (disch := omega) only [z_st_c, z_st_i, z_st_n]
  unfold Plan_addStep
  simp only [z_jn_e]
  rw [z_lt_t (by omega), z_le_f (by omega)]
  by_cases c : k = 0
  · rw [if_pos c, z_eq_t (by omega), z_pf_e, h6.1]
    exact base (z_st M 10 9 m) m (by rw [z_st_n (by decide)]; exact h6.1) (by rw [z_st_n (by decide)]; exact h8.1) (z_st_i rfl) (fun c j g => z_st_c g) (fun j g => z_st_n g)
  · rw [if_neg c, z_eq_f (by omega)]
    exact base M (M 10 9) h6.1 h8.1 rfl (fun c j g => rfl) (fun j g => rfl)
theorem sJ5 {op v : Int} (hN : 1000 ≤ N) (h : gd t sz b w M E) (hp : plI t sz M E m) (hm : m < 20 ∧ m < M 10 0 * M 10 1 ∧ M 10 8 < 12) (ho : 0 ≤ op ∧ op ≤ 7) (h9 : E 1 (9 + m) = 1) (h49 : E 1 (49 + m) = op) (h89 : op = 6 → E 1 (89 + m) = v ∧ 1 ≤ v ∧ v ≤ 7) (hnm : nmS t sz M E m)
    (hrf : op ≠ 7 → rfS t sz M E 5 6 m (2 * rkD M m) 0 ∧ rfS t sz M E 7 8 m (2 * rkD M m + 1) 1) (h21 : E 0 21 = 2 * rkD M m + if op = 7 then 0 else 2) : iO t sz m M E (sT5 N op v M) (iT6 N 10 m E) := by
  have rr := plI_r hp
  have n := hp.2.1
  unfold sT5 iT6
  rw [z_wr_t (by omega)]
  have hp1 : plI t sz M (z_st E 1 (129 + m) (-1)) m := plI_m hp (fun _ _ _ _ _ => rfl) (mE_s (by omega)) (Or.inl hm.1)
  have h1 : gd t sz b w M (z_st E 1 (129 + m) (-1)) := gd_c h (fun _ _ _ => rfl) (fun c j g => z_st_c (by omega))
  have n1 := hp1.2.1
  obtain ⟨r2, M2, E2, x1, x2, x3, x4, x5⟩ := address_j (k3 := fun M8 => iEnd 10 M8) hN h1 ⟨n.1, n1.2.1, rr.1, hm.1⟩ hp1.1.1 hp1.1.2.1 (fun i g1 g2 => (hp1.2.2.2 i g1 g2).2.1.2) (z_st_i rfl)
  rw [x1, z_cl_e, x2]
  have fm : mM m M M2 := mM_a x3
  have fe : mE m (2 * rkD M m) E E2 := mE_t (mE_s (by omega)) (mE_d x4)
  have hp2 : plI t sz M2 E2 m := plI_m hp fm fe (Or.inl hm.1)
  refine iO_t fm fe rr.1 ?_
  rcases x5 with k | ⟨b2, w2, g2, e129, hr2⟩
  · rw [z_eq_f (by have := k.1.2.1; omega)]
    exact bad_iO k ⟨M2, rfl, cP_of hp2 k.1, fun _ _ _ => rfl⟩ (iB_end (Or.inr rfl))
  · have m10 : ∀ j, M2 10 j = M 10 j := fun j => x3 10 j (by decide) (by decide)
    have e2 : ∀ c j, (c ≠ 0 ∨ 14 < j) → (c ≠ 1 ∨ j ≠ 129 + m) → E2 c j = E c j := fun c j q1 q2 => by
      rw [x4 c j (by omega) q2]
      by_cases q : c = 1
      · subst q; exact z_st_n (by omega)
      · exact z_st_c q
    obtain ⟨f2, n2, s2, it2⟩ := id hp2
    unfold plN at n2
    have h108 := m10 8
    have hts : M2 10 0 * M2 10 1 = M 10 0 * M 10 1 := by rw [m10, m10]
    obtain ⟨M3, y1, y2, y3, y4, y5, y6, y7, y8, y9, y10⟩ := addStep_e (m := m) (k := M2 10 8) (op := op) (v := v) (a := r2) (M := M2) (by omega) (by omega)
    obtain ⟨E3, z1, z2, z3, z4, z5, z6, z7⟩ := iEnd_e (v1 := 10) (E := E2) (Or.inr rfl)
    rw [z_eq_t (by have := g2.2.1.2.1; omega), y1, z_cl_e, z1]
    have ew : wkD M3 m = wkD M2 m := wkD_c (Int.le_refl m) (fun j q1 q2 => y2 11 j (by decide) (by omega))
    have er : rkD M3 m = rkD M2 m := rkD_c (Int.le_refl m) (fun j q1 q2 => y2 11 j (by decide) (by omega))
    have er0 : rkD M2 m = rkD M m := rkD_c (Int.le_refl m) (fun j q1 q2 => x3 11 j (by decide) (by decide))
    have ew1 : wkD M3 (m + 1) = wkD M3 m := by rw [wkD_s rr.1, if_neg (by omega)]; omega
    have er1 : rkD M3 (m + 1) = rkD M3 m + if op = 7 then 0 else 1 := by
      rw [rkD_s rr.1]
      by_cases c : op = 7
      · rw [if_pos (by omega), if_pos c]
      · rw [if_neg (by omega), if_neg c]
    have t0 := y4 0 (by omega) (by omega) (by omega)
    have t1 := y4 1 (by omega) (by omega) (by omega)
    have t7 := y4 7 (by omega) (by omega) (by omega)
    rw [if_neg (by decide)] at z6 z7
    refine ⟨M3, E3, rfl, rfl, fun c j g => ?_, fun c j g => ?_, Or.inr ⟨b2, w2, gd_c g2 (fun c j g => y2 c j (by omega) (by omega)) (fun c j g => ?_), plI_add hp2 hm.1 (fun c j q1 _ q3 => y2 c j q1 q3) (fun j q1 q2 => y3 j) (fun j q => y4 j (by omega) (by omega) (by omega)) z4 z2 ?_ ?_ ?_, ?_, z4 6 (by omega), y4 5 (by omega) (by omega) (by omega)⟩⟩
    · exact y2 c j (by omega) (by omega)
    · by_cases q : c = 0
      · subst q; exact z3 j (by omega) (by omega)
      · by_cases q1 : c = 1
        · subst q1; exact z4 j (by omega)
        · exact z2 c j q q1
    · rcases g with g | g
      · subst g; exact z2 4 j (by decide) (by decide)
      · rw [g.1]; exact z3 j (by omega) (by omega)
    · unfold plN
      rw [ew1, er1, ew, er, t0, t1, t7, y5, y6, z5, z6, z7]
      split <;> omega
    · unfold plS at s2 ⊢
      rw [y6, y7]
      refine ⟨fun q => by omega, fun q => ?_⟩
      by_cases c : M2 10 8 = 0
      · rw [if_pos c]
        refine ⟨by omega, by omega, fun i g1 g2 => ?_⟩
        rw [y2 11 i (by decide) (by omega)]; exact (s2.1 c).2 i g1 g2
      · rw [if_neg c]
        obtain ⟨k1, k2, k3⟩ := s2.2 (by omega)
        refine ⟨by omega, ?_, fun i g1 g2 => ?_⟩
        · rw [y2 11 _ (by decide) (by omega)]; exact k2
        · rw [y2 11 i (by decide) (by omega)]; exact k3 i g1 g2
    · have nm2 : nmS t sz M3 E3 m := by
        unfold nmS at hnm ⊢
        rw [z2 5 m (by decide) (by decide), z2 6 m (by decide) (by decide), e2 5 m (by omega) (by omega), e2 6 m (by omega) (by omega), y2 4 m (by decide) (by omega), x3 4 m (by decide) (by decide)]
        exact hnm
      have rf2 : ∀ (ca cb : Nat) (k v : Int), 5 ≤ ca → ca ≤ 8 → 5 ≤ cb → cb ≤ 8 → rfS t sz M E ca cb m k v → rfS t sz M3 E3 ca cb m k v := fun ca cb k v q1 q2 q3 q4 hh => by
        unfold rfS at hh ⊢
        rw [z2 7 k (by decide) (by decide), z2 8 k (by decide) (by decide), z2 9 k (by decide) (by decide), z2 10 k (by decide) (by decide), e2 7 k (by omega) (by omega), e2 8 k (by omega) (by omega), e2 9 k (by omega) (by omega), e2 10 k (by omega) (by omega), y2 ca m (by omega) (by omega), y2 cb m (by omega) (by omega), x3 ca m (by omega) (by omega), x3 cb m (by omega) (by omega)]
        exact hh
      refine ⟨nm2, ⟨by omega, ?_, ?_⟩, fun q => by omega, fun _ => ⟨?_, ?_, fun q => ?_, fun q => ?_⟩⟩
      · rw [z4 _ (by omega), y9]; exact e129
      · rw [y9, t0, t1, m10, m10]; exact hr2
      · rw [z4 _ (by omega), e2 1 _ (by omega) (by omega)]; exact h9
      · rw [z4 _ (by omega), e2 1 _ (by omega) (by omega), y8]; exact h49
      · rw [z4 _ (by omega), e2 1 _ (by omega) (by omega), y10]; exact h89 (by omega)
      · rw [er, er0]
        obtain ⟨r1, r2⟩ := hrf (by omega)
        exact ⟨rf2 5 6 _ _ (by omega) (by omega) (by omega) (by omega) r1, rf2 7 8 _ _ (by omega) (by omega) (by omega) (by omega) r2⟩
    · rw [z3 21 (by omega) (by omega), e2 0 21 (by omega) (by omega), er1, er, er0, h21]
      split <;> omega
end
