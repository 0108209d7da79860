/-! drum: the text is read on both sides -/
def dR (N : Nat) (M11 : zMem) : zO := z_pf M11 0 4 0 (fun M12 => z_pf M12 0 5 (M12 0 13) (fun M13 => z_pf M13 0 6 (M13 0 14) (fun M14 => z_eq (M14 0 12) 0 (z_wr M14 1 169 8 (-1) (fun M15 => z_rd M15 1 169 5 (fun x0 => z_nm (x0 - 1) (fun v1_ => z_jn (fun (M16 : zMem) => z_pz M16 0 42 0 (fun M17 => z_cl (Model_laysBy N 0 M17) (fun u_2 M18 => z_cl (Model_takesLaid N M18) (fun u_3 M19 => z_rd M19 1 169 6 (fun x1 => some (x1, M19)))))) (fun k2 => Model_drum_238 N k2 N v1_ M15))))) (z_jn (fun (M20 : zMem) => z_cl (Model_wordsOf N M20) (fun r_ M21 => z_pf M21 0 22 r_ (fun M22 => some ((-4), M22)))) (fun k3 => Model_drum_183 N k3 N 0 M14)))))
def dQ (N : Nat) (M10 : zMem) : zO := z_cl (Model_resolves N M10) (fun u_1 M11 => dR N M11)
theorem dR_e {N : Nat} {D : zMem} : Model_drum N D = Model_drum_2 N (fun (M1 : zMem) => z_pf M1 0 7 0 (fun M2 => z_pz M2 0 12 0 (fun M3 => z_pf M3 0 13 0 (fun M4 => z_pf M4 0 14 (-1) (fun M5 => z_pf M5 0 21 0 (fun M6 => z_pf M6 0 22 0 (fun M7 => z_pf M7 0 23 0 (fun M8 => z_cl (Model_next N M8) (fun u_ M9 => Model_drum_75 N (fun (M10 : zMem) => dQ N M10) N M9))))))))) N 0 D := rfl
theorem drum2_e {N : Nat} {k : zMem → zO} : ∀ (d n : Nat) (v : Int) (M : zMem), 0 ≤ v → v + d = 169 → d < n → ∃ M' : zMem, Model_drum_2 N k n v M = k M' ∧ (∀ j : Int, v ≤ j → j < 169 → M' 1 j = 0 ∧ M' 2 j = M 1 j) ∧ (∀ j : Int, j < v → M' 1 j = M 1 j ∧ M' 2 j = M 2 j) ∧ ∀ c j, c ≠ 1 → c ≠ 2 → M' c j = M c j := by
  intro d
  induction d with
  | zero =>
    intro n v M h0 hd hn
    obtain ⟨n, rfl⟩ : ∃ x, n = x + 1 := ⟨n - 1, by omega⟩
    rw [Model_drum_2, z_lt_f (by omega)]
    exact ⟨M, rfl, fun j g1 g2 => by omega, fun j g => ⟨rfl, rfl⟩, fun _ _ _ _ => rfl⟩
  | succ d ih =>
    intro n v M h0 hd hn
    obtain ⟨n, rfl⟩ : ∃ x, n = x + 1 := ⟨n - 1, by omega⟩
    rw [Model_drum_2, z_lt_t (by omega), z_rd_t (by omega), z_wr_t (by omega), z_wr_t (by omega), z_nm_e]
    obtain ⟨M', x1, x2, x3, x4⟩ := ih n (v + 1) (z_st (z_st M 2 v (M 1 v)) 1 v 0) (by omega) (by omega) (by omega)
    refine ⟨M', x1, fun j g1 g2 => ?_, fun j g => ?_, fun c j g1 g2 => ?_⟩
    · by_cases e : j = v
      · obtain ⟨y1, y2⟩ := x3 j (by omega)
        rw [y1, y2, z_st_i e, z_st_c (by decide), z_st_i e, e]
        exact ⟨rfl, rfl⟩
      · obtain ⟨y1, y2⟩ := x2 j (by omega) g2
        rw [y1, y2, z_st_n e, z_st_c (by decide)]
        exact ⟨rfl, rfl⟩
    · obtain ⟨y1, y2⟩ := x3 j (by omega)
      rw [y1, y2, z_st_n (by omega), z_st_c (by decide), z_st_c (by decide), z_st_n (by omega)]
      exact ⟨rfl, rfl⟩
    · rw [x4 c j g1 g2, z_st_c g1, z_st_c g2]
theorem drum183_e {N : Nat} {k : zMem → zO} : ∀ (d n : Nat) (v : Int) (M : zMem), 0 ≤ v → v + d = 169 → d < n → ∃ M' : zMem, Model_drum_183 N k n v M = k M' ∧ (∀ j : Int, v ≤ j → j < 169 → M' 1 j = M 2 j) ∧ (∀ j : Int, j < v → M' 1 j = M 1 j) ∧ ∀ c j, c ≠ 1 → M' c j = M c j := by
  intro d
  induction d with
  | zero =>
    intro n v M h0 hd hn
    obtain ⟨n, rfl⟩ : ∃ x, n = x + 1 := ⟨n - 1, by omega⟩
    rw [Model_drum_183, z_lt_f (by omega)]
    exact ⟨M, rfl, fun j g1 g2 => by omega, fun j g => rfl, fun _ _ _ => rfl⟩
  | succ d ih =>
    intro n v M h0 hd hn
    obtain ⟨n, rfl⟩ : ∃ x, n = x + 1 := ⟨n - 1, by omega⟩
    rw [Model_drum_183, z_lt_t (by omega), z_rd_t (by omega), z_wr_t (by omega), z_nm_e]
    obtain ⟨M', x1, x2, x3, x4⟩ := ih n (v + 1) (z_st M 1 v (M 2 v)) (by omega) (by omega) (by omega)
    refine ⟨M', x1, fun j g1 g2 => ?_, fun j g => ?_, fun c j g1 => ?_⟩
    · by_cases e : j = v
      · rw [x3 j (by omega), z_st_i e, e]
      · rw [x2 j (by omega) g2, z_st_c (by decide)]
    · rw [x3 j (by omega), z_st_n (by omega)]
    · rw [x4 c j g1, z_st_c g1]
theorem clear_e {M : zMem} : ∃ M' : zMem, Plan_clear M = some (0, M') ∧ (∀ j : Int, 0 ≤ j → j ≤ 8 → M' 10 j = 0) ∧ M' 10 9 = -1 ∧ ∀ c j, c ≠ 10 → M' c j = M c j := by
  unfold Plan_clear
  simp only [z_pf_e]
  refine ⟨_, rfl, fun j g1 g2 => ?_, z_st_i rfl, fun c j g => ?_⟩
  · have : j = 0 ∨ j = 1 ∨ j = 2 ∨ j = 3 ∨ j = 4 ∨ j = 5 ∨ j = 6 ∨ j = 7 ∨ j = 8 := by omega
    rcases this with q | q | q | q | q | q | q | q | q <;> subst q <;> simp (disch := omega) only [z_st_c, z_st_i, z_st_n]
  · simp (disch := omega) only [z_st_c, z_st_i, z_st_n]
/-- what the reading comes to -/
def rdO (M' E' : zMem) : Prop := ((1 ≤ M' 3 6 ∧ M' 3 6 ≤ 4) ∧ E' 0 12 = 1 ∧ E' 0 13 = M' 3 6 ∧ E' 0 14 = M' 3 7) ∨
  ((M' 3 6 = 0 ∧ M' 3 7 = -1 ∧ E' 0 12 = 0 ∧ E' 0 13 = 0 ∧ E' 0 14 = -1) ∧ E' 1 7 = 0 ∧ (((∀ j : Int, 0 ≤ j → j ≤ 8 → M' 10 j = 0) ∧ M' 10 9 = -1 ∧ ∀ j : Int, 0 ≤ j → j < 169 → E' 1 j = 0) ∨ ∃ (t : Int → Int) (sz m : Int), plI t sz M' E' m ∧ lkI M' E' m m ∧ E' 1 6 = m + 1 ∧ M' 10 5 = m + 1))
theorem read_j {N : Nat} {C D : zMem} (hN : 1000 ≤ N) (hT : r_T C D) (hv : z_Rg (C 9 3) ∧ z_Rg (C 9 4)) :
    ∃ M' E' : zMem, Reader_readText N C = some (0, M') ∧ Model_drum N D = dR N E' ∧ fP C M' ∧ (∀ j : Int, 0 ≤ j → j < 169 → E' 2 j = D 1 j) ∧ (∀ c j, (c = 3 ∨ c = 4 ∨ 10 < c ∨ (c = 0 ∧ (j < 7 ∨ 23 < j))) → E' c j = D c j) ∧ rdO M' E' := by
  obtain ⟨hT1, hT2, hT3⟩ := hT
  rw [dR_e]
  obtain ⟨E1, a1, a2, -, a3⟩ := drum2_e (N := N) (k := fun (M1 : zMem) => z_pf M1 0 7 0 (fun M2 => z_pz M2 0 12 0 (fun M3 => z_pf M3 0 13 0 (fun M4 => z_pf M4 0 14 (-1) (fun M5 => z_pf M5 0 21 0 (fun M6 => z_pf M6 0 22 0 (fun M7 => z_pf M7 0 23 0 (fun M8 => z_cl (Model_next N M8) (fun u_ M9 => Model_drum_75 N (fun (M10 : zMem) => dQ N M10) N M9))))))))) 169 N 0 D (by omega) (by omega) (by omega)
  rw [a1, z_pf_e, z_pz_t (by omega), z_pf_e, z_pf_e, z_pf_e, z_pf_e, z_pf_e]
  clear a1
  obtain ⟨E2, hE2⟩ : ∃ E2, E2 = z_st (z_st (z_st (z_st (z_st (z_st (z_st E1 0 7 0) 0 12 0) 0 13 0) 0 14 (-1)) 0 21 0) 0 22 0) 0 23 0 := ⟨_, rfl⟩
  rw [← hE2]
  have eC : ∀ c j, c ≠ 0 → E2 c j = E1 c j := fun c j g => by rw [hE2, z_st_c g, z_st_c g, z_st_c g, z_st_c g, z_st_c g, z_st_c g, z_st_c g]
  have e0 : ∀ j : Int, j ≠ 7 → j ≠ 12 → j ≠ 13 → j ≠ 14 → j ≠ 21 → j ≠ 22 → j ≠ 23 → E2 0 j = D 0 j := fun j g1 g2 g3 g4 g5 g6 g7 => by rw [hE2, z_st_n g7, z_st_n g6, z_st_n g5, z_st_n g4, z_st_n g3, z_st_n g2, z_st_n g1, a3 0 j (by decide) (by decide)]
  have e7 : E2 0 7 = 0 := by rw [hE2]; simp (disch := omega) only [z_st_c, z_st_i, z_st_n]
  have e12 : E2 0 12 = 0 := by rw [hE2]; simp (disch := omega) only [z_st_c, z_st_i, z_st_n]
  have e13 : E2 0 13 = 0 := by rw [hE2]; simp (disch := omega) only [z_st_c, z_st_i, z_st_n]
  have e14 : E2 0 14 = -1 := by rw [hE2]; simp (disch := omega) only [z_st_c, z_st_i, z_st_n]
  have e21 : E2 0 21 = 0 := by rw [hE2]; simp (disch := omega) only [z_st_c, z_st_i, z_st_n]
  have e22 : E2 0 22 = 0 := by rw [hE2]; simp (disch := omega) only [z_st_c, z_st_i, z_st_n]
  have e23 : E2 0 23 = 0 := by rw [hE2]; simp (disch := omega) only [z_st_c, z_st_i, z_st_n]
  clear hE2
  unfold Reader_readText
  rw [z_pf_e, z_pf_e]
  obtain ⟨M3, b1, b2, b3, b4⟩ := clear_e (M := z_st (z_st C 3 6 0) 3 7 (-1))
  rw [b1, z_cl_e]
  have m36 : M3 3 6 = 0 := by rw [b4 3 6 (by decide), z_st_n (by decide), z_st_i rfl]
  have m37 : M3 3 7 = -1 := by rw [b4 3 7 (by decide), z_st_i rfl]
  have mC : ∀ c j, c ≠ 3 → c ≠ 10 → M3 c j = C c j := fun c j g1 g2 => by rw [b4 c j g2, z_st_c g1, z_st_c g1]
  obtain ⟨M4, hM4⟩ : ∃ M4, M4 = z_st M3 9 5 0 := ⟨_, rfl⟩
  have m4C : ∀ c j, c ≠ 9 → M4 c j = M3 c j := fun c j g => by rw [hM4, z_st_c g]
  have hT4 : tt_T (C 2) (C 1 1) M4 E2 := by
    refine ⟨⟨?_, ?_, hT2⟩, fun j g1 g2 => ?_⟩
    · rw [m4C 1 1 (by decide), mC 1 1 (by decide) (by decide)]
    · rw [e0 4 (by decide) (by decide) (by decide) (by decide) (by decide) (by decide) (by decide), hT1]
    · obtain ⟨q1, q2⟩ := hT3 j g1 g2
      rw [m4C 2 j (by decide), mC 2 j (by decide) (by decide), eC 4 j (by decide), a3 4 j (by decide) (by decide)]
      exact ⟨rfl, q1, q2⟩
  obtain ⟨b, w, M5, E5, c1, c2, c3, c4, c5, c6⟩ := adv_j (N := N) (i := 0) hN hT4 (by rw [hM4, z_st_n (by decide), z_st_n (by decide), mC 9 3 (by decide) (by decide), mC 9 4 (by decide) (by decide)]; exact hv) (by rw [hM4, z_st_i rfl]) e7 (by omega)
  have beg : Tokens_begin N M3 = some (0, M5) := by
    unfold Tokens_begin
    rw [z_pf_e, ← hM4, c1, z_cl_e]
  rw [beg, z_cl_e, c2, z_cl_e]
  have m5 : ∀ c j, c ≠ 9 → M5 c j = M3 c j := fun c j g => by rw [c5.1 c j g, m4C c j g]
  have hg : gd (C 2) (C 1 1) b w M5 E5 := by
    refine ⟨c3, ⟨⟨?_, ?_, ?_, ?_, ?_⟩, ?_, ?_⟩, c4⟩
    · exact c5.2
    · rw [c6 0 21 (by omega)]; omega
    · rw [m5 3 7 (by decide)]; exact m37
    · rw [c6 0 13 (by omega)]; exact e13
    · rw [c6 0 14 (by omega)]; exact e14
    · rw [m5 3 6 (by decide)]; exact m36
    · rw [c6 0 12 (by omega)]; exact e12
  have z10 : ∀ j : Int, 0 ≤ j → j ≤ 8 → M5 10 j = 0 := fun j q1 q2 => by rw [m5 10 j (by decide)]; exact b2 j q1 q2
  have z109 : M5 10 9 = -1 := by rw [m5 10 9 (by decide)]; exact b3
  have z1 : ∀ j : Int, 0 ≤ j → j < 169 → E5 1 j = 0 := fun j q1 q2 => by rw [c6 1 j (by omega), eC 1 j (by decide)]; exact (a2 j q1 q2).1
  have f0 : fP C M5 := fun c j g => by rw [m5 c j (by omega), mC c j (by omega) (by omega)]
  have f1 : ∀ j : Int, 0 ≤ j → j < 169 → E5 2 j = D 1 j := fun j q1 q2 => by rw [c6 2 j (by omega), eC 2 j (by decide)]; exact (a2 j q1 q2).2
  have f2 : ∀ c j, (c = 3 ∨ c = 4 ∨ 10 < c ∨ (c = 0 ∧ (j < 7 ∨ 23 < j))) → E5 c j = D c j := fun c j g => by
    rw [c6 c j (by omega)]
    by_cases q : c = 0
    · subst q; exact e0 j (by omega) (by omega) (by omega) (by omega) (by omega) (by omega) (by omega)
    · rw [eC c j q, a3 c j (by omega) (by omega)]
  have key := first_j (k := fun (M5 : zMem) => z_jn (fun (M6 : zMem) => some (0, M6)) (fun k1 => Reader_readText_95 N k1 N 0 M5)) (k' := fun (M10 : zMem) => dQ N M10) hN hg z10 z109 (fun j q1 q2 => z1 j q1 (by omega)) (by rw [c6 0 21 (by omega), c6 0 22 (by omega), c6 0 23 (by omega)]; exact ⟨e21, e22, e23⟩)
  rw [z_jn_e]
  obtain ⟨n, hn⟩ : ∃ n, N = n + 1 := ⟨N - 1, by omega⟩
  have fE : ∀ E' : zMem, rI E5 E' → (∀ j : Int, 0 ≤ j → j < 169 → E' 2 j = D 1 j) ∧ (∀ c j, (c = 3 ∨ c = 4 ∨ 10 < c ∨ (c = 0 ∧ (j < 7 ∨ 23 < j))) → E' c j = D c j) ∧ E' 1 7 = 0 := fun E' h => ⟨fun j q1 q2 => by rw [h 2 j (by omega)]; exact f1 j q1 q2, fun c j g => by rw [h c j (by omega)]; exact f2 c j g, by rw [h 1 7 (by omega)]; exact z1 7 (by omega) (by omega)⟩
  rcases key with ⟨M', E', x1, x2, x3, x4, x5⟩ | ⟨x1, x2⟩
  · rw [x1, x2]
    simp only [z_jn_e]
    unfold dQ Model_resolves
    rw [z_jn_e]
    rcases x5 with ⟨hb, hr⟩ | ⟨b', w', m, g1, g2, g3, g4, g5⟩
    · have r1 := lB95 (N := N) (k := fun (M6 : zMem) => some (0, M6)) (n := n) (i := 0) (M := M') (by omega) hr hb.1.2.1
      have r2 := lBres (N := N) (k := fun (M6 : zMem) => some (0, M6)) (n := n) (i := 0) (E := E') (by omega) hb.2.2.2.2.2.2.2 hb.2.1
      rw [← hn] at r1 r2
      rw [r1, r2, z_cl_e]
      obtain ⟨y1, y2, y3⟩ := fE E' x4
      exact ⟨M', E', rfl, rfl, fP_t f0 x3, y1, y2, Or.inl ⟨hb.1.2.1, hb.2.1, hb.2.2.1, hb.2.2.2.1⟩⟩
    · have rr := plI_r g2
      obtain ⟨M2, E3, y1, y2, y3, y4, y5⟩ := link_j (N := N) (k := fun (M6 : zMem) => some (0, M6)) (k' := fun (M1 : zMem) => some (0, M1)) hN m.toNat N N 0 M' E' (by omega) (by omega) (by omega) (by omega) g1.1 g1.2.1.2.1 g1.2.1.2.2 g3 g2 (fun x q1 q2 => by omega)
      rw [show 2 * rkD M' 0 = 0 from rfl] at y2
      rw [y1, y2, z_cl_e]
      obtain ⟨z1, z2, z3⟩ := fE E3 (rI_t x4 y4)
      refine ⟨M2, E3, rfl, rfl, fP_t f0 (fP_t x3 y3), z1, z2, ?_⟩
      rcases y5 with hb | ⟨k1, k2, k3⟩
      · exact Or.inl hb
      · refine Or.inr ⟨⟨?_, ?_, ?_, ?_, ?_⟩, z3, Or.inr ⟨_, _, m, plI_k g2 k1 k2, k3, ?_, ?_⟩⟩
        · rw [k1 3 6 (by decide) (by decide)]; exact g1.2.1.2.1
        · rw [k1 3 7 (by decide) (by decide)]; exact g1.2.1.1.2.2.1
        · rw [k2 0 12 (by omega)]; exact g1.2.1.2.2
        · rw [k2 0 13 (by omega)]; exact g1.2.1.1.2.2.2.1
        · rw [k2 0 14 (by omega)]; exact g1.2.1.1.2.2.2.2
        · rw [k2 1 6 (by omega)]; exact g4
        · rw [k1 10 5 (by decide) (by decide)]; exact g5
  · rw [x1, x2]
    simp only [z_jn_e]
    unfold dQ Model_resolves
    have h6 := z10 6 (by omega) (by omega)
    have h21 : E5 0 21 = 0 := by rw [c6 0 21 (by omega)]; exact e21
    have r1 : Reader_readText_95 N (fun (M6 : zMem) => some (0, M6)) N 0 M5 = some (0, M5) := by
      have : Reader_readText_95 N (fun (M6 : zMem) => some (0, M6)) (n + 1) 0 M5 = some (0, M5) := by rw [Reader_readText_95, z_lt_f (by omega)]
      rw [← hn] at this; exact this
    have r2 : Model_resolves_2 N (fun (M6 : zMem) => some (0, M6)) N 0 E5 = some (0, E5) := by
      have : Model_resolves_2 N (fun (M6 : zMem) => some (0, M6)) (n + 1) 0 E5 = some (0, E5) := by rw [Model_resolves_2, z_lt_f (by omega)]
      rw [← hn] at this; exact this
    rw [z_jn_e, r1, r2, z_cl_e]
    exact ⟨M5, E5, rfl, rfl, f0, f1, f2, Or.inr ⟨⟨hg.2.1.2.1, hg.2.1.1.2.2.1, hg.2.1.2.2, hg.2.1.1.2.2.2.1, hg.2.1.1.2.2.2.2⟩, z1 7 (by omega) (by omega), Or.inl ⟨z10, z109, z1⟩⟩⟩
