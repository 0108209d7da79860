/-! reading: from the first line on -/
section
variable {t : Int → Int} {sz b : Int} {w N : Nat} {M E : zMem}
theorem first_j {k k' : zMem → zO} (hN : 1000 ≤ N) (h : gd t sz b w M E) (hM : ∀ j : Int, 0 ≤ j → j ≤ 8 → M 10 j = 0) (h9 : M 10 9 = -1) (hE : ∀ j : Int, 0 ≤ j → j ≤ 8 → E 1 j = 0) (h0 : E 0 21 = 0 ∧ E 0 22 = 0 ∧ E 0 23 = 0) :
    tO t sz M E k k' (Reader_readText_23 N k N 0 M) (Model_drum_75 N k' N E) ∨ (Reader_readText_23 N k N 0 M = k M ∧ Model_drum_75 N k' N E = k' E) := by
  obtain ⟨n, e⟩ : ∃ n, N = n + 1 + 1 := ⟨N - 2, by omega⟩
  obtain ⟨g1, g2⟩ := goesOn_e h
  have g12 := h.2.1.2.2
  have rg := tk_r h.2.2
  have c1 := lC_e (N := N) (M := M) (k := k) (n := n + 1) (v2 := 0)
  have c2 := lE_e (N := N) (E := E) (k := k') (n := n + 1)
  rw [← e] at c1 c2
  rw [c1, c2, z_le_t (by omega), g1, z_cl_e, z_eq_t (x := E 0 12) (by omega)]
  by_cases c : M 9 1 = 0
  · rw [if_pos c, z_eq_t (by omega), z_eq_t (by omega)]
    exact Or.inr ⟨rfl, rfl⟩
  · left
    rw [if_neg c, z_eq_f (x := (1 : Int)) (by omega), z_eq_t (x := (0 : Int)) (by omega), z_eq_f (x := E 0 9) (by omega), z_rd_t (by omega), hE 6 (by omega) (by omega), z_eq_t (by omega)]
    obtain ⟨M1, E1, x1, x2, x3, x4, x5⟩ := drum_j hN h
    rw [x1, x2, z_cl_e, z_cl_e]
    have m5 : ∀ j : Int, 5 ≤ j → j ≤ 8 → M1 10 j = 0 := fun j q1 q2 => by rw [x3.2 j q1]; exact hM j (by omega) q2
    have m9 : M1 10 9 = -1 := by rw [x3.2 9 (by omega)]; exact h9
    have e5 : ∀ j : Int, 5 ≤ j → j ≤ 8 → E1 1 j = 0 := fun j q1 q2 => by rw [x4 1 j (by omega) (by omega)]; exact hE j (by omega) q2
    have e0 : ∀ j : Int, 14 < j → E1 0 j = E 0 j := fun j q => x4 0 j (by omega) (by omega)
    have f1 : fP M M1 := fun c j g => x3.1 c j (by omega) (by omega) (by omega)
    have f2 : rI E E1 := fun c j g => x4 c j (by omega) (by omega)
    refine tO_t f1 f2 ?_
    have h6 := m5 6 (by omega) (by omega)
    rcases x5 with hb | ⟨b1, w1, g1, q0, q1, q2, q3, q4⟩
    · exact line_end hN (by omega) (by omega) (Or.inl hb)
    · refine line_end hN (by omega) (by omega) (Or.inr ⟨⟨b1, w1, g1⟩, fun M2 E2 b' w' k1 k2 k3 => ?_⟩)
      have ts := y_ts q0.2 q1.2
      have p1 : plI t sz M1 E1 0 := by
        refine ⟨⟨q0, q1, q2, q3, q4⟩, ?_, ?_, fun i g1 g2 => by omega⟩
        · unfold plN
          rw [m5 6 (by omega) (by omega), m5 7 (by omega) (by omega), m5 8 (by omega) (by omega), e5 5 (by omega) (by omega), e0 22 (by omega), e0 23 (by omega), show wkD M1 0 = 0 from rfl, show rkD M1 0 = 0 from rfl]
          omega
        · unfold plS
          rw [m5 8 (by omega) (by omega), m9]
          exact ⟨fun _ => ⟨rfl, fun i g1 g2 => by omega⟩, fun q => by omega⟩
      have p2 := plI_a p1 k2 k3
      have p3 : plI t sz (z_st M2 10 5 (M2 10 5 + 1)) (z_st E2 1 6 (E2 1 6 + 1)) 0 := plI_g p2 (fun c j q => by
        by_cases e : c = 10
        · subst e; exact z_st_n (by omega)
        · exact z_st_c e) (fun c j q => by
        by_cases e : c = 1
        · subst e; exact z_st_n (by omega)
        · exact z_st_c e)
      exact lines_j hN 21 (n + 1) (n + 1) 0 _ _ b' w' (by omega) (by omega) (by omega) (by omega) (gd_10 k1) p3 (by rw [z_st_c (by decide), k3 0 21 (by omega), e0 21 (by omega)]; exact h0.1) (by rw [z_st_i rfl, k3 1 6 (by omega), e5 6 (by omega) (by omega)]) (by rw [z_st_i rfl, k2 10 5 (by decide) (by decide), m5 5 (by omega) (by omega)])
end
