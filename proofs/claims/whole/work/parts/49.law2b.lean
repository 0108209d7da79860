/-! law 2: the reference's start, and both sides at once -/
theorem Model_triesAll_24_e {N : Nat} {C E : zMem} {k : zMem → zO} (hP : y_P C) (hN : 400 ≤ N) (h4 : y_rk C (C 19 6) ≤ 4) (h5 : E 1 5 = C 19 6) (hf : ∀ i : Int, 0 ≤ i → i < C 19 6 → E 1 (129 + i) = C 21 i ∧ z_Rg (C 21 i)) (h51 : E 0 51 = 0) :
    ∃ E' : zMem, Model_triesAll_24 N k N 0 E = k E' ∧ (∀ c j, c ≠ 0 → c ≠ 26 → E' c j = E c j) ∧ (∀ j : Int, j ≠ 51 → E' 0 j = E 0 j) ∧ E' 0 51 = y_rk C (C 19 6) ∧ ∀ i : Int, 0 ≤ i → i < C 19 6 → C 21 i = -1 → E' 26 (y_rk C i) = i := by
  obtain ⟨p1, p2, p3, p4, p5, p6⟩ := id hP
  have key : ∀ (n : Nat) (v : Int) (M : zMem), 0 ≤ v → v ≤ C 19 6 → C 19 6 - v < n → (∀ c j, c ≠ 0 → c ≠ 26 → M c j = E c j) → (∀ j : Int, j ≠ 51 → M 0 j = E 0 j) → M 0 51 = y_rk C v → (∀ i : Int, 0 ≤ i → i < v → C 21 i = -1 → M 26 (y_rk C i) = i) →
      ∃ E' : zMem, Model_triesAll_24 N k n v M = k E' ∧ (∀ c j, c ≠ 0 → c ≠ 26 → E' c j = E c j) ∧ (∀ j : Int, j ≠ 51 → E' 0 j = E 0 j) ∧ E' 0 51 = y_rk C (C 19 6) ∧ ∀ i : Int, 0 ≤ i → i < C 19 6 → C 21 i = -1 → E' 26 (y_rk C i) = i := by
    intro n
    induction n with
    | zero => intro v M _ _ h; omega
    | succ n ih =>
      intro v M h0 h1 hn hM hM0 h51 hA
      have m5 : M 1 5 = C 19 6 := by rw [hM 1 5 (by decide) (by decide)]; exact h5
      rw [Model_triesAll_24, z_rd_t (by omega), m5]
      by_cases c : v < C 19 6
      · have mf : M 1 (129 + v) = C 21 v := by rw [hM 1 _ (by decide) (by decide)]; exact (hf v h0 c).1
        have r0 := (y_rk_m (C := C) 0 v h0).2
        have r1 := y_rk_le (C := C) (show 0 ≤ v + 1 by omega) (show v + 1 ≤ C 19 6 by omega)
        rw [y_rk_s h0] at r1
        rw [z_lt_t (by omega), Model_isFree_e (by omega) (by rw [mf]; exact (hf v h0 c).2), mf, z_cl_e, z_jn_e, z_eq_b]
        by_cases cl : C 21 v = -1
        · rw [if_pos cl] at r1
          have e4 : z_st M 26 (y_rk C v) v 0 51 = y_rk C v := by rw [z_st_c (by decide)]; exact h51
          rw [if_pos cl, h51, z_wr_t (by omega), z_pf_e, e4]
          simp only [z_nm_e]
          refine ih (v + 1) _ (by omega) (by omega) (by omega) (fun c j g1 g2 => by rw [z_st_c g1, z_st_c g2]; exact hM c j g1 g2) (fun j g => by rw [z_st_n g, z_st_c (by decide)]; exact hM0 j g) ?_ (fun i g1 g2 g3 => ?_)
          · rw [z_st_i rfl, y_rk_s h0, if_pos cl]
          · rw [z_st_c (by decide)]
            by_cases e : i = v
            · rw [e, z_st_i rfl]
            · have := y_rk_lt (C := C) g1 (show i < v by omega) g3
              rw [z_st_n (by omega)]; exact hA i g1 (by omega) g3
        · rw [if_neg cl]
          simp only [z_nm_e]
          refine ih (v + 1) M (by omega) (by omega) (by omega) hM hM0 (by rw [h51, y_rk_s h0, if_neg cl, Int.add_zero]) (fun i g1 g2 g3 => ?_)
          by_cases e : i = v
          · rw [e] at g3; exact absurd g3 cl
          · exact hA i g1 (by omega) g3
      · rw [z_lt_f (by omega)]
        have : v = C 19 6 := by omega
        subst this
        exact ⟨M, rfl, hM, hM0, h51, hA⟩
  exact key N 0 E (by omega) (by omega) (by omega) (fun _ _ _ _ => rfl) (fun _ _ => rfl) (by rw [h51]; rfl) (fun i g1 g2 _ => by omega)
theorem Model_triesAll_78_e {N : Nat} {n6 : Int} {E : zMem} {k : zMem → zO} (hN : 400 ≤ N) (h6 : 0 ≤ n6 ∧ n6 ≤ 20) (h5 : E 1 5 = n6) : ∃ E' : zMem, Model_triesAll_78 N k N 0 E = k E' ∧ (∀ c j, c ≠ 20 → E' c j = E c j) ∧ ∀ i : Int, 0 ≤ i → i < n6 → E' 20 i = E 21 i := by
  have key : ∀ (n : Nat) (v : Int) (M : zMem), 0 ≤ v → v ≤ n6 → n6 - v < n → (∀ c j, c ≠ 20 → M c j = E c j) → (∀ i : Int, 0 ≤ i → i < v → M 20 i = E 21 i) → ∃ E' : zMem, Model_triesAll_78 N k n v M = k E' ∧ (∀ c j, c ≠ 20 → E' c j = E c j) ∧ ∀ i : Int, 0 ≤ i → i < n6 → E' 20 i = E 21 i := by
    intro n
    induction n with
    | zero => intro v M _ _ h; omega
    | succ n ih =>
      intro v M h0 h1 hn hM hA
      have m5 : M 1 5 = n6 := by rw [hM 1 5 (by decide)]; exact h5
      have m21 : M 21 v = E 21 v := hM 21 v (by decide)
      rw [Model_triesAll_78]
      by_cases c : v < n6
      · simp (disch := omega) only [z_lt_t, z_lt_f, z_le_t, z_le_f, z_eq_t, z_eq_f, z_rd_t, z_wr_t, z_wz_t, z_pf_e, z_pz_t, z_nm_e, z_jn_e, z_cl_e, z_rz_t, m5, m21]
        refine ih (v + 1) _ (by omega) (by omega) (by omega) (fun c j g => by rw [z_st_c g]; exact hM c j g) (fun i g1 g2 => ?_)
        by_cases e : i = v
        · rw [z_st_i e, e]
        · rw [z_st_n e]; exact hA i g1 (by omega)
      · simp (disch := omega) only [z_lt_t, z_lt_f, z_le_t, z_le_f, z_eq_t, z_eq_f, z_rd_t, z_wr_t, z_wz_t, z_pf_e, z_pz_t, z_nm_e, z_jn_e, z_cl_e, z_rz_t, m5]
        exact ⟨M, rfl, hM, fun i g1 g2 => hA i g1 (by omega)⟩
  exact key N 0 E (by omega) (by omega) (by omega) (fun _ _ _ => rfl) (fun i g1 g2 => by omega)
theorem Model_triesAll_e {N R : Nat} {C D Dx : zMem} {ah : (Int → Int) → (Int → Int) → Bool} (h : Rel N C Dx) (hD : ∀ j : Int, j ≠ 7 → D 1 j = Dx 1 j) (c : 0 < C 19 8) (hN : 400 ≤ N) (hB : r_B N C Dx R) (h4 : y_rk C (C 19 6) ≤ 4) (hah : ∀ A B, ah A B = true ↔ y_lx (y_it C) (y_rk C (C 19 6)) A B) (hT : ∀ a, 0 ≤ y_at C R a ∧ y_at C R a ≤ 9000) (h42 : D 0 42 = 0) :
    ∃ E' B : zMem, Model_triesAll N D = some (0, E') ∧ q_D C B (C 21) (y_f0 C) ((lvR (y_it C) (C 19 0 * C 19 1).toNat (y_rk C (C 19 6)).toNat 0 (C 21) (y_f0 C) 1).foldl (jR (y_at C R) ah) (1000000, 0, 0, fun _ => 0)) E' ∧ B 0 42 = 1 ∧ (∀ j : Int, j = 4 ∨ j = 5 ∨ j = 6 → B 0 j = D 0 j) ∧ (∀ c j, c = 1 ∨ c = 3 ∨ c = 4 → B c j = D c j) := by
  have hP := Rel_P h c
  obtain ⟨p1, p2, p3, p4, p5, p6⟩ := id hP
  have ts := y_ts p1 p2
  obtain ⟨d0, d1, d2, d3, d4, d5, d6⟩ := h.2.2.1.1
  have pf := h.2.2.1.2.2.2.2.2.1
  have dd : ∀ j : Int, j ≠ 7 → D 1 j = Dx 1 j := hD
  have hK := y_it_K (C := C) p6.1 h4
  have kb := hK.1
  obtain ⟨E1, a1, a2, a3, a4, a5, a6⟩ := Model_laysClasses_e (E0 := z_st D 0 42 1) h hP hN (fun j g => by rw [z_st_c (by decide)]; exact dd j g)
  have e1 : ∀ j, E1 1 j = D 1 j := fun j => by rw [a2 1 j (by decide) (by decide) (by decide) (by decide), z_st_c (by decide)]
  -- the picks
  have fr24 : ∀ (k : zMem → zO), ∃ E2 : zMem, Model_triesAll_24 N k N 0 (z_st E1 0 51 0) = k E2 ∧ (∀ c j, c ≠ 0 → c ≠ 26 → E2 c j = E1 c j) ∧ (∀ j : Int, j ≠ 51 → E2 0 j = E1 0 j) ∧ E2 0 51 = y_rk C (C 19 6) ∧ ∀ i : Int, 0 ≤ i → i < C 19 6 → C 21 i = -1 → E2 26 (y_rk C i) = i := fun k => by
    obtain ⟨E2, b1, b2, b3, b4, b5⟩ := Model_triesAll_24_e (k := k) (E := z_st E1 0 51 0) hP hN h4 (by rw [z_st_c (by decide), e1, dd 5 (by decide)]; exact d5) (fun i g1 g2 => by
      have := pf i g1 g2
      rw [z_st_c (by decide), e1, dd _ (by omega)]
      exact ⟨this.2.2.2.1, by have := this.2.2.2.2; omega⟩) (z_st_i rfl)
    exact ⟨E2, b1, fun c j g1 g2 => by rw [b2 c j g1 g2, z_st_c g1], fun j g => by rw [b3 j g, z_st_n g], b4, b5⟩
  obtain ⟨E2, b1, b2, b3, b4, b5⟩ := fr24 (fun (M4 : zMem) => z_cl (Model_takes N M4) (fun u_1 M5 => z_cl (Model_runs N M5) (fun u_2 M6 => z_jn (fun (M7 : zMem) => z_pf M7 0 43 1000000 (fun M8 => z_pf M8 0 44 0 (fun M9 => z_pf M9 0 45 0 (fun M10 => z_cl (Model_tries N 6 0 1 M10) (fun u_3 M11 => some (0, M11)))))) (fun k1 => Model_triesAll_78 N k1 N 0 M6))))
  have e2 : ∀ j, E2 1 j = D 1 j := fun j => by rw [b2 1 j (by decide) (by decide)]; exact e1 j
  obtain ⟨E3, t1, t2, t3, t4, t5, t6⟩ := Model_takes_e (D := E2) hN
  have e3 : ∀ j, E3 1 j = D 1 j := fun j => by rw [t2 1 j (by decide) (by decide)]; exact e2 j
  obtain ⟨E4, s1, o1, o2, o3, o4, o5, o6, o7, o8, o9⟩ := hB.2.2.2.2.2 E3 (fun j k1 k2 k3 => by rw [e3]; exact dd j k3)
  have oc : ∀ c j, c ≠ 0 → (c < 11 ∨ 19 < c) → E4 c j = E3 c j := fun c j g1 g2 => o1 c j g1 (by omega) (by omega) (by omega) (by omega) (by omega) (by omega) (by omega) (by omega)
  have e4 : ∀ j, E4 1 j = D 1 j := fun j => by rw [oc 1 j (by decide) (by omega)]; exact e3 j
  obtain ⟨E5, f1, f2, f3⟩ := Model_triesAll_78_e (k := fun (M7 : zMem) => z_pf M7 0 43 1000000 (fun M8 => z_pf M8 0 44 0 (fun M9 => z_pf M9 0 45 0 (fun M10 => z_cl (Model_tries N 6 0 1 M10) (fun u_3 M11 => some (0, M11)))))) (n6 := C 19 6) (E := E4) hN (by omega) (by rw [e4, dd 5 (by decide)]; exact d5)
  generalize hBm : z_st (z_st (z_st E5 0 43 1000000) 0 44 0) 0 45 0 = B
  have gc : ∀ c j, c ≠ 0 → B c j = E5 c j := fun c j g => by rw [← hBm, z_st_c g, z_st_c g, z_st_c g]
  have g0 : ∀ j : Int, j ≠ 43 → j ≠ 44 → j ≠ 45 → B 0 j = E5 0 j := fun j g1 g2 g3 => by rw [← hBm, z_st_n g3, z_st_n g2, z_st_n g1]
  have big : ∀ c j, 21 ≤ c → c ≠ 26 → B c j = E1 c j := fun c j g1 g2 => by
    rw [gc c j (by omega), f2 c j (by omega), oc c j (by omega) (by omega), t2 c j (by omega) (by omega), b2 c j (by omega) g2]
  have m26 : ∀ j, B 26 j = E2 26 j := fun j => by rw [gc 26 j (by decide), f2 26 j (by decide), oc 26 j (by decide) (by omega), t2 26 j (by decide) (by decide)]
  have small : ∀ j : Int, j ≠ 43 → j ≠ 44 → j ≠ 45 → j ≠ 27 → j ≠ 28 → j ≠ 33 → j ≠ 34 → j ≠ 35 → j ≠ 39 → j ≠ 40 → B 0 j = E2 0 j := fun j g1 g2 g3 g4 g5 g6 g7 g8 g9 g10 => by
    rw [g0 j g1 g2 g3, f2 0 j (by decide), o2 j g4 g5 g6 g7 g8, t3 j g9 g10]
  have hQ : q_B N R C Dx (y_it C) (y_rk C (C 19 6)) B := by
    refine ⟨fun j k1 k2 k3 => ?_, ?_, fun k hk => ?_, ⟨?_, ?_⟩, ?_, fun e k1 k2 => ?_, fun a k1 k2 => ?_⟩
    · rw [gc 1 j (by decide), f2 1 j (by decide), e4]; exact dd j k3
    · obtain ⟨m1, m2, m3, m4, m5⟩ := o3
      refine ⟨by rw [g0 27 (by decide) (by decide) (by decide), f2 0 27 (by decide)]; exact m1, m2, m3, by rw [g0 28 (by decide) (by decide) (by decide), f2 0 28 (by decide)]; exact m4, fun k hk => ?_⟩
      rw [gc 11 k (by decide), f2 11 k (by decide), gc 12 k (by decide), f2 12 k (by decide)]
      exact m5 k hk
    · rw [gc 11 k (by decide), f2 11 k (by decide)]; exact o4 k hk
    · rw [g0 39 (by decide) (by decide) (by decide), f2 0 39 (by decide), o2 39 (by decide) (by decide) (by decide) (by decide) (by decide), t4, e2, dd 2 (by decide)]; exact d2
    · rw [g0 40 (by decide) (by decide) (by decide), f2 0 40 (by decide), o2 40 (by decide) (by decide) (by decide) (by decide) (by decide), t5, e2, dd 3 (by decide)]; exact d3
    · rw [small 51 (by decide) (by decide) (by decide) (by decide) (by decide) (by decide) (by decide) (by decide) (by decide) (by decide)]; exact b4
    · obtain ⟨i, i1, i2, i3, i4⟩ := y_rk_ex (C := C) (e := e) (C 19 6).toNat k1 (by rw [show (((C 19 6).toNat : Nat) : Int) = C 19 6 by omega]; exact k2)
      rw [m26, ← i4, b5 i i1 (by omega) i3, y_it_e (by omega) i3]
    · rw [big 23 a (by omega) (by omega)]; exact a5 a k1 k2
  have hq : q_D C B (C 21) (y_f0 C) (1000000, 0, 0, fun _ => 0) B := by
    refine ⟨fun _ _ _ _ _ _ _ => rfl, fun _ _ _ _ => rfl, fun i k1 k2 _ => ?_, fun g k1 k2 => ?_, ⟨?_, ?_, ?_⟩, fun q => absurd rfl q⟩
    · rw [gc 20 i (by decide), f3 i k1 k2, oc 21 i (by decide) (by omega), t2 21 i (by decide) (by decide), b2 21 i (by decide) (by decide)]; exact a4 i k1 k2
    · rw [big 24 g (by omega) (by omega)]; exact a6 g k1 k2
    · rw [← hBm, z_st_n (by decide), z_st_n (by decide), z_st_i rfl]
    · rw [← hBm, z_st_n (by decide), z_st_i rfl]
    · rw [← hBm, z_st_i rfl]
  have hf : ∀ i : Int, 0 ≤ i → i < C 19 6 → C 21 i = -1 ∨ (0 ≤ C 21 i ∧ C 21 i < C 19 0 * C 19 1) := fun i g1 g2 => (pf i g1 g2).2.2.2.2
  have hNd : q_N C (y_it C) (y_rk C (C 19 6)) 0 (C 21) (y_f0 C) := by
    refine ⟨fun i g1 g2 => ⟨hf i g1 g2, fun q => ⟨y_rk C i, (y_rk_m (C := C) 0 i g1).2, y_rk_lt g1 g2 q, y_it_e ⟨g1, g2⟩ q⟩⟩, fun e g1 g2 => (hK.2.1 e g1 g2).2, fun a g1 g2 => ?_⟩
    unfold y_f0
    split
    · exact Or.inr rfl
    · exact Or.inl rfl
  have hFd : q_F C (y_it C) 0 (C 21) (y_f0 C) := by
    refine ⟨fun e g1 g2 => by omega, fun a g1 g2 => ?_⟩
    by_cases q : y_f0 C a = -1
    · exact Or.inl ⟨q, Or.inl q⟩
    · exact Or.inr ⟨rfl, q, fun e k1 k2 => by omega⟩
  obtain ⟨E', r1, r2, r3⟩ := q_treeR h c hN hB hK hQ hah hT (y_rk C (C 19 6)).toNat 6 0 (C 21) (y_f0 C) 1 (1000000, 0, 0, fun _ => 0) B (by omega) (by omega) (by omega) hNd hFd hq ⟨⟨by decide, by decide⟩, by decide, by decide⟩ (fun q => absurd rfl q)
  refine ⟨E', B, ?_, r2, ?_, fun j g => ?_, fun c j g => ?_⟩
  · unfold Model_triesAll
    rw [z_eq_t (by omega), z_pz_t (by omega), a1, z_cl_e, z_pf_e, z_jn_e, b1, t1, z_cl_e, s1, z_cl_e, z_jn_e, f1, z_pf_e, z_pf_e, z_pf_e, hBm, r1, z_cl_e]
  · rw [small 42 (by decide) (by decide) (by decide) (by decide) (by decide) (by decide) (by decide) (by decide) (by decide) (by decide), b3 42 (by decide), a3 42 (by decide), z_st_i rfl]
  · rw [small j (by omega) (by omega) (by omega) (by omega) (by omega) (by omega) (by omega) (by omega) (by omega) (by omega), b3 j (by omega), a3 j (by omega), z_st_n (by omega)]
  · rw [gc c j (by omega), f2 c j (by omega), oc c j (by omega) (by omega), t2 c j (by omega) (by omega), b2 c j (by omega) (by omega), a2 c j (by omega) (by omega) (by omega) (by omega), z_st_c (by omega)]
