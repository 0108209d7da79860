/-! the laws on both sides, and the calls that use them -/
theorem law2_e {N : Nat} {C D Dx : zMem} (h : Rel N C Dx) (hD : ∀ j : Int, j ≠ 7 → D 1 j = Dx 1 j) (hS : r_S C D) (c : 0 < C 19 8) (hN : 400 ≤ N) (h4 : y_rk C (C 19 6) ≤ 4) :
    ∃ C' E' : zMem, Search_look N C = some (0, C') ∧ Model_triesAll N D = some (0, E') ∧ (∀ c j, (c < 42 ∨ 54 < c ∨ c = 46 ∨ c = 47) → C' c j = C c j) ∧ (∀ c j, c = 1 ∨ c = 3 ∨ c = 4 → E' c j = D c j) ∧ (∀ j : Int, j = 4 ∨ j = 5 ∨ j = 6 → E' 0 j = D 0 j) ∧ r_S C' E' ∧ C' 48 8 = 1 := by
  have hP := Rel_P h c
  obtain ⟨p1, p2, p3, p4, p5, p6⟩ := id hP
  have ts := y_ts p1 p2
  obtain ⟨s1, s2, s3⟩ := id hS
  have pf := h.2.2.1.2.2.2.2.2.1
  have hf : ∀ i : Int, 0 ≤ i → i < C 19 6 → C 21 i = -1 ∨ (0 ≤ C 21 i ∧ C 21 i < C 19 0 * C 19 1) := fun i g1 g2 => (pf i g1 g2).2.2.2.2
  rcases s2 with z | z
  · obtain ⟨R, hB⟩ := r_R_B h c
    have hT : ∀ a, 0 ≤ y_at C R a ∧ y_at C R a ≤ 9000 := fun a => by
      have := Rel_tm_b (w := C 19 2) (q := C 19 3) (a := a) h c hB p3 (by omega)
      exact ⟨this.1, this.2.1⟩
    have hK := y_it_K (C := C) p6.1 h4
    have kb := hK.1
    have hah : ∀ A B, (fun A B => @decide (y_lx (y_it C) (y_rk C (C 19 6)) A B) (Classical.propDecidable _)) A B = true ↔ y_lx (y_it C) (y_rk C (C 19 6)) A B := fun A B => by
      simp
    obtain ⟨C', c1, c2⟩ := Search_look_e hP hN hB.2.1 hB.2.2.1 hT h4 hf z
    obtain ⟨E', B, d1, d2, d3, d4, d5⟩ := Model_triesAll_e (ah := fun A B => @decide (y_lx (y_it C) (y_rk C (C 19 6)) A B) (Classical.propDecidable _)) h hD c hN hB h4 hah hT (by rw [s1]; exact z)
    generalize hLC : lvC (y_it C) (C 19 0 * C 19 1).toNat (y_rk C (C 19 6)).toNat 0 (C 21) (y_f0 C) 1 = LC at c2
    generalize hLR : lvR (y_it C) (C 19 0 * C 19 1).toNat (y_rk C (C 19 6)).toNat 0 (C 21) (y_f0 C) 1 = LR at d2
    have f0b : ∀ a : Int, -1 ≤ y_f0 C a ∧ y_f0 C a < 24 := fun a => by
      have := y_grp_b (a := a) hP
      unfold y_f0; split <;> omega
    have perm : LC.Perm LR := by rw [← hLC, ← hLR]; exact lv_perm _ _ _ _ _ (fun a _ _ => f0b a)
    have ne : LC ≠ [] := by
      rw [← hLC]
      refine lv_ne hP hK _ 0 _ _ 1 (by omega) (by omega) ⟨fun i g1 g2 => ⟨hf i g1 g2, fun q => ⟨y_rk C i, (y_rk_m (C := C) 0 i g1).2, y_rk_lt g1 g2 q, y_it_e ⟨g1, g2⟩ q⟩⟩, fun e g1 g2 => (hK.2.1 e g1 g2).2, fun a g1 g2 => ?_⟩ ⟨fun e g1 g2 => by omega, fun a g1 g2 => ?_⟩ (fun i _ _ _ => rfl)
      · unfold y_f0
        split
        · exact Or.inr rfl
        · exact Or.inl rfl
      · by_cases q : y_f0 C a = -1
        · exact Or.inl ⟨q, Or.inl q⟩
        · exact Or.inr ⟨rfl, q, fun e k1 k2 => by omega⟩
    have sorted : LC.Pairwise (fun x y => y_lx (y_it C) (y_rk C (C 19 6)) x.1 y.1) := by
      rw [← hLC]; exact lv_sorted hK.2.2 _ 0 _ _ 1 (by omega) (by omega)
    have mem : ∀ x ∈ LC, (∀ j : Int, (∀ e : Int, 0 ≤ e → e < y_rk C (C 19 6) → y_it C e ≠ j) → x.1 j = C 21 j) ∧ ∀ e : Int, 0 ≤ e → e < y_rk C (C 19 6) → 0 ≤ x.1 (y_it C e) ∧ x.1 (y_it C e) < C 19 0 * C 19 1 := fun x hx => by
      rw [← hLC] at hx
      have := lv_mem _ _ _ _ _ x (fun e e' g1 g2 g3 g4 => hK.2.2 e e' g1 (by omega) g3 (by omega)) hx
      exact ⟨fun j hj => this.1 j (fun e g1 g2 => hj e g1 (by omega)), fun e g1 g2 => by have := this.2 e g1 (by omega); omega⟩
    have r1 := resC (T := y_at C R) (it := y_it C) (K := y_rk C (C 19 6)) (-1, 0, 0, fun _ => 0) ⟨rfl, rfl⟩ LC [] (-1, 0, 0, fun _ => 0) (Or.inl ⟨rfl, rfl⟩) (by rw [List.nil_append]; exact sorted) (fun x _ => (hT x.1).1)
    have r2 := resR (T := y_at C R) (it := y_it C) (K := y_rk C (C 19 6)) hah (1000000, 0, 0, fun _ => 0) ⟨rfl, rfl⟩ LR [] (1000000, 0, 0, fun _ => 0) (Or.inl ⟨rfl, rfl⟩) (fun x _ => hT x.1)
    rw [List.nil_append] at r1 r2
    have r1' := r1.resolve_left (fun q => ne q.1)
    have r2' := r2.resolve_left (fun q => ne (by have := perm; rw [q.1] at this; exact this.eq_nil))
    obtain ⟨w1, w2, ⟨v0, w3⟩, w4⟩ := y_res_eq perm r1' r2'
    obtain ⟨v2, w5⟩ := r2'.1
    generalize List.foldl (jC (y_at C R)) (-1, 0, 0, fun _ => 0) LC = S1 at *
    generalize List.foldl (jR (y_at C R) fun A B => @decide (y_lx (y_it C) (y_rk C (C 19 6)) A B) (Classical.propDecidable _)) (1000000, 0, 0, fun _ => 0) LR = S2 at *
    obtain ⟨q1, q2, q3, q4, q5, q6, ⟨q7, q8, q9⟩, q10⟩ := c2
    obtain ⟨t1, t2, t3, t4, ⟨t5, t6, t7⟩, t8⟩ := d2
    have m1 := mem _ w3
    have m2 := mem _ (perm.mem_iff.mpr w5)
    have n1 : S1.1 ≠ -1 := fun q => by
      have := r1'.2.1
      have hh := hT S1.2.2.2
      omega
    have n2 : S2.1 ≠ 1000000 := fun q => by
      have := r2'.2.1
      have hh := hT S2.2.2.2
      omega
    refine ⟨C', E', c1, d1, q1, fun c j g => ?_, fun j g => ?_, ⟨?_, Or.inr q2.2, fun _ => ⟨?_, ?_, fun i g1 g2 => ?_⟩⟩, q2.2⟩
    · rw [t1 c j (by omega) (by omega) (by omega) (by omega) (by omega)]; exact d5 c j g
    · rw [t2 j (by omega) (by omega) (by omega)]; exact d4 j g
    · rw [t2 42 (by omega) (by omega) (by omega), d3, q2.2]
    · rw [t6, q8, w1]
    · rw [t7, q9, w2]
    · rw [q1 19 6 (by omega)] at g2
      rw [q1 19 0 (by omega), q1 19 1 (by omega), t8 n2 i g1 g2, q10 n1 i g1 g2]
      by_cases ci : C 21 i = -1
      · have hr := y_rk_lt g1 g2 ci
        have h0 := (y_rk_m (C := C) 0 i g1).2
        have e4 := w4 (y_rk C i) h0 hr
        have b := m1.2 (y_rk C i) h0 hr
        rw [y_it_e ⟨g1, g2⟩ ci] at e4 b
        exact ⟨e4.symm, b⟩
      · have hn : ∀ e : Int, 0 ≤ e → e < y_rk C (C 19 6) → y_it C e ≠ i := fun e k1 k2 q => ci (by rw [← q]; exact (hK.2.1 e k1 k2).2)
        have x1 : S1.2.2.2 i = C 21 i := m1.1 i hn
        have x2 : S2.2.2.2 i = C 21 i := m2.1 i hn
        rw [x1, x2]
        exact ⟨rfl, (hf i g1 g2).resolve_left ci⟩
  · refine ⟨C, D, ?_, ?_, fun _ _ _ => rfl, fun _ _ _ => rfl, fun _ _ => rfl, hS, z⟩
    · unfold Search_look; rw [z_eq_f (by omega)]
    · unfold Model_triesAll; rw [z_eq_f (by omega)]
theorem Model_laysRest_done {N : Nat} {n6 : Int} {E : zMem} (hN : 400 ≤ N) (h6 : 0 ≤ n6 ∧ n6 ≤ 20) (h5 : E 1 5 = n6) (hl : ∀ i : Int, 0 ≤ i → i < n6 → 0 ≤ E 21 i ∧ E 21 i ≤ 48) : Model_laysRest N E = some (0, E) := by
  have key : ∀ (n : Nat) (v : Int), 0 ≤ v → v ≤ n6 → n6 - v < n → Model_laysRest_2 N (fun M1 => some (0, M1)) n v E = some (0, E) := by
    intro n
    induction n with
    | zero => intro v _ _ h; omega
    | succ n ih =>
      intro v h0 h1 hn
      rw [Model_laysRest_2, z_rd_t (by omega), h5]
      by_cases c : v < n6
      · have x := hl v h0 c
        obtain ⟨N', hN'⟩ : ∃ N', N = N' + 1 := ⟨N - 1, by omega⟩
        have e : ∀ K : zMem → zO, Model_laysRest_14 N v K N 0 E = K E := fun K => by
          have : Model_laysRest_14 N v K (N' + 1) 0 E = K E := by
            rw [Model_laysRest_14, z_rd_t (by omega), z_eq_f (by omega)]
          rw [← hN'] at this; exact this
        rw [z_lt_t (by omega), z_jn_e, e, z_nm_e]
        exact ih (v + 1) (by omega) (by omega) (by omega)
      · rw [z_lt_f (by omega)]
  unfold Model_laysRest
  rw [z_jn_e]
  exact key N 0 (by omega) (by omega) (by omega)
theorem Model_laysBy_31_e {N : Nat} {n6 : Int} {E : zMem} {k : zMem → zO} (hN : 400 ≤ N) (h6 : 0 ≤ n6 ∧ n6 ≤ 20) (h5 : E 1 5 = n6) : ∃ E' : zMem, Model_laysBy_31 N k N 0 E = k E' ∧ (∀ c j, c ≠ 21 → E' c j = E c j) ∧ ∀ i : Int, 0 ≤ i → i < n6 → E' 21 i = E 22 i := by
  have key : ∀ (n : Nat) (v : Int) (M : zMem), 0 ≤ v → v ≤ n6 → n6 - v < n → (∀ c j, c ≠ 21 → M c j = E c j) → (∀ i : Int, 0 ≤ i → i < v → M 21 i = E 22 i) → ∃ E' : zMem, Model_laysBy_31 N k n v M = k E' ∧ (∀ c j, c ≠ 21 → E' c j = E c j) ∧ ∀ i : Int, 0 ≤ i → i < n6 → E' 21 i = E 22 i := by
    intro n
    induction n with
    | zero => intro v M _ _ h; omega
    | succ n ih =>
      intro v M h0 h1 hn hM hA
      have m5 : M 1 5 = n6 := by rw [hM 1 5 (by decide)]; exact h5
      have m22 : M 22 v = E 22 v := hM 22 v (by decide)
      rw [Model_laysBy_31]
      by_cases c : v < n6
      · simp (disch := omega) only [z_lt_t, z_lt_f, z_le_t, z_le_f, z_eq_t, z_eq_f, z_rd_t, z_wr_t, z_wz_t, z_pf_e, z_pz_t, z_nm_e, z_jn_e, z_cl_e, z_rz_t, m5, m22]
        refine ih (v + 1) _ (by omega) (by omega) (by omega) (fun c j g => by rw [z_st_c g]; exact hM c j g) (fun i g1 g2 => ?_)
        by_cases e : i = v
        · rw [z_st_i e, e]
        · rw [z_st_n e]; exact hA i g1 (by omega)
      · simp (disch := omega) only [z_lt_t, z_lt_f, z_le_t, z_le_f, z_eq_t, z_eq_f, z_rd_t, z_wr_t, z_wz_t, z_pf_e, z_pz_t, z_nm_e, z_jn_e, z_cl_e, z_rz_t, m5]
        exact ⟨M, rfl, hM, fun i g1 g2 => hA i g1 (by omega)⟩
  exact key N 0 E (by omega) (by omega) (by omega) (fun _ _ _ => rfl) (fun i g1 g2 => by omega)
/-- any law -/
theorem lay_e {N : Nat} {C D Dx : zMem} {ca : Nat} {v : Int} (h : Rel N C Dx) (hD : ∀ j : Int, j ≠ 7 → D 1 j = Dx 1 j) (hS : r_S C D) (c : 0 < C 19 8) (hN : 400 ≤ N) (hca : ca = 57 ∨ ca = 58) (hv : v = 0 ∨ v = 1 ∨ (v = 2 ∧ y_rk C (C 19 6) ≤ 4)) :
    ∃ (M' E' : zMem), Drum_layBy N ca v C = some (0, M') ∧ Model_laysBy N v D = some (0, E') ∧ (∀ c j, (c < 42 ∨ 54 < c ∨ c = 46) → c ≠ ca → M' c j = C c j) ∧ (∀ c j, c = 1 ∨ c = 3 ∨ c = 4 → E' c j = D c j) ∧ (∀ j : Int, j = 4 ∨ j = 5 ∨ j = 6 → E' 0 j = D 0 j) ∧ r_S M' E' ∧ ∀ i : Int, 0 ≤ i → i < C 19 6 → E' 21 i = M' ca i ∧ 0 ≤ M' ca i ∧ M' ca i < C 19 0 * C 19 1 := by
  have hP := Rel_P h c
  obtain ⟨p1, p2, p3, p4, p5, p6⟩ := id hP
  have ts := y_ts p1 p2
  obtain ⟨q0, q1, q2, q3, q4, q5, q6⟩ := h.2.2.1.1
  have pf := h.2.2.1.2.2.2.2.2.1
  rcases hv with rfl | rfl | ⟨rfl, h4⟩
  · obtain ⟨L, M', E', l1, l2, ⟨i1, i2, i3, i4⟩, l4⟩ := law0_e (D := D) hP hN hca (by rw [hD 5 (by decide)]; exact q5) (fun i g1 g2 => by rw [hD _ (by omega)]; exact (pf i g1 g2).2.2.2)
    refine ⟨M', E', l1, l2, fun c j g1 g2 => i1 c j g2 (by omega), fun c j g => i2 c j (by omega), fun j g => i2 0 j (by decide), r_S_same hS (fun c j g => i1 c j (by omega) (by omega)) (fun j g => i2 0 j (by decide)) (fun j => i2 22 j (by decide)), fun i g1 g2 => ?_⟩
    obtain ⟨x1, x2, x3⟩ := i3 i g1 g2
    rw [x1, x2]
    exact ⟨rfl, x3.resolve_left (l4 i g1 g2)⟩
  · obtain ⟨L, M', D2, E', l1, l2, ⟨i1, i2, i3, i4⟩, l4, l5⟩ := law1_e (D := D) (ca := ca) h hD c hN hca
    refine ⟨M', E', l1, l2, fun c j g1 g2 => i1 c j g2 (by omega), fun c j g => ?_, fun j g => ?_, r_S_same hS (fun c j g => i1 c j (by omega) (by omega)) (fun j g => ?_) (fun j => ?_), fun i g1 g2 => ?_⟩
    · rw [i2 c j (by omega)]
      rcases g with rfl | rfl | rfl
      · exact l5 1 j rfl
      · exact l5 3 j rfl
      · exact l5 4 j rfl
    · rw [i2 0 j (by decide)]
      rcases g with rfl | rfl | rfl
      · exact l5 0 4 rfl
      · exact l5 0 5 rfl
      · exact l5 0 6 rfl
    · rw [i2 0 j (by decide)]
      rcases g with rfl | rfl | rfl
      · exact l5 0 42 rfl
      · exact l5 0 44 rfl
      · exact l5 0 45 rfl
    · rw [i2 22 j (by decide)]; exact l5 22 j rfl
    · obtain ⟨x1, x2, x3⟩ := i3 i g1 g2
      rw [x1, x2]
      exact ⟨rfl, x3.resolve_left (l4 i g1 g2)⟩
  · obtain ⟨E0, b1, b2, b3⟩ := Model_laysFixed_e (D := D) hN (by rw [hD 5 (by decide)]; omega)
    obtain ⟨C', E1, c1, c2, c3, c4, c5, c6, c7⟩ := law2_e (D := E0) h (fun j g => by rw [b2 1 j (by decide)]; exact hD j g) (r_S_same hS (fun _ _ _ => rfl) (fun j _ => b2 0 j (by decide)) (fun j => b2 22 j (by decide))) c hN h4
    obtain ⟨x1, x2, x3⟩ := id c6
    obtain ⟨y1, y2, y3⟩ := x3 c7
    have e15 : E1 1 5 = C 19 6 := by rw [c4 1 5 (by omega), b2 1 5 (by decide), hD 5 (by decide)]; exact q5
    have k19 : ∀ j, C' 19 j = C 19 j := fun j => c3 19 j (by omega)
    obtain ⟨E2, f1, f2, f3⟩ := Model_laysBy_31_e (k := fun M6 => z_cl (Model_laysRest N M6) (fun u_1 M4 => some (0, M4))) (n6 := C 19 6) (E := E1) hN (by omega) e15
    have lay : ∀ i : Int, 0 ≤ i → i < C 19 6 → E2 21 i = C' 54 i ∧ 0 ≤ C' 54 i ∧ C' 54 i < C 19 0 * C 19 1 := fun i g1 g2 => by
      have := y3 i g1 (by rw [k19]; exact g2)
      rw [k19, k19] at this
      rw [f3 i g1 g2]; exact this
    have hd := Model_laysRest_done (N := N) (n6 := C 19 6) (E := E2) hN (by omega) (by rw [f2 1 5 (by decide)]; exact e15) (fun i g1 g2 => by have := lay i g1 g2; omega)
    have fr : ∀ c j, c ≠ ca → z_cpm C' 54 0 ca 0 20 c j = C' c j := fun c j g => z_cpm_c g
    refine ⟨z_cpm C' 54 0 ca 0 20, E2, ?_, ?_, fun c j g1 g2 => by rw [fr c j g2]; exact c3 c j (by omega), fun c j g => by rw [f2 c j (by omega), c4 c j g]; exact b2 c j (by omega), fun j g => by rw [f2 0 j (by decide), c5 j g]; exact b2 0 j (by decide), r_S_same c6 (fun c j g => fr c j (by omega)) (fun j _ => f2 0 j (by decide)) (fun j => f2 22 j (by decide)), fun i g1 g2 => ?_⟩
    · unfold Drum_layBy Drum_copyItems
      rw [z_eq_f (by omega), z_eq_f (by omega), c1, z_cl_e, z_cp_t (by omega), z_cl_e]
    · unfold Model_laysBy
      rw [b1]
      simp (disch := omega) only [z_cl_e, z_jn_e, z_eq_f, z_eq_t, c2]
      rw [f1, hd, z_cl_e]
    · rw [z_cpm_i (by omega), show (0 : Int) + (i - 0) = i by omega]; exact lay i g1 g2
