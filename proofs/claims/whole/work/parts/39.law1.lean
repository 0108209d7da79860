/-! law 1, and both laws at once -/
def y_ls1 (C : zMem) (t a : Int) : Int := (a - t) % y_turn (C 19 1) (C 19 0) (C 19 3) a
theorem y_ls1_b {C : zMem} {t a : Int} (hP : y_P C) : 0 ≤ y_ls1 C t a ∧ y_ls1 C t a < 12 := by
  obtain ⟨p1, p2, p3, p4, p5, p6⟩ := id hP
  have hb := y_turn_b (T := C 19 0) (q := C 19 3) (a := a) p2 (by omega)
  unfold y_ls1
  generalize y_turn (C 19 1) (C 19 0) (C 19 3) a = m at hb ⊢
  have e1 := Int.emod_nonneg (a - t) (show m ≠ 0 by omega)
  have e2 := Int.emod_lt_of_pos (a - t) (show 0 < m by omega)
  omega
theorem Clock_lostAt_e {C M : zMem} {t a : Int} (hP : y_P C) (hM : ∀ j, M 19 j = C 19 j) (ht : 0 ≤ t ∧ t ≤ 1000000) (ha : 0 ≤ a ∧ a ≤ 48) : Clock_lostAt t a M = some (y_ls1 C t a, M) := by
  obtain ⟨p1, p2, p3, p4, p5, p6⟩ := id hP
  have hb := y_turn_b (T := C 19 0) (q := C 19 3) (a := a) p2 (by omega)
  have hPM : y_P M := by unfold y_P; rw [hM, hM, hM, hM, hM, hM]; exact hP
  unfold Clock_lostAt
  rw [Clock_turnAt_e hPM (by omega) (by rw [hM]; omega), hM, hM, hM]
  unfold y_ls1
  generalize y_turn (C 19 1) (C 19 0) (C 19 3) a = m at hb ⊢
  have e1 := Int.emod_nonneg a (show m ≠ 0 by omega)
  have e2 := Int.emod_lt_of_pos a (show 0 < m by omega)
  rw [z_cl_e, z_lt_t (by omega), z_mt_t (by omega), Clock_lostFrom_e ht (by omega) ⟨e1, e2⟩, z_cl_e, y_emod_sub]
theorem law1_soon {N : Nat} {C D M E : zMem} {ca : Nat} {L : Int → Int} {t i v2 : Int} {k k' : Int → zMem → zO} (hP : y_P C) (hN : 400 ≤ N) (hca : ca = 57 ∨ ca = 58) (h5 : D 1 5 = C 19 6) (hMP : y_MP D) (hMQ : y_MQ D) (hq : D 0 40 = C 19 3) (h10 : D 1 0 = C 19 0) (h11 : D 1 1 = C 19 1) (hI : v_I C D ca L M E) (ht : 0 ≤ t ∧ t ≤ 1000000) (hi : 0 ≤ i ∧ i < C 19 6) (hL : L i = -1) :
    ∀ (n : Nat) (a b bl : Int), 0 ≤ a → a ≤ C 19 0 * C 19 1 → C 19 0 * C 19 1 - a < n → ((b = -1 ∧ bl = 12) ∨ ((0 ≤ b ∧ b < C 19 0 * C 19 1) ∧ bl = y_ls1 C t b ∧ ¬ y_tk L (C 19 6) b)) →
      ∃ b' : Int, Laws_soonest_8 N t k n b bl a M = k b' M ∧ Model_laysSoon_53 N v2 t i k' n b a E = k' b' E ∧ ((b' = -1 ∧ b = -1 ∧ ∀ x : Int, a ≤ x → x < C 19 0 * C 19 1 → y_tk L (C 19 6) x) ∨ ((0 ≤ b' ∧ b' < C 19 0 * C 19 1) ∧ ¬ y_tk L (C 19 6) b')) := by
  obtain ⟨p1, p2, p3, p4, p5, p6⟩ := id hP
  have ts := y_ts p1 p2
  have m19 : ∀ j, M 19 j = C 19 j := fun j => hI.1 19 j (by omega) (by decide)
  have hEP : y_MP E := by unfold y_MP; rw [hI.2.1 1 0 (by decide), hI.2.1 1 1 (by decide), hI.2.1 1 4 (by decide)]; exact hMP
  have hEQ : y_MQ E := by unfold y_MQ; rw [hI.2.1 0 39 (by decide), hI.2.1 0 40 (by decide), hI.2.1 1 1 (by decide)]; exact hMQ
  have e0 : E 1 0 = C 19 0 := by rw [hI.2.1 1 0 (by decide)]; exact h10
  have e1 : E 1 1 = C 19 1 := by rw [hI.2.1 1 1 (by decide)]; exact h11
  have e40 : E 0 40 = C 19 3 := by rw [hI.2.1 0 40 (by decide)]; exact hq
  have ei : E 21 i = -1 := by rw [(hI.2.2.1 i hi.1 hi.2).2.1]; exact hL
  have wh : ∀ a : Int, 0 ≤ a → a < C 19 0 * C 19 1 → Model_whenAt a t E = some (t + y_ls1 C t a, E) := fun a g1 g2 => by
    rw [Model_whenAt_e hEP hEQ (by rw [e0, e1]; exact ⟨g1, g2⟩) ht, e0, e1, e40]; rfl
  intro n
  induction n with
  | zero => intro a b bl _ _ h; omega
  | succ n ih =>
    intro a b bl h0 h1 hn hb
    rw [Laws_soonest_8, Model_laysSoon_53, Model_many_e, e0, e1]
    unfold Plan_addresses
    rw [m19, m19, z_cl_e, z_cl_e]
    by_cases c : a < C 19 0 * C 19 1
    · have la := y_ls1_b (t := t) (a := a) hP
      have lb := y_ls1_b (t := t) (a := b) hP
      have tkb := v_I_b hI h0 c
      obtain ⟨t1, t2⟩ := v_I_taken (a := a) hN hI h5 (by omega) (by omega) (by omega)
      rw [Clock_lostAt_e hP m19 ht (by omega)]
      simp (disch := omega) only [z_lt_t, z_cl_e, z_rd_t, z_jn_e, ei, z_eq_t]
      by_cases ck : y_tk L (C 19 6) a
      · have m47 := (hI.2.2.2 a h0 c).1 ck
        rw [t1 ck, m47]
        simp (disch := omega) only [z_lt_t, z_lt_f, z_le_t, z_le_f, z_eq_t, z_eq_f, z_rd_t, z_wr_t, z_wz_t, z_pf_e, z_pz_t, z_nm_e, z_jn_e, z_cl_e, z_rz_t]
        obtain ⟨b', r1, r2, r3⟩ := ih (a + 1) b bl (by omega) (by omega) (by omega) hb
        refine ⟨b', r1, r2, ?_⟩
        rcases r3 with ⟨x1, x2, x3⟩ | x
        · refine Or.inl ⟨x1, x2, fun x g1 g2 => ?_⟩
          by_cases e : x = a
          · rw [e]; exact ck
          · exact x3 x (by omega) g2
        · exact Or.inr x
      · have m47 := (hI.2.2.2 a h0 c).2 ck
        have hnew : ∃ b' : Int, Laws_soonest_8 N t k n a (y_ls1 C t a) (a + 1) M = k b' M ∧ Model_laysSoon_53 N v2 t i k' n a (a + 1) E = k' b' E ∧ ((b' = -1 ∧ b = -1 ∧ ∀ x : Int, a ≤ x → x < C 19 0 * C 19 1 → y_tk L (C 19 6) x) ∨ ((0 ≤ b' ∧ b' < C 19 0 * C 19 1) ∧ ¬ y_tk L (C 19 6) b')) := by
          obtain ⟨b', r1, r2, r3⟩ := ih (a + 1) a (y_ls1 C t a) (by omega) (by omega) (by omega) (Or.inr ⟨⟨h0, c⟩, rfl, ck⟩)
          refine ⟨b', r1, r2, Or.inr ?_⟩
          rcases r3 with ⟨x1, x2, x3⟩ | x
          · omega
          · exact x
        rw [t2 ck, m47]
        rcases hb with ⟨b1, b2⟩ | ⟨b1, b2, b3⟩
        · simp (disch := omega) only [z_lt_t, z_lt_f, z_le_t, z_le_f, z_eq_t, z_eq_f, z_rd_t, z_wr_t, z_wz_t, z_pf_e, z_pz_t, z_nm_e, z_jn_e, z_cl_e, z_rz_t]
          exact hnew
        · by_cases cl : y_ls1 C t a < bl
          · simp (disch := omega) only [z_lt_t, z_lt_f, z_le_t, z_le_f, z_eq_t, z_eq_f, z_rd_t, z_wr_t, z_wz_t, z_pf_e, z_pz_t, z_nm_e, z_jn_e, z_cl_e, z_rz_t, wh a h0 c, wh b b1.1 b1.2]
            exact hnew
          · simp (disch := omega) only [z_lt_t, z_lt_f, z_le_t, z_le_f, z_eq_t, z_eq_f, z_rd_t, z_wr_t, z_wz_t, z_pf_e, z_pz_t, z_nm_e, z_jn_e, z_cl_e, z_rz_t, wh a h0 c, wh b b1.1 b1.2]
            obtain ⟨b', r1, r2, r3⟩ := ih (a + 1) b bl (by omega) (by omega) (by omega) (Or.inr ⟨b1, b2, b3⟩)
            refine ⟨b', r1, r2, ?_⟩
            rcases r3 with ⟨x1, x2, x3⟩ | x
            · omega
            · exact Or.inr x
    · rw [z_lt_f (by omega), z_lt_f (by omega)]
      refine ⟨b, rfl, rfl, ?_⟩
      rcases hb with ⟨b1, b2⟩ | ⟨b1, b2, b3⟩
      · exact Or.inl ⟨b1, b1, fun x g1 g2 => by omega⟩
      · exact Or.inr ⟨b1, b3⟩
theorem law1_loop {N R : Nat} {C D : zMem} {ca : Nat} {k k' : zMem → zO} (hP : y_P C) (hN : 400 ≤ N) (hca : ca = 57 ∨ ca = 58) (h5 : D 1 5 = C 19 6) (hMP : y_MP D) (hMQ : y_MQ D) (hq : D 0 40 = C 19 3) (hw : D 0 39 = C 19 2) (h10 : D 1 0 = C 19 0) (h11 : D 1 1 = C 19 1) (h14 : D 1 4 = C 19 4) (hTR : y_TR C R) (hMR : y_MR D R (C 36)) (h11k : ∀ k : Nat, k < R → D 11 k = C 35 k) :
    ∀ (n j : Nat) (t v1 : Int) (L : Int → Int) (M E : zMem), v_I C D ca L M E → j ≤ R → R - j < n → (0 ≤ t ∧ t ≤ 40 * j) → (j < R → v1 + y_wt (C 19 2) (C 19 4) (y_gap (C 36) j) = t) →
      ∃ (L' : Int → Int) (M' E' : zMem), Laws_laySoonest_9 N ca k n t j M = k M' ∧ Model_laysSoon_12 N k' n v1 j E = k' E' ∧ v_I C D ca L' M' E' := by
  obtain ⟨p1, p2, p3, p4, p5, p6⟩ := id hP
  have ts := y_ts p1 p2
  obtain ⟨r1, r2, r3⟩ := id hTR
  obtain ⟨m1, m2, m3, m4, m5⟩ := id hMR
  intro n
  induction n with
  | zero => intro j t v1 L M E _ _ h; omega
  | succ n ih =>
    intro j t v1 L M E hI hj hn ht hv
    have e27 : E 0 27 = R := by rw [hI.2.1 0 27 (by decide)]; exact m1
    have m28 : M 28 10 = R := by rw [hI.1 28 10 (by omega) (by decide)]; exact r1
    rw [Laws_laySoonest_9, Model_laysSoon_12, e27, m28]
    by_cases c : j < R
    · have m19 : ∀ j, M 19 j = C 19 j := fun j => hI.1 19 j (by omega) (by decide)
      have m35 : M 35 j = C 35 j := hI.1 35 _ (by omega) (by decide)
      have e12 : E 12 j = y_gap (C 36) j := by rw [hI.2.1 12 _ (by decide)]; exact (m5 j c).2.1
      have e11 : E 11 j = C 35 j := by rw [hI.2.1 11 _ (by decide)]; exact h11k j c
      obtain ⟨x1, x2⟩ := r3 j c
      obtain ⟨l1, l2, l3⟩ := hI.2.2.1 (C 35 j) x1.1 x1.2
      have e39 : E 0 39 = C 19 2 := by rw [hI.2.1 0 39 (by decide)]; exact hw
      have e14 : E 1 4 = C 19 4 := by rw [hI.2.1 1 4 (by decide)]; exact h14
      have wd := Model_waited_e (D := E) (g := y_gap (C 36) j) y_gap_b
      rw [e39, e14] at wd
      have hv' := hv c
      have gs : y_wt (C 19 2) (C 19 4) (y_gap (C 36) (j + 1)) = 1 + (if C 36 j = 0 then C 19 2 else 0) + (if C 36 j = 2 then C 19 4 else 0) := by
        have : y_gap (C 36) (j + 1) = (if C 36 j = 0 then 1 else if C 36 j = 1 then 2 else 3) := by
          unfold y_gap
          rcases x2 with e | e | e <;> simp [e]
        rw [this]
        unfold y_wt
        rcases x2 with e | e | e <;> simp [e]
      have tail : ∀ (a : Int) (L' : Int → Int) (M' E' : zMem), 0 ≤ a → a < C 19 0 * C 19 1 → v_I C D ca L' M' E' → L' (C 35 j) = a →
          ∃ (L'' : Int → Int) (M'' E'' : zMem), (z_rd M' 36 200 j (fun x2 => z_rd M' ca 20 (C 35 j) (fun x3 => z_cl (Clock_lostAt t x3 M') (fun r_ M2 => z_nm (t + (r_ + 1)) (fun v2_ => z_jn (fun (x4 x5 : Int) (M3 : zMem) => z_nm (x5 + x4) (fun v2_1 => z_jn (fun (x6 x7 : Int) (M4 : zMem) => z_nm (x7 + x6) (fun v2_2 => z_nm ((j : Int) + 1) (fun v3_ => Laws_laySoonest_9 N ca k n v2_2 v3_ M4))) (fun k3 => z_eq x2 2 (k3 (M3 19 4) v2_1 M3) (k3 0 v2_1 M3)))) (fun k2 => z_eq x2 0 (k2 (M2 19 2) v2_ M2) (k2 0 v2_ M2))))))) = k M'' ∧
            z_cl (Model_whenAt a t E') (fun r_1 M4 => z_nm ((j : Int) + 1) (fun v2_ => Model_laysSoon_12 N k' n r_1 v2_ M4)) = k' E'' ∧ v_I C D ca L'' M'' E'' := by
        intro a L' M' E' a1 a2 hI' hLa
        have n19 : ∀ j, M' 19 j = C 19 j := fun j => hI'.1 19 j (by omega) (by decide)
        have n36 : M' 36 j = C 36 j := hI'.1 36 _ (by omega) (by decide)
        have nca : M' ca (C 35 j) = a := by rw [(hI'.2.2.1 _ x1.1 x1.2).1]; exact hLa
        have hEP : y_MP E' := by unfold y_MP; rw [hI'.2.1 1 0 (by decide), hI'.2.1 1 1 (by decide), hI'.2.1 1 4 (by decide)]; exact hMP
        have hEQ : y_MQ E' := by unfold y_MQ; rw [hI'.2.1 0 39 (by decide), hI'.2.1 0 40 (by decide), hI'.2.1 1 1 (by decide)]; exact hMQ
        have e0 : E' 1 0 = C 19 0 := by rw [hI'.2.1 1 0 (by decide)]; exact h10
        have e1 : E' 1 1 = C 19 1 := by rw [hI'.2.1 1 1 (by decide)]; exact h11
        have e40 : E' 0 40 = C 19 3 := by rw [hI'.2.1 0 40 (by decide)]; exact hq
        have wh : Model_whenAt a t E' = some (t + y_ls1 C t a, E') := by
          rw [Model_whenAt_e hEP hEQ (by rw [e0, e1]; exact ⟨a1, a2⟩) (by omega), e0, e1, e40]; rfl
        have lb := y_ls1_b (t := t) (a := a) hP
        have ec : (j : Int) + 1 = ((j + 1 : Nat) : Int) := by omega
        have lo := Clock_lostAt_e (M := M') (t := t) (a := a) hP n19 (by omega) (by omega)
        have h36 : M' 36 j = 0 ∨ M' 36 j = 1 ∨ M' 36 j = 2 := by rw [n36]; exact x2
        rw [wh, z_cl_e, z_nm_e, ec]
        rcases x2 with e | e | e
        · rw [e] at n36
          simp (disch := omega) only [z_lt_t, z_lt_f, z_le_t, z_le_f, z_eq_t, z_eq_f, z_rd_t, z_wr_t, z_wz_t, z_pf_e, z_pz_t, z_nm_e, z_jn_e, z_cl_e, z_rz_t, nca, lo, n36, n19]
          rw [e] at gs; simp at gs
          exact ih (j + 1) _ _ L' M' E' hI' (by omega) (by omega) (by omega) (fun _ => by rw [gs]; omega)
        · rw [e] at n36
          simp (disch := omega) only [z_lt_t, z_lt_f, z_le_t, z_le_f, z_eq_t, z_eq_f, z_rd_t, z_wr_t, z_wz_t, z_pf_e, z_pz_t, z_nm_e, z_jn_e, z_cl_e, z_rz_t, nca, lo, n36, n19]
          rw [e] at gs; simp at gs
          exact ih (j + 1) _ _ L' M' E' hI' (by omega) (by omega) (by omega) (fun _ => by rw [gs]; omega)
        · rw [e] at n36
          simp (disch := omega) only [z_lt_t, z_lt_f, z_le_t, z_le_f, z_eq_t, z_eq_f, z_rd_t, z_wr_t, z_wz_t, z_pf_e, z_pz_t, z_nm_e, z_jn_e, z_cl_e, z_rz_t, nca, lo, n36, n19]
          rw [e] at gs; simp at gs
          exact ih (j + 1) _ _ L' M' E' hI' (by omega) (by omega) (by omega) (fun _ => by rw [gs]; omega)
      rw [z_lt_t (by omega), z_lt_t (by omega), z_rd_t (c := 35) (by omega), m35, z_rd_t (c := ca) (by omega), l1, z_jn_e, z_rd_t (c := 12) (by omega), e12, wd, z_cl_e, z_nm_e, hv', z_rd_t (c := 11) (by omega), e11, z_rd_t (c := 21) (by omega), l2, z_jn_e]
      by_cases cl : L (C 35 j) = -1
      · obtain ⟨a, a1, a2, a3⟩ := y_free_ex (f := L) (m := C 19 0 * C 19 1) x1 cl (by omega)
        obtain ⟨b, s1, s2, s3⟩ := law1_soon (v2 := j) (i := C 35 j) (t := t) (k := fun (v2_ : Int) (M1 : zMem) => some (v2_, M1)) (k' := fun (v5_ : Int) (M2 : zMem) => z_wr M2 21 20 (C 35 j) v5_ (fun M3 => z_cl (Model_whenAt v5_ t M3) (fun r_1 M4 => z_nm ((j : Int) + 1) (fun v2_ => Model_laysSoon_12 N k' n r_1 v2_ M4)))) hP hN hca h5 hMP hMQ hq h10 h11 hI (by omega) x1 cl N 0 (-1) 12 (by omega) (by omega) (by omega) (Or.inl ⟨rfl, rfl⟩)
        have hb : (0 ≤ b ∧ b < C 19 0 * C 19 1) ∧ ¬ y_tk L (C 19 6) b := by
          rcases s3 with ⟨y1, y2, y3⟩ | y
          · exact absurd (y3 a a1 a2) a3
          · exact y
        obtain ⟨M', l1, l2⟩ := v_lay (N := N) (a := b) hP hca hI x1 cl hb.1
        have so : Laws_soonest N t M = some (b, M) := by unfold Laws_soonest; rw [z_jn_e]; exact s1
        rw [cl, s2, z_eq_t (by omega), so, z_cl_e, l1, z_cl_e, z_wr_t (by omega)]
        exact tail b _ M' _ hb.1.1 hb.1.2 (l2 _ (fun c j g => z_st_c g) (fun j g => z_st_n g) (z_st_i rfl)) (by show (if C 35 j = C 35 j then b else L (C 35 j)) = b; rw [if_pos rfl])
      · obtain ⟨N', hN'⟩ : ∃ N', N = N' + 1 := ⟨N - 1, by omega⟩
        have e0 : E 1 0 = C 19 0 := by rw [hI.2.1 1 0 (by decide)]; exact h10
        have e1 : E 1 1 = C 19 1 := by rw [hI.2.1 1 1 (by decide)]; exact h11
        have e : ∀ K : Int → zMem → zO, Model_laysSoon_53 N j t (C 35 j) K N (L (C 35 j)) 0 E = K (L (C 35 j)) E := fun K => by
          have : Model_laysSoon_53 N j t (C 35 j) K (N' + 1) (L (C 35 j)) 0 E = K (L (C 35 j)) E := by
            rw [Model_laysSoon_53, Model_many_e, e0, e1, z_cl_e, z_lt_t (by omega), z_rd_t (by omega), l2, z_eq_f (by omega)]
          rw [← hN'] at this; exact this
        have hs : z_st E 21 (C 35 j) (L (C 35 j)) = E := funext fun c => funext fun i => by
          by_cases c1 : c = 21
          · subst c1
            by_cases c2 : i = C 35 j
            · rw [z_st_i c2, c2, l2]
            · exact z_st_n c2
          · exact z_st_c c1
        rw [z_eq_f (by omega), e, z_wr_t (by omega), hs]
        exact tail _ L M E (by omega) (by omega) hI rfl
    · rw [z_lt_f (by omega), z_lt_f (by omega)]
      exact ⟨L, M, E, rfl, rfl, hI⟩
/-- law 0, of any memory that holds a plan -/
theorem law0_e {N : Nat} {C D : zMem} {ca : Nat} (hP : y_P C) (hN : 400 ≤ N) (hca : ca = 57 ∨ ca = 58) (h5 : D 1 5 = C 19 6) (hf : ∀ i : Int, 0 ≤ i → i < C 19 6 → D 1 (129 + i) = C 21 i ∧ (C 21 i = -1 ∨ (0 ≤ C 21 i ∧ C 21 i < C 19 0 * C 19 1))) :
    ∃ (L : Int → Int) (M' E' : zMem), Drum_layBy N ca 0 C = some (0, M') ∧ Model_laysBy N 0 D = some (0, E') ∧ v_I C D ca L M' E' ∧ ∀ i : Int, 0 ≤ i → i < C 19 6 → L i ≠ -1 := by
  obtain ⟨p1, p2, p3, p4, p5, p6⟩ := id hP
  obtain ⟨M1, a1, a2⟩ := Laws_layFixed_e hP hN hca (fun i g1 g2 => (hf i g1 g2).2)
  obtain ⟨E1, b1, b2, b3⟩ := Model_laysFixed_e (D := D) hN (by omega)
  have hI := a2 E1 D b2 (fun i g1 g2 => by rw [b3 i g1 (by omega)]; exact (hf i g1 g2).1)
  obtain ⟨L, M', E', r1, r2, r3, r4⟩ := law_rest (k := fun (M1 : zMem) => some (0, M1)) (k' := fun (M1 : zMem) => some (0, M1)) hP hN hca h5 N 0 (C 21) M1 E1 hI (by omega) (by omega) (by omega) (fun i g1 g2 => by omega)
  refine ⟨L, M', E', ?_, ?_, r3, r4⟩
  · unfold Drum_layBy Laws_layInOrder Laws_layRest
    rw [z_eq_t (by omega), a1, z_cl_e, z_jn_e, r1, z_cl_e, z_cl_e]
  · unfold Model_laysBy Model_laysRest
    rw [b1]
    simp (disch := omega) only [z_cl_e, z_jn_e, z_eq_f, r2]
/-- law 1 -/
theorem law1_e {N : Nat} {C D Dx : zMem} {ca : Nat} (h : Rel N C Dx) (hD : ∀ j : Int, j ≠ 7 → D 1 j = Dx 1 j) (c : 0 < C 19 8) (hN : 400 ≤ N) (hca : ca = 57 ∨ ca = 58) :
    ∃ (L : Int → Int) (M' D2 E' : zMem), Drum_layBy N ca 1 C = some (0, M') ∧ Model_laysBy N 1 D = some (0, E') ∧ v_I C D2 ca L M' E' ∧ (∀ i : Int, 0 ≤ i → i < C 19 6 → L i ≠ -1) ∧ ∀ c j, relD c j = true → D2 c j = D c j := by
  have hP := Rel_P h c
  obtain ⟨p1, p2, p3, p4, p5, p6⟩ := id hP
  obtain ⟨q0, q1, q2, q3, q4, q5, q6⟩ := h.2.2.1.1
  have pf := h.2.2.1.2.2.2.2.2.1
  obtain ⟨n1, n2, n3, n4⟩ := Rel_n h
  have d1 : ∀ j : Int, j ≠ 7 → D 1 j = Dx 1 j := hD
  obtain ⟨R, hB⟩ := r_R_B h c
  obtain ⟨g1, g2, g3, g4, g5, g6⟩ := id hB
  obtain ⟨M1, a1, a2⟩ := Laws_layFixed_e hP hN hca (fun i g1 g2 => (pf i g1 g2).2.2.2.2)
  obtain ⟨E1, b1, b2, b3⟩ := Model_laysFixed_e (D := D) hN (by rw [d1 5 (by decide)]; omega)
  obtain ⟨E2, t1, t2, t3, t4, t5, t6⟩ := Model_takes_e (D := E1) hN
  obtain ⟨E3, s1, o1, o2, o3, o4, o5, o6, o7, o8, o9⟩ := g6 E2 (fun j k1 k2 k3 => by rw [t2 1 j (by decide) (by decide), b2 1 j (by decide)]; exact d1 j k3)
  have k1 : ∀ j, E3 1 j = D 1 j := fun j => by rw [o1 1 j (by decide) (by decide) (by decide) (by decide) (by decide) (by decide) (by decide) (by decide) (by decide), t2 1 j (by decide) (by decide)]; exact b2 1 j (by decide)
  have k21 : ∀ j, E3 21 j = E1 21 j := fun j => by rw [o1 21 j (by decide) (by decide) (by decide) (by decide) (by decide) (by decide) (by decide) (by decide) (by decide)]; exact t2 21 j (by decide) (by decide)
  have k39 : E3 0 39 = C 19 2 := by rw [o2 39 (by decide) (by decide) (by decide) (by decide) (by decide), t4, b2 1 2 (by decide), d1 2 (by decide)]; exact q2
  have k40 : E3 0 40 = C 19 3 := by rw [o2 40 (by decide) (by decide) (by decide) (by decide) (by decide), t5, b2 1 3 (by decide), d1 3 (by decide)]; exact q3
  have e5 : E3 1 5 = C 19 6 := by rw [k1, d1 5 (by decide)]; exact q5
  have e0 : E3 1 0 = C 19 0 := by rw [k1, d1 0 (by decide)]; exact q0
  have e1 : E3 1 1 = C 19 1 := by rw [k1, d1 1 (by decide)]; exact q1
  have e4 : E3 1 4 = C 19 4 := by rw [k1, d1 4 (by decide)]; exact q4
  have hMP : y_MP E3 := by unfold y_MP; rw [e0, e1, e4]; exact ⟨p1, p2, p5⟩
  have hMQ : y_MQ E3 := by unfold y_MQ; rw [k39, k40, e1]; exact ⟨p3, p4⟩
  have hI := a2 E3 E3 (fun _ _ _ => rfl) (fun i g1 g2 => by rw [k21, b3 i g1 (by rw [d1 5 (by decide)]; omega), d1 _ (by omega)]; exact (pf i g1 g2).2.2.2.1)
  obtain ⟨L1, M2, E4, l1, l2, l3⟩ := law1_loop (k := fun (M2 : zMem) => z_cl (Laws_layRest N ca M2) (fun u_1 M3 => some (0, M3))) (k' := fun (M3 : zMem) => some (0, M3)) hP hN hca e5 hMP hMQ k40 k39 e0 e1 e4 g2 o3 o4 N 0 0 0 (C 21) M1 E3 hI (by omega) (by have := g2.2.1; omega) (by omega) (fun _ => rfl)
  obtain ⟨L, M', E', r1, r2, r3, r4⟩ := law_rest (k := fun (M1 : zMem) => some (0, M1)) (k' := fun (M1 : zMem) => some (0, M1)) hP hN hca e5 N 0 L1 M2 E4 l3 (by omega) (by omega) (by omega) (fun i g1 g2 => by omega)
  refine ⟨L, M', E3, E', ?_, ?_, r3, r4, fun c j hr => ?_⟩
  · unfold Drum_layBy Laws_laySoonest
    rw [z_eq_f (by omega), z_eq_t (by omega), a1, z_cl_e, z_jn_e]
    have l1' : Laws_laySoonest_9 N ca (fun (M2 : zMem) => z_cl (Laws_layRest N ca M2) (fun u_1 M3 => some (0, M3))) N 0 0 M1 = z_cl (Laws_layRest N ca M2) (fun u_1 M3 => some (0, M3)) := l1
    rw [l1']
    unfold Laws_layRest
    rw [z_jn_e, r1, z_cl_e, z_cl_e]
  · have hr : Model_hasRun E1 = some (1, E1) := by
      have := Model_hasRun_e (M := E1) (by rw [b2 1 6 (by decide), d1 6 (by decide)]; have := h.2.2.1.2.1; omega) (by rw [b2 1 8 (by decide), d1 8 (by decide)]; have := h.2.2.1.2.2.2.2.2.2.1; omega)
      rw [this, b2 1 6 (by decide), b2 1 8 (by decide), d1 6 (by decide), d1 8 (by decide), q6, if_pos (h.2.2.1.2.2.2.2.2.2.2.mpr c)]
    have l2' : Model_laysSoon_12 N (fun (M3 : zMem) => some (0, M3)) N 0 0 E3 = some (0, E4) := l2
    unfold Model_laysBy Model_laysSoon Model_laysRest
    rw [b1]
    simp (disch := omega) only [z_cl_e, z_jn_e, z_eq_f, z_eq_t, hr, t1, s1, l2', r2]
  · unfold relD at hr; simp at hr
    by_cases hc : c = 0
    · subst hc
      rw [o2 j (by omega) (by omega) (by omega) (by omega) (by omega), t3 j (by omega) (by omega)]
      exact b2 0 j (by decide)
    · rw [o1 c j hc (by omega) (by omega) (by omega) (by omega) (by omega) (by omega) (by omega) (by omega), t2 c j hc (by omega)]
      exact b2 c j (by omega)
