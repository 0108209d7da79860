/-! the run: all steps -/
theorem run_loop {C D : zMem} {N : Nat} (hN : 400 ≤ N) (hR : p_R C (D 1)) {K K' : zMem → zO} :
    ∀ (d k R : Nat) (v st : Int) (M E : zMem) (n n' : Nat), k + d = 100 → 0 < d → d + 1 < n → d + 1 < n' → u_I C D k R v M E → (0 ≤ st ∧ st < C 19 6) → C 20 st ≠ -1 → M 28 2 = 2 → E 0 35 = 0 →
      ∃ (k' R' : Nat) (v' : Int) (M' E' : zMem), Trace_perform_58 N K n st k M = K M' ∧ Model_runs_74 N K' n' st v E = K' E' ∧ u_I C D k' R' v' M' E' ∧ (1 ≤ k' ∧ k' ≤ 100) ∧ E' 0 35 = M' 28 2 := by
  obtain ⟨r1, r2, r3, r4, r5⟩ := id hR
  intro d
  induction d with
  | zero => intro k R v st M E n n' _ h; omega
  | succ d ih =>
    intro k R v st M E n n' hk _ hn hn' hI hst ho h2 h35
    obtain ⟨m, em⟩ : ∃ m, n = m + 1 := ⟨n - 1, by omega⟩
    obtain ⟨m', em'⟩ : ∃ m', n' = m' + 1 := ⟨n' - 1, by omega⟩
    subst em em'
    have c19 : M 19 6 = C 19 6 := hI.1 19 6 (by omega)
    have ops : ∀ i : Int, 0 ≤ i → i < C 19 6 → z_Rg (C 20 i) := fun i g1 g2 => by have := (r3 i g1 g2).1; omega
    have stp : ∀ (s : Int) (X : zMem), (∀ j, X 19 j = C 19 j) → (∀ j, X 20 j = C 20 j) → z_Rg s → Plan_isStep 19 s X = some (if (0 ≤ s ∧ s < C 19 6) ∧ C 20 s ≠ -1 then 1 else 0, X) := fun s X x1 x2 hs => by
      rw [Plan_isStep_e hs (by rw [x1]; omega) (fun g1 g2 => by rw [x1] at g2; show z_Rg (X 20 s); rw [x2]; exact ops s g1 g2)]
      show some (if (0 ≤ s ∧ s < X 19 6) ∧ X 20 s ≠ -1 then 1 else 0, X) = _
      rw [x1, x2]
    obtain ⟨nxt, nx', v', R', M', E', t1, t2, t3, t4, t5⟩ := step_e hN hI hR (by omega) hst ho h2 h35
    have m19 : ∀ j, M' 19 j = C 19 j := fun j => t3.1 19 j (by omega)
    have m20 : ∀ j, M' 20 j = C 20 j := fun j => t3.1 20 j (by omega)
    have ec : (k : Int) + 1 = ((k + 1 : Nat) : Int) := by omega
    rw [Trace_perform_58, z_lt_t (by omega), stp st M (fun j => hI.1 19 j (by omega)) (fun j => hI.1 20 j (by omega)) (by omega), if_pos ⟨hst, ho⟩, z_cl_e, z_eq_f (by omega), t1, z_cl_e, z_nm_e, t2]
    by_cases c7 : C 20 st = 7
    · obtain ⟨x1, x2, x3⟩ := t4 c7
      obtain ⟨q, eq⟩ : ∃ q, m = q + 1 := ⟨m - 1, by omega⟩
      obtain ⟨q', eq'⟩ : ∃ q', m' = q' + 1 := ⟨m' - 1, by omega⟩
      subst eq eq'
      refine ⟨k + 1, R', v', M', E', ?_, ?_, t3, by omega, by rw [x2, x3]⟩
      · rw [x1, Trace_perform_58]
        by_cases ck : (k : Int) + 1 < 100
        · rw [z_lt_t (by omega), stp (-1) M' m19 m20 (by omega), if_neg (fun q => absurd q.1.1 (by decide)), z_cl_e, z_eq_t (by omega)]
        · rw [z_lt_f (by omega)]
      · rw [Model_runs_74, x3, z_eq_f (by omega)]
    · obtain ⟨x1, ⟨x2, x3⟩, x4, x5⟩ := t5 c7
      rw [x1]
      by_cases ck : k + 1 = 100
      · rw [if_pos ck] at x5
        obtain ⟨q, eq⟩ : ∃ q, m = q + 1 := ⟨m - 1, by omega⟩
        obtain ⟨q', eq'⟩ : ∃ q', m' = q' + 1 := ⟨m' - 1, by omega⟩
        subst eq eq'
        refine ⟨k + 1, R', v', M', E', ?_, ?_, t3, by omega, by rw [x4, x5]⟩
        · rw [Trace_perform_58, z_lt_f (by omega)]
        · rw [Model_runs_74, x5, z_eq_f (by omega)]
      · rw [if_neg ck] at x5
        rw [ec]
        exact ih (k + 1) R' v' nxt M' E' m m' (by omega) (by omega) (by omega) (by omega) t3 x2 x3 x4 x5
theorem Model_runs_2_e {N : Nat} {E : zMem} {k : zMem → zO} (hN : 400 ≤ N) : ∃ E' : zMem, Model_runs_2 N k N 0 E = k E' ∧ (∀ c j, c ≠ 18 → c ≠ 19 → E' c j = E c j) ∧ ∀ i : Int, 0 ≤ i → i < 20 → E' 18 i = E 1 (29 + i) ∧ E' 19 i = E 1 (69 + i) := by
  have key : ∀ (n : Nat) (v : Int) (M : zMem), 0 ≤ v → v ≤ 20 → 20 - v < n → (∀ c j, c ≠ 18 → c ≠ 19 → M c j = E c j) → (∀ i : Int, 0 ≤ i → i < v → M 18 i = E 1 (29 + i) ∧ M 19 i = E 1 (69 + i)) → ∃ E' : zMem, Model_runs_2 N k n v M = k E' ∧ (∀ c j, c ≠ 18 → c ≠ 19 → E' c j = E c j) ∧ ∀ i : Int, 0 ≤ i → i < 20 → E' 18 i = E 1 (29 + i) ∧ E' 19 i = E 1 (69 + i) := by
    intro n
    induction n with
    | zero => intro v M _ _ h; omega
    | succ n ih =>
      intro v M h0 h1 hn hM hA
      have e1 : M 1 (29 + v) = E 1 (29 + v) := hM 1 _ (by decide) (by decide)
      have e2 : z_st M 18 v (E 1 (29 + v)) 1 (69 + v) = E 1 (69 + v) := by rw [z_st_c (by decide)]; exact hM 1 _ (by decide) (by decide)
      rw [Model_runs_2]
      by_cases c : v < 20
      · rw [z_lt_t (by omega), z_rd_t (by omega), e1, z_wr_t (by omega), z_rd_t (by omega), e2, z_wr_t (by omega), z_nm_e]
        refine ih (v + 1) _ (by omega) (by omega) (by omega) (fun c j g1 g2 => by rw [z_st_c g2, z_st_c g1]; exact hM c j g1 g2) (fun i g1 g2 => ?_)
        by_cases e : i = v
        · rw [z_st_c (by decide), z_st_i e, z_st_i e, e]; exact ⟨rfl, rfl⟩
        · rw [z_st_c (by decide), z_st_n e, z_st_n e, z_st_c (by decide)]; exact hA i g1 (by omega)
      · rw [z_lt_f (by omega)]
        exact ⟨M, rfl, hM, fun i g1 g2 => hA i g1 (by omega)⟩
  exact key N 0 E (by omega) (by omega) (by omega) (fun _ _ _ _ => rfl) (fun i g1 g2 => by omega)
/-- the class's memory at the start of a run -/
def u_0 (C : zMem) : zMem := z_st (z_st (z_st (z_st (z_cpm (z_cpm C 22 0 29 0 20) 23 0 30 0 20) 28 3 0) 28 1 0) 28 10 0) 28 2 2
/-- the runs of both -/
theorem run_both {C E : zMem} {N : Nat} (hN : 400 ≤ N) (hR : p_R C (E 1)) :
    ∃ (k R : Nat) (v : Int) (M' E' : zMem), Trace_perform_58 N (fun M => some (0, M)) N (C 19 9) 0 (u_0 C) = some (0, M') ∧ Model_runs N E = some (0, E') ∧ u_I C E k R v M' E' ∧ (1 ≤ k ∧ k ≤ 100) ∧ E' 0 35 = M' 28 2 := by
  obtain ⟨r1, r2, r3, ⟨r4, r4b, r4c⟩, r5⟩ := id hR
  obtain ⟨E1, a1, a2, a3⟩ := Model_runs_2_e (E := E) (k := fun (M1 : zMem) => z_pf M1 0 27 0 (fun M2 => z_pf M2 0 33 0 (fun M3 => z_pf M3 0 34 0 (fun M4 => z_pf M4 0 35 0 (fun M5 => z_rd M5 1 169 8 (fun x0 => z_jn (fun (M6 : zMem) => some (0, M6)) (fun k1 => Model_runs_74 N k1 N x0 0 M5))))))) hN
  generalize hEs : z_st (z_st (z_st (z_st E1 0 27 0) 0 33 0) 0 34 0) 0 35 0 = Es
  have es : ∀ c j, c ≠ 0 → Es c j = E1 c j := fun c j g => by rw [← hEs, z_st_c g, z_st_c g, z_st_c g, z_st_c g]
  have uc : ∀ c j, c ≠ 28 → c ≠ 29 → c ≠ 30 → u_0 C c j = C c j := fun c j g1 g2 g3 => by unfold u_0; rw [z_st_c g1, z_st_c g1, z_st_c g1, z_st_c g1, z_cpm_c g3, z_cpm_c g2]
  have u29 : ∀ i : Int, 0 ≤ i → i < 20 → u_0 C 29 i = C 22 i := fun i g1 g2 => by
    unfold u_0; rw [z_st_c (by decide), z_st_c (by decide), z_st_c (by decide), z_st_c (by decide), z_cpm_c (by decide), z_cpm_i (by omega), show (0 : Int) + (i - 0) = i by omega]
  have u30 : ∀ i : Int, 0 ≤ i → i < 20 → u_0 C 30 i = C 23 i := fun i g1 g2 => by
    unfold u_0; rw [z_st_c (by decide), z_st_c (by decide), z_st_c (by decide), z_st_c (by decide), z_cpm_i (by omega), show (0 : Int) + (i - 0) = i by omega, z_cpm_c (by decide)]
  have u282 : u_0 C 28 2 = 2 := z_st_i rfl
  have u2810 : u_0 C 28 10 = 0 := by unfold u_0; rw [z_st_n (by decide), z_st_i rfl]
  have u281 : u_0 C 28 1 = 0 := by unfold u_0; rw [z_st_n (by decide), z_st_n (by decide), z_st_i rfl]
  have u283 : u_0 C 28 3 = 0 := by unfold u_0; rw [z_st_n (by decide), z_st_n (by decide), z_st_n (by decide), z_st_i rfl]
  have hI : u_I C E 0 0 0 (u_0 C) Es := by
    refine ⟨fun c j g => uc c j (by omega) (by omega) (by omega), fun c j h0 _ _ _ _ _ _ h18 h19 => by rw [es c j h0]; exact a2 c j h18 h19, fun j h27 h28 h33 h34 h35 => ?_, ⟨⟨u281, u2810⟩, by omega, fun j hj => by omega, fun q => by omega, fun j hj => by omega⟩, ⟨⟨?_, ?_⟩, fun j hj => by omega, fun j hj => by omega, rfl, fun q => by omega⟩, ⟨⟨?_, ?_⟩, fun i g1 g2 g3 => ?_, fun i g1 g2 g3 g4 => ?_⟩⟩
    · rw [← hEs, z_st_n h35, z_st_n h34, z_st_n h33, z_st_n h27]; exact a2 0 j (by decide) (by decide)
    · rw [← hEs, z_st_n (by decide), z_st_n (by decide), z_st_i rfl]; rfl
    · rw [← hEs, z_st_n (by decide), z_st_n (by decide), z_st_n (by decide), z_st_i rfl]; rfl
    · rw [u283, ← hEs, z_st_n (by decide), z_st_i rfl]
    · rw [u283]; omega
    · obtain ⟨x1, x2, x3⟩ := (r3 i g1 g2).2.1 g3
      rw [es 18 i (by decide), (a3 i g1 (by omega)).1, x2, u29 i g1 (by omega)]
      exact ⟨rfl, x3⟩
    · obtain ⟨y1, y2, y3⟩ := (r3 i g1 g2).2.2 g3
      obtain ⟨t1, t2, t3, t4, t5, t6, t7, t8⟩ := y3 g4
      rw [es 19 i (by decide), (a3 i g1 (by omega)).2, t1, u30 i g1 (by omega)]
      exact ⟨rfl, t2, t6, fun _ => rfl⟩
  obtain ⟨k, R, v, M', E', l1, l2, l3, l4, l5⟩ := run_loop (D := E) (K := fun M => some (0, M)) (K' := fun M => some (0, M)) hN hR 100 0 0 0 (C 19 9) (u_0 C) Es N N (by omega) (by omega) (by omega) (by omega) hI r4b r4c u282 (by rw [← hEs, z_st_i rfl])
  refine ⟨k, R, v, M', E', l1, ?_, l3, l4, l5⟩
  have es8 : Es 1 8 = C 19 9 := by rw [es 1 8 (by decide), a2 1 8 (by decide) (by decide)]; exact r4
  unfold Model_runs
  rw [z_jn_e, a1, z_pf_e, z_pf_e, z_pf_e, z_pf_e, hEs, z_rd_t (by omega), es8, z_jn_e]
  exact l2
