/-! reading: an address; the class's rest of a line in the bad state -/
def adT (N : Nat) (x0 : Int) (k3 : zMem → zO) (M7 : zMem) : zO := z_eq (M7 0 12) 0 (z_eq (M7 0 11) 11 (z_cl (Model_next N M7) (fun u_2 M14 => z_jn (fun (M15 : zMem) => z_jn (fun (x8 : Int) (M16 : zMem) => z_wr M16 1 169 (129 + x0) x8 (fun M17 => k3 M17)) (fun k7 => z_eq (M15 0 12) 0 (z_cl (Model_many M15) (fun r_ M18 => z_cl (Model_reads N 0 (r_ - 1) M18) (fun r_1 M19 => k7 r_1 M19))) (k7 0 M15))) (fun k6 => z_eq (M14 0 9) 2 (z_il (M14 0 10) (fun x9 => z_cl (Model_many M14) (fun r_2 M20 => z_il (r_2 - 1) (fun x10 => z_cl (Model_in x9 0 x10 M20) (fun r_3 M21 => z_eq r_3 0 (k6 M21) (z_cl (Model_fixedAt N (M21 0 10) M21) (fun r_4 M22 => z_eq r_4 (-1) (k6 M22) (z_cl (Model_faults 2 M22) (fun u_3 M23 => k6 M23))))))))) (k6 M14)))) (k3 M7)) (k3 M7)
section
variable {t : Int → Int} {sz b m a : Int} {w N : Nat} {M E : zMem}
theorem told_c (hN : 1000 ≤ N) (hm : 0 ≤ M 10 6 ∧ M 10 6 ≤ 20) (ha : z_Rg a) (hf : ∀ i : Int, 0 ≤ i → i < M 10 6 → z_Rg (M 12 i)) : ∃ r : Int, Plan_isToldAddress N a M = some (if r = -1 then 0 else 1, M) ∧ (r = -1 ∨ (0 ≤ r ∧ r < M 10 6 ∧ M 12 r = a)) ∧ (r = -1 → ∀ i : Int, 0 ≤ i → i < M 10 6 → M 12 i ≠ a) := by
  have loop : ∀ (d n : Nat) (i : Int), 0 ≤ i → i + d = M 10 6 → d < n → (∀ j : Int, 0 ≤ j → j < i → M 12 j ≠ a) → ∃ r : Int, Plan_isToldAddress_2 N a (fun (M1 : zMem) => some (0, M1)) n i M = some (if r = -1 then 0 else 1, M) ∧ (r = -1 ∨ (0 ≤ r ∧ r < M 10 6 ∧ M 12 r = a)) ∧ (r = -1 → ∀ i : Int, 0 ≤ i → i < M 10 6 → M 12 i ≠ a) := by
    intro d
    induction d with
    | zero =>
      intro n i h0 hd hn hp
      obtain ⟨n, rfl⟩ : ∃ k, n = k + 1 := ⟨n - 1, by omega⟩
      rw [Plan_isToldAddress_2, z_lt_f (by omega)]
      exact ⟨-1, rfl, Or.inl rfl, fun _ j g1 g2 => hp j g1 (by omega)⟩
    | succ d ih =>
      intro n i h0 hd hn hp
      obtain ⟨n, rfl⟩ : ∃ k, n = k + 1 := ⟨n - 1, by omega⟩
      have hr := hf i h0 (by omega)
      rw [Plan_isToldAddress_2, z_lt_t (by omega), z_rd_t (by omega), z_eq_e hr ha]
      by_cases c : M 12 i = a
      · rw [if_pos c]
        exact ⟨i, by rw [if_neg (by omega)], Or.inr ⟨h0, by omega, c⟩, fun q => by omega⟩
      · rw [if_neg c, z_nm_e]
        exact ih n (i + 1) (by omega) (by omega) (by omega) (fun j g1 g2 => by
          by_cases q : j = i
          · rw [q]; exact c
          · exact hp j g1 (by omega))
  unfold Plan_isToldAddress
  rw [z_jn_e]
  exact loop (M 10 6).toNat N 0 (by omega) (by omega) (by omega) (fun j g1 g2 => by omega)
theorem fixedAt_e (hN : 1000 ≤ N) (hm : 0 ≤ E 1 5 ∧ E 1 5 ≤ 20) (ha : z_Rg a) (hf : ∀ i : Int, 0 ≤ i → i < E 1 5 → z_Rg (E 1 (129 + i))) : ∃ r : Int, Model_fixedAt N a E = some (r, E) ∧ (r = -1 ∨ (0 ≤ r ∧ r < E 1 5 ∧ E 1 (129 + r) = a)) ∧ (r = -1 → ∀ i : Int, 0 ≤ i → i < E 1 5 → E 1 (129 + i) ≠ a) := by
  have loop : ∀ (d n : Nat) (i : Int), 0 ≤ i → i + d = E 1 5 → d < n → (∀ j : Int, 0 ≤ j → j < i → E 1 (129 + j) ≠ a) → ∃ r : Int, Model_fixedAt_2 N a (fun (M1 : zMem) => some ((-1), M1)) n i E = some (r, E) ∧ (r = -1 ∨ (0 ≤ r ∧ r < E 1 5 ∧ E 1 (129 + r) = a)) ∧ (r = -1 → ∀ i : Int, 0 ≤ i → i < E 1 5 → E 1 (129 + i) ≠ a) := by
    intro d
    induction d with
    | zero =>
      intro n i h0 hd hn hp
      obtain ⟨n, rfl⟩ : ∃ k, n = k + 1 := ⟨n - 1, by omega⟩
      rw [Model_fixedAt_2, z_rd_t (by omega), z_lt_f (by omega)]
      exact ⟨-1, rfl, Or.inl rfl, fun _ j g1 g2 => hp j g1 (by omega)⟩
    | succ d ih =>
      intro n i h0 hd hn hp
      obtain ⟨n, rfl⟩ : ∃ k, n = k + 1 := ⟨n - 1, by omega⟩
      have hr := hf i h0 (by omega)
      rw [Model_fixedAt_2, z_rd_t (by omega), z_lt_t (by omega), z_rd_t (by omega), z_eq_e hr ha]
      by_cases c : E 1 (129 + i) = a
      · rw [if_pos c]
        exact ⟨i, rfl, Or.inr ⟨h0, by omega, c⟩, fun q => by omega⟩
      · rw [if_neg c, z_nm_e]
        exact ih n (i + 1) (by omega) (by omega) (by omega) (fun j g1 g2 => by
          by_cases q : j = i
          · rw [q]; exact c
          · exact hp j g1 (by omega))
  unfold Model_fixedAt
  rw [z_jn_e]
  exact loop (E 1 5).toNat N 0 (by omega) (by omega) (by omega) (fun j g1 g2 => by omega)
def adE (m : Int) (E E' : zMem) : Prop := ∀ c j, (c ≠ 0 ∨ j < 7 ∨ 14 < j) → (c ≠ 1 ∨ j ≠ 129 + m) → E' c j = E c j
theorem address_j {k3 : zMem → zO} (hN : 1000 ≤ N) (h : gd t sz b w M E) (hm : M 10 6 = m ∧ E 1 5 = m ∧ 0 ≤ m ∧ m < 20) (h0 : E 1 0 = M 10 0 ∧ 1 ≤ M 10 0 ∧ M 10 0 ≤ 4) (h1 : E 1 1 = M 10 1 ∧ 2 ≤ M 10 1 ∧ M 10 1 ≤ 12)
    (hf : ∀ i : Int, 0 ≤ i → i < m → E 1 (129 + i) = M 12 i ∧ (M 12 i = -1 ∨ (0 ≤ M 12 i ∧ M 12 i < M 10 0 * M 10 1))) (h129 : E 1 (129 + m) = -1) :
    ∃ (r : Int) (M' E' : zMem), Reader_takeAddress N M = some (r, M') ∧ adT N m k3 E = k3 E' ∧ aM M M' ∧ adE m E E' ∧ (bd M' E' ∨ ∃ (b' : Int) (w' : Nat), gd t sz b' w' M' E' ∧ E' 1 (129 + m) = r ∧ (r = -1 ∨ (0 ≤ r ∧ r < M 10 0 * M 10 1))) := by
  have rg := tk_r h.2.2
  have g12 := h.2.1.2.2
  obtain ⟨ts1, ts2, ts3, ts4⟩ := y_ts h0.2 h1.2
  have k11 : y_is t b w 19 ↔ y_kept t b w = 11 := (y_is_same (by decide +kernel)).trans kept_11
  unfold Reader_takeAddress adT
  rw [is_k (n := 11) (s := 19) hN h (by decide) k11, z_cl_e, z_eq_b, z_eq_t (x := E 0 12) (by omega)]
  by_cases c : E 0 11 = 11
  · obtain ⟨b1, w1, M1, E1, x1, x2, x3, x4, x5, x6⟩ := pass_j hN h
    have m10 : ∀ j, M1 10 j = M 10 j := fun j => x5 10 j (by decide) (by decide)
    have m12 : ∀ j, M1 12 j = M 12 j := fun j => x5 12 j (by decide) (by decide)
    have e1 : ∀ j, E1 1 j = E 1 j := fun j => x6 1 j (by omega)
    have rg1 := tk_r x4.2.2
    have g12' := x4.2.1.2.2
    have g3 := x4.2.2.2.1
    have g10 := x4.2.2.2.2.2.1
    have a2 : M1 9 1 = 2 → E1 0 9 = 2 ∧ E1 0 10 = min (M1 9 3) 99999 := fun c => by
      rcases x4.2.2.2.2.2.2 with q | q | q | q | q | q
      · have q1 := q.1; clear q; omega
      · have q1 := q.1; clear q; omega
      · exact ⟨q.2.1, q.2.2.2⟩
      · have q1 := q.1; clear q; omega
      · have q1 := q.1; clear q; omega
      · have q1 := q.1; clear q; omega
    have a3 : ¬ M1 9 1 = 2 → E1 0 9 ≠ 2 := fun c => by
      rcases x4.2.2.2.2.2.2 with q | q | q | q | q | q <;> have q1 := q.1 <;> have q2 := q.2.1 <;> clear q <;> omega
    rw [if_pos c, z_eq_t (x := E 0 11) (by omega), x1, z_cl_e, x2, z_cl_e]
    simp only [z_jn_e, Model_many_e, z_cl_e]
    unfold Plan_addresses
    simp only [z_cl_e, m10, e1, h0.1, h1.1]
    obtain ⟨r1, r2, M2, E2, y1, y2, y3, y4, y5, y6, y7⟩ := number_j (lo := 0) (hi := M 10 0 * M 10 1 - 1) hN x4 (by omega)
    have adF : ∀ (E3 : zMem) (v : Int), aE E E3 → adE m E (z_st E3 1 (129 + m) v) := fun E3 v hE c j q1 q2 => by
      rw [← hE c j q1]
      by_cases q : c = 1
      · subst q; exact z_st_n (by omega)
      · exact z_st_c q
    have go : ∃ (r : Int) (M' E' : zMem), z_cl (Reader_takeNumber N 0 (M 10 0 * M 10 1 - 1) M1) (fun r_2 M5 => some (r_2, M5)) = some (r, M') ∧ z_eq (E1 0 12) 0 (z_cl (Model_reads N 0 (M 10 0 * M 10 1 - 1) E1) (fun r_1 M19 => z_wr M19 1 169 (129 + m) r_1 (fun M17 => k3 M17))) (z_wr E1 1 169 (129 + m) 0 (fun M17 => k3 M17)) = k3 E' ∧ aM M M' ∧ adE m E E' ∧ (bd M' E' ∨ ∃ (b' : Int) (w' : Nat), gd t sz b' w' M' E' ∧ E' 1 (129 + m) = r ∧ (r = -1 ∨ (0 ≤ r ∧ r < M 10 0 * M 10 1))) := by
      rw [y1, z_cl_e, z_eq_t (by omega), y2, z_cl_e, z_wr_t (by omega)]
      refine ⟨_, _, _, rfl, rfl, aM_t x5 y5, adF E2 r2 (aE_t x6 y6), ?_⟩
      rcases y7 with l | ⟨b2, w2, l, l1, l2, l3, -⟩
      · exact Or.inl (bd_c l (fun _ _ _ => rfl) (fun j _ => z_st_c (by decide)))
      · exact Or.inr ⟨b2, w2, gd_c l (fun _ _ _ => rfl) (fun c j q => z_st_c (by omega)), by rw [z_st_i rfl]; exact l1, Or.inr ⟨l2, by omega⟩⟩
    by_cases d : M1 9 1 = 2
    · obtain ⟨d1, d2⟩ := a2 d
      have g3 := g3 d
      obtain ⟨ra, f1, f2, f3⟩ := told_c (a := M1 9 3) (M := M1) hN (by rw [m10]; omega) (by omega) (fun i q1 q2 => by
        rw [m10] at q2
        have := (hf i q1 (by omega)).2
        rw [m12]; omega)
      obtain ⟨rb, k1, k2, k4⟩ := fixedAt_e (a := E1 0 10) (E := E1) hN (by rw [e1]; omega) (by omega) (fun i q1 q2 => by
        rw [e1] at q2
        have := hf i q1 (by omega)
        rw [e1]; omega)
      rw [z_eq_t (x := M1 9 1) (by omega), f1, z_cl_e, z_eq_t (x := E1 0 9) (by omega), z_il_t (by omega), z_il_t (by omega), Model_in_e (by omega) (by omega) (by omega), z_cl_e, z_eq_b, k1, z_cl_e]
      by_cases e : ra = -1
      · have nf : ¬ (0 ≤ E1 0 10 ∧ E1 0 10 ≤ M 10 0 * M 10 1 - 1) ∨ rb = -1 := by
          by_cases z : 0 ≤ E1 0 10 ∧ E1 0 10 ≤ M 10 0 * M 10 1 - 1
          · right
            rcases k2 with q | ⟨q1, q2, q3⟩
            · exact q
            · exfalso
              rw [e1] at q2 q3
              have := f3 e rb q1 (by rw [m10]; omega)
              rw [m12] at this
              have := (hf rb q1 (by omega)).1
              omega
          · exact Or.inl z
        rw [if_pos e, z_eq_t (by omega)]
        rcases nf with z | z
        · rw [if_neg z, m10, m10, e1, e1, h0.1, h1.1]; exact go
        · rw [z, z_eq_t (by omega)]
          rw [m10, m10, e1, e1, h0.1, h1.1]
          split
          · exact go
          · exact go
      · have hra : 0 ≤ M1 9 3 ∧ M1 9 3 < M 10 0 * M 10 1 ∧ rb ≠ -1 := by
          rcases f2 with q | ⟨q1, q2, q3⟩
          · exact absurd q e
          · rw [m10] at q2
            rw [m12] at q3
            obtain ⟨u1, u2⟩ := hf ra q1 (by omega)
            refine ⟨by omega, by omega, fun z => ?_⟩
            have := k4 z ra q1 (by rw [e1]; omega)
            rw [e1] at this
            omega
        obtain ⟨M3, E3, z1, z2, z3, z4, z5⟩ := fail_j (k := 2) x4 (by omega)
        obtain ⟨rn, M4, n1, n2, n3⟩ := number_b (N := N) (lo := 0) (hi := M 10 0 * M 10 1 - 1) hN z3.1 (by omega) (by omega)
        have e12 := z3.2.1
        have e15 := e1 5
        rw [if_neg e, z_eq_f (x := (1 : Int)) (by omega), z1, z_cl_e, if_pos (by omega), z_eq_f (x := rb) (by omega), z2, z_cl_e, z_eq_f (x := E3 0 12) (by omega), z_wr_t (by omega), z4 10 0 (by decide) (by decide), z4 10 1 (by decide) (by decide), m10, m10, n1, z_cl_e]
        exact ⟨_, _, _, rfl, rfl, aM_t x5 (aM_t z4 (bM_a n3)), adF E3 0 (aE_t x6 z5), Or.inl (bd_c (bM_d z3 n3) (fun _ _ _ => rfl) (fun j _ => z_st_c (by decide)))⟩
    · rw [z_eq_f (x := M1 9 1) (by omega), z_eq_f (x := E1 0 9) (by have := a3 d; omega)]
      exact go
  · rw [if_neg c, z_eq_f (x := E 0 11) (by omega)]
    exact ⟨-1, M, E, rfl, rfl, aM_r, fun _ _ _ _ => rfl, Or.inr ⟨b, w, h, h129, Or.inl rfl⟩⟩
/-! the class alone, behind a fault -/
def cP (M : zMem) : Prop := cT M ∧ (0 ≤ M 10 6 ∧ M 10 6 ≤ 20) ∧ (0 ≤ M 10 0 * M 10 1 ∧ M 10 0 * M 10 1 ≤ 48) ∧ ∀ i : Int, 0 ≤ i → i < M 10 6 → z_Rg (M 4 i) ∧ z_Rg (M 12 i)
def bF (M M' : zMem) : Prop := ∀ c j, (c < 4 ∨ 9 < c) → M' c j = M c j
def bO (M : zMem) (a : zO) : Prop := ∃ M' : zMem, a = some (0, M') ∧ cP M' ∧ bF M M'
theorem bO_t {M M' : zMem} {a : zO} (h : bF M M') (h' : bO M' a) : bO M a := by
  obtain ⟨M2, x1, x2, x3⟩ := h'
  exact ⟨M2, x1, x2, fun c j g => by rw [x3 c j g, h c j g]⟩
theorem cP_k {M' : zMem} (h : cP M) (hk : bM M M') : cP M' := by
  obtain ⟨h1, h2, h3, h5⟩ := h
  refine ⟨hk.1, ?_, ?_, ?_⟩
  · rw [hk.2 10 6 (by decide)]; exact h2
  · rw [hk.2 10 0 (by decide), hk.2 10 1 (by decide)]; exact h3
  · rw [hk.2 10 6 (by decide)]
    intro i g1 g2
    rw [hk.2 4 i (by decide), hk.2 12 i (by decide)]
    exact h5 i g1 g2
theorem bF_k {M' : zMem} (hk : bM M M') : bF M M' := fun c j g => hk.2 c j (by omega)
theorem minus_b (hN : 1000 ≤ N) (h : cT M) : ∃ (r : Int) (M' : zMem), (r = 0 ∨ r = 1) ∧ Reader_takeMinus N M = some (r, M') ∧ bM M M' := by
  have a := h.2.2.2.1
  obtain ⟨M', x1, x2⟩ := adv_b hN h
  unfold Reader_takeMinus
  rw [x1, z_cl_e, z_eq_e (by omega) (by omega)]
  split
  · exact ⟨1, M', Or.inr rfl, rfl, x2⟩
  · exact ⟨0, M, Or.inl rfl, rfl, bM_r h⟩
theorem lineWord_b (hN : 1000 ≤ N) (h : cT M) : ∃ r : Int, (r = 0 ∨ r = 1) ∧ Tokens_isLineWord N M = some (r, M) := by
  obtain ⟨r1, h1, e1⟩ := is_b (i := 7) hN h
  obtain ⟨r2, h2, e2⟩ := is_b (i := 8) hN h
  obtain ⟨r3, h3, e3⟩ := is_b (i := 9) hN h
  obtain ⟨r4, h4, e4⟩ := is_b (i := 10) hN h
  unfold Tokens_isLineWord
  simp only [e1, e2, e3, e4, z_cl_e, z_jn_e]
  rcases h1 with q | q <;> subst q
  · rw [z_eq_t (by omega)]
    rcases h2 with q | q <;> subst q
    · rw [z_eq_t (by omega)]
      rcases h3 with q | q <;> subst q
      · rw [z_eq_t (by omega)]
        rcases h4 with q | q <;> subst q
        · rw [z_eq_t (by omega)]; exact ⟨0, Or.inl rfl, rfl⟩
        · rw [z_eq_f (by omega)]; exact ⟨1, Or.inr rfl, rfl⟩
      · rw [z_eq_f (by omega)]; exact ⟨1, Or.inr rfl, rfl⟩
    · rw [z_eq_f (by omega)]; exact ⟨1, Or.inr rfl, rfl⟩
  · rw [z_eq_f (by omega)]; exact ⟨1, Or.inr rfl, rfl⟩
theorem op_b (hN : 1000 ≤ N) (h : cT M) : ∃ r : Int, (-1 ≤ r ∧ r ≤ 7) ∧ Tokens_operation N M = some (r, M) := by
  obtain ⟨r1, h1, e1⟩ := is_b (i := 11) hN h
  obtain ⟨r2, h2, e2⟩ := is_b (i := 12) hN h
  obtain ⟨r3, h3, e3⟩ := is_b (i := 13) hN h
  obtain ⟨r4, h4, e4⟩ := is_b (i := 14) hN h
  obtain ⟨r5, h5, e5⟩ := is_b (i := 15) hN h
  obtain ⟨r6, h6, e6⟩ := is_b (i := 16) hN h
  obtain ⟨r7, h7, e7⟩ := is_b (i := 17) hN h
  obtain ⟨r8, h8, e8⟩ := is_b (i := 18) hN h
  unfold Tokens_operation
  simp only [e1, e2, e3, e4, e5, e6, e7, e8, z_cl_e]
  rcases h1 with q | q <;> subst q
  · rw [z_eq_t (by omega)]
    rcases h2 with q | q <;> subst q
    · rw [z_eq_t (by omega)]
      rcases h3 with q | q <;> subst q
      · rw [z_eq_t (by omega)]
        rcases h4 with q | q <;> subst q
        · rw [z_eq_t (by omega)]
          rcases h5 with q | q <;> subst q
          · rw [z_eq_t (by omega)]
            rcases h6 with q | q <;> subst q
            · rw [z_eq_t (by omega)]
              rcases h7 with q | q <;> subst q
              · rw [z_eq_t (by omega)]
                rcases h8 with q | q <;> subst q
                · rw [z_eq_t (by omega)]; exact ⟨_, by omega, rfl⟩
                · rw [z_eq_f (by omega)]; exact ⟨_, by omega, rfl⟩
              · rw [z_eq_f (by omega)]; exact ⟨_, by omega, rfl⟩
            · rw [z_eq_f (by omega)]; exact ⟨_, by omega, rfl⟩
          · rw [z_eq_f (by omega)]; exact ⟨_, by omega, rfl⟩
        · rw [z_eq_f (by omega)]; exact ⟨_, by omega, rfl⟩
      · rw [z_eq_f (by omega)]; exact ⟨_, by omega, rfl⟩
    · rw [z_eq_f (by omega)]; exact ⟨_, by omega, rfl⟩
  · rw [z_eq_f (by omega)]; exact ⟨_, by omega, rfl⟩
theorem takeOp_b (hN : 1000 ≤ N) (h : cT M) : ∃ (r : Int) (M' : zMem), (-1 ≤ r ∧ r ≤ 7) ∧ Reader_takeOperation N M = some (r, M') ∧ bM M M' := by
  obtain ⟨r, hr, e⟩ := op_b hN h
  obtain ⟨M', x1, x2⟩ := adv_b hN h
  refine ⟨r, M', hr, ?_, x2⟩
  unfold Reader_takeOperation
  simp only [e, z_cl_e, z_jn_e, fail_b h, x1]
  rw [z_eq_e (by omega) (by omega)]
  split <;> rfl
theorem cP_c {M' : zMem} (h : cP M) (hc : ∀ c j, (c < 4 ∨ 8 < c) → M' c j = M c j) (h4 : ∀ i : Int, i < M 10 6 → M' 4 i = M 4 i) : cP M' := by
  obtain ⟨h1, h2, h3, h5⟩ := h
  refine ⟨cT_c h1 (fun c j g => hc c j (by omega)), ?_, ?_, ?_⟩
  · rw [hc 10 6 (by omega)]; exact h2
  · rw [hc 10 0 (by omega), hc 10 1 (by omega)]; exact h3
  · rw [hc 10 6 (by omega)]
    intro i g1 g2
    rw [hc 12 i (by omega), h4 i g2]
    exact h5 i g1 g2
theorem itemName_b (hN : 1000 ≤ N) (h : cP M) : bO M (Reader_takeItemName N (M 10 6) M) := by
  obtain ⟨h1, h2, h3, h5⟩ := id h
  have k9 := h1.2.2.2.1
  have k4 := h1.1.2
  obtain ⟨r1, g1, e1⟩ := lineWord_b hN h1
  obtain ⟨r2, g2, e2⟩ := op_b hN h1
  obtain ⟨r3, g3, e3⟩ := itemNamed_b (v := M 9 4) hN h2 k4 (fun i q1 q2 => (h5 i q1 q2).1)
  obtain ⟨M', a1, a2⟩ := adv_b hN h1
  have same : bO M (some ((0 : Int), M')) := ⟨M', rfl, cP_k h a2, bF_k a2⟩
  have key : ∀ x0 x1 : Int, (x0 = 0 ∨ x0 = 1) → (x1 = 0 ∨ x1 = 1) → bO M (nK N (M 10 6) x0 x1 M) := fun x0 x1 hx0 hx1 => by
    unfold nK nA
    rw [fail_b h1, fail_b h1]
    simp only [z_cl_e, a1]
    rw [z_eq_e (x := M 9 1) (by omega) (by omega)]
    split
    · rw [z_eq_e (x := x0) (by omega) (by omega)]
      split
      · rw [z_eq_e (x := x1) (by omega) (by omega)]
        split
        · rw [z_eq_e (x := M 9 4) (by omega) (by omega)]
          split
          · exact same
          · by_cases c : M 10 6 < 20
            · have c1 : cP (z_st M 4 (M 10 6) (M 9 4)) := cP_c h (fun c j g => z_st_c (by omega)) (fun i g => z_st_n (by omega))
              obtain ⟨M2, b1, b2⟩ := adv_b hN c1.1
              rw [z_lt_t (by omega), z_wr_t (by omega), b1, z_cl_e]
              exact ⟨M2, rfl, cP_k c1 b2, fun c j g => by rw [b2.2 c j (by omega), z_st_c (by omega)]⟩
            · rw [z_lt_f (by omega)]
              exact same
        · exact same
      · exact same
    · exact same
  have b3 : (if r3 = -1 then (0 : Int) else 1) = 0 ∨ (if r3 = -1 then (0 : Int) else 1) = 1 := by split <;> omega
  rw [nT_e, e1, z_cl_e, e2, z_cl_e, nQ_e e3 g3, nQ_e e3 g3, z_eq_e (x := r1) (by omega) (by omega)]
  split
  · rw [z_eq_e (x := r2) (by omega) (by omega)]
    split
    · exact key 0 _ (Or.inl rfl) b3
    · exact key 1 _ (Or.inr rfl) b3
  · exact key 1 _ (Or.inr rfl) b3
theorem ref_b {ca cb : Nat} (hN : 1000 ≤ N) (hc : (ca = 5 ∧ cb = 6) ∨ (ca = 7 ∧ cb = 8)) (h : cP M) : bO M (Reader_takeReference N ca cb (M 10 6) M) := by
  obtain ⟨h1, h2, h3, h5⟩ := id h
  have k9 := h1.2.2.2.1
  obtain ⟨M', a1, a2⟩ := adv_b hN h1
  have same : bO M (some ((0 : Int), M')) := ⟨M', rfl, cP_k h a2, bF_k a2⟩
  unfold Reader_takeReference
  simp only [z_cl_e, z_jn_e, fail_b h1, a1]
  rw [z_eq_e (x := M 9 1) (by omega) (by omega)]
  split
  · by_cases c : M 10 6 < 20
    · rw [z_lt_t (by omega), z_wr_t (by omega), z_wr_t (by omega)]
      have c1 : cP (z_st (z_st M ca (M 10 6) (M 9 4)) cb (M 10 6) (z_st M ca (M 10 6) (M 9 4) 9 2)) := cP_c h (fun c j g => by rw [z_st_c (by omega), z_st_c (by omega)]) (fun i g => by rw [z_st_c (by omega), z_st_c (by omega)])
      obtain ⟨M2, b1, b2⟩ := adv_b hN c1.1
      rw [b1, z_cl_e]
      exact ⟨M2, rfl, cP_k c1 b2, fun c j g => by rw [b2.2 c j (by omega), z_st_c (by omega), z_st_c (by omega)]⟩
    · rw [z_lt_f (by omega)]
      exact same
  · exact same
theorem address_b (hN : 1000 ≤ N) (h : cP M) : ∃ (r : Int) (M' : zMem), Reader_takeAddress N M = some (r, M') ∧ bM M M' := by
  obtain ⟨r1, g1, e1⟩ := is_b (i := 19) hN h.1
  obtain ⟨M1, a1, a2⟩ := adv_b hN h.1
  obtain ⟨h1, h2, h3, h5⟩ := cP_k h a2
  have k9 := h1.2.2.2.1
  have k3 := h1.2.2.2.2.1
  obtain ⟨rn, M2, n1, n2, n3⟩ := number_b (N := N) (lo := 0) (hi := M1 10 0 * M1 10 1 - 1) hN h1 (by omega) (by omega)
  unfold Reader_takeAddress Plan_addresses
  simp only [e1, z_cl_e, z_jn_e, a1, n1]
  rw [z_eq_e (x := r1) (by omega) (by omega)]
  split
  · exact ⟨_, M, rfl, bM_r h.1⟩
  · rw [z_eq_e (x := M1 9 1) (by omega) (by omega)]
    by_cases c1 : M1 9 1 = 2
    · have k3 := k3 c1
      obtain ⟨r2, g2, -, -⟩ := told_c (a := M1 9 3) (M := M1) hN h2 (by omega) (fun i q1 q2 => (h5 i q1 q2).2)
      rw [if_pos c1]
      simp only [g2, z_cl_e, fail_b h1, n1]
      by_cases c : r2 = -1
      · rw [if_pos c, z_eq_t (by omega)]; exact ⟨_, M2, rfl, bM_t a2 n3⟩
      · rw [if_neg c, z_eq_f (by omega)]; exact ⟨_, M2, rfl, bM_t a2 n3⟩
    · rw [if_neg c1]; exact ⟨_, M2, rfl, bM_t a2 n3⟩
theorem semi_b (hN : 1000 ≤ N) (h : cT M) : ∃ M' : zMem, Reader_takeSemicolon N M = some (0, M') ∧ bM M M' := by
  have a := h.2.2.2.1
  obtain ⟨M', x1, x2⟩ := adv_b hN h
  refine ⟨M', ?_, x2⟩
  unfold Reader_takeSemicolon
  simp only [z_jn_e, fail_b h, x1, z_cl_e]
  rw [z_eq_e (by omega) (by omega)]
  split <;> rfl
end
