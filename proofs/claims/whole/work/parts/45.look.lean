/-! the class's search: its start -/
def y_rk (C : zMem) (i : Int) : Int := y_sum (fun j => if C 21 j = -1 then 1 else 0) i.toNat
def y_it (C : zMem) (e : Int) : Int := y_fnd (fun i => if C 21 i = -1 then y_rk C i else -1) e (C 19 6).toNat 0
def y_f0 (C : zMem) (a : Int) : Int := if y_fnd (C 21) a (C 19 6).toNat 0 = -1 then y_grp C a else -1
theorem y_rk_s {C : zMem} {i : Int} (h : 0 ≤ i) : y_rk C (i + 1) = y_rk C i + if C 21 i = -1 then 1 else 0 := by
  unfold y_rk
  rw [show (i + 1).toNat = i.toNat + 1 by omega]
  show y_sum _ i.toNat + (if C 21 ((i.toNat : Nat) : Int) = -1 then 1 else 0) = _
  rw [show ((i.toNat : Nat) : Int) = i by omega]
theorem y_rk_0 {C : zMem} : y_rk C 0 = 0 := rfl
theorem y_rk_m {C : zMem} : ∀ (d : Nat) (i : Int), 0 ≤ i → y_rk C i ≤ y_rk C (i + d) ∧ 0 ≤ y_rk C i := by
  have h0 : ∀ n : Nat, 0 ≤ y_sum (fun j => if C 21 j = -1 then 1 else 0) n := fun n => (y_sum_b (b := 1) n (fun j _ => by
    show 0 ≤ (if C 21 j = -1 then (1 : Int) else 0) ∧ (if C 21 j = -1 then (1 : Int) else 0) ≤ 1
    split <;> omega)).1
  intro d
  induction d with
  | zero => intro i _; refine ⟨?_, h0 _⟩; rw [show i + ((0 : Nat) : Int) = i by omega]; exact Int.le_refl _
  | succ d ih =>
    intro i hi
    obtain ⟨a, b⟩ := ih i hi
    refine ⟨?_, b⟩
    rw [show i + ((d + 1 : Nat) : Int) = (i + d) + 1 by omega, y_rk_s (by omega)]
    split <;> omega
theorem y_rk_le {C : zMem} {i j : Int} (h0 : 0 ≤ i) (h : i ≤ j) : y_rk C i ≤ y_rk C j := by
  have := (y_rk_m (C := C) (j - i).toNat i h0).1
  rw [show i + (((j - i).toNat : Nat) : Int) = j by omega] at this
  exact this
theorem y_rk_lt {C : zMem} {i j : Int} (h0 : 0 ≤ i) (h : i < j) (hi : C 21 i = -1) : y_rk C i < y_rk C j := by
  have := y_rk_le (C := C) (show 0 ≤ i + 1 by omega) (show i + 1 ≤ j by omega)
  rw [y_rk_s h0, if_pos hi] at this
  omega
theorem y_rk_ex {C : zMem} {e : Int} : ∀ n : Nat, 0 ≤ e → e < y_rk C n → ∃ i : Int, 0 ≤ i ∧ i < n ∧ C 21 i = -1 ∧ y_rk C i = e := by
  intro n
  induction n with
  | zero => intro h1 h2; have : y_rk C ((0 : Nat) : Int) = 0 := rfl; omega
  | succ n ih =>
    intro h1 h2
    rw [show ((n + 1 : Nat) : Int) = (n : Int) + 1 by omega, y_rk_s (by omega)] at h2
    by_cases c : e < y_rk C n
    · obtain ⟨i, i1, i2, i3⟩ := ih h1 c
      exact ⟨i, i1, by omega, i3⟩
    · by_cases c2 : C 21 n = -1
      · rw [if_pos c2] at h2
        exact ⟨n, by omega, by omega, c2, by omega⟩
      · rw [if_neg c2] at h2; omega
theorem y_it_e {C : zMem} {i : Int} (hi : 0 ≤ i ∧ i < C 19 6) (h : C 21 i = -1) : y_it C (y_rk C i) = i := by
  unfold y_it
  refine y_fnd_first (by omega) ?_ (fun b g1 g2 => ?_)
  · show (if C 21 i = -1 then y_rk C i else -1) = _
    rw [if_pos h]
  · show (if C 21 b = -1 then y_rk C b else -1) ≠ _
    have := (y_rk_m (C := C) 0 i hi.1).2
    split
    · rename_i q; have := y_rk_lt g1 g2 q; omega
    · omega
theorem y_it_K {C : zMem} (h6 : 0 ≤ C 19 6) (h4 : y_rk C (C 19 6) ≤ 4) : q_K C (y_it C) (y_rk C (C 19 6)) := by
  have key : ∀ e : Int, 0 ≤ e → e < y_rk C (C 19 6) → (0 ≤ y_it C e ∧ y_it C e < C 19 6) ∧ C 21 (y_it C e) = -1 ∧ y_rk C (y_it C e) = e := fun e g1 g2 => by
    obtain ⟨i, i1, i2, i3, i4⟩ := y_rk_ex (C := C) (e := e) (C 19 6).toNat g1 (by rw [show (((C 19 6).toNat : Nat) : Int) = C 19 6 by omega]; exact g2)
    have := y_it_e (C := C) (i := i) (by omega) i3
    rw [i4] at this
    rw [this]
    exact ⟨by omega, i3, i4⟩
  refine ⟨⟨(y_rk_m (C := C) 0 _ h6).2, h4⟩, fun e g1 g2 => ⟨(key e g1 g2).1, (key e g1 g2).2.1⟩, fun e e' g1 g2 g3 g4 q => ?_⟩
  have a := (key e g1 g2).2.2
  have b := (key e' g3 g4).2.2
  rw [q] at a
  omega
theorem Search_takeFixed_e {C M0 : zMem} {N : Nat} (hP : y_P C) (hN : 400 ≤ N) (hM0 : ∀ c j, (c ≠ 48) → M0 c j = C c j) (h4 : y_rk C (C 19 6) ≤ 4) (hf : ∀ i : Int, 0 ≤ i → i < C 19 6 → C 21 i = -1 ∨ (0 ≤ C 21 i ∧ C 21 i < C 19 0 * C 19 1)) :
    ∃ M' : zMem, Search_takeFixed N M0 = some (0, M') ∧ (∀ c j, c ≠ 48 → c ≠ 49 → c ≠ 50 → c ≠ 51 → M' c j = C c j) ∧ (∀ j : Int, j ≠ 3 → M' 48 j = M0 48 j) ∧ M' 48 3 = y_rk C (C 19 6) ∧ (∀ i : Int, 0 ≤ i → i < C 19 6 → M' 50 i = C 21 i ∧ (C 21 i = -1 → M' 49 (y_rk C i) = i)) ∧ ∀ a : Int, 0 ≤ a → a < C 19 0 * C 19 1 → M' 51 a = if y_f0 C a = -1 then 1 else 0 := by
  obtain ⟨p1, p2, p3, p4, p5, p6⟩ := id hP
  have ts := y_ts p1 p2
  have k1 : ∀ (n : Nat) (v : Int) (M : zMem) (k : zMem → zO), 0 ≤ v → v ≤ 48 → 48 - v < n → (∀ c j, c ≠ 51 → M c j = M0 c j) → (∀ a : Int, 0 ≤ a → a < v → M 51 a = 0) → ∃ M' : zMem, Search_takeFixed_2 N k n v M = k M' ∧ (∀ c j, c ≠ 51 → M' c j = M0 c j) ∧ ∀ a : Int, 0 ≤ a → a < 48 → M' 51 a = 0 := by
    intro n
    induction n with
    | zero => intro v M k _ _ h; omega
    | succ n ih =>
      intro v M k h0 h1 hn hM hA
      rw [Search_takeFixed_2]
      by_cases c : v < 48
      · simp (disch := omega) only [z_lt_t, z_lt_f, z_le_t, z_le_f, z_eq_t, z_eq_f, z_rd_t, z_wr_t, z_wz_t, z_pf_e, z_pz_t, z_nm_e, z_jn_e, z_cl_e, z_rz_t]
        refine ih (v + 1) _ k (by omega) (by omega) (by omega) (fun c j g => by rw [z_st_c g]; exact hM c j g) (fun a g1 g2 => ?_)
        by_cases e : a = v
        · rw [z_st_i e]
        · rw [z_st_n e]; exact hA a g1 (by omega)
      · rw [z_lt_f (by omega)]
        exact ⟨M, rfl, hM, fun a g1 g2 => hA a g1 (by omega)⟩
  have k2 : ∀ (n : Nat) (v : Int) (M : zMem), 0 ≤ v → v ≤ C 19 6 → C 19 6 - v < n → (∀ c j, c ≠ 48 → c ≠ 49 → c ≠ 50 → c ≠ 51 → M c j = C c j) → (∀ j : Int, j ≠ 3 → M 48 j = M0 48 j) → M 48 3 = y_rk C v → (∀ i : Int, 0 ≤ i → i < v → M 50 i = C 21 i ∧ (C 21 i = -1 → M 49 (y_rk C i) = i)) → (∀ a : Int, 0 ≤ a → a < C 19 0 * C 19 1 → (y_tk (C 21) v a → M 51 a = 1) ∧ (¬ y_tk (C 21) v a → M 51 a = 0)) →
      ∃ M' : zMem, Search_takeFixed_28 N (fun M3 => some (0, M3)) n v M = some (0, M') ∧ (∀ c j, c ≠ 48 → c ≠ 49 → c ≠ 50 → c ≠ 51 → M' c j = C c j) ∧ (∀ j : Int, j ≠ 3 → M' 48 j = M0 48 j) ∧ M' 48 3 = y_rk C (C 19 6) ∧ (∀ i : Int, 0 ≤ i → i < C 19 6 → M' 50 i = C 21 i ∧ (C 21 i = -1 → M' 49 (y_rk C i) = i)) ∧ ∀ a : Int, 0 ≤ a → a < C 19 0 * C 19 1 → (y_tk (C 21) (C 19 6) a → M' 51 a = 1) ∧ (¬ y_tk (C 21) (C 19 6) a → M' 51 a = 0) := by
    intro n
    induction n with
    | zero => intro v M _ _ h; omega
    | succ n ih =>
      intro v M h0 h1 hn hM hM8 h3 hA hB
      have m6 : M 19 6 = C 19 6 := hM 19 6 (by decide) (by decide) (by decide) (by decide)
      have m21 : M 21 v = C 21 v := hM 21 v (by decide) (by decide) (by decide) (by decide)
      rw [Search_takeFixed_28, m6]
      by_cases c : v < C 19 6
      · have fv := hf v h0 c
        have s0 : z_st M 50 v (C 21 v) 19 0 = C 19 0 := by rw [z_st_c (by decide)]; exact hM 19 0 (by decide) (by decide) (by decide) (by decide)
        have s1 : z_st M 50 v (C 21 v) 19 1 = C 19 1 := by rw [z_st_c (by decide)]; exact hM 19 1 (by decide) (by decide) (by decide) (by decide)
        have key : ∀ x : Int, y_tk (C 21) (v + 1) x ↔ x = C 21 v ∨ y_tk (C 21) v x := fun x => by
          constructor
          · rintro ⟨j, j1, j2, j3⟩
            by_cases e : j = v
            · rw [e] at j3; exact Or.inl j3.symm
            · exact Or.inr ⟨j, j1, by omega, j3⟩
          · rintro (e | ⟨j, j1, j2, j3⟩)
            · exact ⟨v, h0, by omega, e.symm⟩
            · exact ⟨j, j1, by omega, j3⟩
        have r0 := (y_rk_m (C := C) 0 v h0).2
        have r1 := y_rk_le (C := C) (show 0 ≤ v + 1 by omega) (show v + 1 ≤ C 19 6 by omega)
        rw [y_rk_s h0] at r1
        have e3 : z_st M 50 v (C 21 v) 48 3 = y_rk C v := by rw [z_st_c (by decide)]; exact h3
        rw [z_lt_t (by omega), z_rd_t (by omega), m21, z_wr_t (by omega), Plan_isAddress_e (by omega) (by rw [s0, s1]; omega), s0, s1, z_cl_e, z_jn_e, z_eq_b]
        by_cases ca' : 0 ≤ C 21 v ∧ C 21 v < C 19 0 * C 19 1
        · rw [if_pos ca', z_wz_t (by omega)]
          simp only [z_nm_e]
          refine ih (v + 1) _ (by omega) (by omega) (by omega) (fun c j g1 g2 g3 g4 => by rw [z_st_c g4, z_st_c g3]; exact hM c j g1 g2 g3 g4) (fun j g => by rw [z_st_c (by decide), z_st_c (by decide)]; exact hM8 j g) ?_ (fun i g1 g2 => ?_) (fun x g1 g2 => ?_)
          · rw [z_st_c (by decide), e3, y_rk_s h0, if_neg (by omega), Int.add_zero]
          · by_cases e : i = v
            · refine ⟨?_, fun q => by rw [e] at q; omega⟩
              rw [z_st_c (by decide), z_st_i e, e]
            · refine ⟨?_, fun q => ?_⟩
              · rw [z_st_c (by decide), z_st_n e]; exact (hA i g1 (by omega)).1
              · rw [z_st_c (by decide), z_st_c (by decide)]; exact (hA i g1 (by omega)).2 q
          · rw [key]
            by_cases e : x = C 21 v
            · rw [z_st_i e]; exact ⟨fun _ => rfl, fun q => absurd (Or.inl e) q⟩
            · rw [z_st_n e, z_st_c (by decide)]
              exact ⟨fun q => (hB x g1 g2).1 (q.resolve_left e), fun q => (hB x g1 g2).2 (fun k => q (Or.inr k))⟩
        · have cl : C 21 v = -1 := by omega
          rw [if_pos cl] at r1
          rw [if_neg ca', e3, z_lt_t (by omega), z_wr_t (by omega), z_pf_e]
          simp only [z_nm_e]
          have e4 : z_st (z_st M 50 v (C 21 v)) 49 (y_rk C v) v 48 3 = y_rk C v := by rw [z_st_c (by decide)]; exact e3
          rw [e4]
          refine ih (v + 1) _ (by omega) (by omega) (by omega) (fun c j g1 g2 g3 g4 => by rw [z_st_c g1, z_st_c g2, z_st_c g3]; exact hM c j g1 g2 g3 g4) (fun j g => by rw [z_st_n g, z_st_c (by decide), z_st_c (by decide)]; exact hM8 j g) ?_ (fun i g1 g2 => ?_) (fun x g1 g2 => ?_)
          · rw [z_st_i rfl, y_rk_s h0, if_pos cl]
          · by_cases e : i = v
            · refine ⟨?_, fun _ => ?_⟩
              · rw [z_st_c (by decide), z_st_c (by decide), z_st_i e, e]
              · rw [z_st_c (by decide), e, z_st_i rfl]
            · refine ⟨?_, fun q => ?_⟩
              · rw [z_st_c (by decide), z_st_c (by decide), z_st_n e]; exact (hA i g1 (by omega)).1
              · have := y_rk_lt (C := C) g1 (show i < v by omega) q
                rw [z_st_c (by decide), z_st_n (by omega), z_st_c (by decide)]
                exact (hA i g1 (by omega)).2 q
          · rw [key, z_st_c (by decide), z_st_c (by decide), z_st_c (by decide)]
            have e : x ≠ C 21 v := fun q => ca' (by omega)
            exact ⟨fun q => (hB x g1 g2).1 (q.resolve_left e), fun q => (hB x g1 g2).2 (fun k => q (Or.inr k))⟩
      · rw [z_lt_f (by omega)]
        have : v = C 19 6 := by omega
        subst this
        exact ⟨M, rfl, hM, hM8, h3, hA, hB⟩
  obtain ⟨M1, a1, a2, a3⟩ := k1 N 0 M0 (fun (M1 : zMem) => z_pf M1 48 3 0 (fun M2 => z_jn (fun (M3 : zMem) => some (0, M3)) (fun k1 => Search_takeFixed_28 N k1 N 0 M2))) (by omega) (by omega) (by omega) (fun _ _ _ => rfl) (fun a g1 g2 => by omega)
  obtain ⟨M2, b1, b2, b3, b4, b5, b6⟩ := k2 N 0 (z_st M1 48 3 0) (by omega) (by omega) (by omega) (fun c j g1 g2 g3 g4 => by rw [z_st_c g1, a2 c j g4]; exact hM0 c j g1) (fun j g => by rw [z_st_n g]; exact a2 48 j (by decide)) (by rw [z_st_i rfl]; rfl) (fun i g1 g2 => by omega) (fun a g1 g2 => ⟨fun ⟨j, j1, j2, j3⟩ => by omega, fun _ => by rw [z_st_c (by decide)]; exact a3 a g1 (by omega)⟩)
  refine ⟨M2, ?_, b2, b3, b4, b5, fun a g1 g2 => ?_⟩
  · unfold Search_takeFixed
    rw [z_jn_e, a1, z_pf_e, z_jn_e, b1]
  · have gb := y_grp_b (a := a) hP
    unfold y_f0
    by_cases q : y_fnd (C 21) a (C 19 6).toNat 0 = -1
    · rw [if_pos q, if_neg (by omega)]; exact (b6 a g1 g2).2 (y_tk_fnd.mp q)
    · rw [if_neg q, if_pos rfl]; exact (b6 a g1 g2).1 (Classical.byContradiction fun k => q (y_tk_fnd.mpr k))
theorem Search_group_e {C M0 : zMem} {N : Nat} (hP : y_P C) (hN : 400 ≤ N) (h19 : ∀ j, M0 19 j = C 19 j) (h51 : ∀ a : Int, 0 ≤ a → a < C 19 0 * C 19 1 → M0 51 a = if y_f0 C a = -1 then 1 else 0) :
    ∃ M' : zMem, Search_groupAddresses N M0 = some (0, M') ∧ (∀ c j, c ≠ 52 → c ≠ 53 → M' c j = M0 c j) ∧ (∀ a : Int, 0 ≤ a → a < C 19 0 * C 19 1 → M' 52 a = y_grp C a) ∧ ∀ g : Int, 0 ≤ g → g < 24 → M' 53 g = y_cnt (y_f0 C) g (C 19 0 * C 19 1).toNat := by
  obtain ⟨p1, p2, p3, p4, p5, p6⟩ := id hP
  have ts := y_ts p1 p2
  have k1 : ∀ (n : Nat) (v : Int) (M : zMem) (k : zMem → zO), 0 ≤ v → v ≤ 24 → 24 - v < n → (∀ c j, c ≠ 53 → M c j = M0 c j) → (∀ a : Int, 0 ≤ a → a < v → M 53 a = 0) → ∃ M' : zMem, Search_groupAddresses_2 N k n v M = k M' ∧ (∀ c j, c ≠ 53 → M' c j = M0 c j) ∧ ∀ a : Int, 0 ≤ a → a < 24 → M' 53 a = 0 := by
    intro n
    induction n with
    | zero => intro v M k _ _ h; omega
    | succ n ih =>
      intro v M k h0 h1 hn hM hA
      rw [Search_groupAddresses_2]
      by_cases c : v < 24
      · simp (disch := omega) only [z_lt_t, z_lt_f, z_le_t, z_le_f, z_eq_t, z_eq_f, z_rd_t, z_wr_t, z_wz_t, z_pf_e, z_pz_t, z_nm_e, z_jn_e, z_cl_e, z_rz_t]
        refine ih (v + 1) _ k (by omega) (by omega) (by omega) (fun c j g => by rw [z_st_c g]; exact hM c j g) (fun a g1 g2 => ?_)
        by_cases e : a = v
        · rw [z_st_i e]
        · rw [z_st_n e]; exact hA a g1 (by omega)
      · rw [z_lt_f (by omega)]
        exact ⟨M, rfl, hM, fun a g1 g2 => hA a g1 (by omega)⟩
  have k2 : ∀ (n v : Nat) (M : zMem), (v : Int) ≤ C 19 0 * C 19 1 → C 19 0 * C 19 1 - v < n → (∀ c j, c ≠ 52 → c ≠ 53 → M c j = M0 c j) → (∀ a : Int, 0 ≤ a → a < v → M 52 a = y_grp C a) → (∀ g : Int, 0 ≤ g → g < 24 → M 53 g = y_cnt (y_f0 C) g v) →
      ∃ M' : zMem, Search_groupAddresses_23 N (fun M2 => some (0, M2)) n v M = some (0, M') ∧ (∀ c j, c ≠ 52 → c ≠ 53 → M' c j = M0 c j) ∧ (∀ a : Int, 0 ≤ a → a < C 19 0 * C 19 1 → M' 52 a = y_grp C a) ∧ ∀ g : Int, 0 ≤ g → g < 24 → M' 53 g = y_cnt (y_f0 C) g (C 19 0 * C 19 1).toNat := by
    intro n
    induction n with
    | zero => intro v M _ h; omega
    | succ n ih =>
      intro v M h1 hn hM hA hB
      have k19 : ∀ j, M 19 j = C 19 j := fun j => by rw [hM 19 j (by decide) (by decide)]; exact h19 j
      rw [Search_groupAddresses_23]
      unfold Plan_addresses
      rw [k19, k19, z_cl_e]
      by_cases c : (v : Int) < C 19 0 * C 19 1
      · have hPM : y_P M := by unfold y_P; rw [k19, k19, k19, k19, k19, k19]; exact hP
        have hb := y_turn_b (T := C 19 0) (q := C 19 3) (a := v) p2 (by omega)
        have ht := Clock_turnAt_e (a := v) (q := C 19 3) hPM (by omega) (by omega)
        have gb := y_grp_b (a := v) hP
        have m51 : M 51 v = if y_f0 C v = -1 then 1 else 0 := by rw [hM 51 v (by decide) (by decide)]; exact h51 v (by omega) c
        have ec : (v : Int) + 1 = ((v + 1 : Nat) : Int) := by omega
        have hgd : y_grp C v = if y_turn (C 19 1) (C 19 0) (C 19 3) v = C 19 1 then (v : Int) % y_turn (C 19 1) (C 19 0) (C 19 3) v else 12 + (v : Int) % y_turn (C 19 1) (C 19 0) (C 19 3) v := rfl
        rw [k19, k19] at ht
        rw [z_lt_t (by omega), k19, ht, z_cl_e]
        have tail : ∃ M' : zMem, z_wr M 52 48 v (y_grp C v) (fun M5 => z_rd M5 51 48 v (fun x3 => z_jn (fun (M6 : zMem) => z_nm ((v : Int) + 1) (fun v1_ => Search_groupAddresses_23 N (fun M2 => some (0, M2)) n v1_ M6)) (fun k3 => z_eq x3 0 (z_rd M5 52 48 v (fun x4 => z_rd M5 53 24 x4 (fun x5 => z_wr M5 53 24 x4 (x5 + 1) (fun M7 => k3 M7)))) (k3 M5)))) = some (0, M') ∧ (∀ c j, c ≠ 52 → c ≠ 53 → M' c j = M0 c j) ∧ (∀ a : Int, 0 ≤ a → a < C 19 0 * C 19 1 → M' 52 a = y_grp C a) ∧ ∀ g : Int, 0 ≤ g → g < 24 → M' 53 g = y_cnt (y_f0 C) g (C 19 0 * C 19 1).toNat := by
          have e51 : z_st M 52 v (y_grp C v) 51 v = if y_f0 C v = -1 then 1 else 0 := by rw [z_st_c (by decide)]; exact m51
          have e52 : z_st M 52 v (y_grp C v) 52 v = y_grp C v := z_st_i rfl
          have e53 : z_st M 52 v (y_grp C v) 53 (y_grp C v) = y_cnt (y_f0 C) (y_grp C v) v := by rw [z_st_c (by decide)]; exact hB _ gb.1 gb.2
          have cs : ∀ g : Int, y_cnt (y_f0 C) g (v + 1) = y_cnt (y_f0 C) g v + if y_f0 C v = g then 1 else 0 := fun g => rfl
          rw [z_wr_t (by omega), z_rd_t (by omega), e51, z_jn_e]
          by_cases cf : y_f0 C v = -1
          · rw [if_pos cf, z_eq_f (by omega)]
            simp only [z_nm_e, ec]
            refine ih (v + 1) _ (by omega) (by omega) (fun c j g1 g2 => by rw [z_st_c g1]; exact hM c j g1 g2) (fun a g1 g2 => ?_) (fun g g1 g2 => ?_)
            · by_cases e : a = v
              · rw [z_st_i e, e]
              · rw [z_st_n e]; exact hA a g1 (by omega)
            · rw [z_st_c (by decide), cs, if_neg (by omega), Int.add_zero]; exact hB g g1 g2
          · have hfv : y_f0 C v = y_grp C v := by
              unfold y_f0 at cf ⊢
              by_cases q : y_fnd (C 21) v (C 19 6).toNat 0 = -1
              · rw [if_pos q]
              · rw [if_neg q] at cf; exact absurd rfl cf
            rw [if_neg cf, z_eq_t (by omega), z_rd_t (by omega), e52, z_rd_t (by omega), e53, z_wr_t (by omega)]
            simp only [z_nm_e, ec]
            refine ih (v + 1) _ (by omega) (by omega) (fun c j g1 g2 => by rw [z_st_c g2, z_st_c g1]; exact hM c j g1 g2) (fun a g1 g2 => ?_) (fun g g1 g2 => ?_)
            · rw [z_st_c (by decide)]
              by_cases e : a = v
              · rw [z_st_i e, e]
              · rw [z_st_n e]; exact hA a g1 (by omega)
            · rw [cs, hfv]
              by_cases e : g = y_grp C v
              · rw [z_st_i e, e, if_pos rfl]
              · rw [z_st_n e, z_st_c (by decide), if_neg (fun q => e q.symm), Int.add_zero]; exact hB g g1 g2
        rw [z_jn_e, z_lt_t (by omega), z_mt_t (by omega)]
        simp only []
        rw [z_jn_e, k19]
        by_cases cq : y_turn (C 19 1) (C 19 0) (C 19 3) v = C 19 1
        · rw [if_pos cq] at hgd
          rw [z_eq_t (by omega), ← hgd]
          exact tail
        · rw [if_neg cq] at hgd
          rw [z_eq_f (by omega), ← hgd]
          exact tail
      · rw [z_lt_f (by omega)]
        have : v = (C 19 0 * C 19 1).toNat := by omega
        subst this
        exact ⟨M, rfl, hM, fun a g1 g2 => hA a g1 (by omega), hB⟩
  obtain ⟨M1, a1, a2, a3⟩ := k1 N 0 M0 (fun (M1 : zMem) => z_jn (fun (M2 : zMem) => some (0, M2)) (fun k1 => Search_groupAddresses_23 N k1 N 0 M1)) (by omega) (by omega) (by omega) (fun _ _ _ => rfl) (fun a g1 g2 => by omega)
  obtain ⟨M2, b1, b2, b3, b4⟩ := k2 N 0 M1 (by omega) (by omega) (fun c j g1 g2 => a2 c j g2) (fun a g1 g2 => by omega) (fun g g1 g2 => a3 g g1 g2)
  refine ⟨M2, ?_, b2, b3, b4⟩
  unfold Search_groupAddresses
  rw [z_jn_e, a1, z_jn_e]
  exact b1
theorem Search_look_e {C : zMem} {N R : Nat} (hP : y_P C) (hN : 400 ≤ N) (hR : y_TR C R) (hV : y_PV C R) (hT : ∀ a, 0 ≤ y_at C R a ∧ y_at C R a ≤ 9000) (h4 : y_rk C (C 19 6) ≤ 4) (hf : ∀ i : Int, 0 ≤ i → i < C 19 6 → C 21 i = -1 ∨ (0 ≤ C 21 i ∧ C 21 i < C 19 0 * C 19 1)) (h8 : C 48 8 = 0) :
    ∃ M' : zMem, Search_look N C = some (0, M') ∧ q_C C (y_it C) (y_rk C (C 19 6)) (C 21) (y_f0 C) ((lvC (y_it C) (C 19 0 * C 19 1).toNat (y_rk C (C 19 6)).toNat 0 (C 21) (y_f0 C) 1).foldl (jC (y_at C R)) (-1, 0, 0, fun _ => 0)) M' := by
  obtain ⟨p1, p2, p3, p4, p5, p6⟩ := id hP
  have ts := y_ts p1 p2
  have hK := y_it_K (C := C) p6.1 h4
  have kb := hK.1
  have fr0 : ∀ c j, c ≠ 48 → z_st (z_st (z_st (z_st C 48 8 1) 48 9 (-1)) 48 10 0) 48 11 0 c j = C c j := fun c j g => by rw [z_st_c g, z_st_c g, z_st_c g, z_st_c g]
  obtain ⟨M1, a1, a2, a3, a4, a5, a6⟩ := Search_takeFixed_e (M0 := z_st (z_st (z_st (z_st C 48 8 1) 48 9 (-1)) 48 10 0) 48 11 0) hP hN fr0 h4 hf
  obtain ⟨M2, b1, b2, b3, b4⟩ := Search_group_e (M0 := M1) hP hN (fun j => a2 19 j (by decide) (by decide) (by decide) (by decide)) a6
  have k19 : ∀ j, M2 19 j = C 19 j := fun j => by rw [b2 19 j (by decide) (by decide)]; exact a2 19 j (by decide) (by decide) (by decide) (by decide)
  have hPM : y_P M2 := by unfold y_P; rw [k19, k19, k19, k19, k19, k19]; exact hP
  have m50 : ∀ i : Int, 0 ≤ i → i < C 19 6 → M2 50 i = C 21 i := fun i g1 g2 => by rw [b2 50 i (by decide) (by decide)]; exact (a5 i g1 g2).1
  obtain ⟨M3, c1, c2, c3⟩ := Clock_aim_e (C := M2) (ca := 50) (q := C 19 3) hPM hN (by omega) (by decide) (fun i g1 g2 => by
    rw [k19] at g2
    rw [m50 i g1 g2]; have := hf i g1 g2; omega)
  have fr : ∀ c j, c ≠ 42 → c ≠ 43 → c ≠ 48 → c ≠ 49 → c ≠ 50 → c ≠ 51 → c ≠ 52 → c ≠ 53 → M3 c j = C c j := fun c j g1 g2 g3 g4 g5 g6 g7 g8 => by
    rw [c2 c j g1 g2, b2 c j g7 g8]; exact a2 c j g3 g4 g5 g6
  have e48 : ∀ j : Int, j ≠ 3 → M3 48 j = z_st (z_st (z_st (z_st C 48 8 1) 48 9 (-1)) 48 10 0) 48 11 0 48 j := fun j g => by
    rw [c2 48 j (by decide) (by decide), b2 48 j (by decide) (by decide)]; exact a3 j g
  have hq : q_C C (y_it C) (y_rk C (C 19 6)) (C 21) (y_f0 C) (-1, 0, 0, fun _ => 0) M3 := by
    refine ⟨fun c j g => fr c j (by omega) (by omega) (by omega) (by omega) (by omega) (by omega) (by omega) (by omega), ⟨?_, ?_⟩, fun e g1 g2 => ?_, fun i g1 g2 g3 => ?_, fun a g1 g2 => ⟨?_, ?_⟩, fun g g1 g2 => ?_, ⟨?_, ?_, ?_⟩, fun q => absurd rfl q⟩
    · rw [c2 48 3 (by decide) (by decide), b2 48 3 (by decide) (by decide)]; exact a4
    · rw [e48 8 (by decide), z_st_n (by decide), z_st_n (by decide), z_st_n (by decide), z_st_i rfl]
    · obtain ⟨i, i1, i2, i3, i4⟩ := y_rk_ex (C := C) (e := e) (C 19 6).toNat g1 (by rw [show (((C 19 6).toNat : Nat) : Int) = C 19 6 by omega]; exact g2)
      rw [c2 49 e (by decide) (by decide), b2 49 e (by decide) (by decide), ← i4, (a5 i i1 (by omega)).2 i3, y_it_e (by omega) i3]
    · have := c3 i.toNat (by rw [k19]; omega)
      rw [show ((i.toNat : Nat) : Int) = i by omega, k19, k19, m50 i g1 g2] at this
      exact ⟨by rw [c2 50 i (by decide) (by decide)]; exact m50 i g1 g2, this⟩
    · rw [c2 51 a (by decide) (by decide), b2 51 a (by decide) (by decide)]; exact a6 a g1 g2
    · rw [c2 52 a (by decide) (by decide)]; exact b3 a g1 g2
    · rw [c2 53 g (by decide) (by decide)]; exact b4 g g1 g2
    · rw [e48 9 (by decide), z_st_n (by decide), z_st_n (by decide), z_st_i rfl]
    · rw [e48 11 (by decide), z_st_i rfl]
    · rw [e48 10 (by decide), z_st_n (by decide), z_st_i rfl]
  have hNd : q_N C (y_it C) (y_rk C (C 19 6)) 0 (C 21) (y_f0 C) := by
    refine ⟨fun i g1 g2 => ⟨hf i g1 g2, fun q => ⟨y_rk C i, (y_rk_m (C := C) 0 i g1).2, y_rk_lt g1 g2 q, y_it_e ⟨g1, g2⟩ q⟩⟩, fun e g1 g2 => (hK.2.1 e g1 g2).2, fun a g1 g2 => ?_⟩
    unfold y_f0
    split
    · exact Or.inr rfl
    · exact Or.inl rfl
  obtain ⟨M', t1, t2⟩ := q_tree hP hN hR hV hT hK (y_rk C (C 19 6)).toNat 6 0 (C 21) (y_f0 C) 1 (-1, 0, 0, fun _ => 0) M3 (by omega) (by omega) (by omega) hNd hq ⟨Or.inl rfl, by decide, by decide⟩
  refine ⟨M', ?_, t2⟩
  unfold Search_look
  rw [z_eq_t (by omega), z_pz_t (by omega), z_pf_e, z_pf_e, z_pf_e, a1, z_cl_e, b1, z_cl_e, k19, c1, z_cl_e, t1, z_cl_e]
