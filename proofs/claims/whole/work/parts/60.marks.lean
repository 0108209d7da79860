/-! passes: the marks are told -/
/-- the marks, up to a place t -/
def y_ms (M : zMem) (k R : Nat) (t : Int) : Prop := ∀ m : Nat, m ≤ 200 → (0 ≤ M 37 m ∧ M 37 m ≤ 100) ∧ (0 < M 37 m → ∃ s p q : Nat, y_mk M k R s p q m ∧ (m : Int) + M 37 m * M 38 m ≤ t ∧ ∀ m' : Nat, m' < m → 0 < M 37 m' → (m' : Int) + M 37 m' * M 38 m' ≤ y_w M k R s)
theorem PV_of {C M : zMem} {k R : Nat} {t : Int} (h : uu_T C M k R) (hR : R ≤ 200) (hm : y_ms M k R t) : y_PV M R := by
  refine ⟨fun m g => by have := (hm m (by omega)).1; omega, fun m g g0 => ?_⟩
  obtain ⟨s, p, q, hk, -, hs⟩ := (hm m (by omega)).2 g0
  obtain ⟨L, l1, l2, l3, l4, l5⟩ := y_mk_L h hk
  obtain ⟨m1, m2, m3, m4, m5, m6, m7⟩ := id hk
  have w0 := y_w_le (i := 0) (j := s) h (by omega) (by omega)
  have w00 := y_w_0 h
  have e2 := l4 2 (by omega)
  rw [← m5] at e2
  have hend := y_w_le (i := s + q * p + 2 * p) (j := k) h (by omega) (by omega)
  rw [y_w_e, l5] at hend
  have x1 : ((q + 2 : Nat) : Int) * L = q * L + 2 * L := by rw [Int.natCast_add, Int.add_mul]; rfl
  have x2 : ((q * L : Nat) : Int) = (q : Int) * L := Int.natCast_mul q L
  have x3 : (q - 1) * L + L = q * L := by
    obtain ⟨q', rfl⟩ : ∃ q', q = q' + 1 := ⟨q - 1, by omega⟩
    rw [Nat.add_sub_cancel, Nat.add_mul, Nat.one_mul]
  have e2' : (m : Int) = y_w M k R s + 2 * L := e2
  refine ⟨L, q, l2, m6, l3, by omega, by omega, fun j j1 j2 => ?_, fun m' g1 g2 => ?_⟩
  · have e3 := l4 (q + 1) (Nat.le_refl _)
    have x4 : ((q + 1 : Nat) : Int) * L = q * L + L := by rw [Int.natCast_add, Int.add_mul, Int.natCast_one, Int.one_mul]
    have e4 : s + (q + 1) * p = s + (q * p + p) := by rw [Nat.add_mul, Nat.one_mul]
    rw [e4, x4] at e3
    have := y_mt_r (j := j) (L := L) h m4 (by omega) l1 (by omega) (by omega)
    rw [show ((j + L : Nat) : Int) = (j : Int) + L by omega]
    exact this
  · have := hs m' g1 g2
    omega
theorem scan_e {C B : zMem} {N k R : Nat} {K : zMem → zO} (h : uu_T C B k R) (hk : k ≤ 100) (hR : R ≤ 200) (hs : ∀ s : Nat, s < k → y_sv B k s) :
    ∀ (n u t : Nat) (M : zMem), u ≤ k → t ≤ k → k - t < n → (∀ c j, c ≠ 37 → c ≠ 38 → M c j = B c j) → y_ms M k R (y_w M k R (max u t)) → ∃ M' : zMem, Trace_markPasses_70 N K n u t M = K M' ∧ (∀ c j, c ≠ 37 → c ≠ 38 → M' c j = B c j) ∧ y_ms M' k R (y_w M' k R k) := by
  have hB1 : B 28 1 = k := h.1.1
  intro n
  induction n with
  | zero => intro u t M _ _ h; omega
  | succ n ih =>
    intro u t M hu ht hn hM hms
    have m281 : M 28 1 = k := by rw [hM 28 1 (by decide) (by decide)]; exact hB1
    have hT : uu_T C M k R := by
      unfold uu_T at h ⊢
      rw [show M 28 = B 28 from funext fun j => hM 28 j (by decide) (by decide), show M 31 = B 31 from funext fun j => hM 31 j (by decide) (by decide), show M 32 = B 32 from funext fun j => hM 32 j (by decide) (by decide), show M 34 = B 34 from funext fun j => hM 34 j (by decide) (by decide), show M 35 = B 35 from funext fun j => hM 35 j (by decide) (by decide), show M 36 = B 36 from funext fun j => hM 36 j (by decide) (by decide)]
      exact h
    rw [Trace_markPasses_70, m281]
    by_cases c : t < k
    · obtain ⟨v0, v1⟩ := hs t c
      have m39 : M 39 t = B 39 t := hM 39 t (by decide) (by decide)
      have m40 : M 40 t = B 40 t := hM 40 t (by decide) (by decide)
      rw [z_lt_t (by omega), z_jn_e]
      by_cases cu : ¬ u ≤ t
      · rw [z_le_f (by omega)]
        simp only [z_nm_e]
        rw [show (t : Int) + 1 = ((t + 1 : Nat) : Int) by omega]
        refine ih u (t + 1) M hu (by omega) (by omega) hM ?_
        rw [show max u (t + 1) = max u t by omega]
        exact hms
      rw [show max u t = t by omega] at hms
      rw [z_le_t (by omega), z_rd_t (by omega), m39]
      by_cases cx : 0 < B 39 t
      · obtain ⟨p, q, p1, p2, p3, p4, p5, p6⟩ := v1 cx
        have hqp : 0 < q * p := Nat.mul_pos p4 p3
        have hq100 : q ≤ q * p := Nat.le_mul_of_pos_right q p3
        have hmt : y_mt M t p (q * p + p) := fun i i1 i2 => by
          rw [hM 31 _ (by decide) (by decide), hM 31 _ (by decide) (by decide), hM 32 _ (by decide) (by decide), hM 32 _ (by decide) (by decide)]; exact p6 i i1 i2
        have w2 : y_w M k R (t + 2 * p) = M 34 ((t + 2 * p : Nat) : Int) := if_pos (by omega)
        have w1 : y_w M k R (t + p) = M 34 ((t + p : Nat) : Int) := if_pos (by omega)
        have wb := y_w_le (i := t + 2 * p) (j := k) hT (by omega) (by omega)
        rw [y_w_e] at wb
        have wt := y_w_le (i := t) (j := t + 2 * p) hT (by omega) (by omega)
        have wz := y_w_le (i := 0) (j := t) hT (by omega) (by omega)
        have w00 := y_w_0 hT
        generalize hmm : (M 34 ((t + 2 * p : Nat) : Int)).toNat = mm
        have em : M 34 ((t + 2 * p : Nat) : Int) = mm := by omega
        have edv : ((q * p : Nat) : Int) / p = q := by rw [Int.natCast_mul]; exact Int.mul_ediv_cancel _ (by omega)
        generalize hM3 : z_st (z_st M 37 mm q) 38 mm ((mm : Int) - M 34 ((t + p : Nat) : Int)) = M3
        have k3 : ∀ c j, c ≠ 37 → c ≠ 38 → M3 c j = M c j := fun c j g1 g2 => by rw [← hM3, z_st_c g2, z_st_c g1]
        have k37 : ∀ j : Int, M3 37 j = if j = mm then (q : Int) else M 37 j := fun j => by rw [← hM3, z_st_c (by decide), z_st_s]
        have k38 : ∀ j : Int, M3 38 j = if j = mm then (mm : Int) - M 34 ((t + p : Nat) : Int) else M 38 j := fun j => by rw [← hM3, z_st_s, z_st_c (by decide)]
        have yw3 : ∀ j : Nat, y_w M3 k R j = y_w M k R j := fun j => by unfold y_w; rw [k3 34 j (by decide) (by decide)]
        have mt3 : ∀ {s p len : Nat}, y_mt M s p len → y_mt M3 s p len := fun hx i i1 i2 => by
          rw [k3 31 _ (by decide) (by decide), k3 31 _ (by decide) (by decide), k3 32 _ (by decide) (by decide), k3 32 _ (by decide) (by decide)]; exact hx i i1 i2
        have hT3 : uu_T C M3 k R := by
          unfold uu_T at hT ⊢
          rw [show M3 28 = M 28 from funext fun j => k3 28 j (by decide) (by decide), show M3 31 = M 31 from funext fun j => k3 31 j (by decide) (by decide), show M3 32 = M 32 from funext fun j => k3 32 j (by decide) (by decide), show M3 34 = M 34 from funext fun j => k3 34 j (by decide) (by decide), show M3 35 = M 35 from funext fun j => k3 35 j (by decide) (by decide), show M3 36 = M 36 from funext fun j => k3 36 j (by decide) (by decide)]
          exact hT
        have hmk : y_mk M3 k R t p q mm := ⟨p3, p4, by omega, mt3 hmt, by rw [yw3, w2, em], by rw [k37, if_pos rfl], by rw [k38, if_pos rfl, yw3, yw3, w2, w1, em]⟩
        obtain ⟨L, l1, l2, l3, l4, l5⟩ := y_mk_L hT3 hmk
        have e2 := l4 2 (by omega)
        rw [yw3, yw3, w2, em] at e2
        rw [yw3, yw3] at l5
        have x1 : ((q + 2 : Nat) : Int) * L = q * L + 2 * L := by rw [Int.natCast_add, Int.add_mul]; rfl
        have e2' : (mm : Int) = y_w M k R t + 2 * L := e2
        have old : ∀ m : Nat, m ≤ 200 → 0 < M 37 m → m < mm := fun m g1 g2 => by
          obtain ⟨s, p', q', y1, y2, -⟩ := (hms m g1).2 g2
          obtain ⟨L', z1, z2, z3, z4, z5⟩ := y_mk_L hT y1
          have : 0 ≤ M 37 m * M 38 m := by rw [z2]; exact Int.mul_nonneg (by omega) (by omega)
          omega
        have hms3 : y_ms M3 k R (y_w M3 k R (t + q * p + 2 * p)) := by
          intro m g
          by_cases cm : m = mm
          · subst cm
            rw [k37, if_pos rfl]
            refine ⟨by omega, fun _ => ⟨t, p, q, hmk, ?_, fun m' g1 g2 => ?_⟩⟩
            · rw [l2, yw3, l5]; omega
            · rw [k37, if_neg (by omega)] at g2 ⊢
              rw [k38, if_neg (by omega), yw3]
              obtain ⟨s, p', q', y1, y2, -⟩ := (hms m' (by omega)).2 g2
              exact y2
          · have cmi : ¬ (m : Int) = mm := by omega
            rw [k37, if_neg cmi]
            refine ⟨(hms m g).1, fun g0 => ?_⟩
            obtain ⟨s, p', q', ⟨y1, y2, y3, y4, y5, y6, y7⟩, y8, y9⟩ := (hms m g).2 g0
            have lt := old m g g0
            refine ⟨s, p', q', ⟨y1, y2, y3, mt3 y4, by rw [yw3]; exact y5, by rw [k37, if_neg cmi]; exact y6, by rw [k38, if_neg cmi, yw3, yw3]; exact y7⟩, ?_, fun m' g1 g2 => ?_⟩
            · rw [k38, if_neg cmi, yw3]
              have := y_w_le (i := t) (j := t + q * p + 2 * p) hT (by omega) (by omega)
              omega
            · rw [k37, if_neg (by omega)] at g2 ⊢
              rw [k38, if_neg (by omega), yw3]
              exact y9 m' g1 g2
        have hfrom : Trace_markPassesFrom t p M = some (2 * (p : Int) + (q * p : Nat), M3) := by
          unfold Trace_markPassesFrom
          rw [z_nm_e, z_nm_e, z_jn_e, z_lt_t (by omega), m281, z_lt_t (by omega), show (t : Int) + p + p = ((t + 2 * p : Nat) : Int) by omega, z_rd_t (by omega), em, z_rd_t (by omega), m39, p2, z_dv_t (by omega), edv, z_wr_t (by omega), show (t : Int) + p = ((t + p : Nat) : Int) by omega, z_rd_t (by omega), z_st_c (by decide), z_wr_t (by omega), hM3]
          simp only []
          rw [z_rd_t (by omega), k3 39 t (by decide) (by decide), m39, p2]
        rw [z_lt_t (by omega), z_rd_t (by omega), m40, p1, hfrom, z_cl_e, z_nm_e]
        simp only [z_nm_e]
        rw [show (t : Int) + (2 * (p : Int) + ((q * p : Nat) : Int)) = ((t + q * p + 2 * p : Nat) : Int) by omega, show (t : Int) + 1 = ((t + 1 : Nat) : Int) by omega]
        refine ih (t + q * p + 2 * p) (t + 1) M3 (by omega) (by omega) (by omega) (fun c j g1 g2 => by rw [k3 c j g1 g2]; exact hM c j g1 g2) ?_
        rw [show max (t + q * p + 2 * p) (t + 1) = t + q * p + 2 * p by omega]
        exact hms3
      · rw [z_lt_f (by omega)]
        simp only [z_nm_e]
        rw [show (t : Int) + 1 = ((t + 1 : Nat) : Int) by omega]
        refine ih u (t + 1) M hu (by omega) (by omega) hM ?_
        rw [show max u (t + 1) = t + 1 by omega]
        refine (fun m g => ⟨(hms m g).1, fun g0 => ?_⟩)
        obtain ⟨s, p, q, y1, y2, y3⟩ := (hms m g).2 g0
        have := y_w_le (i := t) (j := t + 1) hT (by omega) (by omega)
        exact ⟨s, p, q, y1, by omega, y3⟩
    · rw [z_lt_f (by omega)]
      have : t = k := by omega
      subst this
      rw [show max u t = t by omega] at hms
      exact ⟨M, rfl, hM, hms⟩
