/-! passes: what the marks tell -/
/-- where the readings of step j begin; behind the last step, the end -/
def y_w (M : zMem) (k R : Nat) (j : Nat) : Int := if j < k then M 34 j else R
theorem y_w_s {C M : zMem} {k R j : Nat} (h : uu_T C M k R) (hj : j < k) : y_w M k R (j + 1) = y_w M k R j + if M 32 j = -1 then 1 else 2 := by
  obtain ⟨-, -, c1, -, -⟩ := h
  obtain ⟨g1, g2, g3, g4, g5, g6, g7⟩ := c1 j hj
  unfold y_w
  rw [if_pos hj]
  by_cases q : M 32 j = -1
  · rw [if_pos q, g6 q]
    by_cases c : j + 1 = k
    · rw [if_neg (by omega), if_pos c]
    · rw [if_pos (by omega), if_neg c]
  · rw [if_neg q, (g7 q).1]
    by_cases c : j + 1 = k
    · rw [if_neg (by omega), if_pos c]
    · rw [if_pos (by omega), if_neg c]
theorem y_w_m {C M : zMem} {k R : Nat} (h : uu_T C M k R) {i : Nat} : ∀ d : Nat, i + d ≤ k → y_w M k R i + d ≤ y_w M k R (i + d) := by
  intro d
  induction d with
  | zero => intro _; simp
  | succ d ih =>
    intro hd
    have := ih (by omega)
    have s := y_w_s (j := i + d) h (by omega)
    rw [show i + (d + 1) = i + d + 1 by omega, s]
    split <;> omega
theorem y_w_le {C M : zMem} {k R : Nat} (h : uu_T C M k R) {i j : Nat} (hij : i ≤ j) (hj : j ≤ k) : y_w M k R i + ((j - i : Nat) : Int) ≤ y_w M k R j := by
  have := y_w_m (i := i) h (j - i) (by omega)
  rw [show i + (j - i) = j by omega] at this
  exact this
theorem y_w_0 {C M : zMem} {k R : Nat} (h : uu_T C M k R) : 0 ≤ y_w M k R 0 := by
  unfold y_w
  split
  · rename_i q; have := (h.2.2.1 0 q).2.2.1; exact this.1
  · omega
theorem y_w_e {M : zMem} {k R : Nat} : y_w M k R k = R := if_neg (by omega)
/-- steps from s on match those p later, len of them -/
def y_mt (M : zMem) (s p len : Nat) : Prop := ∀ i : Nat, s ≤ i → i < s + len → M 31 i = M 31 (i + p : Nat) ∧ M 32 i = M 32 (i + p : Nat)
theorem y_mt_d {C M : zMem} {k R s p len : Nat} (h : uu_T C M k R) (hm : y_mt M s p len) (hk : s + len + p ≤ k) : ∀ d : Nat, d ≤ len → y_w M k R (s + d + p) - y_w M k R (s + d) = y_w M k R (s + p) - y_w M k R s := by
  intro d
  induction d with
  | zero => intro _; rfl
  | succ d ih =>
    intro hd
    have i := ih (by omega)
    have s1 := y_w_s (j := s + d) h (by omega)
    have s2 := y_w_s (j := s + d + p) h (by omega)
    have m2 := (hm (s + d) (by omega) (by omega)).2
    rw [← m2] at s2
    rw [show s + (d + 1) + p = s + d + p + 1 by omega, show s + (d + 1) = s + d + 1 by omega, s1, s2]
    omega
theorem y_w_find {M : zMem} {k R s : Nat} {j : Int} : ∀ len : Nat, y_w M k R s ≤ j → j < y_w M k R (s + len) → ∃ i : Nat, s ≤ i ∧ i < s + len ∧ y_w M k R i ≤ j ∧ j < y_w M k R (i + 1) := by
  intro len
  induction len with
  | zero => intro h1 h2; rw [Nat.add_zero] at h2; omega
  | succ len ih =>
    intro h1 h2
    by_cases c : j < y_w M k R (s + len)
    · obtain ⟨i, i1, i2, i3⟩ := ih h1 c
      exact ⟨i, i1, by omega, i3⟩
    · exact ⟨s + len, by omega, by omega, by omega, h2⟩
theorem y_mt_r {C M : zMem} {k R s p len : Nat} {j L : Int} (h : uu_T C M k R) (hm : y_mt M s p len) (hk : s + len + p ≤ k) (hL : L = y_w M k R (s + p) - y_w M k R s) (h1 : y_w M k R s ≤ j) (h2 : j < y_w M k R (s + len)) : M 35 (j + L) = M 35 j ∧ M 36 (j + L) = M 36 j := by
  obtain ⟨i, i1, i2, i3, i4⟩ := y_w_find len h1 h2
  have dd := y_mt_d h hm hk (i - s) (by omega)
  rw [show s + (i - s) + p = i + p by omega, show s + (i - s) = i by omega, ← hL] at dd
  obtain ⟨m1, m2⟩ := hm i i1 i2
  have ss := y_w_s (j := i) h (by omega)
  obtain ⟨a1, a2, a3, a4, a5, a6, a7⟩ := h.2.2.1 i (by omega)
  obtain ⟨b1, b2, b3, b4, b5, b6, b7⟩ := h.2.2.1 (i + p) (by omega)
  have wi : y_w M k R i = M 34 i := if_pos (by omega)
  have wp : y_w M k R (i + p) = M 34 ((i + p : Nat) : Int) := if_pos (by omega)
  rw [wi, wp] at dd
  rw [wi] at i3 ss
  by_cases c : j = M 34 i
  · have e : j + L = M 34 ((i + p : Nat) : Int) := by omega
    rw [e, c, a4, a5, b4, b5, m1]; exact ⟨rfl, rfl⟩
  · have q : M 32 i ≠ -1 := fun q => by rw [if_pos q] at ss; omega
    rw [if_neg q] at ss
    have ej : j = M 34 i + 1 := by omega
    have e : j + L = M 34 ((i + p : Nat) : Int) + 1 := by omega
    obtain ⟨-, -, c3, c4⟩ := a7 q
    obtain ⟨-, -, d3, d4⟩ := b7 (by rw [← m2]; exact q)
    rw [e, ej, c3, c4, d3, d4, m1, m2]; exact ⟨rfl, rfl⟩
/-- what 39 and 40 tell of a step -/
def y_sv (M : zMem) (k s : Nat) : Prop := 0 ≤ M 39 s ∧ (0 < M 39 s → ∃ p q : Nat, M 40 s = p ∧ M 39 s = (q * p : Nat) ∧ 0 < p ∧ 0 < q ∧ s + q * p + 2 * p ≤ k ∧ y_mt M s p (q * p + p))
/-- one mark -/
def y_mk (M : zMem) (k R : Nat) (s p q m : Nat) : Prop := 0 < p ∧ 0 < q ∧ s + q * p + 2 * p ≤ k ∧ y_mt M s p (q * p + p) ∧ (m : Int) = y_w M k R (s + 2 * p) ∧ M 37 m = q ∧ M 38 m = y_w M k R (s + 2 * p) - y_w M k R (s + p)
theorem y_mk_L {C M : zMem} {k R s p q m : Nat} (h : uu_T C M k R) (hm : y_mk M k R s p q m) : ∃ L : Nat, (L : Int) = y_w M k R (s + p) - y_w M k R s ∧ M 38 m = L ∧ 0 < L ∧ (∀ d : Nat, d ≤ q + 1 → y_w M k R (s + d * p) = y_w M k R s + d * L) ∧ y_w M k R (s + q * p + 2 * p) = y_w M k R s + (q + 2 : Nat) * L := by
  obtain ⟨m1, m2, m3, m4, m5, m6, m7⟩ := hm
  have l0 := y_w_le (i := s) (j := s + p) h (by omega) (by omega)
  have step : ∀ d : Nat, d ≤ q + 1 → y_w M k R (s + d * p + p) - y_w M k R (s + d * p) = y_w M k R (s + p) - y_w M k R s := fun d hd => by
    refine y_mt_d h m4 (by omega) (d * p) ?_
    have : d * p ≤ (q + 1) * p := Nat.mul_le_mul_right p hd
    rw [Nat.add_mul, Nat.one_mul] at this
    exact this
  have s1 := step 1 (by omega)
  rw [Nat.one_mul, show s + p + p = s + 2 * p by omega] at s1
  refine ⟨(y_w M k R (s + p) - y_w M k R s).toNat, by omega, by rw [m7]; omega, by omega, ?_, ?_⟩
  · intro d
    induction d with
    | zero => intro _; rw [Nat.zero_mul, Nat.add_zero]; simp
    | succ d ih =>
      intro hd
      have i := ih (by omega)
      have st := step d (by omega)
      rw [show s + (d + 1) * p = s + d * p + p by rw [Nat.add_mul, Nat.one_mul]; omega]
      have e : ((d + 1 : Nat) : Int) * ((y_w M k R (s + p) - y_w M k R s).toNat : Nat) = d * ((y_w M k R (s + p) - y_w M k R s).toNat : Nat) + ((y_w M k R (s + p) - y_w M k R s).toNat : Nat) := by
        rw [Int.natCast_succ, Int.add_mul, Int.one_mul]
      rw [e]; omega
  · have ind : ∀ d : Nat, d ≤ q + 1 → y_w M k R (s + d * p) = y_w M k R s + d * ((y_w M k R (s + p) - y_w M k R s).toNat : Nat) := by
      intro d
      induction d with
      | zero => intro _; rw [Nat.zero_mul, Nat.add_zero]; simp
      | succ d ih =>
        intro hd
        have i := ih (by omega)
        have st := step d (by omega)
        rw [show s + (d + 1) * p = s + d * p + p by rw [Nat.add_mul, Nat.one_mul]; omega]
        have e : ((d + 1 : Nat) : Int) * ((y_w M k R (s + p) - y_w M k R s).toNat : Nat) = d * ((y_w M k R (s + p) - y_w M k R s).toNat : Nat) + ((y_w M k R (s + p) - y_w M k R s).toNat : Nat) := by
          rw [Int.natCast_succ, Int.add_mul, Int.one_mul]
        rw [e]; omega
    have i := ind (q + 1) (by omega)
    have st := step (q + 1) (by omega)
    have ep : s + (q + 1) * p + p = s + q * p + 2 * p := by rw [Nat.add_mul, Nat.one_mul]; omega
    rw [ep] at st
    have e : ((q + 2 : Nat) : Int) * ((y_w M k R (s + p) - y_w M k R s).toNat : Nat) = (q + 1 : Nat) * ((y_w M k R (s + p) - y_w M k R s).toNat : Nat) + ((y_w M k R (s + p) - y_w M k R s).toNat : Nat) := by
      rw [show q + 2 = (q + 1) + 1 by omega, Int.natCast_succ, Int.add_mul, Int.one_mul]
    rw [e]; omega
