/-! words further on -/
/-- how many words stand ahead of item i -/
def y_wk (C : zMem) (i : Int) : Int := y_sum (fun j => if C 20 j = -1 then 1 else 0) i.toNat
theorem y_wk_s {C : zMem} {i : Int} (h : 0 ≤ i) : y_wk C (i + 1) = y_wk C i + if C 20 i = -1 then 1 else 0 := by
  unfold y_wk
  rw [show (i + 1).toNat = i.toNat + 1 by omega]
  show y_sum _ i.toNat + (if C 20 ((i.toNat : Nat) : Int) = -1 then 1 else 0) = _
  rw [show ((i.toNat : Nat) : Int) = i by omega]
theorem y_wk_nn {C : zMem} (i : Int) : 0 ≤ y_wk C i := (y_sum_b (b := 1) i.toNat (fun j _ => by
    show 0 ≤ (if C 20 j = -1 then (1 : Int) else 0) ∧ (if C 20 j = -1 then (1 : Int) else 0) ≤ 1
    split <;> omega)).1
theorem y_wk_le {C : zMem} {i : Int} (h0 : 0 ≤ i) : ∀ d : Nat, y_wk C i ≤ y_wk C (i + d) := by
  intro d
  induction d with
  | zero => rw [show i + ((0 : Nat) : Int) = i by omega]; exact Int.le_refl _
  | succ d ih =>
    rw [show i + ((d + 1 : Nat) : Int) = (i + d) + 1 by omega, y_wk_s (by omega)]
    split <;> omega
theorem y_wk_le' {C : zMem} {i j : Int} (h0 : 0 ≤ i) (h : i ≤ j) : y_wk C i ≤ y_wk C j := by
  have := y_wk_le (C := C) h0 (j - i).toNat
  rw [show i + (((j - i).toNat : Nat) : Int) = j by omega] at this
  exact this
theorem y_wk_lt {C : zMem} {i j : Int} (h0 : 0 ≤ i) (h : i < j) (hi : C 20 i = -1) : y_wk C i < y_wk C j := by
  have := y_wk_le' (C := C) (show 0 ≤ i + 1 by omega) (show i + 1 ≤ j by omega)
  rw [y_wk_s h0, if_pos hi] at this
  omega
/-- no words from i on to j: as many ahead of both -/
theorem y_wk_eq {C : zMem} {i : Int} (h0 : 0 ≤ i) : ∀ d : Nat, (∀ x : Int, i ≤ x → x < i + d → C 20 x ≠ -1) → y_wk C (i + d) = y_wk C i := by
  intro d
  induction d with
  | zero => intro _; rw [show i + ((0 : Nat) : Int) = i by omega]
  | succ d ih =>
    intro h
    rw [show i + ((d + 1 : Nat) : Int) = (i + d) + 1 by omega, y_wk_s (by omega), if_neg (h _ (by omega) (by omega)), Int.add_zero]
    exact ih (fun x g1 g2 => h x g1 (by omega))
/-- the table of the words -/
def p_T (C : zMem) : Prop := (C 19 7 = y_wk C (C 19 6) ∧ C 19 7 ≤ 8) ∧ ∀ i : Int, 0 ≤ i → i < C 19 6 → C 20 i = -1 → C 27 i = y_wk C i ∧ C 26 (y_wk C i) = i
theorem wb_to {C E : zMem} {N : Nat} {v : Int} {k : Int → zMem → zO} (h6 : 1 ≤ C 19 6 ∧ C 19 6 ≤ 20) (h5 : E 1 5 = C 19 6) (h9 : ∀ i : Int, 0 ≤ i → i < C 19 6 → E 1 (9 + i) = if C 20 i = -1 then 0 else 1) :
    ∀ (d : Nat) (x : Int) (f : Nat), 0 ≤ x → x + d < C 19 6 → (∀ y : Int, x ≤ y → y < x + d → C 20 y ≠ -1) → Model_wordBehind_21 N v k (f + d) x E = Model_wordBehind_21 N v k f (x + d) E := by
  intro d
  induction d with
  | zero => intro x f _ _ _; rw [show x + ((0 : Nat) : Int) = x by omega]; rfl
  | succ d ih =>
    intro x f h0 h1 hn
    have e9 := h9 x h0 (by omega)
    rw [if_neg (hn x (by omega) (by omega))] at e9
    show Model_wordBehind_21 N v k ((f + d) + 1) x E = _
    rw [Model_wordBehind_21, z_rd_t (by omega), e9, z_eq_t (by omega), z_rd_t (by omega), h5, z_mt_t (by omega), Int.emod_eq_of_lt (by omega) (by omega), ih (x + 1) f (by omega) (by omega) (fun y g1 g2 => hn y (by omega) (by omega)), show x + 1 + (d : Int) = x + ((d + 1 : Nat) : Int) by omega]
theorem wb_wrap {C E : zMem} {N : Nat} {v : Int} {k : Int → zMem → zO} (h6 : 1 ≤ C 19 6 ∧ C 19 6 ≤ 20) (h5 : E 1 5 = C 19 6) (h9 : ∀ i : Int, 0 ≤ i → i < C 19 6 → E 1 (9 + i) = if C 20 i = -1 then 0 else 1) {x : Int} (f : Nat) (h0 : 0 ≤ x) (h1 : x < C 19 6) (hn : ∀ y : Int, x ≤ y → y < C 19 6 → C 20 y ≠ -1) :
    Model_wordBehind_21 N v k (f + 1 + (C 19 6 - 1 - x).toNat) x E = Model_wordBehind_21 N v k f 0 E := by
  rw [wb_to h6 h5 h9 (C 19 6 - 1 - x).toNat x (f + 1) h0 (by omega) (fun y g1 g2 => hn y g1 (by omega)), show x + (((C 19 6 - 1 - x).toNat : Nat) : Int) = C 19 6 - 1 by omega]
  have e9 := h9 (C 19 6 - 1) (by omega) (by omega)
  rw [if_neg (hn _ (by omega) (by omega))] at e9
  rw [Model_wordBehind_21, z_rd_t (by omega), e9, z_eq_t (by omega), z_rd_t (by omega), h5, z_mt_t (by omega), show C 19 6 - 1 + 1 = C 19 6 by omega, Int.emod_self]
/-- the first word from x on, around -/
theorem wb_first {C E : zMem} {N : Nat} {v : Int} {k : Int → zMem → zO} (hN : 400 ≤ N) (h6 : 1 ≤ C 19 6 ∧ C 19 6 ≤ 20) (hT : p_T C) (hW : 0 < C 19 7) (h5 : E 1 5 = C 19 6) (h9 : ∀ i : Int, 0 ≤ i → i < C 19 6 → E 1 (9 + i) = if C 20 i = -1 then 0 else 1) {x : Int} (h0 : 0 ≤ x) (h1 : x < C 19 6) :
    Model_wordBehind_21 N v k N x E = k (C 26 (y_wk C x % C 19 7)) E ∧ (0 ≤ C 26 (y_wk C x % C 19 7) ∧ C 26 (y_wk C x % C 19 7) < C 19 6) ∧ C 20 (C 26 (y_wk C x % C 19 7)) = -1 ∧ y_wk C (C 26 (y_wk C x % C 19 7)) = y_wk C x % C 19 7 := by
  -- from x to a word at y, fuel enough
  have reach : ∀ (x y : Int) (f : Nat), 0 ≤ x → x ≤ y → y < C 19 6 → C 20 y = -1 → (∀ z : Int, x ≤ z → z < y → C 20 z ≠ -1) → 30 ≤ f → Model_wordBehind_21 N v k f x E = k y E := fun x y f g0 g1 g2 g3 g4 g5 => by
    have e := wb_to (v := v) (k := k) (N := N) h6 h5 h9 (y - x).toNat x (f - (y - x).toNat - 1 + 1) g0 (by omega) (fun z k1 k2 => g4 z k1 (by omega))
    rw [show f - (y - x).toNat - 1 + 1 + (y - x).toNat = f by omega, show x + (((y - x).toNat : Nat) : Int) = y by omega] at e
    have e9 := h9 y (by omega) g2
    rw [if_pos g3] at e9
    rw [e, Model_wordBehind_21, z_rd_t (by omega), e9, z_eq_f (by omega)]
  have first : ∀ x : Int, 0 ≤ x → (∃ y : Int, x ≤ y ∧ y < C 19 6 ∧ C 20 y = -1) → ∃ y : Int, x ≤ y ∧ y < C 19 6 ∧ C 20 y = -1 ∧ (∀ z : Int, x ≤ z → z < y → C 20 z ≠ -1) ∧ y_wk C y = y_wk C x := fun x g0 ⟨y, y1, y2, y3⟩ => by
    obtain ⟨b, b1, b2, b3, b4⟩ := y_least (p := fun t => C 20 (x + t) = -1) (C 19 6 - x).toNat (y - x) (by omega) (by omega) (by rw [show x + (y - x) = y by omega]; exact y3)
    have hno : ∀ z : Int, x ≤ z → z < x + b → C 20 z ≠ -1 := fun z k1 k2 q => b4 (z - x) (by omega) (by omega) (by rw [show x + (z - x) = z by omega]; exact q)
    refine ⟨x + b, by omega, by omega, b3, hno, ?_⟩
    have := y_wk_eq (C := C) g0 b.toNat (fun z k1 k2 => hno z k1 (by omega))
    rw [show x + ((b.toNat : Nat) : Int) = x + b by omega] at this
    exact this
  have wle : ∀ x : Int, 0 ≤ x → x ≤ C 19 6 → y_wk C x ≤ C 19 7 := fun x g1 g2 => by rw [hT.1.1]; exact y_wk_le' g1 g2
  by_cases c : ∃ y : Int, x ≤ y ∧ y < C 19 6 ∧ C 20 y = -1
  · obtain ⟨y, y1, y2, y3, y4, y5⟩ := first x h0 c
    have hlt : y_wk C y < C 19 7 := by rw [hT.1.1]; exact y_wk_lt (by omega) y2 y3
    have nn := y_wk_nn (C := C) x
    have e : y_wk C x % C 19 7 = y_wk C x := Int.emod_eq_of_lt nn (by omega)
    have e26 : C 26 (y_wk C x) = y := by rw [← y5]; exact (hT.2 y (by omega) y2 y3).2
    rw [e, e26]
    exact ⟨reach x y N h0 y1 y2 y3 y4 (by omega), ⟨by omega, y2⟩, y3, y5⟩
  · have hno : ∀ y : Int, x ≤ y → y < C 19 6 → C 20 y ≠ -1 := fun y g1 g2 q => c ⟨y, g1, g2, q⟩
    have ew : y_wk C x = C 19 7 := by
      have := y_wk_eq (C := C) h0 (C 19 6 - x).toNat (fun z k1 k2 => hno z k1 (by omega))
      rw [show x + (((C 19 6 - x).toNat : Nat) : Int) = C 19 6 by omega] at this
      rw [hT.1.1]; exact this.symm
    have ex0 : ∃ y : Int, 0 ≤ y ∧ y < C 19 6 ∧ C 20 y = -1 := by
      apply Classical.byContradiction
      intro q
      have := y_wk_eq (C := C) (Int.le_refl 0) (C 19 6).toNat (fun z k1 k2 k3 => q ⟨z, k1, by omega, k3⟩)
      rw [show (0 : Int) + (((C 19 6).toNat : Nat) : Int) = C 19 6 by omega] at this
      have z : y_wk C 0 = 0 := rfl
      rw [z, ← hT.1.1] at this
      omega
    obtain ⟨y, y1, y2, y3, y4, y5⟩ := first 0 (Int.le_refl 0) ex0
    have z0 : y_wk C 0 = 0 := rfl
    rw [z0] at y5
    have e : y_wk C x % C 19 7 = 0 := by rw [ew]; exact Int.emod_self
    have e26 : C 26 0 = y := by rw [← y5]; exact (hT.2 y (by omega) y2 y3).2
    rw [e, e26]
    refine ⟨?_, ⟨by omega, y2⟩, y3, y5⟩
    have := wb_wrap (v := v) (k := k) (N := N) h6 h5 h9 (x := x) (N - 1 - (C 19 6 - 1 - x).toNat) h0 h1 hno
    rw [show N - 1 - (C 19 6 - 1 - x).toNat + 1 + (C 19 6 - 1 - x).toNat = N by omega] at this
    rw [this]
    exact reach 0 y _ (Int.le_refl 0) y1 y2 y3 y4 (by omega)
/-- v words further, on both sides -/
theorem wb_e {C E : zMem} {N : Nat} (hN : 400 ≤ N) (h6 : 1 ≤ C 19 6 ∧ C 19 6 ≤ 20) (hT : p_T C) (h5 : E 1 5 = C 19 6) (h9 : ∀ i : Int, 0 ≤ i → i < C 19 6 → E 1 (9 + i) = if C 20 i = -1 then 0 else 1) {k : Int → zMem → zO} :
    ∀ (v n : Nat) (x : Int), v < n → v ≤ 7 → 0 ≤ x → x < C 19 6 → C 20 x = -1 → Model_wordBehind_5 N k n x v E = k (C 26 ((y_wk C x + v) % C 19 7)) E ∧ (0 ≤ C 26 ((y_wk C x + v) % C 19 7) ∧ C 26 ((y_wk C x + v) % C 19 7) < C 19 6) ∧ C 20 (C 26 ((y_wk C x + v) % C 19 7)) = -1 := by
  intro v
  induction v with
  | zero =>
    intro n x hn _ h0 h1 hx
    obtain ⟨n', e⟩ : ∃ n', n = n' + 1 := ⟨n - 1, by omega⟩
    subst e
    have hlt : y_wk C x < C 19 7 := by rw [hT.1.1]; exact y_wk_lt h0 h1 hx
    have nn := y_wk_nn (C := C) x
    rw [show y_wk C x + ((0 : Nat) : Int) = y_wk C x by omega, Int.emod_eq_of_lt nn hlt, (hT.2 x h0 h1 hx).2]
    refine ⟨?_, ⟨h0, h1⟩, hx⟩
    rw [Model_wordBehind_5, z_lt_f (by omega)]
  | succ v ih =>
    intro n x hn hv h0 h1 hx
    obtain ⟨n', e⟩ : ∃ n', n = n' + 1 := ⟨n - 1, by omega⟩
    subst e
    have hlt : y_wk C x < C 19 7 := by rw [hT.1.1]; exact y_wk_lt h0 h1 hx
    have nn := y_wk_nn (C := C) x
    have em0 := Int.emod_nonneg (x + 1) (show C 19 6 ≠ 0 by omega)
    have em1 := Int.emod_lt_of_pos (x + 1) (show 0 < C 19 6 by omega)
    have ewk : y_wk C ((x + 1) % C 19 6) % C 19 7 = (y_wk C x + 1) % C 19 7 := by
      by_cases c : x + 1 < C 19 6
      · rw [Int.emod_eq_of_lt (by omega) c, y_wk_s h0, if_pos hx]
      · have e1 : x + 1 = C 19 6 := by omega
        have e2 := y_wk_s (C := C) h0
        rw [if_pos hx, e1, ← hT.1.1] at e2
        rw [e1, Int.emod_self, ← e2, Int.emod_self]
        show (0 : Int) % C 19 7 = 0
        exact Int.zero_emod _
    obtain ⟨f1, f2, f3, f4⟩ := wb_first (E := E) (v := ((v + 1 : Nat) : Int)) (k := fun (v3_ : Int) (M1 : zMem) => z_nm (((v + 1 : Nat) : Int) + (-1)) (fun v4_ => Model_wordBehind_5 N k n' v3_ v4_ M1)) hN h6 hT (by omega) h5 h9 (x := (x + 1) % C 19 6) em0 em1
    obtain ⟨i1, i2, i3⟩ := ih n' (C 26 (y_wk C ((x + 1) % C 19 6) % C 19 7)) (by omega) (by omega) f2.1 f2.2 f3
    have eq : (y_wk C (C 26 (y_wk C ((x + 1) % C 19 6) % C 19 7)) + v) % C 19 7 = (y_wk C x + ((v + 1 : Nat) : Int)) % C 19 7 := by
      rw [f4, ewk, Int.emod_add_emod, show y_wk C x + 1 + (v : Int) = y_wk C x + ((v + 1 : Nat) : Int) by omega]
    rw [eq] at i1 i2 i3
    refine ⟨?_, i2, i3⟩
    rw [Model_wordBehind_5, z_lt_t (by omega), z_rd_t (by omega), h5, z_mt_t (by omega), z_jn_e, f1, z_nm_e, show ((v + 1 : Nat) : Int) + -1 = (v : Int) by omega]
    exact i1
