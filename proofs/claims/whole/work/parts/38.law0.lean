/-! laws 0 and 1 -/
theorem y_fnd_none {f : Int → Int} {x : Int} : ∀ (m : Nat) (i : Int), 0 ≤ i → (y_fnd f x m i = -1 ↔ ∀ j : Int, i ≤ j → j < i + m → f j ≠ x) := by
  intro m
  induction m with
  | zero => intro i _; exact ⟨fun _ j g1 g2 => by omega, fun _ => rfl⟩
  | succ m ih =>
    intro i hi
    show (if f i = x then i else y_fnd f x m (i + 1)) = -1 ↔ _
    by_cases c : f i = x
    · rw [if_pos c]
      exact ⟨fun q => by omega, fun q => absurd c (q i (Int.le_refl i) (by omega))⟩
    · rw [if_neg c, ih (i + 1) (by omega)]
      refine ⟨fun q j g1 g2 => ?_, fun q j g1 g2 => q j (by omega) (by omega)⟩
      by_cases e : j = i
      · rw [e]; exact c
      · exact q j (by omega) (by omega)
/-- a is taken by f, of n -/
def y_tk (f : Int → Int) (n a : Int) : Prop := ∃ j : Int, 0 ≤ j ∧ j < n ∧ f j = a
theorem y_tk_fnd {f : Int → Int} {n a : Int} : y_fnd f a n.toNat 0 = -1 ↔ ¬ y_tk f n a := by
  rw [y_fnd_none _ _ (Int.le_refl 0)]
  exact ⟨fun q ⟨j, g1, g2, g3⟩ => q j g1 (by omega) g3, fun q j g1 g2 g3 => q ⟨j, g1, by omega, g3⟩⟩
theorem y_pig : ∀ (n : Nat) (f : Int → Int) (m : Nat), (∀ a : Nat, a < m → ∃ j : Nat, j < n ∧ f j = a) → m ≤ n := by
  intro n
  induction n with
  | zero =>
    intro f m h
    by_cases c : m = 0
    · omega
    · obtain ⟨j, hj, _⟩ := h 0 (by omega); omega
  | succ n ih =>
    intro f m h
    by_cases c : m = 0
    · omega
    · by_cases hx : ∃ a0 : Nat, a0 < m ∧ f n = a0
      · obtain ⟨a0, h1, h2⟩ := hx
        have : m - 1 ≤ n := ih (fun j => if f j = ((m - 1 : Nat) : Int) then a0 else f j) (m - 1) (fun a ha => by
          by_cases e : a = a0
          · obtain ⟨j, j1, j2⟩ := h (m - 1) (by omega)
            have : j ≠ n := fun q => by subst q; omega
            exact ⟨j, by omega, by show (if f j = ((m - 1 : Nat) : Int) then (a0 : Int) else f j) = a; rw [if_pos j2, e]⟩
          · obtain ⟨j, j1, j2⟩ := h a (by omega)
            have : j ≠ n := fun q => by subst q; omega
            exact ⟨j, by omega, by show (if f j = ((m - 1 : Nat) : Int) then (a0 : Int) else f j) = a; rw [if_neg (by omega)]; exact j2⟩)
        omega
      · have := ih f m (fun a ha => by
          obtain ⟨j, j1, j2⟩ := h a ha
          have : j ≠ n := fun q => by subst q; exact hx ⟨a, ha, j2⟩
          exact ⟨j, by omega, j2⟩)
        omega
theorem y_free_ex {f : Int → Int} {n m v : Int} (hv : 0 ≤ v ∧ v < n) (hf : f v = -1) (hm : n ≤ m) : ∃ a : Int, 0 ≤ a ∧ a < m ∧ ¬ y_tk f n a := by
  apply Classical.byContradiction
  intro q
  have h : ∀ a : Int, 0 ≤ a → a < m → y_tk f n a := fun a g1 g2 => Classical.byContradiction fun g3 => q ⟨a, g1, g2, g3⟩
  have := y_pig (n.toNat - 1) (fun j => if j = v then f (n - 1) else f j) m.toNat (fun a ha => by
    obtain ⟨j, j1, j2, j3⟩ := h a (by omega) (by omega)
    have hne : j ≠ v := fun e => by rw [e, hf] at j3; omega
    by_cases e : j = n - 1
    · refine ⟨v.toNat, by omega, ?_⟩
      show (if ((v.toNat : Nat) : Int) = v then f (n - 1) else f ((v.toNat : Nat) : Int)) = a
      rw [if_pos (by omega), ← e]; exact j3
    · refine ⟨j.toNat, by omega, ?_⟩
      show (if ((j.toNat : Nat) : Int) = v then f (n - 1) else f ((j.toNat : Nat) : Int)) = a
      rw [if_neg (by omega), show ((j.toNat : Nat) : Int) = j by omega]; exact j3)
  omega
theorem y_least {p : Int → Prop} : ∀ (m : Nat) (a : Int), 0 ≤ a → a < m → p a → ∃ b : Int, 0 ≤ b ∧ b < m ∧ p b ∧ ∀ x : Int, 0 ≤ x → x < b → ¬ p x := by
  intro m
  induction m with
  | zero => intro a _ h; omega
  | succ m ih =>
    intro a g1 g2 hp
    by_cases c : ∃ x : Int, 0 ≤ x ∧ x < m ∧ p x
    · obtain ⟨x, x1, x2, x3⟩ := c
      obtain ⟨b, b1, b2, b3, b4⟩ := ih x x1 x2 x3
      exact ⟨b, b1, by omega, b3, b4⟩
    · exact ⟨a, g1, by omega, hp, fun x x1 x2 x3 => c ⟨x, x1, by omega, x3⟩⟩
/-- in the midst of laying: L so far -/
def v_I (C D : zMem) (ca : Nat) (L : Int → Int) (M E : zMem) : Prop := (∀ c j, c ≠ ca → c ≠ 47 → M c j = C c j) ∧ (∀ c j, c ≠ 21 → E c j = D c j) ∧ (∀ i : Int, 0 ≤ i → i < C 19 6 → M ca i = L i ∧ E 21 i = L i ∧ (L i = -1 ∨ (0 ≤ L i ∧ L i < C 19 0 * C 19 1))) ∧ ∀ a : Int, 0 ≤ a → a < C 19 0 * C 19 1 → (y_tk L (C 19 6) a → M 47 a = 1) ∧ (¬ y_tk L (C 19 6) a → M 47 a = 0)
theorem v_I_b {C D M E : zMem} {ca : Nat} {L : Int → Int} (hI : v_I C D ca L M E) {a : Int} (h0 : 0 ≤ a) (h1 : a < C 19 0 * C 19 1) : M 47 a = 0 ∨ M 47 a = 1 := by
  by_cases c : y_tk L (C 19 6) a
  · exact Or.inr ((hI.2.2.2 a h0 h1).1 c)
  · exact Or.inl ((hI.2.2.2 a h0 h1).2 c)
theorem Model_isTaken_e {N : Nat} {x : Int} {M : zMem} (hN : 100 ≤ N) (h6 : 0 ≤ M 1 5 ∧ M 1 5 ≤ 20) (hx : z_Rg x) (ha : ∀ i : Int, 0 ≤ i → i < M 1 5 → z_Rg (M 21 i)) : Model_isTaken N x M = some (if y_fnd (M 21) x (M 1 5).toNat 0 = -1 then 0 else 1, M) := by
  have key : ∀ (n : Nat) (i : Nat), (i : Int) ≤ M 1 5 → M 1 5 - i < n → Model_isTaken_2 N x (fun M1 => some (0, M1)) n i M = some (if y_fnd (M 21) x ((M 1 5).toNat - i) i = -1 then 0 else 1, M) := by
    intro n
    induction n with
    | zero => intro i _ h; omega
    | succ n ih =>
      intro i hi hn
      rw [Model_isTaken_2]
      by_cases c : (i : Int) < M 1 5
      · have g := ha i (by omega) c
        have ec : (i : Int) + 1 = ((i + 1 : Nat) : Int) := by omega
        rw [show (M 1 5).toNat - i = ((M 1 5).toNat - (i + 1)) + 1 by omega]
        show _ = some (if (if M 21 i = x then (i : Int) else y_fnd (M 21) x _ (i + 1)) = -1 then 0 else 1, M)
        by_cases c2 : M 21 i = x
        · rw [if_pos c2, if_neg (by omega)]
          simp (disch := omega) only [z_lt_t, z_lt_f, z_le_t, z_le_f, z_eq_t, z_eq_f, z_rd_t, z_wr_t, z_wz_t, z_pf_e, z_pz_t, z_nm_e, z_jn_e, z_cl_e, z_rz_t]
        · rw [if_neg c2]
          simp (disch := omega) only [z_lt_t, z_lt_f, z_le_t, z_le_f, z_eq_t, z_eq_f, z_rd_t, z_wr_t, z_wz_t, z_pf_e, z_pz_t, z_nm_e, z_jn_e, z_cl_e, z_rz_t]
          rw [ec]
          exact ih (i + 1) (by omega) (by omega)
      · simp (disch := omega) only [z_lt_t, z_lt_f, z_le_t, z_le_f, z_eq_t, z_eq_f, z_rd_t, z_wr_t, z_wz_t, z_pf_e, z_pz_t, z_nm_e, z_jn_e, z_cl_e, z_rz_t]
        rw [show (M 1 5).toNat - i = 0 by omega]
        rfl
  unfold Model_isTaken
  rw [z_jn_e]
  exact key N 0 (by omega) (by omega)
theorem v_I_taken {N : Nat} {C D M E : zMem} {ca : Nat} {L : Int → Int} {a : Int} (hN : 400 ≤ N) (hI : v_I C D ca L M E) (h5 : D 1 5 = C 19 6) (h6 : 0 ≤ C 19 6 ∧ C 19 6 ≤ 20) (hTS : C 19 0 * C 19 1 ≤ 48) (ha : 0 ≤ a ∧ a ≤ 48) : (y_tk L (C 19 6) a → Model_isTaken N a E = some (1, E)) ∧ (¬ y_tk L (C 19 6) a → Model_isTaken N a E = some (0, E)) := by
  have e5 : E 1 5 = C 19 6 := by rw [hI.2.1 1 5 (by decide)]; exact h5
  have e := Model_isTaken_e (N := N) (x := a) (M := E) (by omega) (by omega) (by omega) (fun i g1 g2 => by
    have := hI.2.2.1 i g1 (by omega); omega)
  rw [e5, y_fnd_congr (g := L) _ _ (fun j g1 g2 => (hI.2.2.1 j g1 (by omega)).2.1)] at e
  refine ⟨fun q => ?_, fun q => ?_⟩
  · rw [e, if_neg (fun k => (y_tk_fnd.mp k) q)]
  · rw [e, if_pos (y_tk_fnd.mpr q)]
theorem v_lay {N : Nat} {C D M E : zMem} {ca : Nat} {L : Int → Int} {v a : Int} (hP : y_P C) (hca : ca = 57 ∨ ca = 58) (hI : v_I C D ca L M E) (hv : 0 ≤ v ∧ v < C 19 6) (hL : L v = -1) (ha : 0 ≤ a ∧ a < C 19 0 * C 19 1) :
    ∃ M' : zMem, Laws_lay ca v a M = some (0, M') ∧ ∀ E' : zMem, (∀ c j, c ≠ 21 → E' c j = E c j) → (∀ j : Int, j ≠ v → E' 21 j = E 21 j) → E' 21 v = a → v_I C D ca (fun i => if i = v then a else L i) M' E' := by
  obtain ⟨p1, p2, p3, p4, p5, p6⟩ := id hP
  have ts := y_ts p1 p2
  obtain ⟨i1, i2, i3, i4⟩ := id hI
  have m0 : M 19 0 = C 19 0 := i1 19 0 (by omega) (by decide)
  have m1 : M 19 1 = C 19 1 := i1 19 1 (by omega) (by decide)
  refine ⟨z_st (z_st M ca v a) 47 a 1, ?_, fun E' e1 e2 e3 => ⟨fun c j g1 g2 => by rw [z_st_c g2, z_st_c g1]; exact i1 c j g1 g2, fun c j g => by rw [e1 c j g]; exact i2 c j g, fun i g1 g2 => ?_, fun x g1 g2 => ?_⟩⟩
  · have s0 : z_st M ca v a 19 0 = C 19 0 := by rw [z_st_c (by omega)]; exact m0
    have s1 : z_st M ca v a 19 1 = C 19 1 := by rw [z_st_c (by omega)]; exact m1
    unfold Laws_lay
    rw [z_wr_t (by omega), Plan_isAddress_e (by omega) (by rw [s0, s1]; omega), s0, s1, if_pos ha, z_cl_e, z_eq_f (by omega), z_wz_t (by omega)]
  · rw [z_st_c (by omega)]
    show _ = (if i = v then a else L i) ∧ _ = (if i = v then a else L i) ∧ ((if i = v then a else L i) = -1 ∨ (0 ≤ (if i = v then a else L i) ∧ (if i = v then a else L i) < C 19 0 * C 19 1))
    by_cases c : i = v
    · rw [if_pos c, z_st_i c, c, e3]; exact ⟨rfl, rfl, Or.inr ha⟩
    · rw [if_neg c, z_st_n c, e2 i c]; exact i3 i g1 g2
  · have key : y_tk (fun i => if i = v then a else L i) (C 19 6) x ↔ x = a ∨ y_tk L (C 19 6) x := by
      constructor
      · rintro ⟨j, j1, j2, j3⟩
        have j3' : (if j = v then a else L j) = x := j3
        by_cases c : j = v
        · rw [if_pos c] at j3'; exact Or.inl j3'.symm
        · rw [if_neg c] at j3'; exact Or.inr ⟨j, j1, j2, j3'⟩
      · rintro (c | ⟨j, j1, j2, j3⟩)
        · exact ⟨v, hv.1, hv.2, by show (if v = v then a else L v) = x; rw [if_pos rfl]; exact c.symm⟩
        · have : j ≠ v := fun q => by rw [q, hL] at j3; omega
          exact ⟨j, j1, j2, by show (if j = v then a else L j) = x; rw [if_neg this]; exact j3⟩
    rw [key]
    by_cases c : x = a
    · rw [z_st_i c]; exact ⟨fun _ => rfl, fun q => absurd (Or.inl c) q⟩
    · rw [z_st_n c, z_st_c (by omega)]
      exact ⟨fun q => (i4 x g1 g2).1 (q.resolve_left c), fun q => (i4 x g1 g2).2 (fun k => q (Or.inr k))⟩
theorem Laws_leastFree_e {N : Nat} {C D M E : zMem} {ca : Nat} {L : Int → Int} {b : Int} (hP : y_P C) (hN : 400 ≤ N) (hca : ca = 57 ∨ ca = 58) (hI : v_I C D ca L M E) (hb : 0 ≤ b ∧ b < C 19 0 * C 19 1) (hf : ¬ y_tk L (C 19 6) b) (hl : ∀ x : Int, 0 ≤ x → x < b → ¬ ¬ y_tk L (C 19 6) x) : Laws_leastFree N M = some (b, M) := by
  obtain ⟨p1, p2, p3, p4, p5, p6⟩ := id hP
  have ts := y_ts p1 p2
  obtain ⟨i1, i2, i3, i4⟩ := id hI
  have m0 : M 19 0 = C 19 0 := i1 19 0 (by omega) (by decide)
  have m1 : M 19 1 = C 19 1 := i1 19 1 (by omega) (by decide)
  have key : ∀ (n : Nat) (a : Int) (k : zMem → zO), 0 ≤ a → a ≤ b → b - a < n → Laws_leastFree_2 N k n a M = some (b, M) := by
    intro n
    induction n with
    | zero => intro a k _ _ h; omega
    | succ n ih =>
      intro a k h0 h1 hn
      rw [Laws_leastFree_2]
      unfold Plan_addresses
      rw [m0, m1, z_cl_e, z_lt_t (by omega), z_rd_t (by omega)]
      by_cases c : a = b
      · rw [c, (i4 b hb.1 hb.2).2 hf, z_eq_t (by omega)]
      · rw [(i4 a h0 (by omega)).1 (Classical.byContradiction (hl a h0 (by omega))), z_eq_f (by omega), z_nm_e]
        exact ih (a + 1) k (by omega) (by omega) (by omega)
  unfold Laws_leastFree
  rw [z_jn_e]
  exact key N 0 _ (by omega) hb.1 (by omega)
theorem Model_laysRest_14_e {N : Nat} {C D M E : zMem} {ca : Nat} {L : Int → Int} {v b : Int} {k : zMem → zO} (hP : y_P C) (hN : 400 ≤ N) (h5 : D 1 5 = C 19 6) (hI : v_I C D ca L M E) (hv : 0 ≤ v ∧ v < C 19 6) (hL : L v = -1) (hb : 0 ≤ b ∧ b < C 19 0 * C 19 1) (hf : ¬ y_tk L (C 19 6) b) (hl : ∀ x : Int, 0 ≤ x → x < b → ¬ ¬ y_tk L (C 19 6) x) :
    ∃ E' : zMem, Model_laysRest_14 N v k N 0 E = k E' ∧ (∀ c j, c ≠ 21 → E' c j = E c j) ∧ (∀ j : Int, j ≠ v → E' 21 j = E 21 j) ∧ E' 21 v = b := by
  obtain ⟨p1, p2, p3, p4, p5, p6⟩ := id hP
  have ts := y_ts p1 p2
  have key : ∀ (n : Nat) (a : Int) (E : zMem), v_I C D ca L M E → 0 ≤ a → a ≤ b → b - a + 1 < n → ∃ E' : zMem, Model_laysRest_14 N v k n a E = k E' ∧ (∀ c j, c ≠ 21 → E' c j = E c j) ∧ (∀ j : Int, j ≠ v → E' 21 j = E 21 j) ∧ E' 21 v = b := by
    intro n
    induction n with
    | zero => intro a E _ _ _ h; omega
    | succ n ih =>
      intro a E hI h0 h1 hn
      have ev : E 21 v = -1 := by rw [(hI.2.2.1 v hv.1 hv.2).2.1]; exact hL
      obtain ⟨t1, t2⟩ := v_I_taken (a := a) hN hI h5 (by omega) (by omega) (by omega)
      rw [Model_laysRest_14, z_rd_t (by omega), ev, z_eq_t (by omega)]
      by_cases c : a = b
      · rw [t2 (by rw [c]; exact hf)]; simp (disch := omega) only [z_lt_t, z_lt_f, z_le_t, z_le_f, z_eq_t, z_eq_f, z_rd_t, z_wr_t, z_wz_t, z_pf_e, z_pz_t, z_nm_e, z_jn_e, z_cl_e, z_rz_t]
        obtain ⟨n', hn'⟩ : ∃ n', n = n' + 1 := ⟨n - 1, by omega⟩
        refine ⟨z_st E 21 v a, ?_, fun c j g => z_st_c g, fun j g => z_st_n g, by rw [z_st_i rfl]; exact c⟩
        rw [hn', Model_laysRest_14, z_rd_t (by omega), z_st_i rfl, z_eq_f (by omega)]
      · rw [t1 (Classical.byContradiction (hl a h0 (by omega)))]; simp (disch := omega) only [z_lt_t, z_lt_f, z_le_t, z_le_f, z_eq_t, z_eq_f, z_rd_t, z_wr_t, z_wz_t, z_pf_e, z_pz_t, z_nm_e, z_jn_e, z_cl_e, z_rz_t]
        have hs : ∀ c j, z_st E 21 v (-1) c j = E c j := fun c j => by
          by_cases c1 : c = 21
          · subst c1
            by_cases c2 : j = v
            · rw [z_st_i c2, c2, ev]
            · exact z_st_n c2
          · exact z_st_c c1
        have he : z_st E 21 v (-1) = E := funext fun c => funext fun j => hs c j
        rw [he]
        exact ih (a + 1) E hI (by omega) (by omega) (by omega)
  exact key N 0 E hI (by omega) (by omega) (by omega)
/-- the rest, in order, on both sides -/
theorem law_rest {N : Nat} {C D : zMem} {ca : Nat} {k k' : zMem → zO} (hP : y_P C) (hN : 400 ≤ N) (hca : ca = 57 ∨ ca = 58) (h5 : D 1 5 = C 19 6) :
    ∀ (n : Nat) (v : Int) (L : Int → Int) (M E : zMem), v_I C D ca L M E → 0 ≤ v → v ≤ C 19 6 → C 19 6 - v < n → (∀ i : Int, 0 ≤ i → i < v → L i ≠ -1) →
      ∃ (L' : Int → Int) (M' E' : zMem), Laws_layRest_2 N ca k n v M = k M' ∧ Model_laysRest_2 N k' n v E = k' E' ∧ v_I C D ca L' M' E' ∧ ∀ i : Int, 0 ≤ i → i < C 19 6 → L' i ≠ -1 := by
  obtain ⟨p1, p2, p3, p4, p5, p6⟩ := id hP
  have ts := y_ts p1 p2
  intro n
  induction n with
  | zero => intro v L M E _ _ _ h; omega
  | succ n ih =>
    intro v L M E hI h0 h1 hn hd
    have m6 : M 19 6 = C 19 6 := hI.1 19 6 (by omega) (by decide)
    have e5 : E 1 5 = C 19 6 := by rw [hI.2.1 1 5 (by decide)]; exact h5
    rw [Laws_layRest_2, Model_laysRest_2]
    by_cases c : v < C 19 6
    · obtain ⟨x1, x2, x3⟩ := hI.2.2.1 v h0 c
      simp (disch := omega) only [z_lt_t, z_rd_t, z_jn_e, m6, e5, x1]
      by_cases cl : L v = -1
      · obtain ⟨a, a1, a2, a3⟩ := y_free_ex (f := L) (m := C 19 0 * C 19 1) ⟨h0, c⟩ cl (by omega)
        obtain ⟨b, b1, b2, b3, b4⟩ := y_least (p := fun x => ¬ y_tk L (C 19 6) x) (C 19 0 * C 19 1).toNat a a1 (by omega) a3
        have lf := Laws_leastFree_e hP hN hca hI ⟨b1, by omega⟩ b3 b4
        obtain ⟨M', l1, l2⟩ := v_lay (N := N) (a := b) hP hca hI ⟨h0, c⟩ cl ⟨b1, by omega⟩
        obtain ⟨E', r1, r2, r3, r4⟩ := Model_laysRest_14_e (k := fun (M1 : zMem) => z_nm (v + 1) (fun v1_ => Model_laysRest_2 N k' n v1_ M1)) hP hN h5 hI ⟨h0, c⟩ cl ⟨b1, by omega⟩ b3 b4
        rw [z_eq_t (by omega), lf, z_cl_e, l1, z_cl_e, r1, z_nm_e, z_nm_e]
        refine ih (v + 1) _ M' E' (l2 E' r2 r3 r4) (by omega) (by omega) (by omega) (fun i g1 g2 => ?_)
        show (if i = v then b else L i) ≠ -1
        by_cases ci : i = v
        · rw [if_pos ci]; omega
        · rw [if_neg ci]; exact hd i g1 (by omega)
      · obtain ⟨N', hN'⟩ : ∃ N', N = N' + 1 := ⟨N - 1, by omega⟩
        have e : ∀ K : zMem → zO, Model_laysRest_14 N v K N 0 E = K E := fun K => by
          have : Model_laysRest_14 N v K (N' + 1) 0 E = K E := by
            rw [Model_laysRest_14, z_rd_t (by omega), x2, z_eq_f (by omega)]
          rw [← hN'] at this; exact this
        rw [z_eq_f (by omega), e, z_nm_e, z_nm_e]
        refine ih (v + 1) L M E hI (by omega) (by omega) (by omega) (fun i g1 g2 => ?_)
        by_cases ci : i = v
        · rw [ci]; exact cl
        · exact hd i g1 (by omega)
    · simp (disch := omega) only [z_lt_f, z_rd_t, m6, e5]
      exact ⟨L, M, E, rfl, rfl, hI, fun i g1 g2 => hd i g1 (by omega)⟩
theorem Model_laysFixed_e {N : Nat} {D : zMem} (hN : 400 ≤ N) (h6 : 0 ≤ D 1 5 ∧ D 1 5 ≤ 20) : ∃ D' : zMem, Model_laysFixed N D = some (0, D') ∧ (∀ c j, c ≠ 21 → D' c j = D c j) ∧ ∀ i : Int, 0 ≤ i → i < D 1 5 → D' 21 i = D 1 (129 + i) := by
  have key : ∀ (n : Nat) (v : Int) (M : zMem), 0 ≤ v → v ≤ D 1 5 → D 1 5 - v < n → (∀ c j, c ≠ 21 → M c j = D c j) → (∀ i : Int, 0 ≤ i → i < v → M 21 i = D 1 (129 + i)) → ∃ D' : zMem, Model_laysFixed_2 N (fun M1 => some (0, M1)) n v M = some (0, D') ∧ (∀ c j, c ≠ 21 → D' c j = D c j) ∧ ∀ i : Int, 0 ≤ i → i < D 1 5 → D' 21 i = D 1 (129 + i) := by
    intro n
    induction n with
    | zero => intro v M _ _ h; omega
    | succ n ih =>
      intro v M h0 h1 hn hM hA
      have m5 : M 1 5 = D 1 5 := hM 1 5 (by decide)
      have mf : M 1 (129 + v) = D 1 (129 + v) := hM 1 _ (by decide)
      rw [Model_laysFixed_2]
      by_cases c : v < D 1 5
      · simp (disch := omega) only [z_lt_t, z_lt_f, z_le_t, z_le_f, z_eq_t, z_eq_f, z_rd_t, z_wr_t, z_wz_t, z_pf_e, z_pz_t, z_nm_e, z_jn_e, z_cl_e, z_rz_t, m5, mf]
        refine ih (v + 1) _ (by omega) (by omega) (by omega) (fun c j g => by rw [z_st_c g]; exact hM c j g) (fun i g1 g2 => ?_)
        by_cases e : i = v
        · rw [z_st_i e, e]
        · rw [z_st_n e]; exact hA i g1 (by omega)
      · simp (disch := omega) only [z_lt_t, z_lt_f, z_le_t, z_le_f, z_eq_t, z_eq_f, z_rd_t, z_wr_t, z_wz_t, z_pf_e, z_pz_t, z_nm_e, z_jn_e, z_cl_e, z_rz_t, m5]
        exact ⟨M, rfl, hM, fun i g1 g2 => hA i g1 (by omega)⟩
  unfold Model_laysFixed
  rw [z_jn_e]
  exact key N 0 D (by omega) (by omega) (by omega) (fun _ _ _ => rfl) (fun i g1 g2 => by omega)
theorem Laws_layFixed_e {N : Nat} {C : zMem} {ca : Nat} (hP : y_P C) (hN : 400 ≤ N) (hca : ca = 57 ∨ ca = 58) (hf : ∀ i : Int, 0 ≤ i → i < C 19 6 → C 21 i = -1 ∨ (0 ≤ C 21 i ∧ C 21 i < C 19 0 * C 19 1)) :
    ∃ M' : zMem, Laws_layFixed N ca C = some (0, M') ∧ ∀ E D : zMem, (∀ c j, c ≠ 21 → E c j = D c j) → (∀ i : Int, 0 ≤ i → i < C 19 6 → E 21 i = C 21 i) → v_I C D ca (C 21) M' E := by
  obtain ⟨p1, p2, p3, p4, p5, p6⟩ := id hP
  have ts := y_ts p1 p2
  have k1 : ∀ (n : Nat) (v : Int) (M : zMem) (k : zMem → zO), 0 ≤ v → v ≤ 48 → 48 - v < n → (∀ c j, c ≠ 47 → M c j = C c j) → (∀ a : Int, 0 ≤ a → a < v → M 47 a = 0) → ∃ M' : zMem, Laws_layFixed_2 N ca k n v M = k M' ∧ (∀ c j, c ≠ 47 → M' c j = C c j) ∧ ∀ a : Int, 0 ≤ a → a < 48 → M' 47 a = 0 := by
    intro n
    induction n with
    | zero => intro v M k _ _ h; omega
    | succ n ih =>
      intro v M k h0 h1 hn hM hA
      rw [Laws_layFixed_2]
      by_cases c : v < 48
      · simp (disch := omega) only [z_lt_t, z_lt_f, z_le_t, z_le_f, z_eq_t, z_eq_f, z_rd_t, z_wr_t, z_wz_t, z_pf_e, z_pz_t, z_nm_e, z_jn_e, z_cl_e, z_rz_t]
        refine ih (v + 1) _ k (by omega) (by omega) (by omega) (fun c j g => by rw [z_st_c g]; exact hM c j g) (fun a g1 g2 => ?_)
        by_cases e : a = v
        · rw [z_st_i e]
        · rw [z_st_n e]; exact hA a g1 (by omega)
      · rw [z_lt_f (by omega)]
        exact ⟨M, rfl, hM, fun a g1 g2 => hA a g1 (by omega)⟩
  have k2 : ∀ (n : Nat) (v : Int) (M : zMem), 0 ≤ v → v ≤ C 19 6 → C 19 6 - v < n → (∀ c j, c ≠ ca → c ≠ 47 → M c j = C c j) → (∀ i : Int, 0 ≤ i → i < v → M ca i = C 21 i) → (∀ a : Int, 0 ≤ a → a < C 19 0 * C 19 1 → (y_tk (C 21) v a → M 47 a = 1) ∧ (¬ y_tk (C 21) v a → M 47 a = 0)) →
      ∃ M' : zMem, Laws_layFixed_23 N ca (fun M2 => some (0, M2)) n v M = some (0, M') ∧ (∀ c j, c ≠ ca → c ≠ 47 → M' c j = C c j) ∧ (∀ i : Int, 0 ≤ i → i < C 19 6 → M' ca i = C 21 i) ∧ ∀ a : Int, 0 ≤ a → a < C 19 0 * C 19 1 → (y_tk (C 21) (C 19 6) a → M' 47 a = 1) ∧ (¬ y_tk (C 21) (C 19 6) a → M' 47 a = 0) := by
    intro n
    induction n with
    | zero => intro v M _ _ h; omega
    | succ n ih =>
      intro v M h0 h1 hn hM hA hB
      have m6 : M 19 6 = C 19 6 := hM 19 6 (by omega) (by decide)
      have m21 : M 21 v = C 21 v := hM 21 v (by omega) (by decide)
      rw [Laws_layFixed_23, m6]
      by_cases c : v < C 19 6
      · have fv := hf v h0 c
        have s0 : z_st M ca v (C 21 v) 19 0 = C 19 0 := by rw [z_st_c (by omega)]; exact hM 19 0 (by omega) (by decide)
        have s1 : z_st M ca v (C 21 v) 19 1 = C 19 1 := by rw [z_st_c (by omega)]; exact hM 19 1 (by omega) (by decide)
        have key : ∀ x : Int, y_tk (C 21) (v + 1) x ↔ x = C 21 v ∨ y_tk (C 21) v x := fun x => by
          constructor
          · rintro ⟨j, j1, j2, j3⟩
            by_cases e : j = v
            · rw [e] at j3; exact Or.inl j3.symm
            · exact Or.inr ⟨j, j1, by omega, j3⟩
          · rintro (e | ⟨j, j1, j2, j3⟩)
            · exact ⟨v, h0, by omega, e.symm⟩
            · exact ⟨j, j1, by omega, j3⟩
        rw [z_lt_t (by omega), z_rd_t (by omega), m21]
        unfold Laws_lay
        rw [z_wr_t (by omega), Plan_isAddress_e (by omega) (by rw [s0, s1]; omega), s0, s1, z_cl_e, z_eq_b]
        by_cases ca' : 0 ≤ C 21 v ∧ C 21 v < C 19 0 * C 19 1
        · rw [if_pos ca', z_wz_t (by omega), z_cl_e, z_nm_e]
          refine ih (v + 1) _ (by omega) (by omega) (by omega) (fun c j g1 g2 => by rw [z_st_c g2, z_st_c g1]; exact hM c j g1 g2) (fun i g1 g2 => ?_) (fun x g1 g2 => ?_)
          · rw [z_st_c (by omega)]
            by_cases e : i = v
            · rw [z_st_i e, e]
            · rw [z_st_n e]; exact hA i g1 (by omega)
          · rw [key]
            by_cases e : x = C 21 v
            · rw [z_st_i e]; exact ⟨fun _ => rfl, fun q => absurd (Or.inl e) q⟩
            · rw [z_st_n e, z_st_c (by omega)]
              exact ⟨fun q => (hB x g1 g2).1 (q.resolve_left e), fun q => (hB x g1 g2).2 (fun k => q (Or.inr k))⟩
        · rw [if_neg ca', z_cl_e, z_nm_e]
          refine ih (v + 1) _ (by omega) (by omega) (by omega) (fun c j g1 g2 => by rw [z_st_c g1]; exact hM c j g1 g2) (fun i g1 g2 => ?_) (fun x g1 g2 => ?_)
          · by_cases e : i = v
            · rw [z_st_i e, e]
            · rw [z_st_n e]; exact hA i g1 (by omega)
          · rw [key, z_st_c (by omega)]
            have e : x ≠ C 21 v := fun q => ca' (by omega)
            exact ⟨fun q => (hB x g1 g2).1 (q.resolve_left e), fun q => (hB x g1 g2).2 (fun k => q (Or.inr k))⟩
      · rw [z_lt_f (by omega)]
        have : v = C 19 6 := by omega
        subst this
        exact ⟨M, rfl, hM, hA, hB⟩
  obtain ⟨M1, a1, a2, a3⟩ := k1 N 0 C (fun (M1 : zMem) => z_jn (fun (M2 : zMem) => some (0, M2)) (fun k1 => Laws_layFixed_23 N ca k1 N 0 M1)) (by omega) (by omega) (by omega) (fun _ _ _ => rfl) (fun a g1 g2 => by omega)
  obtain ⟨M2, b1, b2, b3, b4⟩ := k2 N 0 M1 (by omega) (by omega) (by omega) (fun c j g1 g2 => a2 c j g2) (fun i g1 g2 => by omega) (fun a g1 g2 => ⟨fun ⟨j, j1, j2, j3⟩ => by omega, fun _ => a3 a g1 (by omega)⟩)
  refine ⟨M2, ?_, fun E D e1 e2 => ⟨b2, e1, fun i g1 g2 => ⟨b3 i g1 g2, e2 i g1 g2, hf i g1 g2⟩, b4⟩⟩
  unfold Laws_layFixed
  rw [z_jn_e, a1, z_jn_e, b1]
