/-! reading: the plan told so far, on both sides -/
def wkD (M : zMem) (i : Int) : Int := y_sum (fun j => if M 11 j = -1 then 1 else 0) i.toNat
def rkD (M : zMem) (i : Int) : Int := y_sum (fun j => if M 11 j = -1 ∨ M 11 j = 7 then 0 else 1) i.toNat
theorem wkD_s {M : zMem} {i : Int} (h : 0 ≤ i) : wkD M (i + 1) = wkD M i + if M 11 i = -1 then 1 else 0 := by
  unfold wkD
  rw [show (i + 1).toNat = i.toNat + 1 by omega]
  show y_sum _ i.toNat + (if M 11 ((i.toNat : Nat) : Int) = -1 then 1 else 0) = _
  rw [show ((i.toNat : Nat) : Int) = i by omega]
theorem rkD_s {M : zMem} {i : Int} (h : 0 ≤ i) : rkD M (i + 1) = rkD M i + if M 11 i = -1 ∨ M 11 i = 7 then 0 else 1 := by
  unfold rkD
  rw [show (i + 1).toNat = i.toNat + 1 by omega]
  show y_sum _ i.toNat + (if M 11 ((i.toNat : Nat) : Int) = -1 ∨ M 11 ((i.toNat : Nat) : Int) = 7 then 0 else 1) = _
  rw [show ((i.toNat : Nat) : Int) = i by omega]
theorem wkD_nn {M : zMem} (i : Int) : 0 ≤ wkD M i := (y_sum_b (b := 1) i.toNat (fun j _ => by
    show 0 ≤ (if M 11 j = -1 then (1 : Int) else 0) ∧ (if M 11 j = -1 then (1 : Int) else 0) ≤ 1
    split <;> omega)).1
theorem rkD_nn {M : zMem} (i : Int) : 0 ≤ rkD M i := (y_sum_b (b := 1) i.toNat (fun j _ => by
    show 0 ≤ (if M 11 j = -1 ∨ M 11 j = 7 then (0 : Int) else 1) ∧ (if M 11 j = -1 ∨ M 11 j = 7 then (0 : Int) else 1) ≤ 1
    split <;> omega)).1
theorem wkD_le {M : zMem} {i j : Int} (h0 : 0 ≤ i) (h : i ≤ j) : wkD M i ≤ wkD M j := by
  have : ∀ d : Nat, wkD M i ≤ wkD M (i + d) := by
    intro d
    induction d with
    | zero => rw [show i + ((0 : Nat) : Int) = i by omega]; exact Int.le_refl _
    | succ d ih =>
      rw [show i + ((d + 1 : Nat) : Int) = (i + d) + 1 by omega, wkD_s (by omega)]
      split <;> omega
  have := this (j - i).toNat
  rw [show i + (((j - i).toNat : Nat) : Int) = j by omega] at this
  exact this
theorem rkD_le {M : zMem} {i j : Int} (h0 : 0 ≤ i) (h : i ≤ j) : rkD M i ≤ rkD M j := by
  have : ∀ d : Nat, rkD M i ≤ rkD M (i + d) := by
    intro d
    induction d with
    | zero => rw [show i + ((0 : Nat) : Int) = i by omega]; exact Int.le_refl _
    | succ d ih =>
      rw [show i + ((d + 1 : Nat) : Int) = (i + d) + 1 by omega, rkD_s (by omega)]
      split <;> omega
  have := this (j - i).toNat
  rw [show i + (((j - i).toNat : Nat) : Int) = j by omega] at this
  exact this
theorem wkD_lt {M : zMem} {i j : Int} (h0 : 0 ≤ i) (h : i < j) (hi : M 11 i = -1) : wkD M i < wkD M j := by
  have := wkD_le (M := M) (show 0 ≤ i + 1 by omega) (show i + 1 ≤ j by omega)
  rw [wkD_s h0, if_pos hi] at this
  omega
theorem rkD_lt {M : zMem} {i j : Int} (h0 : 0 ≤ i) (h : i < j) (hi : M 11 i ≠ -1) (hi7 : M 11 i ≠ 7) : rkD M i < rkD M j := by
  have := rkD_le (M := M) (show 0 ≤ i + 1 by omega) (show i + 1 ≤ j by omega)
  rw [rkD_s h0, if_neg (by omega)] at this
  omega
theorem wkD_c {M M' : zMem} {i m : Int} (hi : i ≤ m) (h : ∀ j : Int, 0 ≤ j → j < m → M' 11 j = M 11 j) : wkD M' i = wkD M i := by
  unfold wkD
  exact y_sum_congr _ (fun j hj => by
    show (if M' 11 j = -1 then (1 : Int) else 0) = if M 11 j = -1 then 1 else 0
    rw [h j (by omega) (by omega)])
theorem rkD_c {M M' : zMem} {i m : Int} (hi : i ≤ m) (h : ∀ j : Int, 0 ≤ j → j < m → M' 11 j = M 11 j) : rkD M' i = rkD M i := by
  unfold rkD
  exact y_sum_congr _ (fun j hj => by
    show (if M' 11 j = -1 ∨ M' 11 j = 7 then (0 : Int) else 1) = if M 11 j = -1 ∨ M 11 j = 7 then 0 else 1
    rw [h j (by omega) (by omega)])
/-- item i, as it is told -/
def itI (t : Int → Int) (sz : Int) (M E : zMem) (i : Int) : Prop := nmS t sz M E i ∧ ((-1 ≤ M 11 i ∧ M 11 i ≤ 7) ∧ E 1 (129 + i) = M 12 i ∧ (M 12 i = -1 ∨ (0 ≤ M 12 i ∧ M 12 i < M 10 0 * M 10 1))) ∧
  (M 11 i = -1 → E 1 (9 + i) = 0 ∧ E 1 (29 + i) = M 13 i ∧ (-9999 ≤ M 13 i ∧ M 13 i ≤ 9999) ∧ M 18 i = wkD M i ∧ M 17 (wkD M i) = i) ∧
  (M 11 i ≠ -1 → E 1 (9 + i) = 1 ∧ E 1 (49 + i) = M 11 i ∧ (M 11 i = 6 → E 1 (89 + i) = M 15 i ∧ 1 ≤ M 15 i ∧ M 15 i ≤ 7) ∧ (M 11 i ≠ 7 → rfS t sz M E 5 6 i (2 * rkD M i) 0 ∧ rfS t sz M E 7 8 i (2 * rkD M i + 1) 1))
def d4 (M E : zMem) : Prop := E 1 4 = M 10 4 ∧ 0 ≤ M 10 4 ∧ M 10 4 ≤ 9
def plF (M E : zMem) : Prop := d0 M E ∧ d1 M E ∧ d2 M E ∧ d3 M E ∧ d4 M E
def plN (M E : zMem) (m : Int) : Prop := M 10 6 = m ∧ E 1 5 = m ∧ E 0 22 = M 10 7 ∧ E 0 23 = M 10 8 ∧ 0 ≤ M 10 7 ∧ M 10 7 ≤ 8 ∧ 0 ≤ M 10 8 ∧ M 10 8 ≤ 12 ∧ m = M 10 7 + M 10 8 ∧ m ≤ M 10 0 * M 10 1 ∧ M 10 7 = wkD M m ∧ rkD M m ≤ M 10 8
def plS (M : zMem) (m : Int) : Prop := (M 10 8 = 0 → M 10 9 = -1 ∧ ∀ i : Int, 0 ≤ i → i < m → M 11 i = -1) ∧ (0 < M 10 8 → (0 ≤ M 10 9 ∧ M 10 9 < m) ∧ M 11 (M 10 9) ≠ -1 ∧ ∀ i : Int, 0 ≤ i → i < M 10 9 → M 11 i = -1)
def plI (t : Int → Int) (sz : Int) (M E : zMem) (m : Int) : Prop := plF M E ∧ plN M E m ∧ plS M m ∧ ∀ i : Int, 0 ≤ i → i < m → itI t sz M E i
/-- frames within the line of item m -/
def mM (m : Int) (M M' : zMem) : Prop := ∀ c j, c ≠ 3 → c ≠ 9 → ((c < 4 ∨ 8 < c) ∨ j ≠ m) → M' c j = M c j
def mE (m ρ : Int) (E E' : zMem) : Prop := (∀ c j, c ≠ 0 → c ≠ 1 → ((c < 5 ∨ 10 < c) ∨ ((c = 5 ∨ c = 6) ∧ j ≠ m) ∨ (7 ≤ c ∧ c ≤ 10 ∧ j < ρ)) → E' c j = E c j) ∧ (∀ j : Int, j ≠ 9 + m → j ≠ 29 + m → j ≠ 49 + m → j ≠ 89 + m → j ≠ 129 + m → E' 1 j = E 1 j) ∧ ∀ j : Int, (j < 7 ∨ (14 < j ∧ j ≠ 21)) → E' 0 j = E 0 j
theorem mM_t {m : Int} {M M' M'' : zMem} (h : mM m M M') (h' : mM m M' M'') : mM m M M'' := fun c j g1 g2 g3 => by rw [h' c j g1 g2 g3, h c j g1 g2 g3]
theorem mE_t {m ρ : Int} {E E' E'' : zMem} (h : mE m ρ E E') (h' : mE m ρ E' E'') : mE m ρ E E'' := ⟨fun c j g1 g2 g3 => by rw [h'.1 c j g1 g2 g3, h.1 c j g1 g2 g3], fun j g1 g2 g3 g4 g5 => by rw [h'.2.1 j g1 g2 g3 g4 g5, h.2.1 j g1 g2 g3 g4 g5], fun j g => by rw [h'.2.2 j g, h.2.2 j g]⟩
theorem mM_a {m : Int} {M M' : zMem} (h : aM M M') : mM m M M' := fun c j g1 g2 _ => h c j g2 g1
theorem mM_n {m : Int} {M M' : zMem} (h : nM m M M') : mM m M M' := fun c j g1 g2 g3 => h c j g1 g2 (by omega)
theorem mM_f {m : Int} {ca cb : Nat} {M M' : zMem} (hc : (ca = 5 ∧ cb = 6) ∨ (ca = 7 ∧ cb = 8)) (h : rfM ca cb m M M') : mM m M M' := fun c j g1 g2 g3 => h c j g1 g2 (by omega)
theorem mE_a {m ρ : Int} {E E' : zMem} (h : aE E E') : mE m ρ E E' := ⟨fun c j g1 _ _ => h c j (Or.inl g1), fun j _ _ _ _ _ => h 1 j (by omega), fun j g => h 0 j (by omega)⟩
theorem mE_n {m ρ : Int} {E E' : zMem} (h : nE m E E') : mE m ρ E E' := ⟨fun c j g1 g2 g3 => h c j (Or.inl g1) (by omega), fun j _ _ _ _ _ => h 1 j (by omega) (by omega), fun j g => h 0 j (by omega) (by omega)⟩
theorem mE_f {m ρ k : Int} {E E' : zMem} (hk : ρ ≤ k) (h : rfE k E E') : mE m ρ E E' := ⟨fun c j g1 g2 g3 => h c j (Or.inl g1) (by omega), fun j _ _ _ _ _ => h 1 j (by omega) (by omega), fun j g => h 0 j (by omega) (by omega)⟩
theorem mE_d {m ρ : Int} {E E' : zMem} (h : adE m E E') : mE m ρ E E' := ⟨fun c j g1 g2 _ => h c j (Or.inl g1) (Or.inl g2), fun j _ _ _ _ g5 => h 1 j (by omega) (by omega), fun j g => h 0 j (by omega) (by omega)⟩
theorem mE_s {m ρ x v : Int} {E : zMem} (hx : x = 9 + m ∨ x = 29 + m ∨ x = 49 + m ∨ x = 89 + m ∨ x = 129 + m) : mE m ρ E (z_st E 1 x v) := ⟨fun c j g1 g2 _ => z_st_c g2, fun j g1 g2 g3 g4 g5 => z_st_n (by omega), fun j g => z_st_c (by decide)⟩
section
variable {t : Int → Int} {sz m : Int} {M E M' E' : zMem}
theorem itI_c {i : Int} (h : itI t sz M E i) (hi : 0 ≤ i ∧ i < m) (hM : ∀ c, (4 ≤ c ∧ c ≤ 8) ∨ (11 ≤ c ∧ c ≤ 13) ∨ c = 15 ∨ c = 18 → M' c i = M c i) (h11 : ∀ j : Int, 0 ≤ j → j < m → M' 11 j = M 11 j) (h17 : ∀ j : Int, 0 ≤ j → j < wkD M m → M' 17 j = M 17 j) (h10 : M' 10 0 = M 10 0 ∧ M' 10 1 = M 10 1)
    (h5 : E' 5 i = E 5 i ∧ E' 6 i = E 6 i) (h1 : E' 1 (9 + i) = E 1 (9 + i) ∧ E' 1 (29 + i) = E 1 (29 + i) ∧ E' 1 (49 + i) = E 1 (49 + i) ∧ E' 1 (89 + i) = E 1 (89 + i) ∧ E' 1 (129 + i) = E 1 (129 + i)) (h7 : ∀ c (k : Int), 7 ≤ c → c ≤ 10 → k < 2 * rkD M m → E' c k = E c k) : itI t sz M' E' i := by
  obtain ⟨k1, k2, k3, k4⟩ := h
  have ew := wkD_c (M := M) (M' := M') (i := i) (m := m) (by omega) h11
  have er := rkD_c (M := M) (M' := M') (i := i) (m := m) (by omega) h11
  unfold itI
  rw [hM 11 (by omega), hM 12 (by omega), hM 13 (by omega), hM 15 (by omega), hM 18 (by omega), h10.1, h10.2, h1.1, h1.2.1, h1.2.2.1, h1.2.2.2.1, h1.2.2.2.2, ew, er]
  refine ⟨?_, k2, fun q => ?_, fun q => ?_⟩
  · unfold nmS at k1 ⊢
    rw [h5.1, h5.2, hM 4 (by omega)]
    exact k1
  · have := wkD_lt hi.1 hi.2 q
    rw [h17 _ (wkD_nn i) this]
    exact k3 q
  · obtain ⟨s1, s2, s3, s4⟩ := k4 q
    refine ⟨s1, s2, s3, fun q7 => ?_⟩
    have lt := rkD_lt hi.1 hi.2 q q7
    obtain ⟨f1, f2⟩ := s4 q7
    unfold rfS at f1 f2 ⊢
    rw [h7 7 _ (by omega) (by omega) (by omega), h7 8 _ (by omega) (by omega) (by omega), h7 9 _ (by omega) (by omega) (by omega), h7 10 _ (by omega) (by omega) (by omega), h7 7 _ (by omega) (by omega) (by omega), h7 8 _ (by omega) (by omega) (by omega), h7 9 _ (by omega) (by omega) (by omega), h7 10 _ (by omega) (by omega) (by omega), hM 5 (by omega), hM 6 (by omega), hM 7 (by omega), hM 8 (by omega)]
    exact ⟨f1, f2⟩
theorem plF_c (h : plF M E) (h10 : ∀ j : Int, j < 5 → M' 10 j = M 10 j) (h1 : ∀ j : Int, j < 5 → E' 1 j = E 1 j) : plF M' E' := by
  unfold plF d0 d1 d2 d3 d4 at h ⊢
  rw [h10 0 (by omega), h10 1 (by omega), h10 2 (by omega), h10 3 (by omega), h10 4 (by omega), h1 0 (by omega), h1 1 (by omega), h1 2 (by omega), h1 3 (by omega), h1 4 (by omega)]
  exact h
theorem plI_r (h : plI t sz M E m) : 0 ≤ m ∧ m ≤ 20 ∧ m ≤ M 10 0 * M 10 1 ∧ M 10 0 * M 10 1 ≤ 48 := by
  obtain ⟨f, n, -⟩ := h
  have := y_ts f.1.2 f.2.1.2
  unfold plN at n
  omega
theorem plI_m (h : plI t sz M E m) (h1 : mM m M M') (h2 : mE m (2 * rkD M m) E E') (hm : m < 20 ∨ ∀ j : Int, E' 1 j = E 1 j) : plI t sz M' E' m := by
  have r := plI_r h
  obtain ⟨f, n, s, it⟩ := h
  have m10 : ∀ j, M' 10 j = M 10 j := fun j => h1 10 j (by omega) (by omega) (by omega)
  have m11 : ∀ j, M' 11 j = M 11 j := fun j => h1 11 j (by omega) (by omega) (by omega)
  have ew := wkD_c (M := M) (M' := M') (i := m) (m := m) (by omega) (fun j _ _ => m11 j)
  have er := rkD_c (M := M) (M' := M') (i := m) (m := m) (by omega) (fun j _ _ => m11 j)
  refine ⟨plF_c f (fun j _ => m10 j) (fun j q => h2.2.1 j (by omega) (by omega) (by omega) (by omega) (by omega)), ?_, ?_, fun i g1 g2 => itI_c (m := m) (it i g1 g2) ⟨g1, g2⟩ (fun c q => h1 c i (by omega) (by omega) (by omega)) (fun j _ _ => m11 j) (fun j _ _ => h1 17 j (by omega) (by omega) (by omega)) ⟨m10 0, m10 1⟩ ⟨h2.1 5 i (by omega) (by omega) (by omega), h2.1 6 i (by omega) (by omega) (by omega)⟩ ?_ (fun c k q1 q2 q3 => h2.1 c k (by omega) (by omega) (by omega))⟩
  · unfold plN at n ⊢
    rw [ew, er, m10, m10, m10, m10, m10, h2.2.1 5 (by omega) (by omega) (by omega) (by omega) (by omega), h2.2.2 22 (by omega), h2.2.2 23 (by omega)]
    exact n
  · unfold plS at s ⊢
    simp only [m10, m11]
    exact s
  · rcases hm with hm | hm
    · exact ⟨h2.2.1 _ (by omega) (by omega) (by omega) (by omega) (by omega), h2.2.1 _ (by omega) (by omega) (by omega) (by omega) (by omega), h2.2.1 _ (by omega) (by omega) (by omega) (by omega) (by omega), h2.2.1 _ (by omega) (by omega) (by omega) (by omega) (by omega), h2.2.1 _ (by omega) (by omega) (by omega) (by omega) (by omega)⟩
    · exact ⟨hm _, hm _, hm _, hm _, hm _⟩
theorem plI_a (h : plI t sz M E m) (h1 : aM M M') (h2 : aE E E') : plI t sz M' E' m := plI_m h (mM_a h1) (mE_a h2) (Or.inr fun j => h2 1 j (by omega))
theorem cP_of (h : plI t sz M E m) (hb : cT M) : cP M := by
  have r := plI_r h
  obtain ⟨f, n, s, it⟩ := h
  have n6 := n.1
  refine ⟨hb, by omega, by omega, fun i g1 g2 => ?_⟩
  obtain ⟨a1, a2, -⟩ := it i g1 (by omega)
  have := y_nm_r a1.2.2
  rw [a1.2.1]
  exact ⟨by omega, by omega⟩
end
