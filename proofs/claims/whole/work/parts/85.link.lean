/-! reading: what the names mean -/
/-- may item r be the first thing of an operation; item r a step -/
def okS (M : zMem) (m r : Int) : Prop := (0 ≤ r ∧ r < m) ∧ M 11 r ≠ -1
def okF (M : zMem) (m op r : Int) : Prop := (op = 5 ∧ okS M m r) ∨ (op = 6 ∧ okS M m r ∧ M 11 r ≤ 4) ∨ (op ≠ 5 ∧ op ≠ 6 ∧ (0 ≤ r ∧ r < m) ∧ M 11 r = -1)
/-- steps ahead of i are linked -/
def lkI (M E : zMem) (m i : Int) : Prop := ∀ x : Int, 0 ≤ x → x < i → M 11 x ≠ -1 → M 11 x ≠ 7 → E 1 (69 + x) = M 14 x ∧ E 1 (109 + x) = M 16 x ∧ okF M m (M 11 x) (M 14 x) ∧ okS M m (M 16 x)
def kM (M M' : zMem) : Prop := ∀ c j, c ≠ 14 → c ≠ 16 → M' c j = M c j
def kE (E E' : zMem) : Prop := ∀ c j, (c ≠ 1 ∨ ((j < 69 ∨ 88 < j) ∧ (j < 109 ∨ 128 < j))) → E' c j = E c j
theorem kM_t {M M' M'' : zMem} (h : kM M M') (h' : kM M' M'') : kM M M'' := fun c j g1 g2 => by rw [h' c j g1 g2, h c j g1 g2]
theorem kE_t {E E' E'' : zMem} (h : kE E E') (h' : kE E' E'') : kE E E'' := fun c j g => by rw [h' c j g, h c j g]
section
variable {t : Int → Int} {sz b m : Int} {w N : Nat} {M E M' E' : zMem}
theorem kM_p (h : kM M M') : fP M M' := fun c j g => h c j (by omega) (by omega)
theorem kE_p (h : kE E E') : rI E E' := fun c j g => h c j (by omega)
theorem plI_k (h : plI t sz M E m) (h1 : kM M M') (h2 : kE E E') : plI t sz M' E' m := by
  have r := plI_r h
  obtain ⟨f, n, s, it⟩ := h
  have m10 : ∀ j, M' 10 j = M 10 j := fun j => h1 10 j (by decide) (by decide)
  have m11 : ∀ j, M' 11 j = M 11 j := fun j => h1 11 j (by decide) (by decide)
  have ew := wkD_c (M := M) (M' := M') (i := m) (m := m) (by omega) (fun j _ _ => m11 j)
  have er := rkD_c (M := M) (M' := M') (i := m) (m := m) (by omega) (fun j _ _ => m11 j)
  refine ⟨plF_c f (fun j _ => m10 j) (fun j q => h2 1 j (by omega)), ?_, ?_, fun i g1 g2 => itI_c (m := m) (it i g1 g2) ⟨g1, g2⟩ (fun c q => h1 c i (by omega) (by omega)) (fun j _ _ => m11 j) (fun j _ _ => h1 17 j (by decide) (by decide)) ⟨m10 0, m10 1⟩ ⟨h2 5 i (by omega), h2 6 i (by omega)⟩ ⟨h2 1 _ (by omega), h2 1 _ (by omega), h2 1 _ (by omega), h2 1 _ (by omega), h2 1 _ (by omega)⟩ (fun c k q1 q2 q3 => h2 c k (by omega))⟩
  · unfold plN at n ⊢
    rw [ew, er, m10, m10, m10, m10, m10, h2 1 5 (by omega), h2 0 22 (by omega), h2 0 23 (by omega)]
    exact n
  · unfold plS at s ⊢
    simp only [m10, m11]
    exact s
theorem mayBe_e {op r : Int} (hp : plI t sz M E m) (ho : 0 ≤ op ∧ op ≤ 6) (hr : r = -1 ∨ (0 ≤ r ∧ r < m)) : (okF M m op r → Reader_mayBeFirst op r M = some (1, M)) ∧ (¬ okF M m op r → Reader_mayBeFirst op r M = some (0, M)) := by
  have rr := plI_r hp
  have n6 := hp.2.1.1
  have o11 : 0 ≤ r → r < M 10 6 → z_Rg (M (10 + 1) r) := fun q1 q2 => by
    have := (hp.2.2.2 r q1 (by omega)).2.1.1
    show z_Rg (M 11 r)
    omega
  have o12 : (0 ≤ r ∧ r < M 10 6) → (-1 ≤ M 11 r ∧ M 11 r ≤ 7) := fun q => (hp.2.2.2 r q.1 (by omega)).2.1.1
  have s1 : Plan_isStep 10 r M = some (if (0 ≤ r ∧ r < M 10 6) ∧ M 11 r ≠ -1 then 1 else 0, M) := Plan_isStep_e (by omega) (by omega) o11
  have s2 : Plan_isWord 10 r M = some (if (0 ≤ r ∧ r < M 10 6) ∧ M 11 r = -1 then 1 else 0, M) := Plan_isWord_e (by omega) (by omega) o11
  unfold Reader_mayBeFirst okF okS
  simp only [s1, s2, z_cl_e, z_jn_e]
  rw [n6]
  by_cases c5 : op = 5
  · rw [z_eq_t (by omega)]
    by_cases q : (0 ≤ r ∧ r < m) ∧ M 11 r ≠ -1
    · rw [if_pos q, z_rz_t (by omega)]; exact ⟨fun _ => rfl, fun k => absurd (Or.inl ⟨c5, q⟩) k⟩
    · rw [if_neg q, z_rz_t (by omega)]; exact ⟨fun k => by omega, fun _ => rfl⟩
  · rw [z_eq_f (by omega)]
    by_cases c6 : op = 6
    · rw [z_eq_t (by omega), z_eq_b]
      by_cases q : (0 ≤ r ∧ r < m) ∧ M 11 r ≠ -1
      · have o := o12 (by omega)
        rw [if_pos q, z_rd_t (by omega), z_le_e (by omega) (by omega)]
        by_cases q4 : M 11 r ≤ 4
        · rw [if_pos q4]; exact ⟨fun _ => rfl, fun k => absurd (Or.inr (Or.inl ⟨c6, q, q4⟩)) k⟩
        · rw [if_neg q4]; exact ⟨fun k => by omega, fun _ => rfl⟩
      · rw [if_neg q]; exact ⟨fun k => by omega, fun _ => rfl⟩
    · rw [z_eq_f (by omega)]
      by_cases q : (0 ≤ r ∧ r < m) ∧ M 11 r = -1
      · rw [if_pos q, z_rz_t (by omega)]; exact ⟨fun _ => rfl, fun k => absurd (Or.inr (Or.inr ⟨c5, c6, q⟩)) k⟩
      · rw [if_neg q, z_rz_t (by omega)]; exact ⟨fun k => by omega, fun _ => rfl⟩
/-- one name of the reference: good or at fault -/
def okR (M : zMem) (m op r v : Int) : Prop := (v = 1 ∧ okS M m r) ∨ (v = 0 ∧ okF M m op r)
theorem res1 {κ i r v op : Int} {k : zMem → zO} {n : Nat} (hp : plI t sz M E m) (hi : 0 ≤ i ∧ i < m) (ho : M 11 i = op ∧ 0 ≤ op ∧ op ≤ 6) (hκ : 0 ≤ κ ∧ κ < 24 ∧ κ < E 0 21 ∧ E 0 21 ≤ 24) (h12 : E 0 12 = 0) (h9 : E 9 κ = i) (h10 : E 10 κ = v) (hv : v = 0 ∨ v = 1) (hr : r = -1 ∨ (0 ≤ r ∧ r < m)) (hn : Model_itemNamed N (E 7 κ) (E 8 κ) E = some (r, E)) :
    (okR M m op r v → Model_resolves_2 N k (n + 1) κ E = Model_resolves_2 N k n (κ + 1) (z_st E 1 ((if v = 0 then 69 else 109) + i) r)) ∧
    (¬ okR M m op r v → ∃ E' : zMem, Model_resolves_2 N k (n + 1) κ E = Model_resolves_2 N k n (κ + 1) E' ∧ E' 0 12 = 1 ∧ E' 0 13 = 4 ∧ E' 0 14 = E 7 κ ∧ rI E E' ∧ E' 0 21 = E 0 21) := by
  have rr := plI_r hp
  obtain ⟨-, -, it3, it4⟩ := hp.2.2.2 i hi.1 hi.2
  have e49 : E 1 (49 + i) = op := by rw [(it4 (by omega)).2.1]; exact ho.1
  -- is it a step
  obtain ⟨st, hst⟩ : ∃ st : Int, st = if (0 ≤ r ∧ r < m) ∧ M 11 r ≠ -1 then 1 else 0 := ⟨_, rfl⟩
  have st01 : (st = 1 ∧ okS M m r) ∨ (st = 0 ∧ ¬ okS M m r) := by
    by_cases q : (0 ≤ r ∧ r < m) ∧ M 11 r ≠ -1
    · rw [if_pos q] at hst; exact Or.inl ⟨hst, q⟩
    · rw [if_neg q] at hst; exact Or.inr ⟨hst, q⟩
  have x3 : ∀ K : Int → zMem → zO, z_jn K (fun k1 => z_jn (fun (M14 : zMem) => k1 0 M14) (fun k10 => z_eq r (-1) (k10 E) (z_rd E 1 169 (9 + r) (fun x12 => z_eq x12 1 (k1 1 E) (k10 E))))) = K st E := fun K => by
    simp only [z_jn_e]
    by_cases q : r = -1
    · rw [z_eq_t (by omega), hst, if_neg (by omega)]
    · rw [z_eq_f (by omega), z_rd_t (by omega)]
      obtain ⟨-, -, j3, j4⟩ := hp.2.2.2 r (by omega) (by omega)
      by_cases q1 : M 11 r = -1
      · rw [(j3 q1).1, z_eq_f (by omega), hst, if_neg (by omega)]
      · rw [(j4 q1).1, z_eq_t (by omega), hst, if_pos ⟨by omega, q1⟩]
  have xi : ∃ y : Int, (y = 0 ∨ y = 1) ∧ (y = 1 ↔ okR M m op r v) ∧ ∀ K : Int → zMem → zO, z_jn K (fun k2 => z_jn (fun (M9 : zMem) => k2 st M9) (fun k5 => z_eq v 0 (z_eq op 5 (k5 E) (z_eq op 6 (z_jn (fun (x10 : Int) (M12 : zMem) => k2 x10 M12) (fun k8 => z_jn (fun (M13 : zMem) => k8 0 M13) (fun k9 => z_eq st 0 (k9 E) (z_rd E 1 169 (49 + r) (fun x11 => z_le x11 4 (k8 1 E) (k9 E)))))) (z_jn (fun (x9 : Int) (M10 : zMem) => k2 x9 M10) (fun k6 => z_jn (fun (M11 : zMem) => k6 0 M11) (fun k7 => z_eq r (-1) (k7 E) (z_eq st 0 (k6 1 E) (k7 E))))))) (k5 E))) = K y E := by
    simp only [z_jn_e]
    unfold okR okF
    rcases hv with q | q
    · have r1 : ∀ P Q : Prop, ((v = 1 ∧ P) ∨ (v = 0 ∧ Q)) ↔ Q := fun P Q => ⟨fun k => k.elim (fun k => by omega) (fun k => k.2), fun k => Or.inr ⟨q, k⟩⟩
      rw [r1]
      by_cases c5 : op = 5
      · refine ⟨st, by omega, ⟨fun k => Or.inl ⟨c5, ?_⟩, fun k => ?_⟩, fun K => by rw [z_eq_t (x := v) (by omega), z_eq_t (by omega)]⟩
        · rcases st01 with z | z
          · exact z.2
          · omega
        · rcases st01 with z | z
          · exact z.1
          · exact absurd (k.elim (fun k => k.2) (fun k => by omega)) z.2
      · by_cases c6 : op = 6
        · rcases st01 with z | z
          · obtain ⟨z1, ⟨z2, z3⟩⟩ := z
            obtain ⟨-, j1, -, j4⟩ := hp.2.2.2 r z2.1 z2.2
            have e := (j4 z3).2.1
            by_cases c4 : M 11 r ≤ 4
            · exact ⟨1, Or.inr rfl, ⟨fun _ => Or.inr (Or.inl ⟨c6, ⟨z2, z3⟩, c4⟩), fun _ => rfl⟩, fun K => by rw [z_eq_t (x := v) (by omega), z_eq_f (by omega), z_eq_t (x := op) (by omega), z_eq_f (by omega), z_rd_t (by omega), e, z_le_t (by omega)]⟩
            · exact ⟨0, Or.inl rfl, ⟨fun k => absurd k (by decide), fun k => by omega⟩, fun K => by rw [z_eq_t (x := v) (by omega), z_eq_f (by omega), z_eq_t (x := op) (by omega), z_eq_f (by omega), z_rd_t (by omega), e, z_le_f (by omega)]⟩
          · exact ⟨0, Or.inl rfl, ⟨fun k => absurd k (by decide), fun k => absurd (k.elim (fun k => by omega) (fun k => k.elim (fun k => k.2.1) (fun k => by omega))) z.2⟩, fun K => by rw [z_eq_t (x := v) (by omega), z_eq_f (by omega), z_eq_t (x := op) (by omega), z_eq_t (x := st) (by omega)]⟩
        · by_cases cr : r = -1
          · exact ⟨0, Or.inl rfl, ⟨fun k => absurd k (by decide), fun k => by omega⟩, fun K => by rw [z_eq_t (x := v) (by omega), z_eq_f (by omega), z_eq_f (x := op) (by omega), z_eq_t (x := r) (by omega)]⟩
          · rcases st01 with z | z
            · exact ⟨0, Or.inl rfl, ⟨fun k => absurd k (by decide), fun k => absurd (k.elim (fun k => by omega) (fun k => k.elim (fun k => by omega) (fun k => k.2.2.2))) z.2.2⟩, fun K => by rw [z_eq_t (x := v) (by omega), z_eq_f (by omega), z_eq_f (x := op) (by omega), z_eq_f (x := r) (by omega), z_eq_f (x := st) (by omega)]⟩
            · have hw : M 11 r = -1 := by
                by_cases hw : M 11 r = -1
                · exact hw
                · exact absurd ⟨by omega, hw⟩ z.2
              exact ⟨1, Or.inr rfl, ⟨fun _ => Or.inr (Or.inr ⟨c5, c6, by omega, hw⟩), fun _ => rfl⟩, fun K => by rw [z_eq_t (x := v) (by omega), z_eq_f (by omega), z_eq_f (x := op) (by omega), z_eq_f (x := r) (by omega), z_eq_t (x := st) (by omega)]⟩
    · have r1 : ∀ P Q : Prop, ((v = 1 ∧ P) ∨ (v = 0 ∧ Q)) ↔ P := fun P Q => ⟨fun k => k.elim (fun k => k.2) (fun k => by omega), fun k => Or.inl ⟨q, k⟩⟩
      rw [r1]
      refine ⟨st, by omega, ⟨fun k => ?_, fun k => ?_⟩, fun K => by rw [z_eq_f (x := v) (by omega)]⟩
      · rcases st01 with z | z
        · exact z.2
        · omega
      · rcases st01 with z | z
        · exact z.1
        · exact absurd k z.2
  have fin : ∀ (x : Int) (E1 : zMem), E1 10 κ = v → z_rd E1 10 24 κ (fun x6 => z_eq x6 0 (z_wr E1 1 169 (69 + i) r (fun M6 => z_nm (κ + 1) (fun v1_ => Model_resolves_2 N k n v1_ M6))) (z_wr E1 1 169 (109 + i) r (fun M6 => z_nm (κ + 1) (fun v1_ => Model_resolves_2 N k n v1_ M6)))) = Model_resolves_2 N k n (κ + 1) (z_st E1 1 ((if v = 0 then 69 else 109) + i) r) := fun x E1 h => by
    rw [z_rd_t (by omega), h]
    rcases hv with q | q
    · rw [z_eq_t (by omega), z_wr_t (by omega), if_pos q]; rfl
    · rw [z_eq_f (by omega), z_wr_t (by omega), if_neg (by omega)]; rfl
  have main : ∃ y : Int, (y = 0 ∨ y = 1) ∧ (y = 1 ↔ okR M m op r v) ∧ Model_resolves_2 N k (n + 1) κ E = z_eq y 0 (z_rd E 7 24 κ (fun x8 => z_pf E 0 8 x8 (fun M7 => z_cl (Model_faults 4 M7) (fun u_ M8 => z_rd M8 10 24 κ (fun x6 => z_eq x6 0 (z_wr M8 1 169 (69 + i) r (fun M6 => z_nm (κ + 1) (fun v1_ => Model_resolves_2 N k n v1_ M6))) (z_wr M8 1 169 (109 + i) r (fun M6 => z_nm (κ + 1) (fun v1_ => Model_resolves_2 N k n v1_ M6)))))))) (z_rd E 10 24 κ (fun x6 => z_eq x6 0 (z_wr E 1 169 (69 + i) r (fun M6 => z_nm (κ + 1) (fun v1_ => Model_resolves_2 N k n v1_ M6))) (z_wr E 1 169 (109 + i) r (fun M6 => z_nm (κ + 1) (fun v1_ => Model_resolves_2 N k n v1_ M6))))) := by
    obtain ⟨y, hy, hok, hK⟩ := xi
    refine ⟨y, hy, hok, ?_⟩
    rw [Model_resolves_2, z_lt_t (by omega), z_eq_t (x := E 0 12) (by omega), z_rd_t (c := 9) (by omega), z_rd_t (c := 7) (by omega), z_rd_t (c := 8) (by omega), hn, z_cl_e, h9, x3]
    rw [z_rd_t (c := 1) (by omega), e49, z_rd_t (c := 10) (by omega), h10, hK]
    simp only [z_jn_e]
  obtain ⟨y, hy, hok, he⟩ := main
  rw [he]
  refine ⟨fun q => ?_, fun q => ?_⟩
  · rw [z_eq_f (by have := hok.2 q; omega)]
    exact fin 0 E h10
  · have hy0 : y = 0 := hy.resolve_right (fun k => q (hok.1 k))
    rw [z_eq_t (by omega), z_rd_t (by omega), z_pf_e]
    unfold Model_faults
    rw [z_eq_t (by rw [z_st_n (by decide)]; omega), z_pz_t (by omega), z_pf_e, z_pf_e, z_cl_e, fin 0 _ (by rw [z_st_c (by decide), z_st_c (by decide), z_st_c (by decide), z_st_c (by decide)]; exact h10)]
    refine ⟨_, rfl, ?_, ?_, ?_, fun c j g => ?_, ?_⟩
    · rw [z_st_c (by decide), z_st_n (by decide), z_st_n (by decide), z_st_i rfl]
    · rw [z_st_c (by decide), z_st_n (by decide), z_st_i rfl]
    · rw [z_st_c (by decide), z_st_i rfl, z_st_n (by decide), z_st_n (by decide), z_st_i rfl]
    · by_cases q1 : c = 1
      · subst q1
        rw [z_st_n (by split <;> omega), z_st_c (by decide), z_st_c (by decide), z_st_c (by decide), z_st_c (by decide)]
      · rw [z_st_c q1]
        by_cases q0 : c = 0
        · subst q0; rw [z_st_n (by omega), z_st_n (by omega), z_st_n (by omega), z_st_n (by omega)]
        · rw [z_st_c q0, z_st_c q0, z_st_c q0, z_st_c q0]
    · rw [z_st_c (by decide), z_st_n (by decide), z_st_n (by decide), z_st_n (by decide), z_st_n (by decide)]
end
