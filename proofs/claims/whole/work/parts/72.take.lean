/-! reading: words, numbers, measures taken -/
theorem is_k {t : Int → Int} {sz b n : Int} {w N s : Nat} {M E : zMem} (hN : 1000 ≤ N) (h : gd t sz b w M E) (hn : n ≠ -1) (hk : y_is t b w s ↔ y_kept t b w = n) : Tokens_is N s M = some (if E 0 11 = n then 1 else 0, M) := by
  obtain ⟨g1, g2, gk⟩ := h
  have r := tk_r gk
  obtain ⟨k1, k2, k3, k4, k5⟩ := gk
  obtain ⟨e1, e2⟩ := Tokens_is_e (i := s) hN g1 k1.2.2.2.2.1 k1.2.2.2.2.2 k1.1 k1.2.2.1 (by clear k5; omega)
  have main : (M 9 1 = 1 ∧ y_is t b w s) ↔ E 0 11 = n := by
    rcases k5 with q | q | q | q | q | q
    · exact ⟨fun k => by have := k.1; omega, fun k => by have := q.2.2; omega⟩
    · exact ⟨fun k => by rw [q.2.2.2.1]; exact hk.1 k.2, fun k => ⟨q.1, hk.2 (by rw [← q.2.2.2.1]; exact k)⟩⟩
    · exact ⟨fun k => by have := k.1; omega, fun k => by have := q.2.2.1; omega⟩
    · exact ⟨fun k => by have := k.1; omega, fun k => by have := q.2.2.1; omega⟩
    · exact ⟨fun k => by have := k.1; omega, fun k => by have := q.2.2.1; omega⟩
    · exact ⟨fun k => by have := k.1; omega, fun k => by have := q.2.2.1; omega⟩
  by_cases c : E 0 11 = n
  · rw [if_pos c]; exact e1 (main.2 c)
  · rw [if_neg c]; exact e2 (fun q => c (main.1 q))
theorem is_same {t : Int → Int} {sz b : Int} {w N i i' : Nat} {M E : zMem} (hN : 1000 ≤ N) (h : gd t sz b w M E) (hs : z_sCh.getD i [] = z_sCh.getD i' []) : ∃ r : Int, (r = 0 ∨ r = 1) ∧ Tokens_is N i M = some (r, M) ∧ Model_isWord N i' E = some (r, E) := by
  obtain ⟨g1, g2, gk⟩ := h
  have r := tk_r gk
  obtain ⟨k1, k2, k3, k4, k5⟩ := gk
  obtain ⟨e1, e2⟩ := Tokens_is_e (i := i) hN g1 k1.2.2.2.2.1 k1.2.2.2.2.2 k1.1 k1.2.2.1 (by clear k5; omega)
  obtain ⟨f1, f2⟩ := Model_isWord_e (i := i') hN g1 k1.2.2.2.2.1 k1.2.2.2.2.2 k1.2.1 k1.2.2.2.1 (by clear k5; omega)
  have ks : M 9 1 = 1 ↔ E 0 9 = 1 := by
    rcases k5 with q | q | q | q | q | q <;> have q1 := q.1 <;> have q2 := q.2.1 <;> clear q <;> omega
  have kk := y_is_same (t := t) (b := b) (w := w) hs
  by_cases c : M 9 1 = 1 ∧ y_is t b w i
  · exact ⟨1, Or.inr rfl, e1 c, f1 ⟨ks.1 c.1, kk.1 c.2⟩⟩
  · exact ⟨0, Or.inl rfl, e2 c, f2 (fun q => c ⟨ks.2 q.1, kk.2 q.2⟩)⟩
/-- what an act of both sides comes to -/
def aO (t : Int → Int) (sz : Int) (M E M' E' : zMem) (P : Prop) : Prop := aM M M' ∧ aE E E' ∧ (bd M' E' ∨ ∃ (b' : Int) (w' : Nat), gd t sz b' w' M' E' ∧ P)
theorem word_j {t : Int → Int} {sz b : Int} {w N i i' : Nat} {M E : zMem} (hN : 1000 ≤ N) (h : gd t sz b w M E) (hs : z_sCh.getD i [] = z_sCh.getD i' []) :
    ∃ (r : Int) (M' E' : zMem), Reader_takeWord N i M = some (0, M') ∧ Model_isWord N i' E = some (r, E) ∧ (r = 0 ∨ r = 1) ∧ Model_passes N r E = some (0, E') ∧ aO t sz M E M' E' True := by
  obtain ⟨r, hr, e1, e2⟩ := is_same (i := i) (i' := i') hN h hs
  unfold Reader_takeWord
  simp only [e1, z_cl_e, z_jn_e]
  rcases hr with q | q <;> subst q
  · obtain ⟨M1, M', E', x1, x1', -, x2, x3, x4, x5⟩ := failadv_j (k := 1) hN h (by omega)
    refine ⟨0, M', E', ?_, e2, Or.inl rfl, passes_0 x2 x3.2.1, x4, x5, Or.inl x3⟩
    rw [z_eq_t (by omega), x1, z_cl_e, x1', z_cl_e]
  · obtain ⟨b', w', M', E', x1, x2, x3, x4, x5, x6⟩ := pass_j hN h
    refine ⟨1, M', E', ?_, e2, Or.inr rfl, x3, x5, x6, Or.inr ⟨b', w', x4, trivial⟩⟩
    rw [z_eq_f (by omega), x1, z_cl_e]
theorem number_j {t : Int → Int} {sz b lo hi : Int} {w N : Nat} {M E : zMem} (hN : 1000 ≤ N) (h : gd t sz b w M E) (hb : 0 ≤ lo ∧ lo ≤ 10 ∧ -1 ≤ hi ∧ hi ≤ 9999) :
    ∃ (r r' : Int) (M' E' : zMem), Reader_takeNumber N lo hi M = some (r, M') ∧ Model_reads N lo hi E = some (r', E') ∧ z_Rg r ∧ (0 ≤ r' ∧ r' ≤ 99999) ∧ aO t sz M E M' E' (r' = r ∧ lo ≤ r ∧ r ≤ hi ∧ M 9 1 = 2 ∧ r = M 9 3) := by
  obtain ⟨k1, k2, k3, k4, k5⟩ := h.2.2
  have rg := tk_r h.2.2
  have a2 : M 9 1 = 2 → E 0 9 = 2 ∧ E 0 10 = min (M 9 3) 99999 := fun c => by
    rcases k5 with q | q | q | q | q | q
    · have q1 := q.1; clear q; omega
    · have q1 := q.1; clear q; omega
    · exact ⟨q.2.1, q.2.2.2⟩
    · have q1 := q.1; clear q; omega
    · have q1 := q.1; clear q; omega
    · have q1 := q.1; clear q; omega
  have a3 : ¬ M 9 1 = 2 → E 0 9 ≠ 2 := fun c => by
    rcases k5 with q | q | q | q | q | q <;> have q1 := q.1 <;> have q2 := q.2.1 <;> clear q <;> omega
  clear k5
  unfold Reader_takeNumber Model_reads
  simp only [z_jn_e, z_nm_e]
  rw [z_il_t (by omega), z_il_t (by omega), z_il_t (by omega), Model_in_e (by omega) (by omega) (by omega), z_cl_e, z_eq_b]
  by_cases c : M 9 1 = 2
  · have e9 := a2 c
    have k2 := k2 c
    rw [z_eq_t (by omega), z_eq_t (by omega)]
    by_cases d : lo ≤ M 9 3 ∧ M 9 3 ≤ hi
    · obtain ⟨b', w', M', E', x1, x2, x3, x4, x5, x6⟩ := pass_j hN h
      refine ⟨M 9 3, E 0 10, M', E', ?_, ?_, h.2.1.1.1.1, k4, x5, x6, Or.inr ⟨b', w', x4, by omega, d.1, d.2, c, rfl⟩⟩
      · rw [z_le_t (by omega), z_lt_f (by omega), x1, z_cl_e]
      · rw [if_pos (by omega), x3, z_cl_e]
    · obtain ⟨M1, M', E', x1, x1', e93, x2, x3, x4, x5⟩ := failadv_j (k := 2) hN h (by omega)
      refine ⟨M 9 3, E 0 10, M', E', ?_, ?_, h.2.1.1.1.1, k4, x4, x5, Or.inl x3⟩
      · by_cases d' : lo ≤ M 9 3
        · rw [z_le_t (by omega), z_lt_t (by omega), x1, z_cl_e, x1', z_cl_e, e93]
        · rw [z_le_f (by omega), x1, z_cl_e, x1', z_cl_e, e93]
      · rw [if_neg (by omega), x2, z_cl_e, passes_b x3.2.1 (by omega), z_cl_e]
  · have e9 := a3 c
    obtain ⟨M1, M', E', x1, x1', e93, x2, x3, x4, x5⟩ := failadv_j (k := 1) hN h (by omega)
    refine ⟨M 9 3, E 0 10, M', E', ?_, ?_, h.2.1.1.1.1, k4, x4, x5, Or.inl x3⟩
    · rw [z_eq_f (by omega), x1, z_cl_e, x1', z_cl_e, e93]
    · rw [z_eq_f (by omega), x2, z_cl_e, passes_b x3.2.1 (by omega), z_cl_e]
theorem measure_j {t : Int → Int} {sz b lo hi : Int} {w N i i' : Nat} {M E : zMem} (hN : 1000 ≤ N) (h : gd t sz b w M E) (hs : z_sCh.getD i [] = z_sCh.getD i' []) (hb : 0 ≤ lo ∧ lo ≤ 10 ∧ -1 ≤ hi ∧ hi ≤ 9999) :
    ∃ (r r' : Int) (M' E' : zMem), Reader_takeMeasure N i lo hi M = some (r, M') ∧ Model_named N i' lo hi E = some (r', E') ∧ z_Rg r ∧ (0 ≤ r' ∧ r' ≤ 99999) ∧ aO t sz M E M' E' (r' = r ∧ lo ≤ r ∧ r ≤ hi) := by
  obtain ⟨r, M1, E1, x1, x2, x3, x4, x5, x6, x7⟩ := word_j (i := i) (i' := i') hN h hs
  have hm : Model_named N i' lo hi E = z_eq (E1 0 12) 0 (z_cl (Model_reads N lo hi E1) (fun r_ M3 => some (r_, M3))) (some (0, E1)) := by
    unfold Model_named
    simp only [z_jn_e]
    rw [z_eq_t (by have := h.2.1.2.2; omega), x2, z_cl_e]
    rcases x3 with q | q <;> subst q
    · rw [z_eq_t (by omega), x4, z_cl_e]
    · rw [z_eq_f (by omega), x4, z_cl_e]
  rw [hm]
  unfold Reader_takeMeasure
  rw [x1, z_cl_e]
  rcases x7 with q | ⟨b', w', g, -⟩
  · obtain ⟨rn, M2, n1, n2, n3⟩ := number_b (N := N) (lo := lo) (hi := hi) hN q.1 (by omega) (by omega)
    refine ⟨rn, 0, M2, E1, ?_, ?_, n2, by omega, aM_t x5 (bM_a n3), x6, Or.inl (bM_d q n3)⟩
    · rw [n1, z_cl_e]
    · rw [z_eq_f (by have := q.2.1; omega)]
  · obtain ⟨r1, r2, M2, E2, y1, y2, y3, y4, y5, y6, y7⟩ := number_j hN g hb
    refine ⟨r1, r2, M2, E2, ?_, ?_, y3, y4, aM_t x5 y5, aE_t x6 y6, y7.imp id (fun ⟨b2, w2, k1, k2, k3, k4, _⟩ => ⟨b2, w2, k1, k2, k3, k4⟩)⟩
    · rw [y1, z_cl_e]
    · rw [z_eq_t (by have := g.2.1.2.2; omega), y2, z_cl_e]
