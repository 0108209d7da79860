/-! reading: the line of a word -/
def fP (M M' : zMem) : Prop := ∀ c j, (c < 3 ∨ 18 < c) → M' c j = M c j
def rI (E E' : zMem) : Prop := ∀ c j, ((c = 2 ∨ c = 3 ∨ c = 4 ∨ 10 < c) ∨ (c = 0 ∧ (j < 7 ∨ 23 < j)) ∨ (c = 1 ∧ 7 ≤ j ∧ j ≤ 8)) → E' c j = E c j
theorem fP_t {M M' M'' : zMem} (h : fP M M') (h' : fP M' M'') : fP M M'' := fun c j g => by rw [h' c j g, h c j g]
theorem rI_t {E E' E'' : zMem} (h : rI E E') (h' : rI E' E'') : rI E E'' := fun c j g => by rw [h' c j g, h c j g]
theorem fP_m {m : Int} {M M' : zMem} (h : mM m M M') : fP M M' := fun c j g => h c j (by omega) (by omega) (by omega)
theorem rI_m {m ρ : Int} {E E' : zMem} (hm : 0 ≤ m) (h : mE m ρ E E') : rI E E' := fun c j g => by
  by_cases q : c = 0
  · subst q; exact h.2.2 j (by omega)
  · by_cases q1 : c = 1
    · subst q1; exact h.2.1 j (by omega) (by omega) (by omega) (by omega) (by omega)
    · exact h.1 c j q q1 (by omega)
theorem fP_b {M M' : zMem} (h : bF M M') : fP M M' := fun c j g => h c j (by omega)
def rBO (E : zMem) (b : zO) : Prop := ∃ E', b = some (0, E') ∧ rI E E' ∧ ∀ j : Int, j < 22 → E' 0 j = E 0 j
/-- what an item's line comes to -/
def iO (t : Int → Int) (sz m : Int) (M E : zMem) (a b : zO) : Prop := ∃ M' E' : zMem, a = some (0, M') ∧ b = some (0, E') ∧ fP M M' ∧ rI E E' ∧ ((bd M' E' ∧ 0 ≤ M' 10 6 ∧ M' 10 6 ≤ 20) ∨ ∃ (b' : Int) (w' : Nat), gd t sz b' w' M' E' ∧ plI t sz M' E' (m + 1) ∧ E' 0 21 = 2 * rkD M' (m + 1) ∧ E' 1 6 = E 1 6 ∧ M' 10 5 = M 10 5)
section
variable {t : Int → Int} {sz b m : Int} {w N : Nat} {M E M1 E1 : zMem} {a a' : zO}
theorem iO_t (h1 : mM m M M1) (h2 : mE m (2 * rkD M m) E E1) (hm : 0 ≤ m) (h : iO t sz m M1 E1 a a') : iO t sz m M E a a' := by
  obtain ⟨M', E', x1, x2, x3, x4, x5⟩ := h
  refine ⟨M', E', x1, x2, fP_t (fP_m h1) x3, rI_t (rI_m hm h2) x4, x5.imp id (fun ⟨b', w', k1, k2, k3, k4, k5⟩ => ⟨b', w', k1, k2, k3, ?_, ?_⟩)⟩
  · rw [k4, h2.2.1 6 (by omega) (by omega) (by omega) (by omega) (by omega)]
  · rw [k5, h1 10 5 (by omega) (by omega) (by omega)]
theorem bad_iO (h : bd M E) (ha : bO M a) (hb : rBO E a') : iO t sz m M E a a' := by
  obtain ⟨M', x1, x2, x3⟩ := ha
  obtain ⟨E', y1, y2, y3⟩ := hb
  refine ⟨M', E', x1, y1, fP_b x3, y2, Or.inl ⟨⟨x2.1, ?_⟩, x2.2.1⟩⟩
  have k := h.2
  unfold bE at k ⊢
  rw [x3 3 6 (by omega), x3 3 7 (by omega), y3 9 (by omega), y3 10 (by omega), y3 11 (by omega), y3 12 (by omega), y3 13 (by omega), y3 14 (by omega), y3 21 (by omega)]
  exact k
end
def iEnd (v1 : Int) (M8 : zMem) : zO := z_jn (fun (x3 x4 : Int) (M9 : zMem) => z_pf M9 0 22 (x4 + x3) (fun M10 => z_jn (fun (x5 x6 : Int) (M11 : zMem) => z_pf M11 0 23 (x6 + x5) (fun M12 => z_rd M12 1 169 5 (fun x7 => z_wr M12 1 169 5 (x7 + 1) (fun M13 => some (0, M13))))) (fun k5 => z_eq v1 10 (k5 1 (M10 0 23) M10) (k5 0 (M10 0 23) M10)))) (fun k4 => z_eq v1 9 (k4 1 (M8 0 22) M8) (k4 0 (M8 0 22) M8))
def iT6 (N : Nat) (v1 x0 : Int) (M6 : zMem) : zO := z_wr M6 1 169 (129 + x0) (-1) (fun M7 => adT N x0 (fun M8 => iEnd v1 M8) M7)
def iT5 (N : Nat) (v1 x0 : Int) (M24 : zMem) : zO := z_eq (M24 0 12) 0 (z_cl (Model_isSign 45 M24) (fun r_5 M25 => z_jn (fun (M26 : zMem) => z_cl (Model_reads N 0 9999 M26) (fun r_6 M27 => z_jn (fun (x11 x12 : Int) (M28 : zMem) => z_wr M28 1 169 x12 x11 (fun M29 => iT6 N v1 x0 M29)) (fun k10 => z_eq r_5 0 (k10 r_6 (29 + x0) M27) (k10 (-r_6) (29 + x0) M27)))) (fun k9 => z_eq r_5 0 (k9 M25) (z_cl (Model_next N M25) (fun u_4 M30 => k9 M30))))) (iT6 N v1 x0 M24)
def iT4 (N : Nat) (v1 x0 : Int) (M5 : zMem) : zO := z_eq (M5 0 12) 0 (z_eq v1 10 (z_cl (Model_readsOp N M5) (fun u_5 M31 => iT6 N v1 x0 M31)) (iT5 N v1 x0 M5)) (iT5 N v1 x0 M5)
def iT3 (N : Nat) (v1 : Int) (M3 : zMem) : zO := z_rd M3 1 169 5 (fun x0 => z_jn (fun (x1 x2 : Int) (M4 : zMem) => z_wr M4 1 169 x2 x1 (fun M5 => iT4 N v1 x0 M5)) (fun k1 => z_eq v1 10 (k1 1 (9 + x0) M3) (k1 0 (9 + x0) M3)))
def iT2 (N : Nat) (v1 : Int) (M1 : zMem) : zO := z_eq (M1 0 12) 0 (z_cl (Model_next N M1) (fun u_ M2 => z_cl (Model_readsName N M2) (fun u_1 M3 => iT3 N v1 M3))) (some (0, M1))
def iT1 (N : Nat) (v1 : Int) (M : zMem) : zO := z_jn (fun (M1 : zMem) => iT2 N v1 M1) (fun k0 => z_jn (fun (M32 : zMem) => z_jn (fun (M33 : zMem) => z_rd M33 1 169 5 (fun x13 => z_rd M33 1 169 0 (fun x14 => z_rd M33 1 169 1 (fun x15 => z_eq x13 (x14 * x15) (z_cl (Model_faults 3 M33) (fun u_6 M34 => k0 M34)) (k0 M33))))) (fun k12 => z_jn (fun (M35 : zMem) => z_cl (Model_faults 3 M35) (fun u_7 M36 => k0 M36)) (fun k13 => z_eq v1 9 (z_eq (M32 0 22) 8 (k13 M32) (k12 M32)) (z_eq (M32 0 23) 12 (k13 M32) (k12 M32))))) (fun k11 => z_eq v1 9 (k11 M) (z_eq v1 10 (k11 M) (z_cl (Model_faults 1 M) (fun u_8 M37 => k0 M37)))))
theorem iT_e {N : Nat} {E : zMem} : Model_readsItem N E = iT1 N (E 0 11) E := rfl
section
variable {t : Int → Int} {sz b m v1 : Int} {w N : Nat} {M E : zMem}
theorem iEnd_e (hv : v1 = 9 ∨ v1 = 10) : ∃ E' : zMem, iEnd v1 E = some (0, E') ∧ (∀ c j, c ≠ 0 → c ≠ 1 → E' c j = E c j) ∧ (∀ j : Int, j ≠ 22 → j ≠ 23 → E' 0 j = E 0 j) ∧ (∀ j : Int, j ≠ 5 → E' 1 j = E 1 j) ∧ E' 1 5 = E 1 5 + 1 ∧ E' 0 22 = E 0 22 + (if v1 = 9 then 1 else 0) ∧ E' 0 23 = E 0 23 + (if v1 = 9 then 0 else 1) := by
  unfold iEnd
  simp only [z_jn_e]
  rcases hv with q | q <;> subst q
  · refine ⟨z_st (z_st (z_st E 0 22 (E 0 22 + 1)) 0 23 (E 0 23 + 0)) 1 5 (E 1 5 + 1), ?_, fun c j g1 g2 => ?_, fun j g1 g2 => ?_, fun j g => ?_, ?_, ?_, ?_⟩
    · rw [z_eq_t (by omega), z_pf_e, z_eq_f (by omega), z_pf_e, z_rd_t (by omega), z_wr_t (by omega), z_st_n (by decide), z_st_c (by decide), z_st_c (by decide)]
    · rw [z_st_c g2, z_st_c g1, z_st_c g1]
    · rw [z_st_c (by decide), z_st_n g2, z_st_n g1]
    · rw [z_st_n g, z_st_c (by decide), z_st_c (by decide)]
    · rw [z_st_i rfl]
    · rw [z_st_c (by decide), z_st_n (by decide), z_st_i rfl]; rfl
    · rw [z_st_c (by decide), z_st_i rfl]; rfl
  · refine ⟨z_st (z_st (z_st E 0 22 (E 0 22 + 0)) 0 23 (E 0 23 + 1)) 1 5 (E 1 5 + 1), ?_, fun c j g1 g2 => ?_, fun j g1 g2 => ?_, fun j g => ?_, ?_, ?_, ?_⟩
    · rw [z_eq_f (by omega), z_pf_e, z_eq_t (by omega), z_pf_e, z_rd_t (by omega), z_wr_t (by omega), z_st_n (by decide), z_st_c (by decide), z_st_c (by decide)]
    · rw [z_st_c g2, z_st_c g1, z_st_c g1]
    · rw [z_st_c (by decide), z_st_n g2, z_st_n g1]
    · rw [z_st_n g, z_st_c (by decide), z_st_c (by decide)]
    · rw [z_st_i rfl]
    · rw [z_st_c (by decide), z_st_n (by decide), z_st_i rfl]; rfl
    · rw [z_st_c (by decide), z_st_i rfl]; rfl
theorem iB_end (hv : v1 = 9 ∨ v1 = 10) : rBO E (iEnd v1 E) := by
  obtain ⟨E', x1, x2, x3, x4, -⟩ := iEnd_e (E := E) hv
  exact ⟨E', x1, fun c j g => by
    by_cases q : c = 0
    · subst q; exact x3 j (by omega) (by omega)
    · by_cases q1 : c = 1
      · subst q1; exact x4 j (by omega)
      · exact x2 c j q q1, fun j g => x3 j (by omega) (by omega)⟩
theorem rBO_s {x v : Int} {a : zO} (hx : 8 < x) (h : rBO (z_st E 1 x v) a) : rBO E a := by
  obtain ⟨E', x1, x2, x3⟩ := h
  exact ⟨E', x1, fun c j g => by
    rw [x2 c j g]
    by_cases q1 : c = 1
    · subst q1; exact z_st_n (by omega)
    · exact z_st_c q1, fun j g => by rw [x3 j g, z_st_c (by decide)]⟩
theorem iB6 (hv : v1 = 9 ∨ v1 = 10) (hm : 0 ≤ m ∧ m < 20) (h : E 0 12 = 1) : rBO E (iT6 N v1 m E) := by
  unfold iT6 adT
  rw [z_wr_t (by omega), z_eq_f (by rw [z_st_c (by decide)]; omega)]
  exact rBO_s (by omega) (iB_end hv)
theorem iB5 (hv : v1 = 9 ∨ v1 = 10) (hm : 0 ≤ m ∧ m < 20) (h : E 0 12 = 1) : rBO E (iT5 N v1 m E) := by
  unfold iT5
  rw [z_eq_f (by omega)]
  exact iB6 hv hm h
theorem iB3 (hv : v1 = 9 ∨ v1 = 10) (hm : 0 ≤ m ∧ m < 20) (h5 : E 1 5 = m) (h : E 0 12 = 1) : rBO E (iT3 N v1 E) := by
  unfold iT3 iT4
  simp only [z_jn_e]
  rw [z_rd_t (by omega), h5]
  rcases hv with q | q
  · rw [z_eq_f (x := v1) (by omega), z_wr_t (by omega), z_eq_f (by rw [z_st_c (by decide)]; omega)]
    exact rBO_s (by omega) (iB5 (Or.inl q) hm (by rw [z_st_c (by decide)]; exact h))
  · rw [z_eq_t (x := v1) (by omega), z_wr_t (by omega), z_eq_f (by rw [z_st_c (by decide)]; omega)]
    exact rBO_s (by omega) (iB5 (Or.inr q) hm (by rw [z_st_c (by decide)]; exact h))
end
