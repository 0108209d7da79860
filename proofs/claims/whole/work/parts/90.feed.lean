/-! feed: the reference's program by hand (its row of five is cell 27), and both sides -/
def Model_feed_42 (N : Nat) (k : zMem → zO) : Nat → Int → zMem → zO
  | 0, _, _ => none
  | n + 1, v7, M => z_lt v7 20 (z_dv v7 4 (fun x0 => z_rd M 27 5 x0 (fun x1 => z_md v7 4 (fun x2 => z_wr M 4 700 (M 0 4 + v7) (z_and (z_ushr x1 (24 - 8 * x2)) 255) (fun M1 => z_nm (v7 + 1) (fun v7_ => Model_feed_42 N k n v7_ M1)))))) (k M)
def Model_feed_0 (N : Nat) (v1 v2 v3 v4 v5 : Int) (M : zMem) : zO := z_wr M 27 5 0 v1 (fun M1 => z_wr M1 27 5 1 v2 (fun M2 => z_wr M2 27 5 2 v3 (fun M3 => z_wr M3 27 5 3 v4 (fun M4 => z_wr M4 27 5 4 v5 (fun M5 => z_jn (fun (M6 : zMem) => z_pf M6 0 4 (M6 0 4 + 20) (fun M7 => some (M7 0 4, M7))) (fun k0 => Model_feed_42 N k0 N 0 M5))))))
def Model_feed (N : Nat) (v1 v2 v3 v4 v5 : Int) (M : zMem) : zO := z_lt 680 (M 0 4) (some (-1, M)) (Model_feed_0 N v1 v2 v3 v4 v5 (fun c j => if c = 27 then 0 else M c j))
theorem z_and_b {x : Int} : 0 ≤ z_and x 255 ∧ z_and x 255 ≤ 255 := by
  unfold z_and
  have e : z_I 255 = 255 := rfl
  rw [e]
  generalize z_I x = a
  have h1 : (a &&& 255).toInt = (a.toBitVec &&& 255#32).toInt := by
    rw [← Int32.toInt_toBitVec]
    rfl
  have h2 : (a.toBitVec &&& 255#32).toNat ≤ 255 := by
    rw [BitVec.toNat_and]
    exact Nat.and_le_right
  have h3 : (a.toBitVec &&& 255#32).toInt = ((a.toBitVec &&& 255#32).toNat : Int) := BitVec.toInt_eq_toNat_of_lt (by omega)
  rw [h1, h3]
  omega
/-- byte k of five numbers -/
def y_by (v : Int → Int) (k : Int) : Int := z_and (z_ushr (v (k / 4)) (24 - 8 * (k % 4))) 255
theorem append_e {N : Nat} {v S : Int} {f : Int → Int} {M : zMem} (hN : 1000 ≤ N) (hS : M 1 1 = S) (h0 : 0 ≤ S ∧ S + 4 ≤ 700) : ∃ M' : zMem, Tape_append N v M = some (0, M') ∧ M' 1 1 = S + 4 ∧ (∀ c j, c ≠ 1 → c ≠ 2 → M' c j = M c j) ∧ (∀ j : Int, j ≠ 1 → M' 1 j = M 1 j) ∧ (∀ j : Int, j < S → M' 2 j = M 2 j) ∧ ∀ j : Int, 0 ≤ j → j < 4 → M' 2 (S + j) = z_and (z_ushr v (24 - 8 * j)) 255 := by
  obtain ⟨n, rfl⟩ : ∃ n, N = n + 5 := ⟨N - 5, by omega⟩
  refine ⟨z_st (z_st (z_st (z_st (z_st (z_st (z_st (z_st M 2 S (z_and (z_ushr v 24) 255)) 1 1 (S + 1)) 2 (S + 1) (z_and (z_ushr v 16) 255)) 1 1 (S + 1 + 1)) 2 (S + 1 + 1) (z_and (z_ushr v 8) 255)) 1 1 (S + 1 + 1 + 1)) 2 (S + 1 + 1 + 1) (z_and (z_ushr v 0) 255)) 1 1 (S + 1 + 1 + 1 + 1), ?_, ?_, fun c j g1 g2 => ?_, fun j g => ?_, fun j g => ?_, fun j g1 g2 => ?_⟩
  · unfold Tape_append
    rw [z_jn_e, Tape_append_3, z_le_t (by omega), z_lt_t (by omega), hS, z_wr_t (by omega), z_pf_e, z_nm_e, z_st_c (by decide), hS, show (24 : Int) + -8 = 16 by decide]
    rw [Tape_append_3, z_le_t (by omega), z_lt_t (by rw [z_st_i rfl]; omega), z_st_i rfl, z_wr_t (by omega), z_pf_e, z_nm_e, z_st_c (by decide), z_st_i rfl, show (16 : Int) + -8 = 8 by decide]
    rw [Tape_append_3, z_le_t (by omega), z_lt_t (by rw [z_st_i rfl]; omega), z_st_i rfl, z_wr_t (by omega), z_pf_e, z_nm_e, z_st_c (by decide), z_st_i rfl, show (8 : Int) + -8 = 0 by decide]
    rw [Tape_append_3, z_le_t (by omega), z_lt_t (by rw [z_st_i rfl]; omega), z_st_i rfl, z_wr_t (by omega), z_pf_e, z_nm_e, z_st_c (by decide), z_st_i rfl]
    rw [Tape_append_3, z_le_f (by omega)]
  · rw [z_st_i rfl]; omega
  · rw [z_st_c g1, z_st_c g2, z_st_c g1, z_st_c g2, z_st_c g1, z_st_c g2, z_st_c g1, z_st_c g2]
  · rw [z_st_n g, z_st_c (by decide), z_st_n g, z_st_c (by decide), z_st_n g, z_st_c (by decide), z_st_n g, z_st_c (by decide)]
  · rw [z_st_c (by decide), z_st_n (by omega), z_st_c (by decide), z_st_n (by omega), z_st_c (by decide), z_st_n (by omega), z_st_c (by decide), z_st_n (by omega)]
  · have : j = 0 ∨ j = 1 ∨ j = 2 ∨ j = 3 := by omega
    rcases this with q | q | q | q <;> subst q
    · rw [z_st_c (by decide), z_st_n (by omega), z_st_c (by decide), z_st_n (by omega), z_st_c (by decide), z_st_n (by omega), z_st_c (by decide), z_st_i (by omega)]; rfl
    · rw [z_st_c (by decide), z_st_n (by omega), z_st_c (by decide), z_st_n (by omega), z_st_c (by decide), z_st_i (by omega)]; rfl
    · rw [z_st_c (by decide), z_st_n (by omega), z_st_c (by decide), z_st_i (by omega)]; rfl
    · rw [z_st_c (by decide), z_st_i (by omega)]; rfl
theorem feed42_e {N : Nat} {k : zMem → zO} {v : Int → Int} {S : Int} (hS : 0 ≤ S ∧ S + 20 ≤ 700) : ∀ (d n : Nat) (x : Int) (M : zMem), 0 ≤ x → x + d = 20 → d < n → M 0 4 = S → (∀ j : Int, 0 ≤ j → j < 5 → M 27 j = v j) → ∃ M' : zMem, Model_feed_42 N k n x M = k M' ∧ (∀ c j, c ≠ 4 → M' c j = M c j) ∧ (∀ j : Int, j < S + x → M' 4 j = M 4 j) ∧ ∀ j : Int, x ≤ j → j < 20 → M' 4 (S + j) = y_by v j := by
  intro d
  induction d with
  | zero =>
    intro n x M h0 hd hn h4 h27
    obtain ⟨n, rfl⟩ : ∃ y, n = y + 1 := ⟨n - 1, by omega⟩
    rw [Model_feed_42, z_lt_f (by omega)]
    exact ⟨M, rfl, fun _ _ _ => rfl, fun _ _ => rfl, fun j g1 g2 => by omega⟩
  | succ d ih =>
    intro n x M h0 hd hn h4 h27
    obtain ⟨n, rfl⟩ : ∃ y, n = y + 1 := ⟨n - 1, by omega⟩
    rw [Model_feed_42, z_lt_t (by omega), z_dv_t (by omega), z_rd_t (by omega), z_md_t (by omega), h27 _ (by omega) (by omega), h4, z_wr_t (by omega), z_nm_e]
    obtain ⟨M', x1, x2, x3, x4⟩ := ih n (x + 1) (z_st M 4 (S + x) (z_and (z_ushr (v (x / 4)) (24 - 8 * (x % 4))) 255)) (by omega) (by omega) (by omega) (by rw [z_st_c (by decide)]; exact h4) (fun j g1 g2 => by rw [z_st_c (by decide)]; exact h27 j g1 g2)
    refine ⟨M', x1, fun c j g => by rw [x2 c j g, z_st_c g], fun j g => by rw [x3 j (by omega), z_st_n (by omega)], fun j g1 g2 => ?_⟩
    by_cases e : j = x
    · rw [e, x3 _ (by omega), z_st_i rfl]; rfl
    · exact x4 j (by omega) g2
theorem ok_feed {N : Nat} {C D : zMem} {v1 v2 v3 v4 v5 : Int} (h : Rel N C D) (hN : 1000 ≤ N) : OK N (Drum_feed N v1 v2 v3 v4 v5 C) (Model_feed N v1 v2 v3 v4 v5 D) := by
  obtain ⟨hT1, hT2, hT3⟩ := h.1
  unfold Drum_feed Model_feed
  by_cases c : C 1 1 + 20 ≤ 700
  · rw [z_lt_f (by omega), z_lt_f (by omega)]
    obtain ⟨M1, a1, a2, a3, a4, a5, a6⟩ := append_e (N := N) (v := v1) (f := C 2) (M := C) (S := C 1 1) hN rfl (by omega)
    obtain ⟨M2, b1, b2, b3, b4, b5, b6⟩ := append_e (N := N) (v := v2) (f := C 2) (M := M1) hN a2 (by omega)
    obtain ⟨M3, c1, c2, c3, c4, c5, c6⟩ := append_e (N := N) (v := v3) (f := C 2) (M := M2) hN b2 (by omega)
    obtain ⟨M4, d1, d2, d3, d4, d5, d6⟩ := append_e (N := N) (v := v4) (f := C 2) (M := M3) hN c2 (by omega)
    obtain ⟨M5, e1, e2, e3, e4, e5, e6⟩ := append_e (N := N) (v := v5) (f := C 2) (M := M4) hN d2 (by omega)
    rw [a1, z_cl_e, b1, z_cl_e, c1, z_cl_e, d1, z_cl_e, e1, z_cl_e]
    unfold Model_feed_0
    rw [z_wr_t (by omega), z_wr_t (by omega), z_wr_t (by omega), z_wr_t (by omega), z_wr_t (by omega), z_jn_e]
    obtain ⟨E0, hE0⟩ : ∃ E0, E0 = z_st (z_st (z_st (z_st (z_st (fun c j => if c = 27 then 0 else D c j) 27 0 v1) 27 1 v2) 27 2 v3) 27 3 v4) 27 4 v5 := ⟨_, rfl⟩
    rw [← hE0]
    have f0 : ∀ c j, c ≠ 27 → E0 c j = D c j := fun c j g => by
      rw [hE0, z_st_c g, z_st_c g, z_st_c g, z_st_c g, z_st_c g]
      show (if c = 27 then (0 : Int) else D c j) = D c j
      rw [if_neg g]
    obtain ⟨E1, x1, x2, x3, x4⟩ := feed42_e (N := N) (k := fun (M6 : zMem) => z_pf M6 0 4 (M6 0 4 + 20) (fun M7 => some (M7 0 4, M7))) (v := E0 27) (S := C 1 1) (by omega) 20 N 0 E0 (by omega) (by omega) (by omega) (by rw [f0 0 4 (by decide)]; exact hT1) (fun j _ _ => rfl)
    rw [x1, z_pf_e, z_st_i rfl, x2 0 4 (by decide), f0 0 4 (by decide), hT1]
    have hv : E0 27 0 = v1 ∧ E0 27 1 = v2 ∧ E0 27 2 = v3 ∧ E0 27 3 = v4 ∧ E0 27 4 = v5 := by
      rw [hE0]
      refine ⟨?_, ?_, ?_, ?_, ?_⟩ <;> simp (disch := omega) only [z_st_c, z_st_i, z_st_n]
    have cls : ∀ c j, c ≠ 1 → c ≠ 2 → M5 c j = C c j := fun c j g1 g2 => by rw [e3 c j g1 g2, d3 c j g1 g2, c3 c j g1 g2, b3 c j g1 g2, a3 c j g1 g2]
    have ref : ∀ c j, c ≠ 4 → c ≠ 27 → (c ≠ 0 ∨ j ≠ 4) → z_st E1 0 4 (C 1 1 + 20) c j = D c j := fun c j g1 g2 g3 => by
      by_cases q : c = 0
      · subst q; rw [z_st_n (by omega), x2 0 j g1, f0 0 j g2]
      · rw [z_st_c q, x2 c j g1, f0 c j g2]
    have m11 : M5 1 1 = C 1 1 + 20 := by rw [e2]; omega
    obtain ⟨-, hF, hP, hR, hL, hA, hS⟩ := id h
    refine ⟨C 1 1 + 20, M5, _, by rw [m11], rfl, Rel_mk2 h (fun c j g => cls c j (by omega) (by omega)) (fun j g1 g2 g3 => ref 1 j (by omega) (by omega) (by omega)) ⟨?_, ?_, fun j g1 g2 => ?_⟩ ?_ ?_ ?_ (r_S_same hS (fun c j g => cls c j (by omega) (by omega)) (fun j g => ref 0 j (by omega) (by omega) (by omega)) (fun j => ref 22 j (by omega) (by omega) (by omega)))⟩
    · rw [z_st_i rfl, m11]
    · omega
    · rw [m11] at g2
      rw [z_st_c (by decide)]
      by_cases l : j < C 1 1
      · rw [x3 j (by omega), f0 4 j (by decide), e5 j (by omega), d5 j (by omega), c5 j (by omega), b5 j (by omega), a5 j (by omega)]
        exact hT3 j g1 l
      · have key : M5 2 j = y_by (E0 27) (j - C 1 1) := by
          unfold y_by
          by_cases l1 : j < C 1 1 + 4
          · rw [e5 j (by omega), d5 j (by omega), c5 j (by omega), b5 j (by omega), show j = C 1 1 + (j - C 1 1) by omega, a6 _ (by omega) (by omega), show (C 1 1 + (j - C 1 1) - C 1 1) = j - C 1 1 by omega, show (j - C 1 1) / 4 = 0 by omega, show (j - C 1 1) % 4 = j - C 1 1 by omega, hv.1]
          · by_cases l2 : j < C 1 1 + 8
            · rw [e5 j (by omega), d5 j (by omega), c5 j (by omega), show M2 2 j = M2 2 (C 1 1 + 4 + (j - C 1 1 - 4)) by rw [show C 1 1 + 4 + (j - C 1 1 - 4) = j by omega], b6 _ (by omega) (by omega), show (j - C 1 1) / 4 = 1 by omega, show (j - C 1 1) % 4 = j - C 1 1 - 4 by omega, hv.2.1]
            · by_cases l3 : j < C 1 1 + 12
              · rw [e5 j (by omega), d5 j (by omega), show M3 2 j = M3 2 (C 1 1 + 4 + 4 + (j - C 1 1 - 8)) by rw [show C 1 1 + 4 + 4 + (j - C 1 1 - 8) = j by omega], c6 _ (by omega) (by omega), show (j - C 1 1) / 4 = 2 by omega, show (j - C 1 1) % 4 = j - C 1 1 - 8 by omega, hv.2.2.1]
              · by_cases l4 : j < C 1 1 + 16
                · rw [e5 j (by omega), show M4 2 j = M4 2 (C 1 1 + 4 + 4 + 4 + (j - C 1 1 - 12)) by rw [show C 1 1 + 4 + 4 + 4 + (j - C 1 1 - 12) = j by omega], d6 _ (by omega) (by omega), show (j - C 1 1) / 4 = 3 by omega, show (j - C 1 1) % 4 = j - C 1 1 - 12 by omega, hv.2.2.2.1]
                · rw [show M5 2 j = M5 2 (C 1 1 + 4 + 4 + 4 + 4 + (j - C 1 1 - 16)) by rw [show C 1 1 + 4 + 4 + 4 + 4 + (j - C 1 1 - 16) = j by omega], e6 _ (by omega) (by omega), show (j - C 1 1) / 4 = 4 by omega, show (j - C 1 1) % 4 = j - C 1 1 - 16 by omega, hv.2.2.2.2]
        have x4' := x4 (j - C 1 1) (by omega) (by omega)
        rw [show C 1 1 + (j - C 1 1) = j by omega] at x4'
        rw [x4', key]
        unfold y_by
        exact ⟨rfl, z_and_b⟩
    · unfold r_F at hF ⊢
      rw [ref 0 5 (by omega) (by omega) (by omega), ref 0 6 (by omega) (by omega) (by omega), cls 0 11 (by omega) (by omega), cls 0 12 (by omega) (by omega)]
      exact hF
    · intro i g1 g2
      rw [cls 19 6 (by omega) (by omega)] at g2
      rw [ref 1 _ (by omega) (by omega) (by omega), cls 57 i (by omega) (by omega), cls 19 0 (by omega) (by omega), cls 19 1 (by omega) (by omega)]
      exact hL i g1 g2
    · unfold r_A at hA ⊢
      rw [ref 1 7 (by omega) (by omega) (by omega), cls 55 1 (by omega) (by omega)]
      refine ⟨hA.1, hA.2.1, fun a i g1 g2 g3 g4 => ?_⟩
      rw [cls 19 6 (by omega) (by omega)] at g4
      rw [ref 3 _ (by omega) (by omega) (by omega), cls 56 _ (by omega) (by omega), cls 19 0 (by omega) (by omega), cls 19 1 (by omega) (by omega)]
      exact hA.2.2 a i g1 g2 g3 g4
  · rw [z_lt_t (by omega), z_lt_t (by omega)]
    exact ⟨-1, C, D, rfl, rfl, h⟩
