/-! tokens: the next token on both sides -/
theorem y_nm_b {t : Int → Int} {b : Int} : ∀ n : Nat, (∀ x : Nat, x < n → 97 ≤ t (b + x) ∧ t (b + x) ≤ 122) → (n ≤ 6 → 0 ≤ y_nm t b n ∧ y_nm t b n < 27 ^ n ∧ (1 ≤ n → 1 ≤ y_nm t b n)) ∧ (6 < n → y_nm t b n = -1) := by
  intro n
  induction n with
  | zero => intro _; exact ⟨fun _ => ⟨Int.le_refl 0, show (0 : Int) < 27 ^ 0 by decide, fun q => by omega⟩, fun q => by omega⟩
  | succ n ih =>
    intro h
    have e : y_nm t b (n + 1) = if n < 6 then y_nm t b n * 27 + t (b + n) - 97 + 1 else -1 := rfl
    have hi := ih (fun x hx => h x (by omega))
    have hn := h n (by omega)
    refine ⟨fun q => ?_, fun q => by rw [e, if_neg (by omega)]⟩
    rw [if_pos (by omega)] at e
    obtain ⟨a1, a2, a3⟩ := hi.1 (by omega)
    have p : (27 : Int) ^ (n + 1) = 27 ^ n * 27 := Int.pow_succ 27 n
    rw [e, p]
    omega
theorem y_nm_r {t : Int → Int} {b : Int} {n : Nat} (h : ∀ x : Nat, x < n → 97 ≤ t (b + x) ∧ t (b + x) ≤ 122) : -1 ≤ y_nm t b n ∧ y_nm t b n ≤ 400000000 := by
  have hb := y_nm_b n h
  by_cases c : n ≤ 6
  · obtain ⟨a1, a2, a3⟩ := hb.1 c
    have : n = 0 ∨ n = 1 ∨ n = 2 ∨ n = 3 ∨ n = 4 ∨ n = 5 ∨ n = 6 := by omega
    rcases this with q | q | q | q | q | q | q <;> subst q <;> simp at a2 <;> omega
  · rw [hb.2 (by omega)]; omega
def tk_S (t : Int → Int) (sz b : Int) (w : Nat) (M E : zMem) : Prop :=
  (M 9 2 = b ∧ E 0 8 = b ∧ M 9 5 = b + w ∧ E 0 7 = b + w ∧ 0 ≤ b ∧ b + w ≤ sz) ∧ (M 9 1 = 2 → 0 ≤ M 9 3 ∧ M 9 3 ≤ 100000) ∧ (M 9 1 = 1 → -1 ≤ M 9 4 ∧ M 9 4 ≤ 400000000) ∧ (0 ≤ E 0 10 ∧ E 0 10 ≤ 99999) ∧
  ((M 9 1 = 0 ∧ E 0 9 = 0 ∧ E 0 11 = -1) ∨ (M 9 1 = 1 ∧ E 0 9 = 1 ∧ 1 ≤ w ∧ E 0 11 = y_kept t b w ∧ M 9 4 = y_nm t b w ∧ ∀ x : Nat, x < w → 97 ≤ t (b + x) ∧ t (b + x) ≤ 122) ∨ (M 9 1 = 2 ∧ E 0 9 = 2 ∧ E 0 11 = -1 ∧ E 0 10 = min (M 9 3) 99999) ∨
   (M 9 1 = 3 ∧ E 0 9 = 3 ∧ E 0 11 = -1 ∧ w = 1 ∧ t b = 59) ∨ (M 9 1 = 4 ∧ E 0 9 = 3 ∧ E 0 11 = -1 ∧ w = 1 ∧ t b = 45) ∨ (M 9 1 = 5 ∧ E 0 9 = 4 ∧ E 0 11 = -1 ∧ w = 1))
/-- what a token's turn leaves alone -/
def fM (M M' : zMem) : Prop := (∀ c j, c ≠ 9 → M' c j = M c j) ∧ z_Rg (M' 9 3) ∧ z_Rg (M' 9 4)
def fE (E E' : zMem) : Prop := ∀ c j, (c ≠ 0 ∨ j < 7 ∨ 11 < j) → E' c j = E c j
theorem adv_j {t : Int → Int} {sz i : Int} {N : Nat} {M E : zMem} (hN : 1000 ≤ N) (hT : tt_T t sz M E) (hv : z_Rg (M 9 3) ∧ z_Rg (M 9 4)) (h5 : M 9 5 = i) (h7 : E 0 7 = i) (hi : 0 ≤ i ∧ i ≤ sz) :
    ∃ (b : Int) (w : Nat) (M' E' : zMem), Tokens_advance N M = some (0, M') ∧ Model_next N E = some (0, E') ∧ tt_T t sz M' E' ∧ tk_S t sz b w M' E' ∧ fM M M' ∧ fE E E' := by
  obtain ⟨⟨t1, t2, t3, t4⟩, t5⟩ := id hT
  unfold Model_next
  rw [z_jn_e]
  obtain ⟨b, M1, E1, x1, x2, x3, x4, x5, x6, x7, x8⟩ := skip_j (N := N) (k := fun (M1 : zMem) => some (0, M1)) (k' := _) (sz - i).toNat N N M E i hi.1 (by omega) (by omega) (by omega) hT h5 h7
  rw [x2]
  clear x2
  have hT1 : tt_T t sz M1 E1 := tt_T_c hT (x6 1 1 (by omega)) (fun j => x6 2 j (by omega)) (x7 0 4 (by omega)) (fun j => x7 4 j (by omega))
  unfold Tokens_advance
  rw [show Tokens_skipBlanks N M = some (0, M1) by unfold Tokens_skipBlanks; rw [z_jn_e]; exact x1, z_cl_e, z_pf_e, z_pf_e, z_pf_e, z_pf_e, x4, x5]
  simp only [z_st_i, z_st_n (show (7 : Int) ≠ 11 by decide), z_st_n (show (7 : Int) ≠ 10 by decide), z_st_n (show (7 : Int) ≠ 8 by decide), z_st_n (show (4 : Int) ≠ 11 by decide), z_st_n (show (4 : Int) ≠ 10 by decide), z_st_n (show (4 : Int) ≠ 8 by decide), x5]
  obtain ⟨M2, hM2⟩ : ∃ M2, M2 = z_st M1 9 2 b := ⟨_, rfl⟩
  obtain ⟨E2, hE2⟩ : ∃ E2, E2 = z_st (z_st (z_st E1 0 8 b) 0 10 0) 0 11 (-1) := ⟨_, rfl⟩
  rw [← hM2, ← hE2]
  have hT2 : tt_T t sz M2 E2 := tt_T_c hT1 (by rw [hM2, z_st_c (by decide)]) (fun j => by rw [hM2, z_st_c (by decide)]) (by rw [hE2, z_st_n (by decide), z_st_n (by decide), z_st_n (by decide)]) (fun j => by rw [hE2, z_st_c (by decide), z_st_c (by decide), z_st_c (by decide)])
  have a2 : M2 9 2 = b := by rw [hM2, z_st_i rfl]
  have a5 : M2 9 5 = b := by rw [hM2, z_st_n (by decide), x4]
  have a6 : (∀ c j, c ≠ 9 → M2 c j = M c j) ∧ M2 9 3 = M 9 3 ∧ M2 9 4 = M 9 4 := ⟨fun c j g => by rw [hM2, z_st_c g, x6 c j (Or.inl g)], by rw [hM2, z_st_n (by decide), x6 9 3 (by omega)], by rw [hM2, z_st_n (by decide), x6 9 4 (by omega)]⟩
  have b8 : E2 0 8 = b := by rw [hE2, z_st_n (by decide), z_st_n (by decide), z_st_i rfl]
  have b10 : E2 0 10 = 0 := by rw [hE2, z_st_n (by decide), z_st_i rfl]
  have b11 : E2 0 11 = -1 := by rw [hE2, z_st_i rfl]
  have b7 : E2 0 7 = b := by rw [hE2, z_st_n (by decide), z_st_n (by decide), z_st_n (by decide), x5]
  have b6 : fE E E2 := fun c j g => by
    by_cases q : c = 0
    · subst q; rw [hE2, z_st_n (by omega), z_st_n (by omega), z_st_n (by omega), x7 0 j (by omega)]
    · rw [hE2, z_st_c q, z_st_c q, z_st_c q, x7 c j (by omega)]
  have e14 : E1 0 4 = sz := hT1.1.2.1
  clear hM2 hE2 x1 x4 x5 x6 x7 hT1
  obtain ⟨⟨u1, u2, u3, u4⟩, u5⟩ := id hT2
  rw [e14, Tape_byteAt_e (by omega) (by omega), u1, z_cl_e]
  by_cases c0 : b < sz
  · obtain ⟨v1, v2, v3⟩ := u5 b (by omega) c0
    have e4 : E2 4 (E2 0 7) = t b := by rw [b7]; exact v2
    have isat : ∀ x y : Int, z_Rg x → z_Rg y → Model_isAt x y E2 = some (if x ≤ t b ∧ t b ≤ y then 1 else 0, E2) := fun x y hx hy => by
      rw [Model_isAt_e (by omega) (by omega) hx hy (fun q => by omega), e4]
      by_cases q : x ≤ t b ∧ t b ≤ y
      · rw [if_pos q, if_pos ⟨by omega, q⟩]
      · rw [if_neg q, if_neg (fun k => q k.2)]
    rw [if_pos c0, v1, z_eq_f (by omega), z_eq_f (by omega), Tokens_isLetter_e (by omega), z_cl_e, z_eq_b, isat 97 122 (by omega) (by omega), z_cl_e, z_eq_b]
    by_cases c1 : 97 ≤ t b ∧ t b ≤ 122
    · rw [if_pos c1, if_pos c1, z_pf_e, z_pf_e, z_jn_e]
      obtain ⟨w, M4, E4, y1, y2, y3, y4, y5, y6, y7, y8, y9, y10⟩ := letters_j (N := N) (k := fun (M1 : zMem) => some (0, M1)) (k' := _) (b := b) (sz - b).toNat N N (z_st (z_st M2 9 1 1) 9 4 0) (z_st E2 0 9 1) 0 (by omega) (by omega) (by omega) (by omega)
        (tt_T_c hT2 (by rw [z_st_c (by decide), z_st_c (by decide)]) (fun j => by rw [z_st_c (by decide), z_st_c (by decide)]) (by rw [z_st_n (by decide)]) (fun j => by rw [z_st_c (by decide)])) (by rw [z_st_n (by decide), z_st_n (by decide), a5]; omega) (by rw [z_st_n (by decide), z_st_n (by decide), a2]) (by rw [z_st_i rfl]; rfl) (by rw [z_st_n (by decide), b7]; omega)
      rw [y2]
      clear y2
      have hw1 : 1 ≤ w := by
        by_cases q : w = 0
        · subst q
          exact absurd (by rw [show b + ((0 : Nat) : Int) = b by omega]; exact c1) (y10 (by omega))
        · omega
      have hT4 : tt_T t sz M4 E4 := tt_T_c hT2 (by rw [y7 1 1 (by omega), z_st_c (by decide), z_st_c (by decide)]) (fun j => by rw [y7 2 j (by omega), z_st_c (by decide), z_st_c (by decide)]) (by rw [y8 0 4 (by omega), z_st_n (by decide)]) (fun j => by rw [y8 4 j (by omega), z_st_c (by decide)])
      have h8 : E4 0 8 = b := by rw [y8 0 8 (by omega), z_st_n (by decide), b8]
      have hk := kept_e (w := w) hN hT4 (by omega) (by omega) h8 y6
      rw [show Tokens_takeLetters N (z_st M2 9 1 1) = some (0, M4) by unfold Tokens_takeLetters; rw [z_pf_e, z_jn_e]; exact y1, z_cl_e, hk, z_cl_e, z_pf_e]
      have lets : ∀ x : Nat, x < w → 97 ≤ t (b + x) ∧ t (b + x) ≤ 122 := fun x hx => y9 x (by omega) hx
      have nr := y_nm_r lets
      refine ⟨b, w, M4, _, rfl, rfl, tt_T_c hT4 rfl (fun _ => rfl) (by rw [z_st_n (by decide)]) (fun j => by rw [z_st_c (by decide)]), ⟨⟨?_, ?_, y4, ?_, by omega, by omega⟩, ?_, ?_, ?_, Or.inr (Or.inl ⟨?_, ?_, hw1, ?_, y5, lets⟩)⟩, ⟨fun c j g => ?_, ?_⟩, fun c j g => ?_⟩
      · rw [y7 9 2 (by omega), z_st_n (by decide), z_st_n (by decide), a2]
      · rw [z_st_n (by decide), h8]
      · rw [z_st_n (by decide), y6]
      · intro q; rw [y7 9 1 (by omega), z_st_n (by decide), z_st_i rfl] at q; exact absurd q (by decide)
      · intro _; rw [y5]; exact nr
      · rw [z_st_n (by decide), y8 0 10 (by omega), z_st_n (by decide), b10]; omega
      · rw [y7 9 1 (by omega), z_st_n (by decide), z_st_i rfl]
      · rw [z_st_n (by decide), y8 0 9 (by omega), z_st_i rfl]
      · rw [z_st_i rfl]
      · rw [y7 c j (by omega), z_st_c g, z_st_c g, a6.1 c j g]
      · refine ⟨?_, by rw [y5]; omega⟩
        rw [y7 9 3 (by omega), z_st_n (by decide), z_st_n (by decide), a6.2.1]
        exact hv.1
      · by_cases q : c = 0
        · subst q; rw [z_st_n (by omega), y8 0 j (by omega), z_st_n (by omega), b6 0 j g]
        · rw [z_st_c q, y8 c j (by omega), z_st_c q, b6 c j g]
    · rw [if_neg c1, if_neg c1, Tokens_isDigit_e (by omega), z_cl_e, z_eq_b, isat 48 57 (by omega) (by omega), z_cl_e, z_eq_b]
      by_cases c2 : 48 ≤ t b ∧ t b ≤ 57
      · rw [if_pos c2, if_pos c2, z_pf_e, z_pf_e, z_jn_e]
        obtain ⟨i', M4, E4, y1, y2, y3, y4, y5, y6, y7, y8⟩ := digits_j (N := N) (k := fun (M1 : zMem) => some (0, M1)) (k' := _) (sz - b).toNat N N (z_st (z_st M2 9 1 2) 9 3 0) (z_st E2 0 9 2) b (by omega) (by omega) (by omega) (by omega)
          (tt_T_c hT2 (by rw [z_st_c (by decide), z_st_c (by decide)]) (fun j => by rw [z_st_c (by decide), z_st_c (by decide)]) (by rw [z_st_n (by decide)]) (fun j => by rw [z_st_c (by decide)])) (by rw [z_st_n (by decide), z_st_n (by decide), a5]) (by rw [z_st_n (by decide), b7]) (by rw [z_st_i rfl, z_st_n (by decide), b10]; omega)
        rw [y2]
        clear y2
        rw [show Tokens_takeDigits N (z_st M2 9 1 2) = some (0, M4) by unfold Tokens_takeDigits; rw [z_pf_e, z_jn_e]; exact y1, z_cl_e]
        have hT4 : tt_T t sz M4 E4 := tt_T_c hT2 (by rw [y7 1 1 (by omega), z_st_c (by decide), z_st_c (by decide)]) (fun j => by rw [y7 2 j (by omega), z_st_c (by decide), z_st_c (by decide)]) (by rw [y8 0 4 (by omega), z_st_n (by decide)]) (fun j => by rw [y8 4 j (by omega), z_st_c (by decide)])
        refine ⟨b, (i' - b).toNat, M4, E4, rfl, rfl, hT4, ⟨⟨?_, ?_, by omega, by omega, by omega, by omega⟩, fun _ => by omega, ?_, by omega, Or.inr (Or.inr (Or.inl ⟨?_, ?_, ?_, y6.2.2⟩))⟩, ⟨fun c j g => ?_, ?_⟩, fun c j g => ?_⟩
        · rw [y7 9 2 (by omega), z_st_n (by decide), z_st_n (by decide), a2]
        · rw [y8 0 8 (by omega), z_st_n (by decide), b8]
        · intro q; rw [y7 9 1 (by omega), z_st_n (by decide), z_st_i rfl] at q; exact absurd q (by decide)
        · rw [y7 9 1 (by omega), z_st_n (by decide), z_st_i rfl]
        · rw [y8 0 9 (by omega), z_st_i rfl]
        · rw [y8 0 11 (by omega), z_st_n (by decide), b11]
        · rw [y7 c j (by omega), z_st_c g, z_st_c g, a6.1 c j g]
        · refine ⟨by omega, ?_⟩
          rw [y7 9 4 (by omega), z_st_n (by decide), z_st_n (by decide), a6.2.2]
          exact hv.2
        · by_cases q : c = 0
          · subst q; rw [y8 0 j (by omega), z_st_n (by omega), b6 0 j g]
          · rw [y8 c j (by omega), z_st_c q, b6 c j g]
      · rw [if_neg c2, if_neg c2, z_jn_e, isat 59 59 (by omega) (by omega), z_cl_e, z_jn_e, z_jn_e, z_eq_b, isat 45 45 (by omega) (by omega), z_cl_e, z_eq_b]
        have fin : ∀ x y : Int, ((x = 3 ∧ y = 3 ∧ t b = 59) ∨ (x = 4 ∧ y = 3 ∧ t b = 45) ∨ (x = 5 ∧ y = 4)) → tt_T t sz (z_st (z_st M2 9 1 x) 9 5 (b + 1)) (z_st (z_st E2 0 9 y) 0 7 (b + 1)) ∧ tk_S t sz b 1 (z_st (z_st M2 9 1 x) 9 5 (b + 1)) (z_st (z_st E2 0 9 y) 0 7 (b + 1)) ∧ fM M (z_st (z_st M2 9 1 x) 9 5 (b + 1)) ∧ fE E (z_st (z_st E2 0 9 y) 0 7 (b + 1)) := fun x y hxy => by
          refine ⟨tt_T_c hT2 (by rw [z_st_c (by decide), z_st_c (by decide)]) (fun j => by rw [z_st_c (by decide), z_st_c (by decide)]) (by rw [z_st_n (by decide), z_st_n (by decide)]) (fun j => by rw [z_st_c (by decide), z_st_c (by decide)]), ⟨⟨?_, ?_, ?_, ?_, by omega, by omega⟩, ?_, ?_, ?_, ?_⟩, ⟨fun c j g => ?_, ?_⟩, fun c j g => ?_⟩
          · rw [z_st_n (by decide), z_st_n (by decide), a2]
          · rw [z_st_n (by decide), z_st_n (by decide), b8]
          · rw [z_st_i rfl]; omega
          · rw [z_st_i rfl]; omega
          · intro q; rw [z_st_n (by decide), z_st_i rfl] at q; omega
          · intro q; rw [z_st_n (by decide), z_st_i rfl] at q; omega
          · rw [z_st_n (by decide), z_st_n (by decide), b10]; omega
          · rw [z_st_n (by decide), z_st_i rfl, z_st_n (by decide), z_st_i rfl, z_st_n (by decide), z_st_n (by decide), b11]
            rcases hxy with ⟨p, q, r⟩ | ⟨p, q, r⟩ | ⟨p, q⟩
            · exact Or.inr (Or.inr (Or.inr (Or.inl ⟨p, q, rfl, rfl, r⟩)))
            · exact Or.inr (Or.inr (Or.inr (Or.inr (Or.inl ⟨p, q, rfl, rfl, r⟩))))
            · exact Or.inr (Or.inr (Or.inr (Or.inr (Or.inr ⟨p, q, rfl, rfl⟩))))
          · rw [z_st_c g, z_st_c g, a6.1 c j g]
          · rw [z_st_n (by decide), z_st_n (by decide), z_st_n (by decide), z_st_n (by decide), a6.2.1, a6.2.2]
            exact hv
          · by_cases q : c = 0
            · subst q; rw [z_st_n (by omega), z_st_n (by omega), b6 0 j g]
            · rw [z_st_c q, z_st_c q, b6 c j g]
        have k1 : ∀ x : Int, z_pf M2 9 1 x (fun M7 => z_pf M7 9 5 ((M7 9 2) + 1) (fun M8 => some (0, M8))) = some (0, z_st (z_st M2 9 1 x) 9 5 (b + 1)) := fun x => by rw [z_pf_e, z_pf_e, z_st_n (by decide), a2]
        have k2 : ∀ x : Int, z_pf E2 0 9 x (fun M9 => z_pf M9 0 7 ((M9 0 7) + 1) (fun M10 => some (0, M10))) = some (0, z_st (z_st E2 0 9 x) 0 7 (b + 1)) := fun x => by rw [z_pf_e, z_pf_e, z_st_n (by decide), b7]
        simp only [k1, k2]
        by_cases d1 : t b = 59
        · rw [z_eq_t (by omega), if_pos (by omega)]
          exact ⟨b, 1, _, _, rfl, rfl, fin 3 3 (by omega)⟩
        · rw [z_eq_f (by omega), if_neg (by omega)]
          by_cases d2 : t b = 45
          · rw [z_eq_t (by omega), if_pos (by omega)]
            exact ⟨b, 1, _, _, rfl, rfl, fin 4 3 (by omega)⟩
          · rw [z_eq_f (by omega), if_neg (by omega)]
            exact ⟨b, 1, _, _, rfl, rfl, fin 5 4 (by omega)⟩
  · rw [if_neg c0, z_eq_t (by omega), z_eq_t (by omega), z_pf_e, z_pf_e]
    refine ⟨b, 0, _, _, rfl, rfl, tt_T_c hT2 (by rw [z_st_c (by decide)]) (fun j => by rw [z_st_c (by decide)]) (by rw [z_st_n (by decide)]) (fun j => by rw [z_st_c (by decide)]), ⟨⟨?_, ?_, ?_, ?_, by omega, by omega⟩, ?_, ?_, ?_, Or.inl ⟨?_, ?_, ?_⟩⟩, ⟨fun c j g => ?_, ?_⟩, fun c j g => ?_⟩
    · rw [z_st_n (by decide), a2]
    · rw [z_st_n (by decide), b8]
    · rw [z_st_n (by decide), a5]; omega
    · rw [z_st_n (by decide), b7]; omega
    · intro q; rw [z_st_i rfl] at q; exact absurd q (by decide)
    · intro q; rw [z_st_i rfl] at q; exact absurd q (by decide)
    · rw [z_st_n (by decide), b10]; omega
    · rw [z_st_i rfl]
    · rw [z_st_i rfl]
    · rw [z_st_n (by decide), b11]
    · rw [z_st_c g, a6.1 c j g]
    · rw [z_st_n (by decide), z_st_n (by decide), a6.2.1, a6.2.2]
      exact hv
    · by_cases q : c = 0
      · subst q; rw [z_st_n (by omega), b6 0 j g]
      · rw [z_st_c q, b6 c j g]
