/-! reading: the lines one after the other -/
section
variable {t : Int → Int} {sz b m : Int} {w N : Nat} {M E M' E' : zMem}
theorem plI_g (h : plI t sz M E m) (hM : ∀ c j, (4 ≤ c ∧ c ≤ 8) ∨ (11 ≤ c ∧ c ≤ 18) ∨ (c = 10 ∧ j ≠ 5) → M' c j = M c j) (hE : ∀ c j, ((5 ≤ c ∧ c ≤ 10) ∨ (c = 1 ∧ j ≠ 6) ∨ (c = 0 ∧ (j = 22 ∨ j = 23))) → E' c j = E c j) : plI t sz M' E' m := by
  have r := plI_r h
  obtain ⟨f, n, s, it⟩ := h
  have m10 : ∀ j : Int, j ≠ 5 → M' 10 j = M 10 j := fun j q => hM 10 j (by omega)
  have m11 : ∀ j, M' 11 j = M 11 j := fun j => hM 11 j (by omega)
  have ew := wkD_c (M := M) (M' := M') (i := m) (m := m) (by omega) (fun j _ _ => m11 j)
  have er := rkD_c (M := M) (M' := M') (i := m) (m := m) (by omega) (fun j _ _ => m11 j)
  refine ⟨plF_c f (fun j _ => m10 j (by omega)) (fun j q => hE 1 j (by omega)), ?_, ?_, fun i g1 g2 => itI_c (m := m) (it i g1 g2) ⟨g1, g2⟩ (fun c q => hM c i (by omega)) (fun j _ _ => m11 j) (fun j _ _ => hM 17 j (by omega)) ⟨m10 0 (by omega), m10 1 (by omega)⟩ ⟨hE 5 i (by omega), hE 6 i (by omega)⟩ ⟨hE 1 _ (by omega), hE 1 _ (by omega), hE 1 _ (by omega), hE 1 _ (by omega), hE 1 _ (by omega)⟩ (fun c k q1 q2 q3 => hE c k (by omega))⟩
  · unfold plN at n ⊢
    rw [ew, er, m10 6 (by omega), m10 7 (by omega), m10 8 (by omega), m10 0 (by omega), m10 1 (by omega), hE 1 5 (by omega), hE 0 22 (by omega), hE 0 23 (by omega)]
    exact n
  · unfold plS at s ⊢
    rw [m10 8 (by omega), m10 9 (by omega)]
    simp only [m11]
    exact s
theorem semi_j (hN : 1000 ≤ N) (h : gd t sz b w M E) : ∃ (r : Int) (M' E' : zMem), Reader_takeSemicolon N M = some (0, M') ∧ Model_isSign 59 E = some (r, E) ∧ (r = 0 ∨ r = 1) ∧ Model_passes N r E = some (0, E') ∧ aO t sz M E M' E' True := by
  have s := (isSign_e h).2
  have rg := (tk_r h.2.2).1
  unfold Reader_takeSemicolon
  simp only [z_jn_e]
  by_cases c : M 9 1 = 3
  · obtain ⟨b', w', M1, E1, x1, x2, x3, x4, x5, x6⟩ := pass_j hN h
    rw [if_pos c] at s
    refine ⟨1, M1, E1, ?_, s, Or.inr rfl, x3, x5, x6, Or.inr ⟨b', w', x4, trivial⟩⟩
    rw [z_eq_t (by omega), x1, z_cl_e]
  · obtain ⟨Mf, M1, E1, x1, x1', -, x2, x3, x4, x5⟩ := failadv_j (k := 1) hN h (by omega)
    rw [if_neg c] at s
    refine ⟨0, M1, E1, ?_, s, Or.inl rfl, passes_0 x2 x3.2.1, x4, x5, Or.inl x3⟩
    rw [z_eq_f (by omega), x1, z_cl_e, x1', z_cl_e]
/-- behind a line: the semicolon, and one line more -/
def lC (N : Nat) (k : zMem → zO) (n : Nat) (v2 : Int) (M2 : zMem) : zO := z_cl (Reader_takeSemicolon N M2) (fun u_ M3 => z_pf M3 10 5 ((M3 10 5) + 1) (fun M4 => z_nm (v2 + 1) (fun v2_ => Reader_readText_23 N k n v2_ M4)))
def lE (N : Nat) (k : zMem → zO) (n : Nat) (M1 : zMem) : zO := z_jn (fun (x1 : Int) (M2 : zMem) => z_cl (Model_passes N x1 M2) (fun u_ M3 => z_rd M3 1 169 6 (fun x2 => z_wr M3 1 169 6 (x2 + 1) (fun M4 => Model_drum_75 N k n M4)))) (fun k2 => z_jn (fun (M5 : zMem) => k2 1 M5) (fun k3 => z_eq (M1 0 12) 0 (z_cl (Model_isSign 59 M1) (fun r_ M6 => z_eq r_ 0 (k2 0 M6) (k3 M6))) (k3 M1)))
theorem lC_e {k : zMem → zO} {n : Nat} {v2 : Int} : Reader_readText_23 N k (n + 1) v2 M = z_le v2 21 (z_cl (Reader_goesOn M) (fun r_ M1 => z_eq r_ 0 (k M1) (z_eq v2 0 (z_cl (Reader_readDrum N M1) (fun u_3 M8 => lC N k n v2 M8)) (z_cl (Tokens_is N 6 M1) (fun r_1 M5 => z_eq r_1 0 (z_cl (Reader_readStep N M5) (fun u_1 M6 => lC N k n v2 M6)) (z_cl (Reader_readWord N M5) (fun u_2 M7 => lC N k n v2 M7))))))) (k M) := rfl
theorem lE_e {k : zMem → zO} {n : Nat} : Model_drum_75 N k (n + 1) E = z_eq (E 0 12) 0 (z_eq (E 0 9) 0 (k E) (z_rd E 1 169 6 (fun x0 => z_eq x0 0 (z_cl (Model_readsDrum N E) (fun u_2 M8 => lE N k n M8)) (z_cl (Model_readsItem N E) (fun u_1 M7 => lE N k n M7))))) (k E) := rfl
theorem lB {k k' : zMem → zO} {n n' : Nat} {v2 : Int} (hv : z_Rg v2) (h : bd M E) : Reader_readText_23 N k (n + 1) v2 M = k M ∧ Model_drum_75 N k' (n' + 1) E = k' E := by
  have a := h.1.2.1
  have c := h.2.1
  rw [lC_e, lE_e, z_eq_f (x := E 0 12) (by omega)]
  refine ⟨?_, rfl⟩
  have : Reader_goesOn M = some (0, M) := by
    unfold Reader_goesOn
    rw [z_jn_e, z_eq_f (by omega)]
  rw [this, z_cl_e, z_eq_t (by omega), z_le_e hv (by omega)]
  split <;> rfl
/-- the end of all lines -/
def tO (t : Int → Int) (sz : Int) (M E : zMem) (k k' : zMem → zO) (a b : zO) : Prop := ∃ M' E' : zMem, a = k M' ∧ b = k' E' ∧ fP M M' ∧ rI E E' ∧ ((bd M' E' ∧ 0 ≤ M' 10 6 ∧ M' 10 6 ≤ 20) ∨ ∃ (b' : Int) (w' : Nat) (m : Int), gd t sz b' w' M' E' ∧ plI t sz M' E' m ∧ E' 0 21 = 2 * rkD M' m ∧ E' 1 6 = m + 1 ∧ M' 10 5 = m + 1)
theorem tO_t {M1 E1 : zMem} {k k' : zMem → zO} {a a' : zO} (h1 : fP M M1) (h2 : rI E E1) (h : tO t sz M1 E1 k k' a a') : tO t sz M E k k' a a' := by
  obtain ⟨M', E', x1, x2, x3, x4, x5⟩ := h
  exact ⟨M', E', x1, x2, fP_t h1 x3, rI_t h2 x4, x5⟩
/-- behind a line: what is left is done by go on -/
theorem line_end {k k' : zMem → zO} {n n' : Nat} {v2 : Int} (hN : 1000 ≤ N) (hv : z_Rg (v2 + 1)) (hr : 0 ≤ M 10 6 ∧ M 10 6 ≤ 20) (hc : bd M E ∨ ((∃ (b' : Int) (w' : Nat), gd t sz b' w' M E) ∧
    ∀ (M1 E1 : zMem) (b' : Int) (w' : Nat), gd t sz b' w' M1 E1 → aM M M1 → aE E E1 → tO t sz (z_st M1 10 5 (M1 10 5 + 1)) (z_st E1 1 6 (E1 1 6 + 1)) k k' (Reader_readText_23 N k (n + 1) (v2 + 1) (z_st M1 10 5 (M1 10 5 + 1))) (Model_drum_75 N k' (n' + 1) (z_st E1 1 6 (E1 1 6 + 1))))) : tO t sz M E k k' (lC N k (n + 1) v2 M) (lE N k' (n' + 1) E) := by
  have fin : ∀ M1 E1 : zMem, aM M M1 → aE E E1 → fP M (z_st M1 10 5 (M1 10 5 + 1)) ∧ rI E (z_st E1 1 6 (E1 1 6 + 1)) := fun M1 E1 h1 h2 => by
    refine ⟨fun c j g => ?_, fun c j g => ?_⟩
    · rw [z_st_c (by omega), h1 c j (by omega) (by omega)]
    · rw [← h2 c j (by omega)]
      by_cases q1 : c = 1
      · subst q1; exact z_st_n (by omega)
      · exact z_st_c q1
  have bad : ∀ M1 E1 : zMem, aM M M1 → aE E E1 → bd M1 E1 → tO t sz M E k k' (Reader_readText_23 N k (n + 1) (v2 + 1) (z_st M1 10 5 (M1 10 5 + 1))) (Model_drum_75 N k' (n' + 1) (z_st E1 1 6 (E1 1 6 + 1))) := fun M1 E1 h1 h2 hb => by
    obtain ⟨f1, f2⟩ := fin M1 E1 h1 h2
    obtain ⟨e1, e2⟩ := lB (N := N) (k := k) (k' := k') (n := n) (n' := n') hv (bd_10 (j := 5) (v := M1 10 5 + 1) (j' := 6) (v' := E1 1 6 + 1) hb)
    exact ⟨_, _, e1, e2, f1, f2, Or.inl ⟨bd_10 hb, by rw [z_st_n (by decide), h1 10 6 (by decide) (by decide)]; exact hr⟩⟩
  unfold lC lE
  simp only [z_jn_e]
  rcases hc with hb | ⟨⟨b', w', hg⟩, go⟩
  · obtain ⟨M1, s1, s2⟩ := semi_b (N := N) hN hb.1
    rw [s1, z_cl_e, z_pf_e, z_nm_e, z_eq_f (by have := hb.2.1; omega), passes_b hb.2.1 (by omega), z_cl_e, z_rd_t (by omega), z_wr_t (by omega)]
    exact bad M1 E (bM_a s2) aE_r (bM_d hb s2)
  · obtain ⟨r, M1, E1, x1, x2, x3, x4, x5, x6, x7⟩ := semi_j hN hg
    have cl : z_eq (E 0 12) 0 (z_cl (Model_isSign 59 E) (fun r_ M6 => z_eq r_ 0 (z_cl (Model_passes N 0 M6) (fun u_ M3 => z_rd M3 1 169 6 (fun x2 => z_wr M3 1 169 6 (x2 + 1) (fun M4 => Model_drum_75 N k' (n' + 1) M4)))) (z_cl (Model_passes N 1 M6) (fun u_ M3 => z_rd M3 1 169 6 (fun x2 => z_wr M3 1 169 6 (x2 + 1) (fun M4 => Model_drum_75 N k' (n' + 1) M4)))))) (z_cl (Model_passes N 1 E) (fun u_ M3 => z_rd M3 1 169 6 (fun x2 => z_wr M3 1 169 6 (x2 + 1) (fun M4 => Model_drum_75 N k' (n' + 1) M4)))) = Model_drum_75 N k' (n' + 1) (z_st E1 1 6 (E1 1 6 + 1)) := by
      rw [z_eq_t (by have := hg.2.1.2.2; omega), x2, z_cl_e]
      rcases x3 with q | q <;> subst q
      · rw [z_eq_t (by omega), x4, z_cl_e, z_rd_t (by omega), z_wr_t (by omega)]
      · rw [z_eq_f (by omega), x4, z_cl_e, z_rd_t (by omega), z_wr_t (by omega)]
    rw [x1, z_cl_e, z_pf_e, z_nm_e, cl]
    rcases x7 with hb | ⟨b2, w2, g2, -⟩
    · exact bad M1 E1 x5 x6 hb
    · obtain ⟨f1, f2⟩ := fin M1 E1 x5 x6
      exact tO_t f1 f2 (go M1 E1 b2 w2 g2 x5 x6)
theorem goesOn_e (h : gd t sz b w M E) : Reader_goesOn M = some (if M 9 1 = 0 then 0 else 1, M) ∧ (M 9 1 = 0 ↔ E 0 9 = 0) := by
  have rg := (tk_r h.2.2).1
  have g := h.2.1.2.1
  refine ⟨?_, ?_⟩
  · unfold Reader_goesOn
    rw [z_jn_e, z_eq_t (by omega), z_eq_e (by omega) (by omega)]
    split <;> rfl
  · rcases h.2.2.2.2.2.2 with q | q | q | q | q | q <;> have q1 := q.1 <;> have q2 := q.2.1 <;> clear q <;> omega
theorem lines_j {k k' : zMem → zO} (hN : 1000 ≤ N) : ∀ (d n n' : Nat) (m : Int) (M E : zMem) (b : Int) (w : Nat), 0 ≤ m → m + d = 21 → d < n → d < n' → gd t sz b w M E → plI t sz M E m → E 0 21 = 2 * rkD M m → E 1 6 = m + 1 → M 10 5 = m + 1 → tO t sz M E k k' (Reader_readText_23 N k n (m + 1) M) (Model_drum_75 N k' n' E) := by
  intro d
  induction d with
  | zero =>
    intro n n' m M E b w h0 hd hn hn' hg hp h21 h6 h5
    have := plI_r hp
    omega
  | succ d ih =>
    intro n n' m M E b w h0 hd hn hn' hg hp h21 h6 h5
    have rr := plI_r hp
    obtain ⟨n, rfl⟩ : ∃ k, n = k + 1 + 1 := ⟨n - 2, by omega⟩
    obtain ⟨n', rfl⟩ : ∃ k, n' = k + 1 + 1 := ⟨n' - 2, by omega⟩
    obtain ⟨g1, g2⟩ := goesOn_e hg
    have g12 := hg.2.1.2.2
    have rg := tk_r hg.2.2
    rw [lC_e, lE_e, z_le_t (by omega), g1, z_cl_e, z_eq_t (x := E 0 12) (by omega)]
    by_cases c : M 9 1 = 0
    · rw [if_pos c, z_eq_t (by omega), z_eq_t (by omega)]
      exact ⟨M, E, rfl, rfl, fun _ _ _ => rfl, fun _ _ _ => rfl, Or.inr ⟨b, w, m, hg, hp, h21, h6, h5⟩⟩
    · rw [if_neg c, z_eq_f (x := (1 : Int)) (by omega), z_eq_f (x := m + 1) (by omega), z_eq_f (x := E 0 9) (by omega), z_rd_t (by omega), h6, z_eq_f (by omega)]
      have ek := is_k (n := 9) (s := 6) hN hg (by decide) kept_9
      rw [ek, z_cl_e, z_eq_b]
      -- one item's line on both sides
      have rest : ∀ (a : zO) , iO t sz m M E a (Model_readsItem N E) → tO t sz M E k k' (z_cl a (fun u_1 M6 => lC N k (n + 1) (m + 1) M6)) (z_cl (Model_readsItem N E) (fun u_1 M7 => lE N k' (n' + 1) M7)) := fun a hO => by
        obtain ⟨M1, E1, x1, x2, x3, x4, x5⟩ := hO
        rw [x1, x2, z_cl_e, z_cl_e]
        refine tO_t x3 x4 ?_
        rcases x5 with hb | ⟨b1, w1, g1, p1, q21, q6, q5⟩
        · exact line_end hN (by omega) hb.2 (Or.inl hb.1)
        · exact line_end hN (by omega) (by have := plI_r p1; have n1 := p1.2.1.1; omega) (Or.inr ⟨⟨b1, w1, g1⟩, fun M2 E2 b' w' k1 k2 k3 => by
            have p2 := plI_a p1 k2 k3
            have p3 : plI t sz (z_st M2 10 5 (M2 10 5 + 1)) (z_st E2 1 6 (E2 1 6 + 1)) (m + 1) := plI_g p2 (fun c j q => by
              by_cases e : c = 10
              · subst e; exact z_st_n (by omega)
              · exact z_st_c e) (fun c j q => by
              by_cases e : c = 1
              · subst e; exact z_st_n (by omega)
              · exact z_st_c e)
            have erk : rkD (z_st M2 10 5 (M2 10 5 + 1)) (m + 1) = rkD M1 (m + 1) := rkD_c (Int.le_refl _) (fun j _ _ => by rw [z_st_c (by decide), k2 11 j (by decide) (by decide)])
            exact ih (n + 1) (n' + 1) (m + 1) _ _ b' w' (by omega) (by omega) (by omega) (by omega) (gd_10 k1) p3 (by rw [z_st_c (by decide), k3 0 21 (by omega), erk]; exact q21) (by rw [z_st_i rfl, k3 1 6 (by omega), q6, h6]) (by rw [z_st_i rfl, k2 10 5 (by decide) (by decide), q5, h5])⟩)
      by_cases c9 : E 0 11 = 9
      · rw [if_pos c9]
        exact rest _ (wline_j hN hg hp c9 h21)
      · rw [if_neg c9]
        exact rest _ (sline_j hN hg hp c9 h21)
end
