/-! the reference's search -/
theorem y_cnt_pos {f : Int → Int} {g : Int} : ∀ m : Nat, 0 < y_cnt f g m ↔ y_fnd f g m 0 ≠ -1 := by
  intro m
  have h : 0 < y_cnt f g m ↔ ∃ a : Int, 0 ≤ a ∧ a < m ∧ f a = g := by
    induction m with
    | zero => exact ⟨fun q => by have : y_cnt f g 0 = 0 := rfl; omega, fun ⟨a, a1, a2, _⟩ => by omega⟩
    | succ m ih =>
      have e : y_cnt f g (m + 1) = y_cnt f g m + if f m = g then 1 else 0 := rfl
      have b := y_cnt_b (f := f) (g := g) (m := m)
      rw [e]
      by_cases c : f m = g
      · rw [if_pos c]; exact ⟨fun _ => ⟨m, by omega, by omega, c⟩, fun _ => by omega⟩
      · rw [if_neg c, Int.add_zero, ih]
        refine ⟨fun ⟨a, a1, a2, a3⟩ => ⟨a, a1, by omega, a3⟩, fun ⟨a, a1, a2, a3⟩ => ⟨a, a1, ?_, a3⟩⟩
        by_cases e2 : a = m
        · rw [e2] at a3; exact absurd a3 c
        · omega
  rw [h]
  constructor
  · rintro ⟨a, a1, a2, a3⟩ q
    exact (y_fnd_none m 0 (Int.le_refl 0)).mp q a a1 (by omega) a3
  · intro q
    rcases y_fnd_b (f := f) (x := g) m 0 with e | ⟨e1, e2, e3⟩
    · exact absurd e q
    · exact ⟨_, e1, by omega, e3⟩
def q_F (C : zMem) (it : Int → Int) (d : Int) (A f : Int → Int) : Prop := (∀ e : Int, 0 ≤ e → e < d → A (it e) ≠ -1) ∧ ∀ a : Int, 0 ≤ a → a < C 19 0 * C 19 1 → (f a = -1 ∧ (y_f0 C a = -1 ∨ ∃ e : Int, 0 ≤ e ∧ e < d ∧ A (it e) = a)) ∨ (f a = y_f0 C a ∧ y_f0 C a ≠ -1 ∧ ∀ e : Int, 0 ≤ e → e < d → A (it e) ≠ a)
theorem q_F_child {C : zMem} {it A f : Int → Int} {K d a : Int} (hK : q_K C it K) (h : q_F C it d A f) (hd : 0 ≤ d ∧ d < K) (ha : 0 ≤ a ∧ a < C 19 0 * C 19 1) : q_F C it (d + 1) (y_up A (it d) a) (y_up f a (-1)) := by
  have hne : ∀ e : Int, 0 ≤ e → e < d → it e ≠ it d := fun e g1 g2 q => by have := hK.2.2 e d g1 (by omega) hd.1 hd.2 q; omega
  refine ⟨fun e g1 g2 => ?_, fun b g1 g2 => ?_⟩
  · by_cases c : e = d
    · rw [c, y_up_i]; omega
    · rw [y_up_n (hne e g1 (by omega))]; exact h.1 e g1 (by omega)
  · by_cases c : b = a
    · rw [c, y_up_i]; exact Or.inl ⟨rfl, Or.inr ⟨d, hd.1, by omega, y_up_i⟩⟩
    · rw [y_up_n c]
      rcases h.2 b g1 g2 with ⟨x1, x2⟩ | ⟨x1, x2, x3⟩
      · refine Or.inl ⟨x1, ?_⟩
        rcases x2 with x2 | ⟨e, e1, e2, e3⟩
        · exact Or.inl x2
        · exact Or.inr ⟨e, e1, by omega, by rw [y_up_n (hne e e1 e2)]; exact e3⟩
      · refine Or.inr ⟨x1, x2, fun e k1 k2 => ?_⟩
        by_cases ce : e = d
        · rw [ce, y_up_i]; exact fun q => c q.symm
        · rw [y_up_n (hne e k1 (by omega))]; exact x3 e k1 (by omega)
/-- what does not change while the reference tries -/
def q_B (N R : Nat) (C D : zMem) (it : Int → Int) (K : Int) (B : zMem) : Prop := (∀ j : Int, 0 ≤ j → j < 149 → j ≠ 7 → B 1 j = D 1 j) ∧ y_MR B R (C 36) ∧ (∀ k : Nat, k < R → B 11 k = C 35 k) ∧ (B 0 39 = C 19 2 ∧ B 0 40 = C 19 3) ∧ B 0 51 = K ∧ (∀ e : Int, 0 ≤ e → e < K → B 26 e = it e) ∧ ∀ a : Int, 0 ≤ a → a < C 19 0 * C 19 1 → B 23 a = y_f0 C a
/-- the reference's memory, in the midst of it -/
def q_D (C B : zMem) (A f : Int → Int) (s : zSt) (E : zMem) : Prop := (∀ c j, c ≠ 0 → c ≠ 13 → c ≠ 20 → c ≠ 22 → c ≠ 24 → E c j = B c j) ∧ (∀ j : Int, j ≠ 43 → j ≠ 44 → j ≠ 45 → E 0 j = B 0 j) ∧ (∀ i : Int, 0 ≤ i → i < C 19 6 → A i ≠ -1 → E 20 i = A i) ∧ (∀ g : Int, 0 ≤ g → g < 24 → E 24 g = y_cnt f g (C 19 0 * C 19 1).toNat) ∧ (E 0 43 = s.1 ∧ E 0 44 = s.2.1 ∧ E 0 45 = s.2.2.1) ∧ (s.1 ≠ 1000000 → ∀ i : Int, 0 ≤ i → i < C 19 6 → E 22 i = s.2.2.2 i)
def s_okR (s : zSt) : Prop := (0 ≤ s.1 ∧ s.1 ≤ 1000000) ∧ (0 ≤ s.2.2.1 ∧ s.2.2.1 ≤ 9000)
theorem s_okR_j {T : (Int → Int) → Int} {ah : (Int → Int) → (Int → Int) → Bool} {s : zSt} {x : zLf} (hT : ∀ a, 0 ≤ T a ∧ T a ≤ 9000) (h : s_okR s) : s_okR (jR T ah s x) := by
  have t := hT x.1
  unfold s_okR jR at *
  by_cases c1 : s.1 < T x.1
  · rw [if_pos c1]; simp only; omega
  · rw [if_neg c1]
    by_cases c2 : T x.1 < s.1
    · rw [if_pos c2]; simp only; omega
    · rw [if_neg c2]; simp only; omega
theorem s_okR_f {T : (Int → Int) → Int} {ah : (Int → Int) → (Int → Int) → Bool} (hT : ∀ a, 0 ≤ T a ∧ T a ≤ 9000) : ∀ (l : List zLf) (s : zSt), s_okR s → s_okR (l.foldl (jR T ah) s) := by
  intro l
  induction l with
  | nil => intro s h; exact h
  | cons x l ih => intro s h; rw [List.foldl_cons]; exact ih _ (s_okR_j hT h)
theorem y_lx_congr {it A B A' B' : Int → Int} {K : Int} (hA : ∀ e : Int, 0 ≤ e → e < K → A (it e) = A' (it e)) (hB : ∀ e : Int, 0 ≤ e → e < K → B (it e) = B' (it e)) (h : y_lx it K A B) : y_lx it K A' B' := by
  obtain ⟨e, e1, e2, e3, e4⟩ := h
  exact ⟨e, e1, e2, fun e' g1 g2 => by rw [← hA e' g1 (by omega), ← hB e' g1 (by omega)]; exact e3 e' g1 g2, by rw [← hA e e1 e2, ← hB e e1 e2]; exact e4⟩
theorem Model_isAhead_e {N : Nat} {it A F : Int → Int} {K : Int} {E : zMem} (hN : 400 ≤ N) (hK : 0 ≤ K ∧ K ≤ 4) (h51 : E 0 51 = K) (h26 : ∀ e : Int, 0 ≤ e → e < K → E 26 e = it e ∧ (0 ≤ it e ∧ it e < 20) ∧ (E 20 (it e) = A (it e) ∧ z_Rg (A (it e))) ∧ (E 22 (it e) = F (it e) ∧ z_Rg (F (it e)))) :
    (y_lx it K A F → Model_isAhead N E = some (1, E)) ∧ (¬ y_lx it K A F → Model_isAhead N E = some (0, E)) := by
  have key : ∀ (n : Nat) (e : Int), 0 ≤ e → e ≤ K → K - e < n → (∀ e' : Int, 0 ≤ e' → e' < e → A (it e') = F (it e')) → (y_lx it K A F → Model_isAhead_2 N (fun M1 => some (0, M1)) n e E = some (1, E)) ∧ (¬ y_lx it K A F → Model_isAhead_2 N (fun M1 => some (0, M1)) n e E = some (0, E)) := by
    intro n
    induction n with
    | zero => intro e _ _ h; omega
    | succ n ih =>
      intro e h0 h1 hn hp
      rw [Model_isAhead_2, h51]
      by_cases c : e < K
      · obtain ⟨g1, g2, ⟨g3, g3'⟩, g4, g4'⟩ := h26 e h0 c
        rw [z_lt_t (by omega)]
        simp (disch := omega) only [z_rd_t, g1, g3, g4]
        by_cases ce : A (it e) = F (it e)
        · rw [z_eq_t (by omega), z_nm_e]
          exact ih (e + 1) (by omega) (by omega) (by omega) (fun e' k1 k2 => by
            by_cases q : e' = e
            · rw [q]; exact ce
            · exact hp e' k1 (by omega))
        · rw [z_eq_f (by omega)]
          by_cases cl : A (it e) < F (it e)
          · rw [z_lt_t (by omega)]
            exact ⟨fun _ => rfl, fun q => absurd ⟨e, h0, c, hp, cl⟩ q⟩
          · rw [z_lt_f (by omega)]
            refine ⟨fun q => ?_, fun _ => rfl⟩
            exact absurd ⟨e, h0, c, fun e' k1 k2 => (hp e' k1 k2).symm, by omega⟩ (y_lx_asym q)
      · rw [z_lt_f (by omega)]
        refine ⟨fun ⟨d, d1, d2, d3, d4⟩ => ?_, fun _ => rfl⟩
        have := hp d d1 (by omega); omega
  unfold Model_isAhead
  rw [z_jn_e]
  exact key N 0 (by omega) (by omega) (by omega) (fun e' k1 k2 => by omega)
theorem Model_weighs_80_e {N : Nat} {n6 : Int} {E : zMem} (hN : 400 ≤ N) (h6 : 0 ≤ n6 ∧ n6 ≤ 20) (h5 : E 1 5 = n6) : ∃ E' : zMem, Model_weighs_80 N (fun M8 => some (0, M8)) N 0 E = some (0, E') ∧ (∀ c j, c ≠ 22 → E' c j = E c j) ∧ ∀ i : Int, 0 ≤ i → i < n6 → E' 22 i = E 20 i := by
  have key : ∀ (n : Nat) (v : Int) (M : zMem), 0 ≤ v → v ≤ n6 → n6 - v < n → (∀ c j, c ≠ 22 → M c j = E c j) → (∀ i : Int, 0 ≤ i → i < v → M 22 i = E 20 i) → ∃ E' : zMem, Model_weighs_80 N (fun M8 => some (0, M8)) n v M = some (0, E') ∧ (∀ c j, c ≠ 22 → E' c j = E c j) ∧ ∀ i : Int, 0 ≤ i → i < n6 → E' 22 i = E 20 i := by
    intro n
    induction n with
    | zero => intro v M _ _ h; omega
    | succ n ih =>
      intro v M h0 h1 hn hM hA
      have m5 : M 1 5 = n6 := by rw [hM 1 5 (by decide)]; exact h5
      have m20 : M 20 v = E 20 v := hM 20 v (by decide)
      rw [Model_weighs_80]
      by_cases c : v < n6
      · simp (disch := omega) only [z_lt_t, z_lt_f, z_le_t, z_le_f, z_eq_t, z_eq_f, z_rd_t, z_wr_t, z_wz_t, z_pf_e, z_pz_t, z_nm_e, z_jn_e, z_cl_e, z_rz_t, m5, m20]
        refine ih (v + 1) _ (by omega) (by omega) (by omega) (fun c j g => by rw [z_st_c g]; exact hM c j g) (fun i g1 g2 => ?_)
        by_cases e : i = v
        · rw [z_st_i e, e]
        · rw [z_st_n e]; exact hA i g1 (by omega)
      · simp (disch := omega) only [z_lt_t, z_lt_f, z_le_t, z_le_f, z_eq_t, z_eq_f, z_rd_t, z_wr_t, z_wz_t, z_pf_e, z_pz_t, z_nm_e, z_jn_e, z_cl_e, z_rz_t, m5]
        exact ⟨M, rfl, hM, fun i g1 g2 => hA i g1 (by omega)⟩
  exact key N 0 E (by omega) (by omega) (by omega) (fun _ _ _ => rfl) (fun i g1 g2 => by omega)
theorem Model_weighs_e {N R : Nat} {C D B E : zMem} {it A f : Int → Int} {K v : Int} {s : zSt} {ah : (Int → Int) → (Int → Int) → Bool} (h : Rel N C D) (c : 0 < C 19 8) (hN : 400 ≤ N) (hB : r_B N C D R) (hK : q_K C it K) (hQ : q_B N R C D it K B) (hah : ∀ A B, ah A B = true ↔ y_lx it K A B) (hq : q_D C B A f s E) (hA : ∀ i : Int, 0 ≤ i → i < C 19 6 → 0 ≤ A i ∧ A i < C 19 0 * C 19 1) (hs : s_okR s) (hF : s.1 ≠ 1000000 → ∀ e : Int, 0 ≤ e → e < K → z_Rg (s.2.2.2 (it e))) :
    ∃ E' : zMem, Model_weighs N v E = some (0, E') ∧ q_D C B A f (jR (y_at C R) ah s (A, v)) E' := by
  have hP := Rel_P h c
  obtain ⟨p1, p2, p3, p4, p5, p6⟩ := id hP
  have ts := y_ts p1 p2
  obtain ⟨u1, u2, u3, ⟨u4, u5⟩, u6, u7, u8⟩ := id hQ
  obtain ⟨q1, q2, q3, q4, ⟨q5, q6, q7⟩, q8⟩ := id hq
  obtain ⟨s1, s2⟩ := id hs
  have qd5 : D 1 5 = C 19 6 := h.2.2.1.1.2.2.2.2.2.1
  have k1 : ∀ j, E 1 j = B 1 j := fun j => q1 1 j (by decide) (by decide) (by decide) (by decide) (by decide)
  have hb := Rel_tm_b (w := C 19 2) (q := C 19 3) (a := A) h c hB p3 (by omega)
  obtain ⟨E1, t1, t2, -⟩ := Rel_timed (E := E) (w := C 19 2) (q := C 19 3) (a := A) h c hN hB (fun j g1 g2 g3 => by rw [k1]; exact u1 j g1 g2 g3) (by
    obtain ⟨m1, m2, m3, m4, m5⟩ := u2
    refine ⟨by rw [q2 27 (by decide) (by decide) (by decide)]; exact m1, m2, m3, by rw [q2 28 (by decide) (by decide) (by decide)]; exact m4, fun k hk => ?_⟩
    rw [q1 11 k (by decide) (by decide) (by decide) (by decide) (by decide), q1 12 k (by decide) (by decide) (by decide) (by decide) (by decide)]
    exact m5 k hk) (fun k hk => by rw [q1 11 k (by decide) (by decide) (by decide) (by decide) (by decide)]; exact u3 k hk) (by rw [q2 39 (by decide) (by decide) (by decide)]; exact ⟨u4, p3⟩) (by rw [q2 40 (by decide) (by decide) (by decide)]; exact ⟨u5, p4⟩) (fun i g1 g2 => ⟨q3 i g1 g2 (by have := hA i g1 g2; omega), hA i g1 g2⟩)
  have ht : 0 ≤ y_at C R A ∧ y_at C R A ≤ 9000 := ⟨hb.1, hb.2.1⟩
  have t1' : Model_timed N E = some (y_at C R A, E1) := t1
  have z43 : E1 0 43 = s.1 := by rw [t2 0 43 (by decide)]; exact q5
  have z44 : E1 0 44 = s.2.1 := by rw [t2 0 44 (by decide)]; exact q6
  have z45 : E1 0 45 = s.2.2.1 := by rw [t2 0 45 (by decide)]; exact q7
  generalize hTA : y_at C R A = TA at ht t1'
  have fin : ∀ (l w mo : Int) (F : Int → Int) (M' : zMem), (∀ c j, c ≠ 0 → c ≠ 13 → c ≠ 22 → M' c j = E c j) → (∀ j : Int, j ≠ 43 → j ≠ 44 → j ≠ 45 → M' 0 j = E 0 j) → M' 0 43 = l → M' 0 44 = w → M' 0 45 = mo → (l ≠ 1000000 → ∀ i : Int, 0 ≤ i → i < C 19 6 → M' 22 i = F i) → q_D C B A f (l, w, mo, F) M' := by
    intro l w mo F M' f1 f2 f3 f4 f5 f6
    refine ⟨fun c j g1 g2 g3 g4 g5 => by rw [f1 c j g1 g2 g4]; exact q1 c j g1 g2 g3 g4 g5, fun j g1 g2 g3 => by rw [f2 j g1 g2 g3]; exact q2 j g1 g2 g3, fun i g1 g2 g3 => by rw [f1 20 i (by decide) (by decide) (by decide)]; exact q3 i g1 g2 g3, fun g g1 g2 => by rw [f1 24 g (by decide) (by decide) (by decide)]; exact q4 g g1 g2, ⟨f3, f4, f5⟩, f6⟩
  unfold Model_weighs jR
  rw [t1', hTA]
  simp only [z_cl_e, z_jn_e, z_pf_e, z_nm_e]
  rw [z45, z_mx_t (by omega)]
  have e43 : z_st E1 0 45 (max s.2.2.1 TA) 0 43 = s.1 := by rw [z_st_n (by decide)]; exact z43
  have e44 : z_st E1 0 45 (max s.2.2.1 TA) 0 44 = s.2.1 := by rw [z_st_n (by decide)]; exact z44
  have cp : ∀ w : Int, ∃ E' : zMem, Model_weighs_80 N (fun M8 => some (0, M8)) N 0 (z_st (z_st (z_st E1 0 45 (max s.2.2.1 TA)) 0 44 w) 0 43 TA) = some (0, E') ∧ q_D C B A f (TA, w, max s.2.2.1 TA, A) E' := by
    intro w
    obtain ⟨E', w1, w2, w3⟩ := Model_weighs_80_e (n6 := C 19 6) (E := z_st (z_st (z_st E1 0 45 (max s.2.2.1 TA)) 0 44 w) 0 43 TA) hN (by omega) (by
      rw [z_st_c (by decide), z_st_c (by decide), z_st_c (by decide), t2 1 5 (by decide), k1, u1 5 (by omega) (by omega) (by omega)]; exact qd5)
    refine ⟨E', w1, fin _ _ _ _ _ (fun c j g1 g2 g3 => ?_) (fun j g1 g2 g3 => ?_) ?_ ?_ ?_ (fun _ i g1 g2 => ?_)⟩
    · rw [w2 c j g3, z_st_c g1, z_st_c g1, z_st_c g1]; exact t2 c j g2
    · rw [w2 0 j (by decide), z_st_n g1, z_st_n g2, z_st_n g3]; exact t2 0 j (by decide)
    · rw [w2 0 _ (by decide), z_st_i rfl]
    · rw [w2 0 _ (by decide), z_st_n (by decide), z_st_i rfl]
    · rw [w2 0 _ (by decide), z_st_n (by decide), z_st_n (by decide), z_st_i rfl]
    · rw [w3 i g1 g2, z_st_c (by decide), z_st_c (by decide), z_st_c (by decide), t2 20 i (by decide)]
      exact q3 i g1 g2 (by have := hA i g1 g2; omega)
  rw [e43]
  by_cases c1 : s.1 < TA
  · rw [if_pos c1, z_lt_t (by omega)]
    refine ⟨_, rfl, fin _ _ _ _ _ (fun c j g1 g2 g3 => ?_) (fun j g1 g2 g3 => ?_) e43 e44 (z_st_i rfl) (fun g0 i g1 g2 => ?_)⟩
    · rw [z_st_c g1]; exact t2 c j g2
    · rw [z_st_n g3]; exact t2 0 j (by decide)
    · rw [z_st_c (by decide), t2 22 i (by decide)]; exact q8 g0 i g1 g2
  · rw [if_neg c1, z_lt_f (by omega)]
    by_cases c2 : TA < s.1
    · rw [if_pos c2, z_lt_t (by omega), z_eq_f (by omega), z_eq_f (by omega)]
      exact cp v
    · have e : TA = s.1 := by omega
      rw [if_neg c2, z_lt_f (by omega), z_eq_t (by omega), e44]
      rw [z_eq_t (by omega)]
      have hia := Model_isAhead_e (it := it) (A := A) (F := s.2.2.2) (K := K) (E := z_st (z_st E1 0 45 (max s.2.2.1 TA)) 0 44 (s.2.1 + v)) hN hK.1 (by
        rw [z_st_n (by decide), z_st_n (by decide), t2 0 51 (by decide), q2 51 (by decide) (by decide) (by decide)]; exact u6) (fun e' g1 g2 => by
        obtain ⟨ki, -⟩ := hK.2.1 e' g1 g2
        have ha := hA (it e') ki.1 ki.2
        have hne : s.1 ≠ 1000000 := by omega
        refine ⟨?_, by omega, ⟨?_, by omega⟩, ?_, hF hne e' g1 g2⟩
        · rw [z_st_c (by decide), z_st_c (by decide), t2 26 e' (by decide), q1 26 e' (by decide) (by decide) (by decide) (by decide) (by decide)]; exact u7 e' g1 g2
        · rw [z_st_c (by decide), z_st_c (by decide), t2 20 _ (by decide)]; exact q3 _ ki.1 ki.2 (by omega)
        · rw [z_st_c (by decide), z_st_c (by decide), t2 22 _ (by decide)]; exact q8 hne _ ki.1 ki.2)
      by_cases ca : ah A s.2.2.2 = true
      · rw [hia.1 ((hah _ _).mp ca), z_cl_e, z_eq_f (by omega), if_pos ca, ← e]
        exact cp _
      · rw [hia.2 (fun k => ca ((hah _ _).mpr k)), z_cl_e, z_eq_t (by omega), if_neg ca]
        refine ⟨_, rfl, fin _ _ _ _ _ (fun c j g1 g2 g3 => ?_) (fun j g1 g2 g3 => ?_) ?_ (z_st_i rfl) ?_ (fun g0 i g1 g2 => ?_)⟩
        · rw [z_st_c g1, z_st_c g1]; exact t2 c j g2
        · rw [z_st_n g2, z_st_n g3]; exact t2 0 j (by decide)
        · rw [z_st_n (by decide)]; exact e43
        · rw [z_st_n (by decide), z_st_i rfl]
        · rw [z_st_c (by decide), z_st_c (by decide), t2 22 i (by decide)]; exact q8 g0 i g1 g2
def s_F (it : Int → Int) (K : Int) (s : zSt) : Prop := s.1 ≠ 1000000 → ∀ e : Int, 0 ≤ e → e < K → z_Rg (s.2.2.2 (it e))
theorem s_F_j {T : (Int → Int) → Int} {ah : (Int → Int) → (Int → Int) → Bool} {it : Int → Int} {K : Int} {s : zSt} {x : zLf} (hT : ∀ a, 0 ≤ T a ∧ T a ≤ 9000) (h : s_F it K s) (hx : ∀ e : Int, 0 ≤ e → e < K → z_Rg (x.1 (it e))) : s_F it K (jR T ah s x) := by
  have t := hT x.1
  unfold s_F jR at *
  by_cases c1 : s.1 < T x.1
  · rw [if_pos c1]; exact h
  · rw [if_neg c1]
    by_cases c2 : T x.1 < s.1
    · rw [if_pos c2]; exact fun _ => hx
    · rw [if_neg c2]
      intro q
      by_cases ca : ah x.1 s.2.2.2 = true
      · simp only [if_pos ca]; exact hx
      · simp only [if_neg ca]; exact h q
theorem Model_placeOf_e {N R : Nat} {C D B E : zMem} {it A f : Int → Int} {K d g : Int} {s : zSt} (hP : y_P C) (hN : 400 ≤ N) (hK : q_K C it K) (hQ : q_B N R C D it K B) (h0 : D 1 0 = C 19 0) (h1 : D 1 1 = C 19 1) (hq : q_D C B A f s E) (hFd : q_F C it d A f) (hd : 0 ≤ d ∧ d ≤ K) (hAr : ∀ i : Int, 0 ≤ i → i < C 19 6 → A i = -1 ∨ (0 ≤ A i ∧ A i < C 19 0 * C 19 1)) (hg : 0 ≤ g ∧ g < 24) (hex : y_fnd f g (C 19 0 * C 19 1).toNat 0 ≠ -1) :
    Model_placeOf N g d E = some (y_fnd f g (C 19 0 * C 19 1).toNat 0, E) := by
  obtain ⟨p1, p2, p3, p4, p5, p6⟩ := id hP
  have ts := y_ts p1 p2
  have k4 := hK.1
  obtain ⟨u1, u2, u3, u4, u6, u7, u8⟩ := id hQ
  obtain ⟨q1, q2, q3, q4, q5, q8⟩ := id hq
  have e0 : E 1 0 = C 19 0 := by rw [q1 1 0 (by decide) (by decide) (by decide) (by decide) (by decide), u1 0 (by omega) (by omega) (by omega)]; exact h0
  have e1 : E 1 1 = C 19 1 := by rw [q1 1 1 (by decide) (by decide) (by decide) (by decide) (by decide), u1 1 (by omega) (by omega) (by omega)]; exact h1
  have f0b : ∀ a : Int, -1 ≤ y_f0 C a ∧ y_f0 C a < 24 := fun a => by
    have := y_grp_b (a := a) hP
    unfold y_f0; split <;> omega
  have inner : ∀ (n : Nat) (e a x : Int) (k : Int → zMem → zO), 0 ≤ e → e ≤ d → d - e < n → (0 ≤ a ∧ a ≤ 48) → (x = 0 ∨ x = 1) → ((∀ e' : Int, e ≤ e' → e' < d → A (it e') ≠ a) → Model_placeOf_30 N g d a k n x e E = k x E) ∧ ((∃ e' : Int, e ≤ e' ∧ e' < d ∧ A (it e') = a) → Model_placeOf_30 N g d a k n x e E = k 0 E) := by
    intro n
    induction n with
    | zero => intro e a x k _ _ h; omega
    | succ n ih =>
      intro e a x k g0 g1 gn ga gx
      rw [Model_placeOf_30]
      by_cases c : e < d
      · obtain ⟨ki, -⟩ := hK.2.1 e g0 (by omega)
        have m26 : E 26 e = it e := by rw [q1 26 e (by decide) (by decide) (by decide) (by decide) (by decide)]; exact u7 e g0 (by omega)
        have hne := hFd.1 e g0 c
        have m20 : E 20 (it e) = A (it e) := q3 (it e) ki.1 ki.2 hne
        have hr := hAr (it e) ki.1 ki.2
        rw [z_lt_t (by omega), z_jn_e, z_jn_e]
        by_cases cx : x = 0
        · rw [z_eq_t (by omega)]
          simp only [z_nm_e]
          obtain ⟨i1, i2⟩ := ih (e + 1) a 0 k (by omega) (by omega) (by omega) ga (Or.inl rfl)
          subst cx
          refine ⟨fun q => i1 (fun e' k1 k2 => q e' (by omega) k2), fun ⟨e', k1, k2, k3⟩ => ?_⟩
          by_cases cq : ∃ e' : Int, e + 1 ≤ e' ∧ e' < d ∧ A (it e') = a
          · exact i2 cq
          · exact i1 (fun e'' w1 w2 w3 => cq ⟨e'', w1, w2, w3⟩)
        · rw [z_eq_f (by omega), z_rd_t (by omega), m26, z_rd_t (by omega), m20]
          by_cases ce : A (it e) = a
          · rw [z_eq_t (by omega)]
            simp only [z_nm_e]
            obtain ⟨i1, i2⟩ := ih (e + 1) a 0 k (by omega) (by omega) (by omega) ga (Or.inl rfl)
            refine ⟨fun q => absurd ce (q e (by omega) c), fun _ => ?_⟩
            by_cases cq : ∃ e' : Int, e + 1 ≤ e' ∧ e' < d ∧ A (it e') = a
            · exact i2 cq
            · exact i1 (fun e'' w1 w2 w3 => cq ⟨e'', w1, w2, w3⟩)
          · rw [z_eq_f (by omega)]
            simp only [z_nm_e]
            obtain ⟨i1, i2⟩ := ih (e + 1) a 1 k (by omega) (by omega) (by omega) ga (Or.inr rfl)
            have ex : x = 1 := by omega
            subst ex
            refine ⟨fun q => i1 (fun e' k1 k2 => q e' (by omega) k2), fun ⟨e', k1, k2, k3⟩ => i2 ⟨e', ?_, k2, k3⟩⟩
            by_cases q : e' = e
            · rw [q] at k3; exact absurd k3 ce
            · omega
      · rw [z_lt_f (by omega)]
        exact ⟨fun _ => rfl, fun ⟨e', k1, k2, _⟩ => by omega⟩
  rcases y_fnd_b (f := f) (x := g) (C 19 0 * C 19 1).toNat 0 with q | ⟨y1, y2, y3⟩
  · exact absurd q hex
  have hmin := y_fnd_min (f := f) (x := g) (C 19 0 * C 19 1).toNat 0 (Int.le_refl 0)
  generalize y_fnd f g (C 19 0 * C 19 1).toNat 0 = p at y1 y2 y3 hmin hex ⊢
  have outer : ∀ (n : Nat) (a : Int) (k : zMem → zO), 0 ≤ a → a ≤ p → p - a < n → Model_placeOf_2 N g d k n a E = some (p, E) := by
    intro n
    induction n with
    | zero => intro a k _ _ h; omega
    | succ n ih =>
      intro a k g0 g1 gn
      have m23 : E 23 a = y_f0 C a := by rw [q1 23 a (by decide) (by decide) (by decide) (by decide) (by decide)]; exact u8 a g0 (by omega)
      have fb := f0b a
      rw [Model_placeOf_2, Model_many_e, e0, e1, z_cl_e, z_lt_t (by omega), z_rd_t (by omega), m23, z_jn_e]
      have ha2 : a < C 19 0 * C 19 1 := by omega
      by_cases c : a = p
      · have hfa : f a = g := by rw [c]; exact y3
        rcases hFd.2 a g0 ha2 with ⟨x1, -⟩ | ⟨x1, x2, x3⟩
        · omega
        · rw [z_eq_t (by omega)]
          simp only []
          rw [z_jn_e, (inner N 0 a 1 _ (by omega) (by omega) (by omega) (by omega) (Or.inr rfl)).1 (fun e' k1 k2 => x3 e' k1 k2), z_eq_f (by omega), c]
      · have hfa : f a ≠ g := hmin a g0 (by omega)
        have hz : ∀ x : Int, ((x = 1 ∧ y_f0 C a = g) ∨ x = 0) → z_jn (fun (v4_ : Int) (M3 : zMem) => z_eq v4_ 0 (z_nm (a + 1) (fun v3_ => Model_placeOf_2 N g d k n v3_ M3)) (some (a, M3))) (fun k2 => Model_placeOf_30 N g d a k2 N x 0 E) = some (p, E) := by
          intro x hx
          have he : ∀ K : Int → zMem → zO, Model_placeOf_30 N g d a K N x 0 E = K 0 E := fun K => by
            obtain ⟨i1, i2⟩ := inner N 0 a x K (by omega) (by omega) (by omega) (by omega) (by omega)
            by_cases cq : ∃ e' : Int, 0 ≤ e' ∧ e' < d ∧ A (it e') = a
            · exact i2 cq
            · have hn0 : ∀ e' : Int, 0 ≤ e' → e' < d → A (it e') ≠ a := fun e' w1 w2 w3 => cq ⟨e', w1, w2, w3⟩
              have hx0 : x = 0 := by
                rcases hx with ⟨w1, w2⟩ | w
                · rcases hFd.2 a g0 ha2 with ⟨x1, x2⟩ | ⟨x1, -⟩
                  · rcases x2 with x2 | x2
                    · omega
                    · exact absurd x2 cq
                  · exact absurd (by rw [x1]; exact w2) hfa
                · exact w
              subst hx0
              exact i1 hn0
          rw [z_jn_e, he, z_eq_t (by omega), z_nm_e]
          exact ih (a + 1) k (by omega) (by omega) (by omega)
        by_cases cg : y_f0 C a = g
        · rw [z_eq_t (by omega)]; exact hz 1 (Or.inl ⟨rfl, cg⟩)
        · rw [z_eq_f (by omega)]; exact hz 0 (Or.inr rfl)
  unfold Model_placeOf
  rw [z_jn_e]
  exact outer N 0 _ (by omega) (by omega) (by omega)
