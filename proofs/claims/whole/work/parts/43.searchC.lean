/-! the class's search -/
theorem y_sum_up {φ ψ : Int → Int} {a : Nat} : ∀ m : Nat, (∀ j : Nat, j < m → j ≠ a → ψ j = φ j) → y_sum ψ m = y_sum φ m + (if a < m then ψ a - φ a else 0) := by
  intro m
  induction m with
  | zero => intro _; rfl
  | succ m ih =>
    intro h
    have := ih (fun j g1 g2 => h j (by omega) g2)
    show y_sum ψ m + ψ m = y_sum φ m + φ m + _
    by_cases c : a = m
    · subst c
      rw [if_neg (by omega)] at this
      rw [if_pos (by omega)]; omega
    · rw [h m (by omega) (by omega), this]
      by_cases c2 : a < m
      · rw [if_pos c2, if_pos (by omega)]; omega
      · rw [if_neg c2, if_neg (by omega)]; omega
theorem y_cnt_up {f : Int → Int} {a g : Int} {m : Nat} (ha : 0 ≤ a ∧ a < m) (hg : g ≠ -1) : y_cnt (y_up f a (-1)) g m = y_cnt f g m - if f a = g then 1 else 0 := by
  have e : ((a.toNat : Nat) : Int) = a := by omega
  unfold y_cnt
  rw [y_sum_up (φ := fun a => if f a = g then 1 else 0) (ψ := fun b => if y_up f a (-1) b = g then 1 else 0) (a := a.toNat) m (fun j g1 g2 => by
    show (if y_up f a (-1) j = g then 1 else 0) = (if f j = g then (1 : Int) else 0)
    rw [y_up_n (by omega)]), if_pos (by omega)]
  show _ + ((if y_up f a (-1) ((a.toNat : Nat) : Int) = g then 1 else 0) - (if f ((a.toNat : Nat) : Int) = g then 1 else 0)) = _
  rw [e, y_up_i, if_neg (show ¬ (-1 : Int) = g by omega)]; omega
theorem y_cnt_b {f : Int → Int} {g : Int} {m : Nat} : 0 ≤ y_cnt f g m ∧ y_cnt f g m ≤ m := by
  have := y_sum_b (f := fun a => if f a = g then 1 else 0) (b := 1) m (fun j _ => by
    show 0 ≤ (if f j = g then (1 : Int) else 0) ∧ (if f j = g then (1 : Int) else 0) ≤ 1
    split <;> omega)
  unfold y_cnt; omega
def y_grp (C : zMem) (a : Int) : Int := if y_turn (C 19 1) (C 19 0) (C 19 3) a = C 19 1 then a % y_turn (C 19 1) (C 19 0) (C 19 3) a else 12 + a % y_turn (C 19 1) (C 19 0) (C 19 3) a
theorem y_grp_b {C : zMem} {a : Int} (hP : y_P C) : 0 ≤ y_grp C a ∧ y_grp C a < 24 := by
  obtain ⟨p1, p2, p3, p4, p5, p6⟩ := id hP
  have hb := y_turn_b (T := C 19 0) (q := C 19 3) (a := a) p2 (by omega)
  unfold y_grp
  generalize y_turn (C 19 1) (C 19 0) (C 19 3) a = m at hb ⊢
  have e1 := Int.emod_nonneg a (show m ≠ 0 by omega)
  have e2 := Int.emod_lt_of_pos a (show 0 < m by omega)
  split <;> omega
def q_K (C : zMem) (it : Int → Int) (K : Int) : Prop := (0 ≤ K ∧ K ≤ 4) ∧ (∀ e : Int, 0 ≤ e → e < K → (0 ≤ it e ∧ it e < C 19 6) ∧ C 21 (it e) = -1) ∧ ∀ e e' : Int, 0 ≤ e → e < K → 0 ≤ e' → e' < K → it e = it e' → e = e'
def q_N (C : zMem) (it : Int → Int) (K d : Int) (A f : Int → Int) : Prop := (∀ i : Int, 0 ≤ i → i < C 19 6 → (A i = -1 ∨ (0 ≤ A i ∧ A i < C 19 0 * C 19 1)) ∧ (A i = -1 → ∃ e : Int, d ≤ e ∧ e < K ∧ it e = i)) ∧ (∀ e : Int, d ≤ e → e < K → A (it e) = -1) ∧ ∀ a : Int, 0 ≤ a → a < C 19 0 * C 19 1 → (f a = -1 ∨ f a = y_grp C a)
theorem q_N_child {C : zMem} {it A f : Int → Int} {K d a : Int} (hK : q_K C it K) (h : q_N C it K d A f) (hd : 0 ≤ d ∧ d < K) (ha : 0 ≤ a ∧ a < C 19 0 * C 19 1) : q_N C it K (d + 1) (y_up A (it d) a) (y_up f a (-1)) := by
  obtain ⟨h1, h2, h3⟩ := h
  refine ⟨fun i g1 g2 => ?_, fun e g1 g2 => ?_, fun b g1 g2 => ?_⟩
  · by_cases c : i = it d
    · rw [c, y_up_i]; exact ⟨Or.inr ha, fun q => by omega⟩
    · rw [y_up_n c]
      refine ⟨(h1 i g1 g2).1, fun q => ?_⟩
      obtain ⟨e, e1, e2, e3⟩ := (h1 i g1 g2).2 q
      refine ⟨e, ?_, e2, e3⟩
      by_cases ce : e = d
      · exact absurd (by rw [← e3, ce]) c
      · omega
  · rw [y_up_n (fun q => by have := hK.2.2 e d (by omega) g2 hd.1 hd.2 q; omega)]
    exact h2 e (by omega) g2
  · by_cases c : b = a
    · rw [c, y_up_i]; exact Or.inl rfl
    · rw [y_up_n c]; exact h3 b g1 g2
def s_ok (s : zSt) : Prop := (s.1 = -1 ∨ (0 ≤ s.1 ∧ s.1 ≤ 9000)) ∧ 0 ≤ s.2.2.1 ∧ s.2.2.1 ≤ 9000
theorem s_ok_j {T : (Int → Int) → Int} {s : zSt} {x : zLf} (hT : ∀ a, 0 ≤ T a ∧ T a ≤ 9000) (h : s_ok s) : s_ok (jC T s x) := by
  have t := hT x.1
  unfold s_ok jC at *
  repeat' split
  all_goals
    simp only
    omega
theorem s_ok_f {T : (Int → Int) → Int} (hT : ∀ a, 0 ≤ T a ∧ T a ≤ 9000) : ∀ (l : List zLf) (s : zSt), s_ok s → s_ok (l.foldl (jC T) s) := by
  intro l
  induction l with
  | nil => intro s h; exact h
  | cons x l ih => intro s h; rw [List.foldl_cons]; exact ih _ (s_ok_j hT h)
/-- the class's memory, in the midst of the search -/
def q_C (C : zMem) (it : Int → Int) (K : Int) (A f : Int → Int) (s : zSt) (M : zMem) : Prop := (∀ c j, (c < 42 ∨ 54 < c ∨ c = 46 ∨ c = 47) → M c j = C c j) ∧ (M 48 3 = K ∧ M 48 8 = 1) ∧ (∀ e : Int, 0 ≤ e → e < K → M 49 e = it e) ∧
  (∀ i : Int, 0 ≤ i → i < C 19 6 → A i ≠ -1 → M 50 i = A i ∧ M 42 i = y_turn (C 19 1) (C 19 0) (C 19 3) (A i) ∧ M 43 i = Int.tmod (A i) (y_turn (C 19 1) (C 19 0) (C 19 3) (A i))) ∧
  (∀ a : Int, 0 ≤ a → a < C 19 0 * C 19 1 → M 51 a = (if f a = -1 then 1 else 0) ∧ M 52 a = y_grp C a) ∧ (∀ g : Int, 0 ≤ g → g < 24 → M 53 g = y_cnt f g (C 19 0 * C 19 1).toNat) ∧
  (M 48 9 = s.1 ∧ M 48 11 = s.2.1 ∧ M 48 10 = s.2.2.1) ∧ (s.1 ≠ -1 → ∀ i : Int, 0 ≤ i → i < C 19 6 → M 54 i = s.2.2.2 i)
theorem Clock_walk1_e {M : zMem} {N R : Nat} {a : Int → Int} (hP : y_P M) (hN : 400 ≤ N) (hR : y_TR M R) (hV : y_PV M R) (ha : ∀ i : Int, 0 ≤ i → i < M 19 6 → 0 ≤ a i ∧ a i ≤ 48)
    (hA : ∀ i : Int, 0 ≤ i → i < M 19 6 → M 42 i = y_turn (M 19 1) (M 19 0) (M 19 3) (a i) ∧ M 43 i = Int.tmod (a i) (y_turn (M 19 1) (M 19 0) (M 19 3) (a i))) :
    ∃ M' : zMem, Clock_walk N (M 19 2) 0 M = some (y_at M R a, M') ∧ ∀ c j, c ≠ 44 → c ≠ 45 → M' c j = M c j := by
  obtain ⟨p1, p2, p3, p4, p5, p6⟩ := id hP
  obtain ⟨r1, r2, r3⟩ := id hR
  have hA' : ∀ k : Nat, k < R → M 42 (M 35 k) = y_turn (M 19 1) (M 19 0) (M 19 3) (a (M 35 k)) ∧ M 43 (M 35 k) = Int.tmod (a (M 35 k)) (y_turn (M 19 1) (M 19 0) (M 19 3) (a (M 35 k))) := fun k hk => hA _ (r3 k hk).1.1 (r3 k hk).1.2
  obtain ⟨hW, hc, h4⟩ := y_aimed (q := M 19 3) (M := M) hP hR (by omega) (fun k hk => ha _ (r3 k hk).1.1 (r3 k hk).1.2) (fun _ _ _ _ => rfl) hA'
  obtain ⟨M2, b1, b2, b3⟩ := Clock_walk_e (w := M 19 2) (v2 := 0) hN hW p3 (Or.inr ⟨rfl, hV, y_TU_of (a := a) hP (fun j => rfl) (fun k hk => (hA' k hk).1)⟩)
  refine ⟨M2, ?_, b2⟩
  rw [b1, y_tm_congr hc]
  rfl
theorem y_at_eq {C M : zMem} {R : Nat} {a : Int → Int} (h : ∀ c j, c = 19 ∨ c = 35 ∨ c = 36 → M c j = C c j) : y_at M R a = y_at C R a := by
  have k19 : M 19 = C 19 := funext fun j => h 19 j (by omega)
  have k35 : M 35 = C 35 := funext fun j => h 35 j (by omega)
  have k36 : M 36 = C 36 := funext fun j => h 36 j (by omega)
  have ka : y_ad M = y_ad C := by funext q a t i; unfold y_ad; rw [k19]
  unfold y_at
  rw [k19, k35, k36, ka]
theorem q_ctx {C M : zMem} {R : Nat} (hP : y_P C) (hR : y_TR C R) (hV : y_PV C R) (hM : ∀ c j, (c < 42 ∨ 54 < c ∨ c = 46 ∨ c = 47) → M c j = C c j) : y_P M ∧ y_TR M R ∧ y_PV M R := by
  have k19 : M 19 = C 19 := funext fun j => hM 19 j (by omega)
  have k28 : M 28 = C 28 := funext fun j => hM 28 j (by omega)
  have k35 : M 35 = C 35 := funext fun j => hM 35 j (by omega)
  have k36 : M 36 = C 36 := funext fun j => hM 36 j (by omega)
  have k37 : M 37 = C 37 := funext fun j => hM 37 j (by omega)
  have k38 : M 38 = C 38 := funext fun j => hM 38 j (by omega)
  unfold y_P y_TR y_PV
  rw [k19, k28, k35, k36, k37, k38]
  exact ⟨hP, hR, hV⟩
theorem Search_judge_e {C M : zMem} {N R : Nat} {it A f : Int → Int} {K v : Int} {s : zSt} (hP : y_P C) (hN : 400 ≤ N) (hR : y_TR C R) (hV : y_PV C R) (hT : ∀ a, 0 ≤ y_at C R a ∧ y_at C R a ≤ 9000) (hq : q_C C it K A f s M) (hA : ∀ i : Int, 0 ≤ i → i < C 19 6 → 0 ≤ A i ∧ A i < C 19 0 * C 19 1) (hs : s_ok s) :
    ∃ M' : zMem, Search_judge N v M = some (0, M') ∧ q_C C it K A f (jC (y_at C R) s (A, v)) M' := by
  obtain ⟨p1, p2, p3, p4, p5, p6⟩ := id hP
  have ts := y_ts p1 p2
  obtain ⟨q1, q2, q3, q4, q5, q6, ⟨q7, q8, q9⟩, q10⟩ := id hq
  obtain ⟨cP, cR, cV⟩ := q_ctx hP hR hV q1
  have k19 : ∀ j, M 19 j = C 19 j := fun j => q1 19 j (by omega)
  obtain ⟨M1, w1, w2⟩ := Clock_walk1_e (a := A) cP hN cR cV (fun i g1 g2 => by rw [k19] at g2; have := hA i g1 g2; omega) (fun i g1 g2 => by
    rw [k19] at g2
    have := q4 i g1 g2 (by have := hA i g1 g2; omega)
    rw [k19, k19, k19]; exact this.2)
  rw [y_at_eq (fun c j g => q1 c j (by omega))] at w1
  have t := hT A
  obtain ⟨s1, s2⟩ := id hs
  have z9 : M1 48 9 = s.1 := by rw [w2 48 9 (by decide) (by decide)]; exact q7
  have z11 : M1 48 11 = s.2.1 := by rw [w2 48 11 (by decide) (by decide)]; exact q8
  have z10 : M1 48 10 = s.2.2.1 := by rw [w2 48 10 (by decide) (by decide)]; exact q9
  generalize hTA : y_at C R A = TA at t w1
  have fin : ∀ (l w mo : Int) (F : Int → Int) (M' : zMem), (∀ c j, c ≠ 44 → c ≠ 45 → c ≠ 48 → c ≠ 54 → M' c j = M c j) → (∀ j : Int, j ≠ 9 → j ≠ 10 → j ≠ 11 → M' 48 j = M 48 j) → M' 48 9 = l → M' 48 11 = w → M' 48 10 = mo → (l ≠ -1 → ∀ i : Int, 0 ≤ i → i < C 19 6 → M' 54 i = F i) → q_C C it K A f (l, w, mo, F) M' := by
    intro l w mo F M' f1 f2 f3 f4 f5 f6
    refine ⟨fun c j g => by rw [f1 c j (by omega) (by omega) (by omega) (by omega)]; exact q1 c j g, ⟨by rw [f2 3 (by omega) (by omega) (by omega)]; exact q2.1, by rw [f2 8 (by omega) (by omega) (by omega)]; exact q2.2⟩, fun e g1 g2 => by rw [f1 49 e (by decide) (by decide) (by decide) (by decide)]; exact q3 e g1 g2, fun i g1 g2 g3 => ?_, fun a g1 g2 => ?_, fun g g1 g2 => ?_, ⟨f3, f4, f5⟩, f6⟩
    · rw [f1 50 i (by decide) (by decide) (by decide) (by decide), f1 42 i (by decide) (by decide) (by decide) (by decide), f1 43 i (by decide) (by decide) (by decide) (by decide)]; exact q4 i g1 g2 g3
    · rw [f1 51 a (by decide) (by decide) (by decide) (by decide), f1 52 a (by decide) (by decide) (by decide) (by decide)]; exact q5 a g1 g2
    · rw [f1 53 g (by decide) (by decide) (by decide) (by decide)]; exact q6 g g1 g2
  unfold Search_judge jC
  rw [w1, hTA]
  simp only [z_cl_e, z_jn_e, z_pf_e, z_nm_e]
  rw [z10, z_mx_t (by omega)]
  by_cases c1 : s.1 = -1 ∨ TA < s.1
  · rw [if_pos c1]
    refine ⟨z_st (z_cpm (z_st (z_st (z_st M1 48 10 (max s.2.2.1 TA)) 48 9 TA) 48 11 0) 50 0 54 0 20) 48 11 v, ?_, fin _ _ _ _ _ (fun c j g1 g2 g3 g4 => ?_) (fun j g1 g2 g3 => ?_) ?_ ?_ ?_ (fun _ i g1 g2 => ?_)⟩
    · have e : z_st M1 48 10 (max s.2.2.1 TA) 48 9 = s.1 := by rw [z_st_n (by decide)]; exact z9
      rw [e]
      have e2 : z_cpm (z_st (z_st (z_st M1 48 10 (max s.2.2.1 TA)) 48 9 TA) 48 11 0) 50 0 54 0 20 48 9 = TA := by rw [z_cpm_c (by decide), z_st_n (by decide), z_st_i rfl]
      have e3 : z_cpm (z_st (z_st (z_st M1 48 10 (max s.2.2.1 TA)) 48 9 TA) 48 11 0) 50 0 54 0 20 48 11 = 0 := by rw [z_cpm_c (by decide), z_st_i rfl]
      unfold Drum_copyItems
      by_cases c2 : s.1 = -1
      · rw [z_eq_t (by omega), z_cp_t (by omega)]
        simp only [z_cl_e]
        rw [e2, e3, z_eq_t (by omega), Int.zero_add]
      · rw [z_eq_f (by omega), z_lt_t (by omega), z_cp_t (by omega)]
        simp only [z_cl_e]
        rw [e2, e3, z_eq_t (by omega), Int.zero_add]
    · rw [z_st_c g3, z_cpm_c g4, z_st_c g3, z_st_c g3, z_st_c g3]; exact w2 c j g1 g2
    · rw [z_st_n g3, z_cpm_c (by decide), z_st_n g3, z_st_n g1, z_st_n g2]; exact w2 48 j (by decide) (by decide)
    · rw [z_st_n (by decide), z_cpm_c (by decide), z_st_n (by decide), z_st_i rfl]
    · rw [z_st_i rfl]
    · rw [z_st_n (by decide), z_cpm_c (by decide), z_st_n (by decide), z_st_n (by decide), z_st_i rfl]
    · rw [z_st_c (by decide), z_cpm_i (by omega), z_st_c (by decide), z_st_c (by decide), z_st_c (by decide), w2 50 _ (by decide) (by decide), show (0 : Int) + (i - 0) = i by omega]
      exact (q4 i g1 g2 (by have := hA i g1 g2; omega)).1
  · rw [if_neg c1]
    have e : z_st M1 48 10 (max s.2.2.1 TA) 48 9 = s.1 := by rw [z_st_n (by decide)]; exact z9
    have e3 : z_st M1 48 10 (max s.2.2.1 TA) 48 11 = s.2.1 := by rw [z_st_n (by decide)]; exact z11
    rw [e, z_eq_f (by omega), z_lt_f (by omega)]
    by_cases c2 : TA = s.1
    · rw [if_pos c2, z_eq_t (by omega), e3]
      refine ⟨_, rfl, fin _ _ _ _ _ (fun c j g1 g2 g3 g4 => ?_) (fun j g1 g2 g3 => ?_) ?_ ?_ ?_ (fun g0 i g1 g2 => ?_)⟩
      · rw [z_st_c g3, z_st_c g3]; exact w2 c j g1 g2
      · rw [z_st_n g3, z_st_n g2]; exact w2 48 j (by decide) (by decide)
      · rw [z_st_n (by decide)]; exact e
      · rw [z_st_i rfl]
      · rw [z_st_n (by decide), z_st_i rfl]
      · rw [z_st_c (by decide), z_st_c (by decide), w2 54 _ (by decide) (by decide)]; exact q10 g0 i g1 g2
    · rw [if_neg c2, z_eq_f (by omega)]
      refine ⟨_, rfl, fin _ _ _ _ _ (fun c j g1 g2 g3 g4 => ?_) (fun j g1 g2 g3 => ?_) ?_ ?_ ?_ (fun g0 i g1 g2 => ?_)⟩
      · rw [z_st_c g3]; exact w2 c j g1 g2
      · rw [z_st_n g2]; exact w2 48 j (by decide) (by decide)
      · exact e
      · exact e3
      · rw [z_st_i rfl]
      · rw [z_st_c (by decide), w2 54 _ (by decide) (by decide)]; exact q10 g0 i g1 g2
