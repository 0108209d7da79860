/-! tokens: which kept word stands here -/
theorem kept_step {t : Int → Int} {sz b n : Int} {w N s k l f : Nat} {M E : zMem} {kk : zMem → zO} (hN : 1000 ≤ N) (hT : tt_T t sz M E) (h0 : 0 ≤ b) (hw : b + w ≤ sz) (h8 : E 0 8 = b) (h7 : E 0 7 = b + w)
    (hl : z_slen s = l) (h57 : z_slen 21 = 57) (hk : k + l < 57) (hc : ∀ j : Nat, j < l → z_schr 21 ((k : Int) + j) = z_schr s j ∧ z_schr s j ≠ 32) (he : z_schr 21 ((k : Int) + l) = 32) :
    Model_keptHere_4 N kk (f + 1) n k E = if y_is t b w s then some (n, E) else Model_keptHere_4 N kk f (n + 1) ((k : Int) + l + 1) E := by
  obtain ⟨⟨t1, t2, t3, t4⟩, t5⟩ := id hT
  have l15 : ∀ (K : Int → zMem → zO) (d m x : Nat), x + d = l → d < m → Model_keptHere_15 N n k K m ((k : Int) + x) E = K ((k : Int) + l) E := by
    intro K d
    induction d with
    | zero =>
      intro m x hx hm
      obtain ⟨m, rfl⟩ : ∃ m', m = m' + 1 := ⟨m - 1, by omega⟩
      rw [show x = l by omega, Model_keptHere_15, z_sc_t (by omega), he, z_eq_t (by omega)]
    | succ d ih =>
      intro m x hx hm
      obtain ⟨m, rfl⟩ : ∃ m', m = m' + 1 := ⟨m - 1, by omega⟩
      have cb := z_schr_b (i := s) (j := x)
      obtain ⟨c1, c2⟩ := hc x (by omega)
      rw [Model_keptHere_15, z_sc_t (by omega), c1, z_eq_f (by omega), z_nm_e, show (k : Int) + x + 1 = k + ((x + 1 : Nat) : Int) by omega]
      exact ih m (x + 1) (by omega) (by omega)
  have zero : ∀ (K : Int → zMem → zO) (m : Nat) (v : Int), z_Rg v → Model_keptHere_57 N n k ((k : Int) + l) K (m + 1) 0 v E = K 0 E := fun K m v hv => by
    rw [Model_keptHere_57, show (k : Int) + l - k = l by omega]
    by_cases c : v < l
    · rw [z_lt_t (by omega), z_eq_t (by omega)]
    · rw [z_lt_f (by omega)]
  have loop : ∀ (K : Int → zMem → zO) (d m v : Nat), v + d = w → d + 1 < m → w = l → (∀ j : Nat, j < v → t (b + j) = z_schr s j) → Model_keptHere_57 N n k ((k : Int) + l) K m 1 v E = if y_is t b w s then K 1 E else K 0 E := by
    intro K d
    induction d with
    | zero =>
      intro m v hv hm hl' hp
      obtain ⟨m, rfl⟩ : ∃ m', m = m' + 1 := ⟨m - 1, by omega⟩
      rw [Model_keptHere_57, z_lt_f (by omega), if_pos ⟨by omega, fun j hj => hp j (by omega)⟩]
    | succ d ih =>
      intro m v hv hm hl' hp
      obtain ⟨m, rfl⟩ : ∃ m', m = m' + 1 := ⟨m - 1, by omega⟩
      obtain ⟨b1, b2, b3⟩ := t5 (b + v) (by omega) (by omega)
      have cb := z_schr_b (i := s) (j := v)
      obtain ⟨c1, c2⟩ := hc v (by omega)
      rw [Model_keptHere_57, z_lt_t (by omega), z_eq_f (by omega), z_sc_t (by omega), c1, h8, z_rd_t (by omega), b2, z_jn_e]
      by_cases c : t (b + v) = z_schr s v
      · rw [z_eq_t (by omega)]
        simp only [z_nm_e]
        rw [show (v : Int) + 1 = ((v + 1 : Nat) : Int) by omega]
        exact ih m (v + 1) (by omega) (by omega) hl' (fun j hj => by
          by_cases q : j = v
          · rw [q]; exact c
          · exact hp j (by omega))
      · rw [z_eq_f (by omega)]
        simp only [z_nm_e]
        obtain ⟨m', e'⟩ : ∃ m', m = m' + 1 := ⟨m - 1, by omega⟩
        subst e'
        rw [if_neg (fun q => absurd (q.2 v (by omega)) c), zero _ _ _ (by omega)]
  rw [Model_keptHere_4, z_lt_t (by omega), z_jn_e]
  have e15 := fun K => l15 K l N 0 (by omega) (by omega)
  simp only [Int.natCast_zero, Int.add_zero] at e15
  rw [e15, z_jn_e, h7, h8, show (k : Int) + l - k = l by omega, show b + (w : Int) - b = w by omega]
  by_cases c : (l : Int) = w
  · rw [z_eq_t (by omega)]
    simp only []
    rw [z_jn_e]
    have := loop (fun (v4_ : Int) (M3 : zMem) => z_eq v4_ 0 (z_nm (n + 1) (fun v1_ => z_nm ((k : Int) + l + 1) (fun v2_ => Model_keptHere_4 N kk f v1_ v2_ M3))) (some (n, M3))) w N 0 (by omega) (by omega) (by omega) (fun j hj => by omega)
    rw [show ((0 : Nat) : Int) = 0 from rfl] at this
    rw [this]
    by_cases y : y_is t b w s
    · rw [if_pos y, if_pos y, z_eq_f (by omega)]
    · rw [if_neg y, if_neg y, z_eq_t (by omega)]; rfl
  · rw [z_eq_f (by omega)]
    simp only []
    rw [z_jn_e]
    obtain ⟨N', rfl⟩ : ∃ N', N = N' + 1 := ⟨N - 1, by omega⟩
    rw [zero _ _ _ (by omega), z_eq_t (by omega), if_neg (fun q => c (by have := q.1; omega))]; rfl
def y_kept (t : Int → Int) (b : Int) (w : Nat) : Int :=
  if y_is t b w 11 then 0 else if y_is t b w 12 then 1 else if y_is t b w 13 then 2 else if y_is t b w 14 then 3 else if y_is t b w 15 then 4 else if y_is t b w 16 then 5 else if y_is t b w 17 then 6 else if y_is t b w 18 then 7 else if y_is t b w 0 then 8 else if y_is t b w 6 then 9 else if y_is t b w 9 then 10 else if y_is t b w 10 then 11 else -1
theorem kept_e {t : Int → Int} {sz b : Int} {w N : Nat} {M E : zMem} (hN : 1000 ≤ N) (hT : tt_T t sz M E) (h0 : 0 ≤ b) (hw : b + w ≤ sz) (h8 : E 0 8 = b) (h7 : E 0 7 = b + w) : Model_keptHere N E = some (y_kept t b w, E) := by
  have h57 : z_slen 21 = 57 := by decide +kernel
  obtain ⟨f, rfl⟩ : ∃ f, N = f + 13 := ⟨N - 13, by omega⟩
  have go := fun (s k l f' : Nat) (n : Int) => kept_step (s := s) (k := k) (l := l) (f := f') (n := n) (kk := fun (M1 : zMem) => some ((-1), M1)) hN hT h0 hw h8 h7
  unfold Model_keptHere y_kept
  rw [z_jn_e]
  have g0 := go 11 1 4 (f + 12) 0 (by decide +kernel) h57 (by decide) (by decide +kernel) (by decide +kernel)
  have g1 := go 12 6 3 (f + 11) 1 (by decide +kernel) h57 (by decide) (by decide +kernel) (by decide +kernel)
  have g2 := go 13 10 3 (f + 10) 2 (by decide +kernel) h57 (by decide) (by decide +kernel) (by decide +kernel)
  have g3 := go 14 14 3 (f + 9) 3 (by decide +kernel) h57 (by decide) (by decide +kernel) (by decide +kernel)
  have g4 := go 15 18 5 (f + 8) 4 (by decide +kernel) h57 (by decide) (by decide +kernel) (by decide +kernel)
  have g5 := go 16 24 4 (f + 7) 5 (by decide +kernel) h57 (by decide) (by decide +kernel) (by decide +kernel)
  have g6 := go 17 29 4 (f + 6) 6 (by decide +kernel) h57 (by decide) (by decide +kernel) (by decide +kernel)
  have g7 := go 18 34 4 (f + 5) 7 (by decide +kernel) h57 (by decide) (by decide +kernel) (by decide +kernel)
  have g8 := go 0 39 4 (f + 4) 8 (by decide +kernel) h57 (by decide) (by decide +kernel) (by decide +kernel)
  have g9 := go 6 44 4 (f + 3) 9 (by decide +kernel) h57 (by decide) (by decide +kernel) (by decide +kernel)
  have g10 := go 9 49 4 (f + 2) 10 (by decide +kernel) h57 (by decide) (by decide +kernel) (by decide +kernel)
  have g11 := go 10 54 2 (f + 1) 11 (by decide +kernel) h57 (by decide) (by decide +kernel) (by decide +kernel)
  clear go
  have fin : Model_keptHere_4 (f + 13) (fun (M1 : zMem) => some ((-1), M1)) (f + 1) 12 57 E = some (-1, E) := by
    rw [Model_keptHere_4, z_lt_f (by omega)]
  have s0 : ((1 : Nat) : Int) = 1 := rfl
  rw [show Model_keptHere_4 (f + 13) (fun (M1 : zMem) => some ((-1), M1)) (f + 13) 0 1 E = _ from g0]
  by_cases y0 : y_is t b w 11
  · rw [if_pos y0, if_pos y0]
  rw [if_neg y0, if_neg y0, show Model_keptHere_4 (f + 13) (fun (M1 : zMem) => some ((-1), M1)) (f + 12) (0 + 1) (((1 : Nat) : Int) + ((4 : Nat) : Int) + 1) E = _ from g1]
  by_cases y1 : y_is t b w 12
  · rw [if_pos y1, if_pos y1]
  rw [if_neg y1, if_neg y1, show Model_keptHere_4 (f + 13) (fun (M1 : zMem) => some ((-1), M1)) (f + 11) (1 + 1) (((6 : Nat) : Int) + ((3 : Nat) : Int) + 1) E = _ from g2]
  by_cases y2 : y_is t b w 13
  · rw [if_pos y2, if_pos y2]
  rw [if_neg y2, if_neg y2, show Model_keptHere_4 (f + 13) (fun (M1 : zMem) => some ((-1), M1)) (f + 10) (2 + 1) (((10 : Nat) : Int) + ((3 : Nat) : Int) + 1) E = _ from g3]
  by_cases y3 : y_is t b w 14
  · rw [if_pos y3, if_pos y3]
  rw [if_neg y3, if_neg y3, show Model_keptHere_4 (f + 13) (fun (M1 : zMem) => some ((-1), M1)) (f + 9) (3 + 1) (((14 : Nat) : Int) + ((3 : Nat) : Int) + 1) E = _ from g4]
  by_cases y4 : y_is t b w 15
  · rw [if_pos y4, if_pos y4]
  rw [if_neg y4, if_neg y4, show Model_keptHere_4 (f + 13) (fun (M1 : zMem) => some ((-1), M1)) (f + 8) (4 + 1) (((18 : Nat) : Int) + ((5 : Nat) : Int) + 1) E = _ from g5]
  by_cases y5 : y_is t b w 16
  · rw [if_pos y5, if_pos y5]
  rw [if_neg y5, if_neg y5, show Model_keptHere_4 (f + 13) (fun (M1 : zMem) => some ((-1), M1)) (f + 7) (5 + 1) (((24 : Nat) : Int) + ((4 : Nat) : Int) + 1) E = _ from g6]
  by_cases y6 : y_is t b w 17
  · rw [if_pos y6, if_pos y6]
  rw [if_neg y6, if_neg y6, show Model_keptHere_4 (f + 13) (fun (M1 : zMem) => some ((-1), M1)) (f + 6) (6 + 1) (((29 : Nat) : Int) + ((4 : Nat) : Int) + 1) E = _ from g7]
  by_cases y7 : y_is t b w 18
  · rw [if_pos y7, if_pos y7]
  rw [if_neg y7, if_neg y7, show Model_keptHere_4 (f + 13) (fun (M1 : zMem) => some ((-1), M1)) (f + 5) (7 + 1) (((34 : Nat) : Int) + ((4 : Nat) : Int) + 1) E = _ from g8]
  by_cases y8 : y_is t b w 0
  · rw [if_pos y8, if_pos y8]
  rw [if_neg y8, if_neg y8, show Model_keptHere_4 (f + 13) (fun (M1 : zMem) => some ((-1), M1)) (f + 4) (8 + 1) (((39 : Nat) : Int) + ((4 : Nat) : Int) + 1) E = _ from g9]
  by_cases y9 : y_is t b w 6
  · rw [if_pos y9, if_pos y9]
  rw [if_neg y9, if_neg y9, show Model_keptHere_4 (f + 13) (fun (M1 : zMem) => some ((-1), M1)) (f + 3) (9 + 1) (((44 : Nat) : Int) + ((4 : Nat) : Int) + 1) E = _ from g10]
  by_cases y10 : y_is t b w 9
  · rw [if_pos y10, if_pos y10]
  rw [if_neg y10, if_neg y10, show Model_keptHere_4 (f + 13) (fun (M1 : zMem) => some ((-1), M1)) (f + 2) (10 + 1) (((49 : Nat) : Int) + ((4 : Nat) : Int) + 1) E = _ from g11]
  by_cases y11 : y_is t b w 10
  · rw [if_pos y11, if_pos y11]
  rw [if_neg y11, if_neg y11]
  exact fin
