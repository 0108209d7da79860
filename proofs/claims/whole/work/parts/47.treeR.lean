/-! the reference's search: the tree -/
theorem q_treeR {N R : Nat} {C D B : zMem} {it : Int → Int} {K : Int} {ah : (Int → Int) → (Int → Int) → Bool} (h : Rel N C D) (c : 0 < C 19 8) (hN : 400 ≤ N) (hB : r_B N C D R) (hK : q_K C it K) (hQ : q_B N R C D it K B) (hah : ∀ A B, ah A B = true ↔ y_lx it K A B) (hT : ∀ a, 0 ≤ y_at C R a ∧ y_at C R a ≤ 9000) :
    ∀ (r δ : Nat) (d : Int) (A f : Int → Int) (v : Int) (s : zSt) (E : zMem), r < δ → 0 ≤ d → d + r = K → q_N C it K d A f → q_F C it d A f → q_D C B A f s E → s_okR s → s_F it K s →
      ∃ E' : zMem, Model_tries N δ d v E = some (0, E') ∧ q_D C B A f ((lvR it (C 19 0 * C 19 1).toNat r d A f v).foldl (jR (y_at C R) ah) s) E' ∧ s_F it K ((lvR it (C 19 0 * C 19 1).toNat r d A f v).foldl (jR (y_at C R) ah) s) := by
  have hP := Rel_P h c
  obtain ⟨p1, p2, p3, p4, p5, p6⟩ := id hP
  have ts := y_ts p1 p2
  have k4 := hK.1
  have u6 : B 0 51 = K := hQ.2.2.2.2.1
  have u7 := hQ.2.2.2.2.2.1
  obtain ⟨d0, d1, -⟩ := h.2.2.1.1
  intro r
  induction r with
  | zero =>
    intro δ d A f v s E hδ hd hr hNd hFd hq hs hsF
    obtain ⟨δ', e⟩ : ∃ δ', δ = δ' + 1 := ⟨δ - 1, by omega⟩
    subst e
    have e51 : E 0 51 = K := by rw [hq.2.1 51 (by decide) (by decide) (by decide)]; exact u6
    have hA : ∀ i : Int, 0 ≤ i → i < C 19 6 → 0 ≤ A i ∧ A i < C 19 0 * C 19 1 := fun i g1 g2 => by
      have := hNd.1 i g1 g2
      rcases this.1 with q | q
      · obtain ⟨e, e1, e2, -⟩ := this.2 q; omega
      · exact q
    obtain ⟨E', j1, j2⟩ := Model_weighs_e (v := v) h c hN hB hK hQ hah hq hA hs hsF
    refine ⟨E', ?_, j2, s_F_j hT hsF (fun e g1 g2 => by
      obtain ⟨ki, -⟩ := hK.2.1 e g1 g2
      have := hA _ ki.1 ki.2
      show z_Rg (A (it e))
      omega)⟩
    rw [Model_tries, e51, z_eq_t (by omega), j1, z_cl_e]
  | succ r ih =>
    intro δ d A f v s E hδ hd hr hNd hFd hq hs hsF
    obtain ⟨δ', e⟩ : ∃ δ', δ = δ' + 1 := ⟨δ - 1, by omega⟩
    subst e
    have hd2 : 0 ≤ d ∧ d < K := by omega
    obtain ⟨ki1, ki2⟩ := hK.2.1 d hd2.1 hd2.2
    generalize hF : (fun g : Int => if y_fnd f g (C 19 0 * C 19 1).toNat 0 ≠ -1 then lvR it (C 19 0 * C 19 1).toNat r (d + 1) (y_up A (it d) (y_fnd f g (C 19 0 * C 19 1).toNat 0)) (y_up f (y_fnd f g (C 19 0 * C 19 1).toNat 0) (-1)) (v * y_cnt f g (C 19 0 * C 19 1).toNat) else []) = F
    have hFe : ∀ g : Int, F g = if y_fnd f g (C 19 0 * C 19 1).toNat 0 ≠ -1 then lvR it (C 19 0 * C 19 1).toNat r (d + 1) (y_up A (it d) (y_fnd f g (C 19 0 * C 19 1).toNat 0)) (y_up f (y_fnd f g (C 19 0 * C 19 1).toNat 0) (-1)) (v * y_cnt f g (C 19 0 * C 19 1).toNat) else [] := fun g => by rw [← hF]
    have loop : ∀ (n g : Nat) (E : zMem) (k : zMem → zO), g ≤ 24 → 24 - g < n → q_D C B A f ((cc F g).foldl (jR (y_at C R) ah) s) E → s_F it K ((cc F g).foldl (jR (y_at C R) ah) s) →
        ∃ E' : zMem, Model_tries_17 N (Model_tries N δ') d v k n g E = k E' ∧ q_D C B A f ((cc F 24).foldl (jR (y_at C R) ah) s) E' ∧ s_F it K ((cc F 24).foldl (jR (y_at C R) ah) s) := by
      intro n
      induction n with
      | zero => intro g E k _ h; omega
      | succ n ihn =>
        intro g E k hg hn hqa hsa
        obtain ⟨q1, q2, q3, q4, q5, q8⟩ := id hqa
        rw [Model_tries_17]
        have ec : (g : Int) + 1 = ((g + 1 : Nat) : Int) := by omega
        by_cases cg : g < 24
        · have x24 := q4 g (by omega) (by omega)
          have cb := y_cnt_b (f := f) (g := g) (m := (C 19 0 * C 19 1).toNat)
          have cp := y_cnt_pos (f := f) (g := g) (C 19 0 * C 19 1).toNat
          have hcc : cc F (g + 1) = cc F g ++ F g := rfl
          rw [z_lt_t (by omega), z_rd_t (by omega), z_jn_e, x24]
          by_cases cf : y_fnd f g (C 19 0 * C 19 1).toNat 0 ≠ -1
          · have pos := cp.mpr cf
            have e26 : E 26 d = it d := by rw [q1 26 d (by decide) (by decide) (by decide) (by decide) (by decide)]; exact u7 d hd2.1 hd2.2
            have pl := Model_placeOf_e (g := g) hP hN hK hQ d0 d1 hqa hFd (by omega) (fun i g1 g2 => (hNd.1 i g1 g2).1) (by omega) cf
            rcases y_fnd_b (f := f) (x := g) (C 19 0 * C 19 1).toNat 0 with q | ⟨y1, y2, y3⟩
            · exact absurd q cf
            have hFg := hFe g
            rw [if_pos cf] at hFg
            generalize y_fnd f g (C 19 0 * C 19 1).toNat 0 = p at *
            have hp : 0 ≤ p ∧ p < C 19 0 * C 19 1 := by omega
            have e24 : z_st E 20 (it d) p 24 g = y_cnt f g (C 19 0 * C 19 1).toNat := by rw [z_st_c (by decide)]; exact x24
            have hch : q_D C B (y_up A (it d) p) (y_up f p (-1)) ((cc F g).foldl (jR (y_at C R) ah) s) (z_st (z_st E 20 (it d) p) 24 g (y_cnt f g (C 19 0 * C 19 1).toNat - 1)) := by
              refine ⟨fun c j g1 g2 g3 g4 g5 => by rw [z_st_c g5, z_st_c g3]; exact q1 c j g1 g2 g3 g4 g5, fun j g1 g2 g3 => by rw [z_st_c (by decide), z_st_c (by decide)]; exact q2 j g1 g2 g3, fun i g1 g2 g3 => ?_, fun x g1 g2 => ?_, ?_, fun g0 i g1 g2 => ?_⟩
              · rw [z_st_c (by decide)]
                by_cases ci : i = it d
                · rw [ci, z_st_i rfl, y_up_i]
                · rw [z_st_n ci, y_up_n ci]
                  rw [y_up_n ci] at g3
                  exact q3 i g1 g2 g3
              · rw [y_cnt_up (by omega) (by omega), y3]
                by_cases cx : x = g
                · rw [z_st_i cx, if_pos cx.symm, cx]
                · rw [z_st_n cx, z_st_c (by decide), if_neg (fun k => cx k.symm), Int.sub_zero]; exact q4 x g1 g2
              · rw [z_st_c (by decide), z_st_c (by decide), z_st_c (by decide), z_st_c (by decide), z_st_c (by decide), z_st_c (by decide)]; exact q5
              · rw [z_st_c (by decide), z_st_c (by decide)]; exact q8 g0 i g1 g2
            obtain ⟨E5, i1, i2, i3⟩ := ih δ' (d + 1) _ _ (v * y_cnt f g (C 19 0 * C 19 1).toNat) _ _ (by omega) (by omega) (by omega) (q_N_child hK hNd hd2 hp) (q_F_child hK hFd hd2 hp) hch (s_okR_f hT _ _ hs) hsa
            obtain ⟨w1, w2, w3, w4, w5, w8⟩ := id i2
            have e5 := w4 g (by omega) (by omega)
            rw [y_cnt_up (by omega) (by omega), y3, if_pos rfl] at e5
            rw [z_lt_t (by omega), z_rd_t (by omega), e26, pl, z_cl_e, z_wr_t (by omega), z_rd_t (by omega), e24, z_wr_t (by omega), z_rd_t (by omega), z_st_i rfl, z_il_t (by omega), Int.sub_add_cancel, i1, z_cl_e, z_rd_t (by omega), e5, z_wr_t (by omega), Int.sub_add_cancel]
            simp only [z_nm_e, ec]
            refine ihn (g + 1) _ k (by omega) (by omega) ?_ ?_
            · rw [hcc, hFg, List.foldl_append]
              refine ⟨fun c j g1 g2 g3 g4 g5 => by rw [z_st_c g5]; exact w1 c j g1 g2 g3 g4 g5, fun j g1 g2 g3 => by rw [z_st_c (by decide)]; exact w2 j g1 g2 g3, fun i g1 g2 g3 => ?_, fun x g1 g2 => ?_, ?_, fun g0 i g1 g2 => ?_⟩
              · have ci : i ≠ it d := fun q => g3 (by rw [q]; exact hNd.2.1 d (by omega) hd2.2)
                rw [z_st_c (by decide), w3 i g1 g2 (by rw [y_up_n ci]; exact g3), y_up_n ci]
              · have wx := w4 x g1 g2
                rw [y_cnt_up (by omega) (by omega), y3] at wx
                by_cases cx : x = g
                · rw [z_st_i cx, cx]
                · rw [if_neg (fun k => cx k.symm), Int.sub_zero] at wx
                  rw [z_st_n cx]; exact wx
              · rw [z_st_c (by decide), z_st_c (by decide), z_st_c (by decide)]; exact w5
              · rw [z_st_c (by decide)]; exact w8 g0 i g1 g2
            · rw [hcc, hFg, List.foldl_append]; exact i3
          · have npos : ¬ 0 < y_cnt f g (C 19 0 * C 19 1).toNat := fun q => cf (cp.mp q)
            rw [z_lt_f (by omega)]
            simp only [z_nm_e, ec]
            refine ihn (g + 1) E k (by omega) (by omega) ?_ ?_
            · rw [hcc, hFe, if_neg cf, List.append_nil]; exact hqa
            · rw [hcc, hFe, if_neg cf, List.append_nil]; exact hsa
        · rw [z_lt_f (by omega)]
          have : g = 24 := by omega
          subst this
          exact ⟨E, rfl, hqa, hsa⟩
    have e51 : E 0 51 = K := by rw [hq.2.1 51 (by decide) (by decide) (by decide)]; exact u6
    obtain ⟨E', l1, l2, l3⟩ := loop N 0 E (fun (M1 : zMem) => some (0, M1)) (by omega) (by omega) hq hsF
    have hl : lvR it (C 19 0 * C 19 1).toNat (r + 1) d A f v = cc F 24 := by rw [← hF]; rfl
    refine ⟨E', ?_, by rw [hl]; exact l2, by rw [hl]; exact l3⟩
    rw [Model_tries, e51, z_eq_f (by omega), z_jn_e]
    exact l1
theorem cc_ne {α : Type} {F : Int → List α} {k : Nat} : ∀ n : Nat, k < n → F k ≠ [] → cc F n ≠ [] := by
  intro n
  induction n with
  | zero => intro h; omega
  | succ n ih =>
    intro hk h q
    have q' : cc F n ++ F n = [] := q
    rw [List.append_eq_nil_iff] at q'
    by_cases c : k = n
    · subst c; exact h q'.2
    · exact ih (by omega) h q'.1
theorem lv_ne {C : zMem} {it : Int → Int} {K : Int} (hP : y_P C) (hK : q_K C it K) : ∀ (r : Nat) (d : Int) (A f : Int → Int) (v : Int), 0 ≤ d → d + r = K → q_N C it K d A f → q_F C it d A f → (∀ i : Int, 0 ≤ i → i < C 19 6 → C 21 i ≠ -1 → A i = C 21 i) → lvC it (C 19 0 * C 19 1).toNat r d A f v ≠ [] := by
  obtain ⟨p1, p2, p3, p4, p5, p6⟩ := id hP
  have ts := y_ts p1 p2
  intro r
  induction r with
  | zero => intro d A f v _ _ _ _ _ q; cases q
  | succ r ih =>
    intro d A f v hd hr hNd hFd hA
    obtain ⟨ki1, ki2⟩ := hK.2.1 d hd (by omega)
    obtain ⟨a, a1, a2, a3⟩ := y_free_ex (f := A) (m := C 19 0 * C 19 1) ki1 (hNd.2.1 d (by omega) (by omega)) (by omega)
    have hfa : f a ≠ -1 := fun q => by
      rcases hFd.2 a a1 a2 with ⟨-, x⟩ | ⟨x1, x2, -⟩
      · rcases x with x | ⟨e, e1, e2, e3⟩
        · have gb := y_grp_b (a := a) hP
          unfold y_f0 at x
          by_cases cz : y_fnd (C 21) a (C 19 6).toNat 0 = -1
          · rw [if_pos cz] at x; omega
          · rcases y_fnd_b (f := C 21) (x := a) (C 19 6).toNat 0 with z | ⟨z1, z2, z3⟩
            · exact cz z
            · exact a3 ⟨_, z1, by omega, by rw [hA _ z1 (by omega) (by omega)]; exact z3⟩
        · obtain ⟨k1, -⟩ := hK.2.1 e e1 (by omega)
          exact a3 ⟨it e, k1.1, k1.2, e3⟩
      · exact x2 (by rw [← x1]; exact q)
    rcases y_fnd_b (f := f) (x := f a) (C 19 0 * C 19 1).toNat 0 with q | ⟨y1, y2, y3⟩
    · exact absurd rfl ((y_fnd_none _ 0 (Int.le_refl 0)).mp q a a1 (by omega))
    have hb : ∃ b : Int, 0 ≤ b ∧ b < C 19 0 * C 19 1 ∧ f b ≠ -1 ∧ y_fnd f (f b) (C 19 0 * C 19 1).toNat 0 = b := ⟨y_fnd f (f a) (C 19 0 * C 19 1).toNat 0, y1, by omega, by rw [y3]; exact hfa, by rw [y3]⟩
    obtain ⟨b, b1, b2, b3, b4⟩ := hb
    refine cc_ne (k := b.toNat) _ (by omega) ?_
    show (if f ((b.toNat : Nat) : Int) ≠ -1 ∧ y_fnd f (f ((b.toNat : Nat) : Int)) (C 19 0 * C 19 1).toNat 0 = ((b.toNat : Nat) : Int) then lvC it (C 19 0 * C 19 1).toNat r (d + 1) (y_up A (it d) ((b.toNat : Nat) : Int)) (y_up f ((b.toNat : Nat) : Int) (-1)) (v * y_cnt f (f ((b.toNat : Nat) : Int)) (C 19 0 * C 19 1).toNat) else []) ≠ []
    rw [show ((b.toNat : Nat) : Int) = b by omega, if_pos ⟨b3, b4⟩]
    refine ih (d + 1) _ _ _ (by omega) (by omega) (q_N_child hK hNd (by omega) ⟨b1, b2⟩) (q_F_child hK hFd (by omega) ⟨b1, b2⟩) (fun i g1 g2 g3 => ?_)
    rw [y_up_n (fun q => g3 (by rw [q]; exact ki2))]
    exact hA i g1 g2 g3
