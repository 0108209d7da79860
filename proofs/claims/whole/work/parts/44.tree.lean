/-! the class's search: the tree -/
theorem y_fnd_min {f : Int → Int} {x : Int} : ∀ (m : Nat) (i : Int), 0 ≤ i → ∀ j : Int, i ≤ j → j < y_fnd f x m i → f j ≠ x := by
  intro m
  induction m with
  | zero => intro i h0 j g1 g2; have : y_fnd f x 0 i = -1 := rfl; omega
  | succ m ih =>
    intro i h0 j g1 g2
    have e : y_fnd f x (m + 1) i = if f i = x then i else y_fnd f x m (i + 1) := rfl
    rw [e] at g2
    by_cases c : f i = x
    · rw [if_pos c] at g2; omega
    · rw [if_neg c] at g2
      by_cases cj : j = i
      · rw [cj]; exact c
      · exact ih (i + 1) (by omega) j (by omega) g2
theorem y_fnd_first {f : Int → Int} {x a : Int} {m : Nat} (ha : 0 ≤ a ∧ a < m) (hf : f a = x) (hl : ∀ b : Int, 0 ≤ b → b < a → f b ≠ x) : y_fnd f x m 0 = a := by
  rcases y_fnd_b (f := f) (x := x) m 0 with q | ⟨q1, q2, q3⟩
  · exact absurd hf ((y_fnd_none m 0 (Int.le_refl 0)).mp q a ha.1 (by omega))
  · by_cases c : y_fnd f x m 0 < a
    · exact absurd q3 (hl _ q1 c)
    · by_cases c2 : a < y_fnd f x m 0
      · exact absurd hf (y_fnd_min m 0 (Int.le_refl 0) a ha.1 c2)
      · omega
theorem q_child {C M : zMem} {it A f : Int → Int} {K d a : Int} {s : zSt} (hP : y_P C) (hK : q_K C it K) (hN : q_N C it K d A f) (hq : q_C C it K A f s M) (hd : 0 ≤ d ∧ d < K) (ha : 0 ≤ a ∧ a < C 19 0 * C 19 1) (hfa : f a = y_grp C a) :
    q_C C it K (y_up A (it d) a) (y_up f a (-1)) s (z_st (z_st (z_st (z_st (z_st M 51 a 1) 53 (y_grp C a) (y_cnt f (y_grp C a) (C 19 0 * C 19 1).toNat - 1)) 50 (it d) a) 42 (it d) (y_turn (C 19 1) (C 19 0) (C 19 3) a)) 43 (it d) (Int.tmod a (y_turn (C 19 1) (C 19 0) (C 19 3) a))) := by
  have gb := y_grp_b (a := a) hP
  obtain ⟨q1, q2, q3, q4, q5, q6, ⟨q7, q8, q9⟩, q10⟩ := id hq
  have fr : ∀ c j, c ≠ 51 → c ≠ 53 → c ≠ 50 → c ≠ 42 → c ≠ 43 → (z_st (z_st (z_st (z_st (z_st M 51 a 1) 53 (y_grp C a) (y_cnt f (y_grp C a) (C 19 0 * C 19 1).toNat - 1)) 50 (it d) a) 42 (it d) (y_turn (C 19 1) (C 19 0) (C 19 3) a)) 43 (it d) (Int.tmod a (y_turn (C 19 1) (C 19 0) (C 19 3) a))) c j = M c j := fun c j g1 g2 g3 g4 g5 => by
    rw [z_st_c g5, z_st_c g4, z_st_c g3, z_st_c g2, z_st_c g1]
  refine ⟨fun c j g => by rw [fr c j (by omega) (by omega) (by omega) (by omega) (by omega)]; exact q1 c j g, ⟨by rw [fr 48 3 (by decide) (by decide) (by decide) (by decide) (by decide)]; exact q2.1, by rw [fr 48 8 (by decide) (by decide) (by decide) (by decide) (by decide)]; exact q2.2⟩, fun e g1 g2 => by rw [fr 49 e (by decide) (by decide) (by decide) (by decide) (by decide)]; exact q3 e g1 g2, fun i g1 g2 g3 => ?_, fun b g1 g2 => ?_, fun g g1 g2 => ?_, ⟨by rw [fr 48 9 (by decide) (by decide) (by decide) (by decide) (by decide)]; exact q7, by rw [fr 48 11 (by decide) (by decide) (by decide) (by decide) (by decide)]; exact q8, by rw [fr 48 10 (by decide) (by decide) (by decide) (by decide) (by decide)]; exact q9⟩, fun g0 i g1 g2 => by rw [fr 54 i (by decide) (by decide) (by decide) (by decide) (by decide)]; exact q10 g0 i g1 g2⟩
  · by_cases c : i = it d
    · rw [c, y_up_i]
      refine ⟨?_, ?_, ?_⟩
      · rw [z_st_c (by decide), z_st_c (by decide), z_st_i rfl]
      · rw [z_st_c (by decide), z_st_i rfl]
      · rw [z_st_i rfl]
    · rw [y_up_n c] at g3 ⊢
      have := q4 i g1 g2 g3
      refine ⟨?_, ?_, ?_⟩
      · rw [z_st_c (by decide), z_st_c (by decide), z_st_n c, z_st_c (by decide), z_st_c (by decide)]; exact this.1
      · rw [z_st_c (by decide), z_st_n c, z_st_c (by decide), z_st_c (by decide), z_st_c (by decide)]; exact this.2.1
      · rw [z_st_n c, z_st_c (by decide), z_st_c (by decide), z_st_c (by decide), z_st_c (by decide)]; exact this.2.2
  · rw [fr 52 b (by decide) (by decide) (by decide) (by decide) (by decide), z_st_c (by decide), z_st_c (by decide), z_st_c (by decide), z_st_c (by decide)]
    by_cases c : b = a
    · rw [c, y_up_i, z_st_i rfl, if_pos rfl]; exact ⟨rfl, (q5 a ha.1 ha.2).2⟩
    · rw [y_up_n c, z_st_n c]; exact q5 b g1 g2
  · rw [z_st_c (by decide), z_st_c (by decide), z_st_c (by decide), y_cnt_up (by omega) (by omega), hfa]
    by_cases c : g = y_grp C a
    · rw [c, z_st_i rfl, if_pos rfl]
    · rw [z_st_n c, z_st_c (by decide), if_neg (fun q => c q.symm), Int.sub_zero]; exact q6 g g1 g2
theorem q_back {C M : zMem} {it A f : Int → Int} {K d a : Int} {s : zSt} (hP : y_P C) (hN : q_N C it K d A f) (hd : 0 ≤ d ∧ d < K) (ha : 0 ≤ a ∧ a < C 19 0 * C 19 1) (hfa : f a = y_grp C a) (hq : q_C C it K (y_up A (it d) a) (y_up f a (-1)) s M) :
    q_C C it K A f s (z_st (z_st M 53 (y_grp C a) (y_cnt f (y_grp C a) (C 19 0 * C 19 1).toNat)) 51 a 0) := by
  have gb := y_grp_b (a := a) hP
  obtain ⟨q1, q2, q3, q4, q5, q6, ⟨q7, q8, q9⟩, q10⟩ := id hq
  have fr : ∀ c j, c ≠ 51 → c ≠ 53 → (z_st (z_st M 53 (y_grp C a) (y_cnt f (y_grp C a) (C 19 0 * C 19 1).toNat)) 51 a 0) c j = M c j := fun c j g1 g2 => by
    rw [z_st_c g1, z_st_c g2]
  refine ⟨fun c j g => by rw [fr c j (by omega) (by omega)]; exact q1 c j g, ⟨by rw [fr 48 3 (by decide) (by decide)]; exact q2.1, by rw [fr 48 8 (by decide) (by decide)]; exact q2.2⟩, fun e g1 g2 => by rw [fr 49 e (by decide) (by decide)]; exact q3 e g1 g2, fun i g1 g2 g3 => ?_, fun b g1 g2 => ?_, fun g g1 g2 => ?_, ⟨by rw [fr 48 9 (by decide) (by decide)]; exact q7, by rw [fr 48 11 (by decide) (by decide)]; exact q8, by rw [fr 48 10 (by decide) (by decide)]; exact q9⟩, fun g0 i g1 g2 => by rw [fr 54 i (by decide) (by decide)]; exact q10 g0 i g1 g2⟩
  · have c : i ≠ it d := fun q => g3 (by rw [q]; exact hN.2.1 d (by omega) hd.2)
    have := q4 i g1 g2 (by rw [y_up_n c]; exact g3)
    rw [y_up_n c] at this
    rw [fr 50 i (by decide) (by decide), fr 42 i (by decide) (by decide), fr 43 i (by decide) (by decide)]; exact this
  · have := q5 b g1 g2
    rw [fr 52 b (by decide) (by decide)]
    by_cases c : b = a
    · rw [c, z_st_i rfl, if_neg (by omega)]; rw [c] at this; exact ⟨rfl, this.2⟩
    · rw [y_up_n c] at this
      rw [z_st_n c, z_st_c (by decide)]; exact this
  · have := q6 g g1 g2
    rw [y_cnt_up (by omega) (by omega), hfa] at this
    rw [z_st_c (by decide)]
    by_cases c : g = y_grp C a
    · rw [c, z_st_i rfl]
    · rw [if_neg (fun q => c q.symm), Int.sub_zero] at this
      rw [z_st_n c]; exact this
theorem q_tree {C : zMem} {N R : Nat} {it : Int → Int} {K : Int} (hP : y_P C) (hN : 400 ≤ N) (hR : y_TR C R) (hV : y_PV C R) (hT : ∀ a, 0 ≤ y_at C R a ∧ y_at C R a ≤ 9000) (hK : q_K C it K) :
    ∀ (r δ : Nat) (d : Int) (A f : Int → Int) (v : Int) (s : zSt) (M : zMem), r < δ → 0 ≤ d → d + r = K → q_N C it K d A f → q_C C it K A f s M → s_ok s →
      ∃ M' : zMem, Search_layLoose N δ d v M = some (0, M') ∧ q_C C it K A f ((lvC it (C 19 0 * C 19 1).toNat r d A f v).foldl (jC (y_at C R)) s) M' := by
  obtain ⟨p1, p2, p3, p4, p5, p6⟩ := id hP
  have ts := y_ts p1 p2
  have k4 := hK.1
  intro r
  induction r with
  | zero =>
    intro δ d A f v s M hδ hd hr hNd hq hs
    obtain ⟨δ', e⟩ : ∃ δ', δ = δ' + 1 := ⟨δ - 1, by omega⟩
    subst e
    have m3 : M 48 3 = K := hq.2.1.1
    obtain ⟨M', j1, j2⟩ := Search_judge_e (v := v) hP hN hR hV hT hq (fun i g1 g2 => by
      have := hNd.1 i g1 g2
      rcases this.1 with q | q
      · obtain ⟨e, e1, e2, -⟩ := this.2 q; omega
      · exact q) hs
    refine ⟨M', ?_, j2⟩
    rw [Search_layLoose, z_jn_e, m3, z_lt_f (by omega)]
    simp only [j1, z_cl_e]
  | succ r ih =>
    intro δ d A f v s M hδ hd hr hNd hq hs
    obtain ⟨δ', e⟩ : ∃ δ', δ = δ' + 1 := ⟨δ - 1, by omega⟩
    subst e
    have hd2 : 0 ≤ d ∧ d < K := by omega
    obtain ⟨ki1, ki2⟩ := hK.2.1 d hd2.1 hd2.2
    generalize hF : (fun a : Int => if f a ≠ -1 ∧ y_fnd f (f a) (C 19 0 * C 19 1).toNat 0 = a then lvC it (C 19 0 * C 19 1).toNat r (d + 1) (y_up A (it d) a) (y_up f a (-1)) (v * y_cnt f (f a) (C 19 0 * C 19 1).toNat) else []) = F
    have hFe : ∀ a : Int, F a = if f a ≠ -1 ∧ y_fnd f (f a) (C 19 0 * C 19 1).toNat 0 = a then lvC it (C 19 0 * C 19 1).toNat r (d + 1) (y_up A (it d) a) (y_up f a (-1)) (v * y_cnt f (f a) (C 19 0 * C 19 1).toNat) else [] := fun a => by rw [← hF]
    have loop : ∀ (n a : Nat) (w : Int32) (M : zMem) (k : zMem → zO), (a : Int) ≤ C 19 0 * C 19 1 → C 19 0 * C 19 1 - a < n → q_C C it K A f ((cc F a).foldl (jC (y_at C R)) s) M → (∀ g : Nat, g < 24 → (y_bit w.toInt g = 0 ↔ ∀ b : Int, 0 ≤ b → b < a → f b ≠ g)) →
        ∃ M' : zMem, Search_layLoose_33 N (Search_layLoose N δ') d v (it d) k n w.toInt a M = k M' ∧ q_C C it K A f ((cc F (C 19 0 * C 19 1).toNat).foldl (jC (y_at C R)) s) M' := by
      intro n
      induction n with
      | zero => intro a w M k _ h; omega
      | succ n ihn =>
        intro a w M k ha hn hqa hw
        obtain ⟨q1, q2, q3, q4, q5, q6, q7, q10⟩ := id hqa
        have k19 : ∀ j, M 19 j = C 19 j := fun j => q1 19 j (by omega)
        rw [Search_layLoose_33]
        unfold Plan_addresses
        rw [k19, k19, z_cl_e]
        have ec : (a : Int) + 1 = ((a + 1 : Nat) : Int) := by omega
        by_cases c : (a : Int) < C 19 0 * C 19 1
        · have gb := y_grp_b (a := a) hP
          obtain ⟨x1, x2⟩ := q5 a (by omega) c
          have hcc : cc F (a + 1) = cc F a ++ F a := rfl
          rw [z_lt_t (by omega), z_rd_t (by omega), z_rd_t (by omega), z_jn_e, x1, x2]
          by_cases cf : f a = -1
          · rw [if_pos cf, z_eq_f (by omega)]
            simp only [z_nm_e, ec]
            refine ihn (a + 1) w M k (by omega) (by omega) ?_ (fun g hg => ?_)
            · rw [hcc, hFe, if_neg (fun q => q.1 cf), List.append_nil]; exact hqa
            · rw [hw g hg]
              refine ⟨fun q b g1 g2 => ?_, fun q b g1 g2 => q b g1 (by omega)⟩
              by_cases cb : b = a
              · rw [cb, cf]; omega
              · exact q b g1 (by omega)
          · have hfa : f a = y_grp C a := (hNd.2.2 a (by omega) c).resolve_left cf
            have eg : (((y_grp C a).toNat : Nat) : Int) = y_grp C a := by omega
            have hwg := hw (y_grp C a).toNat (by omega)
            rw [eg] at hwg
            have bb : y_bit w.toInt (y_grp C a) = 0 ∨ y_bit w.toInt (y_grp C a) = 1 := by
              have := y_bit_b w (y_grp C a).toNat (by omega)
              rw [eg] at this
              rw [this]; split <;> omega
            rw [if_neg cf, z_eq_t (by omega)]
            have hbe : z_and (z_shr w.toInt (y_grp C a)) 1 = y_bit w.toInt (y_grp C a) := rfl
            rw [hbe]
            by_cases cb : y_bit w.toInt (y_grp C a) = 0
            · have hno := hwg.mp cb
              have hfst : y_fnd f (f a) (C 19 0 * C 19 1).toNat 0 = a := y_fnd_first (by omega) rfl (fun b g1 g2 => by rw [hfa]; exact hno b g1 g2)
              obtain ⟨w', w1, w2⟩ := y_bit_or (w := w) (x := (y_grp C a).toNat) (by omega)
              rw [eg] at w1
              have x53 := q6 (y_grp C a) gb.1 gb.2
              have cb2 := y_cnt_b (f := f) (g := y_grp C a) (m := (C 19 0 * C 19 1).toNat)
              have hPM : y_P (z_st (z_st (z_st M 51 a 1) 53 (y_grp C a) (y_cnt f (y_grp C a) (C 19 0 * C 19 1).toNat - 1)) 50 (it d) a) := by
                unfold y_P
                simp only [z_st_c (show (19 : Nat) ≠ 50 by decide), z_st_c (show (19 : Nat) ≠ 53 by decide), z_st_c (show (19 : Nat) ≠ 51 by decide), k19]
                exact hP
              have m3 : ∀ j, (z_st (z_st (z_st M 51 a 1) 53 (y_grp C a) (y_cnt f (y_grp C a) (C 19 0 * C 19 1).toNat - 1)) 50 (it d) a) 19 j = C 19 j := fun j => by
                rw [z_st_c (by decide), z_st_c (by decide), z_st_c (by decide), k19]
              have ai := Clock_aimItem_e (i := it d) (a := a) (q := C 19 3) hPM (by omega) (by omega) (by omega)
              rw [m3, m3] at ai
              have hch := q_child hP hK hNd hqa hd2 ⟨by omega, c⟩ hfa
              obtain ⟨M7, i1, i2⟩ := ih δ' (d + 1) _ _ (v * y_cnt f (y_grp C a) (C 19 0 * C 19 1).toNat) _ _ (by omega) (by omega) (by omega) (q_N_child hK hNd hd2 ⟨by omega, c⟩) hch (s_ok_f hT _ _ hs)
              have hbk := q_back hP hNd hd2 ⟨by omega, c⟩ hfa i2
              rw [z_eq_t (by omega), z_nm_e, w1, z_rd_t (by omega), x53, z_wz_t (by omega), z_wr_t (by omega), z_wr_t (by omega), m3, ai, z_cl_e, z_il_t (by omega), i1, z_cl_e, z_wr_t (by omega), z_wz_t (by omega)]
              simp only [z_nm_e, ec]
              refine ihn (a + 1) w' _ k (by omega) (by omega) ?_ (fun g hg => ?_)
              · rw [hcc, hFe, if_pos ⟨cf, hfst⟩, List.foldl_append, hfa]; exact hbk
              · rw [w2 g hg, hw g hg]
                refine ⟨fun q b g1 g2 => ?_, fun q => ⟨fun b g1 g2 => q b g1 (by omega), fun e => q a (by omega) (by omega) (by omega)⟩⟩
                by_cases cb : b = a
                · rw [cb, hfa]; have := q.2; omega
                · exact q.1 b g1 (by omega)
            · rw [z_eq_f (by omega)]
              simp only [z_nm_e, ec]
              refine ihn (a + 1) w M k (by omega) (by omega) ?_ (fun g hg => ?_)
              · rw [hcc, hFe, if_neg (fun q => cb (hwg.mpr (fun b g1 g2 => by
                  have := y_fnd_min (f := f) (x := f a) (C 19 0 * C 19 1).toNat 0 (Int.le_refl 0) b g1 (by omega)
                  rw [← hfa]; exact this))), List.append_nil]; exact hqa
              · rw [hw g hg]
                refine ⟨fun q b g1 g2 => ?_, fun q b g1 g2 => q b g1 (by omega)⟩
                by_cases cb' : b = a
                · rw [cb', hfa]
                  intro e
                  exact cb (hwg.mpr (fun b g1 g2 => by rw [e]; exact q b g1 g2))
                · exact q b g1 (by omega)
        · rw [z_lt_f (by omega)]
          have : a = (C 19 0 * C 19 1).toNat := by omega
          subst this
          exact ⟨M, rfl, hqa⟩
    have m3 : M 48 3 = K := hq.2.1.1
    have m49 : M 49 d = it d := hq.2.2.1 d hd2.1 hd2.2
    obtain ⟨M', l1, l2⟩ := loop N 0 0 M (fun (M3 : zMem) => some (0, M3)) (by omega) (by omega) hq (fun g hg => ⟨fun _ b g1 g2 => by omega, fun _ => by
      rw [y_bit_b 0 g hg]
      have : (0 : Int32).toBitVec.getLsbD g = false := BitVec.getLsbD_zero
      rw [this]; rfl⟩)
    refine ⟨M', ?_, ?_⟩
    · rw [Search_layLoose, z_jn_e, m3, z_lt_t (by omega), z_le_f (by omega), z_rd_t (by omega), m49, z_jn_e]
      exact l1
    · show q_C C it K A f ((cc (fun a : Int => if f a ≠ -1 ∧ y_fnd f (f a) (C 19 0 * C 19 1).toNat 0 = a then lvC it (C 19 0 * C 19 1).toNat r (d + 1) (y_up A (it d) a) (y_up f a (-1)) (v * y_cnt f (f a) (C 19 0 * C 19 1).toNat) else []) (C 19 0 * C 19 1).toNat).foldl (jC (y_at C R)) s) M'
      rw [hF]; exact l2
