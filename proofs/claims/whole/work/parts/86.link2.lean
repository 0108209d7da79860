/-! reading: all names -/
section
variable {t : Int → Int} {sz m : Int} {N : Nat}
theorem lB95 {k : zMem → zO} {n : Nat} {i : Int} {M : zMem} (hi : z_Rg i) (h6 : 0 ≤ M 10 6 ∧ M 10 6 ≤ 20) (h : 1 ≤ M 3 6 ∧ M 3 6 ≤ 4) : Reader_readText_95 N k (n + 1) i M = k M := by
  rw [Reader_readText_95, z_eq_f (x := M 3 6) (by omega), z_lt_e hi (by omega)]
  split <;> rfl
theorem lBres {k : zMem → zO} {n : Nat} {i : Int} {E : zMem} (hi : z_Rg i) (h21 : 0 ≤ E 0 21 ∧ E 0 21 ≤ 24) (h : E 0 12 = 1) : Model_resolves_2 N k (n + 1) i E = k E := by
  rw [Model_resolves_2, z_eq_f (x := E 0 12) (by omega), z_lt_e hi (by omega)]
  split <;> rfl
theorem failAt_e {p : Int} {M : zMem} (h : M 3 6 = 0) : Reader_failAt 4 p M = some (0, z_st (z_st M 3 6 4) 3 7 p) := by
  unfold Reader_failAt
  rw [z_eq_t (by omega), z_pf_e, z_pf_e]
/-- what the linking comes to -/
def kO (m : Int) (M E : zMem) (k k' : zMem → zO) (a b : zO) : Prop := ∃ M' E' : zMem, a = k M' ∧ b = k' E' ∧ fP M M' ∧ rI E E' ∧ (((1 ≤ M' 3 6 ∧ M' 3 6 ≤ 4) ∧ E' 0 12 = 1 ∧ E' 0 13 = M' 3 6 ∧ E' 0 14 = M' 3 7) ∨ (kM M M' ∧ kE E E' ∧ lkI M' E' m m))
theorem kO_t {M E M1 E1 : zMem} {k k' : zMem → zO} {a a' : zO} (h1 : kM M M1) (h2 : kE E E1) (h : kO m M1 E1 k k' a a') : kO m M E k k' a a' := by
  obtain ⟨M', E', x1, x2, x3, x4, x5⟩ := h
  exact ⟨M', E', x1, x2, fP_t (kM_p h1) x3, rI_t (kE_p h2) x4, x5.imp id (fun ⟨q1, q2, q3⟩ => ⟨kM_t h1 q1, kE_t h2 q2, q3⟩)⟩
theorem link_j {k k' : zMem → zO} (hN : 1000 ≤ N) : ∀ (d n n' : Nat) (i : Int) (M E : zMem), 0 ≤ i → i + d = m → d < n → 2 * d < n' → tt_T t sz M E → M 3 6 = 0 → E 0 12 = 0 → E 0 21 = 2 * rkD M m → plI t sz M E m → lkI M E m i → kO m M E k k' (Reader_readText_95 N k n i M) (Model_resolves_2 N k' n' (2 * rkD M i) E) := by
  intro d
  induction d with
  | zero =>
    intro n n' i M E h0 hd hn hn' hT h36 h12 h21 hp hl
    obtain ⟨n, rfl⟩ : ∃ x, n = x + 1 := ⟨n - 1, by omega⟩
    obtain ⟨n', rfl⟩ : ∃ x, n' = x + 1 := ⟨n' - 1, by omega⟩
    have rr := plI_r hp
    have nn := hp.2.1
    unfold plN at nn
    have e : i = m := by omega
    subst e
    have r0 := rkD_nn (M := M) i
    refine ⟨M, E, ?_, ?_, fun _ _ _ => rfl, fun _ _ _ => rfl, Or.inr ⟨fun _ _ _ _ => rfl, fun _ _ _ => rfl, hl⟩⟩
    · rw [Reader_readText_95, z_lt_f (by omega)]
    · rw [Model_resolves_2, z_lt_f (by omega)]
  | succ d ih =>
    intro n n' i M E h0 hd hn hn' hT h36 h12 h21 hp hl
    obtain ⟨n, rfl⟩ : ∃ x, n = x + 1 + 1 := ⟨n - 2, by omega⟩
    obtain ⟨n', rfl⟩ : ∃ x, n' = x + 1 + 1 + 1 := ⟨n' - 3, by omega⟩
    have rr := plI_r hp
    have nn := hp.2.1
    unfold plN at nn
    have r0 := rkD_nn (M := M) i
    have rle := rkD_le (M := M) (i := i + 1) (j := m) (by omega) (by omega)
    have rs := rkD_s (M := M) h0
    obtain ⟨i1, i2, i3, i4⟩ := hp.2.2.2 i h0 (by omega)
    have o := i2.1
    rw [Reader_readText_95, z_lt_t (by omega), z_eq_t (by omega)]
    by_cases c : M 11 i = -1 ∨ M 11 i = 7
    · have ls : Reader_linkStep N i M = some (0, M) := by
        unfold Reader_linkStep
        rw [z_rd_t (by omega)]
        rcases c with q | q
        · rw [z_eq_t (by omega)]
        · rw [z_eq_f (by omega), z_eq_t (by omega)]
      rw [if_pos c] at rs
      rw [ls, z_cl_e, z_nm_e, show 2 * rkD M i = 2 * rkD M (i + 1) by omega]
      exact ih (n + 1) (n' + 1 + 1 + 1) (i + 1) M E (by omega) (by omega) (by omega) (by omega) hT h36 h12 h21 hp (fun x g1 g2 g3 g4 => by
        by_cases e : x = i
        · rw [e] at g3 g4; exact absurd c (by omega)
        · exact hl x g1 (by omega) g3 g4)
    · rw [if_neg c] at rs
      obtain ⟨s1, s2, s3, s4⟩ := i4 (by omega)
      obtain ⟨⟨⟨a1, a2, a3, a4⟩, a5, a6, a7, a8⟩, ⟨⟨b1, b2, b3, b4⟩, b5, b6, b7, b8⟩⟩ := s4 (by omega)
      have nmd : ∀ j : Int, 0 ≤ j → j < m → nmS t sz M E j := fun j g1 g2 => (hp.2.2.2 j g1 g2).1
      obtain ⟨f, f1, f2, f3⟩ := named_j (m := m) (b := E 7 (2 * rkD M i)) (w := (E 8 (2 * rkD M i)).toNat) hN hT (by omega) nn.2.1 nmd ⟨a2, by omega⟩ a6
      rw [← a5] at f1
      rw [show (((E 8 (2 * rkD M i)).toNat : Nat) : Int) = E 8 (2 * rkD M i) by omega] at f2
      have E1c : ∀ c j, c ≠ 1 → z_st E 1 (69 + i) f c j = E c j := fun c j q => z_st_c q
      have kE1 : kE E (z_st E 1 (69 + i) f) := fun c j g => by
        by_cases q : c = 1
        · subst q; exact z_st_n (by omega)
        · exact z_st_c q
      have hp1 : plI t sz M (z_st E 1 (69 + i) f) m := plI_k hp (fun _ _ _ _ => rfl) kE1
      have hT1 : tt_T t sz M (z_st E 1 (69 + i) f) := tt_T_c hT rfl (fun _ => rfl) (z_st_c (by decide)) (fun _ => z_st_c (by decide))
      obtain ⟨l, l1, l2, l3⟩ := named_j (m := m) (E := z_st E 1 (69 + i) f) (b := E 7 (2 * rkD M i + 1)) (w := (E 8 (2 * rkD M i + 1)).toNat) hN hT1 (by omega) hp1.2.1.2.1 (fun j g1 g2 => (hp1.2.2.2 j g1 g2).1) ⟨b2, by omega⟩ b6
      rw [← b5] at l1
      rw [show (((E 8 (2 * rkD M i + 1)).toNat : Nat) : Int) = E 8 (2 * rkD M i + 1) by omega] at l2
      obtain ⟨mb1, mb2⟩ := mayBe_e (op := M 11 i) (r := f) hp (by omega) f3
      have isl : Plan_isStep 10 l M = some (if (0 ≤ l ∧ l < M 10 6) ∧ M 11 l ≠ -1 then 1 else 0, M) := Plan_isStep_e (by omega) (by omega) (fun q1 q2 => by
        have := (hp.2.2.2 l q1 (by omega)).2.1.1
        show z_Rg (M 11 l)
        omega)
      have lk : ∀ r : Int, Reader_mayBeFirst (M 11 i) f M = some (r, M) → Reader_linkStep N i M = z_eq r 0 (z_rd M 6 20 i (fun x4 => z_cl (Reader_failAt 4 x4 M) (fun u_1 M8 => some (0, M8)))) (z_cl (Plan_isStep 10 l M) (fun r_3 M4 => z_eq r_3 0 (z_rd M4 8 20 i (fun x3 => z_cl (Reader_failAt 4 x3 M4) (fun u_ M7 => some (0, M7)))) (z_wr M4 14 20 i f (fun M5 => z_wr M5 16 20 i l (fun M6 => some (0, M6)))))) := fun r hr => by
        unfold Reader_linkStep
        rw [z_rd_t (by omega), z_eq_f (by omega), z_eq_f (by omega), z_rd_t (by omega), nn.1, f1, z_cl_e, z_rd_t (by omega), nn.1, l1, z_cl_e, hr, z_cl_e]
      -- a fault at place p
      have bad : ∀ (p : Int) (E' : zMem) (n'' : Nat) (κ : Int), z_Rg κ → E' 0 12 = 1 → E' 0 13 = 4 → E' 0 14 = p → rI E E' → E' 0 21 = E 0 21 → Reader_linkStep N i M = some (0, z_st (z_st M 3 6 4) 3 7 p) → kO m M E k k' (z_cl (Reader_linkStep N i M) (fun u_ M1 => z_nm (i + 1) (fun v2_ => Reader_readText_95 N k (n + 1) v2_ M1))) (Model_resolves_2 N k' (n'' + 1) κ E') := fun p E' n'' κ q0 q1 q2 q3 q4 q5 q6 => by
        have m36 : z_st (z_st M 3 6 4) 3 7 p 3 6 = 4 := by rw [z_st_n (by decide), z_st_i rfl]
        have m106 : z_st (z_st M 3 6 4) 3 7 p 10 6 = m := by rw [z_st_c (by decide), z_st_c (by decide)]; exact nn.1
        rw [q6, z_cl_e, z_nm_e, lB95 (by omega) (by omega) (by omega), lBres q0 (by omega) q1]
        refine ⟨_, _, rfl, rfl, fun c j g => ?_, q4, Or.inl ⟨by omega, q1, by omega, ?_⟩⟩
        · rw [z_st_c (by omega), z_st_c (by omega)]
        · rw [q3, z_st_i rfl]
      obtain ⟨ra, rb⟩ := res1 (N := N) (M := M) (E := E) (κ := 2 * rkD M i) (i := i) (r := f) (v := 0) (op := M 11 i) (k := k') (n := n' + 1 + 1) hp (by omega) (by omega) (by omega) h12 a7 a8 (Or.inl rfl) f3 f2
      have rF : okR M m (M 11 i) f 0 ↔ okF M m (M 11 i) f := ⟨fun q => q.elim (fun q => absurd q.1 (by decide)) (fun q => q.2), fun q => Or.inr ⟨rfl, q⟩⟩
      by_cases cF : okF M m (M 11 i) f
      · have lk1 := lk 1 (mb1 cF)
        rw [z_eq_f (by omega), isl, z_cl_e, z_eq_b] at lk1
        rw [ra (rF.2 cF), if_pos rfl]
        have rl2 : ∀ j, z_st E 1 (69 + i) f 0 j = E 0 j := fun j => z_st_c (by decide)
        obtain ⟨rc, rd⟩ := res1 (N := N) (M := M) (E := z_st E 1 (69 + i) f) (κ := 2 * rkD M i + 1) (i := i) (r := l) (v := 1) (op := M 11 i) (k := k') (n := n' + 1) hp1 (by omega) (by omega) (by rw [rl2]; omega) (by rw [rl2]; exact h12) (by rw [z_st_c (by decide)]; exact b7) (by rw [z_st_c (by decide)]; exact b8) (Or.inr rfl) l3 (by rw [z_st_c (by decide), z_st_c (by decide)]; exact l2)
        have rS : okR M m (M 11 i) l 1 ↔ okS M m l := ⟨fun q => q.elim (fun q => q.2) (fun q => absurd q.1 (by decide)), fun q => Or.inl ⟨rfl, q⟩⟩
        by_cases cS : okS M m l
        · have cS' : (0 ≤ l ∧ l < M 10 6) ∧ M 11 l ≠ -1 := by rw [nn.1]; exact cS
          rw [if_pos cS', z_wr_t (by omega), z_wr_t (by omega)] at lk1
          rw [rc (rS.2 cS), if_neg (by decide), lk1, z_cl_e, z_nm_e]
          obtain ⟨M2, hM2⟩ : ∃ M2, M2 = z_st (z_st M 14 i f) 16 i l := ⟨_, rfl⟩
          obtain ⟨E2, hE2⟩ : ∃ E2, E2 = z_st (z_st E 1 (69 + i) f) 1 (109 + i) l := ⟨_, rfl⟩
          rw [← hM2, ← hE2]
          have k1 : kM M M2 := fun c j g1 g2 => by rw [hM2, z_st_c g2, z_st_c g1]
          have k2 : kE E E2 := fun c j g => by
            rw [hE2]
            by_cases q : c = 1
            · subst q; rw [z_st_n (by omega), z_st_n (by omega)]
            · rw [z_st_c q, z_st_c q]
          have hp2 := plI_k hp k1 k2
          have m11 : ∀ j, M2 11 j = M 11 j := fun j => k1 11 j (by decide) (by decide)
          have erk : ∀ x : Int, rkD M2 x = rkD M x := fun x => rkD_c (Int.le_refl x) (fun j _ _ => m11 j)
          have okFc : ∀ op r, okF M2 m op r ↔ okF M m op r := fun op r => by unfold okF okS; rw [m11]
          have okSc : ∀ r, okS M2 m r ↔ okS M m r := fun r => by unfold okS; rw [m11]
          rw [show 2 * rkD M i + 1 + 1 = 2 * rkD M2 (i + 1) by rw [erk]; omega]
          refine kO_t k1 k2 (ih (n + 1) (n' + 1) (i + 1) M2 E2 (by omega) (by omega) (by omega) (by omega) (tt_T_c hT (k1 1 1 (by decide) (by decide)) (fun j => k1 2 j (by decide) (by decide)) (k2 0 4 (by omega)) (fun j => k2 4 j (by omega))) (by rw [k1 3 6 (by decide) (by decide)]; exact h36) (by rw [k2 0 12 (by omega)]; exact h12) (by rw [k2 0 21 (by omega), erk]; exact h21) hp2 (fun x g1 g2 g3 g4 => ?_))
          rw [m11] at g3 g4
          rw [m11, okFc, okSc]
          by_cases e : x = i
          · have v1 : M2 14 x = f := by rw [hM2, z_st_c (by decide), z_st_i e]
            have v2 : M2 16 x = l := by rw [hM2, z_st_i e]
            have v3 : E2 1 (69 + x) = f := by rw [hE2, z_st_n (by omega), z_st_i (by omega)]
            have v4 : E2 1 (109 + x) = l := by rw [hE2, z_st_i (by omega)]
            rw [v1, v2, v3, v4]
            exact ⟨rfl, rfl, by rw [e]; exact cF, cS⟩
          · have v1 : M2 14 x = M 14 x := by rw [hM2, z_st_c (by decide), z_st_n e]
            have v2 : M2 16 x = M 16 x := by rw [hM2, z_st_n e, z_st_c (by decide)]
            have v3 : E2 1 (69 + x) = E 1 (69 + x) := by rw [hE2, z_st_n (by omega), z_st_n (by omega)]
            have v4 : E2 1 (109 + x) = E 1 (109 + x) := by rw [hE2, z_st_n (by omega), z_st_n (by omega)]
            rw [v1, v2, v3, v4]
            exact hl x g1 (by omega) g3 g4
        · have cS' : ¬ ((0 ≤ l ∧ l < M 10 6) ∧ M 11 l ≠ -1) := by rw [nn.1]; exact cS
          rw [if_neg cS', z_rd_t (by omega), failAt_e h36, z_cl_e, ← b1] at lk1
          obtain ⟨E', q0, q1, q2, q3, q4, q5⟩ := rd (fun q => cS (rS.1 q))
          rw [q0]
          exact bad _ E' n' _ (by omega) q1 q2 (by rw [q3, z_st_c (by decide)]) (rI_t (kE_p kE1) q4) (by rw [q5, rl2]) lk1
      · have lk0 := lk 0 (mb2 cF)
        rw [z_eq_t (by omega), z_rd_t (by omega), failAt_e h36, z_cl_e, ← a1] at lk0
        obtain ⟨E', q0, q1, q2, q3, q4, q5⟩ := rb (fun q => cF (rF.1 q))
        rw [q0]
        exact bad _ E' (n' + 1) _ (by omega) q1 q2 q3 q4 q5 lk0
end
