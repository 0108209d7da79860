/-! the class's run, as a whole -/
theorem z_cl_lt {x y : Int} {A B : zO} {F : Int → zMem → zO} : z_cl (z_lt x y A B) F = z_lt x y (z_cl A F) (z_cl B F) := by
  unfold z_lt
  split
  · split <;> rfl
  · rfl
theorem z_cl_eq {x y : Int} {A B : zO} {F : Int → zMem → zO} : z_cl (z_eq x y A B) F = z_eq x y (z_cl A F) (z_cl B F) := by
  unfold z_eq
  split
  · split <;> rfl
  · rfl
theorem z_cl_cl {a : zO} {F G : Int → zMem → zO} : z_cl (z_cl a F) G = z_cl a (fun r M => z_cl (F r M) G) := by
  cases a with
  | none => rfl
  | some p => rfl
theorem perform_K {N : Nat} {K : zMem → zO} : ∀ (n : Nat) (st k : Int) (M : zMem), Trace_perform_58 N K n st k M = z_cl (Trace_perform_58 N (fun M => some (0, M)) n st k M) (fun _ M' => K M') := by
  intro n
  induction n with
  | zero => intro st k M; rfl
  | succ n ih =>
    intro st k M
    rw [Trace_perform_58, Trace_perform_58, z_cl_lt, z_cl_cl]
    congr 1
    congr 1
    funext r M1
    rw [z_cl_eq, z_cl_cl]
    congr 1
    congr 1
    funext r1 M2
    rw [z_nm_e, z_nm_e]
    exact ih _ _ _
theorem zero2_e {N : Nat} {B : zMem} {K : zMem → zO} : ∀ (n : Nat) (v : Int) (M : zMem), 0 ≤ v → v ≤ 201 → 201 - v < n → (∀ c j, c ≠ 37 → c ≠ 38 → M c j = B c j) → (∀ j : Int, 0 ≤ j → j < v → M 37 j = 0) → ∃ M' : zMem, Trace_markPasses_2 N K n v M = K M' ∧ (∀ c j, c ≠ 37 → c ≠ 38 → M' c j = B c j) ∧ ∀ j : Int, 0 ≤ j → j < 201 → M' 37 j = 0 := by
  intro n
  induction n with
  | zero => intro v M _ _ h; omega
  | succ n ih =>
    intro v M h0 h1 hn hM hA
    rw [Trace_markPasses_2]
    by_cases c : v ≤ 200
    · rw [z_le_t (by omega), z_wr_t (by omega), z_nm_e]
      refine ih (v + 1) _ (by omega) (by omega) (by omega) (fun c j g1 g2 => by rw [z_st_c g1]; exact hM c j g1 g2) (fun j g1 g2 => ?_)
      by_cases e : j = v
      · rw [z_st_i e]
      · rw [z_st_n e]; exact hA j g1 (by omega)
    · rw [z_le_f (by omega)]
      exact ⟨M, rfl, hM, fun j g1 g2 => hA j g1 (by omega)⟩
theorem zero3_e {N : Nat} {B : zMem} {K : zMem → zO} : ∀ (n : Nat) (v : Int) (M : zMem), 0 ≤ v → v ≤ 100 → 100 - v < n → (∀ c j, c ≠ 39 → M c j = B c j) → (∀ j : Int, 0 ≤ j → j < v → M 39 j = 0) → ∃ M' : zMem, Trace_markPasses_24 N K n v M = K M' ∧ (∀ c j, c ≠ 39 → M' c j = B c j) ∧ ∀ j : Int, 0 ≤ j → j < 100 → M' 39 j = 0 := by
  intro n
  induction n with
  | zero => intro v M _ _ h; omega
  | succ n ih =>
    intro v M h0 h1 hn hM hA
    rw [Trace_markPasses_24]
    by_cases c : v < 100
    · rw [z_lt_t (by omega), z_wr_t (by omega), z_nm_e]
      refine ih (v + 1) _ (by omega) (by omega) (by omega) (fun c j g1 => by rw [z_st_c g1]; exact hM c j g1) (fun j g1 g2 => ?_)
      by_cases e : j = v
      · rw [z_st_i e]
      · rw [z_st_n e]; exact hA j g1 (by omega)
    · rw [z_lt_f (by omega)]
      exact ⟨M, rfl, hM, fun j g1 g2 => hA j g1 (by omega)⟩
theorem uu_T_c {C M M' : zMem} {k R : Nat} (h : uu_T C M k R) (hc : ∀ c j, 28 ≤ c → c ≤ 36 → M' c j = M c j) : uu_T C M' k R := by
  unfold uu_T at h ⊢
  rw [show M' 28 = M 28 from funext fun j => hc 28 j (by decide) (by decide), show M' 31 = M 31 from funext fun j => hc 31 j (by decide) (by decide), show M' 32 = M 32 from funext fun j => hc 32 j (by decide) (by decide), show M' 34 = M 34 from funext fun j => hc 34 j (by decide) (by decide), show M' 35 = M 35 from funext fun j => hc 35 j (by decide) (by decide), show M' 36 = M 36 from funext fun j => hc 36 j (by decide) (by decide)]
  exact h
theorem weighs_e {C B : zMem} {N k R : Nat} {K : zMem → zO} (hN : 400 ≤ N) (h : uu_T C B k R) (hk : k ≤ 100) (h6 : C 19 6 ≤ 20) :
    ∀ (n p : Nat) (M : zMem), (0 < p ∧ p ≤ 200) → k + 1 < n + p → (∀ c j, c ≠ 39 → c ≠ 40 → M c j = B c j) → (∀ s : Nat, s < k → y_sv M k s) → 0 < n →
      ∃ M' : zMem, Trace_markPasses_45 N K n p M = K M' ∧ (∀ c j, c ≠ 39 → c ≠ 40 → M' c j = B c j) ∧ ∀ s : Nat, s < k → y_sv M' k s := by
  intro n
  induction n with
  | zero => intro p M _ _ _ _ h; omega
  | succ n ih =>
    intro p M hp hn hM hs _
    have m281 : M 28 1 = k := by rw [hM 28 1 (by decide) (by decide)]; exact h.1.1
    rw [Trace_markPasses_45, m281]
    by_cases c : 3 * p ≤ k
    · obtain ⟨M1, w1, w2, w3⟩ := weigh_loop (N := N) (p := p) (K := fun M1 => some (0, M1)) h hk h6 hp.1 (k - p) N 0 M (by omega) (by omega) hM (fun i i1 i2 => by omega) hs
      have e : Trace_weighPasses N p M = some (0, M1) := by
        unfold Trace_weighPasses
        rw [z_lt_f (by omega), z_nm_e, z_jn_e, m281, show (k : Int) - p - 1 = ((k - p : Nat) : Int) - 1 by omega]
        exact w1
      rw [z_le_t (by omega), e, z_cl_e, z_nm_e, show (p : Int) + 1 = ((p + 1 : Nat) : Int) by omega]
      exact ih (p + 1) M1 (by omega) (by omega) w2 w3 (by omega)
    · rw [z_le_f (by omega)]
      exact ⟨M, rfl, hM, hs⟩
theorem markPasses_e {C M : zMem} {N k R : Nat} (hN : 400 ≤ N) (h : uu_T C M k R) (hk : k ≤ 100) (h6 : C 19 6 ≤ 20) :
    ∃ M' : zMem, Trace_markPasses N M = some (0, M') ∧ (∀ c j, (c < 37 ∨ 40 < c) → M' c j = M c j) ∧ y_PV M' R := by
  have hR : R ≤ 200 := by have := h.2.1; omega
  obtain ⟨M1, a1, a2, a3⟩ := zero2_e (N := N) (B := M) (K := fun (M1 : zMem) => z_jn (fun (M2 : zMem) => z_jn (fun (M3 : zMem) => z_jn (fun (M4 : zMem) => some (0, M4)) (fun k3 => Trace_markPasses_70 N k3 N 0 0 M3)) (fun k2 => Trace_markPasses_45 N k2 N 1 M2)) (fun k1 => Trace_markPasses_24 N k1 N 0 M1)) N 0 M (by omega) (by omega) (by omega) (fun _ _ _ _ => rfl) (fun j g1 g2 => by omega)
  obtain ⟨M2, b1, b2, b3⟩ := zero3_e (N := N) (B := M1) (K := fun (M2 : zMem) => z_jn (fun (M3 : zMem) => z_jn (fun (M4 : zMem) => some (0, M4)) (fun k3 => Trace_markPasses_70 N k3 N 0 0 M3)) (fun k2 => Trace_markPasses_45 N k2 N 1 M2)) N 0 M1 (by omega) (by omega) (by omega) (fun _ _ _ => rfl) (fun j g1 g2 => by omega)
  have h2 : uu_T C M2 k R := uu_T_c h (fun c j g1 g2 => by rw [b2 c j (by omega)]; exact a2 c j (by omega) (by omega))
  obtain ⟨M3, c1, c2, c3⟩ := weighs_e (N := N) (K := fun (M3 : zMem) => z_jn (fun (M4 : zMem) => some (0, M4)) (fun k3 => Trace_markPasses_70 N k3 N 0 0 M3)) hN h2 hk h6 N 1 M2 (by omega) (by omega) (fun _ _ _ _ => rfl) (fun s hs => ⟨by rw [b3 s (by omega) (by omega)]; omega, fun q => by rw [b3 s (by omega) (by omega)] at q; omega⟩) (by omega)
  have h3 : uu_T C M3 k R := uu_T_c h2 (fun c j g1 g2 => c2 c j (by omega) (by omega))
  have z37 : ∀ m : Nat, m ≤ 200 → M3 37 m = 0 := fun m g => by rw [c2 37 m (by decide) (by decide), b2 37 m (by decide)]; exact a3 m (by omega) (by omega)
  obtain ⟨M4, d1, d2, d3⟩ := scan_e (N := N) (K := fun (M4 : zMem) => some (0, M4)) h3 hk hR c3 N 0 0 M3 (by omega) (by omega) (by omega) (fun _ _ _ _ => rfl) (fun m g => ⟨by rw [z37 m g]; omega, fun q => by rw [z37 m g] at q; omega⟩)
  refine ⟨M4, ?_, fun c j g => by rw [d2 c j (by omega) (by omega), c2 c j (by omega) (by omega), b2 c j (by omega)]; exact a2 c j (by omega) (by omega), PV_of (uu_T_c h3 (fun c j g1 g2 => d2 c j (by omega) (by omega))) hR d3⟩
  unfold Trace_markPasses
  rw [z_jn_e, a1, z_jn_e, b1, z_jn_e]
  refine Eq.trans c1 ?_
  rw [z_jn_e]
  exact d1
theorem p_R_c {C : zMem} {G G' : Int → Int} (h : p_R C G) (hG : ∀ j : Int, 0 ≤ j → j < 149 → j ≠ 7 → G' j = G j) : p_R C G' := by
  obtain ⟨r1, r2, r3, ⟨r4, r4b, r4c⟩, r5⟩ := h
  refine ⟨r1, by rw [hG 5 (by omega) (by omega) (by omega)]; exact r2, fun i g1 g2 => ?_, ⟨by rw [hG 8 (by omega) (by omega) (by omega)]; exact r4, r4b, r4c⟩, r5⟩
  obtain ⟨a, b, c⟩ := r3 i g1 g2
  refine ⟨a, fun q => ?_, fun q => ?_⟩
  · have := b q
    unfold p_W at this ⊢
    rw [hG (9 + i) (by omega) (by omega) (by omega), hG (29 + i) (by omega) (by omega) (by omega)]; exact this
  · have := c q
    unfold p_S at this ⊢
    rw [hG (9 + i) (by omega) (by omega) (by omega), hG (49 + i) (by omega) (by omega) (by omega), hG (69 + i) (by omega) (by omega) (by omega), hG (109 + i) (by omega) (by omega) (by omega), hG (89 + i) (by omega) (by omega) (by omega)]; exact this
/-- perform: the class runs, and so does the reference, whenever it holds the same plan -/
theorem perform_e {C D : zMem} {N : Nat} (hN : 400 ≤ N) (hR : p_R C (D 1)) :
    ∃ C' : zMem, Trace_perform N C = some (0, C') ∧ (∀ c j, (c < 28 ∨ 40 < c) → C' c j = C c j) ∧ r_R N C' D := by
  obtain ⟨r1, r2, r3, r4, r5⟩ := id hR
  obtain ⟨k, R, v, M, E0, a1, a2, a3, a4, a5⟩ := run_both (E := D) hN hR
  obtain ⟨i1, i2, i3, i4, i5, i6⟩ := id a3
  obtain ⟨C', b1, b2, b3⟩ := markPasses_e hN i4 a4.2 r1.2
  have c19 : ∀ j, C' 19 j = C 19 j := fun j => by rw [b2 19 j (by omega)]; exact i1 19 j (by omega)
  have c20 : ∀ j, C' 20 j = C 20 j := fun j => by rw [b2 20 j (by omega)]; exact i1 20 j (by omega)
  have hkR := i4.2.1
  refine ⟨C', ?_, fun c j g => by rw [b2 c j (by omega)]; exact i1 c j (by omega), R, by omega, ⟨?_, by omega, fun j hj => ?_⟩, b3, ?_, fun j j1 j2 => ?_, fun E hE => ?_⟩
  · have u19 : u_0 C 19 9 = C 19 9 := by unfold u_0; rw [z_st_c (by decide), z_st_c (by decide), z_st_c (by decide), z_st_c (by decide), z_cpm_c (by decide), z_cpm_c (by decide)]
    have hu : z_st (z_st (z_st (z_st (z_cpm (z_cpm C 22 0 29 0 20) 23 0 30 0 20) 28 3 0) 28 1 0) 28 10 0) 28 2 2 = u_0 C := rfl
    unfold Trace_perform Drum_copyItems
    rw [z_cp_t (by omega), z_cl_e, z_cp_t (by omega), z_cl_e, z_pf_e, z_pf_e, z_pf_e, z_pf_e, z_nm_e, z_jn_e, hu, u19, perform_K, a1, z_cl_e, b1, z_cl_e]
  · rw [b2 28 10 (by omega)]; exact i4.1.2
  · rw [b2 35 j (by omega), b2 36 j (by omega), c19]; exact i4.2.2.2.2 j hj
  · rw [b2 28 1 (by omega), i4.1.1]; omega
  · rw [b2 28 1 (by omega), i4.1.1] at j2
    obtain ⟨g1, g2, g3, g4, g5, g6, g7⟩ := i4.2.2.1 j.toNat (by omega)
    rw [show ((j.toNat : Nat) : Int) = j by omega] at g1 g2 g3 g7
    rw [b2 34 j (by omega), b2 32 j (by omega)]
    exact ⟨by omega, by omega, fun q => by have := (g7 q).2.1; omega⟩
  · obtain ⟨k2, R2, v2, M2, E', e1, e2, e3, e4, e5⟩ := run_both (E := E) hN (p_R_c hR hE)
    rw [a1] at e1
    have hM : M = M2 := by injection e1 with e1; injection e1
    subst hM
    obtain ⟨f1, f2, f3, f4, f5, f6⟩ := e3
    have hR2 : R2 = R := by have := f4.1.2; have := i4.1.2; omega
    have hk2 : k2 = k := by have := f4.1.1; have := i4.1.1; omega
    subst hR2 hk2
    obtain ⟨⟨g1, g2⟩, g3, g4, g5, g6⟩ := f5
    have h36 : C' 36 = M 36 := funext fun j => b2 36 j (by omega)
    refine ⟨E', e2, f2, f3, ⟨g2, by omega, by omega, by rw [h36]; exact g6 (by omega), fun j hj => ?_⟩, fun j hj => ?_, ?_, ?_, ?_, fun j j1 j2 => ?_, fun i j1 j2 j3 => ?_⟩
    · obtain ⟨x1, x2⟩ := f4.2.2.2.2 j hj
      rw [(g4 j hj).1, (g4 j hj).2, h36]
      exact ⟨by omega, rfl, x2⟩
    · rw [(g4 j hj).1, b2 35 j (by omega)]
    · rw [b2 28 1 (by omega), f4.1.1]; exact g1
    · rw [b2 28 3 (by omega)]; exact f6.1.1
    · rw [b2 28 2 (by omega)]; exact e5
    · rw [b2 28 1 (by omega), f4.1.1] at j2
      have := g3 j.toNat (by omega)
      rw [show ((j.toNat : Nat) : Int) = j by omega] at this
      rw [b2 31 j (by omega), b2 32 j (by omega), b2 33 j (by omega), b2 34 j (by omega)]; exact this
    · rw [c19] at j2
      rw [c20] at j3
      rw [b2 29 i (by omega)]; exact (f6.2.1 i j1 j2 j3).1
