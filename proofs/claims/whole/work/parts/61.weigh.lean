/-! passes: weighed -/
theorem y_sv_c {M M' : zMem} {k s : Nat} (h : y_sv M k s) (h31 : ∀ j, M' 31 j = M 31 j) (h32 : ∀ j, M' 32 j = M 32 j) (h39 : M' 39 s = M 39 s) (h40 : M' 40 s = M 40 s) : y_sv M' k s := by
  obtain ⟨a, b⟩ := h
  refine ⟨by rw [h39]; exact a, fun q => ?_⟩
  rw [h39] at q
  obtain ⟨p, x, p1, p2, p3, p4, p5, p6⟩ := b q
  exact ⟨p, x, by rw [h40]; exact p1, by rw [h39]; exact p2, p3, p4, p5, fun i i1 i2 => by rw [h31, h31, h32, h32]; exact p6 i i1 i2⟩
theorem weigh_loop {C B : zMem} {N k R p : Nat} {K : zMem → zO} (h : uu_T C B k R) (hk : k ≤ 100) (h6 : C 19 6 ≤ 20) (hp : 0 < p) :
    ∀ (d n v2 : Nat) (M : zMem), d < n → d + v2 + p ≤ k → (∀ c j, c ≠ 39 → c ≠ 40 → M c j = B c j) → y_mt B d p v2 → (∀ s : Nat, s < k → y_sv M k s) →
      ∃ M' : zMem, Trace_weighPasses_17 N p K n v2 ((d : Int) - 1) M = K M' ∧ (∀ c j, c ≠ 39 → c ≠ 40 → M' c j = B c j) ∧ ∀ s : Nat, s < k → y_sv M' k s := by
  intro d
  induction d with
  | zero =>
    intro n v2 M hn hd hM hmt hs
    obtain ⟨n', e⟩ : ∃ n', n = n' + 1 := ⟨n - 1, by omega⟩
    subst e
    refine ⟨M, ?_, hM, hs⟩
    rw [Trace_weighPasses_17, z_le_f (by omega)]
  | succ d ih =>
    intro n v2 M hn hd hM hmt hs
    obtain ⟨n', e⟩ : ∃ n', n = n' + 1 := ⟨n - 1, by omega⟩
    subst e
    obtain ⟨⟨a1, -⟩, a2, -⟩ := h.2.2.1 d (by omega)
    obtain ⟨⟨b1, -⟩, b2, -⟩ := h.2.2.1 (d + p) (by omega)
    have ed : ((d + 1 : Nat) : Int) - 1 = d := by omega
    have ep : (d : Int) + p = ((d + p : Nat) : Int) := by omega
    have m31 : ∀ j, M 31 j = B 31 j := fun j => hM 31 j (by decide) (by decide)
    have m32 : ∀ j, M 32 j = B 32 j := fun j => hM 32 j (by decide) (by decide)
    have v0 := (hs d (by omega)).1
    have v0b : B 39 d = B 39 d := rfl
    have vb : M 39 d ≤ 100 := by
      by_cases q : 0 < M 39 d
      · obtain ⟨p', q', p1, p2, p3, p4, p5, p6⟩ := (hs d (by omega)).2 q
        omega
      · omega
    have tail : ∀ w : Nat, d + w + p ≤ k → y_mt B d p w → ∃ M' : zMem, z_mt (w : Int) p (fun x4 => z_nm (((w : Int) - x4) - p) (fun v5_ => z_rd M 39 100 d (fun x5 => z_jn (fun (M3 : zMem) => z_nm ((d : Int) + (-1)) (fun v3_ => Trace_weighPasses_17 N p K n' w v3_ M3)) (fun k3 => z_lt x5 v5_ (z_wr M 39 100 d v5_ (fun M4 => z_wr M4 40 100 d p (fun M5 => k3 M5))) (k3 M))))) = K M' ∧ (∀ c j, c ≠ 39 → c ≠ 40 → M' c j = B c j) ∧ ∀ s : Nat, s < k → y_sv M' k s := by
      intro w hw hmw
      have dm := Nat.div_add_mod w p
      have ml := Nat.mod_lt w hp
      have ecast : (w : Int) % (p : Int) = ((w % p : Nat) : Int) := (Int.natCast_emod w p).symm
      rw [z_mt_t (by omega), z_nm_e, z_rd_t (by omega), z_jn_e, ecast]
      by_cases c : M 39 d < (w : Int) - ((w % p : Nat) : Int) - p
      · rw [z_lt_t (by omega), z_wr_t (by omega), z_wr_t (by omega)]
        simp only [z_nm_e]
        rw [show (d : Int) + -1 = (d : Int) - 1 by omega]
        refine ih n' w _ (by omega) hw (fun c j g1 g2 => by rw [z_st_c g2, z_st_c g1]; exact hM c j g1 g2) hmw (fun s hsk => ?_)
        by_cases cs : s = d
        · subst cs
          have e39 : z_st (z_st M 39 s ((w : Int) - ((w % p : Nat) : Int) - p)) 40 s p 39 s = (w : Int) - ((w % p : Nat) : Int) - p := by rw [z_st_c (by decide), z_st_i rfl]
          refine ⟨by rw [e39]; omega, fun _ => ?_⟩
          have h1 : w / p = (w / p - 1) + 1 := by
            have : 0 < w / p := Nat.pos_of_ne_zero (fun z => by rw [z, Nat.mul_zero] at dm; omega)
            omega
          have h2 : p * (w / p) = (w / p - 1) * p + p := by
            rw [Nat.mul_comm p (w / p)]
            conv => lhs; rw [h1]
            rw [Nat.add_mul, Nat.one_mul]
          have h3 : 0 < w / p - 1 := Nat.pos_of_ne_zero (fun z => by rw [z, Nat.zero_mul] at h2; omega)
          refine ⟨p, w / p - 1, z_st_i rfl, by rw [e39]; omega, hp, h3, by omega, fun i i1 i2 => ?_⟩
          have l31 : ∀ j, z_st (z_st M 39 s ((w : Int) - ((w % p : Nat) : Int) - p)) 40 s p 31 j = B 31 j := fun j => by rw [z_st_c (by decide), z_st_c (by decide)]; exact m31 j
          have l32 : ∀ j, z_st (z_st M 39 s ((w : Int) - ((w % p : Nat) : Int) - p)) 40 s p 32 j = B 32 j := fun j => by rw [z_st_c (by decide), z_st_c (by decide)]; exact m32 j
          rw [l31, l31, l32, l32]
          exact hmw i i1 (by omega)
        · exact y_sv_c (hs s hsk) (fun j => by rw [z_st_c (by decide), z_st_c (by decide)]) (fun j => by rw [z_st_c (by decide), z_st_c (by decide)]) (by rw [z_st_c (by decide), z_st_n (by omega)]) (by rw [z_st_n (by omega), z_st_c (by decide)])
      · rw [z_lt_f (by omega)]
        simp only [z_nm_e]
        rw [show (d : Int) + -1 = (d : Int) - 1 by omega]
        exact ih n' w M (by omega) hw hM hmw hs
    rw [Trace_weighPasses_17, ed, z_le_t (by omega), z_rd_t (by omega), ep, z_rd_t (by omega), z_jn_e, z_jn_e, m31, m31]
    have no : ∃ M' : zMem, z_jn (fun (x3 : Int) (M2 : zMem) => z_mt x3 p (fun x4 => z_nm ((x3 - x4) - p) (fun v5_ => z_rd M2 39 100 d (fun x5 => z_jn (fun (M3 : zMem) => z_nm ((d : Int) + (-1)) (fun v3_ => Trace_weighPasses_17 N p K n' x3 v3_ M3)) (fun k3 => z_lt x5 v5_ (z_wr M2 39 100 d v5_ (fun M4 => z_wr M4 40 100 d p (fun M5 => k3 M5))) (k3 M2)))))) (fun k2 => z_eq 0 0 (k2 0 M) (k2 ((v2 : Int) + 1) M)) = K M' ∧ (∀ c j, c ≠ 39 → c ≠ 40 → M' c j = B c j) ∧ ∀ s : Nat, s < k → y_sv M' k s := by
      rw [z_jn_e, z_eq_t (by omega)]
      exact tail 0 (by omega) (fun i i1 i2 => by omega)
    by_cases c1 : B 31 d = B 31 ((d + p : Nat) : Int)
    · rw [z_eq_t (by omega), z_rd_t (by omega), z_rd_t (by omega), m32, m32]
      by_cases c2 : B 32 d = B 32 ((d + p : Nat) : Int)
      · rw [z_eq_t (by omega)]
        simp only []
        rw [z_jn_e, z_eq_f (by omega), show (v2 : Int) + 1 = ((v2 + 1 : Nat) : Int) by omega]
        exact tail (v2 + 1) (by omega) (fun i i1 i2 => by
          by_cases ci : i = d
          · subst ci; exact ⟨c1, c2⟩
          · exact hmt i (by omega) (by omega))
      · rw [z_eq_f (by omega)]
        exact no
    · rw [z_eq_f (by omega)]
      exact no
