/-! tokens: is it a certain word -/
abbrev y_is (t : Int → Int) (b : Int) (w : Nat) (i : Nat) : Prop := (w : Int) = z_slen i ∧ ∀ j : Nat, j < w → t (b + j) = z_schr i j
theorem z_sCh_b : ∀ l ∈ z_sCh, ∀ ch ∈ l, 0 ≤ ch ∧ ch ≤ 255 := by decide +kernel
theorem z_schr_b {i : Nat} {j : Int} : 0 ≤ z_schr i j ∧ z_schr i j ≤ 255 := by
  unfold z_schr
  rw [List.getD_eq_getElem?_getD, List.getD_eq_getElem?_getD]
  cases h1 : z_sCh[i]? with
  | none => simp
  | some l =>
    simp only [Option.getD_some]
    cases h2 : l[j.toNat]? with
    | none => simp
    | some ch =>
      simp only [Option.getD_some]
      exact z_sCh_b l (List.mem_of_getElem? h1) ch (List.mem_of_getElem? h2)
theorem Tokens_is_e {t : Int → Int} {sz b : Int} {w N i : Nat} {M E : zMem} (hN : 1000 ≤ N) (hT : tt_T t sz M E) (h0 : 0 ≤ b) (hw : b + w ≤ sz) (h2 : M 9 2 = b) (h5 : M 9 5 = b + w) (h1 : z_Rg (M 9 1)) :
    ((M 9 1 = 1 ∧ y_is t b w i) → Tokens_is N i M = some (1, M)) ∧ (¬ (M 9 1 = 1 ∧ y_is t b w i) → Tokens_is N i M = some (0, M)) := by
  obtain ⟨⟨t1, t2, t3, t4⟩, t5⟩ := id hT
  have sl : 0 ≤ z_slen i := by unfold z_slen; omega
  have loop : ∀ (d n v : Nat), v + d = w → d < n → (w : Int) = z_slen i → (∀ j : Nat, j < v → t (b + j) = z_schr i j) → (y_is t b w i → Tokens_is_28 N i (fun M1 => some (1, M1)) n v M = some (1, M)) ∧ (¬ y_is t b w i → Tokens_is_28 N i (fun M1 => some (1, M1)) n v M = some (0, M)) := by
    intro d
    induction d with
    | zero =>
      intro n v hv hn hl hp
      obtain ⟨m, e⟩ : ∃ m, n = m + 1 := ⟨n - 1, by omega⟩
      subst e
      rw [Tokens_is_28, z_lt_f (by omega)]
      exact ⟨fun _ => rfl, fun q => absurd ⟨hl, fun j hj => hp j (by omega)⟩ q⟩
    | succ d ih =>
      intro n v hv hn hl hp
      obtain ⟨m, e⟩ : ∃ m, n = m + 1 := ⟨n - 1, by omega⟩
      subst e
      obtain ⟨b1, b2, b3⟩ := t5 (b + v) (by omega) (by omega)
      have cb := z_schr_b (i := i) (j := v)
      rw [Tokens_is_28, z_lt_t (by omega), h2, Tape_byteAt_e (by omega) (by omega), if_pos (by omega), b1, z_cl_e, z_sc_t (by omega)]
      by_cases c : t (b + v) = z_schr i v
      · rw [z_eq_t (by omega), z_nm_e, show (v : Int) + 1 = ((v + 1 : Nat) : Int) by omega]
        exact ih m (v + 1) (by omega) (by omega) hl (fun j hj => by
          by_cases q : j = v
          · rw [q]; exact c
          · exact hp j (by omega))
      · rw [z_eq_f (by omega)]
        exact ⟨fun q => absurd (q.2 v (by omega)) c, fun _ => rfl⟩
  unfold Tokens_is
  by_cases c1 : M 9 1 = 1
  · have sb : z_slen i < 1000 ∨ 1000 ≤ z_slen i := by omega
    rw [z_eq_t (by omega), h5, h2, show b + (w : Int) - b = w by omega]
    by_cases c2 : (w : Int) = z_slen i
    · rw [z_eq_t (by omega), z_jn_e]
      have := loop w N 0 (by omega) (by omega) c2 (fun j hj => by omega)
      exact ⟨fun q => this.1 q.2, fun q => this.2 (fun k => q ⟨c1, k⟩)⟩
    · by_cases c3 : z_Rg (z_slen i)
      · rw [z_eq_f (by omega)]
        exact ⟨fun q => absurd q.2.1 c2, fun _ => rfl⟩
      · exfalso
        apply c3
        unfold z_slen
        by_cases hi : i < 27
        · have := z_sCh_len i hi; omega
        · have : z_sCh.getD i [] = [] := by
            rw [List.getD_eq_getElem?_getD, List.getElem?_eq_none (by have hl : z_sCh.length = 27 := (by decide +kernel); omega)]; rfl
          rw [this]; simp; omega
  · rw [z_eq_f (by omega)]
    exact ⟨fun q => absurd q.1 c1, fun _ => rfl⟩
