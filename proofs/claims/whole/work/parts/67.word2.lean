/-! tokens: the reference's isWord -/
theorem z_slen_b {i : Nat} : 0 ≤ z_slen i ∧ z_slen i < 1000 := by
  unfold z_slen
  by_cases hi : i < 27
  · have := z_sCh_len i hi; omega
  · have : z_sCh.getD i [] = [] := by
      rw [List.getD_eq_getElem?_getD, List.getElem?_eq_none (by have hl : z_sCh.length = 27 := (by decide +kernel); omega)]; rfl
    rw [this]; simp
theorem Model_isWord_e {t : Int → Int} {sz b : Int} {w N i : Nat} {M E : zMem} (hN : 1000 ≤ N) (hT : tt_T t sz M E) (h0 : 0 ≤ b) (hw : b + w ≤ sz) (h2 : E 0 8 = b) (h5 : E 0 7 = b + w) (h1 : z_Rg (E 0 9)) :
    ((E 0 9 = 1 ∧ y_is t b w i) → Model_isWord N i E = some (1, E)) ∧ (¬ (E 0 9 = 1 ∧ y_is t b w i) → Model_isWord N i E = some (0, E)) := by
  obtain ⟨⟨t1, t2, t3, t4⟩, t5⟩ := id hT
  have sl := z_slen_b (i := i)
  have zero : ∀ (m : Nat) (v : Int), z_Rg v → Model_isWord_32 N i (fun v2_ M2 => z_rz v2_ M2) (m + 1) 0 v E = some (0, E) := fun m v hv => by
    rw [Model_isWord_32]
    by_cases c : v < z_slen i
    · rw [z_lt_t (by omega), z_eq_t (by omega), z_rz_t (by omega)]
    · rw [z_lt_f (by omega), z_rz_t (by omega)]
  have loop : ∀ (d n v : Nat), v + d = w → d + 1 < n → (w : Int) = z_slen i → (∀ j : Nat, j < v → t (b + j) = z_schr i j) → (y_is t b w i → Model_isWord_32 N i (fun v2_ M2 => z_rz v2_ M2) n 1 v E = some (1, E)) ∧ (¬ y_is t b w i → Model_isWord_32 N i (fun v2_ M2 => z_rz v2_ M2) n 1 v E = some (0, E)) := by
    intro d
    induction d with
    | zero =>
      intro n v hv hn hl hp
      obtain ⟨m, e⟩ : ∃ m, n = m + 1 := ⟨n - 1, by omega⟩
      subst e
      rw [Model_isWord_32, z_lt_f (by omega), z_rz_t (by omega)]
      exact ⟨fun _ => rfl, fun q => absurd ⟨hl, fun j hj => hp j (by omega)⟩ q⟩
    | succ d ih =>
      intro n v hv hn hl hp
      obtain ⟨m, e⟩ : ∃ m, n = m + 1 := ⟨n - 1, by omega⟩
      subst e
      obtain ⟨b1, b2, b3⟩ := t5 (b + v) (by omega) (by omega)
      have cb := z_schr_b (i := i) (j := v)
      rw [Model_isWord_32, z_lt_t (by omega), z_eq_f (by omega), h2, z_rd_t (by omega), b2, z_sc_t (by omega), z_jn_e]
      by_cases c : t (b + v) = z_schr i v
      · rw [z_eq_t (by omega)]
        simp only [z_nm_e]
        rw [show (v : Int) + 1 = ((v + 1 : Nat) : Int) by omega]
        exact ih m (v + 1) (by omega) (by omega) hl (fun j hj => by
          by_cases q : j = v
          · rw [q]; exact c
          · exact hp j (by omega))
      · rw [z_eq_f (by omega)]
        simp only [z_nm_e]
        obtain ⟨m', e'⟩ : ∃ m', m = m' + 1 := ⟨m - 1, by omega⟩
        subst e'
        exact ⟨fun q => absurd (q.2 v (by omega)) c, fun _ => zero m' _ (by omega)⟩
  obtain ⟨N', hN'⟩ : ∃ N', N = N' + 1 := ⟨N - 1, by omega⟩
  have zN : Model_isWord_32 N i (fun v2_ M2 => z_rz v2_ M2) N 0 0 E = some (0, E) := by
    have := zero N' 0 (by omega)
    rw [← hN'] at this; exact this
  unfold Model_isWord
  rw [z_jn_e, z_jn_e]
  by_cases c1 : E 0 9 = 1
  · rw [z_eq_t (by omega), h5, h2, show b + (w : Int) - b = w by omega]
    by_cases c2 : (w : Int) = z_slen i
    · rw [z_eq_t (by omega)]
      simp only []
      rw [z_jn_e]
      have := loop w N 0 (by omega) (by omega) c2 (fun j hj => by omega)
      exact ⟨fun q => this.1 q.2, fun q => this.2 (fun k => q ⟨c1, k⟩)⟩
    · rw [z_eq_f (by omega)]
      simp only []
      rw [z_jn_e]
      exact ⟨fun q => absurd q.2.1 c2, fun _ => zN⟩
  · rw [z_eq_f (by omega)]
    simp only []
    rw [z_jn_e]
    exact ⟨fun q => absurd q.1 c1, fun _ => zN⟩
