/-! reading: names told by their codes and by their letters -/
theorem nm_inj {t : Int → Int} {a b : Int} : ∀ n m : Nat, n ≤ 6 → m ≤ 6 → (∀ x : Nat, x < n → 97 ≤ t (a + x) ∧ t (a + x) ≤ 122) → (∀ x : Nat, x < m → 97 ≤ t (b + x) ∧ t (b + x) ≤ 122) → y_nm t a n = y_nm t b m → n = m ∧ ∀ x : Nat, x < n → t (a + x) = t (b + x) := by
  intro n
  induction n with
  | zero =>
    intro m _ hm _ hb e
    by_cases c : m = 0
    · exact ⟨c.symm, fun x hx => by omega⟩
    · have := ((y_nm_b m hb).1 hm).2.2 (by omega)
      rw [← e] at this
      exact absurd this (by show ¬ (1 : Int) ≤ 0; omega)
  | succ n ih =>
    intro m hn hm ha hb e
    cases m with
    | zero =>
      have := ((y_nm_b (n + 1) ha).1 hn).2.2 (by omega)
      rw [e] at this
      exact absurd this (by show ¬ (1 : Int) ≤ 0; omega)
    | succ m =>
      have e1 : y_nm t a (n + 1) = if n < 6 then y_nm t a n * 27 + t (a + n) - 97 + 1 else -1 := rfl
      have e2 : y_nm t b (m + 1) = if m < 6 then y_nm t b m * 27 + t (b + m) - 97 + 1 else -1 := rfl
      rw [if_pos (by omega)] at e1 e2
      have h1 := ha n (by omega)
      have h2 := hb m (by omega)
      rw [e1, e2] at e
      obtain ⟨k1, k2⟩ := ih m (by omega) (by omega) (fun x hx => ha x (by omega)) (fun x hx => hb x (by omega)) (by omega)
      subst k1
      refine ⟨rfl, fun x hx => ?_⟩
      by_cases c : x = n
      · subst c; omega
      · exact k2 x (by omega)
abbrev y_al (t : Int → Int) (a : Int) (la : Nat) (b : Int) (lb : Nat) : Prop := la = lb ∧ ∀ x : Nat, x < la → t (a + x) = t (b + x)
theorem nm_al {t : Int → Int} {a b : Int} {la lb : Nat} (h1 : 1 ≤ la ∧ la ≤ 6) (ha : ∀ x : Nat, x < la → 97 ≤ t (a + x) ∧ t (a + x) ≤ 122) (hb : ∀ x : Nat, x < lb → 97 ≤ t (b + x) ∧ t (b + x) ≤ 122) : y_nm t a la = y_nm t b lb ↔ y_al t a la b lb := by
  constructor
  · intro e
    by_cases c : lb ≤ 6
    · exact nm_inj la lb h1.2 c ha hb e
    · have k := ((y_nm_b la ha).1 h1.2).1
      rw [e, (y_nm_b lb hb).2 (by omega)] at k
      omega
  · rintro ⟨e, h⟩
    subst e
    clear h1 ha hb
    induction la with
    | zero => rfl
    | succ n ih =>
      show (if n < 6 then y_nm t a n * 27 + t (a + n) - 97 + 1 else -1) = (if n < 6 then y_nm t b n * 27 + t (b + n) - 97 + 1 else -1)
      rw [ih (fun x hx => h x (by omega)), h n (by omega)]
theorem isAlike_e {t : Int → Int} {sz a b : Int} {la lb N : Nat} {M E : zMem} (hN : 1000 ≤ N) (hT : tt_T t sz M E) (ha : 0 ≤ a ∧ a + la ≤ sz) (hb : 0 ≤ b ∧ b + lb ≤ sz) : Model_isAlike N a la b lb E = some (if y_al t a la b lb then 1 else 0, E) := by
  obtain ⟨⟨t1, t2, t3, t4⟩, t5⟩ := id hT
  have zero : ∀ (m : Nat) (v : Int), z_Rg v → Model_isAlike_16 N a la b (fun (v5_ : Int) (M2 : zMem) => z_rz v5_ M2) (m + 1) 0 v E = some (0, E) := fun m v hv => by
    rw [Model_isAlike_16]
    by_cases c : v < la
    · rw [z_lt_t (by omega), z_eq_t (by omega), z_rz_t (by omega)]
    · rw [z_lt_f (by omega), z_rz_t (by omega)]
  have loop : ∀ (d m v : Nat), v + d = la → d + 1 < m → la = lb → (∀ j : Nat, j < v → t (a + j) = t (b + j)) → Model_isAlike_16 N a la b (fun (v5_ : Int) (M2 : zMem) => z_rz v5_ M2) m 1 v E = some (if y_al t a la b lb then 1 else 0, E) := by
    intro d
    induction d with
    | zero =>
      intro m v hv hm hl hp
      obtain ⟨m, rfl⟩ : ∃ m', m = m' + 1 := ⟨m - 1, by omega⟩
      rw [Model_isAlike_16, z_lt_f (by omega), z_rz_t (by omega), if_pos ⟨hl, fun j hj => hp j (by omega)⟩]
    | succ d ih =>
      intro m v hv hm hl hp
      obtain ⟨m, rfl⟩ : ∃ m', m = m' + 1 := ⟨m - 1, by omega⟩
      obtain ⟨b1, b2, b3⟩ := t5 (a + v) (by omega) (by omega)
      obtain ⟨c1, c2, c3⟩ := t5 (b + v) (by omega) (by omega)
      rw [Model_isAlike_16, z_lt_t (by omega), z_eq_f (by omega), z_rd_t (by omega), b2, z_rd_t (by omega), c2, z_jn_e]
      by_cases c : t (a + v) = t (b + v)
      · rw [z_eq_t (by omega)]
        simp only [z_nm_e]
        rw [show (v : Int) + 1 = ((v + 1 : Nat) : Int) by omega]
        exact ih m (v + 1) (by omega) (by omega) hl (fun j hj => by
          by_cases q : j = v
          · rw [q]; exact c
          · exact hp j (by omega))
      · rw [z_eq_f (by omega)]
        simp only [z_nm_e]
        obtain ⟨m', e'⟩ : ∃ m', m = m' + 1 := ⟨m - 1, by omega⟩
        subst e'
        rw [if_neg (fun q => c (q.2 v (by omega))), zero _ _ (by omega)]
  unfold Model_isAlike
  simp only [z_jn_e]
  by_cases c : la = lb
  · rw [z_eq_t (by omega)]
    exact loop la N 0 (by omega) (by omega) c (fun j hj => by omega)
  · obtain ⟨N', e'⟩ : ∃ N', N = N' + 1 := ⟨N - 1, by omega⟩
    have := zero N' 0 (by omega)
    rw [← e'] at this
    rw [z_eq_f (by omega), if_neg (fun q => c q.1)]
    exact this
def nmS (t : Int → Int) (sz : Int) (M E : zMem) (i : Int) : Prop := (1 ≤ E 6 i ∧ E 6 i ≤ 6 ∧ 0 ≤ E 5 i ∧ E 5 i + E 6 i ≤ sz) ∧ M 4 i = y_nm t (E 5 i) (E 6 i).toNat ∧ ∀ x : Nat, x < (E 6 i).toNat → 97 ≤ t (E 5 i + x) ∧ t (E 5 i + x) ≤ 122
theorem named_j {t : Int → Int} {sz b m : Int} {w N : Nat} {M E : zMem} (hN : 1000 ≤ N) (hT : tt_T t sz M E) (hm : 0 ≤ m ∧ m ≤ 20) (h5 : E 1 5 = m) (hn : ∀ i : Int, 0 ≤ i → i < m → nmS t sz M E i) (hb : 0 ≤ b ∧ b + w ≤ sz) (hl : ∀ x : Nat, x < w → 97 ≤ t (b + x) ∧ t (b + x) ≤ 122) :
    ∃ r : Int, Reader_itemNamed N (y_nm t b w) m M = some (r, M) ∧ Model_itemNamed N b w E = some (r, E) ∧ (r = -1 ∨ (0 ≤ r ∧ r < m)) := by
  have nr := y_nm_r hl
  have loop : ∀ (d n n' : Nat) (i : Int), 0 ≤ i → i + d = m → d < n → d < n' → ∃ r : Int, Reader_itemNamed_2 N (y_nm t b w) m (fun (M1 : zMem) => some ((-1), M1)) n i M = some (r, M) ∧ Model_itemNamed_2 N b w (fun (M1 : zMem) => some ((-1), M1)) n' i E = some (r, E) ∧ (r = -1 ∨ (0 ≤ r ∧ r < m)) := by
    intro d
    induction d with
    | zero =>
      intro n n' i h0 hd hn1 hn2
      obtain ⟨n, rfl⟩ : ∃ k, n = k + 1 := ⟨n - 1, by omega⟩
      obtain ⟨n', rfl⟩ : ∃ k, n' = k + 1 := ⟨n' - 1, by omega⟩
      refine ⟨-1, ?_, ?_, Or.inl rfl⟩
      · rw [Reader_itemNamed_2, z_lt_f (by omega)]
      · rw [Model_itemNamed_2, z_rd_t (by omega), h5, z_lt_f (by omega)]
    | succ d ih =>
      intro n n' i h0 hd hn1 hn2
      obtain ⟨n, rfl⟩ : ∃ k, n = k + 1 := ⟨n - 1, by omega⟩
      obtain ⟨n', rfl⟩ : ∃ k, n' = k + 1 := ⟨n' - 1, by omega⟩
      obtain ⟨⟨a1, a2, a3, a4⟩, a5, a6⟩ := hn i h0 (by omega)
      have nr2 := y_nm_r a6
      have al := isAlike_e (la := (E 6 i).toNat) (lb := w) (a := E 5 i) (b := b) hN hT ⟨a3, by omega⟩ hb
      rw [show (((E 6 i).toNat : Nat) : Int) = E 6 i by omega] at al
      have eq := nm_al (t := t) (a := E 5 i) (b := b) (la := (E 6 i).toNat) (lb := w) (by omega) a6 hl
      rw [Reader_itemNamed_2, Model_itemNamed_2, z_lt_t (by omega), z_lt_t (by omega), z_rd_t (by omega), z_rd_t (by omega), h5, z_lt_t (by omega), z_rd_t (by omega), z_rd_t (by omega), al, z_cl_e, z_eq_b, a5, z_eq_e (by omega) (by omega)]
      by_cases c : y_al t (E 5 i) (E 6 i).toNat b w
      · rw [if_pos c, if_pos (eq.2 c)]
        exact ⟨i, rfl, rfl, Or.inr ⟨h0, by omega⟩⟩
      · rw [if_neg c, if_neg (fun q => c (eq.1 q)), z_nm_e, z_nm_e]
        exact ih n n' (i + 1) (by omega) (by omega) (by omega) (by omega)
  unfold Reader_itemNamed Model_itemNamed
  rw [z_jn_e, z_jn_e]
  exact loop m.toNat N N 0 (by omega) (by omega) (by omega) (by omega)
