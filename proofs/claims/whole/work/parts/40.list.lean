/-! the layings of law 2, as lists -/
def cc {α : Type} (F : Int → List α) : Nat → List α
  | 0 => []
  | n + 1 => cc F n ++ F n
theorem cc_nil {α : Type} {F : Int → List α} : ∀ n : Nat, (∀ i : Nat, i < n → F i = []) → cc F n = [] := by
  intro n
  induction n with
  | zero => intro _; rfl
  | succ n ih =>
    intro h
    show cc F n ++ F n = []
    rw [ih (fun i hi => h i (by omega)), h n (by omega)]; rfl
theorem cc_one {α : Type} {F : Int → List α} {k : Nat} : ∀ n : Nat, k < n → (∀ i : Nat, i < n → i ≠ k → F i = []) → cc F n = F k := by
  intro n
  induction n with
  | zero => intro h; omega
  | succ n ih =>
    intro hk h
    show cc F n ++ F n = F k
    by_cases c : k = n
    · rw [cc_nil n (fun i hi => h i (by omega) (by omega)), c]; rfl
    · rw [ih (by omega) (fun i hi => h i (by omega)), h n (by omega) (by omega), List.append_nil]
theorem cc_perm {α : Type} {F G : Int → List α} : ∀ n : Nat, (∀ i : Nat, i < n → (F i).Perm (G i)) → (cc F n).Perm (cc G n) := by
  intro n
  induction n with
  | zero => intro _; exact List.Perm.refl _
  | succ n ih => intro h; exact (ih (fun i hi => h i (by omega))).append (h n (by omega))
theorem cc_congr {α : Type} {F G : Int → List α} : ∀ n : Nat, (∀ i : Nat, i < n → F i = G i) → cc F n = cc G n := by
  intro n
  induction n with
  | zero => intro _; rfl
  | succ n ih =>
    intro h
    show cc F n ++ F n = cc G n ++ G n
    rw [ih (fun i hi => h i (by omega)), h n (by omega)]
theorem cc_app {α : Type} {F G : Int → List α} : ∀ n : Nat, (cc (fun i => F i ++ G i) n).Perm (cc F n ++ cc G n) := by
  intro n
  induction n with
  | zero => exact List.Perm.refl _
  | succ n ih =>
    show (cc (fun i => F i ++ G i) n ++ (F n ++ G n)).Perm ((cc F n ++ F n) ++ (cc G n ++ G n))
    refine (ih.append_right _).trans ?_
    rw [List.append_assoc, List.append_assoc]
    refine List.Perm.append_left _ ?_
    rw [← List.append_assoc, ← List.append_assoc]
    exact List.Perm.append_right _ List.perm_append_comm
theorem cc_swap {α : Type} {H : Int → Int → List α} {m : Nat} : ∀ n : Nat, (cc (fun i => cc (H i) m) n).Perm (cc (fun j => cc (fun i => H i j) n) m) := by
  intro n
  induction n with
  | zero =>
    show List.Perm [] _
    rw [cc_nil m (fun i _ => rfl)]
  | succ n ih =>
    show (cc (fun i => cc (H i) m) n ++ cc (H n) m).Perm (cc (fun j => cc (fun i => H i j) n ++ H n j) m)
    exact (ih.append_right _).trans (cc_app (F := fun j => cc (fun i => H i j) n) (G := H n) m).symm
theorem cc_mem {α : Type} {F : Int → List α} {x : α} : ∀ n : Nat, x ∈ cc F n → ∃ i : Nat, i < n ∧ x ∈ F i := by
  intro n
  induction n with
  | zero => intro h; cases h
  | succ n ih =>
    intro h
    have h' : x ∈ cc F n ++ F n := h
    rcases List.mem_append.mp h' with q | q
    · obtain ⟨i, h1, h2⟩ := ih q; exact ⟨i, by omega, h2⟩
    · exact ⟨n, by omega, q⟩
def y_up (f : Int → Int) (i x : Int) : Int → Int := fun j => if j = i then x else f j
theorem y_up_i {f : Int → Int} {i x : Int} : y_up f i x i = x := if_pos rfl
theorem y_up_n {f : Int → Int} {i x j : Int} (h : j ≠ i) : y_up f i x j = f j := if_neg h
def y_cnt (f : Int → Int) (g : Int) (m : Nat) : Int := y_sum (fun a => if f a = g then 1 else 0) m
abbrev zLf := (Int → Int) × Int
/-- as the class goes: by address -/
def lvC (it : Int → Int) (m : Nat) : Nat → Int → (Int → Int) → (Int → Int) → Int → List zLf
  | 0, _, A, _, v => [(A, v)]
  | r + 1, d, A, f, v => cc (fun a => if f a ≠ -1 ∧ y_fnd f (f a) m 0 = a then lvC it m r (d + 1) (y_up A (it d) a) (y_up f a (-1)) (v * y_cnt f (f a) m) else []) m
/-- as the reference goes: by class -/
def lvR (it : Int → Int) (m : Nat) : Nat → Int → (Int → Int) → (Int → Int) → Int → List zLf
  | 0, _, A, _, v => [(A, v)]
  | r + 1, d, A, f, v => cc (fun g => if y_fnd f g m 0 ≠ -1 then lvR it m r (d + 1) (y_up A (it d) (y_fnd f g m 0)) (y_up f (y_fnd f g m 0) (-1)) (v * y_cnt f g m) else []) 24
theorem lv_perm {it : Int → Int} {m : Nat} : ∀ (r : Nat) (d : Int) (A f : Int → Int) (v : Int), (∀ a : Int, 0 ≤ a → a < m → -1 ≤ f a ∧ f a < 24) → (lvC it m r d A f v).Perm (lvR it m r d A f v) := by
  intro r
  induction r with
  | zero => intro d A f v _; exact List.Perm.refl _
  | succ r ih =>
    intro d A f v hf
    have hf' : ∀ a0 a : Int, 0 ≤ a → a < m → -1 ≤ y_up f a0 (-1) a ∧ y_up f a0 (-1) a < 24 := fun a0 a g1 g2 => by
      by_cases c : a = a0
      · rw [c, y_up_i]; omega
      · rw [y_up_n c]; exact hf a g1 g2
    generalize hG : (fun a : Int => lvC it m r (d + 1) (y_up A (it d) a) (y_up f a (-1)) (v * y_cnt f (f a) m)) = G
    have hGe : ∀ a : Int, lvC it m r (d + 1) (y_up A (it d) a) (y_up f a (-1)) (v * y_cnt f (f a) m) = G a := fun a => by rw [← hG]
    show (cc (fun a => if f a ≠ -1 ∧ y_fnd f (f a) m 0 = a then lvC it m r (d + 1) (y_up A (it d) a) (y_up f a (-1)) (v * y_cnt f (f a) m) else []) m).Perm (cc (fun g => if y_fnd f g m 0 ≠ -1 then lvR it m r (d + 1) (y_up A (it d) (y_fnd f g m 0)) (y_up f (y_fnd f g m 0) (-1)) (v * y_cnt f g m) else []) 24)
    have hR : (cc (fun g => if y_fnd f g m 0 ≠ -1 then lvR it m r (d + 1) (y_up A (it d) (y_fnd f g m 0)) (y_up f (y_fnd f g m 0) (-1)) (v * y_cnt f g m) else []) 24).Perm (cc (fun g => if y_fnd f g m 0 ≠ -1 then G (y_fnd f g m 0) else []) 24) := by
      refine cc_perm 24 (fun g hg => ?_)
      by_cases c : y_fnd f g m 0 ≠ -1
      · rw [if_pos c, if_pos c]
        rcases y_fnd_b (f := f) (x := g) m 0 with q | ⟨q1, q2, q3⟩
        · exact absurd q c
        · have e := hGe (y_fnd f g m 0)
          rw [q3] at e
          rw [← e]
          exact (ih _ _ _ _ (hf' _)).symm
      · rw [if_neg c, if_neg c]
    refine List.Perm.trans ?_ hR.symm
    have e1 : cc (fun a => if f a ≠ -1 ∧ y_fnd f (f a) m 0 = a then lvC it m r (d + 1) (y_up A (it d) a) (y_up f a (-1)) (v * y_cnt f (f a) m) else []) m = cc (fun a => cc (fun g => if f a = g ∧ y_fnd f g m 0 = a then G a else []) 24) m := by
      refine cc_congr m (fun a ha => ?_)
      have hb := hf a (by omega) (by omega)
      show (if f a ≠ -1 ∧ y_fnd f (f a) m 0 = a then lvC it m r (d + 1) (y_up A (it d) a) (y_up f a (-1)) (v * y_cnt f (f a) m) else []) = _
      by_cases c : f a ≠ -1 ∧ y_fnd f (f a) m 0 = a
      · have eg : (((f a).toNat : Nat) : Int) = f a := by omega
        rw [if_pos c, hGe, cc_one (k := (f a).toNat) 24 (by omega) (fun i hi hne => by
          show (if f a = i ∧ y_fnd f i m 0 = a then G a else []) = []
          rw [if_neg (fun q => hne (by omega))])]
        show G a = (if f a = (f a).toNat ∧ y_fnd f (f a).toNat m 0 = a then G a else [])
        rw [eg, if_pos ⟨rfl, c.2⟩]
      · rw [if_neg c, cc_nil 24 (fun i hi => by
          show (if f a = i ∧ y_fnd f i m 0 = a then G a else []) = []
          rw [if_neg (fun q => c ⟨by omega, by rw [q.1]; exact q.2⟩)])]
    have e2 : cc (fun g => if y_fnd f g m 0 ≠ -1 then G (y_fnd f g m 0) else []) 24 = cc (fun g => cc (fun a => if f a = g ∧ y_fnd f g m 0 = a then G a else []) m) 24 := by
      refine cc_congr 24 (fun g hg => ?_)
      show (if y_fnd f g m 0 ≠ -1 then G (y_fnd f g m 0) else []) = _
      by_cases c : y_fnd f g m 0 ≠ -1
      · rcases y_fnd_b (f := f) (x := g) m 0 with q | ⟨q1, q2, q3⟩
        · exact absurd q c
        · generalize y_fnd f g m 0 = a at c q1 q2 q3 ⊢
          have ea : ((a.toNat : Nat) : Int) = a := by omega
          rw [if_pos c, cc_one (k := a.toNat) m (by omega) (fun i hi hne => by
            show (if f i = g ∧ a = i then G i else []) = []
            rw [if_neg (fun q => hne (by omega))])]
          show G a = (if f (a.toNat : Nat) = g ∧ a = (a.toNat : Nat) then G (a.toNat : Nat) else [])
          rw [ea, if_pos ⟨q3, rfl⟩]
      · rw [if_neg c, cc_nil m (fun i hi => by
          show (if f i = g ∧ y_fnd f g m 0 = i then G i else []) = []
          rw [if_neg (fun q => c (by omega))])]
    rw [e1, e2]
    exact cc_swap m
theorem lv_mem {it : Int → Int} {m : Nat} : ∀ (r : Nat) (d : Int) (A f : Int → Int) (v : Int) (x : zLf), (∀ e e' : Int, d ≤ e → e < d + r → d ≤ e' → e' < d + r → it e = it e' → e = e') → x ∈ lvC it m r d A f v → (∀ j : Int, (∀ e : Int, d ≤ e → e < d + r → it e ≠ j) → x.1 j = A j) ∧ ∀ e : Int, d ≤ e → e < d + r → 0 ≤ x.1 (it e) ∧ x.1 (it e) < m := by
  intro r
  induction r with
  | zero =>
    intro d A f v x _ h
    have h' : x ∈ [(A, v)] := h
    rw [List.mem_singleton] at h'
    exact ⟨fun j _ => by rw [h'], fun e g1 g2 => by omega⟩
  | succ r ih =>
    intro d A f v x hi h
    obtain ⟨a, ha, hx⟩ := cc_mem m h
    by_cases c : f a ≠ -1 ∧ y_fnd f (f a) m 0 = a
    · rw [if_pos c] at hx
      obtain ⟨m1, m2⟩ := ih _ _ _ _ x (fun e e' g1 g2 g3 g4 => hi e e' (by omega) (by omega) (by omega) (by omega)) hx
      refine ⟨fun j hj => ?_, fun e g1 g2 => ?_⟩
      · rw [m1 j (fun e g1 g2 => hj e (by omega) (by omega)), y_up_n (fun q => hj d (by omega) (by omega) q.symm)]
      · by_cases ce : e = d
        · rw [ce, m1 (it d) (fun e' g1 g2 q => by have := hi e' d (by omega) (by omega) (by omega) (by omega) q; omega), y_up_i]
          omega
        · exact m2 e (by omega) (by omega)
    · rw [if_neg c] at hx; cases hx
/-- A comes ahead of B -/
def y_lx (it : Int → Int) (K : Int) (A B : Int → Int) : Prop := ∃ e : Int, 0 ≤ e ∧ e < K ∧ (∀ e' : Int, 0 ≤ e' → e' < e → A (it e') = B (it e')) ∧ A (it e) < B (it e)
theorem cc_sorted {α : Type} {Q : α → α → Prop} {F : Int → List α} : ∀ n : Nat, (∀ i : Nat, i < n → (F i).Pairwise Q) → (∀ i j : Nat, i < j → j < n → ∀ x ∈ F i, ∀ y ∈ F j, Q x y) → (cc F n).Pairwise Q := by
  intro n
  induction n with
  | zero => intro _ _; exact List.Pairwise.nil
  | succ n ih =>
    intro h1 h2
    show (cc F n ++ F n).Pairwise Q
    rw [List.pairwise_append]
    refine ⟨ih (fun i hi => h1 i (by omega)) (fun i j hij hj => h2 i j hij (by omega)), h1 n (by omega), fun x hx y hy => ?_⟩
    obtain ⟨i, hi, hxi⟩ := cc_mem n hx
    exact h2 i n hi (by omega) x hxi y hy
theorem lv_sorted {it : Int → Int} {m : Nat} {K : Int} (hi : ∀ e e' : Int, 0 ≤ e → e < K → 0 ≤ e' → e' < K → it e = it e' → e = e') : ∀ (r : Nat) (d : Int) (A f : Int → Int) (v : Int), 0 ≤ d → d + r = K → (lvC it m r d A f v).Pairwise (fun x y => y_lx it K x.1 y.1) := by
  intro r
  induction r with
  | zero => intro d A f v _ _; exact List.pairwise_singleton _ _
  | succ r ih =>
    intro d A f v hd hr
    refine cc_sorted m (fun a ha => ?_) (fun a b hab hb x hx y hy => ?_)
    · split
      · exact ih _ _ _ _ (by omega) (by omega)
      · exact List.Pairwise.nil
    · have hi' : ∀ e e' : Int, d + 1 ≤ e → e < d + 1 + r → d + 1 ≤ e' → e' < d + 1 + r → it e = it e' → e = e' := fun e e' g1 g2 g3 g4 => hi e e' (by omega) (by omega) (by omega) (by omega)
      by_cases ca : f a ≠ -1 ∧ y_fnd f (f a) m 0 = a
      · by_cases cb : f b ≠ -1 ∧ y_fnd f (f b) m 0 = b
        · rw [if_pos ca] at hx
          rw [if_pos cb] at hy
          obtain ⟨x1, x2⟩ := lv_mem _ _ _ _ _ x hi' hx
          obtain ⟨y1, y2⟩ := lv_mem _ _ _ _ _ y hi' hy
          refine ⟨d, hd, by omega, fun e' g1 g2 => ?_, ?_⟩
          · have hne : ∀ e : Int, d + 1 ≤ e → e < d + 1 + r → it e ≠ it e' := fun e k1 k2 q => by have := hi e e' (by omega) (by omega) g1 (by omega) q; omega
            have hnd : it e' ≠ it d := fun q => by have := hi e' d g1 (by omega) hd (by omega) q; omega
            rw [x1 _ hne, y1 _ hne, y_up_n hnd, y_up_n hnd]
          · have hne : ∀ e : Int, d + 1 ≤ e → e < d + 1 + r → it e ≠ it d := fun e k1 k2 q => by have := hi e d (by omega) (by omega) hd (by omega) q; omega
            rw [x1 _ hne, y1 _ hne, y_up_i, y_up_i]
            omega
        · rw [if_neg cb] at hy; cases hy
      · rw [if_neg ca] at hx; cases hx
