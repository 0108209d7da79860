/-! what a search keeps -/
def yl_sum {α : Type} (φ : α → Int) : List α → Int
  | [] => 0
  | x :: l => φ x + yl_sum φ l
theorem yl_sum_app {α : Type} {φ : α → Int} : ∀ l1 l2 : List α, yl_sum φ (l1 ++ l2) = yl_sum φ l1 + yl_sum φ l2 := by
  intro l1 l2
  induction l1 with
  | nil => show yl_sum φ l2 = 0 + _; omega
  | cons x l ih => show φ x + yl_sum φ (l ++ l2) = φ x + yl_sum φ l + _; rw [ih]; omega
theorem yl_sum_perm {α : Type} {φ : α → Int} {l1 l2 : List α} (h : l1.Perm l2) : yl_sum φ l1 = yl_sum φ l2 := by
  induction h with
  | nil => rfl
  | cons x _ ih => show φ x + _ = φ x + _; rw [ih]
  | swap x y l => show φ y + (φ x + _) = φ x + (φ y + _); omega
  | trans _ _ i1 i2 => exact i1.trans i2
theorem yl_sum_zero {α : Type} {φ : α → Int} : ∀ l : List α, (∀ x ∈ l, φ x = 0) → yl_sum φ l = 0 := by
  intro l
  induction l with
  | nil => intro _; rfl
  | cons x l ih => intro h; show φ x + yl_sum φ l = 0; rw [h x (List.mem_cons_self), ih (fun y hy => h y (List.mem_cons_of_mem _ hy))]; rfl
theorem yl_sum_congr {α : Type} {φ ψ : α → Int} : ∀ l : List α, (∀ x ∈ l, φ x = ψ x) → yl_sum φ l = yl_sum ψ l := by
  intro l
  induction l with
  | nil => intro _; rfl
  | cons x l ih => intro h; show φ x + yl_sum φ l = ψ x + yl_sum ψ l; rw [h x (List.mem_cons_self), ih (fun y hy => h y (List.mem_cons_of_mem _ hy))]
/-- least time, ways, most time, laying -/
abbrev zSt := Int × Int × Int × (Int → Int)
/-- the class's judge -/
def jC (T : (Int → Int) → Int) (s : zSt) (x : zLf) : zSt := if s.1 = -1 ∨ T x.1 < s.1 then (T x.1, x.2, max s.2.2.1 (T x.1), x.1) else if T x.1 = s.1 then (s.1, s.2.1 + x.2, max s.2.2.1 (T x.1), s.2.2.2) else (s.1, s.2.1, max s.2.2.1 (T x.1), s.2.2.2)
/-- what is kept, of the layings seen -/
def y_res (T : (Int → Int) → Int) (it : Int → Int) (K : Int) (Ls : List zLf) (s : zSt) : Prop := (∃ v, (s.2.2.2, v) ∈ Ls) ∧ T s.2.2.2 = s.1 ∧ (∀ x ∈ Ls, s.1 ≤ T x.1) ∧ s.2.1 = yl_sum (fun x => if T x.1 = s.1 then x.2 else 0) Ls ∧ (∀ x ∈ Ls, T x.1 ≤ s.2.2.1) ∧ (∃ x ∈ Ls, T x.1 = s.2.2.1) ∧ ∀ x ∈ Ls, T x.1 = s.1 → ¬ y_lx it K x.1 s.2.2.2
theorem y_lx_irr {it : Int → Int} {K : Int} {A : Int → Int} : ¬ y_lx it K A A := fun ⟨e, _, _, _, h⟩ => by omega
theorem y_lx_asym {it : Int → Int} {K : Int} {A B : Int → Int} (h : y_lx it K A B) : ¬ y_lx it K B A := by
  rintro ⟨e, e1, e2, e3, e4⟩
  obtain ⟨d, d1, d2, d3, d4⟩ := h
  by_cases c1 : e < d
  · have := d3 e e1 c1; omega
  · by_cases c2 : d < e
    · have := e3 d d1 c2; omega
    · have : d = e := by omega
      subst this; omega
theorem y_lx_tot {it : Int → Int} {K : Int} {A B : Int → Int} (h1 : ¬ y_lx it K A B) (h2 : ¬ y_lx it K B A) : ∀ n : Nat, (n : Int) ≤ K → ∀ e : Int, 0 ≤ e → e < n → A (it e) = B (it e) := by
  intro n
  induction n with
  | zero => intro _ e g1 g2; omega
  | succ n ih =>
    intro hn e g1 g2
    have hp := ih (by omega)
    by_cases c : e < n
    · exact hp e g1 c
    · have : e = n := by omega
      subst this
      by_cases c1 : A (it n) < B (it n)
      · exact absurd ⟨(n : Int), g1, by omega, hp, c1⟩ h1
      · by_cases c2 : B (it n) < A (it n)
        · exact absurd ⟨(n : Int), g1, by omega, fun e' k1 k2 => (hp e' k1 k2).symm, c2⟩ h2
        · omega
theorem y_lx_trans {it : Int → Int} {K : Int} {A B F : Int → Int} (h1 : y_lx it K A B) (h2 : y_lx it K B F) : y_lx it K A F := by
  obtain ⟨d, d1, d2, d3, d4⟩ := h1
  obtain ⟨e, e1, e2, e3, e4⟩ := h2
  by_cases c1 : d < e
  · exact ⟨d, d1, d2, fun x k1 k2 => by rw [d3 x k1 k2, e3 x k1 (by omega)], by rw [← e3 d d1 c1]; exact d4⟩
  · by_cases c2 : e < d
    · exact ⟨e, e1, e2, fun x k1 k2 => by rw [d3 x k1 (by omega), e3 x k1 k2], by rw [d3 e e1 c2]; exact e4⟩
    · have : d = e := by omega
      subst this
      exact ⟨d, d1, d2, fun x k1 k2 => by rw [d3 x k1 k2, e3 x k1 k2], by omega⟩
theorem y_mx1 {a b : Int} : a ≤ max a b ∧ b ≤ max a b ∧ (max a b = a ∨ max a b = b) := by omega
theorem y_res_new {T : (Int → Int) → Int} {it : Int → Int} {K : Int} {L1 : List zLf} {mo : Int} {x : zLf} (hlt : ∀ y ∈ L1, T x.1 < T y.1) (hmo : (∀ y ∈ L1, T y.1 ≤ mo) ∧ ((L1 = [] ∧ mo ≤ T x.1) ∨ ∃ y ∈ L1, T y.1 = mo)) : y_res T it K (L1 ++ [x]) (T x.1, x.2, max mo (T x.1), x.1) := by
  have hm := y_mx1 (a := mo) (b := T x.1)
  refine ⟨⟨x.2, List.mem_append.mpr (Or.inr (List.mem_singleton.mpr rfl))⟩, rfl, fun y hy => ?_, ?_, fun y hy => ?_, ?_, fun y hy hT => ?_⟩
  · show T x.1 ≤ T y.1
    rcases List.mem_append.mp hy with q | q
    · have := hlt y q; omega
    · rw [List.mem_singleton.mp q]; omega
  · show x.2 = yl_sum (fun y => if T y.1 = T x.1 then y.2 else 0) (L1 ++ [x])
    rw [yl_sum_app, yl_sum_zero L1 (fun y hy => by
      show (if T y.1 = T x.1 then y.2 else 0) = 0
      rw [if_neg (by have := hlt y hy; omega)])]
    show x.2 = 0 + ((if T x.1 = T x.1 then x.2 else 0) + 0)
    rw [if_pos rfl]; omega
  · show T y.1 ≤ max mo (T x.1)
    rcases List.mem_append.mp hy with q | q
    · have := hmo.1 y q; omega
    · rw [List.mem_singleton.mp q]; omega
  · show ∃ y ∈ L1 ++ [x], T y.1 = max mo (T x.1)
    rcases hmo.2 with ⟨q1, q2⟩ | ⟨y, y1, y2⟩
    · exact ⟨x, List.mem_append.mpr (Or.inr (List.mem_singleton.mpr rfl)), by omega⟩
    · rcases hm.2.2 with q | q
      · exact ⟨y, List.mem_append.mpr (Or.inl y1), by omega⟩
      · exact ⟨x, List.mem_append.mpr (Or.inr (List.mem_singleton.mpr rfl)), by omega⟩
  · rcases List.mem_append.mp hy with q | q
    · have := hlt y q
      have hT' : T y.1 = T x.1 := hT
      omega
    · rw [List.mem_singleton.mp q]; exact y_lx_irr
theorem y_res_old {T : (Int → Int) → Int} {it : Int → Int} {K : Int} {L1 : List zLf} {s : zSt} {x : zLf} {w : Int} {F : Int → Int} (h : y_res T it K L1 s) (hge : s.1 ≤ T x.1) (hw : w = s.2.1 + if T x.1 = s.1 then x.2 else 0)
    (hF : (F = s.2.2.2 ∧ (T x.1 = s.1 → ¬ y_lx it K x.1 F)) ∨ (F = x.1 ∧ T x.1 = s.1 ∧ y_lx it K x.1 s.2.2.2)) : y_res T it K (L1 ++ [x]) (s.1, w, max s.2.2.1 (T x.1), F) := by
  obtain ⟨⟨v, h1⟩, h2, h3, h4, h5, ⟨z, h6, h6'⟩, h7⟩ := h
  have hm := y_mx1 (a := s.2.2.1) (b := T x.1)
  refine ⟨?_, ?_, fun y hy => ?_, ?_, fun y hy => ?_, ?_, fun y hy hT => ?_⟩
  · rcases hF with ⟨q, -⟩ | ⟨q, -⟩
    · exact ⟨v, by show (F, v) ∈ _; rw [q]; exact List.mem_append.mpr (Or.inl h1)⟩
    · exact ⟨x.2, by show (F, x.2) ∈ _; rw [q]; exact List.mem_append.mpr (Or.inr (List.mem_singleton.mpr rfl))⟩
  · show T F = s.1
    rcases hF with ⟨q, -⟩ | ⟨q, q2, -⟩
    · rw [q]; exact h2
    · rw [q]; exact q2
  · show s.1 ≤ T y.1
    rcases List.mem_append.mp hy with q | q
    · exact h3 y q
    · rw [List.mem_singleton.mp q]; exact hge
  · show w = yl_sum (fun y => if T y.1 = s.1 then y.2 else 0) (L1 ++ [x])
    rw [yl_sum_app, hw, h4]
    show _ = _ + ((if T x.1 = s.1 then x.2 else 0) + 0)
    omega
  · show T y.1 ≤ max s.2.2.1 (T x.1)
    rcases List.mem_append.mp hy with q | q
    · have := h5 y q; omega
    · rw [List.mem_singleton.mp q]; omega
  · show ∃ y ∈ L1 ++ [x], T y.1 = max s.2.2.1 (T x.1)
    rcases hm.2.2 with q | q
    · exact ⟨z, List.mem_append.mpr (Or.inl h6), by omega⟩
    · exact ⟨x, List.mem_append.mpr (Or.inr (List.mem_singleton.mpr rfl)), by omega⟩
  · show ¬ y_lx it K y.1 F
    have hT' : T y.1 = s.1 := hT
    rcases List.mem_append.mp hy with q | q
    · have k := h7 y q hT'
      rcases hF with ⟨e, -⟩ | ⟨e, -, e3⟩
      · rw [e]; exact k
      · rw [e]; exact fun g => k (y_lx_trans g e3)
    · rw [List.mem_singleton.mp q] at hT' ⊢
      rcases hF with ⟨-, e⟩ | ⟨e, -⟩
      · exact e hT'
      · rw [e]; exact y_lx_irr
theorem resC {T : (Int → Int) → Int} {it : Int → Int} {K : Int} (s0 : zSt) (h0 : s0.1 = -1 ∧ s0.2.2.1 = 0) : ∀ (L2 L1 : List zLf) (s : zSt), ((L1 = [] ∧ s = s0) ∨ y_res T it K L1 s) → (L1 ++ L2).Pairwise (fun x y => y_lx it K x.1 y.1) → (∀ x ∈ L1 ++ L2, 0 ≤ T x.1) → (L1 ++ L2 = [] ∧ L2.foldl (jC T) s = s0) ∨ y_res T it K (L1 ++ L2) (L2.foldl (jC T) s) := by
  intro L2
  induction L2 with
  | nil =>
    intro L1 s h _ _
    rw [List.append_nil]
    exact h
  | cons x L2 ih =>
    intro L1 s h hs hT
    rw [show L1 ++ x :: L2 = (L1 ++ [x]) ++ L2 by simp] at hs hT ⊢
    rw [List.foldl_cons]
    have hx0 : 0 ≤ T x.1 := hT x (by simp)
    refine ih (L1 ++ [x]) (jC T s x) (Or.inr ?_) hs hT
    unfold jC
    rcases h with ⟨h1, h2⟩ | h
    · subst h1 h2
      rw [if_pos (Or.inl h0.1)]
      exact y_res_new (fun y hy => by cases hy) ⟨fun y hy => (by cases hy), Or.inl ⟨rfl, by omega⟩⟩
    · have hl : 0 ≤ s.1 := by
        obtain ⟨⟨v, m⟩, e, -⟩ := h
        have := hT (s.2.2.2, v) (by simp [m])
        rw [← e]; exact this
      by_cases c : T x.1 < s.1
      · rw [if_pos (Or.inr c)]
        exact y_res_new (fun y hy => by have := h.2.2.1 y hy; omega) ⟨h.2.2.2.2.1, Or.inr h.2.2.2.2.2.1⟩
      · rw [if_neg (by omega)]
        have hnl : ¬ y_lx it K x.1 s.2.2.2 := by
          obtain ⟨⟨v, m⟩, -⟩ := h
          have hp := (List.pairwise_append.mp (List.pairwise_append.mp hs).1).2.2 (s.2.2.2, v) m x (List.mem_singleton.mpr rfl)
          exact y_lx_asym hp
        by_cases c2 : T x.1 = s.1
        · rw [if_pos c2]
          exact y_res_old h (by omega) (by rw [if_pos c2]) (Or.inl ⟨rfl, fun _ => hnl⟩)
        · rw [if_neg c2]
          exact y_res_old h (by omega) (by rw [if_neg c2, Int.add_zero]) (Or.inl ⟨rfl, fun _ => hnl⟩)
/-- the reference's weighs: b tells what isAhead told -/
def jR (T : (Int → Int) → Int) (ah : (Int → Int) → (Int → Int) → Bool) (s : zSt) (x : zLf) : zSt := if s.1 < T x.1 then (s.1, s.2.1, max s.2.2.1 (T x.1), s.2.2.2) else if T x.1 < s.1 then (T x.1, x.2, max s.2.2.1 (T x.1), x.1) else (s.1, s.2.1 + x.2, max s.2.2.1 (T x.1), if ah x.1 s.2.2.2 = true then x.1 else s.2.2.2)
theorem resR {T : (Int → Int) → Int} {ah : (Int → Int) → (Int → Int) → Bool} {it : Int → Int} {K : Int} (hah : ∀ A B, ah A B = true ↔ y_lx it K A B) (s0 : zSt) (h0 : s0.1 = 1000000 ∧ s0.2.2.1 = 0) : ∀ (L2 L1 : List zLf) (s : zSt), ((L1 = [] ∧ s = s0) ∨ y_res T it K L1 s) → (∀ x ∈ L1 ++ L2, 0 ≤ T x.1 ∧ T x.1 ≤ 9000) → (L1 ++ L2 = [] ∧ L2.foldl (jR T ah) s = s0) ∨ y_res T it K (L1 ++ L2) (L2.foldl (jR T ah) s) := by
  intro L2
  induction L2 with
  | nil =>
    intro L1 s h _
    rw [List.append_nil]
    exact h
  | cons x L2 ih =>
    intro L1 s h hT
    rw [show L1 ++ x :: L2 = (L1 ++ [x]) ++ L2 by simp] at hT ⊢
    rw [List.foldl_cons]
    have hx0 := hT x (by simp)
    refine ih (L1 ++ [x]) (jR T ah s x) (Or.inr ?_) hT
    unfold jR
    rcases h with ⟨h1, h2⟩ | h
    · subst h1 h2
      rw [if_neg (by omega), if_pos (by omega)]
      exact y_res_new (fun y hy => by cases hy) ⟨fun y hy => (by cases hy), Or.inl ⟨rfl, by omega⟩⟩
    · by_cases c0 : s.1 < T x.1
      · rw [if_pos c0]
        exact y_res_old h (by omega) (by rw [if_neg (by omega), Int.add_zero]) (Or.inl ⟨rfl, fun q => by omega⟩)
      · rw [if_neg c0]
        by_cases c : T x.1 < s.1
        · rw [if_pos c]
          exact y_res_new (fun y hy => by have := h.2.2.1 y hy; omega) ⟨h.2.2.2.2.1, Or.inr h.2.2.2.2.2.1⟩
        · rw [if_neg c]
          have e : T x.1 = s.1 := by omega
          by_cases ca : ah x.1 s.2.2.2 = true
          · rw [if_pos ca]
            exact y_res_old h (by omega) (by rw [if_pos e]) (Or.inr ⟨rfl, e, (hah _ _).mp ca⟩)
          · rw [if_neg ca]
            exact y_res_old h (by omega) (by rw [if_pos e]) (Or.inl ⟨rfl, fun _ q => ca ((hah _ _).mpr q)⟩)
theorem y_res_eq {T : (Int → Int) → Int} {it : Int → Int} {K : Int} {L1 L2 : List zLf} {s1 s2 : zSt} (hp : L1.Perm L2) (h1 : y_res T it K L1 s1) (h2 : y_res T it K L2 s2) : s1.2.1 = s2.2.1 ∧ s1.2.2.1 = s2.2.2.1 ∧ (∃ v, (s1.2.2.2, v) ∈ L1) ∧ ∀ e : Int, 0 ≤ e → e < K → s1.2.2.2 (it e) = s2.2.2.2 (it e) := by
  obtain ⟨⟨v1, a1⟩, a2, a3, a4, a5, ⟨x1, a6, a6'⟩, a7⟩ := h1
  obtain ⟨⟨v2, b1⟩, b2, b3, b4, b5, ⟨x2, b6, b6'⟩, b7⟩ := h2
  have el : s1.1 = s2.1 := by
    have k1 := a3 _ (hp.mem_iff.mpr b1)
    have k2 := b3 _ (hp.mem_iff.mp a1)
    have k1' : s1.1 ≤ T s2.2.2.2 := k1
    have k2' : s2.1 ≤ T s1.2.2.2 := k2
    omega
  refine ⟨?_, ?_, ⟨v1, a1⟩, ?_⟩
  · rw [a4, b4, el]; exact yl_sum_perm hp
  · have k1 := a5 _ (hp.mem_iff.mpr b6)
    have k2 := b5 _ (hp.mem_iff.mp a6)
    omega
  · have n1 := a7 _ (hp.mem_iff.mpr b1) (by show T s2.2.2.2 = s1.1; omega)
    have n2 := b7 _ (hp.mem_iff.mp a1) (by show T s1.2.2.2 = s2.1; omega)
    intro e g1 g2
    exact y_lx_tot n2 n1 K.toNat (by omega) e g1 (by omega)
