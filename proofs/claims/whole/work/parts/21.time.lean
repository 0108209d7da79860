/-! times: what is waited, when a reading is; passes that come again take as long each time -/
/-- from when on reading k is waited for -/
def y_fr (it kd : Int → Int) (ls : Int → Int → Int) (w mu : Int) : Nat → Int
  | 0 => 0
  | k + 1 => y_fr it kd ls w mu k + ls (y_fr it kd ls w mu k) (it k) + 1 + (if kd k = 2 then mu else 0) + (if kd k = 0 then w else 0)
def y_lo (it kd : Int → Int) (ls : Int → Int → Int) (w mu : Int) (k : Nat) : Int := ls (y_fr it kd ls w mu k) (it k)
def y_en (it kd : Int → Int) (ls : Int → Int → Int) (w mu : Int) (k : Nat) : Int := y_fr it kd ls w mu k + y_lo it kd ls w mu k + 1 + (if kd k = 2 then mu else 0)
/-- TIME of n readings -/
def y_tm (it kd : Int → Int) (ls : Int → Int → Int) (w mu : Int) (n : Nat) : Int := if n = 0 then 0 else y_en it kd ls w mu (n - 1)
theorem y_fr_s (it kd : Int → Int) (ls : Int → Int → Int) (w mu : Int) (k : Nat) : y_fr it kd ls w mu (k + 1) = y_en it kd ls w mu k + (if kd k = 0 then w else 0) := by
  show _ = y_fr it kd ls w mu k + y_lo it kd ls w mu k + 1 + _ + _
  rfl
theorem y_fr_congr {it kd it' kd' : Int → Int} {ls ls' : Int → Int → Int} {w mu : Int} {n : Nat} (h : ∀ k : Nat, k < n → it k = it' k ∧ kd k = kd' k ∧ ∀ t, ls t (it k) = ls' t (it k)) : ∀ k : Nat, k ≤ n → y_fr it kd ls w mu k = y_fr it' kd' ls' w mu k := by
  intro k
  induction k with
  | zero => intro _; rfl
  | succ k ih =>
    intro hk
    obtain ⟨h1, h2, h3⟩ := h k (by omega)
    have e := ih (by omega)
    show y_fr it kd ls w mu k + ls (y_fr it kd ls w mu k) (it k) + 1 + _ + _ = y_fr it' kd' ls' w mu k + ls' (y_fr it' kd' ls' w mu k) (it' k) + 1 + _ + _
    rw [e, h3, h1, h2]
theorem y_lo_congr {it kd it' kd' : Int → Int} {ls ls' : Int → Int → Int} {w mu : Int} {n : Nat} (h : ∀ k : Nat, k < n → it k = it' k ∧ kd k = kd' k ∧ ∀ t, ls t (it k) = ls' t (it k)) {k : Nat} (hk : k < n) : y_lo it kd ls w mu k = y_lo it' kd' ls' w mu k := by
  unfold y_lo
  rw [y_fr_congr h k (by omega), (h k hk).2.2, (h k hk).1]
theorem y_en_congr {it kd it' kd' : Int → Int} {ls ls' : Int → Int → Int} {w mu : Int} {n : Nat} (h : ∀ k : Nat, k < n → it k = it' k ∧ kd k = kd' k ∧ ∀ t, ls t (it k) = ls' t (it k)) {k : Nat} (hk : k < n) : y_en it kd ls w mu k = y_en it' kd' ls' w mu k := by
  unfold y_en
  rw [y_fr_congr h k (by omega), y_lo_congr h hk, (h k hk).2.1]
theorem y_tm_congr {it kd it' kd' : Int → Int} {ls ls' : Int → Int → Int} {w mu : Int} {n : Nat} (h : ∀ k : Nat, k < n → it k = it' k ∧ kd k = kd' k ∧ ∀ t, ls t (it k) = ls' t (it k)) : y_tm it kd ls w mu n = y_tm it' kd' ls' w mu n := by
  unfold y_tm
  by_cases hn : n = 0
  · rw [if_pos hn, if_pos hn]
  · rw [if_neg hn, if_neg hn, y_en_congr h (by omega)]
/-- bounds -/
theorem y_fr_b {it kd : Int → Int} {ls : Int → Int → Int} {w mu : Int} {n : Nat} (hw : 0 ≤ w ∧ w ≤ 9) (hm : 0 ≤ mu ∧ mu ≤ 9) (hl : ∀ k : Nat, k < n → ∀ t, 0 ≤ ls t (it k) ∧ ls t (it k) < 12) : ∀ k : Nat, k ≤ n → 0 ≤ y_fr it kd ls w mu k ∧ y_fr it kd ls w mu k ≤ 40 * k := by
  intro k
  induction k with
  | zero => intro _; exact ⟨by show (0:Int) ≤ 0; omega, by show (0:Int) ≤ _; omega⟩
  | succ k ih =>
    intro hk
    have h1 := ih (by omega)
    have h2 := hl k (by omega) (y_fr it kd ls w mu k)
    show 0 ≤ y_fr it kd ls w mu k + ls (y_fr it kd ls w mu k) (it k) + 1 + (if kd k = 2 then mu else 0) + (if kd k = 0 then w else 0) ∧ y_fr it kd ls w mu k + ls (y_fr it kd ls w mu k) (it k) + 1 + (if kd k = 2 then mu else 0) + (if kd k = 0 then w else 0) ≤ _
    have h3 : 0 ≤ (if kd k = 2 then mu else 0) ∧ (if kd k = 2 then mu else 0) ≤ 9 := by split <;> omega
    have h4 : 0 ≤ (if kd k = 0 then w else 0) ∧ (if kd k = 0 then w else 0) ≤ 9 := by split <;> omega
    omega
/-- passes: the same readings come again -/
theorem y_pass {it kd ph tu : Int → Int} {ls : Int → Int → Int} {w mu T : Int} {a L e j0 : Nat} (hls : ∀ j : Nat, a ≤ j → ∀ t, ls t (it j) = (ph (it j) - t) % (tu (it j))) (hT : 0 < T) (hL : 0 < L)
    (hper : ∀ j : Nat, a ≤ j → j < e → it (j + L : Nat) = it j ∧ kd (j + L : Nat) = kd j) (hdvd : ∀ j : Nat, a ≤ j → j < e → tu (it j) ∣ T) (h0 : a ≤ j0 ∧ j0 < e) (hj0 : tu (it j0) = T) :
    ∀ j : Nat, j0 < j → j ≤ e → y_fr it kd ls w mu (j + L) - y_fr it kd ls w mu j = y_fr it kd ls w mu (j0 + 1 + L) - y_fr it kd ls w mu (j0 + 1) ∧ T ∣ (y_fr it kd ls w mu (j + L) - y_fr it kd ls w mu j) := by
  have step : ∀ j : Nat, a ≤ j → j < e → y_fr it kd ls w mu (j + 1 + L) - y_fr it kd ls w mu (j + 1) = (y_fr it kd ls w mu (j + L) + ls (y_fr it kd ls w mu (j + L)) (it j)) - (y_fr it kd ls w mu j + ls (y_fr it kd ls w mu j) (it j)) := by
    intro j h1 h2
    have hp := hper j h1 h2
    have e1 : j + 1 + L = (j + L) + 1 := by omega
    rw [e1]
    show (y_fr it kd ls w mu (j + L) + ls (y_fr it kd ls w mu (j + L)) (it (j + L : Nat)) + 1 + (if kd (j + L : Nat) = 2 then mu else 0) + (if kd (j + L : Nat) = 0 then w else 0)) - (y_fr it kd ls w mu j + ls (y_fr it kd ls w mu j) (it j) + 1 + (if kd j = 2 then mu else 0) + (if kd j = 0 then w else 0)) = _
    rw [hp.1, hp.2]
    omega
  intro j
  induction j with
  | zero => intro h; omega
  | succ j ih =>
    intro h1 h2
    by_cases hj : j = j0
    · subst hj
      refine ⟨rfl, ?_⟩
      rw [step j h0.1 h0.2, hls j h0.1, hls j h0.1, hj0]
      generalize y_fr it kd ls w mu (j + L) = x
      generalize y_fr it kd ls w mu j = y
      have g1 := Int.ediv_mul_add_emod (ph (it j) - x) T
      have g2 := Int.ediv_mul_add_emod (ph (it j) - y) T
      refine ⟨(ph (it j) - y) / T - (ph (it j) - x) / T, ?_⟩
      rw [Int.mul_sub, Int.mul_comm T, Int.mul_comm T]
      omega
    · have hih := ih (by omega) (by omega)
      have hs := step j (by omega) (by omega)
      have hd := hdvd j (by omega) (by omega)
      have e1 : ls (y_fr it kd ls w mu (j + L)) (it j) = ls (y_fr it kd ls w mu j) (it j) := by
        rw [hls j (by omega), hls j (by omega)]
        have g : tu (it j) ∣ (y_fr it kd ls w mu (j + L) - y_fr it kd ls w mu j) := Int.dvd_trans hd hih.2
        refine (Int.emod_emod_of_dvd _ (Int.dvd_refl _)).symm.trans ?_
        have : (ph (it j) - y_fr it kd ls w mu (j + L)) % tu (it j) = (ph (it j) - y_fr it kd ls w mu j) % tu (it j) := by
          apply Int.emod_emod_of_dvd _ (Int.dvd_refl _) |>.symm.trans
          rw [Int.emod_emod_of_dvd _ (Int.dvd_refl _)]
          exact Int.emod_eq_emod_iff_emod_sub_eq_zero.mpr (Int.emod_eq_zero_of_dvd (by
            have e2 : ph (it j) - y_fr it kd ls w mu (j + L) - (ph (it j) - y_fr it kd ls w mu j) = -(y_fr it kd ls w mu (j + L) - y_fr it kd ls w mu j) := by omega
            rw [e2]; exact (Int.dvd_neg).mpr g))
        rw [Int.emod_emod_of_dvd _ (Int.dvd_refl _)]
        exact this
      rw [e1] at hs
      have e3 : y_fr it kd ls w mu (j + 1 + L) - y_fr it kd ls w mu (j + 1) = y_fr it kd ls w mu (j + L) - y_fr it kd ls w mu j := by omega
      rw [e3]
      exact hih
