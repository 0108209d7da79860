/-! the pure programs: how a combinator goes on -/
section PT
variable {x y i v n : Int} {c c' : Nat} {A B : zO} {M : zMem} {K : Int → zO} {KM : zMem → zO} {KC : Int → zMem → zO}
theorem z_lt_t (h : z_Rg x ∧ z_Rg y ∧ x < y) : z_lt x y A B = A := by unfold z_lt; rw [if_pos ⟨h.1, h.2.1⟩, if_pos h.2.2]
theorem z_lt_f (h : z_Rg x ∧ z_Rg y ∧ ¬ x < y) : z_lt x y A B = B := by unfold z_lt; rw [if_pos ⟨h.1, h.2.1⟩, if_neg h.2.2]
theorem z_le_t (h : z_Rg x ∧ z_Rg y ∧ x ≤ y) : z_le x y A B = A := by unfold z_le; rw [if_pos ⟨h.1, h.2.1⟩, if_pos h.2.2]
theorem z_le_f (h : z_Rg x ∧ z_Rg y ∧ ¬ x ≤ y) : z_le x y A B = B := by unfold z_le; rw [if_pos ⟨h.1, h.2.1⟩, if_neg h.2.2]
theorem z_eq_t (h : z_Rg x ∧ z_Rg y ∧ x = y) : z_eq x y A B = A := by unfold z_eq; rw [if_pos ⟨h.1, h.2.1⟩, if_pos h.2.2]
theorem z_eq_f (h : z_Rg x ∧ z_Rg y ∧ ¬ x = y) : z_eq x y A B = B := by unfold z_eq; rw [if_pos ⟨h.1, h.2.1⟩, if_neg h.2.2]
theorem z_lt_e (hx : z_Rg x) (hy : z_Rg y) : z_lt x y A B = if x < y then A else B := by unfold z_lt; rw [if_pos ⟨hx, hy⟩]
theorem z_le_e (hx : z_Rg x) (hy : z_Rg y) : z_le x y A B = if x ≤ y then A else B := by unfold z_le; rw [if_pos ⟨hx, hy⟩]
theorem z_eq_e (hx : z_Rg x) (hy : z_Rg y) : z_eq x y A B = if x = y then A else B := by unfold z_eq; rw [if_pos ⟨hx, hy⟩]
theorem z_eq_b {p : Prop} [Decidable p] : z_eq (if p then 1 else 0) 0 A B = if p then B else A := by
  by_cases h : p
  · rw [if_pos h, if_pos h]; exact z_eq_f (by omega)
  · rw [if_neg h, if_neg h]; exact z_eq_t (by omega)
theorem z_rd_t (h : 0 ≤ i ∧ i < n) : z_rd M c n i K = K (M c i) := by unfold z_rd; rw [if_pos h]
theorem z_wr_t (h : 0 ≤ i ∧ i < n) : z_wr M c n i v KM = KM (z_st M c i v) := by unfold z_wr; rw [if_pos h]
theorem z_wz_t (h : (0 ≤ i ∧ i < n) ∧ (v = 0 ∨ v = 1)) : z_wz M c n i v KM = KM (z_st M c i v) := by unfold z_wz; rw [if_pos h]
theorem z_pf_e : z_pf M c i v KM = KM (z_st M c i v) := rfl
theorem z_pz_t (h : v = 0 ∨ v = 1) : z_pz M c i v KM = KM (z_st M c i v) := by unfold z_pz; rw [if_pos h]
theorem z_nm_e {α β : Type} {e : α} {KK : α → Option β} : z_nm e KK = KK e := rfl
theorem z_jn_e {α β : Type} {KK : α} {F : α → β} : z_jn KK F = F KK := rfl
theorem z_cl_e : z_cl (some (x, M)) KC = KC x M := rfl
theorem z_dv_t (h : (0 ≤ x ∧ x ≤ 2147483647) ∧ (0 < y ∧ y ≤ 2147483647)) : z_dv x y K = K (x / y) := by unfold z_dv; rw [if_pos h]
theorem z_md_t (h : (0 ≤ x ∧ x ≤ 2147483647) ∧ (0 < y ∧ y ≤ 2147483647)) : z_md x y K = K (x % y) := by unfold z_md; rw [if_pos h]
theorem z_mt_t (h : (0 ≤ x ∧ x ≤ 2147483647) ∧ (0 < y ∧ y ≤ 2147483647)) : z_mt x y K = K (x % y) := by unfold z_mt; rw [if_pos ⟨by omega, h.2⟩, Int.tmod_eq_emod_of_nonneg h.1.1]
theorem z_mt_e (h : z_Rg x ∧ (0 < y ∧ y ≤ 2147483647)) : z_mt x y K = K (Int.tmod x y) := by unfold z_mt; rw [if_pos h]
theorem z_il_t (h : z_Rg x) : z_il x K = K x := by unfold z_il; rw [if_pos h]
theorem z_lc_t (h : z_RgL x ∧ z_RgL y) : z_lc x y K = K (if y < x then 1 else if x = y then 0 else -1) := by unfold z_lc; rw [if_pos h]
theorem z_rz_t (h : x = 0 ∨ x = 1) : z_rz x M = some (x, M) := by unfold z_rz; rw [if_pos h]
theorem z_mn_t (h : z_Rg x ∧ z_Rg y) : z_mn x y K = K (min x y) := by unfold z_mn; rw [if_pos h]
theorem z_mx_t (h : z_Rg x ∧ z_Rg y) : z_mx x y K = K (max x y) := by unfold z_mx; rw [if_pos h]
theorem z_fm_t (h : z_Rg x ∧ (0 < y ∧ y ≤ 2147483647)) : z_fm x y K = K (x % y) := by unfold z_fm; rw [if_pos h]
theorem z_sc_t {w : Nat} (h : 0 ≤ i ∧ i < z_slen w) : z_sc w i K = K (z_schr w i) := by unfold z_sc; rw [if_pos h]
def z_cpm (M : zMem) (cs : Nat) (sp : Int) (cd : Nat) (dp n : Int) : zMem := fun c' j => if c' = cd then (if dp ≤ j ∧ j < dp + n then M cs (sp + (j - dp)) else M c' j) else M c' j
theorem z_cp_t {cs cd : Nat} {ns sp nd dp : Int} (h : 0 ≤ sp ∧ 0 ≤ dp ∧ 0 ≤ n ∧ sp + n ≤ ns ∧ dp + n ≤ nd) : z_cp M cs ns sp cd nd dp n KM = KM (z_cpm M cs sp cd dp n) := by unfold z_cp; rw [if_pos h]; rfl
theorem z_cpm_c {cs cd : Nat} {sp dp j : Int} (h : c' ≠ cd) : z_cpm M cs sp cd dp n c' j = M c' j := by unfold z_cpm; rw [if_neg h]
theorem z_cpm_i {cs cd : Nat} {sp dp j : Int} (h : dp ≤ j ∧ j < dp + n) : z_cpm M cs sp cd dp n cd j = M cs (sp + (j - dp)) := by unfold z_cpm; rw [if_pos rfl, if_pos h]
theorem z_cpm_n {cs cd : Nat} {sp dp j : Int} (h : ¬ (dp ≤ j ∧ j < dp + n)) : z_cpm M cs sp cd dp n cd j = M cd j := by unfold z_cpm; rw [if_pos rfl, if_neg h]
theorem z_st_c {j : Int} (h : c' ≠ c) : z_st M c i v c' j = M c' j := by unfold z_st; rw [if_neg h]
theorem z_st_i {j : Int} (h : j = i) : z_st M c i v c j = v := by unfold z_st; rw [if_pos rfl, if_pos h]
theorem z_st_n {j : Int} (h : j ≠ i) : z_st M c i v c j = M c j := by unfold z_st; rw [if_pos rfl, if_neg h]
theorem z_st_s {j : Int} : z_st M c i v c j = if j = i then v else M c j := by unfold z_st; rw [if_pos rfl]
end PT
