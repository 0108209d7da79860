/-! a token's old number and old name are ints: what the machine holds is the same -/
def z_nz (M : zMem) : zMem := z_st (z_st M 9 3 (z_I (M 9 3)).toInt) 9 4 (z_I (M 9 4)).toInt
theorem z_I_I (x : Int) : z_I (z_I x).toInt = z_I x := by
  show Int32.ofInt (z_I x).toInt = z_I x
  exact Int32.ofInt_toInt _
theorem wC_nz {cI cZ : ClassId} {ad : Nat → Nat} {M : zMem} : wC cI cZ ad (z_nz M) = wC cI cZ ad M := by
  have e1 : wC cI cZ ad (z_st M 9 3 (z_I (M 9 3)).toInt) = wC cI cZ ad M := by
    refine (sC_9_3 (v := (z_I (M 9 3)).toInt)).symm.trans ?_
    rw [z_I_I]
    rfl
  refine Eq.trans ?_ e1
  unfold z_nz
  have h4 : M 9 4 = z_st M 9 3 (z_I (M 9 3)).toInt 9 4 := (z_st_n (by decide)).symm
  rw [h4]
  generalize z_st M 9 3 (z_I (M 9 3)).toInt = M1
  refine (sC_9_4 (v := (z_I (M1 9 4)).toInt)).symm.trans ?_
  rw [z_I_I]
  rfl
theorem Rel_nz {N : Nat} {C D : zMem} (h : Rel N C D) : Rel N (z_nz C) D := by
  refine Rel_same h (fun c j hr => ?_) (fun _ _ _ => rfl)
  by_cases q : c = 9
  · subst q
    simp [relC] at hr
  · unfold z_nz
    rw [z_st_c q, z_st_c q]
theorem ok_drum {N : Nat} {C D : zMem} (h : Rel N C D) (hN : 1000 ≤ N) : OK N (Drum_drum N (z_nz C)) (Model_drum N D) := by
  refine drum_ok (Rel_nz h) ⟨?_, ?_⟩ hN
  · unfold z_nz
    rw [z_st_n (by decide), z_st_i rfl]
    exact z_I_rg _
  · unfold z_nz
    rw [z_st_i rfl]
    exact z_I_rg _
