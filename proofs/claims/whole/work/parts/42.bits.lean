/-! the mask of groups -/
def y_bit (v g : Int) : Int := z_and (z_shr v g) 1
theorem z_I_toInt (w : Int32) : z_I w.toInt = w := by unfold z_I; exact Int32.ofInt_toInt w
theorem y_bit_b (w : Int32) (g : Nat) (hg : g < 24) : y_bit w.toInt g = if w.toBitVec.getLsbD g = true then 1 else 0 := by
  have hs : ∀ g : Nat, g < 24 → ((z_I (g : Int) &&& 31).toBitVec.smod 32#32).toNat = g := by
    intro g hg
    have : ∀ k : Fin 24, ((z_I ((k : Nat) : Int) &&& 31).toBitVec.smod 32#32).toNat = k := by decide
    exact this ⟨g, hg⟩
  have h1 : ((w >>> (z_I (g : Int) &&& 31)) &&& 1) = if w.toBitVec.getLsbD g = true then 1 else 0 := by
    apply Int32.toBitVec_inj.mp
    rw [Int32.toBitVec_and, Int32.toBitVec_shiftRight]
    have : (1 : Int32).toBitVec = 1#32 := rfl
    rw [this, BitVec.and_one_eq_setWidth_ofBool_getLsbD]
    show BitVec.setWidth 32 (BitVec.ofBool ((w.toBitVec.sshiftRight ((z_I (g : Int) &&& 31).toBitVec.smod 32#32).toNat).getLsbD 0)) = _
    rw [hs g hg, BitVec.getLsbD_sshiftRight, Nat.add_zero, if_pos (show g < 32 by omega)]
    cases hb : w.toBitVec.getLsbD g <;> rfl
  unfold y_bit z_and z_shr
  rw [z_I_toInt, z_I_toInt]
  have e1 : z_I 1 = 1 := by decide
  rw [e1, h1]
  split <;> decide
theorem y_bit_or {w : Int32} {x : Nat} (hx : x < 24) : ∃ w' : Int32, z_or w.toInt (z_shl 1 x) = w'.toInt ∧ ∀ g : Nat, g < 24 → (y_bit w'.toInt g = 0 ↔ (y_bit w.toInt g = 0 ∧ g ≠ x)) := by
  have hs : ((z_I (x : Int) &&& 31).toBitVec.smod 32#32).toNat = x := by
    have : ∀ k : Fin 24, ((z_I ((k : Nat) : Int) &&& 31).toBitVec.smod 32#32).toNat = k := by decide
    exact this ⟨x, hx⟩
  refine ⟨w ||| (1 <<< (z_I (x : Int) &&& 31)), ?_, fun g hg => ?_⟩
  · unfold z_or z_shl
    rw [z_I_toInt, z_I_toInt]
    rfl
  · rw [y_bit_b _ g hg, y_bit_b _ g hg, Int32.toBitVec_or, Int32.toBitVec_shiftLeft]
    have e : ((1 : Int32).toBitVec <<< ((z_I (x : Int) &&& 31).toBitVec.smod 32)) = (1#32) <<< x := by
      show (1#32) <<< ((z_I (x : Int) &&& 31).toBitVec.smod 32#32).toNat = _
      rw [hs]
    rw [e, BitVec.getLsbD_or, BitVec.getLsbD_shiftLeft]
    have : (1#32).getLsbD (g - x) = decide (g - x = 0) := by
      rw [BitVec.getLsbD_one]; simp
    rw [this]
    cases hb : w.toBitVec.getLsbD g
    · by_cases c : g = x
      · subst c; simp; omega
      · by_cases c2 : g < x
        · simp [c, c2]
        · have : g - x ≠ 0 := by omega
          simp [c, this]
    · simp
