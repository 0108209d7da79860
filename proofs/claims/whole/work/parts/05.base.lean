/-! numbers, memories, pure programs -/
abbrev zMem : Type := Nat → Int → Int
abbrev zO : Type := Option (Int × zMem)
abbrev z_Rg (x : Int) : Prop := -2147483648 ≤ x ∧ x ≤ 2147483647
abbrev z_RgL (x : Int) : Prop := -9223372036854775808 ≤ x ∧ x ≤ 9223372036854775807
theorem z_I_in {x : Int} (h : z_Rg x) : (z_I x).toInt = x := Int32.toInt_ofInt_of_le (by omega) (by omega)
theorem z_L_in {x : Int} (h : z_RgL x) : (z_L x).toInt = x := Int64.toInt_ofInt_of_le (by omega) (by omega)
theorem z_I_of (a : Int32) : z_I a.toInt = a := Int32.ofInt_toInt a
theorem z_I_rg (a : Int32) : z_Rg a.toInt := ⟨by have := Int32.le_toInt a; omega, by have := Int32.toInt_lt a; omega⟩
theorem z_lt_iff {x y : Int} (hx : z_Rg x) (hy : z_Rg y) : z_I x < z_I y ↔ x < y := by rw [Int32.lt_iff_toInt_lt, z_I_in hx, z_I_in hy]
theorem z_le_iff {x y : Int} (hx : z_Rg x) (hy : z_Rg y) : z_I x ≤ z_I y ↔ x ≤ y := by rw [Int32.le_iff_toInt_le, z_I_in hx, z_I_in hy]
theorem z_eq_iff {x y : Int} (hx : z_Rg x) (hy : z_Rg y) : z_I x = z_I y ↔ x = y := by rw [← Int32.toInt_inj, z_I_in hx, z_I_in hy]
theorem z_Lgt_iff {x y : Int} (hx : z_RgL x) (hy : z_RgL y) : z_L x > z_L y ↔ y < x := by rw [gt_iff_lt, Int64.lt_iff_toInt_lt, z_L_in hx, z_L_in hy]
theorem z_Leq_iff {x y : Int} (hx : z_RgL x) (hy : z_RgL y) : z_L x = z_L y ↔ x = y := by rw [← Int64.toInt_inj, z_L_in hx, z_L_in hy]
theorem z_nat {i : Int} (h : z_Rg i) : (z_I i).toNatClampNeg = i.toNat := by show ((z_I i).toInt).toNat = _; rw [z_I_in h]
theorem z_vin {i : Int} {n : Nat} (h : 0 ≤ i ∧ i < (n : Int)) (hn : n < 2147483648) : vp_in (z_I i) n := by
  have hr : z_Rg i := by omega
  rw [vp_in_iff, z_I_in hr]; exact h
def z_st (M : zMem) (c : Nat) (i v : Int) : zMem := fun c' j => if c' = c then (if j = i then v else M c' j) else M c' j
def z_nm {α β : Type} (e : α) (K : α → Option β) : Option β := K e
def z_jn {α β : Type} (K : α) (F : α → β) : β := F K
def z_lt (x y : Int) (A B : zO) : zO := if z_Rg x ∧ z_Rg y then (if x < y then A else B) else none
def z_le (x y : Int) (A B : zO) : zO := if z_Rg x ∧ z_Rg y then (if x ≤ y then A else B) else none
def z_eq (x y : Int) (A B : zO) : zO := if z_Rg x ∧ z_Rg y then (if x = y then A else B) else none
def z_rd (M : zMem) (c : Nat) (n i : Int) (K : Int → zO) : zO := if 0 ≤ i ∧ i < n then K (M c i) else none
def z_wr (M : zMem) (c : Nat) (n i v : Int) (K : zMem → zO) : zO := if 0 ≤ i ∧ i < n then K (z_st M c i v) else none
def z_wz (M : zMem) (c : Nat) (n i v : Int) (K : zMem → zO) : zO := if (0 ≤ i ∧ i < n) ∧ (v = 0 ∨ v = 1) then K (z_st M c i v) else none
def z_pf (M : zMem) (c : Nat) (k v : Int) (K : zMem → zO) : zO := K (z_st M c k v)
def z_pz (M : zMem) (c : Nat) (k v : Int) (K : zMem → zO) : zO := if v = 0 ∨ v = 1 then K (z_st M c k v) else none
def z_dv (x y : Int) (K : Int → zO) : zO := if (0 ≤ x ∧ x ≤ 2147483647) ∧ (0 < y ∧ y ≤ 2147483647) then K (x / y) else none
def z_md (x y : Int) (K : Int → zO) : zO := if (0 ≤ x ∧ x ≤ 2147483647) ∧ (0 < y ∧ y ≤ 2147483647) then K (x % y) else none
def z_mt (x y : Int) (K : Int → zO) : zO := if z_Rg x ∧ (0 < y ∧ y ≤ 2147483647) then K (Int.tmod x y) else none
def z_il (x : Int) (K : Int → zO) : zO := if z_Rg x then K x else none
def z_lc (x y : Int) (K : Int → zO) : zO := if z_RgL x ∧ z_RgL y then K (if y < x then 1 else if x = y then 0 else -1) else none
def z_cl (o : zO) (K : Int → zMem → zO) : zO := match o with
  | none => none
  | some q => K q.1 q.2
def z_cp (M : zMem) (cs : Nat) (ns sp : Int) (cd : Nat) (nd dp n : Int) (K : zMem → zO) : zO := if (0 ≤ sp ∧ 0 ≤ dp ∧ 0 ≤ n ∧ sp + n ≤ ns ∧ dp + n ≤ nd) then K (fun c' j => if c' = cd then (if dp ≤ j ∧ j < dp + n then M cs (sp + (j - dp)) else M c' j) else M c' j) else none
def z_rz (x : Int) (M : zMem) : zO := if x = 0 ∨ x = 1 then some (x, M) else none
def z_mn (x y : Int) (K : Int → zO) : zO := if z_Rg x ∧ z_Rg y then K (min x y) else none
def z_mx (x y : Int) (K : Int → zO) : zO := if z_Rg x ∧ z_Rg y then K (max x y) else none
def z_fm (x y : Int) (K : Int → zO) : zO := if z_Rg x ∧ (0 < y ∧ y ≤ 2147483647) then K (x % y) else none
def z_and (x y : Int) : Int := (z_I x &&& z_I y).toInt
def z_or (x y : Int) : Int := (z_I x ||| z_I y).toInt
def z_xor (x y : Int) : Int := (z_I x ^^^ z_I y).toInt
def z_shl (x y : Int) : Int := (z_I x <<< (z_I y &&& 31)).toInt
def z_shr (x y : Int) : Int := (z_I x >>> (z_I y &&& 31)).toInt
def z_ushr (x y : Int) : Int := ((z_I x).toUInt32 >>> ((z_I y).toUInt32 &&& Int32.toUInt32 31)).toInt32.toInt
theorem z_ltd {x y : Int} {A B : zO} {r : Int × zMem} (h : z_lt x y A B = some r) : z_Rg x ∧ z_Rg y ∧ ((x < y ∧ A = some r) ∨ (¬ x < y ∧ B = some r)) := by
  unfold z_lt at h
  split at h
  · rename_i hc
    refine ⟨hc.1, hc.2, ?_⟩
    split at h
    · rename_i hd; exact Or.inl ⟨hd, h⟩
    · rename_i hd; exact Or.inr ⟨hd, h⟩
  · cases h
theorem z_led {x y : Int} {A B : zO} {r : Int × zMem} (h : z_le x y A B = some r) : z_Rg x ∧ z_Rg y ∧ ((x ≤ y ∧ A = some r) ∨ (¬ x ≤ y ∧ B = some r)) := by
  unfold z_le at h
  split at h
  · rename_i hc
    refine ⟨hc.1, hc.2, ?_⟩
    split at h
    · rename_i hd; exact Or.inl ⟨hd, h⟩
    · rename_i hd; exact Or.inr ⟨hd, h⟩
  · cases h
theorem z_eqd {x y : Int} {A B : zO} {r : Int × zMem} (h : z_eq x y A B = some r) : z_Rg x ∧ z_Rg y ∧ ((x = y ∧ A = some r) ∨ (¬ x = y ∧ B = some r)) := by
  unfold z_eq at h
  split at h
  · rename_i hc
    refine ⟨hc.1, hc.2, ?_⟩
    split at h
    · rename_i hd; exact Or.inl ⟨hd, h⟩
    · rename_i hd; exact Or.inr ⟨hd, h⟩
  · cases h
theorem z_cld {o : zO} {K : Int → zMem → zO} {r : Int × zMem} (h : z_cl o K = some r) : ∃ (x : Int) (M : zMem), o = some (x, M) ∧ K x M = some r := by
  cases o with
  | none => cases h
  | some q => exact ⟨q.1, q.2, rfl, h⟩
theorem z_upd {M : zMem} {c : Nat} {i v : Int} (h : 0 ≤ i ∧ i ≤ 2147483647) : upd (fun j : Nat => z_I (M c (j : Int))) (z_I i).toNatClampNeg (z_I v) = fun j : Nat => z_I (z_st M c i v c (j : Int)) := by
  have hr : z_Rg i := by omega
  rw [z_nat hr]
  funext j
  unfold upd z_st
  by_cases hj : j = i.toNat
  · have h2 : (j : Int) = i := by omega
    rw [if_pos hj, if_pos rfl, if_pos h2]
  · have h2 : ¬ (j : Int) = i := by omega
    rw [if_neg hj, if_pos rfl, if_neg h2]

/-! the judgement: the machine, at pc, with the world ws, the locals lv and the stack st, comes to Q -/
def z_W (p : Program) (l : Launch) (e : Env) (R : Room) (s : State) (m : MethodId) (args : Array Value) (below : List Frame) (meth : Method) (c : Code) (D : va_G) (A : Nat → Prop) (Q : State → Prop) (nL cells slots : Nat) (ws : va_W) (pc : Nat) (lv : List (Nat × Value)) (st : List Value) : Prop :=
  ∀ (H : Heap) (locs : List Loc) (ls : Array Slot), va_P D vwCl ws H → va_D A ws → va_S A s.heap H locs → lv_has ls nL lv → W p l e R s m args below meth c H locs cells slots Q (F0 m pc ls st)
section ZR
variable {p : Program} {l : Launch} {e : Env} {R : Room} {s : State} {m : MethodId} {args : Array Value} {below : List Frame} {meth : Method} {c : Code} {Q : State → Prop} {cells slots : Nat} {D : va_G} {A : Nat → Prop} {nL : Nat} {ws : va_W} {cc : ByteArray} {pc : Nat} {lv : List (Nat × Value)} {rest : List Value} {own : String} {lev : Nat} {cI cZ : ClassId} {adK adV : Nat → Nat}
theorem z_iconst (Z : CallFix p m c cc nL s args z_G own) {n : Int} (hdg : decode cc pc = .ok (.iconst n, 1)) (kk : z_W p l e R s m args below meth c D A Q nL cells slots ws (pc + 1) lv (.int (z_I n) :: rest)) : z_W p l e R s m args below meth c D A Q nL cells slots ws pc lv (rest) := fun H locs ls hP hD hS hl => lv_iconst Z.1 Z.2.1 hdg rfl (kk H locs ls hP hD hS hl)
theorem z_bipush (Z : CallFix p m c cc nL s args z_G own) {n : Int} (hdg : decode cc pc = .ok (.bipush n, 2)) (hv : (Int8.ofInt n).toInt32 = z_I n) (kk : z_W p l e R s m args below meth c D A Q nL cells slots ws (pc + 2) lv (.int (z_I n) :: rest)) : z_W p l e R s m args below meth c D A Q nL cells slots ws pc lv (rest) := fun H locs ls hP hD hS hl => lv_bipush Z.1 Z.2.1 hdg hv (kk H locs ls hP hD hS hl)
theorem z_sipush (Z : CallFix p m c cc nL s args z_G own) {n : Int} (hdg : decode cc pc = .ok (.sipush n, 3)) (hv : (Int16.ofInt n).toInt32 = z_I n) (kk : z_W p l e R s m args below meth c D A Q nL cells slots ws (pc + 3) lv (.int (z_I n) :: rest)) : z_W p l e R s m args below meth c D A Q nL cells slots ws pc lv (rest) := fun H locs ls hP hD hS hl => lv_sipush Z.1 Z.2.1 hdg hv (kk H locs ls hP hD hS hl)
theorem z_ldc (Z : CallFix p m c cc nL s args z_G own) {index : Nat} {n : Int} (hdg : decode cc pc = .ok (.ldc index, 2)) (hc : Cond.constant own index (z_I n) ∈ z_G) (kk : z_W p l e R s m args below meth c D A Q nL cells slots ws (pc + 2) lv (.int (z_I n) :: rest)) : z_W p l e R s m args below meth c D A Q nL cells slots ws pc lv (rest) := fun H locs ls hP hD hS hl => lv_ldc Z.1 Z.2.1 Z.2.2.2.1 (Z.2.2.2.2 _ hc) hdg (kk H locs ls hP hD hS hl)
theorem z_ldcw (Z : CallFix p m c cc nL s args z_G own) {index : Nat} {n : Int} (hdg : decode cc pc = .ok (.ldc_w index, 3)) (hc : Cond.constant own index (z_I n) ∈ z_G) (kk : z_W p l e R s m args below meth c D A Q nL cells slots ws (pc + 3) lv (.int (z_I n) :: rest)) : z_W p l e R s m args below meth c D A Q nL cells slots ws pc lv (rest) := fun H locs ls hP hD hS hl => lv_ldcw Z.1 Z.2.1 Z.2.2.2.1 (Z.2.2.2.2 _ hc) hdg (kk H locs ls hP hD hS hl)
theorem z_ldc2 (Z : CallFix p m c cc nL s args z_G own) {index : Nat} {n : Int} (hdg : decode cc pc = .ok (.ldc2_w index, 3)) (hc : Cond.constantLong own index (z_L n) ∈ z_G) (kk : z_W p l e R s m args below meth c D A Q nL cells slots ws (pc + 3) lv (.long (z_L n) :: rest)) : z_W p l e R s m args below meth c D A Q nL cells slots ws pc lv (rest) := fun H locs ls hP hD hS hl => lv_ldc2 Z.1 Z.2.1 Z.2.2.2.1 (Z.2.2.2.2 _ hc) hdg (kk H locs ls hP hD hS hl)
theorem z_lconst (Z : CallFix p m c cc nL s args z_G own) {n : Fin 2} {x : Int} (hdg : decode cc pc = .ok (.lconst n, 1)) (hv : Int64.ofNat (n : Nat) = z_L x) (kk : z_W p l e R s m args below meth c D A Q nL cells slots ws (pc + 1) lv (.long (z_L x) :: rest)) : z_W p l e R s m args below meth c D A Q nL cells slots ws pc lv (rest) := fun H locs ls hP hD hS hl => lv_lconst Z.1 Z.2.1 hdg hv (kk H locs ls hP hD hS hl)
theorem z_iload_n (Z : CallFix p m c cc nL s args z_G own) {k : Fin 4} {i : Nat} {x : Int32} (hdg : decode cc pc = .ok (.iload_n k, 1)) (hi : (k : Nat) = i) (j : Nat) (hv : lv[j]? = some (i, .int x)) (kk : z_W p l e R s m args below meth c D A Q nL cells slots ws (pc + 1) lv (.int x :: rest)) : z_W p l e R s m args below meth c D A Q nL cells slots ws pc lv (rest) := fun H locs ls hP hD hS hl => lv_iload_n Z.1 Z.2.1 hdg hi (lv_at hl j hv) (kk H locs ls hP hD hS hl)
theorem z_iload (Z : CallFix p m c cc nL s args z_G own) {i : Nat} {x : Int32} (hdg : decode cc pc = .ok (.iload i, 2)) (j : Nat) (hv : lv[j]? = some (i, .int x)) (kk : z_W p l e R s m args below meth c D A Q nL cells slots ws (pc + 2) lv (.int x :: rest)) : z_W p l e R s m args below meth c D A Q nL cells slots ws pc lv (rest) := fun H locs ls hP hD hS hl => lv_iload Z.1 Z.2.1 hdg (lv_at hl j hv) (kk H locs ls hP hD hS hl)
theorem z_istore_n (Z : CallFix p m c cc nL s args z_G own) {k : Fin 4} {i : Nat} {x : Int32} {lv' : List (Nat × Value)} (hdg : decode cc pc = .ok (.istore_n k, 1)) (hi : (k : Nat) = i) (hn : i < nL) (hl2 : (i, Value.int x) :: lv.filter (fun q => !(q.1 == i) && !(q.1 + 1 == i && q.2.category == 2)) = lv') (kk : z_W p l e R s m args below meth c D A Q nL cells slots ws (pc + 1) lv' rest) : z_W p l e R s m args below meth c D A Q nL cells slots ws pc lv (.int x :: rest) := fun H locs ls hP hD hS hl => lv_istore_n Z.1 Z.2.1 hdg hi hl hn hl2 (fun ls2 hl3 => kk H locs ls2 hP hD hS hl3)
theorem z_istore (Z : CallFix p m c cc nL s args z_G own) {i : Nat} {x : Int32} {lv' : List (Nat × Value)} (hdg : decode cc pc = .ok (.istore i, 2)) (hn : i < nL) (hl2 : (i, Value.int x) :: lv.filter (fun q => !(q.1 == i) && !(q.1 + 1 == i && q.2.category == 2)) = lv') (kk : z_W p l e R s m args below meth c D A Q nL cells slots ws (pc + 2) lv' rest) : z_W p l e R s m args below meth c D A Q nL cells slots ws pc lv (.int x :: rest) := fun H locs ls hP hD hS hl => lv_istore Z.1 Z.2.1 hdg hl hn hl2 (fun ls2 hl3 => kk H locs ls2 hP hD hS hl3)
theorem z_lload_n (Z : CallFix p m c cc nL s args z_G own) {k : Fin 4} {i : Nat} {x : Int64} (hdg : decode cc pc = .ok (.lload_n k, 1)) (hi : (k : Nat) = i) (j : Nat) (hv : lv[j]? = some (i, .long x)) (kk : z_W p l e R s m args below meth c D A Q nL cells slots ws (pc + 1) lv (.long x :: rest)) : z_W p l e R s m args below meth c D A Q nL cells slots ws pc lv (rest) := fun H locs ls hP hD hS hl => lv_lload_n Z.1 Z.2.1 hdg hi (lv_at hl j hv) (kk H locs ls hP hD hS hl)
theorem z_lload (Z : CallFix p m c cc nL s args z_G own) {i : Nat} {x : Int64} (hdg : decode cc pc = .ok (.lload i, 2)) (j : Nat) (hv : lv[j]? = some (i, .long x)) (kk : z_W p l e R s m args below meth c D A Q nL cells slots ws (pc + 2) lv (.long x :: rest)) : z_W p l e R s m args below meth c D A Q nL cells slots ws pc lv (rest) := fun H locs ls hP hD hS hl => lv_lload Z.1 Z.2.1 hdg (lv_at hl j hv) (kk H locs ls hP hD hS hl)
theorem z_lstore_n (Z : CallFix p m c cc nL s args z_G own) {k : Fin 4} {i : Nat} {x : Int64} {lv' : List (Nat × Value)} (hdg : decode cc pc = .ok (.lstore_n k, 1)) (hi : (k : Nat) = i) (hn : i + 1 < nL) (hl2 : (i, Value.long x) :: lv.filter (fun q => !(q.1 == i) && (!(q.1 == i + 1) && !(q.1 + 1 == i && q.2.category == 2))) = lv') (kk : z_W p l e R s m args below meth c D A Q nL cells slots ws (pc + 1) lv' rest) : z_W p l e R s m args below meth c D A Q nL cells slots ws pc lv (.long x :: rest) := fun H locs ls hP hD hS hl => lv_lstore_n Z.1 Z.2.1 hdg hi hl hn hl2 (fun ls2 hl3 => kk H locs ls2 hP hD hS hl3)
theorem z_lstore (Z : CallFix p m c cc nL s args z_G own) {i : Nat} {x : Int64} {lv' : List (Nat × Value)} (hdg : decode cc pc = .ok (.lstore i, 2)) (hn : i + 1 < nL) (hl2 : (i, Value.long x) :: lv.filter (fun q => !(q.1 == i) && (!(q.1 == i + 1) && !(q.1 + 1 == i && q.2.category == 2))) = lv') (kk : z_W p l e R s m args below meth c D A Q nL cells slots ws (pc + 2) lv' rest) : z_W p l e R s m args below meth c D A Q nL cells slots ws pc lv (.long x :: rest) := fun H locs ls hP hD hS hl => lv_lstore Z.1 Z.2.1 hdg hl hn hl2 (fun ls2 hl3 => kk H locs ls2 hP hD hS hl3)
theorem z_aload_n (Z : CallFix p m c cc nL s args z_G own) {k : Fin 4} {i : Nat} {x : Nat} (hdg : decode cc pc = .ok (.aload_n k, 1)) (hi : (k : Nat) = i) (j : Nat) (hv : lv[j]? = some (i, .ref x)) (kk : z_W p l e R s m args below meth c D A Q nL cells slots ws (pc + 1) lv (.ref x :: rest)) : z_W p l e R s m args below meth c D A Q nL cells slots ws pc lv (rest) := fun H locs ls hP hD hS hl => lv_aload_n Z.1 Z.2.1 hdg hi (lv_at hl j hv) (kk H locs ls hP hD hS hl)
theorem z_aload (Z : CallFix p m c cc nL s args z_G own) {i : Nat} {x : Nat} (hdg : decode cc pc = .ok (.aload i, 2)) (j : Nat) (hv : lv[j]? = some (i, .ref x)) (kk : z_W p l e R s m args below meth c D A Q nL cells slots ws (pc + 2) lv (.ref x :: rest)) : z_W p l e R s m args below meth c D A Q nL cells slots ws pc lv (rest) := fun H locs ls hP hD hS hl => lv_aload Z.1 Z.2.1 hdg (lv_at hl j hv) (kk H locs ls hP hD hS hl)
theorem z_astore_n (Z : CallFix p m c cc nL s args z_G own) {k : Fin 4} {i : Nat} {x : Nat} {lv' : List (Nat × Value)} (hdg : decode cc pc = .ok (.astore_n k, 1)) (hi : (k : Nat) = i) (hn : i < nL) (hl2 : (i, Value.ref x) :: lv.filter (fun q => !(q.1 == i) && !(q.1 + 1 == i && q.2.category == 2)) = lv') (kk : z_W p l e R s m args below meth c D A Q nL cells slots ws (pc + 1) lv' rest) : z_W p l e R s m args below meth c D A Q nL cells slots ws pc lv (.ref x :: rest) := fun H locs ls hP hD hS hl => lv_astore_n Z.1 Z.2.1 hdg hi hl hn hl2 (fun ls2 hl3 => kk H locs ls2 hP hD hS hl3)
theorem z_astore (Z : CallFix p m c cc nL s args z_G own) {i : Nat} {x : Nat} {lv' : List (Nat × Value)} (hdg : decode cc pc = .ok (.astore i, 2)) (hn : i < nL) (hl2 : (i, Value.ref x) :: lv.filter (fun q => !(q.1 == i) && !(q.1 + 1 == i && q.2.category == 2)) = lv') (kk : z_W p l e R s m args below meth c D A Q nL cells slots ws (pc + 2) lv' rest) : z_W p l e R s m args below meth c D A Q nL cells slots ws pc lv (.ref x :: rest) := fun H locs ls hP hD hS hl => lv_astore Z.1 Z.2.1 hdg hl hn hl2 (fun ls2 hl3 => kk H locs ls2 hP hD hS hl3)
theorem z_iinc (Z : CallFix p m c cc nL s args z_G own) {i k : Nat} {n x : Int} {lv' : List (Nat × Value)} (hdg : decode cc pc = .ok (.iinc i n, 3)) (hk : lv[k]? = some (i, .int (z_I x))) (hn : i < nL) (hl2 : (i, Value.int (z_I (x + n))) :: lv.filter (fun q => !(q.1 == i) && !(q.1 + 1 == i && q.2.category == 2)) = lv') (kk : z_W p l e R s m args below meth c D A Q nL cells slots ws (pc + 3) lv' rest) : z_W p l e R s m args below meth c D A Q nL cells slots ws pc lv rest := fun H locs ls hP hD hS hl => lv_iinc (v := z_I (x + n)) Z.1 Z.2.1 hdg hl hk (by unfold z_I; rw [Int32.ofInt_add]) hn hl2 (fun ls2 hl3 => kk H locs ls2 hP hD hS hl3)
theorem z_dup (Z : CallFix p m c cc nL s args z_G own) {va : Value} (hdg : decode cc pc = .ok (.dup, 1)) (hva : va.category = 1) (kk : z_W p l e R s m args below meth c D A Q nL cells slots ws (pc + 1) lv (va :: va :: rest)) : z_W p l e R s m args below meth c D A Q nL cells slots ws pc lv (va :: rest) := fun H locs ls hP hD hS hl => lv_dup Z.1 Z.2.1 hdg hva (kk H locs ls hP hD hS hl)
theorem z_dup2 (Z : CallFix p m c cc nL s args z_G own) {va vb : Value} (hdg : decode cc pc = .ok (.dup2, 1)) (hva : va.category = 1) (hvb : vb.category = 1) (kk : z_W p l e R s m args below meth c D A Q nL cells slots ws (pc + 1) lv (va :: vb :: va :: vb :: rest)) : z_W p l e R s m args below meth c D A Q nL cells slots ws pc lv (va :: vb :: rest) := fun H locs ls hP hD hS hl => lv_dup2_11 Z.1 Z.2.1 hdg hva hvb (kk H locs ls hP hD hS hl)
theorem z_pop (Z : CallFix p m c cc nL s args z_G own) {va : Value} (hdg : decode cc pc = .ok (.pop, 1)) (hva : va.category = 1) (kk : z_W p l e R s m args below meth c D A Q nL cells slots ws (pc + 1) lv (rest)) : z_W p l e R s m args below meth c D A Q nL cells slots ws pc lv (va :: rest) := fun H locs ls hP hD hS hl => lv_pop Z.1 Z.2.1 hdg hva (kk H locs ls hP hD hS hl)
theorem z_iadd (Z : CallFix p m c cc nL s args z_G own) {x y : Int} (hdg : decode cc pc = .ok (.iadd, 1)) (kk : z_W p l e R s m args below meth c D A Q nL cells slots ws (pc + 1) lv (.int (z_I (x + y)) :: rest)) : z_W p l e R s m args below meth c D A Q nL cells slots ws pc lv (.int (z_I y) :: .int (z_I x) :: rest) := fun H locs ls hP hD hS hl => lv_iadd Z.1 Z.2.1 hdg (by have h9 := kk H locs ls hP hD hS hl; unfold z_I at h9 ⊢; rw [Int32.ofInt_add] at h9; exact h9)
theorem z_isub (Z : CallFix p m c cc nL s args z_G own) {x y : Int} (hdg : decode cc pc = .ok (.isub, 1)) (kk : z_W p l e R s m args below meth c D A Q nL cells slots ws (pc + 1) lv (.int (z_I (x - y)) :: rest)) : z_W p l e R s m args below meth c D A Q nL cells slots ws pc lv (.int (z_I y) :: .int (z_I x) :: rest) := fun H locs ls hP hD hS hl => lv_isub Z.1 Z.2.1 hdg (by have h9 := kk H locs ls hP hD hS hl; unfold z_I at h9 ⊢; rw [Int32.ofInt_sub] at h9; exact h9)
theorem z_imul (Z : CallFix p m c cc nL s args z_G own) {x y : Int} (hdg : decode cc pc = .ok (.imul, 1)) (kk : z_W p l e R s m args below meth c D A Q nL cells slots ws (pc + 1) lv (.int (z_I (x * y)) :: rest)) : z_W p l e R s m args below meth c D A Q nL cells slots ws pc lv (.int (z_I y) :: .int (z_I x) :: rest) := fun H locs ls hP hD hS hl => lv_imul Z.1 Z.2.1 hdg (by have h9 := kk H locs ls hP hD hS hl; unfold z_I at h9 ⊢; rw [Int32.ofInt_mul] at h9; exact h9)
theorem z_ineg (Z : CallFix p m c cc nL s args z_G own) {x : Int} (hdg : decode cc pc = .ok (.ineg, 1)) (kk : z_W p l e R s m args below meth c D A Q nL cells slots ws (pc + 1) lv (.int (z_I (-x)) :: rest)) : z_W p l e R s m args below meth c D A Q nL cells slots ws pc lv (.int (z_I x) :: rest) := fun H locs ls hP hD hS hl => lv_ineg Z.1 Z.2.1 hdg (by have h9 := kk H locs ls hP hD hS hl; unfold z_I at h9 ⊢; rw [Int32.ofInt_neg] at h9; exact h9)
theorem z_ladd (Z : CallFix p m c cc nL s args z_G own) {x y : Int} (hdg : decode cc pc = .ok (.ladd, 1)) (kk : z_W p l e R s m args below meth c D A Q nL cells slots ws (pc + 1) lv (.long (z_L (x + y)) :: rest)) : z_W p l e R s m args below meth c D A Q nL cells slots ws pc lv (.long (z_L y) :: .long (z_L x) :: rest) := fun H locs ls hP hD hS hl => lv_ladd Z.1 Z.2.1 hdg (by have h9 := kk H locs ls hP hD hS hl; unfold z_L at h9 ⊢; rw [Int64.ofInt_add] at h9; exact h9)
theorem z_lmul (Z : CallFix p m c cc nL s args z_G own) {x y : Int} (hdg : decode cc pc = .ok (.lmul, 1)) (kk : z_W p l e R s m args below meth c D A Q nL cells slots ws (pc + 1) lv (.long (z_L (x * y)) :: rest)) : z_W p l e R s m args below meth c D A Q nL cells slots ws pc lv (.long (z_L y) :: .long (z_L x) :: rest) := fun H locs ls hP hD hS hl => lv_lmul Z.1 Z.2.1 hdg (by have h9 := kk H locs ls hP hD hS hl; unfold z_L at h9 ⊢; rw [Int64.ofInt_mul] at h9; exact h9)
theorem z_iand (Z : CallFix p m c cc nL s args z_G own) {x y : Int} (hdg : decode cc pc = .ok (.iand, 1)) (kk : z_W p l e R s m args below meth c D A Q nL cells slots ws (pc + 1) lv (.int (z_I (z_and x y)) :: rest)) : z_W p l e R s m args below meth c D A Q nL cells slots ws pc lv (.int (z_I y) :: .int (z_I x) :: rest) := fun H locs ls hP hD hS hl => lv_iand Z.1 Z.2.1 hdg (by have h9 := kk H locs ls hP hD hS hl; unfold z_and at h9; rw [z_I_of] at h9; exact h9)
theorem z_ior (Z : CallFix p m c cc nL s args z_G own) {x y : Int} (hdg : decode cc pc = .ok (.ior, 1)) (kk : z_W p l e R s m args below meth c D A Q nL cells slots ws (pc + 1) lv (.int (z_I (z_or x y)) :: rest)) : z_W p l e R s m args below meth c D A Q nL cells slots ws pc lv (.int (z_I y) :: .int (z_I x) :: rest) := fun H locs ls hP hD hS hl => lv_ior Z.1 Z.2.1 hdg (by have h9 := kk H locs ls hP hD hS hl; unfold z_or at h9; rw [z_I_of] at h9; exact h9)
theorem z_ixor (Z : CallFix p m c cc nL s args z_G own) {x y : Int} (hdg : decode cc pc = .ok (.ixor, 1)) (kk : z_W p l e R s m args below meth c D A Q nL cells slots ws (pc + 1) lv (.int (z_I (z_xor x y)) :: rest)) : z_W p l e R s m args below meth c D A Q nL cells slots ws pc lv (.int (z_I y) :: .int (z_I x) :: rest) := fun H locs ls hP hD hS hl => lv_ixor Z.1 Z.2.1 hdg (by have h9 := kk H locs ls hP hD hS hl; unfold z_xor at h9; rw [z_I_of] at h9; exact h9)
theorem z_ishl (Z : CallFix p m c cc nL s args z_G own) {x y : Int} (hdg : decode cc pc = .ok (.ishl, 1)) (kk : z_W p l e R s m args below meth c D A Q nL cells slots ws (pc + 1) lv (.int (z_I (z_shl x y)) :: rest)) : z_W p l e R s m args below meth c D A Q nL cells slots ws pc lv (.int (z_I y) :: .int (z_I x) :: rest) := fun H locs ls hP hD hS hl => lv_ishl Z.1 Z.2.1 hdg (by have h9 := kk H locs ls hP hD hS hl; unfold z_shl at h9; rw [z_I_of] at h9; exact h9)
theorem z_ishr (Z : CallFix p m c cc nL s args z_G own) {x y : Int} (hdg : decode cc pc = .ok (.ishr, 1)) (kk : z_W p l e R s m args below meth c D A Q nL cells slots ws (pc + 1) lv (.int (z_I (z_shr x y)) :: rest)) : z_W p l e R s m args below meth c D A Q nL cells slots ws pc lv (.int (z_I y) :: .int (z_I x) :: rest) := fun H locs ls hP hD hS hl => lv_ishr Z.1 Z.2.1 hdg (by have h9 := kk H locs ls hP hD hS hl; unfold z_shr at h9; rw [z_I_of] at h9; exact h9)
theorem z_iushr (Z : CallFix p m c cc nL s args z_G own) {x y : Int} (hdg : decode cc pc = .ok (.iushr, 1)) (kk : z_W p l e R s m args below meth c D A Q nL cells slots ws (pc + 1) lv (.int (z_I (z_ushr x y)) :: rest)) : z_W p l e R s m args below meth c D A Q nL cells slots ws pc lv (.int (z_I y) :: .int (z_I x) :: rest) := fun H locs ls hP hD hS hl => lv_iushr Z.1 Z.2.1 hdg rfl (by have h9 := kk H locs ls hP hD hS hl; unfold z_ushr at h9; rw [z_I_of] at h9; exact h9)
theorem z_idiv (Z : CallFix p m c cc nL s args z_G own) {res : Int × zMem} {x y : Int} {K : Int → zO} (hdg : decode cc pc = .ok (.idiv, 1)) (h : z_dv x y K = some res) (kk : ∀ r : Int, K r = some res → z_W p l e R s m args below meth c D A Q nL cells slots ws (pc + 1) lv (.int (z_I r) :: rest)) : z_W p l e R s m args below meth c D A Q nL cells slots ws pc lv (.int (z_I y) :: .int (z_I x) :: rest) := fun H locs ls hP hD hS hl => by
  unfold z_dv at h
  split at h
  · rename_i hc
    have hx : z_Rg x := by omega
    have hy : z_Rg y := by omega
    refine lv_idiv Z.1 Z.2.1 hdg (fun h0 => ?_) ?_
    · have h1 : (z_I y).toInt = (0 : Int32).toInt := by rw [h0]
      rw [z_I_in hy] at h1
      have h2 : (0 : Int32).toInt = 0 := rfl
      omega
    · have e : z_I x / z_I y = z_I (x / y) := by
        rw [← Int32.toInt_inj, Int32.toInt_div_of_ne_right _ _ (fun h0 => by
          have h1 : (z_I y).toInt = (-1 : Int32).toInt := by rw [h0]
          rw [z_I_in hy] at h1
          have h2 : (-1 : Int32).toInt = -1 := rfl
          omega), z_I_in hx, z_I_in hy, Int.tdiv_eq_ediv_of_nonneg hc.1.1]
        have h3 : 0 ≤ x / y := Int.ediv_nonneg hc.1.1 (by omega)
        have h4 : x / y ≤ x := Int.ediv_le_self y hc.1.1
        exact (z_I_in (by omega)).symm
      rw [e]
      exact kk _ h H locs ls hP hD hS hl
  · cases h
theorem z_irem (Z : CallFix p m c cc nL s args z_G own) {res : Int × zMem} {x y : Int} {K : Int → zO} (hdg : decode cc pc = .ok (.irem, 1)) (h : z_md x y K = some res) (kk : ∀ r : Int, K r = some res → z_W p l e R s m args below meth c D A Q nL cells slots ws (pc + 1) lv (.int (z_I r) :: rest)) : z_W p l e R s m args below meth c D A Q nL cells slots ws pc lv (.int (z_I y) :: .int (z_I x) :: rest) := fun H locs ls hP hD hS hl => by
  unfold z_md at h
  split at h
  · rename_i hc
    have hx : z_Rg x := by omega
    have hy : z_Rg y := by omega
    refine lv_irem Z.1 Z.2.1 hdg (fun h0 => ?_) ?_
    · have h1 : (z_I y).toInt = (0 : Int32).toInt := by rw [h0]
      rw [z_I_in hy] at h1
      have h2 : (0 : Int32).toInt = 0 := rfl
      omega
    · have e : z_I x / z_I y = z_I (x / y) := by
        rw [← Int32.toInt_inj, Int32.toInt_div_of_ne_right _ _ (fun h0 => by
          have h1 : (z_I y).toInt = (-1 : Int32).toInt := by rw [h0]
          rw [z_I_in hy] at h1
          have h2 : (-1 : Int32).toInt = -1 := rfl
          omega), z_I_in hx, z_I_in hy, Int.tdiv_eq_ediv_of_nonneg hc.1.1]
        have h3 : 0 ≤ x / y := Int.ediv_nonneg hc.1.1 (by omega)
        have h4 : x / y ≤ x := Int.ediv_le_self y hc.1.1
        exact (z_I_in (by omega)).symm
      have e2 : z_I x - z_I x / z_I y * z_I y = z_I (x % y) := by
        rw [e]
        unfold z_I
        rw [← Int32.ofInt_mul, ← Int32.ofInt_sub]
        congr 1
        have := Int.ediv_mul_add_emod x y
        omega
      rw [e2]
      exact kk _ h H locs ls hP hD hS hl
  · cases h
theorem z_iremt (Z : CallFix p m c cc nL s args z_G own) {res : Int × zMem} {x y : Int} {K : Int → zO} (hdg : decode cc pc = .ok (.irem, 1)) (h : z_mt x y K = some res) (kk : ∀ r : Int, K r = some res → z_W p l e R s m args below meth c D A Q nL cells slots ws (pc + 1) lv (.int (z_I r) :: rest)) : z_W p l e R s m args below meth c D A Q nL cells slots ws pc lv (.int (z_I y) :: .int (z_I x) :: rest) := fun H locs ls hP hD hS hl => by
  unfold z_mt at h
  split at h
  · rename_i hc
    have hx : z_Rg x := hc.1
    have hy : z_Rg y := by omega
    refine lv_irem Z.1 Z.2.1 hdg (fun h0 => ?_) ?_
    · have h1 : (z_I y).toInt = (0 : Int32).toInt := by rw [h0]
      rw [z_I_in hy] at h1
      have h2 : (0 : Int32).toInt = 0 := rfl
      omega
    · have e2 : z_I x - z_I x / z_I y * z_I y = z_I (Int.tmod x y) := by
        have e : z_I x / z_I y = z_I (Int.tdiv x y) := by
          have h1 : (z_I x / z_I y).toInt = Int.tdiv x y := by
            rw [Int32.toInt_div_of_ne_right _ _ (fun h0 => by
              have h1 : (z_I y).toInt = (-1 : Int32).toInt := by rw [h0]
              rw [z_I_in hy] at h1
              have h2 : (-1 : Int32).toInt = -1 := rfl
              omega), z_I_in hx, z_I_in hy]
          rw [← h1, z_I_of]
        rw [e]
        unfold z_I
        rw [← Int32.ofInt_mul, ← Int32.ofInt_sub]
        congr 1
        have := Int.tdiv_mul_add_tmod x y
        omega
      rw [e2]
      exact kk _ h H locs ls hP hD hS hl
  · cases h
theorem z_i2l (Z : CallFix p m c cc nL s args z_G own) {res : Int × zMem} {x : Int} {K : Int → zO} (hdg : decode cc pc = .ok (.i2l, 1)) (h : z_il x K = some res) (kk : ∀ r : Int, K r = some res → z_W p l e R s m args below meth c D A Q nL cells slots ws (pc + 1) lv (.long (z_L r) :: rest)) : z_W p l e R s m args below meth c D A Q nL cells slots ws pc lv (.int (z_I x) :: rest) := fun H locs ls hP hD hS hl => by
  unfold z_il at h
  split at h
  · rename_i hc
    refine lv_i2l Z.1 Z.2.1 hdg (v := z_L x) ?_ (kk _ h H locs ls hP hD hS hl)
    rw [← Int64.toInt_inj, Int32.toInt_toInt64, z_I_in hc, z_L_in (by omega)]
  · cases h
theorem z_lcmp (Z : CallFix p m c cc nL s args z_G own) {res : Int × zMem} {x y : Int} {K : Int → zO} (hdg : decode cc pc = .ok (.lcmp, 1)) (h : z_lc x y K = some res) (kk : ∀ r : Int, K r = some res → z_W p l e R s m args below meth c D A Q nL cells slots ws (pc + 1) lv (.int (z_I r) :: rest)) : z_W p l e R s m args below meth c D A Q nL cells slots ws pc lv (.long (z_L y) :: .long (z_L x) :: rest) := fun H locs ls hP hD hS hl => by
  unfold z_lc at h
  split at h
  · rename_i hc
    have h9 := kk _ h H locs ls hP hD hS hl
    refine W.lcmp Z.1 Z.2.1 hdg ?_
    have e : lg_cmp (z_L x) (z_L y) = z_I (if y < x then 1 else if x = y then 0 else -1) := by
      unfold lg_cmp
      by_cases g1 : y < x
      · rw [if_pos ((z_Lgt_iff hc.1 hc.2).mpr g1), if_pos g1]; rfl
      · rw [if_neg (fun z => g1 ((z_Lgt_iff hc.1 hc.2).mp z)), if_neg g1]
        by_cases g2 : x = y
        · rw [if_pos ((z_Leq_iff hc.1 hc.2).mpr g2), if_pos g2]; rfl
        · rw [if_neg (fun z => g2 ((z_Leq_iff hc.1 hc.2).mp z)), if_neg g2]; rfl
    rw [e]; exact h9
  · cases h
-- branches: what the machine compares is what the pure program compares
theorem z_icmp_eq (Z : CallFix p m c cc nL s args z_G own) {res : Int × zMem} {x y : Int} {X Y : zO} {off : Int} {tgt : Nat} (hdg : decode cc pc = .ok (.if_icmp .eq off, 3)) (ht : (pc : Int) + off = (tgt : Int)) (h : z_eq x y X Y = some res) (kt : X = some res → z_W p l e R s m args below meth c D A Q nL cells slots ws tgt lv rest) (kf : Y = some res → z_W p l e R s m args below meth c D A Q nL cells slots ws (pc + 3) lv rest) : z_W p l e R s m args below meth c D A Q nL cells slots ws pc lv (.int (z_I y) :: .int (z_I x) :: rest) := fun H locs ls hP hD hS hl => by
  obtain ⟨h1, h2, h3⟩ := z_eqd h
  have hJ : z_I x = z_I y ↔ x = y := z_eq_iff h1 h2
  refine lv_icmp_eq Z.1 Z.2.1 hdg ht (fun hc => ?_) (fun hc => ?_)
  · rcases h3 with ⟨ha, hb⟩ | ⟨ha, hb⟩
    · exact kt hb H locs ls hP hD hS hl
    · exact (by have hz := hJ; first | exact absurd (hz.mp hc) (by omega) | exact absurd (hz.mpr (by omega)) hc | exact absurd hc (hz.mpr (by omega)))
  · rcases h3 with ⟨ha, hb⟩ | ⟨ha, hb⟩
    · exact (by have hz := hJ; first | exact absurd (hz.mp hc) (by omega) | exact absurd (hz.mpr (by omega)) hc | exact absurd hc (hz.mpr (by omega)))
    · exact kf hb H locs ls hP hD hS hl
theorem z_if_eq (Z : CallFix p m c cc nL s args z_G own) {res : Int × zMem} {x : Int} {X Y : zO} {off : Int} {tgt : Nat} (hdg : decode cc pc = .ok (.ifCond .eq off, 3)) (ht : (pc : Int) + off = (tgt : Int)) (h : z_eq x 0 X Y = some res) (kt : X = some res → z_W p l e R s m args below meth c D A Q nL cells slots ws tgt lv rest) (kf : Y = some res → z_W p l e R s m args below meth c D A Q nL cells slots ws (pc + 3) lv rest) : z_W p l e R s m args below meth c D A Q nL cells slots ws pc lv (.int (z_I x) :: rest) := fun H locs ls hP hD hS hl => by
  obtain ⟨h1, h2, h3⟩ := z_eqd h
  have hJ : z_I x = z_I 0 ↔ x = 0 := z_eq_iff h1 h2
  refine lv_if_eq Z.1 Z.2.1 hdg ht (fun hc => ?_) (fun hc => ?_)
  · rcases h3 with ⟨ha, hb⟩ | ⟨ha, hb⟩
    · exact kt hb H locs ls hP hD hS hl
    · exact (by have hz := hJ; first | exact absurd (hz.mp hc) (by omega) | exact absurd (hz.mpr (by omega)) hc | exact absurd hc (hz.mpr (by omega)))
  · rcases h3 with ⟨ha, hb⟩ | ⟨ha, hb⟩
    · exact (by have hz := hJ; first | exact absurd (hz.mp hc) (by omega) | exact absurd (hz.mpr (by omega)) hc | exact absurd hc (hz.mpr (by omega)))
    · exact kf hb H locs ls hP hD hS hl
theorem z_icmp_ne (Z : CallFix p m c cc nL s args z_G own) {res : Int × zMem} {x y : Int} {X Y : zO} {off : Int} {tgt : Nat} (hdg : decode cc pc = .ok (.if_icmp .ne off, 3)) (ht : (pc : Int) + off = (tgt : Int)) (h : z_eq x y X Y = some res) (kt : Y = some res → z_W p l e R s m args below meth c D A Q nL cells slots ws tgt lv rest) (kf : X = some res → z_W p l e R s m args below meth c D A Q nL cells slots ws (pc + 3) lv rest) : z_W p l e R s m args below meth c D A Q nL cells slots ws pc lv (.int (z_I y) :: .int (z_I x) :: rest) := fun H locs ls hP hD hS hl => by
  obtain ⟨h1, h2, h3⟩ := z_eqd h
  have hJ : ¬ z_I x = z_I y ↔ ¬ x = y := not_congr (z_eq_iff h1 h2)
  refine lv_icmp_ne Z.1 Z.2.1 hdg ht (fun hc => ?_) (fun hc => ?_)
  · rcases h3 with ⟨ha, hb⟩ | ⟨ha, hb⟩
    · exact (by have hz := hJ; first | exact absurd (hz.mp hc) (by omega) | exact absurd (hz.mpr (by omega)) hc | exact absurd hc (hz.mpr (by omega)))
    · exact kt hb H locs ls hP hD hS hl
  · rcases h3 with ⟨ha, hb⟩ | ⟨ha, hb⟩
    · exact kf hb H locs ls hP hD hS hl
    · exact (by have hz := hJ; first | exact absurd (hz.mp hc) (by omega) | exact absurd (hz.mpr (by omega)) hc | exact absurd hc (hz.mpr (by omega)))
theorem z_if_ne (Z : CallFix p m c cc nL s args z_G own) {res : Int × zMem} {x : Int} {X Y : zO} {off : Int} {tgt : Nat} (hdg : decode cc pc = .ok (.ifCond .ne off, 3)) (ht : (pc : Int) + off = (tgt : Int)) (h : z_eq x 0 X Y = some res) (kt : Y = some res → z_W p l e R s m args below meth c D A Q nL cells slots ws tgt lv rest) (kf : X = some res → z_W p l e R s m args below meth c D A Q nL cells slots ws (pc + 3) lv rest) : z_W p l e R s m args below meth c D A Q nL cells slots ws pc lv (.int (z_I x) :: rest) := fun H locs ls hP hD hS hl => by
  obtain ⟨h1, h2, h3⟩ := z_eqd h
  have hJ : ¬ z_I x = z_I 0 ↔ ¬ x = 0 := not_congr (z_eq_iff h1 h2)
  refine lv_if_ne Z.1 Z.2.1 hdg ht (fun hc => ?_) (fun hc => ?_)
  · rcases h3 with ⟨ha, hb⟩ | ⟨ha, hb⟩
    · exact (by have hz := hJ; first | exact absurd (hz.mp hc) (by omega) | exact absurd (hz.mpr (by omega)) hc | exact absurd hc (hz.mpr (by omega)))
    · exact kt hb H locs ls hP hD hS hl
  · rcases h3 with ⟨ha, hb⟩ | ⟨ha, hb⟩
    · exact kf hb H locs ls hP hD hS hl
    · exact (by have hz := hJ; first | exact absurd (hz.mp hc) (by omega) | exact absurd (hz.mpr (by omega)) hc | exact absurd hc (hz.mpr (by omega)))
theorem z_icmp_lt (Z : CallFix p m c cc nL s args z_G own) {res : Int × zMem} {x y : Int} {X Y : zO} {off : Int} {tgt : Nat} (hdg : decode cc pc = .ok (.if_icmp .lt off, 3)) (ht : (pc : Int) + off = (tgt : Int)) (h : z_le y x X Y = some res) (kt : Y = some res → z_W p l e R s m args below meth c D A Q nL cells slots ws tgt lv rest) (kf : X = some res → z_W p l e R s m args below meth c D A Q nL cells slots ws (pc + 3) lv rest) : z_W p l e R s m args below meth c D A Q nL cells slots ws pc lv (.int (z_I y) :: .int (z_I x) :: rest) := fun H locs ls hP hD hS hl => by
  obtain ⟨h1, h2, h3⟩ := z_led h
  have hJ : z_I x < z_I y ↔ x < y := z_lt_iff h2 h1
  refine lv_icmp_lt Z.1 Z.2.1 hdg ht (fun hc => ?_) (fun hc => ?_)
  · rcases h3 with ⟨ha, hb⟩ | ⟨ha, hb⟩
    · exact (by have hz := hJ; first | exact absurd (hz.mp hc) (by omega) | exact absurd (hz.mpr (by omega)) hc | exact absurd hc (hz.mpr (by omega)))
    · exact kt hb H locs ls hP hD hS hl
  · rcases h3 with ⟨ha, hb⟩ | ⟨ha, hb⟩
    · exact kf hb H locs ls hP hD hS hl
    · exact (by have hz := hJ; first | exact absurd (hz.mp hc) (by omega) | exact absurd (hz.mpr (by omega)) hc | exact absurd hc (hz.mpr (by omega)))
theorem z_if_lt (Z : CallFix p m c cc nL s args z_G own) {res : Int × zMem} {x : Int} {X Y : zO} {off : Int} {tgt : Nat} (hdg : decode cc pc = .ok (.ifCond .lt off, 3)) (ht : (pc : Int) + off = (tgt : Int)) (h : z_le 0 x X Y = some res) (kt : Y = some res → z_W p l e R s m args below meth c D A Q nL cells slots ws tgt lv rest) (kf : X = some res → z_W p l e R s m args below meth c D A Q nL cells slots ws (pc + 3) lv rest) : z_W p l e R s m args below meth c D A Q nL cells slots ws pc lv (.int (z_I x) :: rest) := fun H locs ls hP hD hS hl => by
  obtain ⟨h1, h2, h3⟩ := z_led h
  have hJ : z_I x < z_I 0 ↔ x < 0 := z_lt_iff h2 h1
  refine lv_if_lt Z.1 Z.2.1 hdg ht (fun hc => ?_) (fun hc => ?_)
  · rcases h3 with ⟨ha, hb⟩ | ⟨ha, hb⟩
    · exact (by have hz := hJ; first | exact absurd (hz.mp hc) (by omega) | exact absurd (hz.mpr (by omega)) hc | exact absurd hc (hz.mpr (by omega)))
    · exact kt hb H locs ls hP hD hS hl
  · rcases h3 with ⟨ha, hb⟩ | ⟨ha, hb⟩
    · exact kf hb H locs ls hP hD hS hl
    · exact (by have hz := hJ; first | exact absurd (hz.mp hc) (by omega) | exact absurd (hz.mpr (by omega)) hc | exact absurd hc (hz.mpr (by omega)))
theorem z_icmp_ge (Z : CallFix p m c cc nL s args z_G own) {res : Int × zMem} {x y : Int} {X Y : zO} {off : Int} {tgt : Nat} (hdg : decode cc pc = .ok (.if_icmp .ge off, 3)) (ht : (pc : Int) + off = (tgt : Int)) (h : z_lt x y X Y = some res) (kt : Y = some res → z_W p l e R s m args below meth c D A Q nL cells slots ws tgt lv rest) (kf : X = some res → z_W p l e R s m args below meth c D A Q nL cells slots ws (pc + 3) lv rest) : z_W p l e R s m args below meth c D A Q nL cells slots ws pc lv (.int (z_I y) :: .int (z_I x) :: rest) := fun H locs ls hP hD hS hl => by
  obtain ⟨h1, h2, h3⟩ := z_ltd h
  have hJ : z_I y ≤ z_I x ↔ y ≤ x := z_le_iff h2 h1
  refine lv_icmp_ge Z.1 Z.2.1 hdg ht (fun hc => ?_) (fun hc => ?_)
  · rcases h3 with ⟨ha, hb⟩ | ⟨ha, hb⟩
    · exact (by have hz := hJ; first | exact absurd (hz.mp hc) (by omega) | exact absurd (hz.mpr (by omega)) hc | exact absurd hc (hz.mpr (by omega)))
    · exact kt hb H locs ls hP hD hS hl
  · rcases h3 with ⟨ha, hb⟩ | ⟨ha, hb⟩
    · exact kf hb H locs ls hP hD hS hl
    · exact (by have hz := hJ; first | exact absurd (hz.mp hc) (by omega) | exact absurd (hz.mpr (by omega)) hc | exact absurd hc (hz.mpr (by omega)))
theorem z_if_ge (Z : CallFix p m c cc nL s args z_G own) {res : Int × zMem} {x : Int} {X Y : zO} {off : Int} {tgt : Nat} (hdg : decode cc pc = .ok (.ifCond .ge off, 3)) (ht : (pc : Int) + off = (tgt : Int)) (h : z_lt x 0 X Y = some res) (kt : Y = some res → z_W p l e R s m args below meth c D A Q nL cells slots ws tgt lv rest) (kf : X = some res → z_W p l e R s m args below meth c D A Q nL cells slots ws (pc + 3) lv rest) : z_W p l e R s m args below meth c D A Q nL cells slots ws pc lv (.int (z_I x) :: rest) := fun H locs ls hP hD hS hl => by
  obtain ⟨h1, h2, h3⟩ := z_ltd h
  have hJ : z_I 0 ≤ z_I x ↔ 0 ≤ x := z_le_iff h2 h1
  refine lv_if_ge Z.1 Z.2.1 hdg ht (fun hc => ?_) (fun hc => ?_)
  · rcases h3 with ⟨ha, hb⟩ | ⟨ha, hb⟩
    · exact (by have hz := hJ; first | exact absurd (hz.mp hc) (by omega) | exact absurd (hz.mpr (by omega)) hc | exact absurd hc (hz.mpr (by omega)))
    · exact kt hb H locs ls hP hD hS hl
  · rcases h3 with ⟨ha, hb⟩ | ⟨ha, hb⟩
    · exact kf hb H locs ls hP hD hS hl
    · exact (by have hz := hJ; first | exact absurd (hz.mp hc) (by omega) | exact absurd (hz.mpr (by omega)) hc | exact absurd hc (hz.mpr (by omega)))
theorem z_icmp_gt (Z : CallFix p m c cc nL s args z_G own) {res : Int × zMem} {x y : Int} {X Y : zO} {off : Int} {tgt : Nat} (hdg : decode cc pc = .ok (.if_icmp .gt off, 3)) (ht : (pc : Int) + off = (tgt : Int)) (h : z_le x y X Y = some res) (kt : Y = some res → z_W p l e R s m args below meth c D A Q nL cells slots ws tgt lv rest) (kf : X = some res → z_W p l e R s m args below meth c D A Q nL cells slots ws (pc + 3) lv rest) : z_W p l e R s m args below meth c D A Q nL cells slots ws pc lv (.int (z_I y) :: .int (z_I x) :: rest) := fun H locs ls hP hD hS hl => by
  obtain ⟨h1, h2, h3⟩ := z_led h
  have hJ : z_I y < z_I x ↔ y < x := z_lt_iff h2 h1
  refine lv_icmp_gt Z.1 Z.2.1 hdg ht (fun hc => ?_) (fun hc => ?_)
  · rcases h3 with ⟨ha, hb⟩ | ⟨ha, hb⟩
    · exact (by have hz := hJ; first | exact absurd (hz.mp hc) (by omega) | exact absurd (hz.mpr (by omega)) hc | exact absurd hc (hz.mpr (by omega)))
    · exact kt hb H locs ls hP hD hS hl
  · rcases h3 with ⟨ha, hb⟩ | ⟨ha, hb⟩
    · exact kf hb H locs ls hP hD hS hl
    · exact (by have hz := hJ; first | exact absurd (hz.mp hc) (by omega) | exact absurd (hz.mpr (by omega)) hc | exact absurd hc (hz.mpr (by omega)))
theorem z_if_gt (Z : CallFix p m c cc nL s args z_G own) {res : Int × zMem} {x : Int} {X Y : zO} {off : Int} {tgt : Nat} (hdg : decode cc pc = .ok (.ifCond .gt off, 3)) (ht : (pc : Int) + off = (tgt : Int)) (h : z_le x 0 X Y = some res) (kt : Y = some res → z_W p l e R s m args below meth c D A Q nL cells slots ws tgt lv rest) (kf : X = some res → z_W p l e R s m args below meth c D A Q nL cells slots ws (pc + 3) lv rest) : z_W p l e R s m args below meth c D A Q nL cells slots ws pc lv (.int (z_I x) :: rest) := fun H locs ls hP hD hS hl => by
  obtain ⟨h1, h2, h3⟩ := z_led h
  have hJ : z_I 0 < z_I x ↔ 0 < x := z_lt_iff h2 h1
  refine lv_if_gt Z.1 Z.2.1 hdg ht (fun hc => ?_) (fun hc => ?_)
  · rcases h3 with ⟨ha, hb⟩ | ⟨ha, hb⟩
    · exact (by have hz := hJ; first | exact absurd (hz.mp hc) (by omega) | exact absurd (hz.mpr (by omega)) hc | exact absurd hc (hz.mpr (by omega)))
    · exact kt hb H locs ls hP hD hS hl
  · rcases h3 with ⟨ha, hb⟩ | ⟨ha, hb⟩
    · exact kf hb H locs ls hP hD hS hl
    · exact (by have hz := hJ; first | exact absurd (hz.mp hc) (by omega) | exact absurd (hz.mpr (by omega)) hc | exact absurd hc (hz.mpr (by omega)))
theorem z_icmp_le (Z : CallFix p m c cc nL s args z_G own) {res : Int × zMem} {x y : Int} {X Y : zO} {off : Int} {tgt : Nat} (hdg : decode cc pc = .ok (.if_icmp .le off, 3)) (ht : (pc : Int) + off = (tgt : Int)) (h : z_lt y x X Y = some res) (kt : Y = some res → z_W p l e R s m args below meth c D A Q nL cells slots ws tgt lv rest) (kf : X = some res → z_W p l e R s m args below meth c D A Q nL cells slots ws (pc + 3) lv rest) : z_W p l e R s m args below meth c D A Q nL cells slots ws pc lv (.int (z_I y) :: .int (z_I x) :: rest) := fun H locs ls hP hD hS hl => by
  obtain ⟨h1, h2, h3⟩ := z_ltd h
  have hJ : z_I x ≤ z_I y ↔ x ≤ y := z_le_iff h2 h1
  refine lv_icmp_le Z.1 Z.2.1 hdg ht (fun hc => ?_) (fun hc => ?_)
  · rcases h3 with ⟨ha, hb⟩ | ⟨ha, hb⟩
    · exact (by have hz := hJ; first | exact absurd (hz.mp hc) (by omega) | exact absurd (hz.mpr (by omega)) hc | exact absurd hc (hz.mpr (by omega)))
    · exact kt hb H locs ls hP hD hS hl
  · rcases h3 with ⟨ha, hb⟩ | ⟨ha, hb⟩
    · exact kf hb H locs ls hP hD hS hl
    · exact (by have hz := hJ; first | exact absurd (hz.mp hc) (by omega) | exact absurd (hz.mpr (by omega)) hc | exact absurd hc (hz.mpr (by omega)))
theorem z_if_le (Z : CallFix p m c cc nL s args z_G own) {res : Int × zMem} {x : Int} {X Y : zO} {off : Int} {tgt : Nat} (hdg : decode cc pc = .ok (.ifCond .le off, 3)) (ht : (pc : Int) + off = (tgt : Int)) (h : z_lt 0 x X Y = some res) (kt : Y = some res → z_W p l e R s m args below meth c D A Q nL cells slots ws tgt lv rest) (kf : X = some res → z_W p l e R s m args below meth c D A Q nL cells slots ws (pc + 3) lv rest) : z_W p l e R s m args below meth c D A Q nL cells slots ws pc lv (.int (z_I x) :: rest) := fun H locs ls hP hD hS hl => by
  obtain ⟨h1, h2, h3⟩ := z_ltd h
  have hJ : z_I x ≤ z_I 0 ↔ x ≤ 0 := z_le_iff h2 h1
  refine lv_if_le Z.1 Z.2.1 hdg ht (fun hc => ?_) (fun hc => ?_)
  · rcases h3 with ⟨ha, hb⟩ | ⟨ha, hb⟩
    · exact (by have hz := hJ; first | exact absurd (hz.mp hc) (by omega) | exact absurd (hz.mpr (by omega)) hc | exact absurd hc (hz.mpr (by omega)))
    · exact kt hb H locs ls hP hD hS hl
  · rcases h3 with ⟨ha, hb⟩ | ⟨ha, hb⟩
    · exact kf hb H locs ls hP hD hS hl
    · exact (by have hz := hJ; first | exact absurd (hz.mp hc) (by omega) | exact absurd (hz.mpr (by omega)) hc | exact absurd hc (hz.mpr (by omega)))
theorem z_goto (Z : CallFix p m c cc nL s args z_G own) {off : Int} {tgt : Nat} (hdg : decode cc pc = .ok (.goto off, 3)) (ht : (pc : Int) + off = (tgt : Int)) (kk : z_W p l e R s m args below meth c D A Q nL cells slots ws tgt lv rest) : z_W p l e R s m args below meth c D A Q nL cells slots ws pc lv rest := fun H locs ls hP hD hS hl => lv_goto Z.1 Z.2.1 hdg ht (kk H locs ls hP hD hS hl)
theorem z_tableIn (Z : CallFix p m c cc nL s args z_G own) {dflt lo hi : Int} {offs : Array Int} {len : Nat} {x off : Int} {tgt : Nat} (hdg : decode cc pc = .ok (.tableswitch dflt lo hi offs, len)) (hx : z_Rg x) (h1 : ¬ x < lo) (h2 : ¬ hi < x) (ho : offs[(x - lo).toNat]? = some off) (ht : (pc : Int) + off = (tgt : Int)) (kk : z_W p l e R s m args below meth c D A Q nL cells slots ws tgt lv rest) : z_W p l e R s m args below meth c D A Q nL cells slots ws pc lv (.int (z_I x) :: rest) := fun H locs ls hP hD hS hl => lv_tableIn Z.1 Z.2.1 hdg (by rw [z_I_in hx]; exact h1) (by rw [z_I_in hx]; exact h2) (by rw [z_I_in hx]; exact ho) ht (kk H locs ls hP hD hS hl)
theorem z_tableOut (Z : CallFix p m c cc nL s args z_G own) {dflt lo hi : Int} {offs : Array Int} {len : Nat} {x : Int} {tgt : Nat} (hdg : decode cc pc = .ok (.tableswitch dflt lo hi offs, len)) (hx : z_Rg x) (h : x < lo ∨ hi < x) (ht : (pc : Int) + dflt = (tgt : Int)) (kk : z_W p l e R s m args below meth c D A Q nL cells slots ws tgt lv rest) : z_W p l e R s m args below meth c D A Q nL cells slots ws pc lv (.int (z_I x) :: rest) := fun H locs ls hP hD hS hl => lv_tableOut Z.1 Z.2.1 hdg (by rw [z_I_in hx]; exact h) ht (kk H locs ls hP hD hS hl)
theorem z_lookup (Z : CallFix p m c cc nL s args z_G own) {dflt : Int} {ps : Array (Int × Int)} {len : Nat} {x off : Int} {tgt : Nat} (hdg : decode cc pc = .ok (.lookupswitch dflt ps, len)) (hx : z_Rg x) (hp : (ps.toList.zip (ps.toList.drop 1)).all (fun (a, next) => a.1 < next.1) = true) (ho : Op.lookupswitch.offset ps.toList dflt x = off) (ht : (pc : Int) + off = (tgt : Int)) (kk : z_W p l e R s m args below meth c D A Q nL cells slots ws tgt lv rest) : z_W p l e R s m args below meth c D A Q nL cells slots ws pc lv (.int (z_I x) :: rest) := fun H locs ls hP hD hS hl => lv_lookup Z.1 Z.2.1 hdg hp (by rw [z_I_in hx]; exact ho) ht (kk H locs ls hP hD hS hl)
theorem z_sub {lv' : List (Nat × Value)} {st : List Value} (ks : List Nat) (hk : lv_pick lv ks = lv') (kk : z_W p l e R s m args below meth c D A Q nL cells slots ws pc lv' st) : z_W p l e R s m args below meth c D A Q nL cells slots ws pc lv st := fun H locs ls hP hD hS hl => kk H locs ls hP hD hS (lv_sub hl ks hk)
end ZR
