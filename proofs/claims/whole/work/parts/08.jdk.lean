/-! the JDK's own small methods: Math.min, max, floorMod; String.length, charAt -/
section ZJ
variable {p : Program} {l : Launch} {e : Env} {R : Room} {s : State} {m : MethodId} {args : Array Value} {below : List Frame} {meth : Method} {c : Code} {Q : State → Prop} {cells slots : Nat} {D : va_G} {A : Nat → Prop} {nL : Nat} {ws : va_W} {cc : ByteArray} {pc : Nat} {lv : List (Nat × Value)} {rest : List Value} {own : String} {lev : Nat} {cI cZ : ClassId} {adK adV : Nat → Nat} {Wd : zMem → va_W} {M : zMem}
theorem z_tret {r : Int} {ty : FieldType} (X : z_X p m c cc nL s args own R lev D cI cZ A adK adV) (hr : meth.sig.returnType = some ty) (hlk : meth.locks = false) (hn : narrow ty (.int (z_I r)) = .int (z_I r)) (hdg : decode cc pc = .ok (.ireturn, 1)) : z_W p l e R s m args below meth c D A (MQ below (z_Q Wd D cI cZ M A (some (.int (z_I r)))) args s 0 0 A) nL 0 0 (Wd M) pc lv [.int (z_I r)] := fun H locs ls hP hD hS hl =>
  W.zret (ty := ty) X.1.1 X.1.2.1 hr hn (fun t ht hW => ⟨rfl, by rw [ht]; exact hP, va_K.moved hW.alike X.2.1, hD, hS.F ht⟩) hS.2.2 hdg hlk
theorem z_gets (X : z_X p m c cc nL s args own R lev D cI cZ A adK adV) {C n d : String} {v : Value} {index : Nat} (hZ : va_Z C n d v A s s.heap) (hlink : Cond.fieldLink own index C n d ∈ z_G) (hdg : decode cc pc = .ok (.getstatic index, 3)) (kk : z_W p l e R s m args below meth c D A Q nL cells slots ws (pc + 3) lv (v :: rest)) : z_W p l e R s m args below meth c D A Q nL cells slots ws pc lv rest := fun H locs ls hP hD hS hl =>
  va_gets X.1.1 X.1.2.1 hZ hS X.1.2.2.2.1 (X.1.2.2.2.2 _ hlink) (fun _ h => h) hdg (kk H locs ls hP hD hS hl)
theorem z_getS (X : z_X p m c cc nL s args own R lev D cI cZ A adK adV) {o n d : String} {v : Value} {index q : Nat} (hE : va_OF o n d v q A s s.heap) (hlink : Cond.fieldLink own index o n d ∈ z_G) (hdg : decode cc pc = .ok (.getfield index, 3)) (kk : z_W p l e R s m args below meth c D A Q nL cells slots ws (pc + 3) lv (v :: rest)) : z_W p l e R s m args below meth c D A Q nL cells slots ws pc lv (.ref q :: rest) := fun H locs ls hP hD hS hl =>
  vk_getf X.1.1 X.1.2.1 hE hS X.1.2.2.2.1 (X.1.2.2.2.2 _ hlink) (fun _ h => h) hdg (kk H locs ls hP hD hS hl)
theorem z_tlen (X : z_X p m c cc nL s args own R lev D cI cZ A adK adV) {t N : Nat} {f : Nat → Value} (hT : va_T .byte t N f A s s.heap) {x : Int} (hx : Int32.ofNat N = z_I x) (hdg : decode cc pc = .ok (.arraylength, 1)) (kk : z_W p l e R s m args below meth c D A Q nL cells slots ws (pc + 1) lv (.int (z_I x) :: rest)) : z_W p l e R s m args below meth c D A Q nL cells slots ws pc lv (.ref t :: rest) := fun H locs ls hP hD hS hl =>
  va_tlen X.1.1 X.1.2.1 hT hS hx hdg (kk H locs ls hP hD hS hl)
theorem z_tb (X : z_X p m c cc nL s args own R lev D cI cZ A adK adV) {t N : Nat} {f : Nat → Value} (hT : va_T .byte t N f A s s.heap) {j x : Int} (hj : 0 ≤ j ∧ j < (N : Int)) (hN : N < 2147483648) (hx : f j.toNat = .int (z_I x)) (hdg : decode cc pc = .ok (.baload, 1)) (kk : z_W p l e R s m args below meth c D A Q nL cells slots ws (pc + 1) lv (.int (z_I x) :: rest)) : z_W p l e R s m args below meth c D A Q nL cells slots ws pc lv (.int (z_I j) :: .ref t :: rest) := fun H locs ls hP hD hS hl =>
  va_tb X.1.1 X.1.2.1 hT hS (z_vin hj hN) (v := .int (z_I x)) (by rw [z_nat (by omega)]; exact hx) hdg (kk H locs ls hP hD hS hl)
theorem z_i2c (X : z_X p m c cc nL s args own R lev D cI cZ A adK adV) {x y : Int} (hv : ((z_I x).toUInt32 % 65536).toInt32 = z_I y) (hdg : decode cc pc = .ok (.i2c, 1)) (kk : z_W p l e R s m args below meth c D A Q nL cells slots ws (pc + 1) lv (.int (z_I y) :: rest)) : z_W p l e R s m args below meth c D A Q nL cells slots ws pc lv (.int (z_I x) :: rest) := fun H locs ls hP hD hS hl =>
  lv_i2c X.1.1 X.1.2.1 hdg hv (kk H locs ls hP hD hS hl)
theorem z_entryF {y : MethodName} {maxL : Nat} {ret : Option FieldType} {M' : zMem} {rv : Option Value} {As : List Value} (ho : y.cls = own) (hy : plainFor y = true) (hn : (lg_sl As).length ≤ maxL)
    (body : ∀ (p : Program) (e : Env) (s : State) (m : MethodId) (args : Array Value) (below : List Frame) (meth : Method) (c : Code) (R : Room) (A : Nat → Prop), z_X p m c cc maxL s args own R lev D cI cZ A adK adV → meth.sig.returnType = ret → meth.locks = false →
      z_W p l e R s m args below meth c D A (MQ below (z_Q Wd D cI cZ M' A rv) args s 0 0 A) maxL 0 0 (Wd M) 0 (lv_args 0 As) []) : z_Ct Wd D cI cZ adK adV l y cc maxL ret lev As M M' rv := by
  intro sz
  refine MetFree.of_bodySF (code := cc) (maxLocals := maxL) (ret := ret) hy ?_ ?_
  · intro args s m h hn
    obtain ⟨meth, c, h1, h2, h3, h4, h5, h6, -, -⟩ := Cond.code_spec hn (atoms_spec (ws := .code y cc maxL ret :: z_G) h _ List.mem_cons_self)
    exact ⟨meth, c, h1, h2, h3, h4, h5, h6⟩
  · intro p e s m args below meth c s₁ B hml hv _
    have hh0 : s₁.heap = s.heap := by rw [B.state]; rfl
    obtain ⟨rfl, hsz, hP, hK, hD0, hE⟩ := hv
    have hts := atoms_spec (ws := .code y cc maxL ret :: z_G) B.pre
    have hown : s.vm.findClass own = some m.cls := by rw [← ho]; exact findClass_of_methodNamed B.named
    subst hsz
    have hD := hD0.self (sz := s.heap.size)
    have hl := lv_entry As (n := maxL) hn
    have K := body p e s m As.toArray below meth c (headSpec (.code y cc maxL ret :: z_G) { frames := lev, cells := 0, slots := 0, locals := 64 * lev }).room _ ⟨⟨B.exec, B.bytes, hml, hown, fun w hw => hts w (List.mem_cons_of_mem _ hw)⟩, hK, fun q h => Or.inr h, hE, Nat.le_refl _, Nat.le_refl _⟩ B.returns B.notSynchronized _ _ _ hP hD va_S.rf hl
    rw [← lg_entry_eq] at K
    obtain ⟨t, a1, o, b1, b2, b3⟩ := K s₁ hh0 (Stand.of_body B)
    exact ⟨t, o, a1, b1, b2, ⟨b3.1, b3.2⟩⟩
/-! Math -/
set_option maxRecDepth 100000 in
theorem c_J9_min {x y : Int} (hx : z_Rg x) (hy : z_Rg y) : z_Ct Wd D cI cZ adK adV l yJ9_min_7cf53 cJ9_min_7cf53 2 (some .int) 1 [.int (z_I x), .int (z_I y)] M M (some (.int (z_I (min x y)))) := by
  refine z_entryF (own := RJ9) rfl (by decide +kernel) (Nat.le_of_ble_eq_true rfl) ?_
  intro p e s m args below meth c R A X hr hlk
  have Z := X.1
  refine z_sub (lv' := [(0, .int (z_I x)), (1, .int (z_I y))]) [0, 1] rfl ?_
  refine z_iload_n Z dJ9_min_7cf53_0 rfl 0 rfl ?_
  refine z_iload_n Z dJ9_min_7cf53_1 rfl 1 rfl ?_
  by_cases hc : x ≤ y
  · refine z_icmp_gt (tgt := 9) (X := some (0, M)) (Y := none) (res := (0, M)) Z dJ9_min_7cf53_2 (by decide) (by simp [z_le, hx, hy, hc]) (fun h => by cases h) (fun h => ?_)
    refine z_iload_n Z dJ9_min_7cf53_5 rfl 0 rfl ?_
    refine z_goto (tgt := 10) Z dJ9_min_7cf53_6 (by decide) ?_
    rw [show min x y = x by omega]
    exact z_iret X hr hlk dJ9_min_7cf53_10 rfl
  · refine z_icmp_gt (tgt := 9) (X := none) (Y := some (0, M)) (res := (0, M)) Z dJ9_min_7cf53_2 (by decide) (by simp [z_le, hx, hy, hc]) (fun h => ?_) (fun h => by cases h)
    refine z_iload_n Z dJ9_min_7cf53_9 rfl 1 rfl ?_
    rw [show min x y = y by omega]
    exact z_iret X hr hlk dJ9_min_7cf53_10 rfl
set_option maxRecDepth 100000 in
theorem c_J9_max {x y : Int} (hx : z_Rg x) (hy : z_Rg y) : z_Ct Wd D cI cZ adK adV l yJ9_max_7cf53 cJ9_max_7cf53 2 (some .int) 1 [.int (z_I x), .int (z_I y)] M M (some (.int (z_I (max x y)))) := by
  refine z_entryF (own := RJ9) rfl (by decide +kernel) (Nat.le_of_ble_eq_true rfl) ?_
  intro p e s m args below meth c R A X hr hlk
  have Z := X.1
  refine z_sub (lv' := [(0, .int (z_I x)), (1, .int (z_I y))]) [0, 1] rfl ?_
  refine z_iload_n Z dJ9_max_7cf53_0 rfl 0 rfl ?_
  refine z_iload_n Z dJ9_max_7cf53_1 rfl 1 rfl ?_
  by_cases hc : y ≤ x
  · refine z_icmp_lt (tgt := 9) (X := some (0, M)) (Y := none) (res := (0, M)) Z dJ9_max_7cf53_2 (by decide) (by simp [z_le, hx, hy, hc]) (fun h => by cases h) (fun h => ?_)
    refine z_iload_n Z dJ9_max_7cf53_5 rfl 0 rfl ?_
    refine z_goto (tgt := 10) Z dJ9_max_7cf53_6 (by decide) ?_
    rw [show max x y = x by omega]
    exact z_iret X hr hlk dJ9_max_7cf53_10 rfl
  · refine z_icmp_lt (tgt := 9) (X := none) (Y := some (0, M)) (res := (0, M)) Z dJ9_max_7cf53_2 (by decide) (by simp [z_le, hx, hy, hc]) (fun h => ?_) (fun h => by cases h)
    refine z_iload_n Z dJ9_max_7cf53_9 rfl 1 rfl ?_
    rw [show max x y = y by omega]
    exact z_iret X hr hlk dJ9_max_7cf53_10 rfl
theorem z_xor_neg {x y : Int} (hx : z_Rg x) (hy : 0 < y ∧ y ≤ 2147483647) : z_xor x y < 0 ↔ x < 0 := by
  have hyr : z_Rg y := by omega
  have e1 : (z_I x).toBitVec.msb = decide (x < 0) := by rw [BitVec.msb_eq_toInt]; show decide ((z_I x).toInt < 0) = _; rw [z_I_in hx]
  have e2 : (z_I y).toBitVec.msb = decide (y < 0) := by rw [BitVec.msb_eq_toInt]; show decide ((z_I y).toInt < 0) = _; rw [z_I_in hyr]
  have e3 : (z_I x ^^^ z_I y).toBitVec.msb = decide (z_xor x y < 0) := by rw [BitVec.msb_eq_toInt]; rfl
  have e4 : (z_I x ^^^ z_I y).toBitVec.msb = ((z_I x).toBitVec.msb ^^ (z_I y).toBitVec.msb) := by rw [Int32.toBitVec_xor, BitVec.msb_xor]
  rw [e3, e1, e2] at e4
  have hy0 : ¬ y < 0 := by omega
  by_cases h : x < 0
  · simp [h, hy0] at e4; simp [h, e4]
  · simp [h, hy0] at e4; constructor <;> intro h9 <;> omega
theorem z_tmod_fm {x y : Int} (hy : 0 < y) (hx : x < 0) : (Int.tmod x y = 0 → x % y = 0) ∧ (Int.tmod x y ≠ 0 → Int.tmod x y + y = x % y) := by
  have h1 : Int.tmod x y = -((-x) % y) := by
    have : Int.tmod x y = -(Int.tmod (-x) y) := by rw [Int.neg_tmod]; omega
    rw [this, Int.tmod_eq_emod_of_nonneg (by omega)]
  rw [h1]
  have h2 := Int.emod_nonneg (-x) (show y ≠ 0 by omega)
  have h3 := Int.emod_lt_of_pos (-x) hy
  have h4 := Int.ediv_mul_add_emod (-x) y
  constructor
  · intro h
    have h5 : (-x) % y = 0 := by omega
    have h6 : y ∣ x := by
      have := Int.dvd_of_emod_eq_zero h5
      exact (Int.dvd_neg).mp this
    exact Int.emod_eq_zero_of_dvd h6
  · intro h
    have h5 : x = (y - (-x) % y) + y * (-((-x) / y) - 1) := by
      rw [Int.mul_sub, Int.mul_neg, Int.mul_comm y ((-x) / y)]
      omega
    have h6 : x % y = (y - (-x) % y) % y := by
      conv => lhs; rw [h5]
      rw [Int.add_mul_emod_self_left]
    have h7 : (y - (-x) % y) % y = y - (-x) % y := Int.emod_eq_of_lt (by omega) (by omega)
    rw [h6, h7]
    omega
set_option maxRecDepth 100000 in
theorem c_J9_floorMod {x y : Int} (hx : z_Rg x) (hy : 0 < y ∧ y ≤ 2147483647) : z_Ct Wd D cI cZ adK adV l yJ9_floorMod_7cf53 cJ9_floorMod_7cf53 3 (some .int) 1 [.int (z_I x), .int (z_I y)] M M (some (.int (z_I (x % y)))) := by
  have hyr : z_Rg y := by omega
  have hxr : z_Rg (z_xor x y) := z_I_rg _
  have htr : z_Rg (Int.tmod x y) := by
    by_cases h : x < 0
    · have h1 : Int.tmod x y = -((-x) % y) := by
        have : Int.tmod x y = -(Int.tmod (-x) y) := by rw [Int.neg_tmod]; omega
        rw [this, Int.tmod_eq_emod_of_nonneg (by omega)]
      have h2 := Int.emod_nonneg (-x) (show y ≠ 0 by omega)
      have h3 := Int.emod_lt_of_pos (-x) hy.1
      omega
    · rw [Int.tmod_eq_emod_of_nonneg (by omega)]
      have h2 := Int.emod_nonneg x (show y ≠ 0 by omega)
      have h3 := Int.emod_lt_of_pos x hy.1
      omega
  refine z_entryF (own := RJ9) rfl (by decide +kernel) (Nat.le_of_ble_eq_true rfl) ?_
  intro p e s m args below meth c R A X hr hlk
  have Z := X.1
  refine z_sub (lv' := [(0, .int (z_I x)), (1, .int (z_I y))]) [0, 1] rfl ?_
  refine z_iload_n Z dJ9_floorMod_7cf53_0 rfl 0 rfl ?_
  refine z_iload_n Z dJ9_floorMod_7cf53_1 rfl 1 rfl ?_
  refine z_iremt (res := (Int.tmod x y, M)) (K := fun z => some (z, M)) Z dJ9_floorMod_7cf53_2 (by simp only [z_mt]; rw [if_pos ⟨hx, hy⟩]) (fun q hq => ?_)
  have hq : q = Int.tmod x y := by cases hq; rfl
  subst hq
  refine z_istore_n (lv' := [(2, .int (z_I (Int.tmod x y))), (0, .int (z_I x)), (1, .int (z_I y))]) Z dJ9_floorMod_7cf53_3 rfl (by decide) rfl ?_
  refine z_iload_n Z dJ9_floorMod_7cf53_4 rfl 1 rfl ?_
  refine z_iload_n Z dJ9_floorMod_7cf53_5 rfl 2 rfl ?_
  refine z_ixor Z dJ9_floorMod_7cf53_6 ?_
  by_cases h : x < 0
  · have hz : z_xor x y < 0 := (z_xor_neg hx hy).mpr h
    refine z_if_ge (tgt := 18) (X := some (0, M)) (Y := none) (res := (0, M)) Z dJ9_floorMod_7cf53_7 (by decide) (by simp only [z_lt]; rw [if_pos ⟨hxr, by decide⟩, if_pos hz]) (fun h => by cases h) (fun h => ?_)
    refine z_iload_n Z dJ9_floorMod_7cf53_10 rfl 0 rfl ?_
    by_cases h0 : Int.tmod x y = 0
    · refine z_if_eq (tgt := 18) (X := some (0, M)) (Y := none) (res := (0, M)) Z dJ9_floorMod_7cf53_11 (by decide) (by simp only [z_eq]; rw [if_pos ⟨htr, by decide⟩, if_pos h0]) (fun h => ?_) (fun h => by cases h)
      refine z_iload_n Z dJ9_floorMod_7cf53_18 rfl 0 rfl ?_
      rw [(z_tmod_fm hy.1 ‹x < 0›).1 h0, h0]
      exact z_iret X hr hlk dJ9_floorMod_7cf53_19 rfl
    · refine z_if_eq (tgt := 18) (X := none) (Y := some (0, M)) (res := (0, M)) Z dJ9_floorMod_7cf53_11 (by decide) (by simp only [z_eq]; rw [if_pos ⟨htr, by decide⟩, if_neg h0]) (fun h => by cases h) (fun h => ?_)
      refine z_iload_n Z dJ9_floorMod_7cf53_14 rfl 0 rfl ?_
      refine z_iload_n Z dJ9_floorMod_7cf53_15 rfl 2 rfl ?_
      refine z_iadd Z dJ9_floorMod_7cf53_16 ?_
      rw [(z_tmod_fm hy.1 ‹x < 0›).2 h0]
      exact z_iret X hr hlk dJ9_floorMod_7cf53_17 rfl
  · have hz : ¬ z_xor x y < 0 := fun q => h ((z_xor_neg hx hy).mp q)
    refine z_if_ge (tgt := 18) (X := none) (Y := some (0, M)) (res := (0, M)) Z dJ9_floorMod_7cf53_7 (by decide) (by simp only [z_lt]; rw [if_pos ⟨hxr, by decide⟩, if_neg hz]) (fun h => ?_) (fun h => by cases h)
    refine z_iload_n Z dJ9_floorMod_7cf53_18 rfl 0 rfl ?_
    rw [Int.tmod_eq_emod_of_nonneg (by omega)]
    exact z_iret X hr hlk dJ9_floorMod_7cf53_19 rfl
theorem z_mnr {res : Int × zMem} {x y : Int} {K : Int → zO} {index : Nat} (X : z_X p m c cc nL s args own R lev D cI cZ A adK adV) (hl1 : Cond.methodLink own index yJ9_min_7cf53 ∈ z_G) (hlev : 2 ≤ lev) (hrest : (rest.map fun v => v.category).sum ≤ 8) (hf : cells + 0 ≤ R.cells ∧ slots + 0 ≤ R.slots) (hdg : decode cc pc = .ok (.invokestatic index, 3)) (h : z_mn x y K = some res) (kk : ∀ r : Int, K r = some res → z_W p l e R s m args below meth c D A Q nL cells slots ws (pc + 3) lv (.int (z_I r) :: rest)) : z_W p l e R s m args below meth c D A Q nL cells slots ws pc lv (.int (z_I y) :: .int (z_I x) :: rest) := by
  unfold z_mn at h
  split at h
  · rename_i hc
    exact z_callSi (Wd := fun _ => ws) (M := fun _ _ => 0) X (c_J9_min hc.1 hc.2) hl1 yd_J9_min_7cf53 yw_J9_min_7cf53 hlev (by decide) rfl rfl hrest hf hdg (kk _ h)
  · cases h
theorem z_mxr {res : Int × zMem} {x y : Int} {K : Int → zO} {index : Nat} (X : z_X p m c cc nL s args own R lev D cI cZ A adK adV) (hl1 : Cond.methodLink own index yJ9_max_7cf53 ∈ z_G) (hlev : 2 ≤ lev) (hrest : (rest.map fun v => v.category).sum ≤ 8) (hf : cells + 0 ≤ R.cells ∧ slots + 0 ≤ R.slots) (hdg : decode cc pc = .ok (.invokestatic index, 3)) (h : z_mx x y K = some res) (kk : ∀ r : Int, K r = some res → z_W p l e R s m args below meth c D A Q nL cells slots ws (pc + 3) lv (.int (z_I r) :: rest)) : z_W p l e R s m args below meth c D A Q nL cells slots ws pc lv (.int (z_I y) :: .int (z_I x) :: rest) := by
  unfold z_mx at h
  split at h
  · rename_i hc
    exact z_callSi (Wd := fun _ => ws) (M := fun _ _ => 0) X (c_J9_max hc.1 hc.2) hl1 yd_J9_max_7cf53 yw_J9_max_7cf53 hlev (by decide) rfl rfl hrest hf hdg (kk _ h)
  · cases h
theorem z_fmr {res : Int × zMem} {x y : Int} {K : Int → zO} {index : Nat} (X : z_X p m c cc nL s args own R lev D cI cZ A adK adV) (hl1 : Cond.methodLink own index yJ9_floorMod_7cf53 ∈ z_G) (hlev : 2 ≤ lev) (hrest : (rest.map fun v => v.category).sum ≤ 8) (hf : cells + 0 ≤ R.cells ∧ slots + 0 ≤ R.slots) (hdg : decode cc pc = .ok (.invokestatic index, 3)) (h : z_fm x y K = some res) (kk : ∀ r : Int, K r = some res → z_W p l e R s m args below meth c D A Q nL cells slots ws (pc + 3) lv (.int (z_I r) :: rest)) : z_W p l e R s m args below meth c D A Q nL cells slots ws pc lv (.int (z_I y) :: .int (z_I x) :: rest) := by
  unfold z_fm at h
  split at h
  · rename_i hc
    exact z_callSi (Wd := fun _ => ws) (M := fun _ _ => 0) X (c_J9_floorMod hc.1 hc.2) hl1 yd_J9_floorMod_7cf53 yw_J9_floorMod_7cf53 hlev (by decide) rfl rfl hrest hf hdg (kk _ h)
  · cases h
/-! String -/
theorem z_recvS (X : z_X p m c cc nL s args own R lev D cI cZ A adK adV) {i : Nat} (hi : i < 27) : ∀ (H : Heap) (locs : List Loc), va_P D vwCl (Wd M) H → va_S A s.heap H locs → ∃ cell : Cell, H[adK i]? = some cell ∧ cell.vm.isStatics = false ∧ s.vm.findClass RJ0 = some cell.cls := fun H locs hP hS => by
  obtain ⟨cell, h1, h2, h3, -⟩ := (X.2.2.2.1.1 i hi).1.kept hS.2.1
  exact ⟨cell, h1, h2, h3⟩
set_option maxRecDepth 100000 in
theorem c_J0_coder {i : Nat} (hi : i < 27) : z_Ct Wd D cI cZ adK adV l yJ0_coder_7d493 cJ0_coder_7d493 1 (some .byte) 1 [.ref (adK i)] M M (some (.int (z_I 0))) := by
  refine z_entry (own := RJ0) rfl (by decide) (Nat.le_of_ble_eq_true rfl) ?_
  intro p e s m args below meth c R A X hr hlk
  have Z := X.1
  refine z_sub (lv' := [(0, .ref (adK i))]) [0] rfl ?_
  refine z_gets (v := .int (z_I 1)) X X.2.2.2.1.2.2.1 fl_J0_38 dJ0_coder_7d493_0 ?_
  refine z_if_eq (tgt := 13) (X := none) (Y := some (0, M)) (res := (0, M)) Z dJ0_coder_7d493_3 (by decide) rfl (fun h => by cases h) (fun h => ?_)
  refine z_aload_n Z dJ0_coder_7d493_6 rfl 0 rfl ?_
  refine z_getS (v := .int (z_I 0)) X (X.2.2.2.1.1 i hi).2.1 fl_J0_15 dJ0_coder_7d493_7 ?_
  refine z_goto (tgt := 14) Z dJ0_coder_7d493_10 (by decide) ?_
  exact z_tret (ty := .byte) X hr hlk (by decide) dJ0_coder_7d493_14
set_option maxRecDepth 100000 in
theorem c_J0_isLatin1 {i : Nat} (hi : i < 27) : z_Ct Wd D cI cZ adK adV l yJ0_isLatin1_aae02 cJ0_isLatin1_aae02 1 (some .boolean) 1 [.ref (adK i)] M M (some (.int (z_I 1))) := by
  refine z_entry (own := RJ0) rfl (by decide) (Nat.le_of_ble_eq_true rfl) ?_
  intro p e s m args below meth c R A X hr hlk
  have Z := X.1
  refine z_sub (lv' := [(0, .ref (adK i))]) [0] rfl ?_
  refine z_gets (v := .int (z_I 1)) X X.2.2.2.1.2.2.1 fl_J0_38 dJ0_isLatin1_aae02_0 ?_
  refine z_if_eq (tgt := 17) (X := none) (Y := some (0, M)) (res := (0, M)) Z dJ0_isLatin1_aae02_3 (by decide) rfl (fun h => by cases h) (fun h => ?_)
  refine z_aload_n Z dJ0_isLatin1_aae02_6 rfl 0 rfl ?_
  refine z_getS (v := .int (z_I 0)) X (X.2.2.2.1.1 i hi).2.1 fl_J0_15 dJ0_isLatin1_aae02_7 ?_
  refine z_if_ne (tgt := 17) (X := some (0, M)) (Y := none) (res := (0, M)) Z dJ0_isLatin1_aae02_10 (by decide) rfl (fun h => by cases h) (fun h => ?_)
  refine z_iconst Z dJ0_isLatin1_aae02_13 ?_
  refine z_goto (tgt := 18) Z dJ0_isLatin1_aae02_14 (by decide) ?_
  exact z_tret (ty := .boolean) X hr hlk (by decide) dJ0_isLatin1_aae02_18
theorem z_sCh_len : ∀ i : Nat, i < 27 → (z_sCh.getD i []).length < 1000 := by decide +kernel
theorem z_sCh_ok : ∀ l ∈ z_sCh, ∀ ch ∈ l, ((z_I (z_and ch 255)).toUInt32 % 65536).toInt32 = z_I ch ∧ narrow .char (.int (z_I ch)) = .int (z_I ch) := by decide +kernel
theorem z_sCh_at {i : Nat} {j : Int} (hi : i < 27) (hj : 0 ≤ j ∧ j < z_slen i) : ((z_I (z_and (z_schr i j) 255)).toUInt32 % 65536).toInt32 = z_I (z_schr i j) ∧ narrow .char (.int (z_I (z_schr i j))) = .int (z_I (z_schr i j)) := by
  have hl : z_sCh.length = 27 := rfl
  have hm : z_sCh.getD i [] ∈ z_sCh := by
    rw [List.getD_eq_getElem?_getD, List.getElem?_eq_getElem (by omega)]
    exact List.getElem_mem _
  refine z_sCh_ok _ hm _ ?_
  unfold z_slen at hj
  unfold z_schr
  generalize z_sCh.getD i [] = l0 at hj
  rw [List.getD_eq_getElem?_getD, List.getElem?_eq_getElem (by omega)]
  exact List.getElem_mem _
set_option maxRecDepth 100000 in
theorem c_J0_length {i : Nat} (hi : i < 27) : z_Ct Wd D cI cZ adK adV l yJ0_length_8abf5 cJ0_length_8abf5 1 (some .int) 2 [.ref (adK i)] M M (some (.int (z_I (z_slen i)))) := by
  refine z_entry (own := RJ0) rfl (by decide) (Nat.le_of_ble_eq_true rfl) ?_
  intro p e s m args below meth c R A X hr hlk
  have Z := X.1
  refine z_sub (lv' := [(0, .ref (adK i))]) [0] rfl ?_
  refine z_aload_n Z dJ0_length_8abf5_0 rfl 0 rfl ?_
  refine z_getS X (X.2.2.2.1.1 i hi).2.2.1 fl_J0_9 dJ0_length_8abf5_1 ?_
  refine z_tlen (x := z_slen i) X (X.2.2.2.1.1 i hi).2.2.2 (by unfold z_slen z_I; rw [Int32.ofInt_eq_ofNat]) dJ0_length_8abf5_4 ?_
  refine z_aload_n Z dJ0_length_8abf5_5 rfl 0 rfl ?_
  refine z_callVi (C := RJ0) X (c_J0_coder hi) ml_J0_335 yd_J0_coder_7d493 yw_J0_coder_7d493 (by omega) (by decide) (z_recvS X hi) rfl rfl (Nat.le_of_ble_eq_true rfl) ⟨Nat.zero_le _, Nat.zero_le _⟩ dJ0_length_8abf5_6 ?_
  refine z_ishr Z dJ0_length_8abf5_9 ?_
  have e : z_shr (z_slen i) 0 = z_slen i := by
    have h1 : z_I 0 &&& 31 = 0 := by decide
    have h2 := z_sCh_len i hi
    unfold z_shr
    rw [h1, Int32.shiftRight_zero, z_I_in (by unfold z_slen; omega)]
  rw [e]
  exact z_iret X hr hlk dJ0_length_8abf5_10 rfl
set_option maxRecDepth 100000 in
theorem c_J3_checkIndex {x y : Int} {v : Value} (hv : v = .null ∨ ∃ t, v = .ref t) (h0 : 0 ≤ x ∧ x < y ∧ y ≤ 2147483647) : z_Ct Wd D cI cZ adK adV l yJ3_checkIndex_8e157 cJ3_checkIndex_8e157 3 (some .int) 1 [.int (z_I x), .int (z_I y), v] M M (some (.int (z_I x))) := by
  have hx : z_Rg x := by omega
  have hy : z_Rg y := by omega
  rcases hv with rfl | ⟨t, rfl⟩
  all_goals
    refine z_entry (own := RJ3) rfl (by decide) (Nat.le_of_ble_eq_true rfl) ?_
    intro p e s m args below meth c R A X hr hlk
    have Z := X.1
    refine z_sub (lv' := [(0, .int (z_I x)), (1, .int (z_I y))]) [0, 1] rfl ?_
    refine z_iload_n Z dJ3_checkIndex_8e157_0 rfl 0 rfl ?_
    refine z_if_lt (tgt := 9) (X := some (0, M)) (Y := none) (res := (0, M)) Z dJ3_checkIndex_8e157_1 (by decide) (by simp only [z_le]; rw [if_pos ⟨by decide, hx⟩, if_pos h0.1]) (fun h => by cases h) (fun h => ?_)
    refine z_iload_n Z dJ3_checkIndex_8e157_4 rfl 0 rfl ?_
    refine z_iload_n Z dJ3_checkIndex_8e157_5 rfl 1 rfl ?_
    refine z_icmp_lt (tgt := 16) (X := none) (Y := some (0, M)) (res := (0, M)) Z dJ3_checkIndex_8e157_6 (by decide) (by simp only [z_le]; rw [if_pos ⟨hy, hx⟩, if_neg (by omega)]) (fun h => ?_) (fun h => by cases h)
    refine z_iload_n Z dJ3_checkIndex_8e157_16 rfl 0 rfl ?_
    exact z_iret X hr hlk dJ3_checkIndex_8e157_17 rfl
set_option maxRecDepth 100000 in
theorem c_J0_checkIndex {x y : Int} (h0 : 0 ≤ x ∧ x < y ∧ y ≤ 2147483647) : z_Ct Wd D cI cZ adK adV l yJ0_checkIndex_df160 cJ0_checkIndex_df160 2 none 2 [.int (z_I x), .int (z_I y)] M M none := by
  refine z_entry (own := RJ0) rfl (by decide) (Nat.le_of_ble_eq_true rfl) ?_
  intro p e s m args below meth c R A X hr hlk
  have Z := X.1
  refine z_sub (lv' := [(0, .int (z_I x)), (1, .int (z_I y))]) [0, 1] rfl ?_
  refine z_iload_n Z dJ0_checkIndex_df160_0 rfl 0 rfl ?_
  refine z_iload_n Z dJ0_checkIndex_df160_1 rfl 1 rfl ?_
  rcases X.2.2.2.1.2.2.2.1 with hz | ⟨t, hz⟩
  · refine z_gets X hz fl_J0_1053 dJ0_checkIndex_df160_2 ?_
    refine z_callSi X (c_J3_checkIndex (Or.inl rfl) h0) ml_J0_1059 yd_J3_checkIndex_8e157 yw_J3_checkIndex_8e157 (by omega) (by decide) rfl rfl (Nat.le_of_ble_eq_true rfl) ⟨Nat.zero_le _, Nat.zero_le _⟩ dJ0_checkIndex_df160_5 ?_
    refine z_pop Z dJ0_checkIndex_df160_8 rfl ?_
    exact z_vret (x := 0) (r := 0) X hr hlk dJ0_checkIndex_df160_9 rfl
  · refine z_gets X hz fl_J0_1053 dJ0_checkIndex_df160_2 ?_
    refine z_callSi X (c_J3_checkIndex (Or.inr ⟨t, rfl⟩) h0) ml_J0_1059 yd_J3_checkIndex_8e157 yw_J3_checkIndex_8e157 (by omega) (by decide) rfl rfl (Nat.le_of_ble_eq_true rfl) ⟨Nat.zero_le _, Nat.zero_le _⟩ dJ0_checkIndex_df160_5 ?_
    refine z_pop Z dJ0_checkIndex_df160_8 rfl ?_
    exact z_vret (x := 0) (r := 0) X hr hlk dJ0_checkIndex_df160_9 rfl
set_option maxRecDepth 100000 in
theorem c_J1_charAt {i : Nat} {j : Int} (hi : i < 27) (hj : 0 ≤ j ∧ j < z_slen i) : z_Ct Wd D cI cZ adK adV l yJ1_charAt_3b067 cJ1_charAt_3b067 2 (some .char) 3 [.ref (adV i), .int (z_I j)] M M (some (.int (z_I (z_schr i j)))) := by
  have hln := z_sCh_len i hi
  refine z_entry (own := RJ1) rfl (by decide) (Nat.le_of_ble_eq_true rfl) ?_
  intro p e s m args below meth c R A X hr hlk
  have Z := X.1
  refine z_sub (lv' := [(0, .ref (adV i)), (1, .int (z_I j))]) [0, 1] rfl ?_
  refine z_iload_n Z dJ1_charAt_3b067_0 rfl 1 rfl ?_
  refine z_aload_n Z dJ1_charAt_3b067_1 rfl 0 rfl ?_
  refine z_tlen (x := z_slen i) X (X.2.2.2.1.1 i hi).2.2.2 (by unfold z_slen z_I; rw [Int32.ofInt_eq_ofNat]) dJ1_charAt_3b067_2 ?_
  refine z_callSv X (c_J0_checkIndex ⟨hj.1, hj.2, by unfold z_slen; omega⟩) ml_J1_9 yd_J0_checkIndex_df160 yw_J0_checkIndex_df160 (by omega) (by decide) rfl rfl (Nat.le_of_ble_eq_true rfl) ⟨Nat.zero_le _, Nat.zero_le _⟩ dJ1_charAt_3b067_3 ?_
  refine z_aload_n Z dJ1_charAt_3b067_6 rfl 0 rfl ?_
  refine z_iload_n Z dJ1_charAt_3b067_7 rfl 1 rfl ?_
  refine z_tb (x := z_schr i j) X (X.2.2.2.1.1 i hi).2.2.2 hj (by omega) rfl dJ1_charAt_3b067_8 ?_
  refine z_sipush Z dJ1_charAt_3b067_9 rfl ?_
  refine z_iand Z dJ1_charAt_3b067_12 ?_
  refine z_i2c X (z_sCh_at hi hj).1 dJ1_charAt_3b067_13 ?_
  exact z_tret (ty := .char) X hr hlk (z_sCh_at hi hj).2 dJ1_charAt_3b067_14
set_option maxRecDepth 100000 in
theorem c_J0_charAt {i : Nat} {j : Int} (hi : i < 27) (hj : 0 ≤ j ∧ j < z_slen i) : z_Ct Wd D cI cZ adK adV l yJ0_charAt_5068e cJ0_charAt_5068e 2 (some .char) 4 [.ref (adK i), .int (z_I j)] M M (some (.int (z_I (z_schr i j)))) := by
  refine z_entry (own := RJ0) rfl (by decide) (Nat.le_of_ble_eq_true rfl) ?_
  intro p e s m args below meth c R A X hr hlk
  have Z := X.1
  refine z_sub (lv' := [(0, .ref (adK i)), (1, .int (z_I j))]) [0, 1] rfl ?_
  refine z_aload_n Z dJ0_charAt_5068e_0 rfl 0 rfl ?_
  refine z_callVi (C := RJ0) X (c_J0_isLatin1 hi) ml_J0_492 yd_J0_isLatin1_aae02 yw_J0_isLatin1_aae02 (by omega) (by decide) (z_recvS X hi) rfl rfl (Nat.le_of_ble_eq_true rfl) ⟨Nat.zero_le _, Nat.zero_le _⟩ dJ0_charAt_5068e_1 ?_
  refine z_if_eq (tgt := 16) (X := none) (Y := some (0, M)) (res := (0, M)) Z dJ0_charAt_5068e_4 (by decide) rfl (fun h => by cases h) (fun h => ?_)
  refine z_aload_n Z dJ0_charAt_5068e_7 rfl 0 rfl ?_
  refine z_getS X (X.2.2.2.1.1 i hi).2.2.1 fl_J0_9 dJ0_charAt_5068e_8 ?_
  refine z_iload_n Z dJ0_charAt_5068e_11 rfl 1 rfl ?_
  refine z_callSi X (c_J1_charAt hi hj) ml_J0_495 yd_J1_charAt_3b067 yw_J1_charAt_3b067 (by omega) (by decide) rfl rfl (Nat.le_of_ble_eq_true rfl) ⟨Nat.zero_le _, Nat.zero_le _⟩ dJ0_charAt_5068e_12 ?_
  exact z_tret (ty := .char) X hr hlk (z_sCh_at hi hj).2 dJ0_charAt_5068e_15
theorem z_strlen {i index : Nat} (X : z_X p m c cc nL s args own R lev D cI cZ A adK adV) (hi : i < 27) (hl1 : Cond.methodLink own index yJ0_length_8abf5 ∈ z_G) (hlev : 3 ≤ lev) (hrest : (rest.map fun v => v.category).sum ≤ 8) (hf : cells + 0 ≤ R.cells ∧ slots + 0 ≤ R.slots) (hdg : decode cc pc = .ok (.invokevirtual index, 3)) (kk : z_W p l e R s m args below meth c D A Q nL cells slots ws (pc + 3) lv (.int (z_I (z_slen i)) :: rest)) : z_W p l e R s m args below meth c D A Q nL cells slots ws pc lv (.ref (adK i) :: rest) :=
  z_callVi (C := RJ0) (Wd := fun _ => ws) (M := fun _ _ => 0) X (c_J0_length hi) hl1 yd_J0_length_8abf5 yw_J0_length_8abf5 hlev (by decide) (z_recvS (Wd := fun _ => ws) (M := fun _ _ => 0) X hi) rfl rfl hrest hf hdg kk
theorem z_strchr {i index : Nat} {j : Int} {res : Int × zMem} {K : Int → zO} (X : z_X p m c cc nL s args own R lev D cI cZ A adK adV) (hi : i < 27) (hl1 : Cond.methodLink own index yJ0_charAt_5068e ∈ z_G) (hlev : 5 ≤ lev) (hrest : (rest.map fun v => v.category).sum ≤ 8) (hf : cells + 0 ≤ R.cells ∧ slots + 0 ≤ R.slots) (hdg : decode cc pc = .ok (.invokevirtual index, 3)) (h : z_sc i j K = some res) (kk : ∀ r : Int, K r = some res → z_W p l e R s m args below meth c D A Q nL cells slots ws (pc + 3) lv (.int (z_I r) :: rest)) : z_W p l e R s m args below meth c D A Q nL cells slots ws pc lv (.int (z_I j) :: .ref (adK i) :: rest) := by
  unfold z_sc at h
  split at h
  · rename_i hc
    exact z_callVi (C := RJ0) (Wd := fun _ => ws) (M := fun _ _ => 0) X (c_J0_charAt hi hc) hl1 yd_J0_charAt_5068e yw_J0_charAt_5068e hlev (by decide) (z_recvS (Wd := fun _ => ws) (M := fun _ _ => 0) X hi) rfl rfl hrest hf hdg (kk _ h)
  · cases h
end ZJ
