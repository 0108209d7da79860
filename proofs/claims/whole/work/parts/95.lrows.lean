/-! THE CLAIM OUT OF ONE WALK OF THE LAW'S BODY. Your part is whole_start (and what it stands on); all else here is the same for every law, but numbers. -/
def R_law : String := "DrumPlacerLaw"
def lw_P (b : Addr) (xs : List Int32) (args : Array Value) (s : State) : Prop := args = #[.ref b] ∧ s.IntsAt b xs ∧ xs.length ≤ 3072 ∧ (Jvm.Cond.and given_1 narrow_1).before args s = true
def lw_Q (_ : Array Value) (s : State) (o : Outcome) (t : State) : Prop := o = .returned (some (.int 1)) ∧ Framed s o t [] 600000 7302250
def lw_Z (below : List Frame) (a : Array Value) (s : State) : State → Prop := fun t => ∃ o, t.status = .running ∧ Ended t below o ∧ lw_Q a s o t
/-- the law's own end, with 1 on the stack, nothing written that was there before, its room as the claim has it -/
theorem lw_ret {p : Program} {l : Launch} {e : Env} {s : State} {m : MethodId} {below : List Frame} {meth : Method} {c : Code} {b : Nat} (hx : p.tables.exec = Jvm.exec) (hb : c.code = code) (hr : meth.sig.returnType = ret) (hlocks : meth.locks = false) {pc : Nat} {H : Heap} {ls : Array Slot} (hdg : decode code pc = .ok (.ireturn, 1)) : W p l e room_1 s m #[Value.ref b] below meth c H [] 600000 7302250 (lw_Z below #[Value.ref b] s) (F0 m pc ls [.int 1]) := by
  intro T hT X
  obtain ⟨fs, hret, hrun, hended, hW, hframe⟩ := X.leave (v := some (.int 1)) (hlocks := hlocks) (fun h => by rw [hr] at h; cases h)
  have hmeth' : T.vm.method? m = some meth := X.method'
  refine ⟨T.setFrames fs, ?_, .returned (some (.int 1)), hrun, hended, rfl, ⟨_, rfl⟩, hW, hframe⟩
  jvm_step X.here [X.here.top, hx, hb, hdg, hmeth', hr, ret, narrow_b1]
  (try refine ⟨rfl, ?_⟩); (try refine ⟨rfl, ?_⟩)
  first | (intro acts; rw [hret _ acts rfl rfl rfl]) | rw [hret _ _ rfl rfl rfl]
  exact Steps.refl _
/-- what holds at the law's entry: the machine, the code, the tables' words (any of lw_tbl by 'hts w (by decide +kernel)'), the script of L ints xs at the cell b, what the Statement gives of the start (any of its parts by flat_of_before) -/
def lw_At (p : Program) (s : State) (m : MethodId) (meth : Method) (c : Code) (b L : Nat) (xs : Nat → Int32) : Prop :=
  p.tables.exec = Jvm.exec ∧ c.code = code ∧ meth.sig.returnType = ret ∧ c.maxLocals = 4 ∧ s.vm.findClass R_law = some m.cls ∧ (∀ w ∈ lw_tbl, w.before #[Value.ref b] s = true) ∧ va_X b L xs s s.heap ∧ b < s.heap.size ∧ meth.locks = false ∧ (Jvm.Cond.and given_1 narrow_1).before #[Value.ref b] s = true

/-! rows of the law -/
def wL (cI cZ : ClassId) (adC adM : Nat → Nat) (C E : zMem) : va_W := wC cI cZ adC C ++ wM cI cZ adM E
def zl_C : List Nat := [0, 1, 2, 3, 4, 5, 6, 7, 8, 9, 10, 11, 12, 13, 14, 15, 16, 17, 18, 19, 20, 21, 22, 23, 24, 25, 26, 27, 28, 29, 30, 31, 32, 33, 34, 35, 36, 37, 38, 39, 40, 41, 42, 43, 44, 45, 46, 47, 48, 49, 50, 51, 52, 53, 54, 55, 56, 57, 58]
def zl_M : List Nat := [59, 60, 61, 62, 63, 64, 65, 66, 67, 68, 69, 70, 71, 72, 73, 74, 75, 76, 77, 78, 79, 80, 81, 82, 83, 84, 85]
def zl_B : List Nat := [27, 28, 29, 30, 31, 32, 33, 34, 35, 36, 37, 38, 39, 40, 41, 42, 43, 44, 45, 46, 47, 48, 49, 50, 51, 52, 53, 54, 55, 56, 57, 58, 59, 60, 61, 62, 63, 64, 65, 66, 67, 68, 69, 70, 71, 72, 73, 74, 75, 76, 77, 78, 79, 80, 81, 82, 83, 84, 85, 0, 1, 2, 3, 4, 5, 6, 7, 8, 9, 10, 11, 12, 13, 14, 15, 16, 17, 18, 19, 20, 21, 22, 23, 24, 25, 26]
def zl_I : List Nat := [0, 1, 2, 3, 4, 5, 6, 7, 8, 9, 10, 11, 12, 13, 14, 15, 16, 17, 18, 19, 20, 21, 22, 23, 24, 25, 26, 27, 28, 29, 30, 31, 32, 33, 34, 35, 36, 37, 38, 39, 40, 41, 42, 43, 44, 45, 46, 47, 48, 49, 50, 51, 52, 53, 54, 55, 56, 57, 58, 59, 60, 61, 62, 63, 64, 65, 66, 67, 68, 69, 70, 71, 72, 73, 74, 75, 76, 77, 78, 79, 80, 81, 82, 83, 84, 85]
def z_CtG (Wd : zMem → va_W) (D : va_G) (cI cZ : ClassId) (adK adV : Nat → Nat) (l : Launch) (y : MethodName) (cc : ByteArray) (maxL : Nat) (ret : Option FieldType) (lev mc ms : Nat) (As : List Value) (M M' : zMem) (rv : Option Value) : Prop :=
  ∀ sz : Nat, Met l y (.code y cc maxL ret :: z_G) { frames := lev, cells := mc, slots := ms, locals := 64 * lev } (va_Pc As (z_pre Wd D cI cZ adK adV M sz)) (z_Q Wd D cI cZ M' (va_A (Wd M) sz) rv) mc ms (va_A (Wd M) sz)
section ZL
variable {p : Program} {l : Launch} {e : Env} {R : Room} {s : State} {m : MethodId} {args : Array Value} {below : List Frame} {meth : Method} {c : Code} {Q : State → Prop} {cells slots : Nat} {D : va_G} {A : Nat → Prop} {nL : Nat} {ws ws' : va_W} {cc : ByteArray} {pc : Nat} {lv : List (Nat × Value)} {rest : List Value} {own : String} {lev : Nat} {cI cZ : ClassId} {adK adV adC adM : Nat → Nat}
theorem z_widen {k n : Nat} (h1 : cells ≤ k) (h2 : slots ≤ n) {st : List Value} (kk : z_W p l e R s m args below meth c D A Q nL k n ws pc lv st) : z_W p l e R s m args below meth c D A Q nL cells slots ws pc lv st := fun H locs ls hP hD hS hl => W.widen h1 h2 (kk H locs ls hP hD hS hl)
theorem z_sld (X : z_X p m c cc nL s args own R lev D cI cZ A adK adV) {b L : Nat} {xs : Nat → Int32} (hX : va_X b L xs s s.heap) (hbl : b < s.heap.size) (hbA : ¬ A b) {i : Int} (hi : 0 ≤ i ∧ i < (L : Int)) (hL : L ≤ 3072) (hdg : decode cc pc = .ok (.iaload, 1)) (kk : z_W p l e R s m args below meth c D A Q nL cells slots ws (pc + 1) lv (.int (z_I (xs i.toNat).toInt) :: rest)) : z_W p l e R s m args below meth c D A Q nL cells slots ws pc lv (.int (z_I i) :: .ref b :: rest) := fun H locs ls hP hD hS hl => by
  have hr : z_Rg i := by omega
  have e0 : (z_I i).toNatClampNeg = i.toNat := z_nat hr
  refine va_sld X.1.1 X.1.2.1 hX hbl hbA hS (z_vin hi (by omega)) hdg ?_
  rw [e0]
  have h9 := kk H locs ls hP hD hS hl
  rw [z_I_of] at h9
  exact h9
theorem z_slen2 (X : z_X p m c cc nL s args own R lev D cI cZ A adK adV) {b L : Nat} {xs : Nat → Int32} (hX : va_X b L xs s s.heap) (hbl : b < s.heap.size) (hbA : ¬ A b) (hdg : decode cc pc = .ok (.arraylength, 1)) (kk : z_W p l e R s m args below meth c D A Q nL cells slots ws (pc + 1) lv (.int (z_I (L : Int)) :: rest)) : z_W p l e R s m args below meth c D A Q nL cells slots ws pc lv (.ref b :: rest) := fun H locs ls hP hD hS hl =>
  va_slen X.1.1 X.1.2.1 hX hbl hbA hS hdg (by have h9 := kk H locs ls hP hD hS hl; exact h9)
theorem z_same (X : z_X p m c cc nL s args own R lev D cI cZ A adK adV) {x : Int32} {off : Int} {tgt : Nat} (hdg : decode cc pc = .ok (.if_icmp .eq off, 3)) (ht : (pc : Int) + off = (tgt : Int)) (kk : z_W p l e R s m args below meth c D A Q nL cells slots ws tgt lv rest) : z_W p l e R s m args below meth c D A Q nL cells slots ws pc lv (.int x :: .int x :: rest) := fun H locs ls hP hD hS hl =>
  lv_icmp_eq X.1.1 X.1.2.1 hdg ht (fun _ => kk H locs ls hP hD hS hl) (fun h => absurd rfl h)
theorem z_sameL (X : z_X p m c cc nL s args own R lev D cI cZ A adK adV) {x : Int64} {off : Int} {tgt : Nat} (hdg : decode cc pc = .ok (.lcmp, 1)) (hdg2 : decode cc (pc + 1) = .ok (.ifCond .eq off, 3)) (ht : ((pc + 1 : Nat) : Int) + off = (tgt : Int)) (kk : z_W p l e R s m args below meth c D A Q nL cells slots ws tgt lv rest) : z_W p l e R s m args below meth c D A Q nL cells slots ws pc lv (.long x :: .long x :: rest) := fun H locs ls hP hD hS hl => by
  refine W.lcmp X.1.1 X.1.2.1 hdg ?_
  have e0 : lg_cmp x x = 0 := by unfold lg_cmp; simp
  rw [e0]
  exact lv_if_eq X.1.1 X.1.2.1 hdg2 ht (fun _ => kk H locs ls hP hD hS hl) (fun h => absurd rfl h)
theorem z_backL {Wd : zMem → va_W} {M M' : zMem} {wr : va_W} {rv : Option Value} {mc ms : Nat} {a : Array Value} {H : Heap} {locs : List Loc} {ls : Array Slot} {st0 : List Value} (hr : va_Run p l e R s m args below meth c H locs cells slots mc ms (F0 m pc ls st0) rest (z_Q Wd D cI cZ M' (va_A (Wd M) H.size) rv a) (va_A (Wd M) H.size)) (hP : va_P D vwCl ws H) (hD : va_D A ws) (hS : va_S A s.heap H locs) (hF : ∀ q, va_A (Wd M) H.size q → A q) (isC isR : List Nat) (hC : isC.map (fun i => ws[i]?) = (Wd M).map some) (hRr : isR.map (fun i => ws[i]?) = wr.map some) (hn : va_nd isR = true) (hdis : ∀ i ∈ isR, i ∉ isC) (hl : lv_has ls nL lv)
    (kk : z_W p l e R s m args below meth c D A Q nL (cells + mc) (slots + ms) (wr ++ Wd M') (pc + 3) lv (rv.toList ++ rest)) : W p l e R s m args below meth c H locs cells slots Q (F0 m pc ls st0) := by
  intro T hT X
  obtain ⟨v, st₀, t, T', L, h0, X', hL, e1, e2, ⟨hv, hP1, hK1, hD1, hz, hk⟩, st⟩ := hr T hT X
  cases hv
  rw [h0] at hz hk
  obtain ⟨j1, j2⟩ := va_join hP hD isC isR hC hRr hn hdis hk hF hP1 hD1
  obtain ⟨t2, a1, b1⟩ := kk T'.heap (locs ++ L) ls (by rw [e1]; exact j1) j2 ⟨Nat.le_trans hS.1 (by rw [e1]; exact hz), fun q h1 h2 => by rw [e1, hk q (Nat.lt_of_lt_of_le h1 hS.1) (fun z => h2 (hF q z))]; exact hS.2.1 q h1 h2, fun q hq => by
      rcases List.mem_append.mp hq with h | h
      · exact hS.2.2 q h
      · exact hF _ (hL q h)⟩ hl T' rfl X'
  exact ⟨t2, st t2 a1, b1⟩
theorem z_callL {Wd : zMem → va_W} {M M' : zMem} {wr : va_W} {rv : Option Value} {y : MethodName} {bytes : ByteArray} {maxL n index lev' b mc ms ci : Nat} {fs : List Value} {ret : Option FieldType} {As st0 : List Value} {vc : vw_C} (X : z_X p m c cc nL s args own R lev D cI cZ A adK adV) (hM : z_CtG Wd D cI cZ adK adV l y bytes maxL ret lev' mc ms (.ref b :: As) M M' rv)
    (isC isR isB : List Nat) (hC : isC.map (fun i => ws[i]?) = (Wd M).map some) (hRr : isR.map (fun i => ws[i]?) = wr.map some) (hnC : va_nd isC = true) (hnd : va_nd isR = true) (hdis : ∀ i ∈ isR, i ∉ isC) (hsub : isC.filterMap (fun i => ws[i]?) = Wd M) (hnB : va_nd isB = true) (hB1 : isB.filterMap (fun i => (wr ++ Wd M')[i]?) = ws') (hB2 : isB.map (fun i => (wr ++ Wd M')[i]?) = ws'.map some)
    (q0 : Nat) (hc : vwCl[ci]? = some vc) (he : ws[q0]? = some (b, .inr (ci, fs)))
    (hl1 : Cond.methodLink own index y ∈ z_G) (hy : y.cls = vc.1 ∧ y.cls ≠ "java/lang/invoke/MethodHandle" ∧ y.cls ≠ "java/lang/invoke/VarHandle" ∧ (parseMethodDescriptor y.desc).map (fun d => d.parameters.length) = some n) (hyw : Cond.instanceMethod y ∈ z_G ∧ Cond.selects vc.1 y y ∈ z_G ∧ Cond.initialized vc.1 ∈ z_G ∧ Cond.code y bytes maxL ret ∈ z_G) (hlev : lev' + 1 ≤ lev) (hmax : maxL ≤ 45)
    (hn : As.length = n) (hst : st0 = As.reverse ++ .ref b :: rest) (hrest : (rest.map fun v => v.category).sum ≤ 8) (hf : cells + mc ≤ R.cells ∧ slots + ms ≤ R.slots) (hdg : decode cc pc = .ok (.invokevirtual index, 3))
    (kk : z_W p l e R s m args below meth c D A Q nL (cells + mc) (slots + ms) ws' (pc + 3) lv (rv.toList ++ rest)) : z_W p l e R s m args below meth c D A Q nL cells slots ws pc lv st0 := fun H locs ls hP hD hS hl => by
  obtain ⟨i1, i2, i3, i4⟩ := hyw
  have ts := X.1.2.2.2.2
  have hR1 := X.2.2.2.2.1
  have hR2 := X.2.2.2.2.2
  have hF := va_free hD hS X.2.2.1 isC hC
  refine z_backL (wr := wr) (va_runV (As := As) (b := b) (C := vc.1) (n := n) (bytes := bytes) (maxL := maxL) (ret := ret) (Ts := z_G) (rest := rest) X.1 (hM H.size) ⟨callB_of n ts (z_G_good i4) rfl rfl rfl (by rw [hy.1]; exact ts _ i3) (ts _ hl1) hy.2 ⟨by show lev' + 1 ≤ R.frames; omega, by show 8 + (maxL + 11) + 64 * lev' ≤ R.locals; omega⟩, ts _ i1, ts _ i2⟩ ⟨z_blind, va_recv X.2.1 hP hc he, fun U hU hW => ⟨rfl, by rw [hU], by rw [hU]; exact hP.sub isC hsub, va_K.moved hW.alike X.2.1, (hD.sub isC hnC hC).weaken (fun _ _ _ _ => trivial), z_kw_go X.2.2.2.1 hS hU hW hF⟩⟩ rfl hn hl.1 hst (lv_room hrest) hdg hf) hP hD hS hF isC isR hC hRr hnd hdis hl ?_
  exact fun H1 locs1 ls1 g1 g2 g3 g4 => kk H1 locs1 ls1 (g1.sub isB hB1) (g2.sub isB hnB hB2) g3 g4
end ZL
set_option maxRecDepth 100000
theorem zl_nC : va_nd zl_C = true := by decide +kernel
theorem zl_nM : va_nd zl_M = true := by decide +kernel
theorem zl_nB : va_nd zl_B = true := by decide +kernel
theorem zl_nI : va_nd zl_I = true := by decide +kernel
theorem zl_dC : ∀ i ∈ zl_M, i ∉ zl_C := by decide +kernel
theorem zl_dM : ∀ i ∈ zl_C, i ∉ zl_M := by decide +kernel
section ZN
variable {p : Program} {l : Launch} {e : Env} {R : Room} {s : State} {m : MethodId} {args : Array Value} {below : List Frame} {meth : Method} {c : Code} {Q : State → Prop} {cells slots : Nat} {D : va_G} {A : Nat → Prop} {nL : Nat} {cc : ByteArray} {pc : Nat} {lv : List (Nat × Value)} {rest : List Value} {own : String} {lev : Nat} {cI cZ : ClassId} {adK adV adC adM : Nat → Nat} {C C' E E' : zMem}
/-- a call of the class -/
theorem z_callC {rv : Option Value} {y : MethodName} {bytes : ByteArray} {maxL n index lev' : Nat} {ret : Option FieldType} {As st0 : List Value} (X : z_X p m c cc nL s args own R lev D cI cZ A adK adV) (hM : z_Ct (wC cI cZ adC) D cI cZ adK adV l y bytes maxL ret lev' (.ref (adC 0) :: As) C C' rv)
    (hl1 : Cond.methodLink own index y ∈ z_G) (hy : y.cls = RX9 ∧ y.cls ≠ "java/lang/invoke/MethodHandle" ∧ y.cls ≠ "java/lang/invoke/VarHandle" ∧ (parseMethodDescriptor y.desc).map (fun d => d.parameters.length) = some n) (hyw : Cond.instanceMethod y ∈ z_G ∧ Cond.selects RX9 y y ∈ z_G ∧ Cond.initialized RX9 ∈ z_G ∧ Cond.code y bytes maxL ret ∈ z_G) (hlev : lev' + 1 ≤ lev) (hmax : maxL ≤ 45)
    (hn : As.length = n) (hst : st0 = As.reverse ++ .ref (adC 0) :: rest) (hrest : (rest.map fun v => v.category).sum ≤ 8) (hf : cells ≤ R.cells ∧ slots ≤ R.slots) (hdg : decode cc pc = .ok (.invokevirtual index, 3))
    (kk : z_W p l e R s m args below meth c D A Q nL cells slots (wL cI cZ adC adM C' E) (pc + 3) lv (rv.toList ++ rest)) : z_W p l e R s m args below meth c D A Q nL cells slots (wL cI cZ adC adM C E) pc lv st0 :=
  z_callL (Wd := wC cI cZ adC) (M := C) (M' := C') (mc := 0) (ms := 0) (ci := 9) (vc := (RX9, TX9, 13)) (fs := fC0 adC C) (wr := wM cI cZ adM E) (ws' := wL cI cZ adC adM C' E) X hM zl_C zl_M zl_B rfl rfl zl_nC zl_nM zl_dC rfl zl_nB rfl rfl 0 rfl rfl hl1 hy hyw hlev hmax hn hst hrest hf hdg kk
/-- a call of the reference -/
theorem z_callM {rv : Option Value} {y : MethodName} {bytes : ByteArray} {maxL n index lev' mc ms : Nat} {ret : Option FieldType} {As st0 : List Value} (X : z_X p m c cc nL s args own R lev D cI cZ A adK adV) (hM : z_CtG (wM cI cZ adM) D cI cZ adK adV l y bytes maxL ret lev' mc ms (.ref (adM 0) :: As) E E' rv)
    (hl1 : Cond.methodLink own index y ∈ z_G) (hy : y.cls = RX10 ∧ y.cls ≠ "java/lang/invoke/MethodHandle" ∧ y.cls ≠ "java/lang/invoke/VarHandle" ∧ (parseMethodDescriptor y.desc).map (fun d => d.parameters.length) = some n) (hyw : Cond.instanceMethod y ∈ z_G ∧ Cond.selects RX10 y y ∈ z_G ∧ Cond.initialized RX10 ∈ z_G ∧ Cond.code y bytes maxL ret ∈ z_G) (hlev : lev' + 1 ≤ lev) (hmax : maxL ≤ 45)
    (hn : As.length = n) (hst : st0 = As.reverse ++ .ref (adM 0) :: rest) (hrest : (rest.map fun v => v.category).sum ≤ 8) (hf : cells + mc ≤ R.cells ∧ slots + ms ≤ R.slots) (hdg : decode cc pc = .ok (.invokevirtual index, 3))
    (kk : z_W p l e R s m args below meth c D A Q nL (cells + mc) (slots + ms) (wL cI cZ adC adM C E') (pc + 3) lv (rv.toList ++ rest)) : z_W p l e R s m args below meth c D A Q nL cells slots (wL cI cZ adC adM C E) pc lv st0 :=
  z_callL (Wd := wM cI cZ adM) (M := E) (M' := E') (mc := mc) (ms := ms) (ci := 10) (vc := (RX10, TX10, 53)) (fs := fM0 adM E) (wr := wC cI cZ adC C) (ws' := wL cI cZ adC adM C E') X hM zl_M zl_C zl_I rfl rfl zl_nM zl_nC zl_dM rfl zl_nI rfl rfl 59 rfl rfl hl1 hy hyw hlev hmax hn hst hrest hf hdg kk
end ZN
