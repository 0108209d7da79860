/-! the launch's constants -/
def z_sOwn : List String := ["DrumPlacer$Reader", "DrumPlacer$Reader", "DrumPlacer$Reader", "DrumPlacer$Reader", "DrumPlacer$Reader", "DrumPlacer$Reader", "DrumPlacer$Reader", "DrumPlacer$Tokens", "DrumPlacer$Tokens", "DrumPlacer$Tokens", "DrumPlacer$Tokens", "DrumPlacer$Tokens", "DrumPlacer$Tokens", "DrumPlacer$Tokens", "DrumPlacer$Tokens", "DrumPlacer$Tokens", "DrumPlacer$Tokens", "DrumPlacer$Tokens", "DrumPlacer$Tokens", "DrumPlacer$Reader", "DrumPlacer$Reader", "DrumPlacerModel", "DrumPlacerModel", "DrumPlacerModel", "DrumPlacerModel", "DrumPlacerModel", "DrumPlacerModel"]
def z_sIdx : List Nat := [87, 93, 101, 105, 213, 116, 59, 66, 72, 74, 76, 78, 80, 82, 84, 86, 88, 90, 92, 218, 150, 130, 169, 175, 177, 179, 185]
def z_sTxt : List String := ["drum", "tracks", "sectors", "wait", "quick", "mul", "word", "drum", "word", "step", "at", "load", "add", "sub", "mul", "store", "less", "move", "halt", "at", "step", " load add sub mul store less move halt drum word step at ", "tracks", "sectors", "wait", "quick", "mul"]
def z_sCh : List (List Int) := [[100, 114, 117, 109], [116, 114, 97, 99, 107, 115], [115, 101, 99, 116, 111, 114, 115], [119, 97, 105, 116], [113, 117, 105, 99, 107], [109, 117, 108], [119, 111, 114, 100], [100, 114, 117, 109], [119, 111, 114, 100], [115, 116, 101, 112], [97, 116], [108, 111, 97, 100], [97, 100, 100], [115, 117, 98], [109, 117, 108], [115, 116, 111, 114, 101], [108, 101, 115, 115], [109, 111, 118, 101], [104, 97, 108, 116], [97, 116], [115, 116, 101, 112], [32, 108, 111, 97, 100, 32, 97, 100, 100, 32, 115, 117, 98, 32, 109, 117, 108, 32, 115, 116, 111, 114, 101, 32, 108, 101, 115, 115, 32, 109, 111, 118, 101, 32, 104, 97, 108, 116, 32, 100, 114, 117, 109, 32, 119, 111, 114, 100, 32, 115, 116, 101, 112, 32, 97, 116, 32], [116, 114, 97, 99, 107, 115], [115, 101, 99, 116, 111, 114, 115], [119, 97, 105, 116], [113, 117, 105, 99, 107], [109, 117, 108]]
def z_nest : List Cond := [.methodLinkNest "DrumPlacer" 9 ⟨"DrumPlacer$Tape", "<init>", "()V"⟩ "DrumPlacer", .methodLinkNest "DrumPlacer" 12 ⟨"DrumPlacer$Plan", "<init>", "()V"⟩ "DrumPlacer", .methodLinkNest "DrumPlacer" 73 ⟨"DrumPlacer$Acts", "<init>", "()V"⟩ "DrumPlacer", .methodLinkNest "DrumPlacer$Reader" 214 ⟨"DrumPlacer", "isQuick", "(II)Z"⟩ "DrumPlacer", .methodLinkNest "DrumPlacer$Plan" 67 ⟨"DrumPlacer", "copyItems", "([I[I)V"⟩ "DrumPlacer", .methodLinkNest "DrumPlacer$Trace" 70 ⟨"DrumPlacer", "copyItems", "([I[I)V"⟩ "DrumPlacer", .methodLinkNest "DrumPlacer$Search" 119 ⟨"DrumPlacer", "copyItems", "([I[I)V"⟩ "DrumPlacer"]
def z_slen (i : Nat) : Int := ((z_sCh.getD i []).length : Int)
def z_schr (i : Nat) (j : Int) : Int := (z_sCh.getD i []).getD j.toNat 0
def z_sc (i : Nat) (j : Int) (K : Int → zO) : zO := if 0 ≤ j ∧ j < z_slen i then K (z_schr i j) else none
def z_kw (adK adV : Nat → Nat) (A : Nat → Prop) (U : State) (H : Heap) : Prop :=
  (∀ i : Nat, i < 27 → va_O "java/lang/String" (adK i) A U H ∧ va_OF "java/lang/String" "coder" "B" (.int 0) (adK i) A U H ∧ va_OF "java/lang/String" "value" "[B" (.ref (adV i)) (adK i) A U H ∧ va_T .byte (adV i) (z_sCh.getD i []).length (fun j => .int (z_I ((z_sCh.getD i []).getD j 0))) A U H) ∧
  (∀ i : Nat, i < 27 → vk_R (z_sOwn.getD i "") (z_sIdx.getD i 0) (z_sTxt.getD i "") (adK i) U) ∧
  va_Z "java/lang/String" "COMPACT_STRINGS" "Z" (.int 1) A U H ∧
  va_Zq "jdk/internal/util/Preconditions" "SIOOBE_FORMATTER" "Ljava/util/function/BiFunction;" A U H ∧
  ∀ w ∈ z_nest, va_Nw w U
theorem z_nest_warm {s U : State} (hW : s.WarmedH U.vm) : ∀ w ∈ z_nest, va_Nw w s → va_Nw w U := by
  intro w hw h
  simp only [z_nest, List.mem_cons, List.not_mem_nil, or_false] at hw
  rcases hw with rfl | rfl | rfl | rfl | rfl | rfl | rfl <;> exact va_Nw.warmM hW h
theorem z_nest_same {u U : State} (hv : u.vm = U.vm) : ∀ w ∈ z_nest, va_Nw w u → va_Nw w U := by
  intro w hw h
  simp only [z_nest, List.mem_cons, List.not_mem_nil, or_false] at hw
  rcases hw with rfl | rfl | rfl | rfl | rfl | rfl | rfl <;> exact va_Nw.same rfl hv h
theorem z_kw_go {adK adV : Nat → Nat} {A B : Nat → Prop} {s U : State} {H : Heap} {locs : List Loc} (h : z_kw adK adV A s s.heap) (hS : va_S A s.heap H locs) (hU : U.heap = H) (hW : s.WarmedH U.vm) (hAB : ∀ q, B q → A q) : z_kw adK adV B U U.heap := by
  obtain ⟨h1, h2, h3, h4, h5⟩ := h
  rw [hU]
  refine ⟨fun i hi => ?_, fun i hi => vk_R.warm hW (h2 i hi), ((va_Z.moved hW.alike h3).kept hS.2.1).narrow hAB, ((va_Zq.moved hW.alike h4).kept hS.2.1).narrow hAB, fun w hw => z_nest_warm hW w hw (h5 w hw)⟩
  obtain ⟨a1, a2, a3, a4⟩ := h1 i hi
  exact ⟨((va_O.moved hW.alike a1).kept hS.2.1).narrow hAB, ((va_OF.moved hW.alike a2).kept hS.2.1).narrow hAB, ((va_OF.moved hW.alike a3).kept hS.2.1).narrow hAB, ((va_T.moved hW.alike a4).kept hS.2.1).narrow hAB⟩
theorem z_kw_calling {adK adV : Nat → Nat} {A : Nat → Prop} {U : State} {g : JFrame} {mk : MethodId} {a : Array Value} (h : z_kw adK adV A U U.heap) : z_kw adK adV A (U.calling g mk a) (U.calling g mk a).heap := by
  obtain ⟨h1, h2, h3, h4, h5⟩ := h
  refine ⟨fun i hi => ?_, fun i hi => vk_R.same (u := U) rfl (h2 i hi), va_Z.moved (u := U) (Vm.Alike.refl U.vm) h3, va_Zq.moved (u := U) (Vm.Alike.refl U.vm) h4, fun w hw => z_nest_same (u := U) (U := U.calling g mk a) rfl w hw (h5 w hw)⟩
  obtain ⟨a1, a2, a3, a4⟩ := h1 i hi
  exact ⟨va_O.moved (u := U) (Vm.Alike.refl U.vm) a1, va_OF.moved (u := U) (Vm.Alike.refl U.vm) a2, va_OF.moved (u := U) (Vm.Alike.refl U.vm) a3, va_T.moved (u := U) (Vm.Alike.refl U.vm) a4⟩
/-! contracts over a world of a memory -/
abbrev z_tys (cI cZ : ClassId) : List (ClassId × FieldType) := [(cI, .int), (cZ, .boolean)]
def z_pre (Wd : zMem → va_W) (D : va_G) (cI cZ : ClassId) (adK adV : Nat → Nat) (M : zMem) (sz : Nat) (U : State) : Prop :=
  U.heap.size = sz ∧ va_P D vwCl (Wd M) U.heap ∧ va_K D vwCl (z_tys cI cZ) U ∧ va_D (fun _ => True) (Wd M) ∧ z_kw adK adV (va_A (Wd M) sz) U U.heap
def z_Q (Wd : zMem → va_W) (D : va_G) (cI cZ : ClassId) (M' : zMem) (A : Nat → Prop) (rv : Option Value) : Array Value → State → Outcome → State → Prop := fun _ st oc t =>
  oc = .returned rv ∧ va_P D vwCl (Wd M') t.heap ∧ va_K D vwCl (z_tys cI cZ) t ∧ va_D A (Wd M') ∧ va_F A st t
def z_Ct (Wd : zMem → va_W) (D : va_G) (cI cZ : ClassId) (adK adV : Nat → Nat) (l : Launch) (y : MethodName) (cc : ByteArray) (maxL : Nat) (ret : Option FieldType) (lev : Nat) (As : List Value) (M M' : zMem) (rv : Option Value) : Prop :=
  ∀ sz : Nat, Met l y (.code y cc maxL ret :: z_G) { frames := lev, cells := 0, slots := 0, locals := 64 * lev } (va_Pc As (z_pre Wd D cI cZ adK adV M sz)) (z_Q Wd D cI cZ M' (va_A (Wd M) sz) rv) 0 0 (va_A (Wd M) sz)
def z_X (p : Program) (m : MethodId) (c : Code) (cc : ByteArray) (nL : Nat) (s : State) (args : Array Value) (own : String) (R : Room) (lev : Nat) (D : va_G) (cI cZ : ClassId) (A : Nat → Prop) (adK adV : Nat → Nat) : Prop :=
  CallFix p m c cc nL s args z_G own ∧ va_K D vwCl (z_tys cI cZ) s ∧ (∀ q, s.heap.size ≤ q → A q) ∧ z_kw adK adV A s s.heap ∧ lev ≤ R.frames ∧ 64 * lev ≤ R.locals
theorem z_blind {Wd : zMem → va_W} {D : va_G} {cI cZ : ClassId} {adK adV : Nat → Nat} {M : zMem} {sz : Nat} {As : List Value} : FrameBlind (va_Pc As (z_pre Wd D cI cZ adK adV M sz)) := by
  intro a U g mk h
  obtain ⟨h0, h1, h2, h3, h4, h5⟩ := h
  exact ⟨h0, h1, h2, va_K.moved (u := U) (U := U.calling g mk a) (Vm.Alike.refl U.vm) h3, h4, z_kw_calling h5⟩
abbrev z_V (p : Program) (l : Launch) (e : Env) (R : Room) (s : State) (m : MethodId) (args : Array Value) (below : List Frame) (meth : Method) (c : Code) (D : va_G) (A : Nat → Prop) (cI cZ : ClassId) (nL : Nat) (Wd : zMem → va_W) (M' : zMem) (rv : Option Value) (M : zMem) (pc : Nat) (lv : List (Nat × Value)) (st : List Value) : Prop := z_W p l e R s m args below meth c D A (MQ below (z_Q Wd D cI cZ M' A rv) args s 0 0 A) nL 0 0 (Wd M) pc lv st
theorem z_jnr {α : Type} {K : α} {F : α → zO} {res : Int × zMem} {P : α → Prop} {g : Prop} (h : z_jn K F = some res) (hK : P K) (hF : ∀ k : α, P k → F k = some res → g) : g := hF K hK h
section ZE
variable {l : Launch} {y : MethodName} {cc : ByteArray} {maxL : Nat} {ret : Option FieldType} {lev : Nat} {D : va_G} {cI cZ : ClassId} {adK adV : Nat → Nat} {Wd : zMem → va_W} {M M' : zMem} {rv : Option Value} {As : List Value}
theorem z_entry {own : String} (ho : y.cls = own) (hy : plainName y.cls = true) (hn : (lg_sl As).length ≤ maxL)
    (body : ∀ (p : Program) (e : Env) (s : State) (m : MethodId) (args : Array Value) (below : List Frame) (meth : Method) (c : Code) (R : Room) (A : Nat → Prop), z_X p m c cc maxL s args own R lev D cI cZ A adK adV → meth.sig.returnType = ret → meth.locks = false →
      z_W p l e R s m args below meth c D A (MQ below (z_Q Wd D cI cZ M' A rv) args s 0 0 A) maxL 0 0 (Wd M) 0 (lv_args 0 As) []) : z_Ct Wd D cI cZ adK adV l y cc maxL ret lev As M M' rv := by
  intro sz
  refine Met.ofW (cc := cc) (maxL := maxL) (ret := ret) hy rfl ?_
  intro p e s m args below meth c s₁ B hml hv
  obtain ⟨rfl, hsz, hP, hK, hD0, hE⟩ := hv
  have hts := atoms_spec (ws := .code y cc maxL ret :: z_G) B.pre
  have hown : s.vm.findClass own = some m.cls := by rw [← ho]; exact findClass_of_methodNamed B.named
  subst hsz
  have hD := hD0.self (sz := s.heap.size)
  have hl := lv_entry As (n := maxL) hn
  rw [lg_entry_eq]
  exact body p e s m _ below meth c _ _ ⟨⟨B.exec, B.bytes, hml, hown, fun w hw => hts w (List.mem_cons_of_mem _ hw)⟩, hK, fun q h => Or.inr h, hE, Nat.le_refl _, Nat.le_refl _⟩ B.returns B.notSynchronized _ _ _ hP hD va_S.rf hl
end ZE
section ZH
variable {p : Program} {l : Launch} {e : Env} {R : Room} {s : State} {m : MethodId} {args : Array Value} {below : List Frame} {meth : Method} {c : Code} {Q : State → Prop} {cells slots : Nat} {D : va_G} {A : Nat → Prop} {nL : Nat} {ws ws' : va_W} {cc : ByteArray} {pc : Nat} {lv : List (Nat × Value)} {rest : List Value} {own : String} {lev : Nat} {cI cZ : ClassId} {adK adV : Nat → Nat}
theorem z_get (X : z_X p m c cc nL s args own R lev D cI cZ A adK adV) {q0 a ci index N : Nat} {C ref : String} {T : u_T} {fs : List Value} {v : Value} (hin : ∀ w ∈ u_ws C T N, w ∈ z_G) (he : ws[q0]? = some (a, .inr (ci, fs))) (hc : vwCl[ci]? = some (C, T, N)) (k : Nat) (hk : k < N) (hlink : Cond.fieldLink own index ref (T k).2.1 (T k).2.2.1 ∈ z_G) (href : ref = (T k).1) (hv : fs[k]? = some v) (hdg : decode cc pc = .ok (.getfield index, 3))
    (kk : z_W p l e R s m args below meth c D A Q nL cells slots ws (pc + 3) lv (v :: rest)) : z_W p l e R s m args below meth c D A Q nL cells slots ws pc lv (.ref a :: rest) := fun H locs ls hP hD hS hl => by
  subst href
  exact va_get (D := D) (C := C) (T := T) (N := N) X.1.1 X.1.2.1 X.1.2.2.2.2 hin X.1.2.2.2.1 X.2.1 hP q0 he hc k hk (X.1.2.2.2.2 _ hlink) (fun _ h => h) hv hdg (kk H locs ls hP hD hS hl)
theorem z_put (X : z_X p m c cc nL s args own R lev D cI cZ A adK adV) {q0 a ci index N : Nat} {C ref : String} {T : u_T} {fs : List Value} {v : Value} (hin : ∀ w ∈ u_ws C T N, w ∈ z_G) (ty0 : Nat → FieldType) (hty : ∀ k, k < N → parseFieldDescriptor (T k).2.2.1 = some (ty0 k)) (hnm : ∀ a, a < N → ∀ b, b < N → a ≠ b → (T a).2.1 ≠ (T b).2.1) (he : ws[q0]? = some (a, .inr (ci, fs))) (hc : vwCl[ci]? = some (C, T, N)) (k : Nat) (hk : k < N) (hlink : Cond.fieldLink own index ref (T k).2.1 (T k).2.2.1 ∈ z_G) (href : ref = (T k).1) (hfin : (T k).2.2.2 = false) (hn : narrow (ty0 k) v = v) (hfit : fits (ty0 k) v = true) (hl0 : k < fs.length) (hset : ws.set q0 (a, .inr (ci, fs.set k v)) = ws') (hdg : decode cc pc = .ok (.putfield index, 3))
    (kk : z_W p l e R s m args below meth c D A Q nL cells slots ws' (pc + 3) lv rest) : z_W p l e R s m args below meth c D A Q nL cells slots ws pc lv (v :: .ref a :: rest) := fun H locs ls hP hD hS hl => by
  subst href
  exact va_put (D := D) (C := C) (T := T) (N := N) X.1.1 X.1.2.1 X.1.2.2.2.2 hin ty0 hty hnm X.1.2.2.2.1 X.2.1 hP hD hS q0 he hc k hk (X.1.2.2.2.2 _ hlink) (fun _ h => h) hfin (hty k hk) hn hfit hl0 hdg (fun H1 locs1 g1 g2 g3 => kk H1 locs1 ls (by rw [hset] at g1; exact g1) (by rw [hset] at g2; exact g2) g3 hl)
theorem z_iald (X : z_X p m c cc nL s args own R lev D cI cZ A adK adV) {res : Int × zMem} {M : zMem} {q0 q1 a n : Nat} {nn i : Int} {K : Int → zO} (ha : ws[q1]? = some (a, .inl (cI, n, .inl (fun j : Nat => z_I (M q0 (j : Int)))))) (hn : nn = (n : Int)) (hn2 : n < 2147483648) (hdg : decode cc pc = .ok (.iaload, 1)) (h : z_rd M q0 nn i K = some res)
    (kk : ∀ r : Int, K r = some res → z_W p l e R s m args below meth c D A Q nL cells slots ws (pc + 1) lv (.int (z_I r) :: rest)) : z_W p l e R s m args below meth c D A Q nL cells slots ws pc lv (.int (z_I i) :: .ref a :: rest) := fun H locs ls hP hD hS hl => by
  unfold z_rd at h
  split at h
  · rename_i hc
    subst hn
    have hr : z_Rg i := by omega
    have e : (((z_I i).toNatClampNeg : Nat) : Int) = i := by rw [z_nat hr]; omega
    refine va_iald (D := D) X.1.1 X.1.2.1 X.2.1 hP q1 0 ha rfl (z_vin hc hn2) hdg ?_
    simp only [e]
    exact kk _ h H locs ls hP hD hS hl
  · cases h
theorem z_zald (X : z_X p m c cc nL s args own R lev D cI cZ A adK adV) {res : Int × zMem} {M : zMem} {q0 q1 a n : Nat} {nn i : Int} {K : Int → zO} (ha : ws[q1]? = some (a, .inl (cZ, n, .inl (fun j : Nat => z_I (M q0 (j : Int)))))) (hn : nn = (n : Int)) (hn2 : n < 2147483648) (hdg : decode cc pc = .ok (.baload, 1)) (h : z_rd M q0 nn i K = some res)
    (kk : ∀ r : Int, K r = some res → z_W p l e R s m args below meth c D A Q nL cells slots ws (pc + 1) lv (.int (z_I r) :: rest)) : z_W p l e R s m args below meth c D A Q nL cells slots ws pc lv (.int (z_I i) :: .ref a :: rest) := fun H locs ls hP hD hS hl => by
  unfold z_rd at h
  split at h
  · rename_i hc
    subst hn
    have hr : z_Rg i := by omega
    have e : (((z_I i).toNatClampNeg : Nat) : Int) = i := by rw [z_nat hr]; omega
    refine va_zald (D := D) X.1.1 X.1.2.1 X.2.1 hP q1 1 ha rfl (z_vin hc hn2) hdg ?_
    simp only [e]
    exact kk _ h H locs ls hP hD hS hl
  · cases h
theorem z_iast {Wd : zMem → va_W} (X : z_X p m c cc nL s args own R lev D cI cZ A adK adV) {res : Int × zMem} {M : zMem} {q0 q1 a n : Nat} {nn i v : Int} {K : zMem → zO} (ha : (Wd M)[q1]? = some (a, .inl (cI, n, .inl (fun j : Nat => z_I (M q0 (j : Int)))))) (hn : nn = (n : Int)) (hn2 : n < 2147483648) (hset : (Wd M).set q1 (a, .inl (cI, n, .inl (fun j : Nat => z_I (z_st M q0 i v q0 (j : Int))))) = Wd (z_st M q0 i v)) (hdg : decode cc pc = .ok (.iastore, 1)) (h : z_wr M q0 nn i v K = some res)
    (kk : ∀ M1 : zMem, K M1 = some res → z_W p l e R s m args below meth c D A Q nL cells slots (Wd M1) (pc + 1) lv rest) : z_W p l e R s m args below meth c D A Q nL cells slots (Wd M) pc lv (.int (z_I v) :: .int (z_I i) :: .ref a :: rest) := fun H locs ls hP hD hS hl => by
  unfold z_wr at h
  split at h
  · rename_i hc
    subst hn
    refine va_iast (D := D) X.1.1 X.1.2.1 X.2.1 hP hD hS q1 0 ha rfl (z_vin hc hn2) hdg (fun H1 locs1 g1 g2 g3 => ?_)
    rw [z_upd (by omega), hset] at g1 g2
    exact kk _ h H1 locs1 ls g1 g2 g3 hl
  · cases h
theorem z_zast {Wd : zMem → va_W} (X : z_X p m c cc nL s args own R lev D cI cZ A adK adV) {res : Int × zMem} {M : zMem} {q0 q1 a n : Nat} {nn i v : Int} {K : zMem → zO} (ha : (Wd M)[q1]? = some (a, .inl (cZ, n, .inl (fun j : Nat => z_I (M q0 (j : Int)))))) (hn : nn = (n : Int)) (hn2 : n < 2147483648) (hset : (Wd M).set q1 (a, .inl (cZ, n, .inl (fun j : Nat => z_I (z_st M q0 i v q0 (j : Int))))) = Wd (z_st M q0 i v)) (hdg : decode cc pc = .ok (.bastore, 1)) (h : z_wz M q0 nn i v K = some res)
    (kk : ∀ M1 : zMem, K M1 = some res → z_W p l e R s m args below meth c D A Q nL cells slots (Wd M1) (pc + 1) lv rest) : z_W p l e R s m args below meth c D A Q nL cells slots (Wd M) pc lv (.int (z_I v) :: .int (z_I i) :: .ref a :: rest) := fun H locs ls hP hD hS hl => by
  unfold z_wz at h
  split at h
  · rename_i hc
    subst hn
    refine va_zast (D := D) X.1.1 X.1.2.1 X.2.1 hP hD hS q1 1 ha rfl (z_vin hc.1 hn2) hdg (fun H1 locs1 g1 g2 g3 => ?_)
    have e : vp_nar .boolean (z_I v) = z_I v := by rcases hc.2 with rfl | rfl <;> decide
    rw [e, z_upd (by omega), hset] at g1 g2
    exact kk _ h H1 locs1 ls g1 g2 g3 hl
  · cases h
/-- returns -/
theorem z_iret {Wd : zMem → va_W} {r x : Int} {M M' : zMem} (X : z_X p m c cc nL s args own R lev D cI cZ A adK adV) (hr : meth.sig.returnType = some .int) (hlk : meth.locks = false) (hdg : decode cc pc = .ok (.ireturn, 1)) (h : some (x, M) = some (r, M')) : z_W p l e R s m args below meth c D A (MQ below (z_Q Wd D cI cZ M' A (some (.int (z_I r)))) args s 0 0 A) nL 0 0 (Wd M) pc lv [.int (z_I x)] := fun H locs ls hP hD hS hl => by
  cases h
  exact W.iret X.1.1 X.1.2.1 hr (fun t ht hW => ⟨rfl, by rw [ht]; exact hP, va_K.moved hW.alike X.2.1, hD, hS.F ht⟩) hS.2.2 hdg hlk
theorem z_zret {Wd : zMem → va_W} {r x : Int} {M M' : zMem} (X : z_X p m c cc nL s args own R lev D cI cZ A adK adV) (hr : meth.sig.returnType = some .boolean) (hlk : meth.locks = false) (hx : x = 0 ∨ x = 1) (hdg : decode cc pc = .ok (.ireturn, 1)) (h : some (x, M) = some (r, M')) : z_W p l e R s m args below meth c D A (MQ below (z_Q Wd D cI cZ M' A (some (.int (z_I r)))) args s 0 0 A) nL 0 0 (Wd M) pc lv [.int (z_I x)] := fun H locs ls hP hD hS hl => by
  cases h
  exact W.zret (ty := .boolean) X.1.1 X.1.2.1 hr (by rcases hx with rfl | rfl <;> decide) (fun t ht hW => ⟨rfl, by rw [ht]; exact hP, va_K.moved hW.alike X.2.1, hD, hS.F ht⟩) hS.2.2 hdg hlk
theorem z_lret {Wd : zMem → va_W} {r x : Int} {M M' : zMem} (X : z_X p m c cc nL s args own R lev D cI cZ A adK adV) (hr : meth.sig.returnType = some .long) (hlk : meth.locks = false) (hdg : decode cc pc = .ok (.lreturn, 1)) (h : some (x, M) = some (r, M')) : z_W p l e R s m args below meth c D A (MQ below (z_Q Wd D cI cZ M' A (some (.long (z_L r)))) args s 0 0 A) nL 0 0 (Wd M) pc lv [.long (z_L x)] := fun H locs ls hP hD hS hl => by
  cases h
  exact W.lret X.1.1 X.1.2.1 hr (fun t ht hW => ⟨rfl, by rw [ht]; exact hP, va_K.moved hW.alike X.2.1, hD, hS.F ht⟩) hS.2.2 hdg hlk
theorem z_vret {Wd : zMem → va_W} {r x : Int} {M M' : zMem} (X : z_X p m c cc nL s args own R lev D cI cZ A adK adV) (hr : meth.sig.returnType = none) (hlk : meth.locks = false) (hdg : decode cc pc = .ok (.return_, 1)) (h : some (x, M) = some (r, M')) : z_W p l e R s m args below meth c D A (MQ below (z_Q Wd D cI cZ M' A none) args s 0 0 A) nL 0 0 (Wd M) pc lv [] := fun H locs ls hP hD hS hl => by
  cases h
  exact W.vret X.1.1 X.1.2.1 hr (fun t ht hW => ⟨rfl, by rw [ht]; exact hP, va_K.moved hW.alike X.2.1, hD, hS.F ht⟩) hS.2.2 hdg hlk
theorem z_zretn {Wd : zMem → va_W} {r x : Int} {M M' : zMem} (X : z_X p m c cc nL s args own R lev D cI cZ A adK adV) (hr : meth.sig.returnType = some .boolean) (hlk : meth.locks = false) (hdg : decode cc pc = .ok (.ireturn, 1)) (h : z_rz x M = some (r, M')) : z_W p l e R s m args below meth c D A (MQ below (z_Q Wd D cI cZ M' A (some (.int (z_I r)))) args s 0 0 A) nL 0 0 (Wd M) pc lv [.int (z_I x)] := by
  unfold z_rz at h
  split at h
  · rename_i hx
    exact z_zret X hr hlk hx hdg h
  · cases h
theorem z_alen (X : z_X p m c cc nL s args own R lev D cI cZ A adK adV) {q1 a n : Nat} {nn : Int} {f : Nat → Int32} (ha : ws[q1]? = some (a, .inl (cI, n, .inl f))) (hn : Int32.ofNat n = z_I nn) (hdg : decode cc pc = .ok (.arraylength, 1)) (kk : z_W p l e R s m args below meth c D A Q nL cells slots ws (pc + 1) lv (.int (z_I nn) :: rest)) : z_W p l e R s m args below meth c D A Q nL cells slots ws pc lv (.ref a :: rest) := fun H locs ls hP hD hS hl => va_alen (D := D) X.1.1 X.1.2.1 X.2.1 hP q1 0 ha rfl hn hdg (kk H locs ls hP hD hS hl)
/-- behind a call: the callee had the whole world -/
theorem z_back {Wd : zMem → va_W} {M M' : zMem} {rv : Option Value} {a : Array Value} {H : Heap} {locs : List Loc} {ls : Array Slot} {st0 : List Value} (hr : va_Run p l e R s m args below meth c H locs cells slots 0 0 (F0 m pc ls st0) rest (z_Q Wd D cI cZ M' (va_A (Wd M) H.size) rv a) (va_A (Wd M) H.size)) (hS : va_S A s.heap H locs) (hF : ∀ q, va_A (Wd M) H.size q → A q) (hl : lv_has ls nL lv)
    (kk : z_W p l e R s m args below meth c D A Q nL cells slots (Wd M') (pc + 3) lv (rv.toList ++ rest)) : W p l e R s m args below meth c H locs cells slots Q (F0 m pc ls st0) := by
  intro T hT X
  obtain ⟨v, st₀, t, T', L, h0, X', hL, e1, e2, ⟨hv, hP1, hK1, hD1, hz, hk⟩, st⟩ := hr T hT X
  cases hv
  rw [h0] at hz hk
  obtain ⟨t2, a1, b1⟩ := kk T'.heap (locs ++ L) ls (by rw [e1]; exact hP1) (hD1.weaken (fun _ q _ h => hF q.1 h)) ⟨Nat.le_trans hS.1 (by rw [e1]; exact hz), fun q h1 h2 => by rw [e1, hk q (Nat.lt_of_lt_of_le h1 hS.1) (fun z => h2 (hF q z))]; exact hS.2.1 q h1 h2, fun q hq => by
      rcases List.mem_append.mp hq with h | h
      · exact hS.2.2 q h
      · exact hF _ (hL q h)⟩ hl T' rfl X'
  exact ⟨t2, st t2 a1, b1⟩
theorem z_freeA {Wd : zMem → va_W} {M : zMem} {H : Heap} {locs : List Loc} (X : z_X p m c cc nL s args own R lev D cI cZ A adK adV) (hD : va_D A (Wd M)) (hS : va_S A s.heap H locs) : ∀ q, va_A (Wd M) H.size q → A q := by
  intro q h
  rcases h with ⟨k, e, h⟩ | h
  · exact hD.2 k (q, e) h
  · exact X.2.2.1 q (Nat.le_trans hS.1 h)
theorem z_preOf {Wd : zMem → va_W} {M : zMem} {H : Heap} {locs : List Loc} (X : z_X p m c cc nL s args own R lev D cI cZ A adK adV) (hP : va_P D vwCl (Wd M) H) (hD : va_D A (Wd M)) (hS : va_S A s.heap H locs) : ∀ U : State, U.heap = H → s.WarmedH U.vm → z_pre Wd D cI cZ adK adV M H.size U := fun U hU hW =>
  ⟨by rw [hU], by rw [hU]; exact hP, va_K.moved hW.alike X.2.1, hD.weaken (fun _ _ _ _ => trivial), z_kw_go X.2.2.2.1 hS hU hW (z_freeA X hD hS)⟩
/-- a call of an instance method -/
theorem z_callV {Wd : zMem → va_W} {M M' : zMem} {rv : Option Value} {y : MethodName} {bytes : ByteArray} {maxL n index lev' b : Nat} {ret : Option FieldType} {C : String} {As st0 : List Value} (X : z_X p m c cc nL s args own R lev D cI cZ A adK adV) (hM : z_Ct Wd D cI cZ adK adV l y bytes maxL ret lev' (.ref b :: As) M M' rv)
    (hl1 : Cond.methodLink own index y ∈ z_G) (hy : y.cls = C ∧ y.cls ≠ "java/lang/invoke/MethodHandle" ∧ y.cls ≠ "java/lang/invoke/VarHandle" ∧ (parseMethodDescriptor y.desc).map (fun d => d.parameters.length) = some n) (hyw : Cond.instanceMethod y ∈ z_G ∧ Cond.selects C y y ∈ z_G ∧ Cond.initialized C ∈ z_G ∧ Cond.code y bytes maxL ret ∈ z_G) (hlev : lev' + 1 ≤ lev) (hmax : maxL ≤ 45)
    (hrecv : ∀ (H : Heap) (locs : List Loc), va_P D vwCl (Wd M) H → va_S A s.heap H locs → ∃ cell : Cell, H[b]? = some cell ∧ cell.vm.isStatics = false ∧ s.vm.findClass C = some cell.cls) (hn : As.length = n) (hst : st0 = As.reverse ++ .ref b :: rest) (hrest : (rest.map fun v => v.category).sum ≤ 8) (hf : cells + 0 ≤ R.cells ∧ slots + 0 ≤ R.slots) (hdg : decode cc pc = .ok (.invokevirtual index, 3))
    (kk : z_W p l e R s m args below meth c D A Q nL cells slots (Wd M') (pc + 3) lv (rv.toList ++ rest)) : z_W p l e R s m args below meth c D A Q nL cells slots (Wd M) pc lv st0 := fun H locs ls hP hD hS hl => by
  obtain ⟨i1, i2, i3, i4⟩ := hyw
  have ts := X.1.2.2.2.2
  have hR1 := X.2.2.2.2.1
  have hR2 := X.2.2.2.2.2
  refine z_back (va_runV (As := As) (b := b) (C := C) (n := n) (bytes := bytes) (maxL := maxL) (ret := ret) (Ts := z_G) (rest := rest) X.1 (hM H.size) ⟨callB_of n ts (z_G_good i4) rfl rfl rfl (by rw [hy.1]; exact ts _ i3) (ts _ hl1) hy.2 ⟨by show lev' + 1 ≤ R.frames; omega, by show 8 + (maxL + 11) + 64 * lev' ≤ R.locals; omega⟩, ts _ i1, ts _ i2⟩ ⟨z_blind, hrecv H locs hP hS, fun U hU hW => ⟨rfl, z_preOf X hP hD hS U hU hW⟩⟩ rfl hn hl.1 hst (lv_room hrest) hdg hf) hS (z_freeA X hD hS) hl kk
/-- a call of a static method of the own class or of another one -/
theorem z_callS {Wd : zMem → va_W} {M M' : zMem} {rv : Option Value} {y : MethodName} {bytes : ByteArray} {maxL n index lev' : Nat} {ret : Option FieldType} {As st0 : List Value} (X : z_X p m c cc nL s args own R lev D cI cZ A adK adV) (hM : z_Ct Wd D cI cZ adK adV l y bytes maxL ret lev' As M M' rv)
    (hl1 : Cond.methodLink own index y ∈ z_G) (hy : y.cls ≠ "java/lang/invoke/MethodHandle" ∧ y.cls ≠ "java/lang/invoke/VarHandle" ∧ (parseMethodDescriptor y.desc).map (fun d => d.parameters.length) = some n) (hyw : Cond.static y ∈ z_G ∧ Cond.initialized y.cls ∈ z_G ∧ Cond.code y bytes maxL ret ∈ z_G) (hlev : lev' + 1 ≤ lev) (hmax : maxL ≤ 45)
    (hn : As.length = n) (hst : st0 = As.reverse ++ rest) (hrest : (rest.map fun v => v.category).sum ≤ 8) (hf : cells + 0 ≤ R.cells ∧ slots + 0 ≤ R.slots) (hdg : decode cc pc = .ok (.invokestatic index, 3))
    (kk : z_W p l e R s m args below meth c D A Q nL cells slots (Wd M') (pc + 3) lv (rv.toList ++ rest)) : z_W p l e R s m args below meth c D A Q nL cells slots (Wd M) pc lv st0 := fun H locs ls hP hD hS hl => by
  obtain ⟨i1, i3, i4⟩ := hyw
  have ts := X.1.2.2.2.2
  have hR1 := X.2.2.2.2.1
  have hR2 := X.2.2.2.2.2
  refine z_back (va_runS (As := As) (n := n) (bytes := bytes) (maxL := maxL) (ret := ret) (Ts := z_G) (rest := rest) X.1 (hM H.size) ⟨callB_of n ts (z_G_good i4) rfl rfl rfl (ts _ i3) (ts _ hl1) hy ⟨by show lev' + 1 ≤ R.frames; omega, by show 8 + (maxL + 11) + 64 * lev' ≤ R.locals; omega⟩, ts _ i1⟩ ⟨z_blind, fun U hU hW => ⟨rfl, z_preOf X hP hD hS U hU hW⟩⟩ rfl hn hl.1 hst (lv_room hrest) hdg hf) hS (z_freeA X hD hS) hl kk
/-- a call of a private static method of a nest mate -/
theorem z_callN {Wd : zMem → va_W} {M M' : zMem} {rv : Option Value} {y : MethodName} {bytes : ByteArray} {maxL n index lev' : Nat} {host : String} {ret : Option FieldType} {As st0 : List Value} (X : z_X p m c cc nL s args own R lev D cI cZ A adK adV) (hM : z_Ct Wd D cI cZ adK adV l y bytes maxL ret lev' As M M' rv)
    (hl1 : Cond.methodLinkNest own index y host ∈ z_nest) (hy : y.cls ≠ "java/lang/invoke/MethodHandle" ∧ y.cls ≠ "java/lang/invoke/VarHandle" ∧ (parseMethodDescriptor y.desc).map (fun d => d.parameters.length) = some n) (hyw : Cond.static y ∈ z_G ∧ Cond.initialized y.cls ∈ z_G ∧ Cond.code y bytes maxL ret ∈ z_G) (hlev : lev' + 1 ≤ lev) (hmax : maxL ≤ 45)
    (hn : As.length = n) (hst : st0 = As.reverse ++ rest) (hrest : (rest.map fun v => v.category).sum ≤ 8) (hf : cells + 0 ≤ R.cells ∧ slots + 0 ≤ R.slots) (hdg : decode cc pc = .ok (.invokestatic index, 3))
    (kk : z_W p l e R s m args below meth c D A Q nL cells slots (Wd M') (pc + 3) lv (rv.toList ++ rest)) : z_W p l e R s m args below meth c D A Q nL cells slots (Wd M) pc lv st0 := fun H locs ls hP hD hS hl => by
  obtain ⟨i1, i3, i4⟩ := hyw
  have ts := X.1.2.2.2.2
  have hR1 := X.2.2.2.2.1
  have hR2 := X.2.2.2.2.2
  refine z_back (va_runSN (As := As) (n := n) (bytes := bytes) (maxL := maxL) (ret := ret) (Ts := z_G) (rest := rest) X.1 (hM H.size) ⟨va_cnB n ts (z_G_good i4) rfl rfl rfl (X.2.2.2.1.2.2.2.2 _ hl1) (ts _ i3) hy ⟨by show lev' + 1 ≤ R.frames; omega, by show 8 + (maxL + 11) + 64 * lev' ≤ R.locals; omega⟩, ts _ i1, trivial⟩ ⟨z_blind, fun U hU hW => ⟨rfl, z_preOf X hP hD hS U hU hW⟩⟩ rfl hn hl.1 hst (lv_room hrest) hdg hf) hS (z_freeA X hD hS) hl kk
theorem z_callVi {Wd : zMem → va_W} {M M' : zMem} {r : Int} {y : MethodName} {bytes : ByteArray} {maxL n index lev' b : Nat} {ret : Option FieldType} {C : String} {As st0 : List Value} (X : z_X p m c cc nL s args own R lev D cI cZ A adK adV) (hM : z_Ct Wd D cI cZ adK adV l y bytes maxL ret lev' (.ref b :: As) M M' (some (.int (z_I r))))
    (hl1 : Cond.methodLink own index y ∈ z_G) (hy : y.cls = C ∧ y.cls ≠ "java/lang/invoke/MethodHandle" ∧ y.cls ≠ "java/lang/invoke/VarHandle" ∧ (parseMethodDescriptor y.desc).map (fun d => d.parameters.length) = some n) (hyw : Cond.instanceMethod y ∈ z_G ∧ Cond.selects C y y ∈ z_G ∧ Cond.initialized C ∈ z_G ∧ Cond.code y bytes maxL ret ∈ z_G) (hlev : lev' + 1 ≤ lev) (hmax : maxL ≤ 45)
    (hrecv : ∀ (H : Heap) (locs : List Loc), va_P D vwCl (Wd M) H → va_S A s.heap H locs → ∃ cell : Cell, H[b]? = some cell ∧ cell.vm.isStatics = false ∧ s.vm.findClass C = some cell.cls) (hn : As.length = n) (hst : st0 = As.reverse ++ .ref b :: rest) (hrest : (rest.map fun v => v.category).sum ≤ 8) (hf : cells + 0 ≤ R.cells ∧ slots + 0 ≤ R.slots) (hdg : decode cc pc = .ok (.invokevirtual index, 3))
    (kk : z_W p l e R s m args below meth c D A Q nL cells slots (Wd M') (pc + 3) lv (.int (z_I r) :: rest)) : z_W p l e R s m args below meth c D A Q nL cells slots (Wd M) pc lv st0 :=
  z_callV (rv := (some (.int (z_I r)))) X hM hl1 hy hyw hlev hmax hrecv hn hst hrest hf hdg kk
theorem z_callVv {Wd : zMem → va_W} {M M' : zMem}  {y : MethodName} {bytes : ByteArray} {maxL n index lev' b : Nat} {ret : Option FieldType} {C : String} {As st0 : List Value} (X : z_X p m c cc nL s args own R lev D cI cZ A adK adV) (hM : z_Ct Wd D cI cZ adK adV l y bytes maxL ret lev' (.ref b :: As) M M' none)
    (hl1 : Cond.methodLink own index y ∈ z_G) (hy : y.cls = C ∧ y.cls ≠ "java/lang/invoke/MethodHandle" ∧ y.cls ≠ "java/lang/invoke/VarHandle" ∧ (parseMethodDescriptor y.desc).map (fun d => d.parameters.length) = some n) (hyw : Cond.instanceMethod y ∈ z_G ∧ Cond.selects C y y ∈ z_G ∧ Cond.initialized C ∈ z_G ∧ Cond.code y bytes maxL ret ∈ z_G) (hlev : lev' + 1 ≤ lev) (hmax : maxL ≤ 45)
    (hrecv : ∀ (H : Heap) (locs : List Loc), va_P D vwCl (Wd M) H → va_S A s.heap H locs → ∃ cell : Cell, H[b]? = some cell ∧ cell.vm.isStatics = false ∧ s.vm.findClass C = some cell.cls) (hn : As.length = n) (hst : st0 = As.reverse ++ .ref b :: rest) (hrest : (rest.map fun v => v.category).sum ≤ 8) (hf : cells + 0 ≤ R.cells ∧ slots + 0 ≤ R.slots) (hdg : decode cc pc = .ok (.invokevirtual index, 3))
    (kk : z_W p l e R s m args below meth c D A Q nL cells slots (Wd M') (pc + 3) lv (rest)) : z_W p l e R s m args below meth c D A Q nL cells slots (Wd M) pc lv st0 :=
  z_callV (rv := none) X hM hl1 hy hyw hlev hmax hrecv hn hst hrest hf hdg kk
theorem z_callVl {Wd : zMem → va_W} {M M' : zMem} {r : Int} {y : MethodName} {bytes : ByteArray} {maxL n index lev' b : Nat} {ret : Option FieldType} {C : String} {As st0 : List Value} (X : z_X p m c cc nL s args own R lev D cI cZ A adK adV) (hM : z_Ct Wd D cI cZ adK adV l y bytes maxL ret lev' (.ref b :: As) M M' (some (.long (z_L r))))
    (hl1 : Cond.methodLink own index y ∈ z_G) (hy : y.cls = C ∧ y.cls ≠ "java/lang/invoke/MethodHandle" ∧ y.cls ≠ "java/lang/invoke/VarHandle" ∧ (parseMethodDescriptor y.desc).map (fun d => d.parameters.length) = some n) (hyw : Cond.instanceMethod y ∈ z_G ∧ Cond.selects C y y ∈ z_G ∧ Cond.initialized C ∈ z_G ∧ Cond.code y bytes maxL ret ∈ z_G) (hlev : lev' + 1 ≤ lev) (hmax : maxL ≤ 45)
    (hrecv : ∀ (H : Heap) (locs : List Loc), va_P D vwCl (Wd M) H → va_S A s.heap H locs → ∃ cell : Cell, H[b]? = some cell ∧ cell.vm.isStatics = false ∧ s.vm.findClass C = some cell.cls) (hn : As.length = n) (hst : st0 = As.reverse ++ .ref b :: rest) (hrest : (rest.map fun v => v.category).sum ≤ 8) (hf : cells + 0 ≤ R.cells ∧ slots + 0 ≤ R.slots) (hdg : decode cc pc = .ok (.invokevirtual index, 3))
    (kk : z_W p l e R s m args below meth c D A Q nL cells slots (Wd M') (pc + 3) lv (.long (z_L r) :: rest)) : z_W p l e R s m args below meth c D A Q nL cells slots (Wd M) pc lv st0 :=
  z_callV (rv := (some (.long (z_L r)))) X hM hl1 hy hyw hlev hmax hrecv hn hst hrest hf hdg kk
theorem z_callSi {Wd : zMem → va_W} {M M' : zMem} {r : Int} {y : MethodName} {bytes : ByteArray} {maxL n index lev' : Nat} {ret : Option FieldType} {As st0 : List Value} (X : z_X p m c cc nL s args own R lev D cI cZ A adK adV) (hM : z_Ct Wd D cI cZ adK adV l y bytes maxL ret lev' As M M' (some (.int (z_I r))))
    (hl1 : Cond.methodLink own index y ∈ z_G) (hy : y.cls ≠ "java/lang/invoke/MethodHandle" ∧ y.cls ≠ "java/lang/invoke/VarHandle" ∧ (parseMethodDescriptor y.desc).map (fun d => d.parameters.length) = some n) (hyw : Cond.static y ∈ z_G ∧ Cond.initialized y.cls ∈ z_G ∧ Cond.code y bytes maxL ret ∈ z_G) (hlev : lev' + 1 ≤ lev) (hmax : maxL ≤ 45)
    (hn : As.length = n) (hst : st0 = As.reverse ++ rest) (hrest : (rest.map fun v => v.category).sum ≤ 8) (hf : cells + 0 ≤ R.cells ∧ slots + 0 ≤ R.slots) (hdg : decode cc pc = .ok (.invokestatic index, 3))
    (kk : z_W p l e R s m args below meth c D A Q nL cells slots (Wd M') (pc + 3) lv (.int (z_I r) :: rest)) : z_W p l e R s m args below meth c D A Q nL cells slots (Wd M) pc lv st0 :=
  z_callS (rv := (some (.int (z_I r)))) X hM hl1 hy hyw hlev hmax hn hst hrest hf hdg kk
theorem z_callSv {Wd : zMem → va_W} {M M' : zMem}  {y : MethodName} {bytes : ByteArray} {maxL n index lev' : Nat} {ret : Option FieldType} {As st0 : List Value} (X : z_X p m c cc nL s args own R lev D cI cZ A adK adV) (hM : z_Ct Wd D cI cZ adK adV l y bytes maxL ret lev' As M M' none)
    (hl1 : Cond.methodLink own index y ∈ z_G) (hy : y.cls ≠ "java/lang/invoke/MethodHandle" ∧ y.cls ≠ "java/lang/invoke/VarHandle" ∧ (parseMethodDescriptor y.desc).map (fun d => d.parameters.length) = some n) (hyw : Cond.static y ∈ z_G ∧ Cond.initialized y.cls ∈ z_G ∧ Cond.code y bytes maxL ret ∈ z_G) (hlev : lev' + 1 ≤ lev) (hmax : maxL ≤ 45)
    (hn : As.length = n) (hst : st0 = As.reverse ++ rest) (hrest : (rest.map fun v => v.category).sum ≤ 8) (hf : cells + 0 ≤ R.cells ∧ slots + 0 ≤ R.slots) (hdg : decode cc pc = .ok (.invokestatic index, 3))
    (kk : z_W p l e R s m args below meth c D A Q nL cells slots (Wd M') (pc + 3) lv (rest)) : z_W p l e R s m args below meth c D A Q nL cells slots (Wd M) pc lv st0 :=
  z_callS (rv := none) X hM hl1 hy hyw hlev hmax hn hst hrest hf hdg kk
theorem z_callSl {Wd : zMem → va_W} {M M' : zMem} {r : Int} {y : MethodName} {bytes : ByteArray} {maxL n index lev' : Nat} {ret : Option FieldType} {As st0 : List Value} (X : z_X p m c cc nL s args own R lev D cI cZ A adK adV) (hM : z_Ct Wd D cI cZ adK adV l y bytes maxL ret lev' As M M' (some (.long (z_L r))))
    (hl1 : Cond.methodLink own index y ∈ z_G) (hy : y.cls ≠ "java/lang/invoke/MethodHandle" ∧ y.cls ≠ "java/lang/invoke/VarHandle" ∧ (parseMethodDescriptor y.desc).map (fun d => d.parameters.length) = some n) (hyw : Cond.static y ∈ z_G ∧ Cond.initialized y.cls ∈ z_G ∧ Cond.code y bytes maxL ret ∈ z_G) (hlev : lev' + 1 ≤ lev) (hmax : maxL ≤ 45)
    (hn : As.length = n) (hst : st0 = As.reverse ++ rest) (hrest : (rest.map fun v => v.category).sum ≤ 8) (hf : cells + 0 ≤ R.cells ∧ slots + 0 ≤ R.slots) (hdg : decode cc pc = .ok (.invokestatic index, 3))
    (kk : z_W p l e R s m args below meth c D A Q nL cells slots (Wd M') (pc + 3) lv (.long (z_L r) :: rest)) : z_W p l e R s m args below meth c D A Q nL cells slots (Wd M) pc lv st0 :=
  z_callS (rv := (some (.long (z_L r)))) X hM hl1 hy hyw hlev hmax hn hst hrest hf hdg kk
theorem z_callNi {Wd : zMem → va_W} {M M' : zMem} {r : Int} {y : MethodName} {bytes : ByteArray} {maxL n index lev' : Nat} {host : String} {ret : Option FieldType} {As st0 : List Value} (X : z_X p m c cc nL s args own R lev D cI cZ A adK adV) (hM : z_Ct Wd D cI cZ adK adV l y bytes maxL ret lev' As M M' (some (.int (z_I r))))
    (hl1 : Cond.methodLinkNest own index y host ∈ z_nest) (hy : y.cls ≠ "java/lang/invoke/MethodHandle" ∧ y.cls ≠ "java/lang/invoke/VarHandle" ∧ (parseMethodDescriptor y.desc).map (fun d => d.parameters.length) = some n) (hyw : Cond.static y ∈ z_G ∧ Cond.initialized y.cls ∈ z_G ∧ Cond.code y bytes maxL ret ∈ z_G) (hlev : lev' + 1 ≤ lev) (hmax : maxL ≤ 45)
    (hn : As.length = n) (hst : st0 = As.reverse ++ rest) (hrest : (rest.map fun v => v.category).sum ≤ 8) (hf : cells + 0 ≤ R.cells ∧ slots + 0 ≤ R.slots) (hdg : decode cc pc = .ok (.invokestatic index, 3))
    (kk : z_W p l e R s m args below meth c D A Q nL cells slots (Wd M') (pc + 3) lv (.int (z_I r) :: rest)) : z_W p l e R s m args below meth c D A Q nL cells slots (Wd M) pc lv st0 :=
  z_callN (rv := (some (.int (z_I r)))) X hM hl1 hy hyw hlev hmax hn hst hrest hf hdg kk
theorem z_callNv {Wd : zMem → va_W} {M M' : zMem}  {y : MethodName} {bytes : ByteArray} {maxL n index lev' : Nat} {host : String} {ret : Option FieldType} {As st0 : List Value} (X : z_X p m c cc nL s args own R lev D cI cZ A adK adV) (hM : z_Ct Wd D cI cZ adK adV l y bytes maxL ret lev' As M M' none)
    (hl1 : Cond.methodLinkNest own index y host ∈ z_nest) (hy : y.cls ≠ "java/lang/invoke/MethodHandle" ∧ y.cls ≠ "java/lang/invoke/VarHandle" ∧ (parseMethodDescriptor y.desc).map (fun d => d.parameters.length) = some n) (hyw : Cond.static y ∈ z_G ∧ Cond.initialized y.cls ∈ z_G ∧ Cond.code y bytes maxL ret ∈ z_G) (hlev : lev' + 1 ≤ lev) (hmax : maxL ≤ 45)
    (hn : As.length = n) (hst : st0 = As.reverse ++ rest) (hrest : (rest.map fun v => v.category).sum ≤ 8) (hf : cells + 0 ≤ R.cells ∧ slots + 0 ≤ R.slots) (hdg : decode cc pc = .ok (.invokestatic index, 3))
    (kk : z_W p l e R s m args below meth c D A Q nL cells slots (Wd M') (pc + 3) lv (rest)) : z_W p l e R s m args below meth c D A Q nL cells slots (Wd M) pc lv st0 :=
  z_callN (rv := none) X hM hl1 hy hyw hlev hmax hn hst hrest hf hdg kk
theorem z_callNl {Wd : zMem → va_W} {M M' : zMem} {r : Int} {y : MethodName} {bytes : ByteArray} {maxL n index lev' : Nat} {host : String} {ret : Option FieldType} {As st0 : List Value} (X : z_X p m c cc nL s args own R lev D cI cZ A adK adV) (hM : z_Ct Wd D cI cZ adK adV l y bytes maxL ret lev' As M M' (some (.long (z_L r))))
    (hl1 : Cond.methodLinkNest own index y host ∈ z_nest) (hy : y.cls ≠ "java/lang/invoke/MethodHandle" ∧ y.cls ≠ "java/lang/invoke/VarHandle" ∧ (parseMethodDescriptor y.desc).map (fun d => d.parameters.length) = some n) (hyw : Cond.static y ∈ z_G ∧ Cond.initialized y.cls ∈ z_G ∧ Cond.code y bytes maxL ret ∈ z_G) (hlev : lev' + 1 ≤ lev) (hmax : maxL ≤ 45)
    (hn : As.length = n) (hst : st0 = As.reverse ++ rest) (hrest : (rest.map fun v => v.category).sum ≤ 8) (hf : cells + 0 ≤ R.cells ∧ slots + 0 ≤ R.slots) (hdg : decode cc pc = .ok (.invokestatic index, 3))
    (kk : z_W p l e R s m args below meth c D A Q nL cells slots (Wd M') (pc + 3) lv (.long (z_L r) :: rest)) : z_W p l e R s m args below meth c D A Q nL cells slots (Wd M) pc lv st0 :=
  z_callN (rv := (some (.long (z_L r)))) X hM hl1 hy hyw hlev hmax hn hst hrest hf hdg kk
/-- a String constant is pushed -/
theorem z_ldcS (X : z_X p m c cc nL s args own R lev D cI cZ A adK adV) {index : Nat} (i : Nat) (hi : i < 27) (ho : z_sOwn.getD i "" = own) (hx : z_sIdx.getD i 0 = index) (hdg : decode cc pc = .ok (.ldc index, 2)) (kk : z_W p l e R s m args below meth c D A Q nL cells slots ws (pc + 2) lv (.ref (adK i) :: rest)) : z_W p l e R s m args below meth c D A Q nL cells slots ws pc lv rest := fun H locs ls hP hD hS hl => by
  have h := X.2.2.2.1.2.1 i hi
  rw [ho, hx] at h
  exact va_ldcS X.1.1 X.1.2.1 X.1.2.2.2.1 h hdg (kk H locs ls hP hD hS hl)
/-- System.arraycopy of whole numbers, from one cell to another -/
theorem z_copy {Wd : zMem → va_W} {res : Int × zMem} {M : zMem} {K : zMem → zO} {qs qd a0 a n0 n1 index : Nat} {ns nd sp dp n : Int} (X : z_X p m c cc nL s args own R lev D cI cZ A adK adV) (hlink : Cond.methodLink own index arraycopyName ∈ z_G) (hw : Cond.native arraycopyName ∈ z_G ∧ Cond.static arraycopyName ∈ z_G ∧ Cond.initialized "java/lang/System" ∈ z_G) (hlev : 1 ≤ lev)
    (ha0 : (Wd M)[qs]? = some (a0, .inl (cI, n0, .inl (fun j : Nat => z_I (M qs (j : Int)))))) (ha1 : (Wd M)[qd]? = some (a, .inl (cI, n1, .inl (fun j : Nat => z_I (M qd (j : Int)))))) (hn0 : ns = (n0 : Int)) (hn1 : nd = (n1 : Int)) (hs0 : n0 < 2147483648) (hs1 : n1 < 2147483648)
    (hset : ∀ f : Int → Int, (Wd M).set qd (a, .inl (cI, n1, .inl (fun j : Nat => z_I (f (j : Int))))) = Wd (fun c' j => if c' = qd then f j else M c' j)) (hrest : (rest.map fun v => v.category).sum ≤ 8) (hdg : decode cc pc = .ok (.invokestatic index, 3)) (h : z_cp M qs ns sp qd nd dp n K = some res)
    (kk : ∀ M', K M' = some res → z_W p l e R s m args below meth c D A Q nL cells slots (Wd M') (pc + 3) lv rest) : z_W p l e R s m args below meth c D A Q nL cells slots (Wd M) pc lv (.int (z_I n) :: .int (z_I dp) :: .ref a :: .int (z_I sp) :: .ref a0 :: rest) := fun H locs ls hP hD hS hl => by
  unfold z_cp at h
  split at h
  · rename_i hc
    subst hn0; subst hn1
    have r1 : z_Rg sp := by omega
    have r2 : z_Rg dp := by omega
    have r3 : z_Rg n := by omega
    have ng : ∀ x : Int, z_Rg x → 0 ≤ x → ¬ z_I x < 0 := fun x hx h0 hlt => by
      rw [Int32.lt_iff_toInt_lt, z_I_in hx] at hlt
      have : (0 : Int32).toInt = 0 := rfl
      omega
    have ts := X.1.2.2.2.2
    have hR1 := X.2.2.2.2.1
    have hR2 := X.2.2.2.2.2
    have hw11 : nativeFrameWords "java/lang/System" "arraycopy" 5 + 11 ≤ 40 := by decide +kernel
    refine va_copyi (D := D) (ty := .int) X.1.1 X.1.2.1 (by rw [X.1.2.2.1]; exact hl.1.symm) X.1.2.2.2.1 (ts _ hlink) (ts _ hw.1) (ts _ hw.2.1) (ts _ hw.2.2) X.2.1 hP hD hS qs qd 0 0 ha0 ha1 rfl rfl rfl (ng _ r1 hc.1) (ng _ r2 hc.2.1) (ng _ r3 hc.2.2.1) (by rw [z_nat r1, z_nat r3]; omega) (by rw [z_nat r2, z_nat r3]; omega) (fun i hi => rfl) (by omega) (by omega) hdg (fun H1 locs1 g1 g2 g3 => ?_)
    have e : va_cpy (fun j : Nat => z_I (M qs (j : Int))) (fun j : Nat => z_I (M qd (j : Int))) (z_I sp).toNatClampNeg (z_I dp).toNatClampNeg (z_I n).toNatClampNeg = fun j : Nat => z_I ((fun j : Int => if dp ≤ j ∧ j < dp + n then M qs (sp + (j - dp)) else M qd j) (j : Int)) := by
      rw [z_nat r1, z_nat r2, z_nat r3]
      funext j
      unfold va_cpy
      by_cases hj : dp.toNat ≤ j ∧ j < dp.toNat + n.toNat
      · have h2 : dp ≤ (j : Int) ∧ (j : Int) < dp + n := by omega
        have h3 : ((sp.toNat + (j - dp.toNat) : Nat) : Int) = sp + ((j : Int) - dp) := by omega
        simp only [if_pos hj, if_pos h2, h3]
      · have h2 : ¬ (dp ≤ (j : Int) ∧ (j : Int) < dp + n) := by omega
        simp only [if_neg hj, if_neg h2]
    rw [e, hset (fun j : Int => if dp ≤ j ∧ j < dp + n then M qs (sp + (j - dp)) else M qd j)] at g1 g2
    have e2 : (fun c' j => if c' = qd then (fun j : Int => if dp ≤ j ∧ j < dp + n then M qs (sp + (j - dp)) else M qd j) j else M c' j) = (fun c' j => if c' = qd then (if dp ≤ j ∧ j < dp + n then M qs (sp + (j - dp)) else M c' j) else M c' j : zMem) := by
      funext c' j
      by_cases hcc : c' = qd
      · subst hcc; simp
      · simp [hcc]
    rw [e2] at g1 g2
    exact kk _ h H1 locs1 ls g1 g2 g3 hl
  · cases h
theorem z_nmI {res : Int × zMem} {x : Int} {K : Int → zO} (h : z_nm x K = some res) (kk : ∀ y : Int, K y = some res → z_W p l e R s m args below meth c D A Q nL cells slots ws pc lv (.int (z_I y) :: rest)) : z_W p l e R s m args below meth c D A Q nL cells slots ws pc lv (.int (z_I x) :: rest) := kk x h
theorem z_nmL {res : Int × zMem} {x : Int} {K : Int → zO} (h : z_nm x K = some res) (kk : ∀ y : Int, K y = some res → z_W p l e R s m args below meth c D A Q nL cells slots ws pc lv (.long (z_L y) :: rest)) : z_W p l e R s m args below meth c D A Q nL cells slots ws pc lv (.long (z_L x) :: rest) := kk x h
theorem z_iincn (Z : CallFix p m c cc nL s args z_G own) {res : Int × zMem} {i k : Nat} {n x : Int} {K : Int → zO} (lv' : Int → List (Nat × Value)) (hdg : decode cc pc = .ok (.iinc i n, 3)) (hk : lv[k]? = some (i, .int (z_I x))) (hn : i < nL) (hl2 : ∀ z : Int, (i, Value.int (z_I z)) :: lv.filter (fun q => !(q.1 == i) && !(q.1 + 1 == i && q.2.category == 2)) = lv' z) (h : z_nm (x + n) K = some res) (kk : ∀ z : Int, K z = some res → z_W p l e R s m args below meth c D A Q nL cells slots ws (pc + 3) (lv' z) rest) : z_W p l e R s m args below meth c D A Q nL cells slots ws pc lv rest := z_iinc (lv' := lv' (x + n)) Z hdg hk hn (hl2 (x + n)) (kk _ h)
end ZH

