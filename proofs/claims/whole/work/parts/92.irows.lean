/-! rows for constructors -/
def z_Qi (D : va_G) (cI cZ : ClassId) (w1 : (Nat → Nat) → va_W) (A : Nat → Prop) : Array Value → State → Outcome → State → Prop := fun _ st oc t => oc = .returned none ∧ ∃ f : Nat → Nat, va_P D vwCl (w1 f) t.heap ∧ va_K D vwCl (z_tys cI cZ) t ∧ va_D A (w1 f) ∧ va_F A st t
def z_Ci (D : va_G) (cI cZ : ClassId) (adK adV : Nat → Nat) (l : Launch) (y : MethodName) (cc : ByteArray) (maxL lev mc ms : Nat) (As : List Value) (w0 : va_W) (w1 : (Nat → Nat) → va_W) : Prop :=
  ∀ sz : Nat, Met l y (.code y cc maxL none :: z_G) { frames := lev, cells := mc, slots := ms, locals := 64 * lev } (va_Pc As (z_pre (fun _ => w0) D cI cZ adK adV (fun _ _ => 0) sz)) (z_Qi D cI cZ w1 (va_A w0 sz)) mc ms (va_A w0 sz)
theorem ow_obj : Cond.instanceMethod Lib.objectInit ∈ z_G ∧ Cond.code Lib.objectInit ⟨#[0xb1]⟩ 1 none ∈ z_G := ⟨z_G_in (i := 130) (by decide +kernel) (by decide +kernel), z_G_in (i := 131) rfl rfl⟩
section ZI
variable {l : Launch} {y : MethodName} {cc : ByteArray} {maxL : Nat} {lev mc ms : Nat} {D : va_G} {cI cZ : ClassId} {adK adV : Nat → Nat} {As : List Value} {w0 : va_W} {w1 : (Nat → Nat) → va_W}
theorem z_entryI {own : String} (ho : y.cls = own) (hy : plainName y.cls = true) (hyn : y.name = "<init>") (hn : (lg_sl As).length ≤ maxL)
    (body : ∀ (p : Program) (e : Env) (s : State) (m : MethodId) (args : Array Value) (below : List Frame) (meth : Method) (c : Code) (R : Room) (A : Nat → Prop), mc ≤ R.cells ∧ ms ≤ R.slots → meth.name = "<init>" → z_X p m c cc maxL s args own R lev D cI cZ A adK adV → meth.sig.returnType = none → meth.locks = false →
      z_W p l e R s m args below meth c D A (MQ below (z_Qi D cI cZ w1 A) args s mc ms A) maxL 0 0 w0 0 (lv_args 0 As) []) : z_Ci D cI cZ adK adV l y cc maxL lev mc ms As w0 w1 := by
  intro sz
  refine Met.ofW (cc := cc) (maxL := maxL) (ret := none) hy rfl ?_
  intro p e s m args below meth c s₁ B hml hv
  obtain ⟨rfl, hsz, hP, hK, hD0, hE⟩ := hv
  have hts := atoms_spec (ws := .code y cc maxL none :: z_G) B.pre
  have hown : s.vm.findClass own = some m.cls := by rw [← ho]; exact findClass_of_methodNamed B.named
  have hin : meth.name = "<init>" := by rw [← hyn]; exact (name_of_methodNamed B.named B.method).1
  subst hsz
  have hD := hD0.self (sz := s.heap.size)
  have hl := lv_entry As (n := maxL) hn
  rw [lg_entry_eq]
  exact body p e s m _ below meth c _ _ ⟨Nat.le_refl _, Nat.le_refl _⟩ hin ⟨⟨B.exec, B.bytes, hml, hown, fun w hw => hts w (List.mem_cons_of_mem _ hw)⟩, hK, fun q h => Or.inr h, hE, Nat.le_refl _, Nat.le_refl _⟩ B.returns B.notSynchronized _ _ _ hP hD va_S.rf hl
end ZI
section ZJ
variable {p : Program} {l : Launch} {e : Env} {R : Room} {s : State} {m : MethodId} {args : Array Value} {below : List Frame} {meth : Method} {c : Code} {Q : State → Prop} {cells slots : Nat} {D : va_G} {A : Nat → Prop} {nL : Nat} {ws ws' : va_W} {cc : ByteArray} {pc : Nat} {lv : List (Nat × Value)} {rest : List Value} {own : String} {lev : Nat} {cI cZ : ClassId} {adK adV : Nat → Nat}
theorem z_objI (X : z_X p m c cc nL s args own R lev D cI cZ A adK adV) {a idx : Nat} (hl1 : Cond.methodLink own idx Lib.objectInit ∈ z_G) (hlev : 1 ≤ lev) (hdg : decode cc pc = .ok (.invokespecial idx, 3)) (kk : z_W p l e R s m args below meth c D A Q nL cells slots ws (pc + 3) lv []) : z_W p l e R s m args below meth c D A Q nL cells slots ws pc lv [.ref a] := fun H locs ls hP hD hS hl => by
  have h1 := X.2.2.2.2.1
  have h2 := X.2.2.2.2.2
  exact W.objInit X.1.1 X.1.2.1 X.1.2.2.2.1 (X.1.2.2.2.2 _ hl1) (X.1.2.2.2.2 _ ow_obj.1) (X.1.2.2.2.2 _ ow_obj.2) rfl (by rw [X.1.2.2.1]; exact hl.1) rfl hdg (by omega) (by show 2 * 0 + 0 + 12 ≤ R.locals; omega) (kk H locs ls hP hD hS hl)
theorem z_newaI {n : Nat} {nn : Int} {w2 : Nat → va_W} (X : z_X p m c cc nL s args own R lev D cI cZ A adK adV) (hR : cells + 1 ≤ R.cells ∧ slots + n ≤ R.slots) (hn : ¬ z_I nn < 0 ∧ (z_I nn).toNatClampNeg = n ∧ n * 4 ≤ 536870912) (hw : ∀ q : Nat, ws ++ [(q, .inl (cI, n, .inl (fun _ => 0)))] = w2 q) (hdg : decode cc pc = .ok (.newarray .int, 2)) (kk : ∀ q : Nat, z_W p l e R s m args below meth c D A Q nL (cells + 1) (slots + n) (w2 q) (pc + 2) lv (.ref q :: rest)) : z_W p l e R s m args below meth c D A Q nL cells slots ws pc lv (.int (z_I nn) :: rest) :=
  z_newa X hR hn hdg (fun q => by rw [hw]; exact kk q)
theorem z_newzI {n : Nat} {nn : Int} {w2 : Nat → va_W} (X : z_X p m c cc nL s args own R lev D cI cZ A adK adV) (hR : cells + 1 ≤ R.cells ∧ slots + n ≤ R.slots) (hn : ¬ z_I nn < 0 ∧ (z_I nn).toNatClampNeg = n ∧ n * 1 ≤ 536870912) (hw : ∀ q : Nat, ws ++ [(q, .inl (cZ, n, .inl (fun _ => 0)))] = w2 q) (hdg : decode cc pc = .ok (.newarray .boolean, 2)) (kk : ∀ q : Nat, z_W p l e R s m args below meth c D A Q nL (cells + 1) (slots + n) (w2 q) (pc + 2) lv (.ref q :: rest)) : z_W p l e R s m args below meth c D A Q nL cells slots ws pc lv (.int (z_I nn) :: rest) :=
  z_newz X hR hn hdg (fun q => by rw [hw]; exact kk q)
theorem z_newo (X : z_X p m c cc nL s args own R lev D cI cZ A adK adV) {ci index n : Nat} {C : String} {T : u_T} {w2 : Nat → va_W} (hin : ∀ w ∈ u_ws C T n, w ∈ z_G) (ty0 : Nat → FieldType) (hty : ∀ k, k < n → parseFieldDescriptor (T k).2.2.1 = some (ty0 k)) (hcl : Cond.classLink own index C ∈ z_G) (hinst : Cond.instantiable C n ∈ z_G) (hini : Cond.initialized C ∈ z_G) (hc : vwCl[ci]? = some (C, T, n)) (fs : List Value) (hfs : ∀ j, j < n → defaultValue (ty0 j) = vp_V fs j) (hR : cells + 1 ≤ R.cells ∧ slots + n ≤ R.slots) (hw : ∀ q : Nat, ws ++ [(q, .inr (ci, fs))] = w2 q) (hdg : decode cc pc = .ok (.new index, 3))
    (kk : ∀ q : Nat, z_W p l e R s m args below meth c D A Q nL (cells + 1) (slots + n) (w2 q) (pc + 3) lv (.ref q :: rest)) : z_W p l e R s m args below meth c D A Q nL cells slots ws pc lv rest := fun H locs ls hP hD hS hl =>
  va_new (D := D) (C := C) (T := T) (N := n) (ci := ci) X.1.1 X.1.2.1 X.1.2.2.2.2 hin ty0 hty X.1.2.2.2.1 (X.1.2.2.2.2 _ hcl) (X.1.2.2.2.2 _ hinst) (X.1.2.2.2.2 _ hini) X.2.1 hP hD hS X.2.2.1 hc hfs hR.1 hR.2 hdg (fun q H1 g1 g2 g3 => kk q H1 locs ls (by rw [← hw]; exact g1) (by rw [← hw]; exact g2) g3 hl)
theorem z_putf (X : z_X p m c cc nL s args own R lev D cI cZ A adK adV) (hin2 : meth.name = "<init>") {q0 a ci index N : Nat} {C ref : String} {T : u_T} {fs : List Value} {v : Value} (hin : ∀ w ∈ u_ws C T N, w ∈ z_G) (ty0 : Nat → FieldType) (hty : ∀ k, k < N → parseFieldDescriptor (T k).2.2.1 = some (ty0 k)) (hnm : ∀ a, a < N → ∀ b, b < N → a ≠ b → (T a).2.1 ≠ (T b).2.1) (he : ws[q0]? = some (a, .inr (ci, fs))) (hc : vwCl[ci]? = some (C, T, N)) (k : Nat) (hk : k < N) (hlink : Cond.fieldLink own index ref (T k).2.1 (T k).2.2.1 ∈ z_G) (href : ref = (T k).1) (hfin : (T k).2.2.2 = true) (hdecl : (T k).1 = own) (hn : narrow (ty0 k) v = v) (hfit : fits (ty0 k) v = true) (hl0 : k < fs.length) (hset : ws.set q0 (a, .inr (ci, fs.set k v)) = ws') (hdg : decode cc pc = .ok (.putfield index, 3))
    (kk : z_W p l e R s m args below meth c D A Q nL cells slots ws' (pc + 3) lv rest) : z_W p l e R s m args below meth c D A Q nL cells slots ws pc lv (v :: .ref a :: rest) := fun H locs ls hP hD hS hl => by
  subst href
  exact va_putF (D := D) (C := C) (T := T) (N := N) X.1.1 X.1.2.1 X.1.2.2.2.2 hin ty0 hty hnm X.1.2.2.2.1 X.2.1 hP hD hS q0 he hc k hk (X.1.2.2.2.2 _ hlink) (fun _ h => h) hfin hin2 hdecl (hty k hk) hn hfit hl0 hdg (fun H1 locs1 g1 g2 g3 => kk H1 locs1 ls (by rw [hset] at g1; exact g1) (by rw [hset] at g2; exact g2) g3 hl)
theorem z_backI {w0 wr : va_W} {w1 : (Nat → Nat) → va_W} {mc ms : Nat} {a : Array Value} {H : Heap} {locs : List Loc} {ls : Array Slot} {st0 : List Value} (hr : va_Run p l e R s m args below meth c H locs cells slots mc ms (F0 m pc ls st0) rest (z_Qi D cI cZ w1 (va_A w0 H.size) a) (va_A w0 H.size)) (hP : va_P D vwCl ws H) (hD : va_D A ws) (hS : va_S A s.heap H locs) (hF : ∀ q, va_A w0 H.size q → A q) (isC isR : List Nat) (hC : isC.map (fun i => ws[i]?) = w0.map some) (hRr : isR.map (fun i => ws[i]?) = wr.map some) (hn : va_nd isR = true) (hdis : ∀ i ∈ isR, i ∉ isC) (hl : lv_has ls nL lv)
    (kk : ∀ f : Nat → Nat, z_W p l e R s m args below meth c D A Q nL (cells + mc) (slots + ms) (wr ++ w1 f) (pc + 3) lv rest) : W p l e R s m args below meth c H locs cells slots Q (F0 m pc ls st0) := by
  intro T hT X
  obtain ⟨v, st₀, t, T', L, h0, X', hL, e1, e2, ⟨hv, f, hP1, hK1, hD1, hz, hk⟩, st⟩ := hr T hT X
  cases hv
  rw [h0] at hz hk
  obtain ⟨j1, j2⟩ := va_join hP hD isC isR hC hRr hn hdis hk hF hP1 hD1
  obtain ⟨t2, a1, b1⟩ := kk f T'.heap (locs ++ L) ls (by rw [e1]; exact j1) j2 ⟨Nat.le_trans hS.1 (by rw [e1]; exact hz), fun q h1 h2 => by rw [e1, hk q (Nat.lt_of_lt_of_le h1 hS.1) (fun z => h2 (hF q z))]; exact hS.2.1 q h1 h2, fun q hq => by
      rcases List.mem_append.mp hq with h | h
      · exact hS.2.2 q h
      · exact hF _ (hL q h)⟩ hl T' rfl X'
  exact ⟨t2, st t2 a1, b1⟩
theorem z_preI {w0 : va_W} {H : Heap} {locs : List Loc} (X : z_X p m c cc nL s args own R lev D cI cZ A adK adV) (hP : va_P D vwCl w0 H) (hD : va_D A w0) (hF : ∀ q, va_A w0 H.size q → A q) (hS : va_S A s.heap H locs) : ∀ U : State, U.heap = H → s.WarmedH U.vm → z_pre (fun _ => w0) D cI cZ adK adV (fun _ _ => 0) H.size U := fun U hU hW =>
  ⟨by rw [hU], by rw [hU]; exact hP, va_K.moved hW.alike X.2.1, hD.weaken (fun _ _ _ _ => trivial), z_kw_go X.2.2.2.1 hS hU hW hF⟩
/-- a constructor's call -/
theorem z_callI {w0 wr : va_W} {w1 : (Nat → Nat) → va_W} {y : MethodName} {bytes : ByteArray} {maxL n index lev' b mc ms : Nat} {As st0 : List Value} {w2 : (Nat → Nat) → va_W} (X : z_X p m c cc nL s args own R lev D cI cZ A adK adV) (hM : z_Ci D cI cZ adK adV l y bytes maxL lev' mc ms (.ref b :: As) w0 w1)
    (isC isR : List Nat) (hC : isC.map (fun i => ws[i]?) = w0.map some) (hRr : isR.map (fun i => ws[i]?) = wr.map some) (hnC : va_nd isC = true) (hnd : va_nd isR = true) (hdis : ∀ i ∈ isR, i ∉ isC) (hsub : isC.filterMap (fun i => ws[i]?) = w0) (hw : ∀ f, wr ++ w1 f = w2 f)
    (hl1 : Cond.methodLink own index y ∈ z_G) (hy : y.cls ≠ "java/lang/invoke/MethodHandle" ∧ y.cls ≠ "java/lang/invoke/VarHandle" ∧ (parseMethodDescriptor y.desc).map (fun d => d.parameters.length) = some n) (hyn : y.name = "<init>") (hyw : Cond.instanceMethod y ∈ z_G ∧ Cond.initialized y.cls ∈ z_G ∧ Cond.code y bytes maxL none ∈ z_G) (hlev : lev' + 1 ≤ lev) (hmax : maxL ≤ 45)
    (hn : As.length = n) (hst : st0 = As.reverse ++ .ref b :: rest) (hrest : (rest.map fun v => v.category).sum ≤ 8) (hf : cells + mc ≤ R.cells ∧ slots + ms ≤ R.slots) (hdg : decode cc pc = .ok (.invokespecial index, 3))
    (kk : ∀ f : Nat → Nat, z_W p l e R s m args below meth c D A Q nL (cells + mc) (slots + ms) (w2 f) (pc + 3) lv rest) : z_W p l e R s m args below meth c D A Q nL cells slots ws pc lv st0 := fun H locs ls hP hD hS hl => by
  obtain ⟨i1, i3, i4⟩ := hyw
  have ts := X.1.2.2.2.2
  have hR1 := X.2.2.2.2.1
  have hR2 := X.2.2.2.2.2
  have hF := va_free hD hS X.2.2.1 isC hC
  refine z_backI (va_runI (As := As) (b := b) (n := n) (bytes := bytes) (maxL := maxL) (Ts := z_G) (rest := rest) X.1 (hM H.size) ⟨callB_of n ts (z_G_good i4) rfl rfl rfl (ts _ i3) (ts _ hl1) hy ⟨by show lev' + 1 ≤ R.frames; omega, by show 8 + (maxL + 11) + 64 * lev' ≤ R.locals; omega⟩, hyn, ts _ i1⟩ ⟨z_blind, fun U hU hW => ⟨rfl, z_preI X (hP.sub isC hsub) (hD.sub isC hnC hC) hF hS U hU hW⟩⟩ rfl hn hl.1 hst (lv_room hrest) hdg hf) hP hD hS hF isC isR hC hRr hnd hdis hl (fun f => by rw [hw]; exact kk f)
/-- a private constructor's call, of a nest mate -/
theorem z_callIN {w0 wr : va_W} {w1 : (Nat → Nat) → va_W} {y : MethodName} {bytes : ByteArray} {maxL n index lev' b mc ms : Nat} {host : String} {As st0 : List Value} {w2 : (Nat → Nat) → va_W} (X : z_X p m c cc nL s args own R lev D cI cZ A adK adV) (hM : z_Ci D cI cZ adK adV l y bytes maxL lev' mc ms (.ref b :: As) w0 w1)
    (isC isR : List Nat) (hC : isC.map (fun i => ws[i]?) = w0.map some) (hRr : isR.map (fun i => ws[i]?) = wr.map some) (hnC : va_nd isC = true) (hnd : va_nd isR = true) (hdis : ∀ i ∈ isR, i ∉ isC) (hsub : isC.filterMap (fun i => ws[i]?) = w0) (hw : ∀ f, wr ++ w1 f = w2 f)
    (hl1 : Cond.methodLinkNest own index y host ∈ z_nest) (hy : y.cls ≠ "java/lang/invoke/MethodHandle" ∧ y.cls ≠ "java/lang/invoke/VarHandle" ∧ (parseMethodDescriptor y.desc).map (fun d => d.parameters.length) = some n) (hyn : y.name = "<init>") (hyw : Cond.instanceMethod y ∈ z_G ∧ Cond.initialized y.cls ∈ z_G ∧ Cond.code y bytes maxL none ∈ z_G) (hlev : lev' + 1 ≤ lev) (hmax : maxL ≤ 45)
    (hn : As.length = n) (hst : st0 = As.reverse ++ .ref b :: rest) (hrest : (rest.map fun v => v.category).sum ≤ 8) (hf : cells + mc ≤ R.cells ∧ slots + ms ≤ R.slots) (hdg : decode cc pc = .ok (.invokespecial index, 3))
    (kk : ∀ f : Nat → Nat, z_W p l e R s m args below meth c D A Q nL (cells + mc) (slots + ms) (w2 f) (pc + 3) lv rest) : z_W p l e R s m args below meth c D A Q nL cells slots ws pc lv st0 := fun H locs ls hP hD hS hl => by
  obtain ⟨i1, i3, i4⟩ := hyw
  have ts := X.1.2.2.2.2
  have hR1 := X.2.2.2.2.1
  have hR2 := X.2.2.2.2.2
  have hF := va_free hD hS X.2.2.1 isC hC
  refine z_backI (va_runIN (As := As) (b := b) (n := n) (bytes := bytes) (maxL := maxL) (Ts := z_G) (rest := rest) X.1 (hM H.size) ⟨va_cnB n ts (z_G_good i4) rfl rfl rfl (X.2.2.2.1.2.2.2.2 _ hl1) (ts _ i3) hy ⟨by show lev' + 1 ≤ R.frames; omega, by show 8 + (maxL + 11) + 64 * lev' ≤ R.locals; omega⟩, hyn, ts _ i1⟩ ⟨z_blind, fun U hU hW => ⟨rfl, z_preI X (hP.sub isC hsub) (hD.sub isC hnC hC) hF hS U hU hW⟩⟩ rfl hn hl.1 hst (lv_room hrest) hdg hf) hP hD hS hF isC isR hC hRr hnd hdis hl (fun f => by rw [hw]; exact kk f)
theorem z_vretI {w1 : (Nat → Nat) → va_W} {mc ms : Nat} (X : z_X p m c cc nL s args own R lev D cI cZ A adK adV) (hr : meth.sig.returnType = none) (hlk : meth.locks = false) (f : Nat → Nat) (hw : ws = w1 f) (hc : cells ≤ mc ∧ slots ≤ ms) (hdg : decode cc pc = .ok (.return_, 1)) : z_W p l e R s m args below meth c D A (MQ below (z_Qi D cI cZ w1 A) args s mc ms A) nL cells slots ws pc lv [] := fun H locs ls hP hD hS hl => by
  refine W.widen hc.1 hc.2 ?_
  exact W.vret X.1.1 X.1.2.1 hr (fun t ht hW => ⟨rfl, f, by rw [ht, ← hw]; exact hP, va_K.moved hW.alike X.2.1, by rw [← hw]; exact hD, hS.F ht⟩) hS.2.2 hdg hlk
end ZJ
