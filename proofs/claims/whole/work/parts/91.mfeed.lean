/-! the reference's feed on the machine: it makes a row of five -/
theorem aw_int : Cond.arrayClass .int ∈ z_G := z_G_in (i := 146) (by decide +kernel) (by decide +kernel)
theorem aw_boolean : Cond.arrayClass .boolean ∈ z_G := z_G_in (i := 430) (by decide +kernel) (by decide +kernel)
theorem arr_same {U : State} {cA cB : ClassId} (h1 : va_RA U cA .int) (h2 : va_RA U cB .int) : cA = cB := by
  have e1 : U.vm.findClass ("[" ++ (FieldType.int).toString) = some cA := h1
  have e2 : U.vm.findClass ("[" ++ (FieldType.int).toString) = some cB := h2
  rw [e1] at e2
  exact Option.some.inj e2
theorem arr_sameZ {U : State} {cA cB : ClassId} (h1 : va_RA U cA .boolean) (h2 : va_RA U cB .boolean) : cA = cB := by
  have e1 : U.vm.findClass ("[" ++ (FieldType.boolean).toString) = some cA := h1
  have e2 : U.vm.findClass ("[" ++ (FieldType.boolean).toString) = some cB := h2
  rw [e1] at e2
  exact Option.some.inj e2
def z_Ct5 (Wd : zMem → va_W) (D : va_G) (cI cZ : ClassId) (adK adV : Nat → Nat) (l : Launch) (y : MethodName) (cc : ByteArray) (maxL : Nat) (ret : Option FieldType) (lev : Nat) (As : List Value) (M M' : zMem) (rv : Option Value) : Prop :=
  ∀ sz : Nat, Met l y (.code y cc maxL ret :: z_G) { frames := lev, cells := 1, slots := 5, locals := 64 * lev } (va_Pc As (z_pre Wd D cI cZ adK adV M sz)) (z_Q Wd D cI cZ M' (va_A (Wd M) sz) rv) 1 5 (va_A (Wd M) sz)
section ZF
variable {l : Launch} {y : MethodName} {cc : ByteArray} {maxL : Nat} {ret : Option FieldType} {lev : Nat} {D : va_G} {cI cZ : ClassId} {adK adV : Nat → Nat} {Wd : zMem → va_W} {M M' : zMem} {rv : Option Value} {As : List Value}
theorem z_entry5 {own : String} (ho : y.cls = own) (hy : plainName y.cls = true) (hn : (lg_sl As).length ≤ maxL)
    (body : ∀ (p : Program) (e : Env) (s : State) (m : MethodId) (args : Array Value) (below : List Frame) (meth : Method) (c : Code) (R : Room) (A : Nat → Prop), 1 ≤ R.cells ∧ 5 ≤ R.slots → z_X p m c cc maxL s args own R lev D cI cZ A adK adV → meth.sig.returnType = ret → meth.locks = false →
      z_W p l e R s m args below meth c D A (MQ below (z_Q Wd D cI cZ M' A rv) args s 1 5 A) maxL 0 0 (Wd M) 0 (lv_args 0 As) []) : z_Ct5 Wd D cI cZ adK adV l y cc maxL ret lev As M M' rv := by
  intro sz
  refine Met.ofW (cc := cc) (maxL := maxL) (ret := ret) hy rfl ?_
  intro p e s m args below meth c s₁ B hml hv
  obtain ⟨rfl, hsz, hP, hK, hD0, hE⟩ := hv
  have hts := atoms_spec (ws := .code y cc maxL ret :: z_G) B.pre
  have hown : s.vm.findClass own = some m.cls := by rw [← ho]; exact findClass_of_methodNamed B.named
  subst hsz
  have hD := hD0.self (sz := s.heap.size)
  have hl := lv_entry As (n := maxL) hn
  rw [lg_entry_eq]
  exact body p e s m _ below meth c _ _ ⟨Nat.le_refl _, Nat.le_refl _⟩ ⟨⟨B.exec, B.bytes, hml, hown, fun w hw => hts w (List.mem_cons_of_mem _ hw)⟩, hK, fun q h => Or.inr h, hE, Nat.le_refl _, Nat.le_refl _⟩ B.returns B.notSynchronized _ _ _ hP hD va_S.rf hl
end ZF
def wF (cI cZ : ClassId) (ad : Nat → Nat) (a5 : Nat) (M : zMem) : va_W := wM cI cZ ad M ++ [(a5, .inl (cI, 5, .inl (fun j : Nat => z_I (M 27 (j : Int)))))]
section WF
variable {p : Program} {l : Launch} {e : Env} {R : Room} {s : State} {m : MethodId} {args : Array Value} {below : List Frame} {meth : Method} {c : Code} {Q : State → Prop} {cells slots : Nat} {D : va_G} {A : Nat → Prop} {nL : Nat} {cc : ByteArray} {pc : Nat} {lv : List (Nat × Value)} {rest : List Value} {own : String} {lev : Nat} {cI cZ : ClassId} {adK adV ad : Nat → Nat} {M : zMem} {res : Int × zMem} {a5 : Nat} {ws : va_W}
theorem z_newa {n : Nat} {nn : Int} (X : z_X p m c cc nL s args own R lev D cI cZ A adK adV) (hR : cells + 1 ≤ R.cells ∧ slots + n ≤ R.slots) (hn : ¬ z_I nn < 0 ∧ (z_I nn).toNatClampNeg = n ∧ n * 4 ≤ 536870912) (hdg : decode cc pc = .ok (.newarray .int, 2)) (kk : ∀ q : Nat, z_W p l e R s m args below meth c D A Q nL (cells + 1) (slots + n) (ws ++ [(q, .inl (cI, n, .inl (fun _ => 0)))]) (pc + 2) lv (.ref q :: rest)) : z_W p l e R s m args below meth c D A Q nL cells slots ws pc lv (.int (z_I nn) :: rest) := fun H locs ls hP hD hS hl => by
  refine va_newa (atype := .int) (ty := .int) (a0 := (n, .inl (fun _ => 0))) X.1.1 X.1.2.1 (X.1.2.2.2.2 _ aw_int) rfl X.2.1 hP hD hS X.2.2.1 (fun _ => rfl) hn.1 hn.2.1 hn.2.2 hR.1 hR.2 hdg (fun q cA H1 hK1 hP1 hD1 hS1 => ?_)
  have e : cI = cA := arr_same (X.2.1.2 0 (cI, .int) rfl).2 (hK1.2 2 (cA, .int) rfl).2
  subst e
  exact kk q H1 locs ls hP1 hD1 hS1 hl
theorem z_newz {n : Nat} {nn : Int} (X : z_X p m c cc nL s args own R lev D cI cZ A adK adV) (hR : cells + 1 ≤ R.cells ∧ slots + n ≤ R.slots) (hn : ¬ z_I nn < 0 ∧ (z_I nn).toNatClampNeg = n ∧ n * 1 ≤ 536870912) (hdg : decode cc pc = .ok (.newarray .boolean, 2)) (kk : ∀ q : Nat, z_W p l e R s m args below meth c D A Q nL (cells + 1) (slots + n) (ws ++ [(q, .inl (cZ, n, .inl (fun _ => 0)))]) (pc + 2) lv (.ref q :: rest)) : z_W p l e R s m args below meth c D A Q nL cells slots ws pc lv (.int (z_I nn) :: rest) := fun H locs ls hP hD hS hl => by
  refine va_newa (atype := .boolean) (ty := .boolean) (a0 := (n, .inl (fun _ => 0))) X.1.1 X.1.2.1 (X.1.2.2.2.2 _ aw_boolean) rfl X.2.1 hP hD hS X.2.2.1 (fun _ => rfl) hn.1 hn.2.1 hn.2.2 hR.1 hR.2 hdg (fun q cA H1 hK1 hP1 hD1 hS1 => ?_)
  have e : cZ = cA := arr_sameZ (X.2.1.2 1 (cZ, .boolean) rfl).2 (hK1.2 2 (cA, .boolean) rfl).2
  subst e
  exact kk q H1 locs ls hP1 hD1 hS1 hl
theorem gF_93 (X : z_X p m c cc nL s args RX10 R lev D cI cZ A adK adV) (hdg : decode cc pc = .ok (.getfield 93, 3)) (kk : z_W p l e R s m args below meth c D A Q nL cells slots (wF cI cZ ad a5 M) (pc + 3) lv (.int (z_I (M 0 4)) :: rest)) : z_W p l e R s m args below meth c D A Q nL cells slots (wF cI cZ ad a5 M) pc lv (.ref (ad 0) :: rest) := z_get (q0 := 0) X inX10 rfl rfl 4 (by decide) fl_X10_93 rfl rfl hdg kk
theorem gF_19 (X : z_X p m c cc nL s args RX10 R lev D cI cZ A adK adV) (hdg : decode cc pc = .ok (.getfield 19, 3)) (kk : z_W p l e R s m args below meth c D A Q nL cells slots (wF cI cZ ad a5 M) (pc + 3) lv (.ref (ad 4) :: rest)) : z_W p l e R s m args below meth c D A Q nL cells slots (wF cI cZ ad a5 M) pc lv (.ref (ad 0) :: rest) := z_get (q0 := 0) X inX10 rfl rfl 3 (by decide) fl_X10_19 rfl rfl hdg kk
theorem pF_93 (X : z_X p m c cc nL s args RX10 R lev D cI cZ A adK adV) {v : Int} {K : zMem → zO} (hdg : decode cc pc = .ok (.putfield 93, 3)) (h : z_pf M 0 4 v K = some res) (kk : ∀ M1 : zMem, K M1 = some res → z_W p l e R s m args below meth c D A Q nL cells slots (wF cI cZ ad a5 M1) (pc + 3) lv rest) : z_W p l e R s m args below meth c D A Q nL cells slots (wF cI cZ ad a5 M) pc lv (.int (z_I v) :: .ref (ad 0) :: rest) := z_put (q0 := 0) X inX10 tyX10 tyX10_ok nmX10 (show (wF cI cZ ad a5 M)[0]? = some (ad 0, .inr (10, fM0 ad M)) from rfl) rfl 4 (by decide) fl_X10_93 rfl rfl rfl rfl (Nat.le_of_ble_eq_true rfl) (show (wF cI cZ ad a5 M).set 0 _ = wF cI cZ ad a5 (z_st M 0 4 v) from rfl) hdg (kk _ h)
theorem ldF_27 (X : z_X p m c cc nL s args own R lev D cI cZ A adK adV) {i : Int} {K : Int → zO} (hdg : decode cc pc = .ok (.iaload, 1)) (h : z_rd M 27 5 i K = some res) (kk : ∀ r : Int, K r = some res → z_W p l e R s m args below meth c D A Q nL cells slots (wF cI cZ ad a5 M) (pc + 1) lv (.int (z_I r) :: rest)) : z_W p l e R s m args below meth c D A Q nL cells slots (wF cI cZ ad a5 M) pc lv (.int (z_I i) :: .ref a5 :: rest) := z_iald (q1 := 27) X (show (wF cI cZ ad a5 M)[27]? = some (a5, .inl (cI, 5, .inl (fun j : Nat => z_I (M 27 (j : Int))))) from rfl) rfl (by decide) hdg h kk
theorem srF_27 (X : z_X p m c cc nL s args own R lev D cI cZ A adK adV) {i v : Int} {K : zMem → zO} (hdg : decode cc pc = .ok (.iastore, 1)) (h : z_wr M 27 5 i v K = some res) (kk : ∀ M1 : zMem, K M1 = some res → z_W p l e R s m args below meth c D A Q nL cells slots (wF cI cZ ad a5 M1) (pc + 1) lv rest) : z_W p l e R s m args below meth c D A Q nL cells slots (wF cI cZ ad a5 M) pc lv (.int (z_I v) :: .int (z_I i) :: .ref a5 :: rest) := z_iast (q1 := 27) (Wd := wF cI cZ ad a5) X (show (wF cI cZ ad a5 M)[27]? = some (a5, .inl (cI, 5, .inl (fun j : Nat => z_I (M 27 (j : Int))))) from rfl) rfl (by decide) rfl hdg h kk
theorem srF_4 (X : z_X p m c cc nL s args own R lev D cI cZ A adK adV) {i v : Int} {K : zMem → zO} (hdg : decode cc pc = .ok (.iastore, 1)) (h : z_wr M 4 700 i v K = some res) (kk : ∀ M1 : zMem, K M1 = some res → z_W p l e R s m args below meth c D A Q nL cells slots (wF cI cZ ad a5 M1) (pc + 1) lv rest) : z_W p l e R s m args below meth c D A Q nL cells slots (wF cI cZ ad a5 M) pc lv (.int (z_I v) :: .int (z_I i) :: .ref (ad 4) :: rest) := z_iast (q1 := 4) (Wd := wF cI cZ ad a5) X (show (wF cI cZ ad a5 M)[4]? = some (ad 4, .inl (cI, 700, .inl (fun j : Nat => z_I (M 4 (j : Int))))) from rfl) rfl (by decide) rfl hdg h kk
end WF
set_option maxRecDepth 100000 in
set_option maxHeartbeats 4000000 in
theorem c_X10_feed {N : Nat} {l : Launch} {D : va_G} {cI cZ : ClassId} {ad adK adV : Nat → Nat} {v1 v2 v3 v4 v5 : Int} {M M' : zMem} {r : Int} (h : Model_feed N v1 v2 v3 v4 v5 M = some (r, M')) : z_Ct5 (wM cI cZ ad) D cI cZ adK adV l yX10_feed cX10_feed 8 (some .int) 1 [.ref (ad 0), .int (z_I v1), .int (z_I v2), .int (z_I v3), .int (z_I v4), .int (z_I v5)] M M' (some (.int (z_I r))) := by
  unfold Model_feed at h
  refine z_entry5 (own := RX10) rfl (by decide) (Nat.le_of_ble_eq_true rfl) ?_
  intro p e s m args below meth c R A hR X hr hlk
  have Z := X.1
  refine z_sub (lv' := [(0, .ref (ad 0)), (1, .int (z_I v1)), (2, .int (z_I v2)), (3, .int (z_I v3)), (4, .int (z_I v4)), (5, .int (z_I v5))]) [0, 1, 2, 3, 4, 5] rfl ?_
  refine z_aload_n Z dX10_feed_0 rfl 0 rfl ?_
  refine gM_X10_93_0 X dX10_feed_1 ?_
  refine z_sipush Z dX10_feed_4 rfl ?_
  refine z_icmp_le (tgt := 12) Z dX10_feed_7 (by decide) h (fun h => ?_) (fun h => ?_)
  · unfold Model_feed_0 at h
    refine z_iconst Z dX10_feed_12 ?_
    refine z_newa (n := 5) X ⟨hR.1, by omega⟩ ⟨by decide, by decide, by decide⟩ dX10_feed_13 (fun q => ?_)
    have e0 : wM cI cZ ad M ++ [(q, .inl (cI, 5, .inl (fun _ => 0)))] = wF cI cZ ad q (fun c j => if c = 27 then 0 else M c j) := rfl
    rw [e0]
    generalize (fun (c : Nat) (j : Int) => if c = 27 then (0 : Int) else M c j) = M0 at h ⊢
    refine z_dup Z dX10_feed_15 rfl ?_
    refine z_iconst Z dX10_feed_16 ?_
    refine z_iload_n Z dX10_feed_17 rfl 1 rfl ?_
    refine srF_27 X dX10_feed_18 h (fun M1 h => ?_)
    refine z_dup Z dX10_feed_19 rfl ?_
    refine z_iconst Z dX10_feed_20 ?_
    refine z_iload_n Z dX10_feed_21 rfl 2 rfl ?_
    refine srF_27 X dX10_feed_22 h (fun M2 h => ?_)
    refine z_dup Z dX10_feed_23 rfl ?_
    refine z_iconst Z dX10_feed_24 ?_
    refine z_iload_n Z dX10_feed_25 rfl 3 rfl ?_
    refine srF_27 X dX10_feed_26 h (fun M3 h => ?_)
    refine z_dup Z dX10_feed_27 rfl ?_
    refine z_iconst Z dX10_feed_28 ?_
    refine z_iload Z dX10_feed_29 4 rfl ?_
    refine srF_27 X dX10_feed_31 h (fun M4 h => ?_)
    refine z_dup Z dX10_feed_32 rfl ?_
    refine z_iconst Z dX10_feed_33 ?_
    refine z_iload Z dX10_feed_34 5 rfl ?_
    refine srF_27 X dX10_feed_36 h (fun M5 h => ?_)
    refine z_astore (lv' := [(6, .ref q), (0, .ref (ad 0)), (1, .int (z_I v1)), (2, .int (z_I v2)), (3, .int (z_I v3)), (4, .int (z_I v4)), (5, .int (z_I v5))]) Z dX10_feed_37 (by decide) rfl ?_
    refine z_iconst Z dX10_feed_39 ?_
    refine z_istore (lv' := [(7, .int (z_I 0)), (6, .ref q), (0, .ref (ad 0)), (1, .int (z_I v1)), (2, .int (z_I v2)), (3, .int (z_I v3)), (4, .int (z_I v4)), (5, .int (z_I v5))]) Z dX10_feed_40 (by decide) rfl ?_
    refine z_sub (lv' := [(7, .int (z_I 0)), (6, .ref q), (0, .ref (ad 0))]) [0, 1, 2] rfl ?_
    rw [z_jn_e] at h
    -- the loop
    have loop : ∀ (n : Nat) (x : Int) (Mx : zMem), Model_feed_42 N (fun (M6 : zMem) => z_pf M6 0 4 (M6 0 4 + 20) (fun M7 => some (M7 0 4, M7))) n x Mx = some (r, M') → z_W p l e R s m args below meth c D A (MQ below (z_Q (wM cI cZ ad) D cI cZ M' A (some (.int (z_I r)))) args s 1 5 A) 8 (0 + 1) (0 + 5) (wF cI cZ ad q Mx) 42 [(7, .int (z_I x)), (6, .ref q), (0, .ref (ad 0))] [] := by
      intro n
      induction n with
      | zero => intro x Mx h; cases h
      | succ n ih =>
        intro x Mx h
        rw [Model_feed_42] at h
        refine z_iload Z dX10_feed_42 0 rfl ?_
        refine z_bipush Z dX10_feed_44 rfl ?_
        refine z_icmp_ge (tgt := 89) Z dX10_feed_46 (by decide) h (fun h => ?_) (fun h => ?_)
        · refine z_aload_n Z dX10_feed_89 rfl 2 rfl ?_
          refine z_dup Z dX10_feed_90 rfl ?_
          refine gF_93 X dX10_feed_91 ?_
          refine z_bipush Z dX10_feed_94 rfl ?_
          refine z_iadd Z dX10_feed_96 ?_
          refine pF_93 X dX10_feed_97 h (fun M7 h => ?_)
          refine z_aload_n Z dX10_feed_100 rfl 2 rfl ?_
          refine gF_93 X dX10_feed_101 ?_
          intro H locs ls hP hD hS hl
          cases h
          have hP' : va_P D vwCl (wM cI cZ ad M') H := hP.sub [0, 1, 2, 3, 4, 5, 6, 7, 8, 9, 10, 11, 12, 13, 14, 15, 16, 17, 18, 19, 20, 21, 22, 23, 24, 25, 26] rfl
          have hD' : va_D A (wM cI cZ ad M') := hD.sub [0, 1, 2, 3, 4, 5, 6, 7, 8, 9, 10, 11, 12, 13, 14, 15, 16, 17, 18, 19, 20, 21, 22, 23, 24, 25, 26] (by decide) rfl
          exact W.iret X.1.1 X.1.2.1 hr (fun t ht hW => ⟨rfl, by rw [ht]; exact hP', va_K.moved hW.alike X.2.1, hD', hS.F ht⟩) hS.2.2 dX10_feed_104 hlk
        · refine z_aload_n Z dX10_feed_49 rfl 2 rfl ?_
          refine gF_19 X dX10_feed_50 ?_
          refine z_aload_n Z dX10_feed_53 rfl 2 rfl ?_
          refine gF_93 X dX10_feed_54 ?_
          refine z_iload Z dX10_feed_57 0 rfl ?_
          refine z_iadd Z dX10_feed_59 ?_
          refine z_aload Z dX10_feed_60 1 rfl ?_
          refine z_iload Z dX10_feed_62 0 rfl ?_
          refine z_iconst Z dX10_feed_64 ?_
          refine z_idiv Z dX10_feed_65 h (fun x0 h => ?_)
          refine ldF_27 X dX10_feed_66 h (fun x1 h => ?_)
          refine z_bipush Z dX10_feed_67 rfl ?_
          refine z_bipush Z dX10_feed_69 rfl ?_
          refine z_iload Z dX10_feed_71 0 rfl ?_
          refine z_iconst Z dX10_feed_73 ?_
          refine z_irem Z dX10_feed_74 h (fun x2 h => ?_)
          refine z_imul Z dX10_feed_75 ?_
          refine z_isub Z dX10_feed_76 ?_
          refine z_iushr Z dX10_feed_77 ?_
          refine z_sipush Z dX10_feed_78 rfl ?_
          refine z_iand Z dX10_feed_81 ?_
          refine srF_4 X dX10_feed_82 h (fun My h => ?_)
          refine z_iinc (x := x) (n := 1) (lv' := [(7, .int (z_I (x + 1))), (6, .ref q), (0, .ref (ad 0))]) Z dX10_feed_83 (k := 0) rfl (by decide) rfl ?_
          refine z_goto (tgt := 42) Z dX10_feed_86 (by decide) ?_
          exact ih (x + 1) My h
    exact loop N 0 M5 h
  · refine z_iconst Z dX10_feed_10 ?_
    intro H locs ls hP hD hS hl
    cases h
    refine W.widen (k := 1) (n := 5) (by omega) (by omega) ?_
    exact W.iret X.1.1 X.1.2.1 hr (fun t ht hW => ⟨rfl, by rw [ht]; exact hP, va_K.moved hW.alike X.2.1, hD, hS.F ht⟩) hS.2.2 dX10_feed_11 hlk
