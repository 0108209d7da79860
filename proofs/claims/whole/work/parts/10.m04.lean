/-! the machine does what the pure programs say -/
set_option maxRecDepth 100000 in
set_option maxHeartbeats 4000000 in
theorem wModel_takes_2 {p : Program} {l : Launch} {e : Env} {R : Room} {s : State} {m : MethodId} {args : Array Value} {below : List Frame} {meth : Method} {c : Code} {D : va_G} {A : Nat → Prop} {cI cZ : ClassId} {adK adV ad : Nat → Nat} {r : Int} {M' : zMem} (X : z_X p m c cX10_takes 2 s args RX10 R 1 D cI cZ A adK adV) (hr : meth.sig.returnType = none) (hlk : meth.locks = false) (N : Nat) (k : zMem → zO) (hk : ∀ (M : zMem), k M = some (r, M') → z_V p l e R s m args below meth c D A cI cZ 2 (wM cI cZ ad) M' none M 30 [(0, .ref (ad 0))] []) : ∀ (n : Nat) (v1 : Int) (M : zMem), Model_takes_2 N k n v1 M = some (r, M') → z_V p l e R s m args below meth c D A cI cZ 2 (wM cI cZ ad) M' none M 2 [(0, .ref (ad 0)), (1, .int (z_I v1))] [] := by
  have Z := X.1
  intro n
  induction n with
  | zero =>
    intro v1 M h
    rw [Model_takes_2] at h
    cases h
  | succ n ih =>
    intro v1 M h
    rw [Model_takes_2] at h
    refine z_iload_n Z dX10_takes_2 rfl 1 rfl ?_
    refine z_bipush Z dX10_takes_3 rfl ?_
    refine z_icmp_ge (tgt := 30) Z dX10_takes_5 (by decide) h (fun h => ?_) (fun h => ?_)
    · refine z_sub [0] rfl ?_
      exact hk M h
    · refine z_aload_n Z dX10_takes_8 rfl 0 rfl ?_
      refine gM_X10_72_0 X dX10_takes_9 ?_
      refine z_iload_n Z dX10_takes_12 rfl 1 rfl ?_
      refine z_aload_n Z dX10_takes_13 rfl 0 rfl ?_
      refine gM_X10_7_0 X dX10_takes_14 ?_
      refine z_sipush Z dX10_takes_17 rfl ?_
      refine z_iload_n Z dX10_takes_20 rfl 1 rfl ?_
      refine z_iadd Z dX10_takes_21 ?_
      refine ldM_1 X dX10_takes_22 h (fun x0 h => ?_)
      refine srM_20 X dX10_takes_23 h (fun M1 h => ?_)
      refine z_iincn Z (fun z => [(1, .int (z_I z)), (0, .ref (ad 0))]) dX10_takes_24 (k := 1) rfl (by decide) (fun _ => rfl) h (fun v1_ h => ?_)
      refine z_goto (tgt := 2) Z dX10_takes_27 (by decide) ?_
      refine z_sub [1, 0] rfl ?_
      exact ih v1_ M1 h
set_option maxRecDepth 100000 in
set_option maxHeartbeats 4000000 in
theorem c_X10_takes {l : Launch} {D : va_G} {cI cZ : ClassId} {ad adK adV : Nat → Nat} {N : Nat} {M M' : zMem} {r : Int} (h : Model_takes N M = some (r, M')) : z_Ct (wM cI cZ ad) D cI cZ adK adV l yX10_takes cX10_takes 2 none 1 [.ref (ad 0)] M M' none := by
  unfold Model_takes at h
  refine z_entry (own := RX10) rfl (by decide) (Nat.le_of_ble_eq_true rfl) ?_
  intro p e s m args below meth c R A X hr hlk
  have Z := X.1
  refine z_sub (lv' := [(0, .ref (ad 0))]) [0] rfl ?_
  refine z_iconst Z dX10_takes_0 ?_
  refine z_istore_n (lv' := [(1, .int (z_I 0)), (0, .ref (ad 0))]) Z dX10_takes_1 rfl (by decide) rfl ?_
  refine z_jnr (P := fun (k : zMem → zO) => ∀ (M1 : zMem), k M1 = some (r, M') → z_V p l e R s m args below meth c D A cI cZ 2 (wM cI cZ ad) M' none M1 30 [(0, .ref (ad 0))] []) h ?_ ?_
  · intro M1 h
    refine z_aload_n Z dX10_takes_30 rfl 0 rfl ?_
    refine z_aload_n Z dX10_takes_31 rfl 0 rfl ?_
    refine gM_X10_7_0 X dX10_takes_32 ?_
    refine z_iconst Z dX10_takes_35 ?_
    refine ldM_1 X dX10_takes_36 h (fun x0 h => ?_)
    refine pM_X10_288_0 X dX10_takes_37 h (fun M2 h => ?_)
    refine z_aload_n Z dX10_takes_40 rfl 0 rfl ?_
    refine z_aload_n Z dX10_takes_41 rfl 0 rfl ?_
    refine gM_X10_7_0 X dX10_takes_42 ?_
    refine z_iconst Z dX10_takes_45 ?_
    refine ldM_1 X dX10_takes_46 h (fun x1 h => ?_)
    refine pM_X10_290_0 X dX10_takes_47 h (fun M3 h => ?_)
    exact z_vret X hr hlk dX10_takes_50 h
  · intro k0 hk0 h
    refine z_sub [1, 0] rfl ?_
    exact wModel_takes_2 X hr hlk N k0 hk0 N 0 M h
set_option maxRecDepth 100000 in
set_option maxHeartbeats 4000000 in
theorem c_X10_waited {l : Launch} {D : va_G} {cI cZ : ClassId} {ad adK adV : Nat → Nat} {v1 : Int} {M M' : zMem} {r : Int} (h : Model_waited v1 M = some (r, M')) : z_Ct (wM cI cZ ad) D cI cZ adK adV l yX10_waited cX10_waited 2 (some .int) 1 [.ref (ad 0), .int (z_I v1)] M M' (some (.int (z_I r))) := by
  unfold Model_waited at h
  refine z_entry (own := RX10) rfl (by decide) (Nat.le_of_ble_eq_true rfl) ?_
  intro p e s m args below meth c R A X hr hlk
  have Z := X.1
  refine z_sub (lv' := [(0, .ref (ad 0)), (1, .int (z_I v1))]) [0, 1] rfl ?_
  refine z_iload_n Z dX10_waited_0 rfl 1 rfl ?_
  refine z_if_ne (tgt := 8) Z dX10_waited_1 (by decide) h (fun h => ?_) (fun h => ?_)
  · refine z_iload_n Z dX10_waited_8 rfl 1 rfl ?_
    refine z_iconst Z dX10_waited_9 ?_
    refine z_icmp_ne (tgt := 22) Z dX10_waited_10 (by decide) h (fun h => ?_) (fun h => ?_)
    · refine z_iload_n Z dX10_waited_22 rfl 1 rfl ?_
      refine z_iconst Z dX10_waited_23 ?_
      refine z_icmp_ne (tgt := 31) Z dX10_waited_24 (by decide) h (fun h => ?_) (fun h => ?_)
      · refine z_iconst Z dX10_waited_31 ?_
        refine z_aload_n Z dX10_waited_32 rfl 0 rfl ?_
        refine gM_X10_7_0 X dX10_waited_33 ?_
        refine z_iconst Z dX10_waited_36 ?_
        refine ldM_1 X dX10_waited_37 h (fun x0 h => ?_)
        refine z_iadd Z dX10_waited_38 ?_
        exact z_iret X hr hlk dX10_waited_39 h
      · refine z_iconst Z dX10_waited_27 ?_
        refine z_goto (tgt := 39) Z dX10_waited_28 (by decide) ?_
        exact z_iret X hr hlk dX10_waited_39 h
    · refine z_iconst Z dX10_waited_13 ?_
      refine z_aload_n Z dX10_waited_14 rfl 0 rfl ?_
      refine gM_X10_288_0 X dX10_waited_15 ?_
      refine z_iadd Z dX10_waited_18 ?_
      refine z_goto (tgt := 39) Z dX10_waited_19 (by decide) ?_
      exact z_iret X hr hlk dX10_waited_39 h
  · refine z_iconst Z dX10_waited_4 ?_
    refine z_goto (tgt := 39) Z dX10_waited_5 (by decide) ?_
    exact z_iret X hr hlk dX10_waited_39 h
set_option maxRecDepth 100000 in
set_option maxHeartbeats 4000000 in
theorem c_X10_whenAt {l : Launch} {D : va_G} {cI cZ : ClassId} {ad adK adV : Nat → Nat} {v1 v2 : Int} {M M' : zMem} {r : Int} (h : Model_whenAt v1 v2 M = some (r, M')) : z_Ct (wM cI cZ ad) D cI cZ adK adV l yX10_whenAt cX10_whenAt 5 (some .int) 3 [.ref (ad 0), .int (z_I v1), .int (z_I v2)] M M' (some (.int (z_I r))) := by
  unfold Model_whenAt at h
  refine z_entry (own := RX10) rfl (by decide) (Nat.le_of_ble_eq_true rfl) ?_
  intro p e s m args below meth c R A X hr hlk
  have Z := X.1
  refine z_sub (lv' := [(0, .ref (ad 0)), (1, .int (z_I v1)), (2, .int (z_I v2))]) [0, 1, 2] rfl ?_
  refine z_iload_n Z dX10_whenAt_0 rfl 1 rfl ?_
  refine z_aload_n Z dX10_whenAt_1 rfl 0 rfl ?_
  refine gM_X10_7_0 X dX10_whenAt_2 ?_
  refine z_iconst Z dX10_whenAt_5 ?_
  refine ldM_1 X dX10_whenAt_6 h (fun x0 h => ?_)
  refine z_idiv Z dX10_whenAt_7 h (fun x1 h => ?_)
  refine z_aload_n Z dX10_whenAt_8 rfl 0 rfl ?_
  refine gM_X10_7_0 X dX10_whenAt_9 ?_
  refine z_iconst Z dX10_whenAt_12 ?_
  refine ldM_1 X dX10_whenAt_13 h (fun x2 h => ?_)
  refine z_iconst Z dX10_whenAt_14 ?_
  refine z_isub Z dX10_whenAt_15 ?_
  refine z_jnr (P := fun (k : Int → zMem → zO) => ∀ (x3 : Int) (M1 : zMem), k x3 M1 = some (r, M') → z_V p l e R s m args below meth c D A cI cZ 5 (wM cI cZ ad) M' (some (.int (z_I r))) M1 39 [(0, .ref (ad 0)), (1, .int (z_I v1)), (2, .int (z_I v2))] [.int (z_I x3)]) h ?_ ?_
  · intro x3 M1 h
    refine z_istore_n (lv' := [(3, .int (z_I x3)), (0, .ref (ad 0)), (1, .int (z_I v1)), (2, .int (z_I v2))]) Z dX10_whenAt_39 rfl (by decide) rfl ?_
    refine z_iload_n Z dX10_whenAt_40 rfl 2 rfl ?_
    refine z_aload_n Z dX10_whenAt_41 rfl 1 rfl ?_
    refine gM_X10_7_0 X dX10_whenAt_42 ?_
    refine z_iconst Z dX10_whenAt_45 ?_
    refine ldM_1 X dX10_whenAt_46 h (fun x4 h => ?_)
    refine z_iremt Z dX10_whenAt_47 h (fun x5 h => ?_)
    refine z_iload_n Z dX10_whenAt_48 rfl 0 rfl ?_
    refine z_iremt Z dX10_whenAt_49 h (fun x6 h => ?_)
    refine z_istore (lv' := [(4, .int (z_I x6)), (3, .int (z_I x3)), (0, .ref (ad 0)), (1, .int (z_I v1)), (2, .int (z_I v2))]) Z dX10_whenAt_50 (by decide) rfl ?_
    refine z_iload_n Z dX10_whenAt_52 rfl 4 rfl ?_
    refine z_iload Z dX10_whenAt_53 0 rfl ?_
    refine z_iload_n Z dX10_whenAt_55 rfl 4 rfl ?_
    refine z_isub Z dX10_whenAt_56 ?_
    refine z_iload_n Z dX10_whenAt_57 rfl 1 rfl ?_
    refine z_fmr X ml_X10_258 (by omega) (Nat.le_of_ble_eq_true rfl) ⟨Nat.zero_le _, Nat.zero_le _⟩ dX10_whenAt_58 h (fun x7 h => ?_)
    refine z_iadd Z dX10_whenAt_61 ?_
    exact z_iret X hr hlk dX10_whenAt_62 h
  · intro k0 hk0 h
    refine z_jnr (P := fun (k : zMem → zO) => ∀ (M2 : zMem), k M2 = some (r, M') → z_V p l e R s m args below meth c D A cI cZ 5 (wM cI cZ ad) M' (some (.int (z_I r))) M2 33 [(0, .ref (ad 0)), (1, .int (z_I v1)), (2, .int (z_I v2))] []) h ?_ ?_
    · intro M2 h
      refine z_aload_n Z dX10_whenAt_33 rfl 0 rfl ?_
      refine gM_X10_7_0 X dX10_whenAt_34 ?_
      refine z_iconst Z dX10_whenAt_37 ?_
      refine ldM_1 X dX10_whenAt_38 h (fun x8 h => ?_)
      refine z_sub [0, 1, 2] rfl ?_
      exact hk0 x8 M2 h
    · intro k1 hk1 h
      refine z_icmp_ne (tgt := 33) Z dX10_whenAt_16 (by decide) h (fun h => ?_) (fun h => ?_)
      · refine z_sub [0, 1, 2] rfl ?_
        exact hk1 M h
      · refine z_aload_n Z dX10_whenAt_19 rfl 0 rfl ?_
        refine gM_X10_290_0 X dX10_whenAt_20 ?_
        refine z_if_le (tgt := 33) Z dX10_whenAt_23 (by decide) h (fun h => ?_) (fun h => ?_)
        · refine z_sub [0, 1, 2] rfl ?_
          exact hk1 M h
        · refine z_aload_n Z dX10_whenAt_26 rfl 0 rfl ?_
          refine gM_X10_290_0 X dX10_whenAt_27 ?_
          refine z_goto (tgt := 39) Z dX10_whenAt_30 (by decide) ?_
          refine z_sub [0, 1, 2] rfl ?_
          exact hk0 (M 0 40) M h
set_option maxRecDepth 100000 in
set_option maxHeartbeats 4000000 in
theorem wModel_laysSoon_53 {p : Program} {l : Launch} {e : Env} {R : Room} {s : State} {m : MethodId} {args : Array Value} {below : List Frame} {meth : Method} {c : Code} {D : va_G} {A : Nat → Prop} {cI cZ : ClassId} {adK adV ad : Nat → Nat} {r : Int} {M' : zMem} (X : z_X p m c cX10_laysSoon 8 s args RX10 R 6 D cI cZ A adK adV) (hr : meth.sig.returnType = none) (hlk : meth.locks = false) (N : Nat) (v2 v3 v4 : Int) (k : Int → zMem → zO) (hk : ∀ (y5 : Int) (M : zMem), k y5 M = some (r, M') → z_V p l e R s m args below meth c D A cI cZ 8 (wM cI cZ ad) M' none M 132 [(0, .ref (ad 0)), (2, .int (z_I v2)), (3, .int (z_I v3)), (4, .int (z_I v4)), (5, .int (z_I y5))] []) : ∀ (n : Nat) (v5 v6 : Int) (M : zMem), Model_laysSoon_53 N v2 v3 v4 k n v5 v6 M = some (r, M') → z_V p l e R s m args below meth c D A cI cZ 8 (wM cI cZ ad) M' none M 53 [(0, .ref (ad 0)), (2, .int (z_I v2)), (3, .int (z_I v3)), (4, .int (z_I v4)), (5, .int (z_I v5)), (6, .int (z_I v6))] [] := by
  have Z := X.1
  intro n
  induction n with
  | zero =>
    intro v5 v6 M h
    rw [Model_laysSoon_53] at h
    cases h
  | succ n ih =>
    intro v5 v6 M h
    rw [Model_laysSoon_53] at h
    refine z_iload Z dX10_laysSoon_53 5 rfl ?_
    refine z_aload_n Z dX10_laysSoon_55 rfl 0 rfl ?_
    obtain ⟨r_, M1, hf, h⟩ := z_cld h
    refine z_callVi (Wd := wM cI cZ ad) X (c_X10_many hf) ml_X10_218 yd_X10_many yw_X10_many (by omega) (by decide) (rM_0 X) rfl rfl (Nat.le_of_ble_eq_true rfl) ⟨Nat.zero_le _, Nat.zero_le _⟩ dX10_laysSoon_56 ?_
    refine z_icmp_ge (tgt := 132) Z dX10_laysSoon_59 (by decide) h (fun h => ?_) (fun h => ?_)
    · refine z_sub [0, 1, 2, 3, 4] rfl ?_
      exact hk v5 M1 h
    · refine z_aload_n Z dX10_laysSoon_62 rfl 0 rfl ?_
      refine gM_X10_75_0 X dX10_laysSoon_63 ?_
      refine z_iload Z dX10_laysSoon_66 3 rfl ?_
      refine ldM_21 X dX10_laysSoon_68 h (fun x0 h => ?_)
      refine z_iconst Z dX10_laysSoon_69 ?_
      refine z_icmp_ne (tgt := 132) Z dX10_laysSoon_70 (by decide) h (fun h => ?_) (fun h => ?_)
      · refine z_sub [0, 1, 2, 3, 4] rfl ?_
        exact hk v5 M1 h
      · refine z_aload_n Z dX10_laysSoon_73 rfl 0 rfl ?_
        refine z_iload Z dX10_laysSoon_74 5 rfl ?_
        obtain ⟨r_1, M2, hf1, h⟩ := z_cld h
        refine z_callVi (Wd := wM cI cZ ad) X (c_X10_isTaken hf1) ml_X10_339 yd_X10_isTaken yw_X10_isTaken (by omega) (by decide) (rM_0 X) rfl rfl (Nat.le_of_ble_eq_true rfl) ⟨Nat.zero_le _, Nat.zero_le _⟩ dX10_laysSoon_76 ?_
        refine z_jnr (P := fun (k : Int → zMem → zO) => ∀ (x1 : Int) (M3 : zMem), k x1 M3 = some (r, M') → z_V p l e R s m args below meth c D A cI cZ 8 (wM cI cZ ad) M' none M3 110 [(0, .ref (ad 0)), (2, .int (z_I v2)), (3, .int (z_I v3)), (4, .int (z_I v4)), (5, .int (z_I v5)), (6, .int (z_I v6))] [.int (z_I x1)]) h ?_ ?_
        · intro x1 M3 h
          refine z_istore (lv' := [(7, .int (z_I x1)), (0, .ref (ad 0)), (2, .int (z_I v2)), (3, .int (z_I v3)), (4, .int (z_I v4)), (5, .int (z_I v5)), (6, .int (z_I v6))]) Z dX10_laysSoon_110 (by decide) rfl ?_
          refine z_iload Z dX10_laysSoon_112 0 rfl ?_
          refine z_jnr (P := fun (k : Int → zMem → zO) => ∀ (x2 : Int) (M4 : zMem), k x2 M4 = some (r, M') → z_V p l e R s m args below meth c D A cI cZ 8 (wM cI cZ ad) M' none M4 124 [(0, .ref (ad 0)), (2, .int (z_I v2)), (3, .int (z_I v3)), (4, .int (z_I v4)), (6, .int (z_I v6))] [.int (z_I x2)]) h ?_ ?_
          · intro x2 M4 h
            refine z_istore (lv' := [(5, .int (z_I x2)), (0, .ref (ad 0)), (2, .int (z_I v2)), (3, .int (z_I v3)), (4, .int (z_I v4)), (6, .int (z_I v6))]) Z dX10_laysSoon_124 (by decide) rfl ?_
            refine z_iincn Z (fun z => [(6, .int (z_I z)), (5, .int (z_I x2)), (0, .ref (ad 0)), (2, .int (z_I v2)), (3, .int (z_I v3)), (4, .int (z_I v4))]) dX10_laysSoon_126 (k := 5) rfl (by decide) (fun _ => rfl) h (fun v6_ h => ?_)
            refine z_goto (tgt := 53) Z dX10_laysSoon_129 (by decide) ?_
            refine z_sub [2, 3, 4, 5, 1, 0] rfl ?_
            exact ih x2 v6_ M4 h
          · intro k2 hk2 h
            refine z_if_eq (tgt := 122) Z dX10_laysSoon_114 (by decide) h (fun h => ?_) (fun h => ?_)
            · refine z_iload Z dX10_laysSoon_122 5 rfl ?_
              refine z_sub [1, 2, 3, 4, 6] rfl ?_
              exact hk2 v5 M3 h
            · refine z_iload Z dX10_laysSoon_117 6 rfl ?_
              refine z_goto (tgt := 124) Z dX10_laysSoon_119 (by decide) ?_
              refine z_sub [1, 2, 3, 4, 6] rfl ?_
              exact hk2 v6 M3 h
        · intro k1 hk1 h
          refine z_jnr (P := fun (k : zMem → zO) => ∀ (M5 : zMem), k M5 = some (r, M') → z_V p l e R s m args below meth c D A cI cZ 8 (wM cI cZ ad) M' none M5 109 [(0, .ref (ad 0)), (2, .int (z_I v2)), (3, .int (z_I v3)), (4, .int (z_I v4)), (5, .int (z_I v5)), (6, .int (z_I v6))] []) h ?_ ?_
          · intro M5 h
            refine z_iconst Z dX10_laysSoon_109 ?_
            refine z_sub [0, 1, 2, 3, 4, 5] rfl ?_
            exact hk1 0 M5 h
          · intro k3 hk3 h
            refine z_if_ne (tgt := 109) Z dX10_laysSoon_79 (by decide) h (fun h => ?_) (fun h => ?_)
            · refine z_sub [0, 1, 2, 3, 4, 5] rfl ?_
              exact hk3 M2 h
            · refine z_iload Z dX10_laysSoon_82 4 rfl ?_
              refine z_iconst Z dX10_laysSoon_84 ?_
              refine z_jnr (P := fun (k : zMem → zO) => ∀ (M6 : zMem), k M6 = some (r, M') → z_V p l e R s m args below meth c D A cI cZ 8 (wM cI cZ ad) M' none M6 105 [(0, .ref (ad 0)), (2, .int (z_I v2)), (3, .int (z_I v3)), (4, .int (z_I v4)), (5, .int (z_I v5)), (6, .int (z_I v6))] []) h ?_ ?_
              · intro M6 h
                refine z_iconst Z dX10_laysSoon_105 ?_
                refine z_goto (tgt := 110) Z dX10_laysSoon_106 (by decide) ?_
                refine z_sub [0, 1, 2, 3, 4, 5] rfl ?_
                exact hk1 1 M6 h
              · intro k4 hk4 h
                refine z_icmp_eq (tgt := 105) Z dX10_laysSoon_85 (by decide) h (fun h => ?_) (fun h => ?_)
                · refine z_sub [0, 1, 2, 3, 4, 5] rfl ?_
                  exact hk4 M2 h
                · refine z_aload_n Z dX10_laysSoon_88 rfl 0 rfl ?_
                  refine z_iload Z dX10_laysSoon_89 5 rfl ?_
                  refine z_iload_n Z dX10_laysSoon_91 rfl 2 rfl ?_
                  obtain ⟨r_2, M7, hf2, h⟩ := z_cld h
                  refine z_callVi (Wd := wM cI cZ ad) X (c_X10_whenAt hf2) ml_X10_295 yd_X10_whenAt yw_X10_whenAt (by omega) (by decide) (rM_0 X) rfl rfl (Nat.le_of_ble_eq_true rfl) ⟨Nat.zero_le _, Nat.zero_le _⟩ dX10_laysSoon_92 ?_
                  refine z_aload_n Z dX10_laysSoon_95 rfl 0 rfl ?_
                  refine z_iload Z dX10_laysSoon_96 4 rfl ?_
                  refine z_iload_n Z dX10_laysSoon_98 rfl 2 rfl ?_
                  obtain ⟨r_3, M8, hf3, h⟩ := z_cld h
                  refine z_callVi (Wd := wM cI cZ ad) X (c_X10_whenAt hf3) ml_X10_295 yd_X10_whenAt yw_X10_whenAt (by omega) (by decide) (rM_0 X) rfl rfl (Nat.le_of_ble_eq_true rfl) ⟨Nat.zero_le _, Nat.zero_le _⟩ dX10_laysSoon_99 ?_
                  refine z_icmp_ge (tgt := 109) Z dX10_laysSoon_102 (by decide) h (fun h => ?_) (fun h => ?_)
                  · refine z_sub [0, 1, 2, 3, 4, 5] rfl ?_
                    exact hk3 M8 h
                  · refine z_sub [0, 1, 2, 3, 4, 5] rfl ?_
                    exact hk4 M8 h
set_option maxRecDepth 100000 in
set_option maxHeartbeats 4000000 in
theorem wModel_laysSoon_12 {p : Program} {l : Launch} {e : Env} {R : Room} {s : State} {m : MethodId} {args : Array Value} {below : List Frame} {meth : Method} {c : Code} {D : va_G} {A : Nat → Prop} {cI cZ : ClassId} {adK adV ad : Nat → Nat} {r : Int} {M' : zMem} (X : z_X p m c cX10_laysSoon 8 s args RX10 R 6 D cI cZ A adK adV) (hr : meth.sig.returnType = none) (hlk : meth.locks = false) (N : Nat) (k : zMem → zO) (hk : ∀ (M : zMem), k M = some (r, M') → z_V p l e R s m args below meth c D A cI cZ 8 (wM cI cZ ad) M' none M 155 [] []) : ∀ (n : Nat) (v1 v2 : Int) (M : zMem), Model_laysSoon_12 N k n v1 v2 M = some (r, M') → z_V p l e R s m args below meth c D A cI cZ 8 (wM cI cZ ad) M' none M 12 [(0, .ref (ad 0)), (1, .int (z_I v1)), (2, .int (z_I v2))] [] := by
  have Z := X.1
  intro n
  induction n with
  | zero =>
    intro v1 v2 M h
    rw [Model_laysSoon_12] at h
    cases h
  | succ n ih =>
    intro v1 v2 M h
    rw [Model_laysSoon_12] at h
    refine z_iload_n Z dX10_laysSoon_12 rfl 2 rfl ?_
    refine z_aload_n Z dX10_laysSoon_13 rfl 0 rfl ?_
    refine gM_X10_261_0 X dX10_laysSoon_14 ?_
    refine z_icmp_ge (tgt := 155) Z dX10_laysSoon_17 (by decide) h (fun h => ?_) (fun h => ?_)
    · refine z_sub [] rfl ?_
      exact hk M h
    · refine z_iload_n Z dX10_laysSoon_20 rfl 1 rfl ?_
      refine z_aload_n Z dX10_laysSoon_21 rfl 0 rfl ?_
      refine z_aload_n Z dX10_laysSoon_22 rfl 0 rfl ?_
      refine gM_X10_48_0 X dX10_laysSoon_23 ?_
      refine z_iload_n Z dX10_laysSoon_26 rfl 2 rfl ?_
      refine ldM_12 X dX10_laysSoon_27 h (fun x0 h => ?_)
      obtain ⟨r_, M1, hf, h⟩ := z_cld h
      refine z_callVi (Wd := wM cI cZ ad) X (c_X10_waited hf) ml_X10_292 yd_X10_waited yw_X10_waited (by omega) (by decide) (rM_0 X) rfl rfl (Nat.le_of_ble_eq_true rfl) ⟨Nat.zero_le _, Nat.zero_le _⟩ dX10_laysSoon_28 ?_
      refine z_iadd Z dX10_laysSoon_31 ?_
      refine z_nmI h (fun v3_ h => ?_)
      refine z_istore_n (lv' := [(3, .int (z_I v3_)), (0, .ref (ad 0)), (1, .int (z_I v1)), (2, .int (z_I v2))]) Z dX10_laysSoon_32 rfl (by decide) rfl ?_
      refine z_aload_n Z dX10_laysSoon_33 rfl 1 rfl ?_
      refine gM_X10_45_0 X dX10_laysSoon_34 ?_
      refine z_iload_n Z dX10_laysSoon_37 rfl 3 rfl ?_
      refine ldM_11 X dX10_laysSoon_38 h (fun x1 h => ?_)
      refine z_istore (lv' := [(4, .int (z_I x1)), (3, .int (z_I v3_)), (0, .ref (ad 0)), (1, .int (z_I v1)), (2, .int (z_I v2))]) Z dX10_laysSoon_39 (by decide) rfl ?_
      refine z_aload_n Z dX10_laysSoon_41 rfl 2 rfl ?_
      refine gM_X10_75_0 X dX10_laysSoon_42 ?_
      refine z_iload Z dX10_laysSoon_45 0 rfl ?_
      refine ldM_21 X dX10_laysSoon_47 h (fun x2 h => ?_)
      refine z_istore (lv' := [(5, .int (z_I x2)), (4, .int (z_I x1)), (3, .int (z_I v3_)), (0, .ref (ad 0)), (1, .int (z_I v1)), (2, .int (z_I v2))]) Z dX10_laysSoon_48 (by decide) rfl ?_
      refine z_iconst Z dX10_laysSoon_50 ?_
      refine z_istore (lv' := [(6, .int (z_I 0)), (5, .int (z_I x2)), (4, .int (z_I x1)), (3, .int (z_I v3_)), (0, .ref (ad 0)), (1, .int (z_I v1)), (2, .int (z_I v2))]) Z dX10_laysSoon_51 (by decide) rfl ?_
      refine z_jnr (P := fun (k : Int → zMem → zO) => ∀ (v5_ : Int) (M2 : zMem), k v5_ M2 = some (r, M') → z_V p l e R s m args below meth c D A cI cZ 8 (wM cI cZ ad) M' none M2 132 [(0, .ref (ad 0)), (2, .int (z_I v2)), (3, .int (z_I v3_)), (4, .int (z_I x1)), (5, .int (z_I v5_))] []) h ?_ ?_
      · intro v5_ M2 h
        refine z_aload_n Z dX10_laysSoon_132 rfl 0 rfl ?_
        refine gM_X10_75_0 X dX10_laysSoon_133 ?_
        refine z_iload Z dX10_laysSoon_136 3 rfl ?_
        refine z_iload Z dX10_laysSoon_138 4 rfl ?_
        refine srM_21 X dX10_laysSoon_140 h (fun M3 h => ?_)
        refine z_aload_n Z dX10_laysSoon_141 rfl 0 rfl ?_
        refine z_iload Z dX10_laysSoon_142 4 rfl ?_
        refine z_iload_n Z dX10_laysSoon_144 rfl 2 rfl ?_
        obtain ⟨r_1, M4, hf1, h⟩ := z_cld h
        refine z_callVi (Wd := wM cI cZ ad) X (c_X10_whenAt hf1) ml_X10_295 yd_X10_whenAt yw_X10_whenAt (by omega) (by decide) (rM_0 X) rfl rfl (Nat.le_of_ble_eq_true rfl) ⟨Nat.zero_le _, Nat.zero_le _⟩ dX10_laysSoon_145 ?_
        refine z_istore_n (lv' := [(1, .int (z_I r_1)), (0, .ref (ad 0)), (2, .int (z_I v2)), (3, .int (z_I v3_)), (4, .int (z_I x1)), (5, .int (z_I v5_))]) Z dX10_laysSoon_148 rfl (by decide) rfl ?_
        refine z_iincn Z (fun z => [(2, .int (z_I z)), (1, .int (z_I r_1)), (0, .ref (ad 0)), (3, .int (z_I v3_)), (4, .int (z_I x1)), (5, .int (z_I v5_))]) dX10_laysSoon_149 (k := 2) rfl (by decide) (fun _ => rfl) h (fun v2_ h => ?_)
        refine z_goto (tgt := 12) Z dX10_laysSoon_152 (by decide) ?_
        refine z_sub [2, 1, 0] rfl ?_
        exact ih r_1 v2_ M4 h
      · intro k1 hk1 h
        refine z_sub [4, 6, 3, 2, 1, 0] rfl ?_
        exact wModel_laysSoon_53 X hr hlk N v2 v3_ x1 k1 hk1 N x2 0 M1 h
set_option maxRecDepth 100000 in
set_option maxHeartbeats 4000000 in
theorem c_X10_laysSoon {l : Launch} {D : va_G} {cI cZ : ClassId} {ad adK adV : Nat → Nat} {N : Nat} {M M' : zMem} {r : Int} (h : Model_laysSoon N M = some (r, M')) : z_Ct (wM cI cZ ad) D cI cZ adK adV l yX10_laysSoon cX10_laysSoon 8 none 6 [.ref (ad 0)] M M' none := by
  unfold Model_laysSoon at h
  refine z_entry (own := RX10) rfl (by decide) (Nat.le_of_ble_eq_true rfl) ?_
  intro p e s m args below meth c R A X hr hlk
  have Z := X.1
  refine z_sub (lv' := [(0, .ref (ad 0))]) [0] rfl ?_
  refine z_aload_n Z dX10_laysSoon_0 rfl 0 rfl ?_
  obtain ⟨u_, M1, hf, h⟩ := z_cld h
  refine z_callVv (Wd := wM cI cZ ad) X (c_X10_takes hf) ml_X10_298 yd_X10_takes yw_X10_takes (by omega) (by decide) (rM_0 X) rfl rfl (Nat.le_of_ble_eq_true rfl) ⟨Nat.zero_le _, Nat.zero_le _⟩ dX10_laysSoon_1 ?_
  refine z_aload_n Z dX10_laysSoon_4 rfl 0 rfl ?_
  obtain ⟨u_1, M2, hf1, h⟩ := z_cld h
  refine z_callVv (Wd := wM cI cZ ad) X (c_X10_runs hf1) ml_X10_301 yd_X10_runs yw_X10_runs (by omega) (by decide) (rM_0 X) rfl rfl (Nat.le_of_ble_eq_true rfl) ⟨Nat.zero_le _, Nat.zero_le _⟩ dX10_laysSoon_5 ?_
  refine z_iconst Z dX10_laysSoon_8 ?_
  refine z_istore_n (lv' := [(1, .int (z_I 0)), (0, .ref (ad 0))]) Z dX10_laysSoon_9 rfl (by decide) rfl ?_
  refine z_iconst Z dX10_laysSoon_10 ?_
  refine z_istore_n (lv' := [(2, .int (z_I 0)), (1, .int (z_I 0)), (0, .ref (ad 0))]) Z dX10_laysSoon_11 rfl (by decide) rfl ?_
  refine z_jnr (P := fun (k : zMem → zO) => ∀ (M3 : zMem), k M3 = some (r, M') → z_V p l e R s m args below meth c D A cI cZ 8 (wM cI cZ ad) M' none M3 155 [] []) h ?_ ?_
  · intro M3 h
    exact z_vret X hr hlk dX10_laysSoon_155 h
  · intro k0 hk0 h
    refine z_sub [2, 1, 0] rfl ?_
    exact wModel_laysSoon_12 X hr hlk N k0 hk0 N 0 0 M2 h
set_option maxRecDepth 100000 in
set_option maxHeartbeats 4000000 in
theorem c_X10_isFree {l : Launch} {D : va_G} {cI cZ : ClassId} {ad adK adV : Nat → Nat} {v1 : Int} {M M' : zMem} {r : Int} (h : Model_isFree v1 M = some (r, M')) : z_Ct (wM cI cZ ad) D cI cZ adK adV l yX10_isFree cX10_isFree 2 (some .boolean) 1 [.ref (ad 0), .int (z_I v1)] M M' (some (.int (z_I r))) := by
  unfold Model_isFree at h
  refine z_entry (own := RX10) rfl (by decide) (Nat.le_of_ble_eq_true rfl) ?_
  intro p e s m args below meth c R A X hr hlk
  have Z := X.1
  refine z_sub (lv' := [(0, .ref (ad 0)), (1, .int (z_I v1))]) [0, 1] rfl ?_
  refine z_aload_n Z dX10_isFree_0 rfl 0 rfl ?_
  refine gM_X10_7_0 X dX10_isFree_1 ?_
  refine z_sipush Z dX10_isFree_4 rfl ?_
  refine z_iload_n Z dX10_isFree_7 rfl 1 rfl ?_
  refine z_iadd Z dX10_isFree_8 ?_
  refine ldM_1 X dX10_isFree_9 h (fun x0 h => ?_)
  refine z_iconst Z dX10_isFree_10 ?_
  refine z_icmp_ne (tgt := 18) Z dX10_isFree_11 (by decide) h (fun h => ?_) (fun h => ?_)
  · refine z_iconst Z dX10_isFree_18 ?_
    exact z_zret X hr hlk (Or.inl rfl) dX10_isFree_19 h
  · refine z_iconst Z dX10_isFree_14 ?_
    refine z_goto (tgt := 19) Z dX10_isFree_15 (by decide) ?_
    exact z_zret X hr hlk (Or.inr rfl) dX10_isFree_19 h
set_option maxRecDepth 100000 in
set_option maxHeartbeats 4000000 in
theorem wModel_laysClasses_11 {p : Program} {l : Launch} {e : Env} {R : Room} {s : State} {m : MethodId} {args : Array Value} {below : List Frame} {meth : Method} {c : Code} {D : va_G} {A : Nat → Prop} {cI cZ : ClassId} {adK adV ad : Nat → Nat} {r : Int} {M' : zMem} (X : z_X p m c cX10_laysClasses 4 s args RX10 R 2 D cI cZ A adK adV) (hr : meth.sig.returnType = none) (hlk : meth.locks = false) (N : Nat) (k : zMem → zO) (hk : ∀ (M : zMem), k M = some (r, M') → z_V p l e R s m args below meth c D A cI cZ 4 (wM cI cZ ad) M' none M 30 [(0, .ref (ad 0))] []) : ∀ (n : Nat) (v1 : Int) (M : zMem), Model_laysClasses_11 N k n v1 M = some (r, M') → z_V p l e R s m args below meth c D A cI cZ 4 (wM cI cZ ad) M' none M 11 [(0, .ref (ad 0)), (1, .int (z_I v1))] [] := by
  have Z := X.1
  intro n
  induction n with
  | zero =>
    intro v1 M h
    rw [Model_laysClasses_11] at h
    cases h
  | succ n ih =>
    intro v1 M h
    rw [Model_laysClasses_11] at h
    refine z_iload_n Z dX10_laysClasses_11 rfl 1 rfl ?_
    refine z_bipush Z dX10_laysClasses_12 rfl ?_
    refine z_icmp_ge (tgt := 30) Z dX10_laysClasses_14 (by decide) h (fun h => ?_) (fun h => ?_)
    · refine z_sub [0] rfl ?_
      exact hk M h
    · refine z_aload_n Z dX10_laysClasses_17 rfl 0 rfl ?_
      refine gM_X10_84_0 X dX10_laysClasses_18 ?_
      refine z_iload_n Z dX10_laysClasses_21 rfl 1 rfl ?_
      refine z_iconst Z dX10_laysClasses_22 ?_
      refine srM_24 X dX10_laysClasses_23 h (fun M1 h => ?_)
      refine z_iincn Z (fun z => [(1, .int (z_I z)), (0, .ref (ad 0))]) dX10_laysClasses_24 (k := 1) rfl (by decide) (fun _ => rfl) h (fun v1_ h => ?_)
      refine z_goto (tgt := 11) Z dX10_laysClasses_27 (by decide) ?_
      refine z_sub [1, 0] rfl ?_
      exact ih v1_ M1 h
set_option maxRecDepth 100000 in
set_option maxHeartbeats 4000000 in
theorem wModel_laysClasses_32 {p : Program} {l : Launch} {e : Env} {R : Room} {s : State} {m : MethodId} {args : Array Value} {below : List Frame} {meth : Method} {c : Code} {D : va_G} {A : Nat → Prop} {cI cZ : ClassId} {adK adV ad : Nat → Nat} {r : Int} {M' : zMem} (X : z_X p m c cX10_laysClasses 4 s args RX10 R 2 D cI cZ A adK adV) (hr : meth.sig.returnType = none) (hlk : meth.locks = false) (N : Nat) (k : zMem → zO) (hk : ∀ (M : zMem), k M = some (r, M') → z_V p l e R s m args below meth c D A cI cZ 4 (wM cI cZ ad) M' none M 153 [] []) : ∀ (n : Nat) (v1 : Int) (M : zMem), Model_laysClasses_32 N k n v1 M = some (r, M') → z_V p l e R s m args below meth c D A cI cZ 4 (wM cI cZ ad) M' none M 32 [(0, .ref (ad 0)), (1, .int (z_I v1))] [] := by
  have Z := X.1
  intro n
  induction n with
  | zero =>
    intro v1 M h
    rw [Model_laysClasses_32] at h
    cases h
  | succ n ih =>
    intro v1 M h
    rw [Model_laysClasses_32] at h
    refine z_iload_n Z dX10_laysClasses_32 rfl 1 rfl ?_
    refine z_aload_n Z dX10_laysClasses_33 rfl 0 rfl ?_
    obtain ⟨r_, M1, hf, h⟩ := z_cld h
    refine z_callVi (Wd := wM cI cZ ad) X (c_X10_many hf) ml_X10_218 yd_X10_many yw_X10_many (by omega) (by decide) (rM_0 X) rfl rfl (Nat.le_of_ble_eq_true rfl) ⟨Nat.zero_le _, Nat.zero_le _⟩ dX10_laysClasses_34 ?_
    refine z_icmp_ge (tgt := 153) Z dX10_laysClasses_37 (by decide) h (fun h => ?_) (fun h => ?_)
    · refine z_sub [] rfl ?_
      exact hk M1 h
    · refine z_iload_n Z dX10_laysClasses_40 rfl 1 rfl ?_
      refine z_aload_n Z dX10_laysClasses_41 rfl 0 rfl ?_
      refine gM_X10_7_0 X dX10_laysClasses_42 ?_
      refine z_iconst Z dX10_laysClasses_45 ?_
      refine ldM_1 X dX10_laysClasses_46 h (fun x0 h => ?_)
      refine z_idiv Z dX10_laysClasses_47 h (fun x1 h => ?_)
      refine z_aload_n Z dX10_laysClasses_48 rfl 0 rfl ?_
      refine gM_X10_7_0 X dX10_laysClasses_49 ?_
      refine z_iconst Z dX10_laysClasses_52 ?_
      refine ldM_1 X dX10_laysClasses_53 h (fun x2 h => ?_)
      refine z_iconst Z dX10_laysClasses_54 ?_
      refine z_isub Z dX10_laysClasses_55 ?_
      refine z_jnr (P := fun (k : Int → zMem → zO) => ∀ (x3 : Int) (M2 : zMem), k x3 M2 = some (r, M') → z_V p l e R s m args below meth c D A cI cZ 4 (wM cI cZ ad) M' none M2 73 [(0, .ref (ad 0)), (1, .int (z_I v1))] [.int (z_I x3)]) h ?_ ?_
      · intro x3 M2 h
        refine z_istore_n (lv' := [(2, .int (z_I x3)), (0, .ref (ad 0)), (1, .int (z_I v1))]) Z dX10_laysClasses_73 rfl (by decide) rfl ?_
        refine z_iload_n Z dX10_laysClasses_74 rfl 0 rfl ?_
        refine z_jnr (P := fun (k : Int → zMem → zO) => ∀ (x4 : Int) (M3 : zMem), k x4 M3 = some (r, M') → z_V p l e R s m args below meth c D A cI cZ 4 (wM cI cZ ad) M' none M3 107 [(0, .ref (ad 0)), (1, .int (z_I v1))] [.int (z_I x4)]) h ?_ ?_
        · intro x4 M3 h
          refine z_istore_n (lv' := [(3, .int (z_I x4)), (0, .ref (ad 0)), (1, .int (z_I v1))]) Z dX10_laysClasses_107 rfl (by decide) rfl ?_
          refine z_aload_n Z dX10_laysClasses_108 rfl 1 rfl ?_
          refine gM_X10_81_0 X dX10_laysClasses_109 ?_
          refine z_iload_n Z dX10_laysClasses_112 rfl 2 rfl ?_
          refine z_aload_n Z dX10_laysClasses_113 rfl 1 rfl ?_
          refine z_iload_n Z dX10_laysClasses_114 rfl 2 rfl ?_
          obtain ⟨r_1, M4, hf1, h⟩ := z_cld h
          refine z_callVi (Wd := wM cI cZ ad) X (c_X10_isTaken hf1) ml_X10_339 yd_X10_isTaken yw_X10_isTaken (by omega) (by decide) (rM_0 X) rfl rfl (Nat.le_of_ble_eq_true rfl) ⟨Nat.zero_le _, Nat.zero_le _⟩ dX10_laysClasses_115 ?_
          refine z_jnr (P := fun (k : Int → Int → zMem → zO) => ∀ (x5 x6 : Int) (M5 : zMem), k x5 x6 M5 = some (r, M') → z_V p l e R s m args below meth c D A cI cZ 4 (wM cI cZ ad) M' none M5 126 [(0, .ref (ad 0)), (1, .int (z_I v1)), (3, .int (z_I x4))] [.int (z_I x5), .int (z_I x6), .ref (ad 23)]) h ?_ ?_
          · intro x5 x6 M5 h
            refine srM_23 X dX10_laysClasses_126 h (fun M6 h => ?_)
            refine z_aload_n Z dX10_laysClasses_127 rfl 0 rfl ?_
            refine gM_X10_81_0 X dX10_laysClasses_128 ?_
            refine z_iload_n Z dX10_laysClasses_131 rfl 1 rfl ?_
            refine ldM_23 X dX10_laysClasses_132 h (fun x7 h => ?_)
            refine z_iconst Z dX10_laysClasses_133 ?_
            refine z_jnr (P := fun (k : zMem → zO) => ∀ (M7 : zMem), k M7 = some (r, M') → z_V p l e R s m args below meth c D A cI cZ 4 (wM cI cZ ad) M' none M7 147 [(0, .ref (ad 0)), (1, .int (z_I v1))] []) h ?_ ?_
            · intro M7 h
              refine z_iincn Z (fun z => [(1, .int (z_I z)), (0, .ref (ad 0))]) dX10_laysClasses_147 (k := 1) rfl (by decide) (fun _ => rfl) h (fun v1_ h => ?_)
              refine z_goto (tgt := 32) Z dX10_laysClasses_150 (by decide) ?_
              refine z_sub [1, 0] rfl ?_
              exact ih v1_ M7 h
            · intro k4 hk4 h
              refine z_icmp_eq (tgt := 147) Z dX10_laysClasses_134 (by decide) h (fun h => ?_) (fun h => ?_)
              · refine z_sub [0, 1] rfl ?_
                exact hk4 M6 h
              · refine z_aload_n Z dX10_laysClasses_137 rfl 0 rfl ?_
                refine gM_X10_84_0 X dX10_laysClasses_138 ?_
                refine z_iload_n Z dX10_laysClasses_141 rfl 2 rfl ?_
                refine z_dup2 Z dX10_laysClasses_142 rfl rfl ?_
                refine ldM_24 X dX10_laysClasses_143 h (fun x8 h => ?_)
                refine z_iconst Z dX10_laysClasses_144 ?_
                refine z_iadd Z dX10_laysClasses_145 ?_
                refine srM_24 X dX10_laysClasses_146 h (fun M8 h => ?_)
                refine z_sub [0, 1] rfl ?_
                exact hk4 M8 h
          · intro k3 hk3 h
            refine z_if_eq (tgt := 125) Z dX10_laysClasses_118 (by decide) h (fun h => ?_) (fun h => ?_)
            · refine z_iload_n Z dX10_laysClasses_125 rfl 0 rfl ?_
              refine z_sub [1, 2, 0] rfl ?_
              exact hk3 x4 v1 M4 h
            · refine z_iconst Z dX10_laysClasses_121 ?_
              refine z_goto (tgt := 126) Z dX10_laysClasses_122 (by decide) ?_
              refine z_sub [1, 2, 0] rfl ?_
              exact hk3 (-1) v1 M4 h
        · intro k2 hk2 h
          refine z_if_eq (tgt := 99) Z dX10_laysClasses_75 (by decide) h (fun h => ?_) (fun h => ?_)
          · refine z_iload_n Z dX10_laysClasses_99 rfl 2 rfl ?_
            refine z_aload_n Z dX10_laysClasses_100 rfl 1 rfl ?_
            refine gM_X10_7_0 X dX10_laysClasses_101 ?_
            refine z_iconst Z dX10_laysClasses_104 ?_
            refine ldM_1 X dX10_laysClasses_105 h (fun x9 h => ?_)
            refine z_iremt Z dX10_laysClasses_106 h (fun x10 h => ?_)
            refine z_sub [1, 2] rfl ?_
            exact hk2 x10 M2 h
          · refine z_bipush Z dX10_laysClasses_78 rfl ?_
            refine z_iload_n Z dX10_laysClasses_80 rfl 2 rfl ?_
            refine z_aload_n Z dX10_laysClasses_81 rfl 1 rfl ?_
            refine gM_X10_7_0 X dX10_laysClasses_82 ?_
            refine z_iconst Z dX10_laysClasses_85 ?_
            refine ldM_1 X dX10_laysClasses_86 h (fun x11 h => ?_)
            refine z_iremt Z dX10_laysClasses_87 h (fun x12 h => ?_)
            refine z_aload_n Z dX10_laysClasses_88 rfl 1 rfl ?_
            refine gM_X10_7_0 X dX10_laysClasses_89 ?_
            refine z_iconst Z dX10_laysClasses_92 ?_
            refine ldM_1 X dX10_laysClasses_93 h (fun x13 h => ?_)
            refine z_iremt Z dX10_laysClasses_94 h (fun x14 h => ?_)
            refine z_iadd Z dX10_laysClasses_95 ?_
            refine z_goto (tgt := 107) Z dX10_laysClasses_96 (by decide) ?_
            refine z_sub [1, 2] rfl ?_
            exact hk2 (12 + x14) M2 h
      · intro k1 hk1 h
        refine z_jnr (P := fun (k : zMem → zO) => ∀ (M9 : zMem), k M9 = some (r, M') → z_V p l e R s m args below meth c D A cI cZ 4 (wM cI cZ ad) M' none M9 72 [(0, .ref (ad 0)), (1, .int (z_I v1))] []) h ?_ ?_
        · intro M9 h
          refine z_iconst Z dX10_laysClasses_72 ?_
          refine z_sub [0, 1] rfl ?_
          exact hk1 0 M9 h
        · intro k5 hk5 h
          refine z_icmp_ne (tgt := 72) Z dX10_laysClasses_56 (by decide) h (fun h => ?_) (fun h => ?_)
          · refine z_sub [0, 1] rfl ?_
            exact hk5 M1 h
          · refine z_aload_n Z dX10_laysClasses_59 rfl 0 rfl ?_
            refine gM_X10_7_0 X dX10_laysClasses_60 ?_
            refine z_iconst Z dX10_laysClasses_63 ?_
            refine ldM_1 X dX10_laysClasses_64 h (fun x15 h => ?_)
            refine z_if_le (tgt := 72) Z dX10_laysClasses_65 (by decide) h (fun h => ?_) (fun h => ?_)
            · refine z_sub [0, 1] rfl ?_
              exact hk5 M1 h
            · refine z_iconst Z dX10_laysClasses_68 ?_
              refine z_goto (tgt := 73) Z dX10_laysClasses_69 (by decide) ?_
              refine z_sub [0, 1] rfl ?_
              exact hk1 1 M1 h
set_option maxRecDepth 100000 in
set_option maxHeartbeats 4000000 in
theorem c_X10_laysClasses {l : Launch} {D : va_G} {cI cZ : ClassId} {ad adK adV : Nat → Nat} {N : Nat} {M M' : zMem} {r : Int} (h : Model_laysClasses N M = some (r, M')) : z_Ct (wM cI cZ ad) D cI cZ adK adV l yX10_laysClasses cX10_laysClasses 4 none 2 [.ref (ad 0)] M M' none := by
  unfold Model_laysClasses at h
  refine z_entry (own := RX10) rfl (by decide) (Nat.le_of_ble_eq_true rfl) ?_
  intro p e s m args below meth c R A X hr hlk
  have Z := X.1
  refine z_sub (lv' := [(0, .ref (ad 0))]) [0] rfl ?_
  refine z_aload_n Z dX10_laysClasses_0 rfl 0 rfl ?_
  refine z_iconst Z dX10_laysClasses_1 ?_
  refine pM_X10_342_0 X dX10_laysClasses_2 h (fun M1 h => ?_)
  refine z_aload_n Z dX10_laysClasses_5 rfl 0 rfl ?_
  obtain ⟨u_, M2, hf, h⟩ := z_cld h
  refine z_callVv (Wd := wM cI cZ ad) X (c_X10_laysFixed hf) ml_X10_345 yd_X10_laysFixed yw_X10_laysFixed (by omega) (by decide) (rM_0 X) rfl rfl (Nat.le_of_ble_eq_true rfl) ⟨Nat.zero_le _, Nat.zero_le _⟩ dX10_laysClasses_6 ?_
  refine z_iconst Z dX10_laysClasses_9 ?_
  refine z_istore_n (lv' := [(1, .int (z_I 0)), (0, .ref (ad 0))]) Z dX10_laysClasses_10 rfl (by decide) rfl ?_
  refine z_jnr (P := fun (k : zMem → zO) => ∀ (M3 : zMem), k M3 = some (r, M') → z_V p l e R s m args below meth c D A cI cZ 4 (wM cI cZ ad) M' none M3 30 [(0, .ref (ad 0))] []) h ?_ ?_
  · intro M3 h
    refine z_iconst Z dX10_laysClasses_30 ?_
    refine z_istore_n (lv' := [(1, .int (z_I 0)), (0, .ref (ad 0))]) Z dX10_laysClasses_31 rfl (by decide) rfl ?_
    refine z_jnr (P := fun (k : zMem → zO) => ∀ (M4 : zMem), k M4 = some (r, M') → z_V p l e R s m args below meth c D A cI cZ 4 (wM cI cZ ad) M' none M4 153 [] []) h ?_ ?_
    · intro M4 h
      exact z_vret X hr hlk dX10_laysClasses_153 h
    · intro k1 hk1 h
      refine z_sub [1, 0] rfl ?_
      exact wModel_laysClasses_32 X hr hlk N k1 hk1 N 0 M3 h
  · intro k0 hk0 h
    refine z_sub [1, 0] rfl ?_
    exact wModel_laysClasses_11 X hr hlk N k0 hk0 N 0 M2 h
set_option maxRecDepth 100000 in
set_option maxHeartbeats 4000000 in
theorem wModel_placeOf_30 {p : Program} {l : Launch} {e : Env} {R : Room} {s : State} {m : MethodId} {args : Array Value} {below : List Frame} {meth : Method} {c : Code} {D : va_G} {A : Nat → Prop} {cI cZ : ClassId} {adK adV ad : Nat → Nat} {r : Int} {M' : zMem} (X : z_X p m c cX10_placeOf 6 s args RX10 R 2 D cI cZ A adK adV) (hr : meth.sig.returnType = some .int) (hlk : meth.locks = false) (N : Nat) (v1 v2 v3 : Int) (k : Int → zMem → zO) (hk : ∀ (y4 : Int) (M : zMem), k y4 M = some (r, M') → z_V p l e R s m args below meth c D A cI cZ 6 (wM cI cZ ad) M' (some (.int (z_I r))) M 70 [(0, .ref (ad 0)), (1, .int (z_I v1)), (2, .int (z_I v2)), (3, .int (z_I v3)), (4, .int (z_I y4))] []) : ∀ (n : Nat) (v4 v5 : Int) (M : zMem), Model_placeOf_30 N v1 v2 v3 k n v4 v5 M = some (r, M') → z_V p l e R s m args below meth c D A cI cZ 6 (wM cI cZ ad) M' (some (.int (z_I r))) M 30 [(0, .ref (ad 0)), (1, .int (z_I v1)), (2, .int (z_I v2)), (3, .int (z_I v3)), (4, .int (z_I v4)), (5, .int (z_I v5))] [] := by
  have Z := X.1
  intro n
  induction n with
  | zero =>
    intro v4 v5 M h
    rw [Model_placeOf_30] at h
    cases h
  | succ n ih =>
    intro v4 v5 M h
    rw [Model_placeOf_30] at h
    refine z_iload Z dX10_placeOf_30 5 rfl ?_
    refine z_iload_n Z dX10_placeOf_32 rfl 2 rfl ?_
    refine z_icmp_ge (tgt := 70) Z dX10_placeOf_33 (by decide) h (fun h => ?_) (fun h => ?_)
    · refine z_sub [0, 1, 2, 3, 4] rfl ?_
      exact hk v4 M h
    · refine z_iload Z dX10_placeOf_36 4 rfl ?_
      refine z_jnr (P := fun (k : Int → zMem → zO) => ∀ (x0 : Int) (M1 : zMem), k x0 M1 = some (r, M') → z_V p l e R s m args below meth c D A cI cZ 6 (wM cI cZ ad) M' (some (.int (z_I r))) M1 62 [(0, .ref (ad 0)), (1, .int (z_I v1)), (2, .int (z_I v2)), (3, .int (z_I v3)), (5, .int (z_I v5))] [.int (z_I x0)]) h ?_ ?_
      · intro x0 M1 h
        refine z_istore (lv' := [(4, .int (z_I x0)), (0, .ref (ad 0)), (1, .int (z_I v1)), (2, .int (z_I v2)), (3, .int (z_I v3)), (5, .int (z_I v5))]) Z dX10_placeOf_62 (by decide) rfl ?_
        refine z_iincn Z (fun z => [(5, .int (z_I z)), (4, .int (z_I x0)), (0, .ref (ad 0)), (1, .int (z_I v1)), (2, .int (z_I v2)), (3, .int (z_I v3))]) dX10_placeOf_64 (k := 5) rfl (by decide) (fun _ => rfl) h (fun v5_ h => ?_)
        refine z_goto (tgt := 30) Z dX10_placeOf_67 (by decide) ?_
        refine z_sub [2, 3, 4, 5, 1, 0] rfl ?_
        exact ih x0 v5_ M1 h
      · intro k1 hk1 h
        refine z_jnr (P := fun (k : zMem → zO) => ∀ (M2 : zMem), k M2 = some (r, M') → z_V p l e R s m args below meth c D A cI cZ 6 (wM cI cZ ad) M' (some (.int (z_I r))) M2 61 [(0, .ref (ad 0)), (1, .int (z_I v1)), (2, .int (z_I v2)), (3, .int (z_I v3)), (5, .int (z_I v5))] []) h ?_ ?_
        · intro M2 h
          refine z_iconst Z dX10_placeOf_61 ?_
          refine z_sub [0, 1, 2, 3, 4] rfl ?_
          exact hk1 0 M2 h
        · intro k2 hk2 h
          refine z_if_eq (tgt := 61) Z dX10_placeOf_38 (by decide) h (fun h => ?_) (fun h => ?_)
          · refine z_sub [0, 1, 2, 3, 5] rfl ?_
            exact hk2 M h
          · refine z_aload_n Z dX10_placeOf_41 rfl 0 rfl ?_
            refine gM_X10_72_0 X dX10_placeOf_42 ?_
            refine z_aload_n Z dX10_placeOf_45 rfl 0 rfl ?_
            refine gM_X10_90_0 X dX10_placeOf_46 ?_
            refine z_iload Z dX10_placeOf_49 5 rfl ?_
            refine ldM_26 X dX10_placeOf_51 h (fun x1 h => ?_)
            refine ldM_20 X dX10_placeOf_52 h (fun x2 h => ?_)
            refine z_iload_n Z dX10_placeOf_53 rfl 3 rfl ?_
            refine z_icmp_eq (tgt := 61) Z dX10_placeOf_54 (by decide) h (fun h => ?_) (fun h => ?_)
            · refine z_sub [0, 1, 2, 3, 5] rfl ?_
              exact hk2 M h
            · refine z_iconst Z dX10_placeOf_57 ?_
              refine z_goto (tgt := 62) Z dX10_placeOf_58 (by decide) ?_
              refine z_sub [0, 1, 2, 3, 5] rfl ?_
              exact hk1 1 M h
set_option maxRecDepth 100000 in
set_option maxHeartbeats 4000000 in
theorem wModel_placeOf_2 {p : Program} {l : Launch} {e : Env} {R : Room} {s : State} {m : MethodId} {args : Array Value} {below : List Frame} {meth : Method} {c : Code} {D : va_G} {A : Nat → Prop} {cI cZ : ClassId} {adK adV ad : Nat → Nat} {r : Int} {M' : zMem} (X : z_X p m c cX10_placeOf 6 s args RX10 R 2 D cI cZ A adK adV) (hr : meth.sig.returnType = some .int) (hlk : meth.locks = false) (N : Nat) (v1 v2 : Int) (k : zMem → zO) (hk : ∀ (M : zMem), k M = some (r, M') → z_V p l e R s m args below meth c D A cI cZ 6 (wM cI cZ ad) M' (some (.int (z_I r))) M 83 [] []) : ∀ (n : Nat) (v3 : Int) (M : zMem), Model_placeOf_2 N v1 v2 k n v3 M = some (r, M') → z_V p l e R s m args below meth c D A cI cZ 6 (wM cI cZ ad) M' (some (.int (z_I r))) M 2 [(0, .ref (ad 0)), (1, .int (z_I v1)), (2, .int (z_I v2)), (3, .int (z_I v3))] [] := by
  have Z := X.1
  intro n
  induction n with
  | zero =>
    intro v3 M h
    rw [Model_placeOf_2] at h
    cases h
  | succ n ih =>
    intro v3 M h
    rw [Model_placeOf_2] at h
    refine z_iload_n Z dX10_placeOf_2 rfl 3 rfl ?_
    refine z_aload_n Z dX10_placeOf_3 rfl 0 rfl ?_
    obtain ⟨r_, M1, hf, h⟩ := z_cld h
    refine z_callVi (Wd := wM cI cZ ad) X (c_X10_many hf) ml_X10_218 yd_X10_many yw_X10_many (by omega) (by decide) (rM_0 X) rfl rfl (Nat.le_of_ble_eq_true rfl) ⟨Nat.zero_le _, Nat.zero_le _⟩ dX10_placeOf_4 ?_
    refine z_icmp_ge (tgt := 83) Z dX10_placeOf_7 (by decide) h (fun h => ?_) (fun h => ?_)
    · refine z_sub [] rfl ?_
      exact hk M1 h
    · refine z_aload_n Z dX10_placeOf_10 rfl 0 rfl ?_
      refine gM_X10_81_0 X dX10_placeOf_11 ?_
      refine z_iload_n Z dX10_placeOf_14 rfl 3 rfl ?_
      refine ldM_23 X dX10_placeOf_15 h (fun x0 h => ?_)
      refine z_iload_n Z dX10_placeOf_16 rfl 1 rfl ?_
      refine z_jnr (P := fun (k : Int → zMem → zO) => ∀ (x1 : Int) (M2 : zMem), k x1 M2 = some (r, M') → z_V p l e R s m args below meth c D A cI cZ 6 (wM cI cZ ad) M' (some (.int (z_I r))) M2 25 [(0, .ref (ad 0)), (1, .int (z_I v1)), (2, .int (z_I v2)), (3, .int (z_I v3))] [.int (z_I x1)]) h ?_ ?_
      · intro x1 M2 h
        refine z_istore (lv' := [(4, .int (z_I x1)), (0, .ref (ad 0)), (1, .int (z_I v1)), (2, .int (z_I v2)), (3, .int (z_I v3))]) Z dX10_placeOf_25 (by decide) rfl ?_
        refine z_iconst Z dX10_placeOf_27 ?_
        refine z_istore (lv' := [(5, .int (z_I 0)), (4, .int (z_I x1)), (0, .ref (ad 0)), (1, .int (z_I v1)), (2, .int (z_I v2)), (3, .int (z_I v3))]) Z dX10_placeOf_28 (by decide) rfl ?_
        refine z_jnr (P := fun (k : Int → zMem → zO) => ∀ (v4_ : Int) (M3 : zMem), k v4_ M3 = some (r, M') → z_V p l e R s m args below meth c D A cI cZ 6 (wM cI cZ ad) M' (some (.int (z_I r))) M3 70 [(0, .ref (ad 0)), (1, .int (z_I v1)), (2, .int (z_I v2)), (3, .int (z_I v3)), (4, .int (z_I v4_))] []) h ?_ ?_
        · intro v4_ M3 h
          refine z_iload Z dX10_placeOf_70 4 rfl ?_
          refine z_if_eq (tgt := 77) Z dX10_placeOf_72 (by decide) h (fun h => ?_) (fun h => ?_)
          · refine z_iincn Z (fun z => [(3, .int (z_I z)), (0, .ref (ad 0)), (1, .int (z_I v1)), (2, .int (z_I v2)), (4, .int (z_I v4_))]) dX10_placeOf_77 (k := 3) rfl (by decide) (fun _ => rfl) h (fun v3_ h => ?_)
            refine z_goto (tgt := 2) Z dX10_placeOf_80 (by decide) ?_
            refine z_sub [1, 2, 3, 0] rfl ?_
            exact ih v3_ M3 h
          · refine z_iload_n Z dX10_placeOf_75 rfl 3 rfl ?_
            exact z_iret X hr hlk dX10_placeOf_76 h
        · intro k2 hk2 h
          refine z_sub [2, 3, 4, 5, 1, 0] rfl ?_
          exact wModel_placeOf_30 X hr hlk N v1 v2 v3 k2 hk2 N x1 0 M2 h
      · intro k1 hk1 h
        refine z_icmp_ne (tgt := 24) Z dX10_placeOf_17 (by decide) h (fun h => ?_) (fun h => ?_)
        · refine z_iconst Z dX10_placeOf_24 ?_
          refine z_sub [0, 1, 2, 3] rfl ?_
          exact hk1 0 M1 h
        · refine z_iconst Z dX10_placeOf_20 ?_
          refine z_goto (tgt := 25) Z dX10_placeOf_21 (by decide) ?_
          refine z_sub [0, 1, 2, 3] rfl ?_
          exact hk1 1 M1 h
set_option maxRecDepth 100000 in
set_option maxHeartbeats 4000000 in
theorem c_X10_placeOf {l : Launch} {D : va_G} {cI cZ : ClassId} {ad adK adV : Nat → Nat} {N : Nat} {v1 v2 : Int} {M M' : zMem} {r : Int} (h : Model_placeOf N v1 v2 M = some (r, M')) : z_Ct (wM cI cZ ad) D cI cZ adK adV l yX10_placeOf cX10_placeOf 6 (some .int) 2 [.ref (ad 0), .int (z_I v1), .int (z_I v2)] M M' (some (.int (z_I r))) := by
  unfold Model_placeOf at h
  refine z_entry (own := RX10) rfl (by decide) (Nat.le_of_ble_eq_true rfl) ?_
  intro p e s m args below meth c R A X hr hlk
  have Z := X.1
  refine z_sub (lv' := [(0, .ref (ad 0)), (1, .int (z_I v1)), (2, .int (z_I v2))]) [0, 1, 2] rfl ?_
  refine z_iconst Z dX10_placeOf_0 ?_
  refine z_istore_n (lv' := [(3, .int (z_I 0)), (0, .ref (ad 0)), (1, .int (z_I v1)), (2, .int (z_I v2))]) Z dX10_placeOf_1 rfl (by decide) rfl ?_
  refine z_jnr (P := fun (k : zMem → zO) => ∀ (M1 : zMem), k M1 = some (r, M') → z_V p l e R s m args below meth c D A cI cZ 6 (wM cI cZ ad) M' (some (.int (z_I r))) M1 83 [] []) h ?_ ?_
  · intro M1 h
    refine z_iconst Z dX10_placeOf_83 ?_
    exact z_iret X hr hlk dX10_placeOf_84 h
  · intro k0 hk0 h
    refine z_sub [1, 2, 3, 0] rfl ?_
    exact wModel_placeOf_2 X hr hlk N v1 v2 k0 hk0 N 0 M h
set_option maxRecDepth 100000 in
set_option maxHeartbeats 4000000 in
theorem wModel_isAhead_2 {p : Program} {l : Launch} {e : Env} {R : Room} {s : State} {m : MethodId} {args : Array Value} {below : List Frame} {meth : Method} {c : Code} {D : va_G} {A : Nat → Prop} {cI cZ : ClassId} {adK adV ad : Nat → Nat} {r : Int} {M' : zMem} (X : z_X p m c cX10_isAhead 2 s args RX10 R 1 D cI cZ A adK adV) (hr : meth.sig.returnType = some .boolean) (hlk : meth.locks = false) (N : Nat) (k : zMem → zO) (hk : ∀ (M : zMem), k M = some (r, M') → z_V p l e R s m args below meth c D A cI cZ 2 (wM cI cZ ad) M' (some (.int (z_I r))) M 72 [] []) : ∀ (n : Nat) (v1 : Int) (M : zMem), Model_isAhead_2 N k n v1 M = some (r, M') → z_V p l e R s m args below meth c D A cI cZ 2 (wM cI cZ ad) M' (some (.int (z_I r))) M 2 [(0, .ref (ad 0)), (1, .int (z_I v1))] [] := by
  have Z := X.1
  intro n
  induction n with
  | zero =>
    intro v1 M h
    rw [Model_isAhead_2] at h
    cases h
  | succ n ih =>
    intro v1 M h
    rw [Model_isAhead_2] at h
    refine z_iload_n Z dX10_isAhead_2 rfl 1 rfl ?_
    refine z_aload_n Z dX10_isAhead_3 rfl 0 rfl ?_
    refine gM_X10_351_0 X dX10_isAhead_4 ?_
    refine z_icmp_ge (tgt := 72) Z dX10_isAhead_7 (by decide) h (fun h => ?_) (fun h => ?_)
    · refine z_sub [] rfl ?_
      exact hk M h
    · refine z_aload_n Z dX10_isAhead_10 rfl 0 rfl ?_
      refine gM_X10_72_0 X dX10_isAhead_11 ?_
      refine z_aload_n Z dX10_isAhead_14 rfl 0 rfl ?_
      refine gM_X10_90_0 X dX10_isAhead_15 ?_
      refine z_iload_n Z dX10_isAhead_18 rfl 1 rfl ?_
      refine ldM_26 X dX10_isAhead_19 h (fun x0 h => ?_)
      refine ldM_20 X dX10_isAhead_20 h (fun x1 h => ?_)
      refine z_aload_n Z dX10_isAhead_21 rfl 0 rfl ?_
      refine gM_X10_78_0 X dX10_isAhead_22 ?_
      refine z_aload_n Z dX10_isAhead_25 rfl 0 rfl ?_
      refine gM_X10_90_0 X dX10_isAhead_26 ?_
      refine z_iload_n Z dX10_isAhead_29 rfl 1 rfl ?_
      refine ldM_26 X dX10_isAhead_30 h (fun x2 h => ?_)
      refine ldM_22 X dX10_isAhead_31 h (fun x3 h => ?_)
      refine z_icmp_eq (tgt := 66) Z dX10_isAhead_32 (by decide) h (fun h => ?_) (fun h => ?_)
      · refine z_iincn Z (fun z => [(1, .int (z_I z)), (0, .ref (ad 0))]) dX10_isAhead_66 (k := 1) rfl (by decide) (fun _ => rfl) h (fun v1_ h => ?_)
        refine z_goto (tgt := 2) Z dX10_isAhead_69 (by decide) ?_
        refine z_sub [1, 0] rfl ?_
        exact ih v1_ M h
      · refine z_aload_n Z dX10_isAhead_35 rfl 0 rfl ?_
        refine gM_X10_72_0 X dX10_isAhead_36 ?_
        refine z_aload_n Z dX10_isAhead_39 rfl 0 rfl ?_
        refine gM_X10_90_0 X dX10_isAhead_40 ?_
        refine z_iload_n Z dX10_isAhead_43 rfl 1 rfl ?_
        refine ldM_26 X dX10_isAhead_44 h (fun x4 h => ?_)
        refine ldM_20 X dX10_isAhead_45 h (fun x5 h => ?_)
        refine z_aload_n Z dX10_isAhead_46 rfl 0 rfl ?_
        refine gM_X10_78_0 X dX10_isAhead_47 ?_
        refine z_aload_n Z dX10_isAhead_50 rfl 0 rfl ?_
        refine gM_X10_90_0 X dX10_isAhead_51 ?_
        refine z_iload_n Z dX10_isAhead_54 rfl 1 rfl ?_
        refine ldM_26 X dX10_isAhead_55 h (fun x6 h => ?_)
        refine ldM_22 X dX10_isAhead_56 h (fun x7 h => ?_)
        refine z_icmp_ge (tgt := 64) Z dX10_isAhead_57 (by decide) h (fun h => ?_) (fun h => ?_)
        · refine z_iconst Z dX10_isAhead_64 ?_
          exact z_zret X hr hlk (Or.inl rfl) dX10_isAhead_65 h
        · refine z_iconst Z dX10_isAhead_60 ?_
          refine z_goto (tgt := 65) Z dX10_isAhead_61 (by decide) ?_
          exact z_zret X hr hlk (Or.inr rfl) dX10_isAhead_65 h
set_option maxRecDepth 100000 in
set_option maxHeartbeats 4000000 in
theorem c_X10_isAhead {l : Launch} {D : va_G} {cI cZ : ClassId} {ad adK adV : Nat → Nat} {N : Nat} {M M' : zMem} {r : Int} (h : Model_isAhead N M = some (r, M')) : z_Ct (wM cI cZ ad) D cI cZ adK adV l yX10_isAhead cX10_isAhead 2 (some .boolean) 1 [.ref (ad 0)] M M' (some (.int (z_I r))) := by
  unfold Model_isAhead at h
  refine z_entry (own := RX10) rfl (by decide) (Nat.le_of_ble_eq_true rfl) ?_
  intro p e s m args below meth c R A X hr hlk
  have Z := X.1
  refine z_sub (lv' := [(0, .ref (ad 0))]) [0] rfl ?_
  refine z_iconst Z dX10_isAhead_0 ?_
  refine z_istore_n (lv' := [(1, .int (z_I 0)), (0, .ref (ad 0))]) Z dX10_isAhead_1 rfl (by decide) rfl ?_
  refine z_jnr (P := fun (k : zMem → zO) => ∀ (M1 : zMem), k M1 = some (r, M') → z_V p l e R s m args below meth c D A cI cZ 2 (wM cI cZ ad) M' (some (.int (z_I r))) M1 72 [] []) h ?_ ?_
  · intro M1 h
    refine z_iconst Z dX10_isAhead_72 ?_
    exact z_zret X hr hlk (Or.inl rfl) dX10_isAhead_73 h
  · intro k0 hk0 h
    refine z_sub [1, 0] rfl ?_
    exact wModel_isAhead_2 X hr hlk N k0 hk0 N 0 M h
set_option maxRecDepth 100000 in
set_option maxHeartbeats 4000000 in
theorem wModel_timed_4 {p : Program} {l : Launch} {e : Env} {R : Room} {s : State} {m : MethodId} {args : Array Value} {below : List Frame} {meth : Method} {c : Code} {D : va_G} {A : Nat → Prop} {cI cZ : ClassId} {adK adV ad : Nat → Nat} {r : Int} {M' : zMem} (X : z_X p m c cX10_timed 3 s args RX10 R 4 D cI cZ A adK adV) (hr : meth.sig.returnType = some .int) (hlk : meth.locks = false) (N : Nat) (k : Int → zMem → zO) (hk : ∀ (y1 : Int) (M : zMem), k y1 M = some (r, M') → z_V p l e R s m args below meth c D A cI cZ 3 (wM cI cZ ad) M' (some (.int (z_I r))) M 53 [(0, .ref (ad 0)), (1, .int (z_I y1))] []) : ∀ (n : Nat) (v1 v2 : Int) (M : zMem), Model_timed_4 N k n v1 v2 M = some (r, M') → z_V p l e R s m args below meth c D A cI cZ 3 (wM cI cZ ad) M' (some (.int (z_I r))) M 4 [(0, .ref (ad 0)), (1, .int (z_I v1)), (2, .int (z_I v2))] [] := by
  have Z := X.1
  intro n
  induction n with
  | zero =>
    intro v1 v2 M h
    rw [Model_timed_4] at h
    cases h
  | succ n ih =>
    intro v1 v2 M h
    rw [Model_timed_4] at h
    refine z_iload_n Z dX10_timed_4 rfl 2 rfl ?_
    refine z_aload_n Z dX10_timed_5 rfl 0 rfl ?_
    refine gM_X10_261_0 X dX10_timed_6 ?_
    refine z_icmp_ge (tgt := 53) Z dX10_timed_9 (by decide) h (fun h => ?_) (fun h => ?_)
    · refine z_sub [0, 1] rfl ?_
      exact hk v1 M h
    · refine z_aload_n Z dX10_timed_12 rfl 0 rfl ?_
      refine z_aload_n Z dX10_timed_13 rfl 0 rfl ?_
      refine gM_X10_72_0 X dX10_timed_14 ?_
      refine z_aload_n Z dX10_timed_17 rfl 0 rfl ?_
      refine gM_X10_45_0 X dX10_timed_18 ?_
      refine z_iload_n Z dX10_timed_21 rfl 2 rfl ?_
      refine ldM_11 X dX10_timed_22 h (fun x0 h => ?_)
      refine ldM_20 X dX10_timed_23 h (fun x1 h => ?_)
      refine z_iload_n Z dX10_timed_24 rfl 1 rfl ?_
      refine z_aload_n Z dX10_timed_25 rfl 0 rfl ?_
      refine z_aload_n Z dX10_timed_26 rfl 0 rfl ?_
      refine gM_X10_48_0 X dX10_timed_27 ?_
      refine z_iload_n Z dX10_timed_30 rfl 2 rfl ?_
      refine ldM_12 X dX10_timed_31 h (fun x2 h => ?_)
      obtain ⟨r_, M1, hf, h⟩ := z_cld h
      refine z_callVi (Wd := wM cI cZ ad) X (c_X10_waited hf) ml_X10_292 yd_X10_waited yw_X10_waited (by omega) (by decide) (rM_0 X) rfl rfl (Nat.le_of_ble_eq_true rfl) ⟨Nat.zero_le _, Nat.zero_le _⟩ dX10_timed_32 ?_
      refine z_iadd Z dX10_timed_35 ?_
      obtain ⟨r_1, M2, hf1, h⟩ := z_cld h
      refine z_callVi (Wd := wM cI cZ ad) X (c_X10_whenAt hf1) ml_X10_295 yd_X10_whenAt yw_X10_whenAt (by omega) (by decide) (rM_0 X) rfl rfl (Nat.le_of_ble_eq_true rfl) ⟨Nat.zero_le _, Nat.zero_le _⟩ dX10_timed_36 ?_
      refine z_istore_n (lv' := [(1, .int (z_I r_1)), (0, .ref (ad 0)), (2, .int (z_I v2))]) Z dX10_timed_39 rfl (by decide) rfl ?_
      refine z_aload_n Z dX10_timed_40 rfl 1 rfl ?_
      refine gM_X10_51_0 X dX10_timed_41 ?_
      refine z_iload_n Z dX10_timed_44 rfl 2 rfl ?_
      refine z_iload_n Z dX10_timed_45 rfl 0 rfl ?_
      refine srM_13 X dX10_timed_46 h (fun M3 h => ?_)
      refine z_iincn Z (fun z => [(2, .int (z_I z)), (1, .int (z_I r_1)), (0, .ref (ad 0))]) dX10_timed_47 (k := 2) rfl (by decide) (fun _ => rfl) h (fun v2_ h => ?_)
      refine z_goto (tgt := 4) Z dX10_timed_50 (by decide) ?_
      refine z_sub [2, 1, 0] rfl ?_
      exact ih r_1 v2_ M3 h
set_option maxRecDepth 100000 in
set_option maxHeartbeats 4000000 in
theorem c_X10_timed {l : Launch} {D : va_G} {cI cZ : ClassId} {ad adK adV : Nat → Nat} {N : Nat} {M M' : zMem} {r : Int} (h : Model_timed N M = some (r, M')) : z_Ct (wM cI cZ ad) D cI cZ adK adV l yX10_timed cX10_timed 3 (some .int) 4 [.ref (ad 0)] M M' (some (.int (z_I r))) := by
  unfold Model_timed at h
  refine z_entry (own := RX10) rfl (by decide) (Nat.le_of_ble_eq_true rfl) ?_
  intro p e s m args below meth c R A X hr hlk
  have Z := X.1
  refine z_sub (lv' := [(0, .ref (ad 0))]) [0] rfl ?_
  refine z_iconst Z dX10_timed_0 ?_
  refine z_istore_n (lv' := [(1, .int (z_I 0)), (0, .ref (ad 0))]) Z dX10_timed_1 rfl (by decide) rfl ?_
  refine z_iconst Z dX10_timed_2 ?_
  refine z_istore_n (lv' := [(2, .int (z_I 0)), (1, .int (z_I 0)), (0, .ref (ad 0))]) Z dX10_timed_3 rfl (by decide) rfl ?_
  refine z_jnr (P := fun (k : Int → zMem → zO) => ∀ (v1_ : Int) (M1 : zMem), k v1_ M1 = some (r, M') → z_V p l e R s m args below meth c D A cI cZ 3 (wM cI cZ ad) M' (some (.int (z_I r))) M1 53 [(0, .ref (ad 0)), (1, .int (z_I v1_))] []) h ?_ ?_
  · intro v1_ M1 h
    refine z_iload_n Z dX10_timed_53 rfl 1 rfl ?_
    refine z_iconst Z dX10_timed_54 ?_
    refine z_iadd Z dX10_timed_55 ?_
    refine z_aload_n Z dX10_timed_56 rfl 0 rfl ?_
    refine gM_X10_276_0 X dX10_timed_57 ?_
    refine z_jnr (P := fun (k : Int → Int → zMem → zO) => ∀ (x0 x1 : Int) (M2 : zMem), k x0 x1 M2 = some (r, M') → z_V p l e R s m args below meth c D A cI cZ 3 (wM cI cZ ad) M' (some (.int (z_I r))) M2 73 [] [.int (z_I x0), .int (z_I x1)]) h ?_ ?_
    · intro x0 x1 M2 h
      refine z_iadd Z dX10_timed_73 ?_
      exact z_iret X hr hlk dX10_timed_74 h
    · intro k1 hk1 h
      refine z_if_eq (tgt := 72) Z dX10_timed_60 (by decide) h (fun h => ?_) (fun h => ?_)
      · refine z_iconst Z dX10_timed_72 ?_
        refine z_sub [] rfl ?_
        exact hk1 0 (v1_ + 1) M1 h
      · refine z_aload_n Z dX10_timed_63 rfl 0 rfl ?_
        refine gM_X10_7_0 X dX10_timed_64 ?_
        refine z_iconst Z dX10_timed_67 ?_
        refine ldM_1 X dX10_timed_68 h (fun x2 h => ?_)
        refine z_goto (tgt := 73) Z dX10_timed_69 (by decide) ?_
        refine z_sub [] rfl ?_
        exact hk1 x2 (v1_ + 1) M1 h
  · intro k0 hk0 h
    refine z_sub [2, 1, 0] rfl ?_
    exact wModel_timed_4 X hr hlk N k0 hk0 N 0 0 M h
set_option maxRecDepth 100000 in
set_option maxHeartbeats 4000000 in
theorem wModel_weighs_80 {p : Program} {l : Launch} {e : Env} {R : Room} {s : State} {m : MethodId} {args : Array Value} {below : List Frame} {meth : Method} {c : Code} {D : va_G} {A : Nat → Prop} {cI cZ : ClassId} {adK adV ad : Nat → Nat} {r : Int} {M' : zMem} (X : z_X p m c cX10_weighs 6 s args RX10 R 5 D cI cZ A adK adV) (hr : meth.sig.returnType = none) (hlk : meth.locks = false) (N : Nat) (k : zMem → zO) (hk : ∀ (M : zMem), k M = some (r, M') → z_V p l e R s m args below meth c D A cI cZ 6 (wM cI cZ ad) M' none M 111 [] []) : ∀ (n : Nat) (v5 : Int) (M : zMem), Model_weighs_80 N k n v5 M = some (r, M') → z_V p l e R s m args below meth c D A cI cZ 6 (wM cI cZ ad) M' none M 80 [(0, .ref (ad 0)), (5, .int (z_I v5))] [] := by
  have Z := X.1
  intro n
  induction n with
  | zero =>
    intro v5 M h
    rw [Model_weighs_80] at h
    cases h
  | succ n ih =>
    intro v5 M h
    rw [Model_weighs_80] at h
    refine z_iload Z dX10_weighs_80 1 rfl ?_
    refine z_aload_n Z dX10_weighs_82 rfl 0 rfl ?_
    refine gM_X10_7_0 X dX10_weighs_83 ?_
    refine z_iconst Z dX10_weighs_86 ?_
    refine ldM_1 X dX10_weighs_87 h (fun x0 h => ?_)
    refine z_icmp_ge (tgt := 111) Z dX10_weighs_88 (by decide) h (fun h => ?_) (fun h => ?_)
    · refine z_sub [] rfl ?_
      exact hk M h
    · refine z_aload_n Z dX10_weighs_91 rfl 0 rfl ?_
      refine gM_X10_78_0 X dX10_weighs_92 ?_
      refine z_iload Z dX10_weighs_95 1 rfl ?_
      refine z_aload_n Z dX10_weighs_97 rfl 0 rfl ?_
      refine gM_X10_72_0 X dX10_weighs_98 ?_
      refine z_iload Z dX10_weighs_101 1 rfl ?_
      refine ldM_20 X dX10_weighs_103 h (fun x1 h => ?_)
      refine srM_22 X dX10_weighs_104 h (fun M1 h => ?_)
      refine z_iincn Z (fun z => [(5, .int (z_I z)), (0, .ref (ad 0))]) dX10_weighs_105 (k := 1) rfl (by decide) (fun _ => rfl) h (fun v5_ h => ?_)
      refine z_goto (tgt := 80) Z dX10_weighs_108 (by decide) ?_
      refine z_sub [1, 0] rfl ?_
      exact ih v5_ M1 h
set_option maxRecDepth 100000 in
set_option maxHeartbeats 4000000 in
theorem c_X10_weighs {l : Launch} {D : va_G} {cI cZ : ClassId} {ad adK adV : Nat → Nat} {N : Nat} {v1 : Int} {M M' : zMem} {r : Int} (h : Model_weighs N v1 M = some (r, M')) : z_Ct (wM cI cZ ad) D cI cZ adK adV l yX10_weighs cX10_weighs 6 none 5 [.ref (ad 0), .long (z_L v1)] M M' none := by
  unfold Model_weighs at h
  refine z_entry (own := RX10) rfl (by decide) (Nat.le_of_ble_eq_true rfl) ?_
  intro p e s m args below meth c R A X hr hlk
  have Z := X.1
  refine z_sub (lv' := [(0, .ref (ad 0)), (1, .long (z_L v1))]) [0, 1] rfl ?_
  refine z_aload_n Z dX10_weighs_0 rfl 0 rfl ?_
  obtain ⟨r_, M1, hf, h⟩ := z_cld h
  refine z_callVi (Wd := wM cI cZ ad) X (c_X10_timed hf) ml_X10_304 yd_X10_timed yw_X10_timed (by omega) (by decide) (rM_0 X) rfl rfl (Nat.le_of_ble_eq_true rfl) ⟨Nat.zero_le _, Nat.zero_le _⟩ dX10_weighs_1 ?_
  refine z_istore_n (lv' := [(3, .int (z_I r_)), (0, .ref (ad 0)), (1, .long (z_L v1))]) Z dX10_weighs_4 rfl (by decide) rfl ?_
  refine z_aload_n Z dX10_weighs_5 rfl 1 rfl ?_
  refine z_aload_n Z dX10_weighs_6 rfl 1 rfl ?_
  refine gM_X10_362_0 X dX10_weighs_7 ?_
  refine z_iload_n Z dX10_weighs_10 rfl 0 rfl ?_
  refine z_mxr X ml_X10_376 (by omega) (Nat.le_of_ble_eq_true rfl) ⟨Nat.zero_le _, Nat.zero_le _⟩ dX10_weighs_11 h (fun x0 h => ?_)
  refine pM_X10_362_0 X dX10_weighs_14 h (fun M2 h => ?_)
  refine z_iload_n Z dX10_weighs_17 rfl 0 rfl ?_
  refine z_aload_n Z dX10_weighs_18 rfl 1 rfl ?_
  refine gM_X10_355_0 X dX10_weighs_19 ?_
  refine z_icmp_le (tgt := 26) Z dX10_weighs_22 (by decide) h (fun h => ?_) (fun h => ?_)
  · refine z_iload_n Z dX10_weighs_26 rfl 0 rfl ?_
    refine z_aload_n Z dX10_weighs_27 rfl 1 rfl ?_
    refine gM_X10_355_0 X dX10_weighs_28 ?_
    refine z_jnr (P := fun (k : Int → zMem → zO) => ∀ (x1 : Int) (M3 : zMem), k x1 M3 = some (r, M') → z_V p l e R s m args below meth c D A cI cZ 6 (wM cI cZ ad) M' none M3 39 [(0, .ref (ad 0)), (1, .long (z_L v1)), (3, .int (z_I r_))] [.int (z_I x1)]) h ?_ ?_
    · intro x1 M3 h
      refine z_istore (lv' := [(4, .int (z_I x1)), (0, .ref (ad 0)), (1, .long (z_L v1)), (3, .int (z_I r_))]) Z dX10_weighs_39 (by decide) rfl ?_
      refine z_aload_n Z dX10_weighs_41 rfl 1 rfl ?_
      refine z_iload Z dX10_weighs_42 0 rfl ?_
      refine z_jnr (P := fun (k : Int → zMem → zO) => ∀ (x2 : Int) (M4 : zMem), k x2 M4 = some (r, M') → z_V p l e R s m args below meth c D A cI cZ 6 (wM cI cZ ad) M' none M4 57 [(0, .ref (ad 0)), (3, .int (z_I r_)), (4, .int (z_I x1))] [.long (z_L x2), .ref (ad 0)]) h ?_ ?_
      · intro x2 M4 h
        refine pM_X10_358_0 X dX10_weighs_57 h (fun M5 h => ?_)
        refine z_iload Z dX10_weighs_60 2 rfl ?_
        refine z_jnr (P := fun (k : zMem → zO) => ∀ (M6 : zMem), k M6 = some (r, M') → z_V p l e R s m args below meth c D A cI cZ 6 (wM cI cZ ad) M' none M6 72 [(0, .ref (ad 0)), (3, .int (z_I r_))] []) h ?_ ?_
        · intro M6 h
          refine z_aload_n Z dX10_weighs_72 rfl 0 rfl ?_
          refine z_iload_n Z dX10_weighs_73 rfl 1 rfl ?_
          refine pM_X10_355_0 X dX10_weighs_74 h (fun M7 h => ?_)
          refine z_iconst Z dX10_weighs_77 ?_
          refine z_istore (lv' := [(5, .int (z_I 0)), (0, .ref (ad 0)), (3, .int (z_I r_))]) Z dX10_weighs_78 (by decide) rfl ?_
          refine z_jnr (P := fun (k : zMem → zO) => ∀ (M8 : zMem), k M8 = some (r, M') → z_V p l e R s m args below meth c D A cI cZ 6 (wM cI cZ ad) M' none M8 111 [] []) h ?_ ?_
          · intro M8 h
            exact z_vret X hr hlk dX10_weighs_111 h
          · intro k3 hk3 h
            refine z_sub [1, 0] rfl ?_
            exact wModel_weighs_80 X hr hlk N k3 hk3 N 0 M7 h
        · intro k2 hk2 h
          refine z_if_ne (tgt := 72) Z dX10_weighs_62 (by decide) h (fun h => ?_) (fun h => ?_)
          · refine z_sub [0, 1] rfl ?_
            exact hk2 M5 h
          · refine z_aload_n Z dX10_weighs_65 rfl 0 rfl ?_
            obtain ⟨r_1, M9, hf1, h⟩ := z_cld h
            refine z_callVi (Wd := wM cI cZ ad) X (c_X10_isAhead hf1) ml_X10_379 yd_X10_isAhead yw_X10_isAhead (by omega) (by decide) (rM_0 X) rfl rfl (Nat.le_of_ble_eq_true rfl) ⟨Nat.zero_le _, Nat.zero_le _⟩ dX10_weighs_66 ?_
            refine z_if_eq (tgt := 111) Z dX10_weighs_69 (by decide) h (fun h => ?_) (fun h => ?_)
            · exact z_vret X hr hlk dX10_weighs_111 h
            · refine z_sub [0, 1] rfl ?_
              exact hk2 M9 h
      · intro k1 hk1 h
        refine z_if_eq (tgt := 51) Z dX10_weighs_44 (by decide) h (fun h => ?_) (fun h => ?_)
        · refine z_aload_n Z dX10_weighs_51 rfl 1 rfl ?_
          refine gM_X10_358_0 X dX10_weighs_52 ?_
          refine z_lload_n Z dX10_weighs_55 rfl 2 rfl ?_
          refine z_ladd Z dX10_weighs_56 ?_
          refine z_sub [1, 3, 0] rfl ?_
          exact hk1 ((M3 0 44) + v1) M3 h
        · refine z_lload_n Z dX10_weighs_47 rfl 2 rfl ?_
          refine z_goto (tgt := 57) Z dX10_weighs_48 (by decide) ?_
          refine z_sub [1, 3, 0] rfl ?_
          exact hk1 v1 M3 h
    · intro k0 hk0 h
      refine z_icmp_ge (tgt := 38) Z dX10_weighs_31 (by decide) h (fun h => ?_) (fun h => ?_)
      · refine z_iconst Z dX10_weighs_38 ?_
        refine z_sub [1, 2, 0] rfl ?_
        exact hk0 0 M2 h
      · refine z_iconst Z dX10_weighs_34 ?_
        refine z_goto (tgt := 39) Z dX10_weighs_35 (by decide) ?_
        refine z_sub [1, 2, 0] rfl ?_
        exact hk0 1 M2 h
  · exact z_vret X hr hlk dX10_weighs_25 h
set_option maxRecDepth 100000 in
set_option maxHeartbeats 4000000 in
theorem wModel_tries_17 {p : Program} {l : Launch} {e : Env} {R : Room} {s : State} {m : MethodId} {args : Array Value} {below : List Frame} {meth : Method} {c : Code} {D : va_G} {A : Nat → Prop} {cI cZ : ClassId} {adK adV ad : Nat → Nat} {lev0 : Nat} {r : Int} {M' : zMem} {rec : Int → Int → zMem → zO} (X : z_X p m c cX10_tries 5 s args RX10 R (lev0 + 1) D cI cZ A adK adV) (hr : meth.sig.returnType = none) (hlk : meth.locks = false) (hrec : ∀ (a1 a2 : Int) (M : zMem) (r : Int) (M' : zMem), rec a1 a2 M = some (r, M') → z_Ct (wM cI cZ ad) D cI cZ adK adV l yX10_tries cX10_tries 5 none lev0 [.ref (ad 0), .int (z_I a1), .long (z_L a2)] M M' none) (hL : 6 ≤ lev0 + 1) (N : Nat) (v1 v2 : Int) (k : zMem → zO) (hk : ∀ (M : zMem), k M = some (r, M') → z_V p l e R s m args below meth c D A cI cZ 5 (wM cI cZ ad) M' none M 99 [] []) : ∀ (n : Nat) (v4 : Int) (M : zMem), Model_tries_17 N rec v1 v2 k n v4 M = some (r, M') → z_V p l e R s m args below meth c D A cI cZ 5 (wM cI cZ ad) M' none M 17 [(0, .ref (ad 0)), (1, .int (z_I v1)), (2, .long (z_L v2)), (4, .int (z_I v4))] [] := by
  have Z := X.1
  intro n
  induction n with
  | zero =>
    intro v4 M h
    rw [Model_tries_17] at h
    cases h
  | succ n ih =>
    intro v4 M h
    rw [Model_tries_17] at h
    refine z_iload Z dX10_tries_17 3 rfl ?_
    refine z_bipush Z dX10_tries_19 rfl ?_
    refine z_icmp_ge (tgt := 99) Z dX10_tries_21 (by decide) h (fun h => ?_) (fun h => ?_)
    · refine z_sub [] rfl ?_
      exact hk M h
    · refine z_aload_n Z dX10_tries_24 rfl 0 rfl ?_
      refine gM_X10_84_0 X dX10_tries_25 ?_
      refine z_iload Z dX10_tries_28 3 rfl ?_
      refine ldM_24 X dX10_tries_30 h (fun x0 h => ?_)
      refine z_jnr (P := fun (k : zMem → zO) => ∀ (M1 : zMem), k M1 = some (r, M') → z_V p l e R s m args below meth c D A cI cZ 5 (wM cI cZ ad) M' none M1 93 [(0, .ref (ad 0)), (1, .int (z_I v1)), (2, .long (z_L v2)), (4, .int (z_I v4))] []) h ?_ ?_
      · intro M1 h
        refine z_iincn Z (fun z => [(4, .int (z_I z)), (0, .ref (ad 0)), (1, .int (z_I v1)), (2, .long (z_L v2))]) dX10_tries_93 (k := 3) rfl (by decide) (fun _ => rfl) h (fun v4_ h => ?_)
        refine z_goto (tgt := 17) Z dX10_tries_96 (by decide) ?_
        refine z_sub [1, 2, 3, 0] rfl ?_
        exact ih v4_ M1 h
      · intro k1 hk1 h
        refine z_if_le (tgt := 93) Z dX10_tries_31 (by decide) h (fun h => ?_) (fun h => ?_)
        · refine z_sub [0, 1, 2, 3] rfl ?_
          exact hk1 M h
        · refine z_aload_n Z dX10_tries_34 rfl 0 rfl ?_
          refine gM_X10_72_0 X dX10_tries_35 ?_
          refine z_aload_n Z dX10_tries_38 rfl 0 rfl ?_
          refine gM_X10_90_0 X dX10_tries_39 ?_
          refine z_iload_n Z dX10_tries_42 rfl 1 rfl ?_
          refine ldM_26 X dX10_tries_43 h (fun x1 h => ?_)
          refine z_aload_n Z dX10_tries_44 rfl 0 rfl ?_
          refine z_iload Z dX10_tries_45 3 rfl ?_
          refine z_iload_n Z dX10_tries_47 rfl 1 rfl ?_
          obtain ⟨r_, M2, hf, h⟩ := z_cld h
          refine z_callVi (Wd := wM cI cZ ad) X (c_X10_placeOf hf) ml_X10_373 yd_X10_placeOf yw_X10_placeOf (by omega) (by decide) (rM_0 X) rfl rfl (Nat.le_of_ble_eq_true rfl) ⟨Nat.zero_le _, Nat.zero_le _⟩ dX10_tries_48 ?_
          refine srM_20 X dX10_tries_51 h (fun M3 h => ?_)
          refine z_aload_n Z dX10_tries_52 rfl 0 rfl ?_
          refine gM_X10_84_0 X dX10_tries_53 ?_
          refine z_iload Z dX10_tries_56 3 rfl ?_
          refine z_dup2 Z dX10_tries_58 rfl rfl ?_
          refine ldM_24 X dX10_tries_59 h (fun x2 h => ?_)
          refine z_iconst Z dX10_tries_60 ?_
          refine z_isub Z dX10_tries_61 ?_
          refine srM_24 X dX10_tries_62 h (fun M4 h => ?_)
          refine z_aload_n Z dX10_tries_63 rfl 0 rfl ?_
          refine z_iload_n Z dX10_tries_64 rfl 1 rfl ?_
          refine z_iconst Z dX10_tries_65 ?_
          refine z_iadd Z dX10_tries_66 ?_
          refine z_lload_n Z dX10_tries_67 rfl 2 rfl ?_
          refine z_aload_n Z dX10_tries_68 rfl 0 rfl ?_
          refine gM_X10_84_0 X dX10_tries_69 ?_
          refine z_iload Z dX10_tries_72 3 rfl ?_
          refine ldM_24 X dX10_tries_74 h (fun x3 h => ?_)
          refine z_iconst Z dX10_tries_75 ?_
          refine z_iadd Z dX10_tries_76 ?_
          refine z_i2l Z dX10_tries_77 h (fun x4 h => ?_)
          refine z_lmul Z dX10_tries_78 ?_
          obtain ⟨u_, M5, hf1, h⟩ := z_cld h
          refine z_callVv (Wd := wM cI cZ ad) X (hrec _ _ _ _ _ hf1) ml_X10_365 yd_X10_tries yw_X10_tries (by omega) (by decide) (rM_0 X) rfl rfl (Nat.le_of_ble_eq_true rfl) ⟨Nat.zero_le _, Nat.zero_le _⟩ dX10_tries_79 ?_
          refine z_aload_n Z dX10_tries_82 rfl 0 rfl ?_
          refine gM_X10_84_0 X dX10_tries_83 ?_
          refine z_iload Z dX10_tries_86 3 rfl ?_
          refine z_dup2 Z dX10_tries_88 rfl rfl ?_
          refine ldM_24 X dX10_tries_89 h (fun x5 h => ?_)
          refine z_iconst Z dX10_tries_90 ?_
          refine z_iadd Z dX10_tries_91 ?_
          refine srM_24 X dX10_tries_92 h (fun M6 h => ?_)
          refine z_sub [0, 1, 2, 3] rfl ?_
          exact hk1 M6 h
set_option maxRecDepth 100000 in
set_option maxHeartbeats 4000000 in
theorem c_X10_tries {l : Launch} {D : va_G} {cI cZ : ClassId} {ad adK adV : Nat → Nat} {N : Nat} : ∀ {d : Nat} {v1 v2 : Int} {M M' : zMem} {r : Int}, Model_tries N d v1 v2 M = some (r, M') → z_Ct (wM cI cZ ad) D cI cZ adK adV l yX10_tries cX10_tries 5 none (5 + d) [.ref (ad 0), .int (z_I v1), .long (z_L v2)] M M' none := by
  intro d
  induction d with
  | zero =>
    intro v1 v2 M M' r h
    rw [Model_tries] at h
    cases h
  | succ d ih =>
    intro v1 v2 M M' r h
    rw [Model_tries] at h
    have hrec : ∀ (v1 v2 : Int) (M : zMem) (r : Int) (M' : zMem), Model_tries N d v1 v2 M = some (r, M') → z_Ct (wM cI cZ ad) D cI cZ adK adV l yX10_tries cX10_tries 5 none (5 + d) [.ref (ad 0), .int (z_I v1), .long (z_L v2)] M M' none := fun _ _ _ _ _ h => ih h
    have hL : 6 ≤ (5 + d) + 1 := by omega
    refine z_entry (own := RX10) rfl (by decide) (Nat.le_of_ble_eq_true rfl) ?_
    intro p e s m args below meth c R A X hr hlk
    have Z := X.1
    refine z_sub (lv' := [(0, .ref (ad 0)), (1, .int (z_I v1)), (2, .long (z_L v2))]) [0, 1, 2] rfl ?_
    refine z_iload_n Z dX10_tries_0 rfl 1 rfl ?_
    refine z_aload_n Z dX10_tries_1 rfl 0 rfl ?_
    refine gM_X10_351_0 X dX10_tries_2 ?_
    refine z_icmp_ne (tgt := 14) Z dX10_tries_5 (by decide) h (fun h => ?_) (fun h => ?_)
    · refine z_iconst Z dX10_tries_14 ?_
      refine z_istore (lv' := [(4, .int (z_I 0)), (0, .ref (ad 0)), (1, .int (z_I v1)), (2, .long (z_L v2))]) Z dX10_tries_15 (by decide) rfl ?_
      refine z_jnr (P := fun (k : zMem → zO) => ∀ (M1 : zMem), k M1 = some (r, M') → z_V p l e R s m args below meth c D A cI cZ 5 (wM cI cZ ad) M' none M1 99 [] []) h ?_ ?_
      · intro M1 h
        exact z_vret X hr hlk dX10_tries_99 h
      · intro k0 hk0 h
        refine z_sub [1, 2, 3, 0] rfl ?_
        exact wModel_tries_17 X hr hlk hrec hL N v1 v2 k0 hk0 N 0 M h
    · refine z_aload_n Z dX10_tries_8 rfl 0 rfl ?_
      refine z_lload_n Z dX10_tries_9 rfl 2 rfl ?_
      obtain ⟨u_, M2, hf, h⟩ := z_cld h
      refine z_callVv (Wd := wM cI cZ ad) X (c_X10_weighs hf) ml_X10_369 yd_X10_weighs yw_X10_weighs (by omega) (by decide) (rM_0 X) rfl rfl (Nat.le_of_ble_eq_true rfl) ⟨Nat.zero_le _, Nat.zero_le _⟩ dX10_tries_10 ?_
      exact z_vret X hr hlk dX10_tries_13 h
set_option maxRecDepth 100000 in
set_option maxHeartbeats 4000000 in
theorem wModel_triesAll_24 {p : Program} {l : Launch} {e : Env} {R : Room} {s : State} {m : MethodId} {args : Array Value} {below : List Frame} {meth : Method} {c : Code} {D : va_G} {A : Nat → Prop} {cI cZ : ClassId} {adK adV ad : Nat → Nat} {r : Int} {M' : zMem} (X : z_X p m c cX10_triesAll 2 s args RX10 R 13 D cI cZ A adK adV) (hr : meth.sig.returnType = none) (hlk : meth.locks = false) (N : Nat) (k : zMem → zO) (hk : ∀ (M : zMem), k M = some (r, M') → z_V p l e R s m args below meth c D A cI cZ 2 (wM cI cZ ad) M' none M 68 [(0, .ref (ad 0))] []) : ∀ (n : Nat) (v1 : Int) (M : zMem), Model_triesAll_24 N k n v1 M = some (r, M') → z_V p l e R s m args below meth c D A cI cZ 2 (wM cI cZ ad) M' none M 24 [(0, .ref (ad 0)), (1, .int (z_I v1))] [] := by
  have Z := X.1
  intro n
  induction n with
  | zero =>
    intro v1 M h
    rw [Model_triesAll_24] at h
    cases h
  | succ n ih =>
    intro v1 M h
    rw [Model_triesAll_24] at h
    refine z_iload_n Z dX10_triesAll_24 rfl 1 rfl ?_
    refine z_aload_n Z dX10_triesAll_25 rfl 0 rfl ?_
    refine gM_X10_7_0 X dX10_triesAll_26 ?_
    refine z_iconst Z dX10_triesAll_29 ?_
    refine ldM_1 X dX10_triesAll_30 h (fun x0 h => ?_)
    refine z_icmp_ge (tgt := 68) Z dX10_triesAll_31 (by decide) h (fun h => ?_) (fun h => ?_)
    · refine z_sub [0] rfl ?_
      exact hk M h
    · refine z_aload_n Z dX10_triesAll_34 rfl 0 rfl ?_
      refine z_iload_n Z dX10_triesAll_35 rfl 1 rfl ?_
      obtain ⟨r_, M1, hf, h⟩ := z_cld h
      refine z_callVi (Wd := wM cI cZ ad) X (c_X10_isFree hf) ml_X10_324 yd_X10_isFree yw_X10_isFree (by omega) (by decide) (rM_0 X) rfl rfl (Nat.le_of_ble_eq_true rfl) ⟨Nat.zero_le _, Nat.zero_le _⟩ dX10_triesAll_36 ?_
      refine z_jnr (P := fun (k : zMem → zO) => ∀ (M2 : zMem), k M2 = some (r, M') → z_V p l e R s m args below meth c D A cI cZ 2 (wM cI cZ ad) M' none M2 62 [(0, .ref (ad 0)), (1, .int (z_I v1))] []) h ?_ ?_
      · intro M2 h
        refine z_iincn Z (fun z => [(1, .int (z_I z)), (0, .ref (ad 0))]) dX10_triesAll_62 (k := 1) rfl (by decide) (fun _ => rfl) h (fun v1_ h => ?_)
        refine z_goto (tgt := 24) Z dX10_triesAll_65 (by decide) ?_
        refine z_sub [1, 0] rfl ?_
        exact ih v1_ M2 h
      · intro k1 hk1 h
        refine z_if_eq (tgt := 62) Z dX10_triesAll_39 (by decide) h (fun h => ?_) (fun h => ?_)
        · refine z_sub [0, 1] rfl ?_
          exact hk1 M1 h
        · refine z_aload_n Z dX10_triesAll_42 rfl 0 rfl ?_
          refine gM_X10_90_0 X dX10_triesAll_43 ?_
          refine z_aload_n Z dX10_triesAll_46 rfl 0 rfl ?_
          refine gM_X10_351_0 X dX10_triesAll_47 ?_
          refine z_iload_n Z dX10_triesAll_50 rfl 1 rfl ?_
          refine srM_26 X dX10_triesAll_51 h (fun M3 h => ?_)
          refine z_aload_n Z dX10_triesAll_52 rfl 0 rfl ?_
          refine z_dup Z dX10_triesAll_53 rfl ?_
          refine gM_X10_351_0 X dX10_triesAll_54 ?_
          refine z_iconst Z dX10_triesAll_57 ?_
          refine z_iadd Z dX10_triesAll_58 ?_
          refine pM_X10_351_0 X dX10_triesAll_59 h (fun M4 h => ?_)
          refine z_sub [0, 1] rfl ?_
          exact hk1 M4 h
set_option maxRecDepth 100000 in
set_option maxHeartbeats 4000000 in
theorem wModel_triesAll_78 {p : Program} {l : Launch} {e : Env} {R : Room} {s : State} {m : MethodId} {args : Array Value} {below : List Frame} {meth : Method} {c : Code} {D : va_G} {A : Nat → Prop} {cI cZ : ClassId} {adK adV ad : Nat → Nat} {r : Int} {M' : zMem} (X : z_X p m c cX10_triesAll 2 s args RX10 R 13 D cI cZ A adK adV) (hr : meth.sig.returnType = none) (hlk : meth.locks = false) (N : Nat) (k : zMem → zO) (hk : ∀ (M : zMem), k M = some (r, M') → z_V p l e R s m args below meth c D A cI cZ 2 (wM cI cZ ad) M' none M 106 [(0, .ref (ad 0))] []) : ∀ (n : Nat) (v1 : Int) (M : zMem), Model_triesAll_78 N k n v1 M = some (r, M') → z_V p l e R s m args below meth c D A cI cZ 2 (wM cI cZ ad) M' none M 78 [(0, .ref (ad 0)), (1, .int (z_I v1))] [] := by
  have Z := X.1
  intro n
  induction n with
  | zero =>
    intro v1 M h
    rw [Model_triesAll_78] at h
    cases h
  | succ n ih =>
    intro v1 M h
    rw [Model_triesAll_78] at h
    refine z_iload_n Z dX10_triesAll_78 rfl 1 rfl ?_
    refine z_aload_n Z dX10_triesAll_79 rfl 0 rfl ?_
    refine gM_X10_7_0 X dX10_triesAll_80 ?_
    refine z_iconst Z dX10_triesAll_83 ?_
    refine ldM_1 X dX10_triesAll_84 h (fun x0 h => ?_)
    refine z_icmp_ge (tgt := 106) Z dX10_triesAll_85 (by decide) h (fun h => ?_) (fun h => ?_)
    · refine z_sub [0] rfl ?_
      exact hk M h
    · refine z_aload_n Z dX10_triesAll_88 rfl 0 rfl ?_
      refine gM_X10_72_0 X dX10_triesAll_89 ?_
      refine z_iload_n Z dX10_triesAll_92 rfl 1 rfl ?_
      refine z_aload_n Z dX10_triesAll_93 rfl 0 rfl ?_
      refine gM_X10_75_0 X dX10_triesAll_94 ?_
      refine z_iload_n Z dX10_triesAll_97 rfl 1 rfl ?_
      refine ldM_21 X dX10_triesAll_98 h (fun x1 h => ?_)
      refine srM_20 X dX10_triesAll_99 h (fun M1 h => ?_)
      refine z_iincn Z (fun z => [(1, .int (z_I z)), (0, .ref (ad 0))]) dX10_triesAll_100 (k := 1) rfl (by decide) (fun _ => rfl) h (fun v1_ h => ?_)
      refine z_goto (tgt := 78) Z dX10_triesAll_103 (by decide) ?_
      refine z_sub [1, 0] rfl ?_
      exact ih v1_ M1 h
set_option maxRecDepth 100000 in
set_option maxHeartbeats 4000000 in
theorem c_X10_triesAll {l : Launch} {D : va_G} {cI cZ : ClassId} {ad adK adV : Nat → Nat} {N : Nat} {M M' : zMem} {r : Int} (h : Model_triesAll N M = some (r, M')) : z_Ct (wM cI cZ ad) D cI cZ adK adV l yX10_triesAll cX10_triesAll 2 none 13 [.ref (ad 0)] M M' none := by
  unfold Model_triesAll at h
  refine z_entry (own := RX10) rfl (by decide) (Nat.le_of_ble_eq_true rfl) ?_
  intro p e s m args below meth c R A X hr hlk
  have Z := X.1
  refine z_sub (lv' := [(0, .ref (ad 0))]) [0] rfl ?_
  refine z_aload_n Z dX10_triesAll_0 rfl 0 rfl ?_
  refine gM_X10_240_0 X dX10_triesAll_1 ?_
  refine z_if_eq (tgt := 8) Z dX10_triesAll_4 (by decide) h (fun h => ?_) (fun h => ?_)
  · refine z_aload_n Z dX10_triesAll_8 rfl 0 rfl ?_
    refine z_iconst Z dX10_triesAll_9 ?_
    refine pM_X10_240_0 X dX10_triesAll_10 h (fun M1 h => ?_)
    refine z_aload_n Z dX10_triesAll_13 rfl 0 rfl ?_
    obtain ⟨u_, M2, hf, h⟩ := z_cld h
    refine z_callVv (Wd := wM cI cZ ad) X (c_X10_laysClasses hf) ml_X10_348 yd_X10_laysClasses yw_X10_laysClasses (by omega) (by decide) (rM_0 X) rfl rfl (Nat.le_of_ble_eq_true rfl) ⟨Nat.zero_le _, Nat.zero_le _⟩ dX10_triesAll_14 ?_
    refine z_aload_n Z dX10_triesAll_17 rfl 0 rfl ?_
    refine z_iconst Z dX10_triesAll_18 ?_
    refine pM_X10_351_0 X dX10_triesAll_19 h (fun M3 h => ?_)
    refine z_iconst Z dX10_triesAll_22 ?_
    refine z_istore_n (lv' := [(1, .int (z_I 0)), (0, .ref (ad 0))]) Z dX10_triesAll_23 rfl (by decide) rfl ?_
    refine z_jnr (P := fun (k : zMem → zO) => ∀ (M4 : zMem), k M4 = some (r, M') → z_V p l e R s m args below meth c D A cI cZ 2 (wM cI cZ ad) M' none M4 68 [(0, .ref (ad 0))] []) h ?_ ?_
    · intro M4 h
      refine z_aload_n Z dX10_triesAll_68 rfl 0 rfl ?_
      obtain ⟨u_1, M5, hf1, h⟩ := z_cld h
      refine z_callVv (Wd := wM cI cZ ad) X (c_X10_takes hf1) ml_X10_298 yd_X10_takes yw_X10_takes (by omega) (by decide) (rM_0 X) rfl rfl (Nat.le_of_ble_eq_true rfl) ⟨Nat.zero_le _, Nat.zero_le _⟩ dX10_triesAll_69 ?_
      refine z_aload_n Z dX10_triesAll_72 rfl 0 rfl ?_
      obtain ⟨u_2, M6, hf2, h⟩ := z_cld h
      refine z_callVv (Wd := wM cI cZ ad) X (c_X10_runs hf2) ml_X10_301 yd_X10_runs yw_X10_runs (by omega) (by decide) (rM_0 X) rfl rfl (Nat.le_of_ble_eq_true rfl) ⟨Nat.zero_le _, Nat.zero_le _⟩ dX10_triesAll_73 ?_
      refine z_iconst Z dX10_triesAll_76 ?_
      refine z_istore_n (lv' := [(1, .int (z_I 0)), (0, .ref (ad 0))]) Z dX10_triesAll_77 rfl (by decide) rfl ?_
      refine z_jnr (P := fun (k : zMem → zO) => ∀ (M7 : zMem), k M7 = some (r, M') → z_V p l e R s m args below meth c D A cI cZ 2 (wM cI cZ ad) M' none M7 106 [(0, .ref (ad 0))] []) h ?_ ?_
      · intro M7 h
        refine z_aload_n Z dX10_triesAll_106 rfl 0 rfl ?_
        refine z_ldcw Z dX10_triesAll_107 cn_X10_354 ?_
        refine pM_X10_355_0 X dX10_triesAll_110 h (fun M8 h => ?_)
        refine z_aload_n Z dX10_triesAll_113 rfl 0 rfl ?_
        refine z_lconst (x := 0) Z dX10_triesAll_114 rfl ?_
        refine pM_X10_358_0 X dX10_triesAll_115 h (fun M9 h => ?_)
        refine z_aload_n Z dX10_triesAll_118 rfl 0 rfl ?_
        refine z_iconst Z dX10_triesAll_119 ?_
        refine pM_X10_362_0 X dX10_triesAll_120 h (fun M10 h => ?_)
        refine z_aload_n Z dX10_triesAll_123 rfl 0 rfl ?_
        refine z_iconst Z dX10_triesAll_124 ?_
        refine z_lconst (x := 1) Z dX10_triesAll_125 rfl ?_
        obtain ⟨u_3, M11, hf3, h⟩ := z_cld h
        refine z_callVv (Wd := wM cI cZ ad) X (c_X10_tries hf3) ml_X10_365 yd_X10_tries yw_X10_tries (by omega) (by decide) (rM_0 X) rfl rfl (Nat.le_of_ble_eq_true rfl) ⟨Nat.zero_le _, Nat.zero_le _⟩ dX10_triesAll_126 ?_
        exact z_vret X hr hlk dX10_triesAll_129 h
      · intro k1 hk1 h
        refine z_sub [1, 0] rfl ?_
        exact wModel_triesAll_78 X hr hlk N k1 hk1 N 0 M6 h
    · intro k0 hk0 h
      refine z_sub [1, 0] rfl ?_
      exact wModel_triesAll_24 X hr hlk N k0 hk0 N 0 M3 h
  · exact z_vret X hr hlk dX10_triesAll_7 h
set_option maxRecDepth 100000 in
set_option maxHeartbeats 4000000 in
theorem wModel_laysBy_31 {p : Program} {l : Launch} {e : Env} {R : Room} {s : State} {m : MethodId} {args : Array Value} {below : List Frame} {meth : Method} {c : Code} {D : va_G} {A : Nat → Prop} {cI cZ : ClassId} {adK adV ad : Nat → Nat} {r : Int} {M' : zMem} (X : z_X p m c cX10_laysBy 3 s args RX10 R 14 D cI cZ A adK adV) (hr : meth.sig.returnType = none) (hlk : meth.locks = false) (N : Nat) (k : zMem → zO) (hk : ∀ (M : zMem), k M = some (r, M') → z_V p l e R s m args below meth c D A cI cZ 3 (wM cI cZ ad) M' none M 59 [(0, .ref (ad 0))] []) : ∀ (n : Nat) (v2 : Int) (M : zMem), Model_laysBy_31 N k n v2 M = some (r, M') → z_V p l e R s m args below meth c D A cI cZ 3 (wM cI cZ ad) M' none M 31 [(0, .ref (ad 0)), (2, .int (z_I v2))] [] := by
  have Z := X.1
  intro n
  induction n with
  | zero =>
    intro v2 M h
    rw [Model_laysBy_31] at h
    cases h
  | succ n ih =>
    intro v2 M h
    rw [Model_laysBy_31] at h
    refine z_iload_n Z dX10_laysBy_31 rfl 1 rfl ?_
    refine z_aload_n Z dX10_laysBy_32 rfl 0 rfl ?_
    refine gM_X10_7_0 X dX10_laysBy_33 ?_
    refine z_iconst Z dX10_laysBy_36 ?_
    refine ldM_1 X dX10_laysBy_37 h (fun x0 h => ?_)
    refine z_icmp_ge (tgt := 59) Z dX10_laysBy_38 (by decide) h (fun h => ?_) (fun h => ?_)
    · refine z_sub [0] rfl ?_
      exact hk M h
    · refine z_aload_n Z dX10_laysBy_41 rfl 0 rfl ?_
      refine gM_X10_75_0 X dX10_laysBy_42 ?_
      refine z_iload_n Z dX10_laysBy_45 rfl 1 rfl ?_
      refine z_aload_n Z dX10_laysBy_46 rfl 0 rfl ?_
      refine gM_X10_78_0 X dX10_laysBy_47 ?_
      refine z_iload_n Z dX10_laysBy_50 rfl 1 rfl ?_
      refine ldM_22 X dX10_laysBy_51 h (fun x1 h => ?_)
      refine srM_21 X dX10_laysBy_52 h (fun M1 h => ?_)
      refine z_iincn Z (fun z => [(2, .int (z_I z)), (0, .ref (ad 0))]) dX10_laysBy_53 (k := 1) rfl (by decide) (fun _ => rfl) h (fun v2_ h => ?_)
      refine z_goto (tgt := 31) Z dX10_laysBy_56 (by decide) ?_
      refine z_sub [1, 0] rfl ?_
      exact ih v2_ M1 h
set_option maxRecDepth 100000 in
set_option maxHeartbeats 4000000 in
theorem c_X10_laysBy {l : Launch} {D : va_G} {cI cZ : ClassId} {ad adK adV : Nat → Nat} {N : Nat} {v1 : Int} {M M' : zMem} {r : Int} (h : Model_laysBy N v1 M = some (r, M')) : z_Ct (wM cI cZ ad) D cI cZ adK adV l yX10_laysBy cX10_laysBy 3 none 14 [.ref (ad 0), .int (z_I v1)] M M' none := by
  unfold Model_laysBy at h
  refine z_entry (own := RX10) rfl (by decide) (Nat.le_of_ble_eq_true rfl) ?_
  intro p e s m args below meth c R A X hr hlk
  have Z := X.1
  refine z_sub (lv' := [(0, .ref (ad 0)), (1, .int (z_I v1))]) [0, 1] rfl ?_
  refine z_aload_n Z dX10_laysBy_0 rfl 0 rfl ?_
  obtain ⟨u_, M1, hf, h⟩ := z_cld h
  refine z_callVv (Wd := wM cI cZ ad) X (c_X10_laysFixed hf) ml_X10_345 yd_X10_laysFixed yw_X10_laysFixed (by omega) (by decide) (rM_0 X) rfl rfl (Nat.le_of_ble_eq_true rfl) ⟨Nat.zero_le _, Nat.zero_le _⟩ dX10_laysBy_1 ?_
  refine z_iload_n Z dX10_laysBy_4 rfl 1 rfl ?_
  refine z_iconst Z dX10_laysBy_5 ?_
  refine z_jnr (P := fun (k : zMem → zO) => ∀ (M2 : zMem), k M2 = some (r, M') → z_V p l e R s m args below meth c D A cI cZ 3 (wM cI cZ ad) M' none M2 20 [(0, .ref (ad 0)), (1, .int (z_I v1))] []) h ?_ ?_
  · intro M2 h
    refine z_iload_n Z dX10_laysBy_20 rfl 1 rfl ?_
    refine z_iconst Z dX10_laysBy_21 ?_
    refine z_jnr (P := fun (k : zMem → zO) => ∀ (M3 : zMem), k M3 = some (r, M') → z_V p l e R s m args below meth c D A cI cZ 3 (wM cI cZ ad) M' none M3 59 [(0, .ref (ad 0))] []) h ?_ ?_
    · intro M3 h
      refine z_aload_n Z dX10_laysBy_59 rfl 0 rfl ?_
      obtain ⟨u_1, M4, hf1, h⟩ := z_cld h
      refine z_callVv (Wd := wM cI cZ ad) X (c_X10_laysRest hf1) ml_X10_388 yd_X10_laysRest yw_X10_laysRest (by omega) (by decide) (rM_0 X) rfl rfl (Nat.le_of_ble_eq_true rfl) ⟨Nat.zero_le _, Nat.zero_le _⟩ dX10_laysBy_60 ?_
      exact z_vret X hr hlk dX10_laysBy_63 h
    · intro k1 hk1 h
      refine z_icmp_ne (tgt := 59) Z dX10_laysBy_22 (by decide) h (fun h => ?_) (fun h => ?_)
      · refine z_sub [0] rfl ?_
        exact hk1 M2 h
      · refine z_aload_n Z dX10_laysBy_25 rfl 0 rfl ?_
        obtain ⟨u_2, M5, hf2, h⟩ := z_cld h
        refine z_callVv (Wd := wM cI cZ ad) X (c_X10_triesAll hf2) ml_X10_385 yd_X10_triesAll yw_X10_triesAll (by omega) (by decide) (rM_0 X) rfl rfl (Nat.le_of_ble_eq_true rfl) ⟨Nat.zero_le _, Nat.zero_le _⟩ dX10_laysBy_26 ?_
        refine z_iconst Z dX10_laysBy_29 ?_
        refine z_istore_n (lv' := [(2, .int (z_I 0)), (0, .ref (ad 0)), (1, .int (z_I v1))]) Z dX10_laysBy_30 rfl (by decide) rfl ?_
        refine z_jnr (P := fun (k : zMem → zO) => ∀ (M6 : zMem), k M6 = some (r, M') → z_V p l e R s m args below meth c D A cI cZ 3 (wM cI cZ ad) M' none M6 59 [(0, .ref (ad 0))] []) h ?_ ?_
        · intro M6 h
          refine z_sub [0] rfl ?_
          exact hk1 M6 h
        · intro k2 hk2 h
          refine z_sub [1, 0] rfl ?_
          exact wModel_laysBy_31 X hr hlk N k2 hk2 N 0 M5 h
  · intro k0 hk0 h
    refine z_icmp_ne (tgt := 20) Z dX10_laysBy_6 (by decide) h (fun h => ?_) (fun h => ?_)
    · refine z_sub [0, 1] rfl ?_
      exact hk0 M1 h
    · refine z_aload_n Z dX10_laysBy_9 rfl 0 rfl ?_
      obtain ⟨r_, M7, hf3, h⟩ := z_cld h
      refine z_callVi (Wd := wM cI cZ ad) X (c_X10_hasRun hf3) ml_X10_307 yd_X10_hasRun yw_X10_hasRun (by omega) (by decide) (rM_0 X) rfl rfl (Nat.le_of_ble_eq_true rfl) ⟨Nat.zero_le _, Nat.zero_le _⟩ dX10_laysBy_10 ?_
      refine z_if_eq (tgt := 20) Z dX10_laysBy_13 (by decide) h (fun h => ?_) (fun h => ?_)
      · refine z_sub [0, 1] rfl ?_
        exact hk0 M7 h
      · refine z_aload_n Z dX10_laysBy_16 rfl 0 rfl ?_
        obtain ⟨u_3, M8, hf4, h⟩ := z_cld h
        refine z_callVv (Wd := wM cI cZ ad) X (c_X10_laysSoon hf4) ml_X10_382 yd_X10_laysSoon yw_X10_laysSoon (by omega) (by decide) (rM_0 X) rfl rfl (Nat.le_of_ble_eq_true rfl) ⟨Nat.zero_le _, Nat.zero_le _⟩ dX10_laysBy_17 ?_
        refine z_sub [0, 1] rfl ?_
        exact hk0 M8 h
set_option maxRecDepth 100000 in
set_option maxHeartbeats 4000000 in
theorem c_X10_isAt {l : Launch} {D : va_G} {cI cZ : ClassId} {ad adK adV : Nat → Nat} {v1 v2 : Int} {M M' : zMem} {r : Int} (h : Model_isAt v1 v2 M = some (r, M')) : z_Ct (wM cI cZ ad) D cI cZ adK adV l yX10_isAt cX10_isAt 3 (some .boolean) 2 [.ref (ad 0), .int (z_I v1), .int (z_I v2)] M M' (some (.int (z_I r))) := by
  unfold Model_isAt at h
  refine z_entry (own := RX10) rfl (by decide) (Nat.le_of_ble_eq_true rfl) ?_
  intro p e s m args below meth c R A X hr hlk
  have Z := X.1
  refine z_sub (lv' := [(0, .ref (ad 0)), (1, .int (z_I v1)), (2, .int (z_I v2))]) [0, 1, 2] rfl ?_
  refine z_aload_n Z dX10_isAt_0 rfl 0 rfl ?_
  refine gM_X10_100_0 X dX10_isAt_1 ?_
  refine z_aload_n Z dX10_isAt_4 rfl 0 rfl ?_
  refine gM_X10_93_0 X dX10_isAt_5 ?_
  refine z_jnr (P := fun (k : zMem → zO) => ∀ (M1 : zMem), k M1 = some (r, M') → z_V p l e R s m args below meth c D A cI cZ 3 (wM cI cZ ad) M' (some (.int (z_I r))) M1 35 [] []) h ?_ ?_
  · intro M1 h
    refine z_iconst Z dX10_isAt_35 ?_
    exact z_zret X hr hlk (Or.inl rfl) dX10_isAt_36 h
  · intro k0 hk0 h
    refine z_icmp_ge (tgt := 35) Z dX10_isAt_8 (by decide) h (fun h => ?_) (fun h => ?_)
    · refine z_sub [] rfl ?_
      exact hk0 M h
    · refine z_aload_n Z dX10_isAt_11 rfl 0 rfl ?_
      refine gM_X10_19_0 X dX10_isAt_12 ?_
      refine z_aload_n Z dX10_isAt_15 rfl 0 rfl ?_
      refine gM_X10_100_0 X dX10_isAt_16 ?_
      refine ldM_4 X dX10_isAt_19 h (fun x0 h => ?_)
      refine z_i2l Z dX10_isAt_20 h (fun x1 h => ?_)
      refine z_iload_n Z dX10_isAt_21 rfl 1 rfl ?_
      refine z_i2l Z dX10_isAt_22 h (fun x2 h => ?_)
      refine z_iload_n Z dX10_isAt_23 rfl 2 rfl ?_
      refine z_i2l Z dX10_isAt_24 h (fun x3 h => ?_)
      obtain ⟨r_, M2, hf, h⟩ := z_cld h
      refine z_callSi (Wd := wM cI cZ ad) X (c_X10_in hf) ml_X10_96 yd_X10_in yw_X10_in (by omega) (by decide) rfl rfl (Nat.le_of_ble_eq_true rfl) ⟨Nat.zero_le _, Nat.zero_le _⟩ dX10_isAt_25 ?_
      refine z_if_eq (tgt := 35) Z dX10_isAt_28 (by decide) h (fun h => ?_) (fun h => ?_)
      · refine z_sub [] rfl ?_
        exact hk0 M2 h
      · refine z_iconst Z dX10_isAt_31 ?_
        refine z_goto (tgt := 36) Z dX10_isAt_32 (by decide) ?_
        exact z_zret X hr hlk (Or.inr rfl) dX10_isAt_36 h
set_option maxRecDepth 100000 in
set_option maxHeartbeats 4000000 in
theorem wModel_keptHere_15 {p : Program} {l : Launch} {e : Env} {R : Room} {s : State} {m : MethodId} {args : Array Value} {below : List Frame} {meth : Method} {c : Code} {D : va_G} {A : Nat → Prop} {cI cZ : ClassId} {adK adV ad : Nat → Nat} {r : Int} {M' : zMem} (X : z_X p m c cX10_keptHere 6 s args RX10 R 6 D cI cZ A adK adV) (hr : meth.sig.returnType = some .int) (hlk : meth.locks = false) (N : Nat) (v1 v2 : Int) (k : Int → zMem → zO) (hk : ∀ (y3 : Int) (M : zMem), k y3 M = some (r, M') → z_V p l e R s m args below meth c D A cI cZ 6 (wM cI cZ ad) M' (some (.int (z_I r))) M 32 [(0, .ref (ad 0)), (1, .int (z_I v1)), (2, .int (z_I v2)), (3, .int (z_I y3))] []) : ∀ (n : Nat) (v3 : Int) (M : zMem), Model_keptHere_15 N v1 v2 k n v3 M = some (r, M') → z_V p l e R s m args below meth c D A cI cZ 6 (wM cI cZ ad) M' (some (.int (z_I r))) M 15 [(0, .ref (ad 0)), (1, .int (z_I v1)), (2, .int (z_I v2)), (3, .int (z_I v3))] [] := by
  have Z := X.1
  intro n
  induction n with
  | zero =>
    intro v3 M h
    rw [Model_keptHere_15] at h
    cases h
  | succ n ih =>
    intro v3 M h
    rw [Model_keptHere_15] at h
    refine z_ldcS X 21 (by decide) rfl rfl dX10_keptHere_15 ?_
    refine z_iload_n Z dX10_keptHere_17 rfl 3 rfl ?_
    refine z_strchr X (i := 21) (by decide) ml_X10_137 (by omega) (Nat.le_of_ble_eq_true rfl) ⟨Nat.zero_le _, Nat.zero_le _⟩ dX10_keptHere_18 h (fun x0 h => ?_)
    refine z_bipush Z dX10_keptHere_21 rfl ?_
    refine z_icmp_eq (tgt := 32) Z dX10_keptHere_23 (by decide) h (fun h => ?_) (fun h => ?_)
    · refine z_sub [0, 1, 2, 3] rfl ?_
      exact hk v3 M h
    · refine z_iincn Z (fun z => [(3, .int (z_I z)), (0, .ref (ad 0)), (1, .int (z_I v1)), (2, .int (z_I v2))]) dX10_keptHere_26 (k := 3) rfl (by decide) (fun _ => rfl) h (fun v3_ h => ?_)
      refine z_goto (tgt := 15) Z dX10_keptHere_29 (by decide) ?_
      refine z_sub [1, 2, 3, 0] rfl ?_
      exact ih v3_ M h
set_option maxRecDepth 100000 in
set_option maxHeartbeats 4000000 in
theorem wModel_keptHere_57 {p : Program} {l : Launch} {e : Env} {R : Room} {s : State} {m : MethodId} {args : Array Value} {below : List Frame} {meth : Method} {c : Code} {D : va_G} {A : Nat → Prop} {cI cZ : ClassId} {adK adV ad : Nat → Nat} {r : Int} {M' : zMem} (X : z_X p m c cX10_keptHere 6 s args RX10 R 6 D cI cZ A adK adV) (hr : meth.sig.returnType = some .int) (hlk : meth.locks = false) (N : Nat) (v1 v2 v3 : Int) (k : Int → zMem → zO) (hk : ∀ (y4 : Int) (M : zMem), k y4 M = some (r, M') → z_V p l e R s m args below meth c D A cI cZ 6 (wM cI cZ ad) M' (some (.int (z_I r))) M 107 [(0, .ref (ad 0)), (1, .int (z_I v1)), (3, .int (z_I v3)), (4, .int (z_I y4))] []) : ∀ (n : Nat) (v4 v5 : Int) (M : zMem), Model_keptHere_57 N v1 v2 v3 k n v4 v5 M = some (r, M') → z_V p l e R s m args below meth c D A cI cZ 6 (wM cI cZ ad) M' (some (.int (z_I r))) M 57 [(0, .ref (ad 0)), (1, .int (z_I v1)), (2, .int (z_I v2)), (3, .int (z_I v3)), (4, .int (z_I v4)), (5, .int (z_I v5))] [] := by
  have Z := X.1
  intro n
  induction n with
  | zero =>
    intro v4 v5 M h
    rw [Model_keptHere_57] at h
    cases h
  | succ n ih =>
    intro v4 v5 M h
    rw [Model_keptHere_57] at h
    refine z_iload Z dX10_keptHere_57 5 rfl ?_
    refine z_iload_n Z dX10_keptHere_59 rfl 3 rfl ?_
    refine z_iload_n Z dX10_keptHere_60 rfl 2 rfl ?_
    refine z_isub Z dX10_keptHere_61 ?_
    refine z_icmp_ge (tgt := 107) Z dX10_keptHere_62 (by decide) h (fun h => ?_) (fun h => ?_)
    · refine z_sub [0, 1, 3, 4] rfl ?_
      exact hk v4 M h
    · refine z_iload Z dX10_keptHere_65 4 rfl ?_
      refine z_if_eq (tgt := 107) Z dX10_keptHere_67 (by decide) h (fun h => ?_) (fun h => ?_)
      · refine z_sub [0, 1, 3, 4] rfl ?_
        exact hk v4 M h
      · refine z_ldcS X 21 (by decide) rfl rfl dX10_keptHere_70 ?_
        refine z_iload_n Z dX10_keptHere_72 rfl 2 rfl ?_
        refine z_iload Z dX10_keptHere_73 5 rfl ?_
        refine z_iadd Z dX10_keptHere_75 ?_
        refine z_strchr X (i := 21) (by decide) ml_X10_137 (by omega) (Nat.le_of_ble_eq_true rfl) ⟨Nat.zero_le _, Nat.zero_le _⟩ dX10_keptHere_76 h (fun x0 h => ?_)
        refine z_aload_n Z dX10_keptHere_79 rfl 0 rfl ?_
        refine gM_X10_19_0 X dX10_keptHere_80 ?_
        refine z_aload_n Z dX10_keptHere_83 rfl 0 rfl ?_
        refine gM_X10_107_0 X dX10_keptHere_84 ?_
        refine z_iload Z dX10_keptHere_87 5 rfl ?_
        refine z_iadd Z dX10_keptHere_89 ?_
        refine ldM_4 X dX10_keptHere_90 h (fun x1 h => ?_)
        refine z_jnr (P := fun (k : Int → zMem → zO) => ∀ (x2 : Int) (M1 : zMem), k x2 M1 = some (r, M') → z_V p l e R s m args below meth c D A cI cZ 6 (wM cI cZ ad) M' (some (.int (z_I r))) M1 99 [(0, .ref (ad 0)), (1, .int (z_I v1)), (2, .int (z_I v2)), (3, .int (z_I v3)), (5, .int (z_I v5))] [.int (z_I x2)]) h ?_ ?_
        · intro x2 M1 h
          refine z_istore (lv' := [(4, .int (z_I x2)), (0, .ref (ad 0)), (1, .int (z_I v1)), (2, .int (z_I v2)), (3, .int (z_I v3)), (5, .int (z_I v5))]) Z dX10_keptHere_99 (by decide) rfl ?_
          refine z_iincn Z (fun z => [(5, .int (z_I z)), (4, .int (z_I x2)), (0, .ref (ad 0)), (1, .int (z_I v1)), (2, .int (z_I v2)), (3, .int (z_I v3))]) dX10_keptHere_101 (k := 5) rfl (by decide) (fun _ => rfl) h (fun v5_ h => ?_)
          refine z_goto (tgt := 57) Z dX10_keptHere_104 (by decide) ?_
          refine z_sub [2, 3, 4, 5, 1, 0] rfl ?_
          exact ih x2 v5_ M1 h
        · intro k1 hk1 h
          refine z_icmp_ne (tgt := 98) Z dX10_keptHere_91 (by decide) h (fun h => ?_) (fun h => ?_)
          · refine z_iconst Z dX10_keptHere_98 ?_
            refine z_sub [0, 1, 2, 3, 5] rfl ?_
            exact hk1 0 M h
          · refine z_iconst Z dX10_keptHere_94 ?_
            refine z_goto (tgt := 99) Z dX10_keptHere_95 (by decide) ?_
            refine z_sub [0, 1, 2, 3, 5] rfl ?_
            exact hk1 1 M h
set_option maxRecDepth 100000 in
set_option maxHeartbeats 4000000 in
theorem wModel_keptHere_4 {p : Program} {l : Launch} {e : Env} {R : Room} {s : State} {m : MethodId} {args : Array Value} {below : List Frame} {meth : Method} {c : Code} {D : va_G} {A : Nat → Prop} {cI cZ : ClassId} {adK adV ad : Nat → Nat} {r : Int} {M' : zMem} (X : z_X p m c cX10_keptHere 6 s args RX10 R 6 D cI cZ A adK adV) (hr : meth.sig.returnType = some .int) (hlk : meth.locks = false) (N : Nat) (k : zMem → zO) (hk : ∀ (M : zMem), k M = some (r, M') → z_V p l e R s m args below meth c D A cI cZ 6 (wM cI cZ ad) M' (some (.int (z_I r))) M 124 [] []) : ∀ (n : Nat) (v1 v2 : Int) (M : zMem), Model_keptHere_4 N k n v1 v2 M = some (r, M') → z_V p l e R s m args below meth c D A cI cZ 6 (wM cI cZ ad) M' (some (.int (z_I r))) M 4 [(0, .ref (ad 0)), (1, .int (z_I v1)), (2, .int (z_I v2))] [] := by
  have Z := X.1
  intro n
  induction n with
  | zero =>
    intro v1 v2 M h
    rw [Model_keptHere_4] at h
    cases h
  | succ n ih =>
    intro v1 v2 M h
    rw [Model_keptHere_4] at h
    refine z_iload_n Z dX10_keptHere_4 rfl 2 rfl ?_
    refine z_ldcS X 21 (by decide) rfl rfl dX10_keptHere_5 ?_
    refine z_strlen X (i := 21) (by decide) ml_X10_132 (by omega) (Nat.le_of_ble_eq_true rfl) ⟨Nat.zero_le _, Nat.zero_le _⟩ dX10_keptHere_7 ?_
    refine z_icmp_ge (tgt := 124) Z dX10_keptHere_10 (by decide) h (fun h => ?_) (fun h => ?_)
    · refine z_sub [] rfl ?_
      exact hk M h
    · refine z_iload_n Z dX10_keptHere_13 rfl 2 rfl ?_
      refine z_istore_n (lv' := [(3, .int (z_I v2)), (0, .ref (ad 0)), (1, .int (z_I v1)), (2, .int (z_I v2))]) Z dX10_keptHere_14 rfl (by decide) rfl ?_
      refine z_jnr (P := fun (k : Int → zMem → zO) => ∀ (v3_ : Int) (M1 : zMem), k v3_ M1 = some (r, M') → z_V p l e R s m args below meth c D A cI cZ 6 (wM cI cZ ad) M' (some (.int (z_I r))) M1 32 [(0, .ref (ad 0)), (1, .int (z_I v1)), (2, .int (z_I v2)), (3, .int (z_I v3_))] []) h ?_ ?_
      · intro v3_ M1 h
        refine z_iload_n Z dX10_keptHere_32 rfl 3 rfl ?_
        refine z_iload_n Z dX10_keptHere_33 rfl 2 rfl ?_
        refine z_isub Z dX10_keptHere_34 ?_
        refine z_aload_n Z dX10_keptHere_35 rfl 0 rfl ?_
        refine gM_X10_100_0 X dX10_keptHere_36 ?_
        refine z_aload_n Z dX10_keptHere_39 rfl 0 rfl ?_
        refine gM_X10_107_0 X dX10_keptHere_40 ?_
        refine z_isub Z dX10_keptHere_43 ?_
        refine z_jnr (P := fun (k : Int → zMem → zO) => ∀ (x0 : Int) (M2 : zMem), k x0 M2 = some (r, M') → z_V p l e R s m args below meth c D A cI cZ 6 (wM cI cZ ad) M' (some (.int (z_I r))) M2 52 [(0, .ref (ad 0)), (1, .int (z_I v1)), (2, .int (z_I v2)), (3, .int (z_I v3_))] [.int (z_I x0)]) h ?_ ?_
        · intro x0 M2 h
          refine z_istore (lv' := [(4, .int (z_I x0)), (0, .ref (ad 0)), (1, .int (z_I v1)), (2, .int (z_I v2)), (3, .int (z_I v3_))]) Z dX10_keptHere_52 (by decide) rfl ?_
          refine z_iconst Z dX10_keptHere_54 ?_
          refine z_istore (lv' := [(5, .int (z_I 0)), (4, .int (z_I x0)), (0, .ref (ad 0)), (1, .int (z_I v1)), (2, .int (z_I v2)), (3, .int (z_I v3_))]) Z dX10_keptHere_55 (by decide) rfl ?_
          refine z_jnr (P := fun (k : Int → zMem → zO) => ∀ (v4_ : Int) (M3 : zMem), k v4_ M3 = some (r, M') → z_V p l e R s m args below meth c D A cI cZ 6 (wM cI cZ ad) M' (some (.int (z_I r))) M3 107 [(0, .ref (ad 0)), (1, .int (z_I v1)), (3, .int (z_I v3_)), (4, .int (z_I v4_))] []) h ?_ ?_
          · intro v4_ M3 h
            refine z_iload Z dX10_keptHere_107 3 rfl ?_
            refine z_if_eq (tgt := 114) Z dX10_keptHere_109 (by decide) h (fun h => ?_) (fun h => ?_)
            · refine z_iincn Z (fun z => [(1, .int (z_I z)), (0, .ref (ad 0)), (3, .int (z_I v3_)), (4, .int (z_I v4_))]) dX10_keptHere_114 (k := 1) rfl (by decide) (fun _ => rfl) h (fun v1_ h => ?_)
              refine z_iload_n Z dX10_keptHere_117 rfl 2 rfl ?_
              refine z_iconst Z dX10_keptHere_118 ?_
              refine z_iadd Z dX10_keptHere_119 ?_
              refine z_nmI h (fun v2_ h => ?_)
              refine z_istore_n (lv' := [(2, .int (z_I v2_)), (1, .int (z_I v1_)), (0, .ref (ad 0)), (3, .int (z_I v3_)), (4, .int (z_I v4_))]) Z dX10_keptHere_120 rfl (by decide) rfl ?_
              refine z_goto (tgt := 4) Z dX10_keptHere_121 (by decide) ?_
              refine z_sub [2, 1, 0] rfl ?_
              exact ih v1_ v2_ M3 h
            · refine z_iload_n Z dX10_keptHere_112 rfl 1 rfl ?_
              exact z_iret X hr hlk dX10_keptHere_113 h
          · intro k3 hk3 h
            refine z_sub [2, 3, 4, 5, 1, 0] rfl ?_
            exact wModel_keptHere_57 X hr hlk N v1 v2 v3_ k3 hk3 N x0 0 M2 h
        · intro k2 hk2 h
          refine z_icmp_ne (tgt := 51) Z dX10_keptHere_44 (by decide) h (fun h => ?_) (fun h => ?_)
          · refine z_iconst Z dX10_keptHere_51 ?_
            refine z_sub [0, 1, 2, 3] rfl ?_
            exact hk2 0 M1 h
          · refine z_iconst Z dX10_keptHere_47 ?_
            refine z_goto (tgt := 52) Z dX10_keptHere_48 (by decide) ?_
            refine z_sub [0, 1, 2, 3] rfl ?_
            exact hk2 1 M1 h
      · intro k1 hk1 h
        refine z_sub [1, 2, 3, 0] rfl ?_
        exact wModel_keptHere_15 X hr hlk N v1 v2 k1 hk1 N v2 M h
set_option maxRecDepth 100000 in
set_option maxHeartbeats 4000000 in
theorem c_X10_keptHere {l : Launch} {D : va_G} {cI cZ : ClassId} {ad adK adV : Nat → Nat} {N : Nat} {M M' : zMem} {r : Int} (h : Model_keptHere N M = some (r, M')) : z_Ct (wM cI cZ ad) D cI cZ adK adV l yX10_keptHere cX10_keptHere 6 (some .int) 6 [.ref (ad 0)] M M' (some (.int (z_I r))) := by
  unfold Model_keptHere at h
  refine z_entry (own := RX10) rfl (by decide) (Nat.le_of_ble_eq_true rfl) ?_
  intro p e s m args below meth c R A X hr hlk
  have Z := X.1
  refine z_sub (lv' := [(0, .ref (ad 0))]) [0] rfl ?_
  refine z_iconst Z dX10_keptHere_0 ?_
  refine z_istore_n (lv' := [(1, .int (z_I 0)), (0, .ref (ad 0))]) Z dX10_keptHere_1 rfl (by decide) rfl ?_
  refine z_iconst Z dX10_keptHere_2 ?_
  refine z_istore_n (lv' := [(2, .int (z_I 1)), (1, .int (z_I 0)), (0, .ref (ad 0))]) Z dX10_keptHere_3 rfl (by decide) rfl ?_
  refine z_jnr (P := fun (k : zMem → zO) => ∀ (M1 : zMem), k M1 = some (r, M') → z_V p l e R s m args below meth c D A cI cZ 6 (wM cI cZ ad) M' (some (.int (z_I r))) M1 124 [] []) h ?_ ?_
  · intro M1 h
    refine z_iconst Z dX10_keptHere_124 ?_
    exact z_iret X hr hlk dX10_keptHere_125 h
  · intro k0 hk0 h
    refine z_sub [2, 1, 0] rfl ?_
    exact wModel_keptHere_4 X hr hlk N k0 hk0 N 0 1 M h
set_option maxRecDepth 100000 in
set_option maxHeartbeats 4000000 in
theorem wModel_next_0 {p : Program} {l : Launch} {e : Env} {R : Room} {s : State} {m : MethodId} {args : Array Value} {below : List Frame} {meth : Method} {c : Code} {D : va_G} {A : Nat → Prop} {cI cZ : ClassId} {adK adV ad : Nat → Nat} {r : Int} {M' : zMem} (X : z_X p m c cX10_next 1 s args RX10 R 7 D cI cZ A adK adV) (hr : meth.sig.returnType = none) (hlk : meth.locks = false) (N : Nat) (k : zMem → zO) (hk : ∀ (M : zMem), k M = some (r, M') → z_V p l e R s m args below meth c D A cI cZ 1 (wM cI cZ ad) M' none M 35 [(0, .ref (ad 0))] []) : ∀ (n : Nat) (M : zMem), Model_next_0 N k n M = some (r, M') → z_V p l e R s m args below meth c D A cI cZ 1 (wM cI cZ ad) M' none M 0 [(0, .ref (ad 0))] [] := by
  have Z := X.1
  intro n
  induction n with
  | zero =>
    intro M h
    rw [Model_next_0] at h
    cases h
  | succ n ih =>
    intro M h
    rw [Model_next_0] at h
    refine z_aload_n Z dX10_next_0 rfl 0 rfl ?_
    refine z_bipush Z dX10_next_1 rfl ?_
    refine z_bipush Z dX10_next_3 rfl ?_
    obtain ⟨r_, M1, hf, h⟩ := z_cld h
    refine z_callVi (Wd := wM cI cZ ad) X (c_X10_isAt hf) ml_X10_103 yd_X10_isAt yw_X10_isAt (by omega) (by decide) (rM_0 X) rfl rfl (Nat.le_of_ble_eq_true rfl) ⟨Nat.zero_le _, Nat.zero_le _⟩ dX10_next_5 ?_
    refine z_jnr (P := fun (k : zMem → zO) => ∀ (M2 : zMem), k M2 = some (r, M') → z_V p l e R s m args below meth c D A cI cZ 1 (wM cI cZ ad) M' none M2 22 [(0, .ref (ad 0))] []) h ?_ ?_
    · intro M2 h
      refine z_aload_n Z dX10_next_22 rfl 0 rfl ?_
      refine z_dup Z dX10_next_23 rfl ?_
      refine gM_X10_100_0 X dX10_next_24 ?_
      refine z_iconst Z dX10_next_27 ?_
      refine z_iadd Z dX10_next_28 ?_
      refine pM_X10_100_0 X dX10_next_29 h (fun M3 h => ?_)
      refine z_goto (tgt := 0) Z dX10_next_32 (by decide) ?_
      refine z_sub [0] rfl ?_
      exact ih M3 h
    · intro k1 hk1 h
      refine z_if_ne (tgt := 22) Z dX10_next_8 (by decide) h (fun h => ?_) (fun h => ?_)
      · refine z_sub [0] rfl ?_
        exact hk1 M1 h
      · refine z_aload_n Z dX10_next_11 rfl 0 rfl ?_
        refine z_bipush Z dX10_next_12 rfl ?_
        refine z_bipush Z dX10_next_14 rfl ?_
        obtain ⟨r_1, M4, hf1, h⟩ := z_cld h
        refine z_callVi (Wd := wM cI cZ ad) X (c_X10_isAt hf1) ml_X10_103 yd_X10_isAt yw_X10_isAt (by omega) (by decide) (rM_0 X) rfl rfl (Nat.le_of_ble_eq_true rfl) ⟨Nat.zero_le _, Nat.zero_le _⟩ dX10_next_16 ?_
        refine z_if_eq (tgt := 35) Z dX10_next_19 (by decide) h (fun h => ?_) (fun h => ?_)
        · refine z_sub [0] rfl ?_
          exact hk M4 h
        · refine z_sub [0] rfl ?_
          exact hk1 M4 h
set_option maxRecDepth 100000 in
set_option maxHeartbeats 4000000 in
theorem wModel_next_139 {p : Program} {l : Launch} {e : Env} {R : Room} {s : State} {m : MethodId} {args : Array Value} {below : List Frame} {meth : Method} {c : Code} {D : va_G} {A : Nat → Prop} {cI cZ : ClassId} {adK adV ad : Nat → Nat} {r : Int} {M' : zMem} (X : z_X p m c cX10_next 1 s args RX10 R 7 D cI cZ A adK adV) (hr : meth.sig.returnType = none) (hlk : meth.locks = false) (N : Nat) (k : zMem → zO) (hk : ∀ (M : zMem), k M = some (r, M') → z_V p l e R s m args below meth c D A cI cZ 1 (wM cI cZ ad) M' none M 233 [] []) : ∀ (n : Nat) (M : zMem), Model_next_139 N k n M = some (r, M') → z_V p l e R s m args below meth c D A cI cZ 1 (wM cI cZ ad) M' none M 139 [(0, .ref (ad 0))] [] := by
  have Z := X.1
  intro n
  induction n with
  | zero =>
    intro M h
    rw [Model_next_139] at h
    cases h
  | succ n ih =>
    intro M h
    rw [Model_next_139] at h
    refine z_aload_n Z dX10_next_139 rfl 0 rfl ?_
    refine z_bipush Z dX10_next_140 rfl ?_
    refine z_bipush Z dX10_next_142 rfl ?_
    obtain ⟨r_, M1, hf, h⟩ := z_cld h
    refine z_callVi (Wd := wM cI cZ ad) X (c_X10_isAt hf) ml_X10_103 yd_X10_isAt yw_X10_isAt (by omega) (by decide) (rM_0 X) rfl rfl (Nat.le_of_ble_eq_true rfl) ⟨Nat.zero_le _, Nat.zero_le _⟩ dX10_next_144 ?_
    refine z_if_eq (tgt := 233) Z dX10_next_147 (by decide) h (fun h => ?_) (fun h => ?_)
    · refine z_sub [] rfl ?_
      exact hk M1 h
    · refine z_aload_n Z dX10_next_150 rfl 0 rfl ?_
      refine z_ldc Z dX10_next_151 cn_X10_123 ?_
      refine z_bipush Z dX10_next_153 rfl ?_
      refine z_aload_n Z dX10_next_155 rfl 0 rfl ?_
      refine gM_X10_110_0 X dX10_next_156 ?_
      refine z_imul Z dX10_next_159 ?_
      refine z_aload_n Z dX10_next_160 rfl 0 rfl ?_
      refine gM_X10_19_0 X dX10_next_161 ?_
      refine z_aload_n Z dX10_next_164 rfl 0 rfl ?_
      refine gM_X10_100_0 X dX10_next_165 ?_
      refine ldM_4 X dX10_next_168 h (fun x0 h => ?_)
      refine z_iadd Z dX10_next_169 ?_
      refine z_bipush Z dX10_next_170 rfl ?_
      refine z_isub Z dX10_next_172 ?_
      refine z_mnr X ml_X10_124 (by omega) (Nat.le_of_ble_eq_true rfl) ⟨Nat.zero_le _, Nat.zero_le _⟩ dX10_next_173 h (fun x1 h => ?_)
      refine pM_X10_110_0 X dX10_next_176 h (fun M2 h => ?_)
      refine z_aload_n Z dX10_next_179 rfl 0 rfl ?_
      refine z_dup Z dX10_next_180 rfl ?_
      refine gM_X10_100_0 X dX10_next_181 ?_
      refine z_iconst Z dX10_next_184 ?_
      refine z_iadd Z dX10_next_185 ?_
      refine pM_X10_100_0 X dX10_next_186 h (fun M3 h => ?_)
      refine z_goto (tgt := 139) Z dX10_next_189 (by decide) ?_
      refine z_sub [0] rfl ?_
      exact ih M3 h
set_option maxRecDepth 100000 in
set_option maxHeartbeats 4000000 in
theorem wModel_next_88 {p : Program} {l : Launch} {e : Env} {R : Room} {s : State} {m : MethodId} {args : Array Value} {below : List Frame} {meth : Method} {c : Code} {D : va_G} {A : Nat → Prop} {cI cZ : ClassId} {adK adV ad : Nat → Nat} {r : Int} {M' : zMem} (X : z_X p m c cX10_next 1 s args RX10 R 7 D cI cZ A adK adV) (hr : meth.sig.returnType = none) (hlk : meth.locks = false) (N : Nat) (k : zMem → zO) (hk : ∀ (M : zMem), k M = some (r, M') → z_V p l e R s m args below meth c D A cI cZ 1 (wM cI cZ ad) M' none M 112 [(0, .ref (ad 0))] []) : ∀ (n : Nat) (M : zMem), Model_next_88 N k n M = some (r, M') → z_V p l e R s m args below meth c D A cI cZ 1 (wM cI cZ ad) M' none M 88 [(0, .ref (ad 0))] [] := by
  have Z := X.1
  intro n
  induction n with
  | zero =>
    intro M h
    rw [Model_next_88] at h
    cases h
  | succ n ih =>
    intro M h
    rw [Model_next_88] at h
    refine z_aload_n Z dX10_next_88 rfl 0 rfl ?_
    refine z_bipush Z dX10_next_89 rfl ?_
    refine z_bipush Z dX10_next_91 rfl ?_
    obtain ⟨r_, M1, hf, h⟩ := z_cld h
    refine z_callVi (Wd := wM cI cZ ad) X (c_X10_isAt hf) ml_X10_103 yd_X10_isAt yw_X10_isAt (by omega) (by decide) (rM_0 X) rfl rfl (Nat.le_of_ble_eq_true rfl) ⟨Nat.zero_le _, Nat.zero_le _⟩ dX10_next_93 ?_
    refine z_if_eq (tgt := 112) Z dX10_next_96 (by decide) h (fun h => ?_) (fun h => ?_)
    · refine z_sub [0] rfl ?_
      exact hk M1 h
    · refine z_aload_n Z dX10_next_99 rfl 0 rfl ?_
      refine z_dup Z dX10_next_100 rfl ?_
      refine gM_X10_100_0 X dX10_next_101 ?_
      refine z_iconst Z dX10_next_104 ?_
      refine z_iadd Z dX10_next_105 ?_
      refine pM_X10_100_0 X dX10_next_106 h (fun M2 h => ?_)
      refine z_goto (tgt := 88) Z dX10_next_109 (by decide) ?_
      refine z_sub [0] rfl ?_
      exact ih M2 h
set_option maxRecDepth 100000 in
set_option maxHeartbeats 4000000 in
theorem c_X10_next {l : Launch} {D : va_G} {cI cZ : ClassId} {ad adK adV : Nat → Nat} {N : Nat} {M M' : zMem} {r : Int} (h : Model_next N M = some (r, M')) : z_Ct (wM cI cZ ad) D cI cZ adK adV l yX10_next cX10_next 1 none 7 [.ref (ad 0)] M M' none := by
  unfold Model_next at h
  refine z_entry (own := RX10) rfl (by decide) (Nat.le_of_ble_eq_true rfl) ?_
  intro p e s m args below meth c R A X hr hlk
  have Z := X.1
  refine z_sub (lv' := [(0, .ref (ad 0))]) [0] rfl ?_
  refine z_jnr (P := fun (k : zMem → zO) => ∀ (M1 : zMem), k M1 = some (r, M') → z_V p l e R s m args below meth c D A cI cZ 1 (wM cI cZ ad) M' none M1 35 [(0, .ref (ad 0))] []) h ?_ ?_
  · intro M1 h
    refine z_aload_n Z dX10_next_35 rfl 0 rfl ?_
    refine z_aload_n Z dX10_next_36 rfl 0 rfl ?_
    refine gM_X10_100_0 X dX10_next_37 ?_
    refine pM_X10_107_0 X dX10_next_40 h (fun M2 h => ?_)
    refine z_aload_n Z dX10_next_43 rfl 0 rfl ?_
    refine z_iconst Z dX10_next_44 ?_
    refine pM_X10_110_0 X dX10_next_45 h (fun M3 h => ?_)
    refine z_aload_n Z dX10_next_48 rfl 0 rfl ?_
    refine z_iconst Z dX10_next_49 ?_
    refine pM_X10_113_0 X dX10_next_50 h (fun M4 h => ?_)
    refine z_aload_n Z dX10_next_53 rfl 0 rfl ?_
    refine gM_X10_100_0 X dX10_next_54 ?_
    refine z_aload_n Z dX10_next_57 rfl 0 rfl ?_
    refine gM_X10_93_0 X dX10_next_58 ?_
    refine z_icmp_ne (tgt := 72) Z dX10_next_61 (by decide) h (fun h => ?_) (fun h => ?_)
    · refine z_aload_n Z dX10_next_72 rfl 0 rfl ?_
      refine z_bipush Z dX10_next_73 rfl ?_
      refine z_bipush Z dX10_next_75 rfl ?_
      obtain ⟨r_, M5, hf, h⟩ := z_cld h
      refine z_callVi (Wd := wM cI cZ ad) X (c_X10_isAt hf) ml_X10_103 yd_X10_isAt yw_X10_isAt (by omega) (by decide) (rM_0 X) rfl rfl (Nat.le_of_ble_eq_true rfl) ⟨Nat.zero_le _, Nat.zero_le _⟩ dX10_next_77 ?_
      refine z_if_eq (tgt := 123) Z dX10_next_80 (by decide) h (fun h => ?_) (fun h => ?_)
      · refine z_aload_n Z dX10_next_123 rfl 0 rfl ?_
        refine z_bipush Z dX10_next_124 rfl ?_
        refine z_bipush Z dX10_next_126 rfl ?_
        obtain ⟨r_1, M6, hf1, h⟩ := z_cld h
        refine z_callVi (Wd := wM cI cZ ad) X (c_X10_isAt hf1) ml_X10_103 yd_X10_isAt yw_X10_isAt (by omega) (by decide) (rM_0 X) rfl rfl (Nat.le_of_ble_eq_true rfl) ⟨Nat.zero_le _, Nat.zero_le _⟩ dX10_next_128 ?_
        refine z_if_eq (tgt := 192) Z dX10_next_131 (by decide) h (fun h => ?_) (fun h => ?_)
        · refine z_aload_n Z dX10_next_192 rfl 0 rfl ?_
          refine z_aload_n Z dX10_next_193 rfl 0 rfl ?_
          refine z_bipush Z dX10_next_194 rfl ?_
          refine z_bipush Z dX10_next_196 rfl ?_
          obtain ⟨r_2, M7, hf2, h⟩ := z_cld h
          refine z_callVi (Wd := wM cI cZ ad) X (c_X10_isAt hf2) ml_X10_103 yd_X10_isAt yw_X10_isAt (by omega) (by decide) (rM_0 X) rfl rfl (Nat.le_of_ble_eq_true rfl) ⟨Nat.zero_le _, Nat.zero_le _⟩ dX10_next_198 ?_
          refine z_jnr (P := fun (k : Int → zMem → zO) => ∀ (x0 : Int) (M8 : zMem), k x0 M8 = some (r, M') → z_V p l e R s m args below meth c D A cI cZ 1 (wM cI cZ ad) M' none M8 220 [(0, .ref (ad 0))] [.int (z_I x0), .ref (ad 0)]) h ?_ ?_
          · intro x0 M8 h
            refine pM_X10_116_0 X dX10_next_220 h (fun M9 h => ?_)
            refine z_aload_n Z dX10_next_223 rfl 0 rfl ?_
            refine z_dup Z dX10_next_224 rfl ?_
            refine gM_X10_100_0 X dX10_next_225 ?_
            refine z_iconst Z dX10_next_228 ?_
            refine z_iadd Z dX10_next_229 ?_
            refine pM_X10_100_0 X dX10_next_230 h (fun M10 h => ?_)
            exact z_vret X hr hlk dX10_next_233 h
          · intro k1 hk1 h
            refine z_jnr (P := fun (k : zMem → zO) => ∀ (M11 : zMem), k M11 = some (r, M') → z_V p l e R s m args below meth c D A cI cZ 1 (wM cI cZ ad) M' none M11 215 [(0, .ref (ad 0))] [.ref (ad 0)]) h ?_ ?_
            · intro M11 h
              refine z_iconst Z dX10_next_215 ?_
              refine z_goto (tgt := 220) Z dX10_next_216 (by decide) ?_
              refine z_sub [0] rfl ?_
              exact hk1 3 M11 h
            · intro k2 hk2 h
              refine z_if_ne (tgt := 215) Z dX10_next_201 (by decide) h (fun h => ?_) (fun h => ?_)
              · refine z_sub [0] rfl ?_
                exact hk2 M7 h
              · refine z_aload_n Z dX10_next_204 rfl 0 rfl ?_
                refine z_bipush Z dX10_next_205 rfl ?_
                refine z_bipush Z dX10_next_207 rfl ?_
                obtain ⟨r_3, M12, hf3, h⟩ := z_cld h
                refine z_callVi (Wd := wM cI cZ ad) X (c_X10_isAt hf3) ml_X10_103 yd_X10_isAt yw_X10_isAt (by omega) (by decide) (rM_0 X) rfl rfl (Nat.le_of_ble_eq_true rfl) ⟨Nat.zero_le _, Nat.zero_le _⟩ dX10_next_209 ?_
                refine z_if_eq (tgt := 219) Z dX10_next_212 (by decide) h (fun h => ?_) (fun h => ?_)
                · refine z_iconst Z dX10_next_219 ?_
                  refine z_sub [0] rfl ?_
                  exact hk1 4 M12 h
                · refine z_sub [0] rfl ?_
                  exact hk2 M12 h
        · refine z_aload_n Z dX10_next_134 rfl 0 rfl ?_
          refine z_iconst Z dX10_next_135 ?_
          refine pM_X10_116_0 X dX10_next_136 h (fun M13 h => ?_)
          refine z_jnr (P := fun (k : zMem → zO) => ∀ (M14 : zMem), k M14 = some (r, M') → z_V p l e R s m args below meth c D A cI cZ 1 (wM cI cZ ad) M' none M14 233 [] []) h ?_ ?_
          · intro M14 h
            exact z_vret X hr hlk dX10_next_233 h
          · intro k3 hk3 h
            refine z_sub [0] rfl ?_
            exact wModel_next_139 X hr hlk N k3 hk3 N M13 h
      · refine z_aload_n Z dX10_next_83 rfl 0 rfl ?_
        refine z_iconst Z dX10_next_84 ?_
        refine pM_X10_116_0 X dX10_next_85 h (fun M15 h => ?_)
        refine z_jnr (P := fun (k : zMem → zO) => ∀ (M16 : zMem), k M16 = some (r, M') → z_V p l e R s m args below meth c D A cI cZ 1 (wM cI cZ ad) M' none M16 112 [(0, .ref (ad 0))] []) h ?_ ?_
        · intro M16 h
          refine z_aload_n Z dX10_next_112 rfl 0 rfl ?_
          refine z_aload_n Z dX10_next_113 rfl 0 rfl ?_
          obtain ⟨r_4, M17, hf4, h⟩ := z_cld h
          refine z_callVi (Wd := wM cI cZ ad) X (c_X10_keptHere hf4) ml_X10_119 yd_X10_keptHere yw_X10_keptHere (by omega) (by decide) (rM_0 X) rfl rfl (Nat.le_of_ble_eq_true rfl) ⟨Nat.zero_le _, Nat.zero_le _⟩ dX10_next_114 ?_
          refine pM_X10_113_0 X dX10_next_117 h (fun M18 h => ?_)
          refine z_goto (tgt := 233) Z dX10_next_120 (by decide) ?_
          exact z_vret X hr hlk dX10_next_233 h
        · intro k4 hk4 h
          refine z_sub [0] rfl ?_
          exact wModel_next_88 X hr hlk N k4 hk4 N M15 h
    · refine z_aload_n Z dX10_next_64 rfl 0 rfl ?_
      refine z_iconst Z dX10_next_65 ?_
      refine pM_X10_116_0 X dX10_next_66 h (fun M19 h => ?_)
      refine z_goto (tgt := 233) Z dX10_next_69 (by decide) ?_
      exact z_vret X hr hlk dX10_next_233 h
  · intro k0 hk0 h
    refine z_sub [0] rfl ?_
    exact wModel_next_0 X hr hlk N k0 hk0 N M h
set_option maxRecDepth 100000 in
set_option maxHeartbeats 4000000 in
theorem c_X10_faults {l : Launch} {D : va_G} {cI cZ : ClassId} {ad adK adV : Nat → Nat} {v1 : Int} {M M' : zMem} {r : Int} (h : Model_faults v1 M = some (r, M')) : z_Ct (wM cI cZ ad) D cI cZ adK adV l yX10_faults cX10_faults 2 none 1 [.ref (ad 0), .int (z_I v1)] M M' none := by
  unfold Model_faults at h
  refine z_entry (own := RX10) rfl (by decide) (Nat.le_of_ble_eq_true rfl) ?_
  intro p e s m args below meth c R A X hr hlk
  have Z := X.1
  refine z_sub (lv' := [(0, .ref (ad 0)), (1, .int (z_I v1))]) [0, 1] rfl ?_
  refine z_aload_n Z dX10_faults_0 rfl 0 rfl ?_
  refine gM_X10_141_0 X dX10_faults_1 ?_
  refine z_if_ne (tgt := 25) Z dX10_faults_4 (by decide) h (fun h => ?_) (fun h => ?_)
  · exact z_vret X hr hlk dX10_faults_25 h
  · refine z_aload_n Z dX10_faults_7 rfl 0 rfl ?_
    refine z_iconst Z dX10_faults_8 ?_
    refine pM_X10_141_0 X dX10_faults_9 h (fun M1 h => ?_)
    refine z_aload_n Z dX10_faults_12 rfl 0 rfl ?_
    refine z_iload_n Z dX10_faults_13 rfl 1 rfl ?_
    refine pM_X10_145_0 X dX10_faults_14 h (fun M2 h => ?_)
    refine z_aload_n Z dX10_faults_17 rfl 0 rfl ?_
    refine z_aload_n Z dX10_faults_18 rfl 0 rfl ?_
    refine gM_X10_107_0 X dX10_faults_19 ?_
    refine pM_X10_148_0 X dX10_faults_22 h (fun M3 h => ?_)
    exact z_vret X hr hlk dX10_faults_25 h
set_option maxRecDepth 100000 in
set_option maxHeartbeats 4000000 in
theorem c_X10_passes {l : Launch} {D : va_G} {cI cZ : ClassId} {ad adK adV : Nat → Nat} {N : Nat} {v1 : Int} {M M' : zMem} {r : Int} (h : Model_passes N v1 M = some (r, M')) : z_Ct (wM cI cZ ad) D cI cZ adK adV l yX10_passes cX10_passes 2 none 8 [.ref (ad 0), .int (z_I v1)] M M' none := by
  unfold Model_passes at h
  refine z_entry (own := RX10) rfl (by decide) (Nat.le_of_ble_eq_true rfl) ?_
  intro p e s m args below meth c R A X hr hlk
  have Z := X.1
  refine z_sub (lv' := [(0, .ref (ad 0)), (1, .int (z_I v1))]) [0, 1] rfl ?_
  refine z_iload_n Z dX10_passes_0 rfl 1 rfl ?_
  refine z_jnr (P := fun (k : zMem → zO) => ∀ (M1 : zMem), k M1 = some (r, M') → z_V p l e R s m args below meth c D A cI cZ 2 (wM cI cZ ad) M' none M1 9 [(0, .ref (ad 0))] []) h ?_ ?_
  · intro M1 h
    refine z_aload_n Z dX10_passes_9 rfl 0 rfl ?_
    refine gM_X10_141_0 X dX10_passes_10 ?_
    refine z_if_ne (tgt := 20) Z dX10_passes_13 (by decide) h (fun h => ?_) (fun h => ?_)
    · exact z_vret X hr hlk dX10_passes_20 h
    · refine z_aload_n Z dX10_passes_16 rfl 0 rfl ?_
      obtain ⟨u_, M2, hf, h⟩ := z_cld h
      refine z_callVv (Wd := wM cI cZ ad) X (c_X10_next hf) ml_X10_155 yd_X10_next yw_X10_next (by omega) (by decide) (rM_0 X) rfl rfl (Nat.le_of_ble_eq_true rfl) ⟨Nat.zero_le _, Nat.zero_le _⟩ dX10_passes_17 ?_
      exact z_vret X hr hlk dX10_passes_20 h
  · intro k0 hk0 h
    refine z_if_ne (tgt := 9) Z dX10_passes_1 (by decide) h (fun h => ?_) (fun h => ?_)
    · refine z_sub [0] rfl ?_
      exact hk0 M h
    · refine z_aload_n Z dX10_passes_4 rfl 0 rfl ?_
      refine z_iconst Z dX10_passes_5 ?_
      obtain ⟨u_1, M3, hf1, h⟩ := z_cld h
      refine z_callVv (Wd := wM cI cZ ad) X (c_X10_faults hf1) ml_X10_151 yd_X10_faults yw_X10_faults (by omega) (by decide) (rM_0 X) rfl rfl (Nat.le_of_ble_eq_true rfl) ⟨Nat.zero_le _, Nat.zero_le _⟩ dX10_passes_6 ?_
      refine z_sub [0] rfl ?_
      exact hk0 M3 h
set_option maxRecDepth 100000 in
set_option maxHeartbeats 4000000 in
theorem c_X10_isQuick {l : Launch} {D : va_G} {cI cZ : ClassId} {ad adK adV : Nat → Nat} {v1 : Int} {M M' : zMem} {r : Int} (h : Model_isQuick v1 M = some (r, M')) : z_Ct (wM cI cZ ad) D cI cZ adK adV l yX10_isQuick cX10_isQuick 2 (some .boolean) 2 [.ref (ad 0), .int (z_I v1)] M M' (some (.int (z_I r))) := by
  unfold Model_isQuick at h
  refine z_entry (own := RX10) rfl (by decide) (Nat.le_of_ble_eq_true rfl) ?_
  intro p e s m args below meth c R A X hr hlk
  have Z := X.1
  refine z_sub (lv' := [(0, .ref (ad 0)), (1, .int (z_I v1))]) [0, 1] rfl ?_
  refine z_iload_n Z dX10_isQuick_0 rfl 1 rfl ?_
  refine z_jnr (P := fun (k : zMem → zO) => ∀ (M1 : zMem), k M1 = some (r, M') → z_V p l e R s m args below meth c D A cI cZ 2 (wM cI cZ ad) M' (some (.int (z_I r))) M1 33 [] []) h ?_ ?_
  · intro M1 h
    refine z_iconst Z dX10_isQuick_33 ?_
    refine z_goto (tgt := 38) Z dX10_isQuick_34 (by decide) ?_
    exact z_zret X hr hlk (Or.inr rfl) dX10_isQuick_38 h
  · intro k0 hk0 h
    refine z_if_eq (tgt := 33) Z dX10_isQuick_1 (by decide) h (fun h => ?_) (fun h => ?_)
    · refine z_sub [] rfl ?_
      exact hk0 M h
    · refine z_iload_n Z dX10_isQuick_4 rfl 1 rfl ?_
      refine z_i2l Z dX10_isQuick_5 h (fun x0 h => ?_)
      refine z_lconst (x := 1) Z dX10_isQuick_6 rfl ?_
      refine z_aload_n Z dX10_isQuick_7 rfl 0 rfl ?_
      refine gM_X10_7_0 X dX10_isQuick_8 ?_
      refine z_iconst Z dX10_isQuick_11 ?_
      refine ldM_1 X dX10_isQuick_12 h (fun x1 h => ?_)
      refine z_iconst Z dX10_isQuick_13 ?_
      refine z_isub Z dX10_isQuick_14 ?_
      refine z_i2l Z dX10_isQuick_15 h (fun x2 h => ?_)
      obtain ⟨r_, M2, hf, h⟩ := z_cld h
      refine z_callSi (Wd := wM cI cZ ad) X (c_X10_in hf) ml_X10_96 yd_X10_in yw_X10_in (by omega) (by decide) rfl rfl (Nat.le_of_ble_eq_true rfl) ⟨Nat.zero_le _, Nat.zero_le _⟩ dX10_isQuick_16 ?_
      refine z_jnr (P := fun (k : zMem → zO) => ∀ (M3 : zMem), k M3 = some (r, M') → z_V p l e R s m args below meth c D A cI cZ 2 (wM cI cZ ad) M' (some (.int (z_I r))) M3 37 [] []) h ?_ ?_
      · intro M3 h
        refine z_iconst Z dX10_isQuick_37 ?_
        exact z_zret X hr hlk (Or.inl rfl) dX10_isQuick_38 h
      · intro k1 hk1 h
        refine z_if_eq (tgt := 37) Z dX10_isQuick_19 (by decide) h (fun h => ?_) (fun h => ?_)
        · refine z_sub [] rfl ?_
          exact hk1 M2 h
        · refine z_aload_n Z dX10_isQuick_22 rfl 0 rfl ?_
          refine gM_X10_7_0 X dX10_isQuick_23 ?_
          refine z_iconst Z dX10_isQuick_26 ?_
          refine ldM_1 X dX10_isQuick_27 h (fun x3 h => ?_)
          refine z_iload_n Z dX10_isQuick_28 rfl 1 rfl ?_
          refine z_iremt Z dX10_isQuick_29 h (fun x4 h => ?_)
          refine z_if_ne (tgt := 37) Z dX10_isQuick_30 (by decide) h (fun h => ?_) (fun h => ?_)
          · refine z_sub [] rfl ?_
            exact hk1 M2 h
          · refine z_sub [] rfl ?_
            exact hk0 M2 h
set_option maxRecDepth 100000 in
set_option maxHeartbeats 4000000 in
theorem wModel_isWord_32 {p : Program} {l : Launch} {e : Env} {R : Room} {s : State} {m : MethodId} {args : Array Value} {below : List Frame} {meth : Method} {c : Code} {D : va_G} {A : Nat → Prop} {cI cZ : ClassId} {adK adV ad : Nat → Nat} {r : Int} {M' : zMem} (X : z_X p m c cX10_isWord 4 s args RX10 R 6 D cI cZ A adK adV) (hr : meth.sig.returnType = some .boolean) (hlk : meth.locks = false) {v1 : Nat} (hv1 : v1 < 27) (N : Nat) (k : Int → zMem → zO) (hk : ∀ (y2 : Int) (M : zMem), k y2 M = some (r, M') → z_V p l e R s m args below meth c D A cI cZ 4 (wM cI cZ ad) M' (some (.int (z_I r))) M 75 [(2, .int (z_I y2))] []) : ∀ (n : Nat) (v2 v3 : Int) (M : zMem), Model_isWord_32 N v1 k n v2 v3 M = some (r, M') → z_V p l e R s m args below meth c D A cI cZ 4 (wM cI cZ ad) M' (some (.int (z_I r))) M 32 [(0, .ref (ad 0)), (1, .ref (adK v1)), (2, .int (z_I v2)), (3, .int (z_I v3))] [] := by
  have Z := X.1
  intro n
  induction n with
  | zero =>
    intro v2 v3 M h
    rw [Model_isWord_32] at h
    cases h
  | succ n ih =>
    intro v2 v3 M h
    rw [Model_isWord_32] at h
    refine z_iload_n Z dX10_isWord_32 rfl 3 rfl ?_
    refine z_aload_n Z dX10_isWord_33 rfl 1 rfl ?_
    refine z_strlen X (i := v1) hv1 ml_X10_132 (by omega) (Nat.le_of_ble_eq_true rfl) ⟨Nat.zero_le _, Nat.zero_le _⟩ dX10_isWord_34 ?_
    refine z_icmp_ge (tgt := 75) Z dX10_isWord_37 (by decide) h (fun h => ?_) (fun h => ?_)
    · refine z_sub [2] rfl ?_
      exact hk v2 M h
    · refine z_iload_n Z dX10_isWord_40 rfl 2 rfl ?_
      refine z_if_eq (tgt := 75) Z dX10_isWord_41 (by decide) h (fun h => ?_) (fun h => ?_)
      · refine z_sub [2] rfl ?_
        exact hk v2 M h
      · refine z_aload_n Z dX10_isWord_44 rfl 0 rfl ?_
        refine gM_X10_19_0 X dX10_isWord_45 ?_
        refine z_aload_n Z dX10_isWord_48 rfl 0 rfl ?_
        refine gM_X10_107_0 X dX10_isWord_49 ?_
        refine z_iload_n Z dX10_isWord_52 rfl 3 rfl ?_
        refine z_iadd Z dX10_isWord_53 ?_
        refine ldM_4 X dX10_isWord_54 h (fun x0 h => ?_)
        refine z_aload_n Z dX10_isWord_55 rfl 1 rfl ?_
        refine z_iload_n Z dX10_isWord_56 rfl 3 rfl ?_
        refine z_strchr X (i := v1) hv1 ml_X10_137 (by omega) (Nat.le_of_ble_eq_true rfl) ⟨Nat.zero_le _, Nat.zero_le _⟩ dX10_isWord_57 h (fun x1 h => ?_)
        refine z_jnr (P := fun (k : Int → zMem → zO) => ∀ (x2 : Int) (M1 : zMem), k x2 M1 = some (r, M') → z_V p l e R s m args below meth c D A cI cZ 4 (wM cI cZ ad) M' (some (.int (z_I r))) M1 68 [(0, .ref (ad 0)), (1, .ref (adK v1)), (3, .int (z_I v3))] [.int (z_I x2)]) h ?_ ?_
        · intro x2 M1 h
          refine z_istore_n (lv' := [(2, .int (z_I x2)), (0, .ref (ad 0)), (1, .ref (adK v1)), (3, .int (z_I v3))]) Z dX10_isWord_68 rfl (by decide) rfl ?_
          refine z_iincn Z (fun z => [(3, .int (z_I z)), (2, .int (z_I x2)), (0, .ref (ad 0)), (1, .ref (adK v1))]) dX10_isWord_69 (k := 3) rfl (by decide) (fun _ => rfl) h (fun v3_ h => ?_)
          refine z_goto (tgt := 32) Z dX10_isWord_72 (by decide) ?_
          refine z_sub [2, 3, 1, 0] rfl ?_
          exact ih x2 v3_ M1 h
        · intro k1 hk1 h
          refine z_icmp_ne (tgt := 67) Z dX10_isWord_60 (by decide) h (fun h => ?_) (fun h => ?_)
          · refine z_iconst Z dX10_isWord_67 ?_
            refine z_sub [0, 1, 3] rfl ?_
            exact hk1 0 M h
          · refine z_iconst Z dX10_isWord_63 ?_
            refine z_goto (tgt := 68) Z dX10_isWord_64 (by decide) ?_
            refine z_sub [0, 1, 3] rfl ?_
            exact hk1 1 M h
set_option maxRecDepth 100000 in
set_option maxHeartbeats 4000000 in
theorem c_X10_isWord {l : Launch} {D : va_G} {cI cZ : ClassId} {ad adK adV : Nat → Nat} {N : Nat} {v1 : Nat} (hv1 : v1 < 27) {M M' : zMem} {r : Int} (h : Model_isWord N v1 M = some (r, M')) : z_Ct (wM cI cZ ad) D cI cZ adK adV l yX10_isWord cX10_isWord 4 (some .boolean) 6 [.ref (ad 0), .ref (adK v1)] M M' (some (.int (z_I r))) := by
  unfold Model_isWord at h
  refine z_entry (own := RX10) rfl (by decide) (Nat.le_of_ble_eq_true rfl) ?_
  intro p e s m args below meth c R A X hr hlk
  have Z := X.1
  refine z_sub (lv' := [(0, .ref (ad 0)), (1, .ref (adK v1))]) [0, 1] rfl ?_
  refine z_aload_n Z dX10_isWord_0 rfl 0 rfl ?_
  refine gM_X10_116_0 X dX10_isWord_1 ?_
  refine z_iconst Z dX10_isWord_4 ?_
  refine z_jnr (P := fun (k : Int → zMem → zO) => ∀ (x0 : Int) (M1 : zMem), k x0 M1 = some (r, M') → z_V p l e R s m args below meth c D A cI cZ 4 (wM cI cZ ad) M' (some (.int (z_I r))) M1 29 [(0, .ref (ad 0)), (1, .ref (adK v1))] [.int (z_I x0)]) h ?_ ?_
  · intro x0 M1 h
    refine z_istore_n (lv' := [(2, .int (z_I x0)), (0, .ref (ad 0)), (1, .ref (adK v1))]) Z dX10_isWord_29 rfl (by decide) rfl ?_
    refine z_iconst Z dX10_isWord_30 ?_
    refine z_istore_n (lv' := [(3, .int (z_I 0)), (2, .int (z_I x0)), (0, .ref (ad 0)), (1, .ref (adK v1))]) Z dX10_isWord_31 rfl (by decide) rfl ?_
    refine z_jnr (P := fun (k : Int → zMem → zO) => ∀ (v2_ : Int) (M2 : zMem), k v2_ M2 = some (r, M') → z_V p l e R s m args below meth c D A cI cZ 4 (wM cI cZ ad) M' (some (.int (z_I r))) M2 75 [(2, .int (z_I v2_))] []) h ?_ ?_
    · intro v2_ M2 h
      refine z_iload_n Z dX10_isWord_75 rfl 0 rfl ?_
      exact z_zretn X hr hlk dX10_isWord_76 h
    · intro k1 hk1 h
      refine z_sub [2, 3, 1, 0] rfl ?_
      exact wModel_isWord_32 X hr hlk hv1 N k1 hk1 N x0 0 M1 h
  · intro k0 hk0 h
    refine z_jnr (P := fun (k : zMem → zO) => ∀ (M3 : zMem), k M3 = some (r, M') → z_V p l e R s m args below meth c D A cI cZ 4 (wM cI cZ ad) M' (some (.int (z_I r))) M3 28 [(0, .ref (ad 0)), (1, .ref (adK v1))] []) h ?_ ?_
    · intro M3 h
      refine z_iconst Z dX10_isWord_28 ?_
      refine z_sub [0, 1] rfl ?_
      exact hk0 0 M3 h
    · intro k2 hk2 h
      refine z_icmp_ne (tgt := 28) Z dX10_isWord_5 (by decide) h (fun h => ?_) (fun h => ?_)
      · refine z_sub [0, 1] rfl ?_
        exact hk2 M h
      · refine z_aload_n Z dX10_isWord_8 rfl 0 rfl ?_
        refine gM_X10_100_0 X dX10_isWord_9 ?_
        refine z_aload_n Z dX10_isWord_12 rfl 0 rfl ?_
        refine gM_X10_107_0 X dX10_isWord_13 ?_
        refine z_isub Z dX10_isWord_16 ?_
        refine z_aload_n Z dX10_isWord_17 rfl 1 rfl ?_
        refine z_strlen X (i := v1) hv1 ml_X10_132 (by omega) (Nat.le_of_ble_eq_true rfl) ⟨Nat.zero_le _, Nat.zero_le _⟩ dX10_isWord_18 ?_
        refine z_icmp_ne (tgt := 28) Z dX10_isWord_21 (by decide) h (fun h => ?_) (fun h => ?_)
        · refine z_sub [0, 1] rfl ?_
          exact hk2 M h
        · refine z_iconst Z dX10_isWord_24 ?_
          refine z_goto (tgt := 29) Z dX10_isWord_25 (by decide) ?_
          refine z_sub [0, 1] rfl ?_
          exact hk0 1 M h
set_option maxRecDepth 100000 in
set_option maxHeartbeats 4000000 in
theorem c_X10_reads {l : Launch} {D : va_G} {cI cZ : ClassId} {ad adK adV : Nat → Nat} {N : Nat} {v1 v2 : Int} {M M' : zMem} {r : Int} (h : Model_reads N v1 v2 M = some (r, M')) : z_Ct (wM cI cZ ad) D cI cZ adK adV l yX10_reads cX10_reads 4 (some .int) 9 [.ref (ad 0), .int (z_I v1), .int (z_I v2)] M M' (some (.int (z_I r))) := by
  unfold Model_reads at h
  refine z_entry (own := RX10) rfl (by decide) (Nat.le_of_ble_eq_true rfl) ?_
  intro p e s m args below meth c R A X hr hlk
  have Z := X.1
  refine z_sub (lv' := [(0, .ref (ad 0)), (1, .int (z_I v1)), (2, .int (z_I v2))]) [0, 1, 2] rfl ?_
  refine z_aload_n Z dX10_reads_0 rfl 0 rfl ?_
  refine gM_X10_110_0 X dX10_reads_1 ?_
  refine z_nmI h (fun v3_ h => ?_)
  refine z_istore_n (lv' := [(3, .int (z_I v3_)), (0, .ref (ad 0)), (1, .int (z_I v1)), (2, .int (z_I v2))]) Z dX10_reads_4 rfl (by decide) rfl ?_
  refine z_aload_n Z dX10_reads_5 rfl 1 rfl ?_
  refine gM_X10_116_0 X dX10_reads_6 ?_
  refine z_iconst Z dX10_reads_9 ?_
  refine z_jnr (P := fun (k : zMem → zO) => ∀ (M1 : zMem), k M1 = some (r, M') → z_V p l e R s m args below meth c D A cI cZ 4 (wM cI cZ ad) M' (some (.int (z_I r))) M1 38 [(0, .ref (ad 0)), (3, .int (z_I v3_))] []) h ?_ ?_
  · intro M1 h
    refine z_aload_n Z dX10_reads_38 rfl 0 rfl ?_
    refine z_iconst Z dX10_reads_39 ?_
    obtain ⟨u_, M2, hf, h⟩ := z_cld h
    refine z_callVv (Wd := wM cI cZ ad) X (c_X10_passes hf) ml_X10_158 yd_X10_passes yw_X10_passes (by omega) (by decide) (rM_0 X) rfl rfl (Nat.le_of_ble_eq_true rfl) ⟨Nat.zero_le _, Nat.zero_le _⟩ dX10_reads_40 ?_
    refine z_iload_n Z dX10_reads_43 rfl 1 rfl ?_
    exact z_iret X hr hlk dX10_reads_44 h
  · intro k0 hk0 h
    refine z_icmp_eq (tgt := 21) Z dX10_reads_10 (by decide) h (fun h => ?_) (fun h => ?_)
    · refine z_iload_n Z dX10_reads_21 rfl 0 rfl ?_
      refine z_i2l Z dX10_reads_22 h (fun x0 h => ?_)
      refine z_iload_n Z dX10_reads_23 rfl 2 rfl ?_
      refine z_i2l Z dX10_reads_24 h (fun x1 h => ?_)
      refine z_iload_n Z dX10_reads_25 rfl 3 rfl ?_
      refine z_i2l Z dX10_reads_26 h (fun x2 h => ?_)
      obtain ⟨r_, M3, hf1, h⟩ := z_cld h
      refine z_callSi (Wd := wM cI cZ ad) X (c_X10_in hf1) ml_X10_96 yd_X10_in yw_X10_in (by omega) (by decide) rfl rfl (Nat.le_of_ble_eq_true rfl) ⟨Nat.zero_le _, Nat.zero_le _⟩ dX10_reads_27 ?_
      refine z_if_ne (tgt := 38) Z dX10_reads_30 (by decide) h (fun h => ?_) (fun h => ?_)
      · refine z_sub [1, 0] rfl ?_
        exact hk0 M3 h
      · refine z_aload_n Z dX10_reads_33 rfl 1 rfl ?_
        refine z_iconst Z dX10_reads_34 ?_
        obtain ⟨u_1, M4, hf2, h⟩ := z_cld h
        refine z_callVv (Wd := wM cI cZ ad) X (c_X10_faults hf2) ml_X10_151 yd_X10_faults yw_X10_faults (by omega) (by decide) (rM_0 X) rfl rfl (Nat.le_of_ble_eq_true rfl) ⟨Nat.zero_le _, Nat.zero_le _⟩ dX10_reads_35 ?_
        refine z_sub [1, 0] rfl ?_
        exact hk0 M4 h
    · refine z_aload_n Z dX10_reads_13 rfl 1 rfl ?_
      refine z_iconst Z dX10_reads_14 ?_
      obtain ⟨u_2, M5, hf3, h⟩ := z_cld h
      refine z_callVv (Wd := wM cI cZ ad) X (c_X10_faults hf3) ml_X10_151 yd_X10_faults yw_X10_faults (by omega) (by decide) (rM_0 X) rfl rfl (Nat.le_of_ble_eq_true rfl) ⟨Nat.zero_le _, Nat.zero_le _⟩ dX10_reads_15 ?_
      refine z_goto (tgt := 38) Z dX10_reads_18 (by decide) ?_
      refine z_sub [1, 0] rfl ?_
      exact hk0 M5 h
set_option maxRecDepth 100000 in
set_option maxHeartbeats 4000000 in
theorem c_X10_named {l : Launch} {D : va_G} {cI cZ : ClassId} {ad adK adV : Nat → Nat} {N : Nat} {v1 : Nat} (hv1 : v1 < 27) {v2 v3 : Int} {M M' : zMem} {r : Int} (h : Model_named N v1 v2 v3 M = some (r, M')) : z_Ct (wM cI cZ ad) D cI cZ adK adV l yX10_named cX10_named 4 (some .int) 10 [.ref (ad 0), .ref (adK v1), .int (z_I v2), .int (z_I v3)] M M' (some (.int (z_I r))) := by
  unfold Model_named at h
  refine z_entry (own := RX10) rfl (by decide) (Nat.le_of_ble_eq_true rfl) ?_
  intro p e s m args below meth c R A X hr hlk
  have Z := X.1
  refine z_sub (lv' := [(0, .ref (ad 0)), (1, .ref (adK v1)), (2, .int (z_I v2)), (3, .int (z_I v3))]) [0, 1, 2, 3] rfl ?_
  refine z_aload_n Z dX10_named_0 rfl 0 rfl ?_
  refine z_aload_n Z dX10_named_1 rfl 0 rfl ?_
  refine gM_X10_141_0 X dX10_named_2 ?_
  refine z_jnr (P := fun (k : Int → zMem → zO) => ∀ (x0 : Int) (M1 : zMem), k x0 M1 = some (r, M') → z_V p l e R s m args below meth c D A cI cZ 4 (wM cI cZ ad) M' (some (.int (z_I r))) M1 21 [(0, .ref (ad 0)), (2, .int (z_I v2)), (3, .int (z_I v3))] [.int (z_I x0), .ref (ad 0)]) h ?_ ?_
  · intro x0 M1 h
    obtain ⟨u_, M2, hf, h⟩ := z_cld h
    refine z_callVv (Wd := wM cI cZ ad) X (c_X10_passes hf) ml_X10_158 yd_X10_passes yw_X10_passes (by omega) (by decide) (rM_0 X) rfl rfl (Nat.le_of_ble_eq_true rfl) ⟨Nat.zero_le _, Nat.zero_le _⟩ dX10_named_21 ?_
    refine z_aload_n Z dX10_named_24 rfl 0 rfl ?_
    refine gM_X10_141_0 X dX10_named_25 ?_
    refine z_if_eq (tgt := 35) Z dX10_named_28 (by decide) h (fun h => ?_) (fun h => ?_)
    · refine z_aload_n Z dX10_named_35 rfl 0 rfl ?_
      refine z_iload_n Z dX10_named_36 rfl 1 rfl ?_
      refine z_iload_n Z dX10_named_37 rfl 2 rfl ?_
      obtain ⟨r_, M3, hf1, h⟩ := z_cld h
      refine z_callVi (Wd := wM cI cZ ad) X (c_X10_reads hf1) ml_X10_166 yd_X10_reads yw_X10_reads (by omega) (by decide) (rM_0 X) rfl rfl (Nat.le_of_ble_eq_true rfl) ⟨Nat.zero_le _, Nat.zero_le _⟩ dX10_named_38 ?_
      exact z_iret X hr hlk dX10_named_41 h
    · refine z_iconst Z dX10_named_31 ?_
      refine z_goto (tgt := 41) Z dX10_named_32 (by decide) ?_
      exact z_iret X hr hlk dX10_named_41 h
  · intro k0 hk0 h
    refine z_jnr (P := fun (k : zMem → zO) => ∀ (M4 : zMem), k M4 = some (r, M') → z_V p l e R s m args below meth c D A cI cZ 4 (wM cI cZ ad) M' (some (.int (z_I r))) M4 16 [(0, .ref (ad 0)), (2, .int (z_I v2)), (3, .int (z_I v3))] [.ref (ad 0)]) h ?_ ?_
    · intro M4 h
      refine z_iconst Z dX10_named_16 ?_
      refine z_goto (tgt := 21) Z dX10_named_17 (by decide) ?_
      refine z_sub [0, 1, 2] rfl ?_
      exact hk0 1 M4 h
    · intro k1 hk1 h
      refine z_if_ne (tgt := 16) Z dX10_named_5 (by decide) h (fun h => ?_) (fun h => ?_)
      · refine z_sub [0, 2, 3] rfl ?_
        exact hk1 M h
      · refine z_aload_n Z dX10_named_8 rfl 0 rfl ?_
        refine z_aload_n Z dX10_named_9 rfl 1 rfl ?_
        obtain ⟨r_1, M5, hf2, h⟩ := z_cld h
        refine z_callVi (Wd := wM cI cZ ad) X (c_X10_isWord hv1 hf2) ml_X10_162 yd_X10_isWord yw_X10_isWord (by omega) (by decide) (rM_0 X) rfl rfl (Nat.le_of_ble_eq_true rfl) ⟨Nat.zero_le _, Nat.zero_le _⟩ dX10_named_10 ?_
        refine z_if_eq (tgt := 20) Z dX10_named_13 (by decide) h (fun h => ?_) (fun h => ?_)
        · refine z_iconst Z dX10_named_20 ?_
          refine z_sub [0, 2, 3] rfl ?_
          exact hk0 0 M5 h
        · refine z_sub [0, 2, 3] rfl ?_
          exact hk1 M5 h
set_option maxRecDepth 100000 in
set_option maxHeartbeats 4000000 in
theorem c_X10_readsDrum {l : Launch} {D : va_G} {cI cZ : ClassId} {ad adK adV : Nat → Nat} {N : Nat} {M M' : zMem} {r : Int} (h : Model_readsDrum N M = some (r, M')) : z_Ct (wM cI cZ ad) D cI cZ adK adV l yX10_readsDrum cX10_readsDrum 1 none 11 [.ref (ad 0)] M M' none := by
  unfold Model_readsDrum at h
  refine z_entry (own := RX10) rfl (by decide) (Nat.le_of_ble_eq_true rfl) ?_
  intro p e s m args below meth c R A X hr hlk
  have Z := X.1
  refine z_sub (lv' := [(0, .ref (ad 0))]) [0] rfl ?_
  refine z_aload_n Z dX10_readsDrum_0 rfl 0 rfl ?_
  refine z_aload_n Z dX10_readsDrum_1 rfl 0 rfl ?_
  refine gM_X10_113_0 X dX10_readsDrum_2 ?_
  refine z_bipush Z dX10_readsDrum_5 rfl ?_
  refine z_jnr (P := fun (k : Int → zMem → zO) => ∀ (x0 : Int) (M1 : zMem), k x0 M1 = some (r, M') → z_V p l e R s m args below meth c D A cI cZ 1 (wM cI cZ ad) M' none M1 15 [(0, .ref (ad 0))] [.int (z_I x0), .ref (ad 0)]) h ?_ ?_
  · intro x0 M1 h
    obtain ⟨u_, M2, hf, h⟩ := z_cld h
    refine z_callVv (Wd := wM cI cZ ad) X (c_X10_passes hf) ml_X10_158 yd_X10_passes yw_X10_passes (by omega) (by decide) (rM_0 X) rfl rfl (Nat.le_of_ble_eq_true rfl) ⟨Nat.zero_le _, Nat.zero_le _⟩ dX10_readsDrum_15 ?_
    refine z_aload_n Z dX10_readsDrum_18 rfl 0 rfl ?_
    refine gM_X10_7_0 X dX10_readsDrum_19 ?_
    refine z_iconst Z dX10_readsDrum_22 ?_
    refine z_aload_n Z dX10_readsDrum_23 rfl 0 rfl ?_
    refine z_ldcS X 22 (by decide) rfl rfl dX10_readsDrum_24 ?_
    refine z_iconst Z dX10_readsDrum_26 ?_
    refine z_iconst Z dX10_readsDrum_27 ?_
    obtain ⟨r_, M3, hf1, h⟩ := z_cld h
    refine z_callVi (Wd := wM cI cZ ad) X (c_X10_named (by decide) hf1) ml_X10_171 yd_X10_named yw_X10_named (by omega) (by decide) (rM_0 X) rfl rfl (Nat.le_of_ble_eq_true rfl) ⟨Nat.zero_le _, Nat.zero_le _⟩ dX10_readsDrum_28 ?_
    refine srM_1 X dX10_readsDrum_31 h (fun M4 h => ?_)
    refine z_aload_n Z dX10_readsDrum_32 rfl 0 rfl ?_
    refine gM_X10_7_0 X dX10_readsDrum_33 ?_
    refine z_iconst Z dX10_readsDrum_36 ?_
    refine z_aload_n Z dX10_readsDrum_37 rfl 0 rfl ?_
    refine z_ldcS X 23 (by decide) rfl rfl dX10_readsDrum_38 ?_
    refine z_iconst Z dX10_readsDrum_40 ?_
    refine z_bipush Z dX10_readsDrum_41 rfl ?_
    obtain ⟨r_1, M5, hf2, h⟩ := z_cld h
    refine z_callVi (Wd := wM cI cZ ad) X (c_X10_named (by decide) hf2) ml_X10_171 yd_X10_named yw_X10_named (by omega) (by decide) (rM_0 X) rfl rfl (Nat.le_of_ble_eq_true rfl) ⟨Nat.zero_le _, Nat.zero_le _⟩ dX10_readsDrum_43 ?_
    refine srM_1 X dX10_readsDrum_46 h (fun M6 h => ?_)
    refine z_aload_n Z dX10_readsDrum_47 rfl 0 rfl ?_
    refine gM_X10_7_0 X dX10_readsDrum_48 ?_
    refine z_iconst Z dX10_readsDrum_51 ?_
    refine z_aload_n Z dX10_readsDrum_52 rfl 0 rfl ?_
    refine z_ldcS X 24 (by decide) rfl rfl dX10_readsDrum_53 ?_
    refine z_iconst Z dX10_readsDrum_55 ?_
    refine z_bipush Z dX10_readsDrum_56 rfl ?_
    obtain ⟨r_2, M7, hf3, h⟩ := z_cld h
    refine z_callVi (Wd := wM cI cZ ad) X (c_X10_named (by decide) hf3) ml_X10_171 yd_X10_named yw_X10_named (by omega) (by decide) (rM_0 X) rfl rfl (Nat.le_of_ble_eq_true rfl) ⟨Nat.zero_le _, Nat.zero_le _⟩ dX10_readsDrum_58 ?_
    refine srM_1 X dX10_readsDrum_61 h (fun M8 h => ?_)
    refine z_aload_n Z dX10_readsDrum_62 rfl 0 rfl ?_
    refine z_aload_n Z dX10_readsDrum_63 rfl 0 rfl ?_
    refine gM_X10_141_0 X dX10_readsDrum_64 ?_
    refine z_jnr (P := fun (k : Int → zMem → zO) => ∀ (x1 : Int) (M9 : zMem), k x1 M9 = some (r, M') → z_V p l e R s m args below meth c D A cI cZ 1 (wM cI cZ ad) M' none M9 84 [(0, .ref (ad 0))] [.int (z_I x1), .ref (ad 0)]) h ?_ ?_
    · intro x1 M9 h
      obtain ⟨u_1, M10, hf4, h⟩ := z_cld h
      refine z_callVv (Wd := wM cI cZ ad) X (c_X10_passes hf4) ml_X10_158 yd_X10_passes yw_X10_passes (by omega) (by decide) (rM_0 X) rfl rfl (Nat.le_of_ble_eq_true rfl) ⟨Nat.zero_le _, Nat.zero_le _⟩ dX10_readsDrum_84 ?_
      refine z_aload_n Z dX10_readsDrum_87 rfl 0 rfl ?_
      refine gM_X10_141_0 X dX10_readsDrum_88 ?_
      refine z_jnr (P := fun (k : zMem → zO) => ∀ (M11 : zMem), k M11 = some (r, M') → z_V p l e R s m args below meth c D A cI cZ 1 (wM cI cZ ad) M' none M11 118 [(0, .ref (ad 0))] []) h ?_ ?_
      · intro M11 h
        refine z_aload_n Z dX10_readsDrum_118 rfl 0 rfl ?_
        refine gM_X10_7_0 X dX10_readsDrum_119 ?_
        refine z_iconst Z dX10_readsDrum_122 ?_
        refine z_aload_n Z dX10_readsDrum_123 rfl 0 rfl ?_
        refine gM_X10_141_0 X dX10_readsDrum_124 ?_
        refine z_jnr (P := fun (k : Int → Int → zMem → zO) => ∀ (x2 x3 : Int) (M12 : zMem), k x2 x3 M12 = some (r, M') → z_V p l e R s m args below meth c D A cI cZ 1 (wM cI cZ ad) M' none M12 141 [(0, .ref (ad 0))] [.int (z_I x2), .int (z_I x3), .ref (ad 1)]) h ?_ ?_
        · intro x2 x3 M12 h
          refine srM_1 X dX10_readsDrum_141 h (fun M13 h => ?_)
          refine z_aload_n Z dX10_readsDrum_142 rfl 0 rfl ?_
          refine gM_X10_7_0 X dX10_readsDrum_143 ?_
          refine z_iconst Z dX10_readsDrum_146 ?_
          refine z_aload_n Z dX10_readsDrum_147 rfl 0 rfl ?_
          refine z_ldcS X 26 (by decide) rfl rfl dX10_readsDrum_148 ?_
          refine z_iconst Z dX10_readsDrum_150 ?_
          refine z_bipush Z dX10_readsDrum_151 rfl ?_
          obtain ⟨r_3, M14, hf5, h⟩ := z_cld h
          refine z_callVi (Wd := wM cI cZ ad) X (c_X10_named (by decide) hf5) ml_X10_171 yd_X10_named yw_X10_named (by omega) (by decide) (rM_0 X) rfl rfl (Nat.le_of_ble_eq_true rfl) ⟨Nat.zero_le _, Nat.zero_le _⟩ dX10_readsDrum_153 ?_
          refine srM_1 X dX10_readsDrum_156 h (fun M15 h => ?_)
          exact z_vret X hr hlk dX10_readsDrum_157 h
        · intro k3 hk3 h
          refine z_if_eq (tgt := 134) Z dX10_readsDrum_127 (by decide) h (fun h => ?_) (fun h => ?_)
          · refine z_aload_n Z dX10_readsDrum_134 rfl 0 rfl ?_
            refine z_iconst Z dX10_readsDrum_135 ?_
            refine z_bipush Z dX10_readsDrum_136 rfl ?_
            obtain ⟨r_4, M16, hf6, h⟩ := z_cld h
            refine z_callVi (Wd := wM cI cZ ad) X (c_X10_reads hf6) ml_X10_166 yd_X10_reads yw_X10_reads (by omega) (by decide) (rM_0 X) rfl rfl (Nat.le_of_ble_eq_true rfl) ⟨Nat.zero_le _, Nat.zero_le _⟩ dX10_readsDrum_138 ?_
            refine z_sub [0] rfl ?_
            exact hk3 r_4 3 M16 h
          · refine z_iconst Z dX10_readsDrum_130 ?_
            refine z_goto (tgt := 141) Z dX10_readsDrum_131 (by decide) ?_
            refine z_sub [0] rfl ?_
            exact hk3 0 3 M11 h
      · intro k2 hk2 h
        refine z_if_ne (tgt := 118) Z dX10_readsDrum_91 (by decide) h (fun h => ?_) (fun h => ?_)
        · refine z_sub [0] rfl ?_
          exact hk2 M10 h
        · refine z_aload_n Z dX10_readsDrum_94 rfl 0 rfl ?_
          refine gM_X10_116_0 X dX10_readsDrum_95 ?_
          refine z_iconst Z dX10_readsDrum_98 ?_
          refine z_icmp_ne (tgt := 118) Z dX10_readsDrum_99 (by decide) h (fun h => ?_) (fun h => ?_)
          · refine z_sub [0] rfl ?_
            exact hk2 M10 h
          · refine z_aload_n Z dX10_readsDrum_102 rfl 0 rfl ?_
            refine z_aload_n Z dX10_readsDrum_103 rfl 0 rfl ?_
            refine gM_X10_110_0 X dX10_readsDrum_104 ?_
            obtain ⟨r_5, M17, hf7, h⟩ := z_cld h
            refine z_callVi (Wd := wM cI cZ ad) X (c_X10_isQuick hf7) ml_X10_181 yd_X10_isQuick yw_X10_isQuick (by omega) (by decide) (rM_0 X) rfl rfl (Nat.le_of_ble_eq_true rfl) ⟨Nat.zero_le _, Nat.zero_le _⟩ dX10_readsDrum_107 ?_
            refine z_if_ne (tgt := 118) Z dX10_readsDrum_110 (by decide) h (fun h => ?_) (fun h => ?_)
            · refine z_sub [0] rfl ?_
              exact hk2 M17 h
            · refine z_aload_n Z dX10_readsDrum_113 rfl 0 rfl ?_
              refine z_iconst Z dX10_readsDrum_114 ?_
              obtain ⟨u_2, M18, hf8, h⟩ := z_cld h
              refine z_callVv (Wd := wM cI cZ ad) X (c_X10_faults hf8) ml_X10_151 yd_X10_faults yw_X10_faults (by omega) (by decide) (rM_0 X) rfl rfl (Nat.le_of_ble_eq_true rfl) ⟨Nat.zero_le _, Nat.zero_le _⟩ dX10_readsDrum_115 ?_
              refine z_sub [0] rfl ?_
              exact hk2 M18 h
    · intro k1 hk1 h
      refine z_jnr (P := fun (k : zMem → zO) => ∀ (M19 : zMem), k M19 = some (r, M') → z_V p l e R s m args below meth c D A cI cZ 1 (wM cI cZ ad) M' none M19 79 [(0, .ref (ad 0))] [.ref (ad 0)]) h ?_ ?_
      · intro M19 h
        refine z_iconst Z dX10_readsDrum_79 ?_
        refine z_goto (tgt := 84) Z dX10_readsDrum_80 (by decide) ?_
        refine z_sub [0] rfl ?_
        exact hk1 1 M19 h
      · intro k4 hk4 h
        refine z_if_ne (tgt := 79) Z dX10_readsDrum_67 (by decide) h (fun h => ?_) (fun h => ?_)
        · refine z_sub [0] rfl ?_
          exact hk4 M8 h
        · refine z_aload_n Z dX10_readsDrum_70 rfl 0 rfl ?_
          refine z_ldcS X 25 (by decide) rfl rfl dX10_readsDrum_71 ?_
          obtain ⟨r_6, M20, hf9, h⟩ := z_cld h
          refine z_callVi (Wd := wM cI cZ ad) X (c_X10_isWord (by decide) hf9) ml_X10_162 yd_X10_isWord yw_X10_isWord (by omega) (by decide) (rM_0 X) rfl rfl (Nat.le_of_ble_eq_true rfl) ⟨Nat.zero_le _, Nat.zero_le _⟩ dX10_readsDrum_73 ?_
          refine z_if_eq (tgt := 83) Z dX10_readsDrum_76 (by decide) h (fun h => ?_) (fun h => ?_)
          · refine z_iconst Z dX10_readsDrum_83 ?_
            refine z_sub [0] rfl ?_
            exact hk1 0 M20 h
          · refine z_sub [0] rfl ?_
            exact hk4 M20 h
  · intro k0 hk0 h
    refine z_icmp_ne (tgt := 14) Z dX10_readsDrum_7 (by decide) h (fun h => ?_) (fun h => ?_)
    · refine z_iconst Z dX10_readsDrum_14 ?_
      refine z_sub [0] rfl ?_
      exact hk0 0 M h
    · refine z_iconst Z dX10_readsDrum_10 ?_
      refine z_goto (tgt := 15) Z dX10_readsDrum_11 (by decide) ?_
      refine z_sub [0] rfl ?_
      exact hk0 1 M h
