/-! the machine does what the pure programs say -/
set_option maxRecDepth 100000 in
set_option maxHeartbeats 4000000 in
theorem wModel_fixedAt_2 {p : Program} {l : Launch} {e : Env} {R : Room} {s : State} {m : MethodId} {args : Array Value} {below : List Frame} {meth : Method} {c : Code} {D : va_G} {A : Nat → Prop} {cI cZ : ClassId} {adK adV ad : Nat → Nat} {r : Int} {M' : zMem} (X : z_X p m c cX10_fixedAt 3 s args RX10 R 1 D cI cZ A adK adV) (hr : meth.sig.returnType = some .int) (hlk : meth.locks = false) (N : Nat) (v1 : Int) (k : zMem → zO) (hk : ∀ (M : zMem), k M = some (r, M') → z_V p l e R s m args below meth c D A cI cZ 3 (wM cI cZ ad) M' (some (.int (z_I r))) M 34 [] []) : ∀ (n : Nat) (v2 : Int) (M : zMem), Model_fixedAt_2 N v1 k n v2 M = some (r, M') → z_V p l e R s m args below meth c D A cI cZ 3 (wM cI cZ ad) M' (some (.int (z_I r))) M 2 [(0, .ref (ad 0)), (1, .int (z_I v1)), (2, .int (z_I v2))] [] := by
  have Z := X.1
  intro n
  induction n with
  | zero =>
    intro v2 M h
    rw [Model_fixedAt_2] at h
    cases h
  | succ n ih =>
    intro v2 M h
    rw [Model_fixedAt_2] at h
    refine z_iload_n Z dX10_fixedAt_2 rfl 2 rfl ?_
    refine z_aload_n Z dX10_fixedAt_3 rfl 0 rfl ?_
    refine gM_X10_7_0 X dX10_fixedAt_4 ?_
    refine z_iconst Z dX10_fixedAt_7 ?_
    refine ldM_1 X dX10_fixedAt_8 h (fun x0 h => ?_)
    refine z_icmp_ge (tgt := 34) Z dX10_fixedAt_9 (by decide) h (fun h => ?_) (fun h => ?_)
    · refine z_sub [] rfl ?_
      exact hk M h
    · refine z_aload_n Z dX10_fixedAt_12 rfl 0 rfl ?_
      refine gM_X10_7_0 X dX10_fixedAt_13 ?_
      refine z_sipush Z dX10_fixedAt_16 rfl ?_
      refine z_iload_n Z dX10_fixedAt_19 rfl 2 rfl ?_
      refine z_iadd Z dX10_fixedAt_20 ?_
      refine ldM_1 X dX10_fixedAt_21 h (fun x1 h => ?_)
      refine z_iload_n Z dX10_fixedAt_22 rfl 1 rfl ?_
      refine z_icmp_ne (tgt := 28) Z dX10_fixedAt_23 (by decide) h (fun h => ?_) (fun h => ?_)
      · refine z_iincn Z (fun z => [(2, .int (z_I z)), (0, .ref (ad 0)), (1, .int (z_I v1))]) dX10_fixedAt_28 (k := 2) rfl (by decide) (fun _ => rfl) h (fun v2_ h => ?_)
        refine z_goto (tgt := 2) Z dX10_fixedAt_31 (by decide) ?_
        refine z_sub [1, 2, 0] rfl ?_
        exact ih v2_ M h
      · refine z_iload_n Z dX10_fixedAt_26 rfl 2 rfl ?_
        exact z_iret X hr hlk dX10_fixedAt_27 h
set_option maxRecDepth 100000 in
set_option maxHeartbeats 4000000 in
theorem c_X10_fixedAt {l : Launch} {D : va_G} {cI cZ : ClassId} {ad adK adV : Nat → Nat} {N : Nat} {v1 : Int} {M M' : zMem} {r : Int} (h : Model_fixedAt N v1 M = some (r, M')) : z_Ct (wM cI cZ ad) D cI cZ adK adV l yX10_fixedAt cX10_fixedAt 3 (some .int) 1 [.ref (ad 0), .int (z_I v1)] M M' (some (.int (z_I r))) := by
  unfold Model_fixedAt at h
  refine z_entry (own := RX10) rfl (by decide) (Nat.le_of_ble_eq_true rfl) ?_
  intro p e s m args below meth c R A X hr hlk
  have Z := X.1
  refine z_sub (lv' := [(0, .ref (ad 0)), (1, .int (z_I v1))]) [0, 1] rfl ?_
  refine z_iconst Z dX10_fixedAt_0 ?_
  refine z_istore_n (lv' := [(2, .int (z_I 0)), (0, .ref (ad 0)), (1, .int (z_I v1))]) Z dX10_fixedAt_1 rfl (by decide) rfl ?_
  refine z_jnr (P := fun (k : zMem → zO) => ∀ (M1 : zMem), k M1 = some (r, M') → z_V p l e R s m args below meth c D A cI cZ 3 (wM cI cZ ad) M' (some (.int (z_I r))) M1 34 [] []) h ?_ ?_
  · intro M1 h
    refine z_iconst Z dX10_fixedAt_34 ?_
    exact z_iret X hr hlk dX10_fixedAt_35 h
  · intro k0 hk0 h
    refine z_sub [1, 2, 0] rfl ?_
    exact wModel_fixedAt_2 X hr hlk N v1 k0 hk0 N 0 M h
set_option maxRecDepth 100000 in
set_option maxHeartbeats 4000000 in
theorem wModel_isAlike_16 {p : Program} {l : Launch} {e : Env} {R : Room} {s : State} {m : MethodId} {args : Array Value} {below : List Frame} {meth : Method} {c : Code} {D : va_G} {A : Nat → Prop} {cI cZ : ClassId} {adK adV ad : Nat → Nat} {r : Int} {M' : zMem} (X : z_X p m c cX10_isAlike 7 s args RX10 R 1 D cI cZ A adK adV) (hr : meth.sig.returnType = some .boolean) (hlk : meth.locks = false) (N : Nat) (v1 v2 v3 : Int) (k : Int → zMem → zO) (hk : ∀ (y5 : Int) (M : zMem), k y5 M = some (r, M') → z_V p l e R s m args below meth c D A cI cZ 7 (wM cI cZ ad) M' (some (.int (z_I r))) M 61 [(5, .int (z_I y5))] []) : ∀ (n : Nat) (v5 v6 : Int) (M : zMem), Model_isAlike_16 N v1 v2 v3 k n v5 v6 M = some (r, M') → z_V p l e R s m args below meth c D A cI cZ 7 (wM cI cZ ad) M' (some (.int (z_I r))) M 16 [(0, .ref (ad 0)), (1, .int (z_I v1)), (2, .int (z_I v2)), (3, .int (z_I v3)), (5, .int (z_I v5)), (6, .int (z_I v6))] [] := by
  have Z := X.1
  intro n
  induction n with
  | zero =>
    intro v5 v6 M h
    rw [Model_isAlike_16] at h
    cases h
  | succ n ih =>
    intro v5 v6 M h
    rw [Model_isAlike_16] at h
    refine z_iload Z dX10_isAlike_16 5 rfl ?_
    refine z_iload_n Z dX10_isAlike_18 rfl 2 rfl ?_
    refine z_icmp_ge (tgt := 61) Z dX10_isAlike_19 (by decide) h (fun h => ?_) (fun h => ?_)
    · refine z_sub [4] rfl ?_
      exact hk v5 M h
    · refine z_iload Z dX10_isAlike_22 4 rfl ?_
      refine z_if_eq (tgt := 61) Z dX10_isAlike_24 (by decide) h (fun h => ?_) (fun h => ?_)
      · refine z_sub [4] rfl ?_
        exact hk v5 M h
      · refine z_aload_n Z dX10_isAlike_27 rfl 0 rfl ?_
        refine gM_X10_19_0 X dX10_isAlike_28 ?_
        refine z_iload_n Z dX10_isAlike_31 rfl 1 rfl ?_
        refine z_iload Z dX10_isAlike_32 5 rfl ?_
        refine z_iadd Z dX10_isAlike_34 ?_
        refine ldM_4 X dX10_isAlike_35 h (fun x0 h => ?_)
        refine z_aload_n Z dX10_isAlike_36 rfl 0 rfl ?_
        refine gM_X10_19_0 X dX10_isAlike_37 ?_
        refine z_iload_n Z dX10_isAlike_40 rfl 3 rfl ?_
        refine z_iload Z dX10_isAlike_41 5 rfl ?_
        refine z_iadd Z dX10_isAlike_43 ?_
        refine ldM_4 X dX10_isAlike_44 h (fun x1 h => ?_)
        refine z_jnr (P := fun (k : Int → zMem → zO) => ∀ (x2 : Int) (M1 : zMem), k x2 M1 = some (r, M') → z_V p l e R s m args below meth c D A cI cZ 7 (wM cI cZ ad) M' (some (.int (z_I r))) M1 53 [(0, .ref (ad 0)), (1, .int (z_I v1)), (2, .int (z_I v2)), (3, .int (z_I v3)), (6, .int (z_I v6))] [.int (z_I x2)]) h ?_ ?_
        · intro x2 M1 h
          refine z_istore (lv' := [(5, .int (z_I x2)), (0, .ref (ad 0)), (1, .int (z_I v1)), (2, .int (z_I v2)), (3, .int (z_I v3)), (6, .int (z_I v6))]) Z dX10_isAlike_53 (by decide) rfl ?_
          refine z_iincn Z (fun z => [(6, .int (z_I z)), (5, .int (z_I x2)), (0, .ref (ad 0)), (1, .int (z_I v1)), (2, .int (z_I v2)), (3, .int (z_I v3))]) dX10_isAlike_55 (k := 5) rfl (by decide) (fun _ => rfl) h (fun v6_ h => ?_)
          refine z_goto (tgt := 16) Z dX10_isAlike_58 (by decide) ?_
          refine z_sub [2, 3, 4, 5, 1, 0] rfl ?_
          exact ih x2 v6_ M1 h
        · intro k1 hk1 h
          refine z_icmp_ne (tgt := 52) Z dX10_isAlike_45 (by decide) h (fun h => ?_) (fun h => ?_)
          · refine z_iconst Z dX10_isAlike_52 ?_
            refine z_sub [0, 1, 2, 3, 5] rfl ?_
            exact hk1 0 M h
          · refine z_iconst Z dX10_isAlike_48 ?_
            refine z_goto (tgt := 53) Z dX10_isAlike_49 (by decide) ?_
            refine z_sub [0, 1, 2, 3, 5] rfl ?_
            exact hk1 1 M h
set_option maxRecDepth 100000 in
set_option maxHeartbeats 4000000 in
theorem c_X10_isAlike {l : Launch} {D : va_G} {cI cZ : ClassId} {ad adK adV : Nat → Nat} {N : Nat} {v1 v2 v3 v4 : Int} {M M' : zMem} {r : Int} (h : Model_isAlike N v1 v2 v3 v4 M = some (r, M')) : z_Ct (wM cI cZ ad) D cI cZ adK adV l yX10_isAlike cX10_isAlike 7 (some .boolean) 1 [.ref (ad 0), .int (z_I v1), .int (z_I v2), .int (z_I v3), .int (z_I v4)] M M' (some (.int (z_I r))) := by
  unfold Model_isAlike at h
  refine z_entry (own := RX10) rfl (by decide) (Nat.le_of_ble_eq_true rfl) ?_
  intro p e s m args below meth c R A X hr hlk
  have Z := X.1
  refine z_sub (lv' := [(0, .ref (ad 0)), (1, .int (z_I v1)), (2, .int (z_I v2)), (3, .int (z_I v3)), (4, .int (z_I v4))]) [0, 1, 2, 3, 4] rfl ?_
  refine z_iload_n Z dX10_isAlike_0 rfl 2 rfl ?_
  refine z_iload Z dX10_isAlike_1 4 rfl ?_
  refine z_jnr (P := fun (k : Int → zMem → zO) => ∀ (x0 : Int) (M1 : zMem), k x0 M1 = some (r, M') → z_V p l e R s m args below meth c D A cI cZ 7 (wM cI cZ ad) M' (some (.int (z_I r))) M1 11 [(0, .ref (ad 0)), (1, .int (z_I v1)), (2, .int (z_I v2)), (3, .int (z_I v3))] [.int (z_I x0)]) h ?_ ?_
  · intro x0 M1 h
    refine z_istore (lv' := [(5, .int (z_I x0)), (0, .ref (ad 0)), (1, .int (z_I v1)), (2, .int (z_I v2)), (3, .int (z_I v3))]) Z dX10_isAlike_11 (by decide) rfl ?_
    refine z_iconst Z dX10_isAlike_13 ?_
    refine z_istore (lv' := [(6, .int (z_I 0)), (5, .int (z_I x0)), (0, .ref (ad 0)), (1, .int (z_I v1)), (2, .int (z_I v2)), (3, .int (z_I v3))]) Z dX10_isAlike_14 (by decide) rfl ?_
    refine z_jnr (P := fun (k : Int → zMem → zO) => ∀ (v5_ : Int) (M2 : zMem), k v5_ M2 = some (r, M') → z_V p l e R s m args below meth c D A cI cZ 7 (wM cI cZ ad) M' (some (.int (z_I r))) M2 61 [(5, .int (z_I v5_))] []) h ?_ ?_
    · intro v5_ M2 h
      refine z_iload Z dX10_isAlike_61 0 rfl ?_
      exact z_zretn X hr hlk dX10_isAlike_63 h
    · intro k1 hk1 h
      refine z_sub [2, 3, 4, 5, 1, 0] rfl ?_
      exact wModel_isAlike_16 X hr hlk N v1 v2 v3 k1 hk1 N x0 0 M1 h
  · intro k0 hk0 h
    refine z_icmp_ne (tgt := 10) Z dX10_isAlike_3 (by decide) h (fun h => ?_) (fun h => ?_)
    · refine z_iconst Z dX10_isAlike_10 ?_
      refine z_sub [0, 1, 2, 3] rfl ?_
      exact hk0 0 M h
    · refine z_iconst Z dX10_isAlike_6 ?_
      refine z_goto (tgt := 11) Z dX10_isAlike_7 (by decide) ?_
      refine z_sub [0, 1, 2, 3] rfl ?_
      exact hk0 1 M h
set_option maxRecDepth 100000 in
set_option maxHeartbeats 4000000 in
theorem wModel_itemNamed_2 {p : Program} {l : Launch} {e : Env} {R : Room} {s : State} {m : MethodId} {args : Array Value} {below : List Frame} {meth : Method} {c : Code} {D : va_G} {A : Nat → Prop} {cI cZ : ClassId} {adK adV ad : Nat → Nat} {r : Int} {M' : zMem} (X : z_X p m c cX10_itemNamed 4 s args RX10 R 2 D cI cZ A adK adV) (hr : meth.sig.returnType = some .int) (hlk : meth.locks = false) (N : Nat) (v1 v2 : Int) (k : zMem → zO) (hk : ∀ (M : zMem), k M = some (r, M') → z_V p l e R s m args below meth c D A cI cZ 4 (wM cI cZ ad) M' (some (.int (z_I r))) M 41 [] []) : ∀ (n : Nat) (v3 : Int) (M : zMem), Model_itemNamed_2 N v1 v2 k n v3 M = some (r, M') → z_V p l e R s m args below meth c D A cI cZ 4 (wM cI cZ ad) M' (some (.int (z_I r))) M 2 [(0, .ref (ad 0)), (1, .int (z_I v1)), (2, .int (z_I v2)), (3, .int (z_I v3))] [] := by
  have Z := X.1
  intro n
  induction n with
  | zero =>
    intro v3 M h
    rw [Model_itemNamed_2] at h
    cases h
  | succ n ih =>
    intro v3 M h
    rw [Model_itemNamed_2] at h
    refine z_iload_n Z dX10_itemNamed_2 rfl 3 rfl ?_
    refine z_aload_n Z dX10_itemNamed_3 rfl 0 rfl ?_
    refine gM_X10_7_0 X dX10_itemNamed_4 ?_
    refine z_iconst Z dX10_itemNamed_7 ?_
    refine ldM_1 X dX10_itemNamed_8 h (fun x0 h => ?_)
    refine z_icmp_ge (tgt := 41) Z dX10_itemNamed_9 (by decide) h (fun h => ?_) (fun h => ?_)
    · refine z_sub [] rfl ?_
      exact hk M h
    · refine z_aload_n Z dX10_itemNamed_12 rfl 0 rfl ?_
      refine z_aload_n Z dX10_itemNamed_13 rfl 0 rfl ?_
      refine gM_X10_26_0 X dX10_itemNamed_14 ?_
      refine z_iload_n Z dX10_itemNamed_17 rfl 3 rfl ?_
      refine ldM_5 X dX10_itemNamed_18 h (fun x1 h => ?_)
      refine z_aload_n Z dX10_itemNamed_19 rfl 0 rfl ?_
      refine gM_X10_29_0 X dX10_itemNamed_20 ?_
      refine z_iload_n Z dX10_itemNamed_23 rfl 3 rfl ?_
      refine ldM_6 X dX10_itemNamed_24 h (fun x2 h => ?_)
      refine z_iload_n Z dX10_itemNamed_25 rfl 1 rfl ?_
      refine z_iload_n Z dX10_itemNamed_26 rfl 2 rfl ?_
      obtain ⟨r_, M1, hf, h⟩ := z_cld h
      refine z_callVi (Wd := wM cI cZ ad) X (c_X10_isAlike hf) ml_X10_187 yd_X10_isAlike yw_X10_isAlike (by omega) (by decide) (rM_0 X) rfl rfl (Nat.le_of_ble_eq_true rfl) ⟨Nat.zero_le _, Nat.zero_le _⟩ dX10_itemNamed_27 ?_
      refine z_if_eq (tgt := 35) Z dX10_itemNamed_30 (by decide) h (fun h => ?_) (fun h => ?_)
      · refine z_iincn Z (fun z => [(3, .int (z_I z)), (0, .ref (ad 0)), (1, .int (z_I v1)), (2, .int (z_I v2))]) dX10_itemNamed_35 (k := 3) rfl (by decide) (fun _ => rfl) h (fun v3_ h => ?_)
        refine z_goto (tgt := 2) Z dX10_itemNamed_38 (by decide) ?_
        refine z_sub [1, 2, 3, 0] rfl ?_
        exact ih v3_ M1 h
      · refine z_iload_n Z dX10_itemNamed_33 rfl 3 rfl ?_
        exact z_iret X hr hlk dX10_itemNamed_34 h
set_option maxRecDepth 100000 in
set_option maxHeartbeats 4000000 in
theorem c_X10_itemNamed {l : Launch} {D : va_G} {cI cZ : ClassId} {ad adK adV : Nat → Nat} {N : Nat} {v1 v2 : Int} {M M' : zMem} {r : Int} (h : Model_itemNamed N v1 v2 M = some (r, M')) : z_Ct (wM cI cZ ad) D cI cZ adK adV l yX10_itemNamed cX10_itemNamed 4 (some .int) 2 [.ref (ad 0), .int (z_I v1), .int (z_I v2)] M M' (some (.int (z_I r))) := by
  unfold Model_itemNamed at h
  refine z_entry (own := RX10) rfl (by decide) (Nat.le_of_ble_eq_true rfl) ?_
  intro p e s m args below meth c R A X hr hlk
  have Z := X.1
  refine z_sub (lv' := [(0, .ref (ad 0)), (1, .int (z_I v1)), (2, .int (z_I v2))]) [0, 1, 2] rfl ?_
  refine z_iconst Z dX10_itemNamed_0 ?_
  refine z_istore_n (lv' := [(3, .int (z_I 0)), (0, .ref (ad 0)), (1, .int (z_I v1)), (2, .int (z_I v2))]) Z dX10_itemNamed_1 rfl (by decide) rfl ?_
  refine z_jnr (P := fun (k : zMem → zO) => ∀ (M1 : zMem), k M1 = some (r, M') → z_V p l e R s m args below meth c D A cI cZ 4 (wM cI cZ ad) M' (some (.int (z_I r))) M1 41 [] []) h ?_ ?_
  · intro M1 h
    refine z_iconst Z dX10_itemNamed_41 ?_
    exact z_iret X hr hlk dX10_itemNamed_42 h
  · intro k0 hk0 h
    refine z_sub [1, 2, 3, 0] rfl ?_
    exact wModel_itemNamed_2 X hr hlk N v1 v2 k0 hk0 N 0 M h
set_option maxRecDepth 100000 in
set_option maxHeartbeats 4000000 in
theorem c_X10_readsName {l : Launch} {D : va_G} {cI cZ : ClassId} {ad adK adV : Nat → Nat} {N : Nat} {M M' : zMem} {r : Int} (h : Model_readsName N M = some (r, M')) : z_Ct (wM cI cZ ad) D cI cZ adK adV l yX10_readsName cX10_readsName 1 none 9 [.ref (ad 0)] M M' none := by
  unfold Model_readsName at h
  refine z_entry (own := RX10) rfl (by decide) (Nat.le_of_ble_eq_true rfl) ?_
  intro p e s m args below meth c R A X hr hlk
  have Z := X.1
  refine z_sub (lv' := [(0, .ref (ad 0))]) [0] rfl ?_
  refine z_aload_n Z dX10_readsName_0 rfl 0 rfl ?_
  refine gM_X10_116_0 X dX10_readsName_1 ?_
  refine z_iconst Z dX10_readsName_4 ?_
  refine z_jnr (P := fun (k : zMem → zO) => ∀ (M1 : zMem), k M1 = some (r, M') → z_V p l e R s m args below meth c D A cI cZ 1 (wM cI cZ ad) M' none M1 56 [(0, .ref (ad 0))] []) h ?_ ?_
  · intro M1 h
    refine z_aload_n Z dX10_readsName_56 rfl 0 rfl ?_
    refine gM_X10_26_0 X dX10_readsName_57 ?_
    refine z_aload_n Z dX10_readsName_60 rfl 0 rfl ?_
    refine gM_X10_7_0 X dX10_readsName_61 ?_
    refine z_iconst Z dX10_readsName_64 ?_
    refine ldM_1 X dX10_readsName_65 h (fun x0 h => ?_)
    refine z_aload_n Z dX10_readsName_66 rfl 0 rfl ?_
    refine gM_X10_107_0 X dX10_readsName_67 ?_
    refine srM_5 X dX10_readsName_70 h (fun M2 h => ?_)
    refine z_aload_n Z dX10_readsName_71 rfl 0 rfl ?_
    refine gM_X10_29_0 X dX10_readsName_72 ?_
    refine z_aload_n Z dX10_readsName_75 rfl 0 rfl ?_
    refine gM_X10_7_0 X dX10_readsName_76 ?_
    refine z_iconst Z dX10_readsName_79 ?_
    refine ldM_1 X dX10_readsName_80 h (fun x1 h => ?_)
    refine z_aload_n Z dX10_readsName_81 rfl 0 rfl ?_
    refine gM_X10_100_0 X dX10_readsName_82 ?_
    refine z_aload_n Z dX10_readsName_85 rfl 0 rfl ?_
    refine gM_X10_107_0 X dX10_readsName_86 ?_
    refine z_isub Z dX10_readsName_89 ?_
    refine srM_6 X dX10_readsName_90 h (fun M3 h => ?_)
    refine z_aload_n Z dX10_readsName_91 rfl 0 rfl ?_
    refine z_aload_n Z dX10_readsName_92 rfl 0 rfl ?_
    refine gM_X10_116_0 X dX10_readsName_93 ?_
    refine z_iconst Z dX10_readsName_96 ?_
    refine z_jnr (P := fun (k : Int → zMem → zO) => ∀ (x2 : Int) (M4 : zMem), k x2 M4 = some (r, M') → z_V p l e R s m args below meth c D A cI cZ 1 (wM cI cZ ad) M' none M4 105 [] [.int (z_I x2), .ref (ad 0)]) h ?_ ?_
    · intro x2 M4 h
      obtain ⟨u_, M5, hf, h⟩ := z_cld h
      refine z_callVv (Wd := wM cI cZ ad) X (c_X10_passes hf) ml_X10_158 yd_X10_passes yw_X10_passes (by omega) (by decide) (rM_0 X) rfl rfl (Nat.le_of_ble_eq_true rfl) ⟨Nat.zero_le _, Nat.zero_le _⟩ dX10_readsName_105 ?_
      exact z_vret X hr hlk dX10_readsName_108 h
    · intro k1 hk1 h
      refine z_icmp_ne (tgt := 104) Z dX10_readsName_97 (by decide) h (fun h => ?_) (fun h => ?_)
      · refine z_iconst Z dX10_readsName_104 ?_
        refine z_sub [] rfl ?_
        exact hk1 0 M3 h
      · refine z_iconst Z dX10_readsName_100 ?_
        refine z_goto (tgt := 105) Z dX10_readsName_101 (by decide) ?_
        refine z_sub [] rfl ?_
        exact hk1 1 M3 h
  · intro k0 hk0 h
    refine z_icmp_ne (tgt := 56) Z dX10_readsName_5 (by decide) h (fun h => ?_) (fun h => ?_)
    · refine z_sub [0] rfl ?_
      exact hk0 M h
    · refine z_aload_n Z dX10_readsName_8 rfl 0 rfl ?_
      refine gM_X10_100_0 X dX10_readsName_9 ?_
      refine z_aload_n Z dX10_readsName_12 rfl 0 rfl ?_
      refine gM_X10_107_0 X dX10_readsName_13 ?_
      refine z_isub Z dX10_readsName_16 ?_
      refine z_bipush Z dX10_readsName_17 rfl ?_
      refine z_jnr (P := fun (k : zMem → zO) => ∀ (M6 : zMem), k M6 = some (r, M') → z_V p l e R s m args below meth c D A cI cZ 1 (wM cI cZ ad) M' none M6 51 [(0, .ref (ad 0))] []) h ?_ ?_
      · intro M6 h
        refine z_aload_n Z dX10_readsName_51 rfl 0 rfl ?_
        refine z_iconst Z dX10_readsName_52 ?_
        obtain ⟨u_1, M7, hf1, h⟩ := z_cld h
        refine z_callVv (Wd := wM cI cZ ad) X (c_X10_faults hf1) ml_X10_151 yd_X10_faults yw_X10_faults (by omega) (by decide) (rM_0 X) rfl rfl (Nat.le_of_ble_eq_true rfl) ⟨Nat.zero_le _, Nat.zero_le _⟩ dX10_readsName_53 ?_
        refine z_sub [0] rfl ?_
        exact hk0 M7 h
      · intro k2 hk2 h
        refine z_icmp_gt (tgt := 51) Z dX10_readsName_19 (by decide) h (fun h => ?_) (fun h => ?_)
        · refine z_sub [0] rfl ?_
          exact hk2 M h
        · refine z_aload_n Z dX10_readsName_22 rfl 0 rfl ?_
          refine gM_X10_113_0 X dX10_readsName_23 ?_
          refine z_iconst Z dX10_readsName_26 ?_
          refine z_icmp_ne (tgt := 51) Z dX10_readsName_27 (by decide) h (fun h => ?_) (fun h => ?_)
          · refine z_sub [0] rfl ?_
            exact hk2 M h
          · refine z_aload_n Z dX10_readsName_30 rfl 0 rfl ?_
            refine z_aload_n Z dX10_readsName_31 rfl 0 rfl ?_
            refine gM_X10_107_0 X dX10_readsName_32 ?_
            refine z_aload_n Z dX10_readsName_35 rfl 0 rfl ?_
            refine gM_X10_100_0 X dX10_readsName_36 ?_
            refine z_aload_n Z dX10_readsName_39 rfl 0 rfl ?_
            refine gM_X10_107_0 X dX10_readsName_40 ?_
            refine z_isub Z dX10_readsName_43 ?_
            obtain ⟨r_, M8, hf2, h⟩ := z_cld h
            refine z_callVi (Wd := wM cI cZ ad) X (c_X10_itemNamed hf2) ml_X10_191 yd_X10_itemNamed yw_X10_itemNamed (by omega) (by decide) (rM_0 X) rfl rfl (Nat.le_of_ble_eq_true rfl) ⟨Nat.zero_le _, Nat.zero_le _⟩ dX10_readsName_44 ?_
            refine z_iconst Z dX10_readsName_47 ?_
            refine z_icmp_eq (tgt := 56) Z dX10_readsName_48 (by decide) h (fun h => ?_) (fun h => ?_)
            · refine z_sub [0] rfl ?_
              exact hk0 M8 h
            · refine z_sub [0] rfl ?_
              exact hk2 M8 h
set_option maxRecDepth 100000 in
set_option maxHeartbeats 4000000 in
theorem c_X10_readsRef {l : Launch} {D : va_G} {cI cZ : ClassId} {ad adK adV : Nat → Nat} {N : Nat} {v1 : Int} {M M' : zMem} {r : Int} (h : Model_readsRef N v1 M = some (r, M')) : z_Ct (wM cI cZ ad) D cI cZ adK adV l yX10_readsRef cX10_readsRef 2 none 9 [.ref (ad 0), .int (z_I v1)] M M' none := by
  unfold Model_readsRef at h
  refine z_entry (own := RX10) rfl (by decide) (Nat.le_of_ble_eq_true rfl) ?_
  intro p e s m args below meth c R A X hr hlk
  have Z := X.1
  refine z_sub (lv' := [(0, .ref (ad 0)), (1, .int (z_I v1))]) [0, 1] rfl ?_
  refine z_aload_n Z dX10_readsRef_0 rfl 0 rfl ?_
  refine gM_X10_141_0 X dX10_readsRef_1 ?_
  refine z_jnr (P := fun (k : zMem → zO) => ∀ (M1 : zMem), k M1 = some (r, M') → z_V p l e R s m args below meth c D A cI cZ 2 (wM cI cZ ad) M' none M1 81 [(0, .ref (ad 0))] []) h ?_ ?_
  · intro M1 h
    refine z_aload_n Z dX10_readsRef_81 rfl 0 rfl ?_
    refine z_aload_n Z dX10_readsRef_82 rfl 0 rfl ?_
    refine gM_X10_141_0 X dX10_readsRef_83 ?_
    refine z_jnr (P := fun (k : Int → zMem → zO) => ∀ (x0 : Int) (M2 : zMem), k x0 M2 = some (r, M') → z_V p l e R s m args below meth c D A cI cZ 2 (wM cI cZ ad) M' none M2 102 [] [.int (z_I x0), .ref (ad 0)]) h ?_ ?_
    · intro x0 M2 h
      obtain ⟨u_, M3, hf, h⟩ := z_cld h
      refine z_callVv (Wd := wM cI cZ ad) X (c_X10_passes hf) ml_X10_158 yd_X10_passes yw_X10_passes (by omega) (by decide) (rM_0 X) rfl rfl (Nat.le_of_ble_eq_true rfl) ⟨Nat.zero_le _, Nat.zero_le _⟩ dX10_readsRef_102 ?_
      exact z_vret X hr hlk dX10_readsRef_105 h
    · intro k1 hk1 h
      refine z_jnr (P := fun (k : zMem → zO) => ∀ (M4 : zMem), k M4 = some (r, M') → z_V p l e R s m args below meth c D A cI cZ 2 (wM cI cZ ad) M' none M4 97 [] [.ref (ad 0)]) h ?_ ?_
      · intro M4 h
        refine z_iconst Z dX10_readsRef_97 ?_
        refine z_goto (tgt := 102) Z dX10_readsRef_98 (by decide) ?_
        refine z_sub [] rfl ?_
        exact hk1 1 M4 h
      · intro k2 hk2 h
        refine z_if_ne (tgt := 97) Z dX10_readsRef_86 (by decide) h (fun h => ?_) (fun h => ?_)
        · refine z_sub [] rfl ?_
          exact hk2 M1 h
        · refine z_aload_n Z dX10_readsRef_89 rfl 0 rfl ?_
          refine gM_X10_116_0 X dX10_readsRef_90 ?_
          refine z_iconst Z dX10_readsRef_93 ?_
          refine z_icmp_ne (tgt := 101) Z dX10_readsRef_94 (by decide) h (fun h => ?_) (fun h => ?_)
          · refine z_iconst Z dX10_readsRef_101 ?_
            refine z_sub [] rfl ?_
            exact hk1 0 M1 h
          · refine z_sub [] rfl ?_
            exact hk2 M1 h
  · intro k0 hk0 h
    refine z_if_ne (tgt := 81) Z dX10_readsRef_4 (by decide) h (fun h => ?_) (fun h => ?_)
    · refine z_sub [0] rfl ?_
      exact hk0 M h
    · refine z_aload_n Z dX10_readsRef_7 rfl 0 rfl ?_
      refine gM_X10_116_0 X dX10_readsRef_8 ?_
      refine z_iconst Z dX10_readsRef_11 ?_
      refine z_icmp_ne (tgt := 81) Z dX10_readsRef_12 (by decide) h (fun h => ?_) (fun h => ?_)
      · refine z_sub [0] rfl ?_
        exact hk0 M h
      · refine z_aload_n Z dX10_readsRef_15 rfl 0 rfl ?_
        refine gM_X10_32_0 X dX10_readsRef_16 ?_
        refine z_aload_n Z dX10_readsRef_19 rfl 0 rfl ?_
        refine gM_X10_194_0 X dX10_readsRef_20 ?_
        refine z_aload_n Z dX10_readsRef_23 rfl 0 rfl ?_
        refine gM_X10_107_0 X dX10_readsRef_24 ?_
        refine srM_7 X dX10_readsRef_27 h (fun M5 h => ?_)
        refine z_aload_n Z dX10_readsRef_28 rfl 0 rfl ?_
        refine gM_X10_35_0 X dX10_readsRef_29 ?_
        refine z_aload_n Z dX10_readsRef_32 rfl 0 rfl ?_
        refine gM_X10_194_0 X dX10_readsRef_33 ?_
        refine z_aload_n Z dX10_readsRef_36 rfl 0 rfl ?_
        refine gM_X10_100_0 X dX10_readsRef_37 ?_
        refine z_aload_n Z dX10_readsRef_40 rfl 0 rfl ?_
        refine gM_X10_107_0 X dX10_readsRef_41 ?_
        refine z_isub Z dX10_readsRef_44 ?_
        refine srM_8 X dX10_readsRef_45 h (fun M6 h => ?_)
        refine z_aload_n Z dX10_readsRef_46 rfl 0 rfl ?_
        refine gM_X10_38_0 X dX10_readsRef_47 ?_
        refine z_aload_n Z dX10_readsRef_50 rfl 0 rfl ?_
        refine gM_X10_194_0 X dX10_readsRef_51 ?_
        refine z_aload_n Z dX10_readsRef_54 rfl 0 rfl ?_
        refine gM_X10_7_0 X dX10_readsRef_55 ?_
        refine z_iconst Z dX10_readsRef_58 ?_
        refine ldM_1 X dX10_readsRef_59 h (fun x1 h => ?_)
        refine srM_9 X dX10_readsRef_60 h (fun M7 h => ?_)
        refine z_aload_n Z dX10_readsRef_61 rfl 0 rfl ?_
        refine gM_X10_41_0 X dX10_readsRef_62 ?_
        refine z_aload_n Z dX10_readsRef_65 rfl 0 rfl ?_
        refine gM_X10_194_0 X dX10_readsRef_66 ?_
        refine z_iload_n Z dX10_readsRef_69 rfl 1 rfl ?_
        refine srM_10 X dX10_readsRef_70 h (fun M8 h => ?_)
        refine z_aload_n Z dX10_readsRef_71 rfl 0 rfl ?_
        refine z_dup Z dX10_readsRef_72 rfl ?_
        refine gM_X10_194_0 X dX10_readsRef_73 ?_
        refine z_iconst Z dX10_readsRef_76 ?_
        refine z_iadd Z dX10_readsRef_77 ?_
        refine pM_X10_194_0 X dX10_readsRef_78 h (fun M9 h => ?_)
        refine z_sub [0] rfl ?_
        exact hk0 M9 h
set_option maxRecDepth 100000 in
set_option maxHeartbeats 4000000 in
theorem c_X10_readsOp {l : Launch} {D : va_G} {cI cZ : ClassId} {ad adK adV : Nat → Nat} {N : Nat} {M M' : zMem} {r : Int} (h : Model_readsOp N M = some (r, M')) : z_Ct (wM cI cZ ad) D cI cZ adK adV l yX10_readsOp cX10_readsOp 2 none 10 [.ref (ad 0)] M M' none := by
  unfold Model_readsOp at h
  refine z_entry (own := RX10) rfl (by decide) (Nat.le_of_ble_eq_true rfl) ?_
  intro p e s m args below meth c R A X hr hlk
  have Z := X.1
  refine z_sub (lv' := [(0, .ref (ad 0))]) [0] rfl ?_
  refine z_aload_n Z dX10_readsOp_0 rfl 0 rfl ?_
  refine gM_X10_113_0 X dX10_readsOp_1 ?_
  refine z_nmI h (fun v1_ h => ?_)
  refine z_istore_n (lv' := [(1, .int (z_I v1_)), (0, .ref (ad 0))]) Z dX10_readsOp_4 rfl (by decide) rfl ?_
  refine z_aload_n Z dX10_readsOp_5 rfl 1 rfl ?_
  refine z_iload_n Z dX10_readsOp_6 rfl 0 rfl ?_
  refine z_i2l Z dX10_readsOp_7 h (fun x0 h => ?_)
  refine z_lconst (x := 0) Z dX10_readsOp_8 rfl ?_
  refine z_ldc2 Z dX10_readsOp_9 cn_X10_197 ?_
  obtain ⟨r_, M1, hf, h⟩ := z_cld h
  refine z_callSi (Wd := wM cI cZ ad) X (c_X10_in hf) ml_X10_96 yd_X10_in yw_X10_in (by omega) (by decide) rfl rfl (Nat.le_of_ble_eq_true rfl) ⟨Nat.zero_le _, Nat.zero_le _⟩ dX10_readsOp_12 ?_
  obtain ⟨u_, M2, hf1, h⟩ := z_cld h
  refine z_callVv (Wd := wM cI cZ ad) X (c_X10_passes hf1) ml_X10_158 yd_X10_passes yw_X10_passes (by omega) (by decide) (rM_0 X) rfl rfl (Nat.le_of_ble_eq_true rfl) ⟨Nat.zero_le _, Nat.zero_le _⟩ dX10_readsOp_15 ?_
  refine z_aload_n Z dX10_readsOp_18 rfl 1 rfl ?_
  refine gM_X10_7_0 X dX10_readsOp_19 ?_
  refine z_bipush Z dX10_readsOp_22 rfl ?_
  refine z_aload_n Z dX10_readsOp_24 rfl 1 rfl ?_
  refine gM_X10_7_0 X dX10_readsOp_25 ?_
  refine z_iconst Z dX10_readsOp_28 ?_
  refine ldM_1 X dX10_readsOp_29 h (fun x1 h => ?_)
  refine z_iadd Z dX10_readsOp_30 ?_
  refine z_iload_n Z dX10_readsOp_31 rfl 0 rfl ?_
  refine srM_1 X dX10_readsOp_32 h (fun M3 h => ?_)
  refine z_aload_n Z dX10_readsOp_33 rfl 1 rfl ?_
  refine gM_X10_141_0 X dX10_readsOp_34 ?_
  refine z_if_ne (tgt := 46) Z dX10_readsOp_37 (by decide) h (fun h => ?_) (fun h => ?_)
  · exact z_vret X hr hlk dX10_readsOp_46 h
  · refine z_iload_n Z dX10_readsOp_40 rfl 0 rfl ?_
    refine z_bipush Z dX10_readsOp_41 rfl ?_
    refine z_icmp_ne (tgt := 47) Z dX10_readsOp_43 (by decide) h (fun h => ?_) (fun h => ?_)
    · refine z_aload_n Z dX10_readsOp_47 rfl 1 rfl ?_
      refine z_iconst Z dX10_readsOp_48 ?_
      obtain ⟨u_1, M4, hf2, h⟩ := z_cld h
      refine z_callVv (Wd := wM cI cZ ad) X (c_X10_readsRef hf2) ml_X10_199 yd_X10_readsRef yw_X10_readsRef (by omega) (by decide) (rM_0 X) rfl rfl (Nat.le_of_ble_eq_true rfl) ⟨Nat.zero_le _, Nat.zero_le _⟩ dX10_readsOp_49 ?_
      refine z_iload_n Z dX10_readsOp_52 rfl 0 rfl ?_
      refine z_bipush Z dX10_readsOp_53 rfl ?_
      refine z_jnr (P := fun (k : zMem → zO) => ∀ (M5 : zMem), k M5 = some (r, M') → z_V p l e R s m args below meth c D A cI cZ 2 (wM cI cZ ad) M' none M5 86 [(0, .ref (ad 0))] []) h ?_ ?_
      · intro M5 h
        refine z_aload_n Z dX10_readsOp_86 rfl 0 rfl ?_
        refine z_iconst Z dX10_readsOp_87 ?_
        obtain ⟨u_2, M6, hf3, h⟩ := z_cld h
        refine z_callVv (Wd := wM cI cZ ad) X (c_X10_readsRef hf3) ml_X10_199 yd_X10_readsRef yw_X10_readsRef (by omega) (by decide) (rM_0 X) rfl rfl (Nat.le_of_ble_eq_true rfl) ⟨Nat.zero_le _, Nat.zero_le _⟩ dX10_readsOp_88 ?_
        exact z_vret X hr hlk dX10_readsOp_91 h
      · intro k0 hk0 h
        refine z_icmp_ne (tgt := 86) Z dX10_readsOp_55 (by decide) h (fun h => ?_) (fun h => ?_)
        · refine z_sub [1] rfl ?_
          exact hk0 M4 h
        · refine z_aload_n Z dX10_readsOp_58 rfl 1 rfl ?_
          refine gM_X10_141_0 X dX10_readsOp_59 ?_
          refine z_if_ne (tgt := 86) Z dX10_readsOp_62 (by decide) h (fun h => ?_) (fun h => ?_)
          · refine z_sub [1] rfl ?_
            exact hk0 M4 h
          · refine z_aload_n Z dX10_readsOp_65 rfl 1 rfl ?_
            refine gM_X10_7_0 X dX10_readsOp_66 ?_
            refine z_bipush Z dX10_readsOp_69 rfl ?_
            refine z_aload_n Z dX10_readsOp_71 rfl 1 rfl ?_
            refine gM_X10_7_0 X dX10_readsOp_72 ?_
            refine z_iconst Z dX10_readsOp_75 ?_
            refine ldM_1 X dX10_readsOp_76 h (fun x2 h => ?_)
            refine z_iadd Z dX10_readsOp_77 ?_
            refine z_aload_n Z dX10_readsOp_78 rfl 1 rfl ?_
            refine z_iconst Z dX10_readsOp_79 ?_
            refine z_bipush Z dX10_readsOp_80 rfl ?_
            obtain ⟨r_1, M7, hf4, h⟩ := z_cld h
            refine z_callVi (Wd := wM cI cZ ad) X (c_X10_reads hf4) ml_X10_166 yd_X10_reads yw_X10_reads (by omega) (by decide) (rM_0 X) rfl rfl (Nat.le_of_ble_eq_true rfl) ⟨Nat.zero_le _, Nat.zero_le _⟩ dX10_readsOp_82 ?_
            refine srM_1 X dX10_readsOp_85 h (fun M8 h => ?_)
            refine z_sub [1] rfl ?_
            exact hk0 M8 h
    · exact z_vret X hr hlk dX10_readsOp_46 h
set_option maxRecDepth 100000 in
set_option maxHeartbeats 4000000 in
theorem c_X10_readsItem {l : Launch} {D : va_G} {cI cZ : ClassId} {ad adK adV : Nat → Nat} {N : Nat} {M M' : zMem} {r : Int} (h : Model_readsItem N M = some (r, M')) : z_Ct (wM cI cZ ad) D cI cZ adK adV l yX10_readsItem cX10_readsItem 5 none 11 [.ref (ad 0)] M M' none := by
  unfold Model_readsItem at h
  refine z_entry (own := RX10) rfl (by decide) (Nat.le_of_ble_eq_true rfl) ?_
  intro p e s m args below meth c R A X hr hlk
  have Z := X.1
  refine z_sub (lv' := [(0, .ref (ad 0))]) [0] rfl ?_
  refine z_aload_n Z dX10_readsItem_0 rfl 0 rfl ?_
  refine gM_X10_113_0 X dX10_readsItem_1 ?_
  refine z_nmI h (fun v1_ h => ?_)
  refine z_istore_n (lv' := [(1, .int (z_I v1_)), (0, .ref (ad 0))]) Z dX10_readsItem_4 rfl (by decide) rfl ?_
  refine z_iload_n Z dX10_readsItem_5 rfl 0 rfl ?_
  refine z_bipush Z dX10_readsItem_6 rfl ?_
  refine z_jnr (P := fun (k : zMem → zO) => ∀ (M1 : zMem), k M1 = some (r, M') → z_V p l e R s m args below meth c D A cI cZ 5 (wM cI cZ ad) M' none M1 87 [(0, .ref (ad 0)), (1, .int (z_I v1_))] []) h ?_ ?_
  · intro M1 h
    refine z_aload_n Z dX10_readsItem_87 rfl 0 rfl ?_
    refine gM_X10_141_0 X dX10_readsItem_88 ?_
    refine z_if_eq (tgt := 95) Z dX10_readsItem_91 (by decide) h (fun h => ?_) (fun h => ?_)
    · refine z_aload_n Z dX10_readsItem_95 rfl 0 rfl ?_
      obtain ⟨u_, M2, hf, h⟩ := z_cld h
      refine z_callVv (Wd := wM cI cZ ad) X (c_X10_next hf) ml_X10_155 yd_X10_next yw_X10_next (by omega) (by decide) (rM_0 X) rfl rfl (Nat.le_of_ble_eq_true rfl) ⟨Nat.zero_le _, Nat.zero_le _⟩ dX10_readsItem_96 ?_
      refine z_aload_n Z dX10_readsItem_99 rfl 0 rfl ?_
      obtain ⟨u_1, M3, hf1, h⟩ := z_cld h
      refine z_callVv (Wd := wM cI cZ ad) X (c_X10_readsName hf1) ml_X10_208 yd_X10_readsName yw_X10_readsName (by omega) (by decide) (rM_0 X) rfl rfl (Nat.le_of_ble_eq_true rfl) ⟨Nat.zero_le _, Nat.zero_le _⟩ dX10_readsItem_100 ?_
      refine z_aload_n Z dX10_readsItem_103 rfl 0 rfl ?_
      refine gM_X10_7_0 X dX10_readsItem_104 ?_
      refine z_iconst Z dX10_readsItem_107 ?_
      refine ldM_1 X dX10_readsItem_108 h (fun x0 h => ?_)
      refine z_istore_n (lv' := [(2, .int (z_I x0)), (0, .ref (ad 0)), (1, .int (z_I v1_))]) Z dX10_readsItem_109 rfl (by decide) rfl ?_
      refine z_aload_n Z dX10_readsItem_110 rfl 1 rfl ?_
      refine gM_X10_7_0 X dX10_readsItem_111 ?_
      refine z_bipush Z dX10_readsItem_114 rfl ?_
      refine z_iload_n Z dX10_readsItem_116 rfl 0 rfl ?_
      refine z_iadd Z dX10_readsItem_117 ?_
      refine z_iload_n Z dX10_readsItem_118 rfl 2 rfl ?_
      refine z_bipush Z dX10_readsItem_119 rfl ?_
      refine z_jnr (P := fun (k : Int → Int → zMem → zO) => ∀ (x1 x2 : Int) (M4 : zMem), k x1 x2 M4 = some (r, M') → z_V p l e R s m args below meth c D A cI cZ 5 (wM cI cZ ad) M' none M4 129 [(0, .ref (ad 0)), (1, .int (z_I v1_)), (2, .int (z_I x0))] [.int (z_I x1), .int (z_I x2), .ref (ad 1)]) h ?_ ?_
      · intro x1 x2 M4 h
        refine srM_1 X dX10_readsItem_129 h (fun M5 h => ?_)
        refine z_aload_n Z dX10_readsItem_130 rfl 0 rfl ?_
        refine gM_X10_141_0 X dX10_readsItem_131 ?_
        refine z_jnr (P := fun (k : zMem → zO) => ∀ (M6 : zMem), k M6 = some (r, M') → z_V p l e R s m args below meth c D A cI cZ 5 (wM cI cZ ad) M' none M6 203 [(0, .ref (ad 0)), (1, .int (z_I v1_)), (2, .int (z_I x0))] []) h ?_ ?_
        · intro M6 h
          refine z_aload_n Z dX10_readsItem_203 rfl 0 rfl ?_
          refine gM_X10_7_0 X dX10_readsItem_204 ?_
          refine z_sipush Z dX10_readsItem_207 rfl ?_
          refine z_iload_n Z dX10_readsItem_210 rfl 2 rfl ?_
          refine z_iadd Z dX10_readsItem_211 ?_
          refine z_iconst Z dX10_readsItem_212 ?_
          refine srM_1 X dX10_readsItem_213 h (fun M7 h => ?_)
          refine z_aload_n Z dX10_readsItem_214 rfl 0 rfl ?_
          refine gM_X10_141_0 X dX10_readsItem_215 ?_
          refine z_jnr (P := fun (k : zMem → zO) => ∀ (M8 : zMem), k M8 = some (r, M') → z_V p l e R s m args below meth c D A cI cZ 5 (wM cI cZ ad) M' none M8 312 [(0, .ref (ad 0)), (1, .int (z_I v1_))] []) h ?_ ?_
          · intro M8 h
            refine z_aload_n Z dX10_readsItem_312 rfl 0 rfl ?_
            refine z_dup Z dX10_readsItem_313 rfl ?_
            refine gM_X10_202_0 X dX10_readsItem_314 ?_
            refine z_iload_n Z dX10_readsItem_317 rfl 1 rfl ?_
            refine z_bipush Z dX10_readsItem_318 rfl ?_
            refine z_jnr (P := fun (k : Int → Int → zMem → zO) => ∀ (x3 x4 : Int) (M9 : zMem), k x3 x4 M9 = some (r, M') → z_V p l e R s m args below meth c D A cI cZ 5 (wM cI cZ ad) M' none M9 328 [(0, .ref (ad 0)), (1, .int (z_I v1_))] [.int (z_I x3), .int (z_I x4), .ref (ad 0)]) h ?_ ?_
            · intro x3 x4 M9 h
              refine z_iadd Z dX10_readsItem_328 ?_
              refine pM_X10_202_0 X dX10_readsItem_329 h (fun M10 h => ?_)
              refine z_aload_n Z dX10_readsItem_332 rfl 0 rfl ?_
              refine z_dup Z dX10_readsItem_333 rfl ?_
              refine gM_X10_205_0 X dX10_readsItem_334 ?_
              refine z_iload_n Z dX10_readsItem_337 rfl 1 rfl ?_
              refine z_bipush Z dX10_readsItem_338 rfl ?_
              refine z_jnr (P := fun (k : Int → Int → zMem → zO) => ∀ (x5 x6 : Int) (M11 : zMem), k x5 x6 M11 = some (r, M') → z_V p l e R s m args below meth c D A cI cZ 5 (wM cI cZ ad) M' none M11 348 [(0, .ref (ad 0))] [.int (z_I x5), .int (z_I x6), .ref (ad 0)]) h ?_ ?_
              · intro x5 x6 M11 h
                refine z_iadd Z dX10_readsItem_348 ?_
                refine pM_X10_205_0 X dX10_readsItem_349 h (fun M12 h => ?_)
                refine z_aload_n Z dX10_readsItem_352 rfl 0 rfl ?_
                refine gM_X10_7_0 X dX10_readsItem_353 ?_
                refine z_iconst Z dX10_readsItem_356 ?_
                refine z_dup2 Z dX10_readsItem_357 rfl rfl ?_
                refine ldM_1 X dX10_readsItem_358 h (fun x7 h => ?_)
                refine z_iconst Z dX10_readsItem_359 ?_
                refine z_iadd Z dX10_readsItem_360 ?_
                refine srM_1 X dX10_readsItem_361 h (fun M13 h => ?_)
                exact z_vret X hr hlk dX10_readsItem_362 h
              · intro k5 hk5 h
                refine z_icmp_ne (tgt := 347) Z dX10_readsItem_340 (by decide) h (fun h => ?_) (fun h => ?_)
                · refine z_iconst Z dX10_readsItem_347 ?_
                  refine z_sub [0] rfl ?_
                  exact hk5 0 (M10 0 23) M10 h
                · refine z_iconst Z dX10_readsItem_343 ?_
                  refine z_goto (tgt := 348) Z dX10_readsItem_344 (by decide) ?_
                  refine z_sub [0] rfl ?_
                  exact hk5 1 (M10 0 23) M10 h
            · intro k4 hk4 h
              refine z_icmp_ne (tgt := 327) Z dX10_readsItem_320 (by decide) h (fun h => ?_) (fun h => ?_)
              · refine z_iconst Z dX10_readsItem_327 ?_
                refine z_sub [0, 1] rfl ?_
                exact hk4 0 (M8 0 22) M8 h
              · refine z_iconst Z dX10_readsItem_323 ?_
                refine z_goto (tgt := 328) Z dX10_readsItem_324 (by decide) ?_
                refine z_sub [0, 1] rfl ?_
                exact hk4 1 (M8 0 22) M8 h
          · intro k3 hk3 h
            refine z_if_ne (tgt := 312) Z dX10_readsItem_218 (by decide) h (fun h => ?_) (fun h => ?_)
            · refine z_sub [0, 1] rfl ?_
              exact hk3 M7 h
            · refine z_aload_n Z dX10_readsItem_221 rfl 0 rfl ?_
              refine gM_X10_113_0 X dX10_readsItem_222 ?_
              refine z_bipush Z dX10_readsItem_225 rfl ?_
              refine z_icmp_ne (tgt := 312) Z dX10_readsItem_227 (by decide) h (fun h => ?_) (fun h => ?_)
              · refine z_sub [0, 1] rfl ?_
                exact hk3 M7 h
              · refine z_aload_n Z dX10_readsItem_230 rfl 0 rfl ?_
                obtain ⟨u_2, M14, hf2, h⟩ := z_cld h
                refine z_callVv (Wd := wM cI cZ ad) X (c_X10_next hf2) ml_X10_155 yd_X10_next yw_X10_next (by omega) (by decide) (rM_0 X) rfl rfl (Nat.le_of_ble_eq_true rfl) ⟨Nat.zero_le _, Nat.zero_le _⟩ dX10_readsItem_231 ?_
                refine z_aload_n Z dX10_readsItem_234 rfl 0 rfl ?_
                refine gM_X10_116_0 X dX10_readsItem_235 ?_
                refine z_iconst Z dX10_readsItem_238 ?_
                refine z_jnr (P := fun (k : zMem → zO) => ∀ (M15 : zMem), k M15 = some (r, M') → z_V p l e R s m args below meth c D A cI cZ 5 (wM cI cZ ad) M' none M15 278 [(0, .ref (ad 0)), (1, .int (z_I v1_)), (2, .int (z_I x0))] []) h ?_ ?_
                · intro M15 h
                  refine z_aload_n Z dX10_readsItem_278 rfl 0 rfl ?_
                  refine gM_X10_141_0 X dX10_readsItem_279 ?_
                  refine z_jnr (P := fun (k : Int → zMem → zO) => ∀ (x8 : Int) (M16 : zMem), k x8 M16 = some (r, M') → z_V p l e R s m args below meth c D A cI cZ 5 (wM cI cZ ad) M' none M16 300 [(0, .ref (ad 0)), (1, .int (z_I v1_)), (2, .int (z_I x0))] [.int (z_I x8)]) h ?_ ?_
                  · intro x8 M16 h
                    refine z_istore_n (lv' := [(3, .int (z_I x8)), (0, .ref (ad 0)), (1, .int (z_I v1_)), (2, .int (z_I x0))]) Z dX10_readsItem_300 rfl (by decide) rfl ?_
                    refine z_aload_n Z dX10_readsItem_301 rfl 1 rfl ?_
                    refine gM_X10_7_0 X dX10_readsItem_302 ?_
                    refine z_sipush Z dX10_readsItem_305 rfl ?_
                    refine z_iload_n Z dX10_readsItem_308 rfl 3 rfl ?_
                    refine z_iadd Z dX10_readsItem_309 ?_
                    refine z_iload_n Z dX10_readsItem_310 rfl 0 rfl ?_
                    refine srM_1 X dX10_readsItem_311 h (fun M17 h => ?_)
                    refine z_sub [1, 2] rfl ?_
                    exact hk3 M17 h
                  · intro k7 hk7 h
                    refine z_if_eq (tgt := 289) Z dX10_readsItem_282 (by decide) h (fun h => ?_) (fun h => ?_)
                    · refine z_aload_n Z dX10_readsItem_289 rfl 0 rfl ?_
                      refine z_iconst Z dX10_readsItem_290 ?_
                      refine z_aload_n Z dX10_readsItem_291 rfl 0 rfl ?_
                      obtain ⟨r_, M18, hf3, h⟩ := z_cld h
                      refine z_callVi (Wd := wM cI cZ ad) X (c_X10_many hf3) ml_X10_218 yd_X10_many yw_X10_many (by omega) (by decide) (rM_0 X) rfl rfl (Nat.le_of_ble_eq_true rfl) ⟨Nat.zero_le _, Nat.zero_le _⟩ dX10_readsItem_292 ?_
                      refine z_iconst Z dX10_readsItem_295 ?_
                      refine z_isub Z dX10_readsItem_296 ?_
                      obtain ⟨r_1, M19, hf4, h⟩ := z_cld h
                      refine z_callVi (Wd := wM cI cZ ad) X (c_X10_reads hf4) ml_X10_166 yd_X10_reads yw_X10_reads (by omega) (by decide) (rM_0 X) rfl rfl (Nat.le_of_ble_eq_true rfl) ⟨Nat.zero_le _, Nat.zero_le _⟩ dX10_readsItem_297 ?_
                      refine z_sub [0, 1, 2] rfl ?_
                      exact hk7 r_1 M19 h
                    · refine z_iconst Z dX10_readsItem_285 ?_
                      refine z_goto (tgt := 300) Z dX10_readsItem_286 (by decide) ?_
                      refine z_sub [0, 1, 2] rfl ?_
                      exact hk7 0 M15 h
                · intro k6 hk6 h
                  refine z_icmp_ne (tgt := 278) Z dX10_readsItem_239 (by decide) h (fun h => ?_) (fun h => ?_)
                  · refine z_sub [0, 1, 2] rfl ?_
                    exact hk6 M14 h
                  · refine z_aload_n Z dX10_readsItem_242 rfl 0 rfl ?_
                    refine gM_X10_110_0 X dX10_readsItem_243 ?_
                    refine z_i2l Z dX10_readsItem_246 h (fun x9 h => ?_)
                    refine z_lconst (x := 0) Z dX10_readsItem_247 rfl ?_
                    refine z_aload_n Z dX10_readsItem_248 rfl 0 rfl ?_
                    obtain ⟨r_2, M20, hf5, h⟩ := z_cld h
                    refine z_callVi (Wd := wM cI cZ ad) X (c_X10_many hf5) ml_X10_218 yd_X10_many yw_X10_many (by omega) (by decide) (rM_0 X) rfl rfl (Nat.le_of_ble_eq_true rfl) ⟨Nat.zero_le _, Nat.zero_le _⟩ dX10_readsItem_249 ?_
                    refine z_iconst Z dX10_readsItem_252 ?_
                    refine z_isub Z dX10_readsItem_253 ?_
                    refine z_i2l Z dX10_readsItem_254 h (fun x10 h => ?_)
                    obtain ⟨r_3, M21, hf6, h⟩ := z_cld h
                    refine z_callSi (Wd := wM cI cZ ad) X (c_X10_in hf6) ml_X10_96 yd_X10_in yw_X10_in (by omega) (by decide) rfl rfl (Nat.le_of_ble_eq_true rfl) ⟨Nat.zero_le _, Nat.zero_le _⟩ dX10_readsItem_255 ?_
                    refine z_if_eq (tgt := 278) Z dX10_readsItem_258 (by decide) h (fun h => ?_) (fun h => ?_)
                    · refine z_sub [0, 1, 2] rfl ?_
                      exact hk6 M21 h
                    · refine z_aload_n Z dX10_readsItem_261 rfl 0 rfl ?_
                      refine z_aload_n Z dX10_readsItem_262 rfl 0 rfl ?_
                      refine gM_X10_110_0 X dX10_readsItem_263 ?_
                      obtain ⟨r_4, M22, hf7, h⟩ := z_cld h
                      refine z_callVi (Wd := wM cI cZ ad) X (c_X10_fixedAt hf7) ml_X10_221 yd_X10_fixedAt yw_X10_fixedAt (by omega) (by decide) (rM_0 X) rfl rfl (Nat.le_of_ble_eq_true rfl) ⟨Nat.zero_le _, Nat.zero_le _⟩ dX10_readsItem_266 ?_
                      refine z_iconst Z dX10_readsItem_269 ?_
                      refine z_icmp_eq (tgt := 278) Z dX10_readsItem_270 (by decide) h (fun h => ?_) (fun h => ?_)
                      · refine z_sub [0, 1, 2] rfl ?_
                        exact hk6 M22 h
                      · refine z_aload_n Z dX10_readsItem_273 rfl 0 rfl ?_
                        refine z_iconst Z dX10_readsItem_274 ?_
                        obtain ⟨u_3, M23, hf8, h⟩ := z_cld h
                        refine z_callVv (Wd := wM cI cZ ad) X (c_X10_faults hf8) ml_X10_151 yd_X10_faults yw_X10_faults (by omega) (by decide) (rM_0 X) rfl rfl (Nat.le_of_ble_eq_true rfl) ⟨Nat.zero_le _, Nat.zero_le _⟩ dX10_readsItem_275 ?_
                        refine z_sub [0, 1, 2] rfl ?_
                        exact hk6 M23 h
        · intro k2 hk2 h
          refine z_jnr (P := fun (k : zMem → zO) => ∀ (M24 : zMem), k M24 = some (r, M') → z_V p l e R s m args below meth c D A cI cZ 5 (wM cI cZ ad) M' none M24 150 [(0, .ref (ad 0)), (1, .int (z_I v1_)), (2, .int (z_I x0))] []) h ?_ ?_
          · intro M24 h
            refine z_aload_n Z dX10_readsItem_150 rfl 0 rfl ?_
            refine gM_X10_141_0 X dX10_readsItem_151 ?_
            refine z_if_ne (tgt := 203) Z dX10_readsItem_154 (by decide) h (fun h => ?_) (fun h => ?_)
            · refine z_sub [0, 1, 2] rfl ?_
              exact hk2 M24 h
            · refine z_aload_n Z dX10_readsItem_157 rfl 0 rfl ?_
              refine z_bipush Z dX10_readsItem_158 rfl ?_
              obtain ⟨r_5, M25, hf9, h⟩ := z_cld h
              refine z_callVi (Wd := wM cI cZ ad) X (c_X10_isSign hf9) ml_X10_214 yd_X10_isSign yw_X10_isSign (by omega) (by decide) (rM_0 X) rfl rfl (Nat.le_of_ble_eq_true rfl) ⟨Nat.zero_le _, Nat.zero_le _⟩ dX10_readsItem_160 ?_
              refine z_istore_n (lv' := [(3, .int (z_I r_5)), (0, .ref (ad 0)), (1, .int (z_I v1_)), (2, .int (z_I x0))]) Z dX10_readsItem_163 rfl (by decide) rfl ?_
              refine z_iload_n Z dX10_readsItem_164 rfl 0 rfl ?_
              refine z_jnr (P := fun (k : zMem → zO) => ∀ (M26 : zMem), k M26 = some (r, M') → z_V p l e R s m args below meth c D A cI cZ 5 (wM cI cZ ad) M' none M26 172 [(0, .ref (ad 0)), (1, .int (z_I v1_)), (2, .int (z_I x0)), (3, .int (z_I r_5))] []) h ?_ ?_
              · intro M26 h
                refine z_aload_n Z dX10_readsItem_172 rfl 0 rfl ?_
                refine z_iconst Z dX10_readsItem_173 ?_
                refine z_sipush Z dX10_readsItem_174 rfl ?_
                obtain ⟨r_6, M27, hf10, h⟩ := z_cld h
                refine z_callVi (Wd := wM cI cZ ad) X (c_X10_reads hf10) ml_X10_166 yd_X10_reads yw_X10_reads (by omega) (by decide) (rM_0 X) rfl rfl (Nat.le_of_ble_eq_true rfl) ⟨Nat.zero_le _, Nat.zero_le _⟩ dX10_readsItem_177 ?_
                refine z_istore (lv' := [(4, .int (z_I r_6)), (0, .ref (ad 0)), (1, .int (z_I v1_)), (2, .int (z_I x0)), (3, .int (z_I r_5))]) Z dX10_readsItem_180 (by decide) rfl ?_
                refine z_aload_n Z dX10_readsItem_182 rfl 1 rfl ?_
                refine gM_X10_7_0 X dX10_readsItem_183 ?_
                refine z_bipush Z dX10_readsItem_186 rfl ?_
                refine z_iload_n Z dX10_readsItem_188 rfl 3 rfl ?_
                refine z_iadd Z dX10_readsItem_189 ?_
                refine z_iload_n Z dX10_readsItem_190 rfl 4 rfl ?_
                refine z_jnr (P := fun (k : Int → Int → zMem → zO) => ∀ (x11 x12 : Int) (M28 : zMem), k x11 x12 M28 = some (r, M') → z_V p l e R s m args below meth c D A cI cZ 5 (wM cI cZ ad) M' none M28 202 [(0, .ref (ad 0)), (1, .int (z_I v1_)), (2, .int (z_I x0))] [.int (z_I x11), .int (z_I x12), .ref (ad 1)]) h ?_ ?_
                · intro x11 x12 M28 h
                  refine srM_1 X dX10_readsItem_202 h (fun M29 h => ?_)
                  refine z_sub [0, 1, 2] rfl ?_
                  exact hk2 M29 h
                · intro k10 hk10 h
                  refine z_if_eq (tgt := 200) Z dX10_readsItem_191 (by decide) h (fun h => ?_) (fun h => ?_)
                  · refine z_iload Z dX10_readsItem_200 0 rfl ?_
                    refine z_sub [1, 2, 3] rfl ?_
                    exact hk10 r_6 (29 + x0) M27 h
                  · refine z_iload Z dX10_readsItem_194 0 rfl ?_
                    refine z_ineg Z dX10_readsItem_196 ?_
                    refine z_goto (tgt := 202) Z dX10_readsItem_197 (by decide) ?_
                    refine z_sub [1, 2, 3] rfl ?_
                    exact hk10 (-r_6) (29 + x0) M27 h
              · intro k9 hk9 h
                refine z_if_eq (tgt := 172) Z dX10_readsItem_165 (by decide) h (fun h => ?_) (fun h => ?_)
                · refine z_sub [1, 2, 3, 0] rfl ?_
                  exact hk9 M25 h
                · refine z_aload_n Z dX10_readsItem_168 rfl 1 rfl ?_
                  obtain ⟨u_4, M30, hf11, h⟩ := z_cld h
                  refine z_callVv (Wd := wM cI cZ ad) X (c_X10_next hf11) ml_X10_155 yd_X10_next yw_X10_next (by omega) (by decide) (rM_0 X) rfl rfl (Nat.le_of_ble_eq_true rfl) ⟨Nat.zero_le _, Nat.zero_le _⟩ dX10_readsItem_169 ?_
                  refine z_sub [1, 2, 3, 0] rfl ?_
                  exact hk9 M30 h
          · intro k8 hk8 h
            refine z_if_ne (tgt := 150) Z dX10_readsItem_134 (by decide) h (fun h => ?_) (fun h => ?_)
            · refine z_sub [0, 1, 2] rfl ?_
              exact hk8 M5 h
            · refine z_iload_n Z dX10_readsItem_137 rfl 1 rfl ?_
              refine z_bipush Z dX10_readsItem_138 rfl ?_
              refine z_icmp_ne (tgt := 150) Z dX10_readsItem_140 (by decide) h (fun h => ?_) (fun h => ?_)
              · refine z_sub [0, 1, 2] rfl ?_
                exact hk8 M5 h
              · refine z_aload_n Z dX10_readsItem_143 rfl 0 rfl ?_
                obtain ⟨u_5, M31, hf12, h⟩ := z_cld h
                refine z_callVv (Wd := wM cI cZ ad) X (c_X10_readsOp hf12) ml_X10_211 yd_X10_readsOp yw_X10_readsOp (by omega) (by decide) (rM_0 X) rfl rfl (Nat.le_of_ble_eq_true rfl) ⟨Nat.zero_le _, Nat.zero_le _⟩ dX10_readsItem_144 ?_
                refine z_goto (tgt := 203) Z dX10_readsItem_147 (by decide) ?_
                refine z_sub [0, 1, 2] rfl ?_
                exact hk2 M31 h
      · intro k1 hk1 h
        refine z_icmp_ne (tgt := 128) Z dX10_readsItem_121 (by decide) h (fun h => ?_) (fun h => ?_)
        · refine z_iconst Z dX10_readsItem_128 ?_
          refine z_sub [1, 2, 0] rfl ?_
          exact hk1 0 (9 + x0) M3 h
        · refine z_iconst Z dX10_readsItem_124 ?_
          refine z_goto (tgt := 129) Z dX10_readsItem_125 (by decide) ?_
          refine z_sub [1, 2, 0] rfl ?_
          exact hk1 1 (9 + x0) M3 h
    · exact z_vret X hr hlk dX10_readsItem_94 h
  · intro k0 hk0 h
    refine z_jnr (P := fun (k : zMem → zO) => ∀ (M32 : zMem), k M32 = some (r, M') → z_V p l e R s m args below meth c D A cI cZ 5 (wM cI cZ ad) M' none M32 25 [(0, .ref (ad 0)), (1, .int (z_I v1_))] []) h ?_ ?_
    · intro M32 h
      refine z_iload_n Z dX10_readsItem_25 rfl 1 rfl ?_
      refine z_bipush Z dX10_readsItem_26 rfl ?_
      refine z_jnr (P := fun (k : zMem → zO) => ∀ (M33 : zMem), k M33 = some (r, M') → z_V p l e R s m args below meth c D A cI cZ 5 (wM cI cZ ad) M' none M33 60 [(0, .ref (ad 0)), (1, .int (z_I v1_))] []) h ?_ ?_
      · intro M33 h
        refine z_aload_n Z dX10_readsItem_60 rfl 0 rfl ?_
        refine gM_X10_7_0 X dX10_readsItem_61 ?_
        refine z_iconst Z dX10_readsItem_64 ?_
        refine ldM_1 X dX10_readsItem_65 h (fun x13 h => ?_)
        refine z_aload_n Z dX10_readsItem_66 rfl 0 rfl ?_
        refine gM_X10_7_0 X dX10_readsItem_67 ?_
        refine z_iconst Z dX10_readsItem_70 ?_
        refine ldM_1 X dX10_readsItem_71 h (fun x14 h => ?_)
        refine z_aload_n Z dX10_readsItem_72 rfl 0 rfl ?_
        refine gM_X10_7_0 X dX10_readsItem_73 ?_
        refine z_iconst Z dX10_readsItem_76 ?_
        refine ldM_1 X dX10_readsItem_77 h (fun x15 h => ?_)
        refine z_imul Z dX10_readsItem_78 ?_
        refine z_icmp_ne (tgt := 87) Z dX10_readsItem_79 (by decide) h (fun h => ?_) (fun h => ?_)
        · refine z_sub [0, 1] rfl ?_
          exact hk0 M33 h
        · refine z_aload_n Z dX10_readsItem_82 rfl 0 rfl ?_
          refine z_iconst Z dX10_readsItem_83 ?_
          obtain ⟨u_6, M34, hf13, h⟩ := z_cld h
          refine z_callVv (Wd := wM cI cZ ad) X (c_X10_faults hf13) ml_X10_151 yd_X10_faults yw_X10_faults (by omega) (by decide) (rM_0 X) rfl rfl (Nat.le_of_ble_eq_true rfl) ⟨Nat.zero_le _, Nat.zero_le _⟩ dX10_readsItem_84 ?_
          refine z_sub [0, 1] rfl ?_
          exact hk0 M34 h
      · intro k12 hk12 h
        refine z_jnr (P := fun (k : zMem → zO) => ∀ (M35 : zMem), k M35 = some (r, M') → z_V p l e R s m args below meth c D A cI cZ 5 (wM cI cZ ad) M' none M35 52 [(0, .ref (ad 0)), (1, .int (z_I v1_))] []) h ?_ ?_
        · intro M35 h
          refine z_aload_n Z dX10_readsItem_52 rfl 0 rfl ?_
          refine z_iconst Z dX10_readsItem_53 ?_
          obtain ⟨u_7, M36, hf14, h⟩ := z_cld h
          refine z_callVv (Wd := wM cI cZ ad) X (c_X10_faults hf14) ml_X10_151 yd_X10_faults yw_X10_faults (by omega) (by decide) (rM_0 X) rfl rfl (Nat.le_of_ble_eq_true rfl) ⟨Nat.zero_le _, Nat.zero_le _⟩ dX10_readsItem_54 ?_
          refine z_goto (tgt := 87) Z dX10_readsItem_57 (by decide) ?_
          refine z_sub [0, 1] rfl ?_
          exact hk0 M36 h
        · intro k13 hk13 h
          refine z_icmp_ne (tgt := 43) Z dX10_readsItem_28 (by decide) h (fun h => ?_) (fun h => ?_)
          · refine z_aload_n Z dX10_readsItem_43 rfl 0 rfl ?_
            refine gM_X10_205_0 X dX10_readsItem_44 ?_
            refine z_bipush Z dX10_readsItem_47 rfl ?_
            refine z_icmp_ne (tgt := 60) Z dX10_readsItem_49 (by decide) h (fun h => ?_) (fun h => ?_)
            · refine z_sub [0, 1] rfl ?_
              exact hk12 M32 h
            · refine z_sub [0, 1] rfl ?_
              exact hk13 M32 h
          · refine z_aload_n Z dX10_readsItem_31 rfl 0 rfl ?_
            refine gM_X10_202_0 X dX10_readsItem_32 ?_
            refine z_bipush Z dX10_readsItem_35 rfl ?_
            refine z_icmp_ne (tgt := 60) Z dX10_readsItem_37 (by decide) h (fun h => ?_) (fun h => ?_)
            · refine z_sub [0, 1] rfl ?_
              exact hk12 M32 h
            · refine z_goto (tgt := 52) Z dX10_readsItem_40 (by decide) ?_
              refine z_sub [0, 1] rfl ?_
              exact hk13 M32 h
    · intro k11 hk11 h
      refine z_icmp_eq (tgt := 25) Z dX10_readsItem_8 (by decide) h (fun h => ?_) (fun h => ?_)
      · refine z_sub [1, 0] rfl ?_
        exact hk11 M h
      · refine z_iload_n Z dX10_readsItem_11 rfl 0 rfl ?_
        refine z_bipush Z dX10_readsItem_12 rfl ?_
        refine z_icmp_eq (tgt := 25) Z dX10_readsItem_14 (by decide) h (fun h => ?_) (fun h => ?_)
        · refine z_sub [1, 0] rfl ?_
          exact hk11 M h
        · refine z_aload_n Z dX10_readsItem_17 rfl 1 rfl ?_
          refine z_iconst Z dX10_readsItem_18 ?_
          obtain ⟨u_8, M37, hf15, h⟩ := z_cld h
          refine z_callVv (Wd := wM cI cZ ad) X (c_X10_faults hf15) ml_X10_151 yd_X10_faults yw_X10_faults (by omega) (by decide) (rM_0 X) rfl rfl (Nat.le_of_ble_eq_true rfl) ⟨Nat.zero_le _, Nat.zero_le _⟩ dX10_readsItem_19 ?_
          refine z_goto (tgt := 87) Z dX10_readsItem_22 (by decide) ?_
          refine z_sub [1, 0] rfl ?_
          exact hk0 M37 h
set_option maxRecDepth 100000 in
set_option maxHeartbeats 4000000 in
theorem wModel_resolves_2 {p : Program} {l : Launch} {e : Env} {R : Room} {s : State} {m : MethodId} {args : Array Value} {below : List Frame} {meth : Method} {c : Code} {D : va_G} {A : Nat → Prop} {cI cZ : ClassId} {adK adV ad : Nat → Nat} {r : Int} {M' : zMem} (X : z_X p m c cX10_resolves 7 s args RX10 R 3 D cI cZ A adK adV) (hr : meth.sig.returnType = none) (hlk : meth.locks = false) (N : Nat) (k : zMem → zO) (hk : ∀ (M : zMem), k M = some (r, M') → z_V p l e R s m args below meth c D A cI cZ 7 (wM cI cZ ad) M' none M 201 [] []) : ∀ (n : Nat) (v1 : Int) (M : zMem), Model_resolves_2 N k n v1 M = some (r, M') → z_V p l e R s m args below meth c D A cI cZ 7 (wM cI cZ ad) M' none M 2 [(0, .ref (ad 0)), (1, .int (z_I v1))] [] := by
  have Z := X.1
  intro n
  induction n with
  | zero =>
    intro v1 M h
    rw [Model_resolves_2] at h
    cases h
  | succ n ih =>
    intro v1 M h
    rw [Model_resolves_2] at h
    refine z_iload_n Z dX10_resolves_2 rfl 1 rfl ?_
    refine z_aload_n Z dX10_resolves_3 rfl 0 rfl ?_
    refine gM_X10_194_0 X dX10_resolves_4 ?_
    refine z_icmp_ge (tgt := 201) Z dX10_resolves_7 (by decide) h (fun h => ?_) (fun h => ?_)
    · refine z_sub [] rfl ?_
      exact hk M h
    · refine z_aload_n Z dX10_resolves_10 rfl 0 rfl ?_
      refine gM_X10_141_0 X dX10_resolves_11 ?_
      refine z_if_ne (tgt := 201) Z dX10_resolves_14 (by decide) h (fun h => ?_) (fun h => ?_)
      · refine z_sub [] rfl ?_
        exact hk M h
      · refine z_aload_n Z dX10_resolves_17 rfl 0 rfl ?_
        refine gM_X10_38_0 X dX10_resolves_18 ?_
        refine z_iload_n Z dX10_resolves_21 rfl 1 rfl ?_
        refine ldM_9 X dX10_resolves_22 h (fun x0 h => ?_)
        refine z_istore_n (lv' := [(2, .int (z_I x0)), (0, .ref (ad 0)), (1, .int (z_I v1))]) Z dX10_resolves_23 rfl (by decide) rfl ?_
        refine z_aload_n Z dX10_resolves_24 rfl 1 rfl ?_
        refine z_aload_n Z dX10_resolves_25 rfl 1 rfl ?_
        refine gM_X10_32_0 X dX10_resolves_26 ?_
        refine z_iload_n Z dX10_resolves_29 rfl 2 rfl ?_
        refine ldM_7 X dX10_resolves_30 h (fun x1 h => ?_)
        refine z_aload_n Z dX10_resolves_31 rfl 1 rfl ?_
        refine gM_X10_35_0 X dX10_resolves_32 ?_
        refine z_iload_n Z dX10_resolves_35 rfl 2 rfl ?_
        refine ldM_8 X dX10_resolves_36 h (fun x2 h => ?_)
        obtain ⟨r_, M1, hf, h⟩ := z_cld h
        refine z_callVi (Wd := wM cI cZ ad) X (c_X10_itemNamed hf) ml_X10_191 yd_X10_itemNamed yw_X10_itemNamed (by omega) (by decide) (rM_0 X) rfl rfl (Nat.le_of_ble_eq_true rfl) ⟨Nat.zero_le _, Nat.zero_le _⟩ dX10_resolves_37 ?_
        refine z_istore_n (lv' := [(3, .int (z_I r_)), (2, .int (z_I x0)), (0, .ref (ad 0)), (1, .int (z_I v1))]) Z dX10_resolves_40 rfl (by decide) rfl ?_
        refine z_iload_n Z dX10_resolves_41 rfl 0 rfl ?_
        refine z_iconst Z dX10_resolves_42 ?_
        refine z_jnr (P := fun (k : Int → zMem → zO) => ∀ (x3 : Int) (M2 : zMem), k x3 M2 = some (r, M') → z_V p l e R s m args below meth c D A cI cZ 7 (wM cI cZ ad) M' none M2 64 [(0, .ref (ad 0)), (1, .int (z_I v1)), (2, .int (z_I x0)), (3, .int (z_I r_))] [.int (z_I x3)]) h ?_ ?_
        · intro x3 M2 h
          refine z_istore (lv' := [(4, .int (z_I x3)), (0, .ref (ad 0)), (1, .int (z_I v1)), (2, .int (z_I x0)), (3, .int (z_I r_))]) Z dX10_resolves_64 (by decide) rfl ?_
          refine z_aload_n Z dX10_resolves_66 rfl 1 rfl ?_
          refine gM_X10_7_0 X dX10_resolves_67 ?_
          refine z_bipush Z dX10_resolves_70 rfl ?_
          refine z_iload_n Z dX10_resolves_72 rfl 3 rfl ?_
          refine z_iadd Z dX10_resolves_73 ?_
          refine ldM_1 X dX10_resolves_74 h (fun x4 h => ?_)
          refine z_istore (lv' := [(5, .int (z_I x4)), (4, .int (z_I x3)), (0, .ref (ad 0)), (1, .int (z_I v1)), (2, .int (z_I x0)), (3, .int (z_I r_))]) Z dX10_resolves_75 (by decide) rfl ?_
          refine z_aload_n Z dX10_resolves_77 rfl 2 rfl ?_
          refine gM_X10_41_0 X dX10_resolves_78 ?_
          refine z_iload_n Z dX10_resolves_81 rfl 3 rfl ?_
          refine ldM_10 X dX10_resolves_82 h (fun x5 h => ?_)
          refine z_jnr (P := fun (k : Int → zMem → zO) => ∀ (v6_ : Int) (M3 : zMem), k v6_ M3 = some (r, M') → z_V p l e R s m args below meth c D A cI cZ 7 (wM cI cZ ad) M' none M3 151 [(0, .ref (ad 0)), (1, .int (z_I v1)), (2, .int (z_I x0)), (3, .int (z_I r_)), (6, .int (z_I v6_))] []) h ?_ ?_
          · intro v6_ M3 h
            refine z_iload Z dX10_resolves_151 4 rfl ?_
            refine z_jnr (P := fun (k : zMem → zO) => ∀ (M4 : zMem), k M4 = some (r, M') → z_V p l e R s m args below meth c D A cI cZ 7 (wM cI cZ ad) M' none M4 171 [(0, .ref (ad 0)), (1, .int (z_I v1)), (2, .int (z_I x0)), (3, .int (z_I r_))] []) h ?_ ?_
            · intro M4 h
              refine z_aload_n Z dX10_resolves_171 rfl 0 rfl ?_
              refine gM_X10_7_0 X dX10_resolves_172 ?_
              refine z_aload_n Z dX10_resolves_175 rfl 0 rfl ?_
              refine gM_X10_41_0 X dX10_resolves_176 ?_
              refine z_iload_n Z dX10_resolves_179 rfl 1 rfl ?_
              refine ldM_10 X dX10_resolves_180 h (fun x6 h => ?_)
              refine z_jnr (P := fun (k : Int → zMem → zO) => ∀ (x7 : Int) (M5 : zMem), k x7 M5 = some (r, M') → z_V p l e R s m args below meth c D A cI cZ 7 (wM cI cZ ad) M' none M5 191 [(0, .ref (ad 0)), (1, .int (z_I v1)), (2, .int (z_I x0)), (3, .int (z_I r_))] [.int (z_I x7), .ref (ad 1)]) h ?_ ?_
              · intro x7 M5 h
                refine z_iload_n Z dX10_resolves_191 rfl 2 rfl ?_
                refine z_iadd Z dX10_resolves_192 ?_
                refine z_iload_n Z dX10_resolves_193 rfl 3 rfl ?_
                refine srM_1 X dX10_resolves_194 h (fun M6 h => ?_)
                refine z_iincn Z (fun z => [(1, .int (z_I z)), (0, .ref (ad 0)), (2, .int (z_I x0)), (3, .int (z_I r_))]) dX10_resolves_195 (k := 1) rfl (by decide) (fun _ => rfl) h (fun v1_ h => ?_)
                refine z_goto (tgt := 2) Z dX10_resolves_198 (by decide) ?_
                refine z_sub [1, 0] rfl ?_
                exact ih v1_ M6 h
              · intro k4 hk4 h
                refine z_if_eq (tgt := 189) Z dX10_resolves_181 (by decide) h (fun h => ?_) (fun h => ?_)
                · refine z_bipush Z dX10_resolves_189 rfl ?_
                  refine z_sub [0, 1, 2, 3] rfl ?_
                  exact hk4 69 M4 h
                · refine z_bipush Z dX10_resolves_184 rfl ?_
                  refine z_goto (tgt := 191) Z dX10_resolves_186 (by decide) ?_
                  refine z_sub [0, 1, 2, 3] rfl ?_
                  exact hk4 109 M4 h
            · intro k3 hk3 h
              refine z_if_ne (tgt := 171) Z dX10_resolves_153 (by decide) h (fun h => ?_) (fun h => ?_)
              · refine z_sub [0, 1, 2, 3] rfl ?_
                exact hk3 M3 h
              · refine z_aload_n Z dX10_resolves_156 rfl 0 rfl ?_
                refine z_aload_n Z dX10_resolves_157 rfl 0 rfl ?_
                refine gM_X10_32_0 X dX10_resolves_158 ?_
                refine z_iload_n Z dX10_resolves_161 rfl 1 rfl ?_
                refine ldM_7 X dX10_resolves_162 h (fun x8 h => ?_)
                refine pM_X10_107_0 X dX10_resolves_163 h (fun M7 h => ?_)
                refine z_aload_n Z dX10_resolves_166 rfl 0 rfl ?_
                refine z_iconst Z dX10_resolves_167 ?_
                obtain ⟨u_, M8, hf1, h⟩ := z_cld h
                refine z_callVv (Wd := wM cI cZ ad) X (c_X10_faults hf1) ml_X10_151 yd_X10_faults yw_X10_faults (by omega) (by decide) (rM_0 X) rfl rfl (Nat.le_of_ble_eq_true rfl) ⟨Nat.zero_le _, Nat.zero_le _⟩ dX10_resolves_168 ?_
                refine z_sub [0, 1, 2, 3] rfl ?_
                exact hk3 M8 h
          · intro k2 hk2 h
            refine z_jnr (P := fun (k : zMem → zO) => ∀ (M9 : zMem), k M9 = some (r, M') → z_V p l e R s m args below meth c D A cI cZ 7 (wM cI cZ ad) M' none M9 92 [(0, .ref (ad 0)), (1, .int (z_I v1)), (2, .int (z_I x0)), (3, .int (z_I r_)), (4, .int (z_I x3))] []) h ?_ ?_
            · intro M9 h
              refine z_iload Z dX10_resolves_92 4 rfl ?_
              refine z_istore (lv' := [(6, .int (z_I x3)), (0, .ref (ad 0)), (1, .int (z_I v1)), (2, .int (z_I x0)), (3, .int (z_I r_)), (4, .int (z_I x3))]) Z dX10_resolves_94 (by decide) rfl ?_
              refine z_goto (tgt := 151) Z dX10_resolves_96 (by decide) ?_
              refine z_sub [1, 2, 3, 4, 0] rfl ?_
              exact hk2 x3 M9 h
            · intro k5 hk5 h
              refine z_if_ne (tgt := 92) Z dX10_resolves_83 (by decide) h (fun h => ?_) (fun h => ?_)
              · refine z_sub [2, 3, 4, 5, 1] rfl ?_
                exact hk5 M2 h
              · refine z_iload Z dX10_resolves_86 0 rfl ?_
                refine z_iconst Z dX10_resolves_88 ?_
                refine z_icmp_ne (tgt := 99) Z dX10_resolves_89 (by decide) h (fun h => ?_) (fun h => ?_)
                · refine z_iload Z dX10_resolves_99 0 rfl ?_
                  refine z_bipush Z dX10_resolves_101 rfl ?_
                  refine z_icmp_ne (tgt := 134) Z dX10_resolves_103 (by decide) h (fun h => ?_) (fun h => ?_)
                  · refine z_iload_n Z dX10_resolves_134 rfl 5 rfl ?_
                    refine z_iconst Z dX10_resolves_135 ?_
                    refine z_jnr (P := fun (k : Int → zMem → zO) => ∀ (x9 : Int) (M10 : zMem), k x9 M10 = some (r, M') → z_V p l e R s m args below meth c D A cI cZ 7 (wM cI cZ ad) M' none M10 149 [(0, .ref (ad 0)), (1, .int (z_I v1)), (2, .int (z_I x0)), (3, .int (z_I r_))] [.int (z_I x9)]) h ?_ ?_
                    · intro x9 M10 h
                      refine z_istore (lv' := [(6, .int (z_I x9)), (0, .ref (ad 0)), (1, .int (z_I v1)), (2, .int (z_I x0)), (3, .int (z_I r_))]) Z dX10_resolves_149 (by decide) rfl ?_
                      refine z_sub [1, 2, 3, 4, 0] rfl ?_
                      exact hk2 x9 M10 h
                    · intro k6 hk6 h
                      refine z_jnr (P := fun (k : zMem → zO) => ∀ (M11 : zMem), k M11 = some (r, M') → z_V p l e R s m args below meth c D A cI cZ 7 (wM cI cZ ad) M' none M11 148 [(0, .ref (ad 0)), (1, .int (z_I v1)), (2, .int (z_I x0)), (3, .int (z_I r_))] []) h ?_ ?_
                      · intro M11 h
                        refine z_iconst Z dX10_resolves_148 ?_
                        refine z_sub [0, 1, 2, 3] rfl ?_
                        exact hk6 0 M11 h
                      · intro k7 hk7 h
                        refine z_icmp_eq (tgt := 148) Z dX10_resolves_136 (by decide) h (fun h => ?_) (fun h => ?_)
                        · refine z_sub [2, 3, 4, 5] rfl ?_
                          exact hk7 M2 h
                        · refine z_iload Z dX10_resolves_139 1 rfl ?_
                          refine z_if_ne (tgt := 148) Z dX10_resolves_141 (by decide) h (fun h => ?_) (fun h => ?_)
                          · refine z_sub [2, 3, 4, 5] rfl ?_
                            exact hk7 M2 h
                          · refine z_iconst Z dX10_resolves_144 ?_
                            refine z_goto (tgt := 149) Z dX10_resolves_145 (by decide) ?_
                            refine z_sub [2, 3, 4, 5] rfl ?_
                            exact hk6 1 M2 h
                  · refine z_iload Z dX10_resolves_106 1 rfl ?_
                    refine z_jnr (P := fun (k : Int → zMem → zO) => ∀ (x10 : Int) (M12 : zMem), k x10 M12 = some (r, M') → z_V p l e R s m args below meth c D A cI cZ 7 (wM cI cZ ad) M' none M12 129 [(0, .ref (ad 0)), (1, .int (z_I v1)), (2, .int (z_I x0)), (3, .int (z_I r_))] [.int (z_I x10)]) h ?_ ?_
                    · intro x10 M12 h
                      refine z_istore (lv' := [(6, .int (z_I x10)), (0, .ref (ad 0)), (1, .int (z_I v1)), (2, .int (z_I x0)), (3, .int (z_I r_))]) Z dX10_resolves_129 (by decide) rfl ?_
                      refine z_goto (tgt := 151) Z dX10_resolves_131 (by decide) ?_
                      refine z_sub [1, 2, 3, 4, 0] rfl ?_
                      exact hk2 x10 M12 h
                    · intro k8 hk8 h
                      refine z_jnr (P := fun (k : zMem → zO) => ∀ (M13 : zMem), k M13 = some (r, M') → z_V p l e R s m args below meth c D A cI cZ 7 (wM cI cZ ad) M' none M13 128 [(0, .ref (ad 0)), (1, .int (z_I v1)), (2, .int (z_I x0)), (3, .int (z_I r_))] []) h ?_ ?_
                      · intro M13 h
                        refine z_iconst Z dX10_resolves_128 ?_
                        refine z_sub [0, 1, 2, 3] rfl ?_
                        exact hk8 0 M13 h
                      · intro k9 hk9 h
                        refine z_if_eq (tgt := 128) Z dX10_resolves_108 (by decide) h (fun h => ?_) (fun h => ?_)
                        · refine z_sub [2, 3, 4, 5] rfl ?_
                          exact hk9 M2 h
                        · refine z_aload_n Z dX10_resolves_111 rfl 2 rfl ?_
                          refine gM_X10_7_0 X dX10_resolves_112 ?_
                          refine z_bipush Z dX10_resolves_115 rfl ?_
                          refine z_iload_n Z dX10_resolves_117 rfl 5 rfl ?_
                          refine z_iadd Z dX10_resolves_118 ?_
                          refine ldM_1 X dX10_resolves_119 h (fun x11 h => ?_)
                          refine z_iconst Z dX10_resolves_120 ?_
                          refine z_icmp_gt (tgt := 128) Z dX10_resolves_121 (by decide) h (fun h => ?_) (fun h => ?_)
                          · refine z_sub [2, 3, 4, 5] rfl ?_
                            exact hk9 M2 h
                          · refine z_iconst Z dX10_resolves_124 ?_
                            refine z_goto (tgt := 129) Z dX10_resolves_125 (by decide) ?_
                            refine z_sub [2, 3, 4, 5] rfl ?_
                            exact hk8 1 M2 h
                · refine z_sub [2, 3, 4, 5, 1] rfl ?_
                  exact hk5 M2 h
        · intro k1 hk1 h
          refine z_jnr (P := fun (k : zMem → zO) => ∀ (M14 : zMem), k M14 = some (r, M') → z_V p l e R s m args below meth c D A cI cZ 7 (wM cI cZ ad) M' none M14 63 [(0, .ref (ad 0)), (1, .int (z_I v1)), (2, .int (z_I x0)), (3, .int (z_I r_))] []) h ?_ ?_
          · intro M14 h
            refine z_iconst Z dX10_resolves_63 ?_
            refine z_sub [0, 1, 2, 3] rfl ?_
            exact hk1 0 M14 h
          · intro k10 hk10 h
            refine z_icmp_eq (tgt := 63) Z dX10_resolves_43 (by decide) h (fun h => ?_) (fun h => ?_)
            · refine z_sub [2, 3, 1, 0] rfl ?_
              exact hk10 M1 h
            · refine z_aload_n Z dX10_resolves_46 rfl 2 rfl ?_
              refine gM_X10_7_0 X dX10_resolves_47 ?_
              refine z_bipush Z dX10_resolves_50 rfl ?_
              refine z_iload_n Z dX10_resolves_52 rfl 0 rfl ?_
              refine z_iadd Z dX10_resolves_53 ?_
              refine ldM_1 X dX10_resolves_54 h (fun x12 h => ?_)
              refine z_iconst Z dX10_resolves_55 ?_
              refine z_icmp_ne (tgt := 63) Z dX10_resolves_56 (by decide) h (fun h => ?_) (fun h => ?_)
              · refine z_sub [2, 3, 1, 0] rfl ?_
                exact hk10 M1 h
              · refine z_iconst Z dX10_resolves_59 ?_
                refine z_goto (tgt := 64) Z dX10_resolves_60 (by decide) ?_
                refine z_sub [2, 3, 1, 0] rfl ?_
                exact hk1 1 M1 h
set_option maxRecDepth 100000 in
set_option maxHeartbeats 4000000 in
theorem c_X10_resolves {l : Launch} {D : va_G} {cI cZ : ClassId} {ad adK adV : Nat → Nat} {N : Nat} {M M' : zMem} {r : Int} (h : Model_resolves N M = some (r, M')) : z_Ct (wM cI cZ ad) D cI cZ adK adV l yX10_resolves cX10_resolves 7 none 3 [.ref (ad 0)] M M' none := by
  unfold Model_resolves at h
  refine z_entry (own := RX10) rfl (by decide) (Nat.le_of_ble_eq_true rfl) ?_
  intro p e s m args below meth c R A X hr hlk
  have Z := X.1
  refine z_sub (lv' := [(0, .ref (ad 0))]) [0] rfl ?_
  refine z_iconst Z dX10_resolves_0 ?_
  refine z_istore_n (lv' := [(1, .int (z_I 0)), (0, .ref (ad 0))]) Z dX10_resolves_1 rfl (by decide) rfl ?_
  refine z_jnr (P := fun (k : zMem → zO) => ∀ (M1 : zMem), k M1 = some (r, M') → z_V p l e R s m args below meth c D A cI cZ 7 (wM cI cZ ad) M' none M1 201 [] []) h ?_ ?_
  · intro M1 h
    exact z_vret X hr hlk dX10_resolves_201 h
  · intro k0 hk0 h
    refine z_sub [1, 0] rfl ?_
    exact wModel_resolves_2 X hr hlk N k0 hk0 N 0 M h
set_option maxRecDepth 100000 in
set_option maxHeartbeats 4000000 in
theorem wModel_takesLaid_2 {p : Program} {l : Launch} {e : Env} {R : Room} {s : State} {m : MethodId} {args : Array Value} {below : List Frame} {meth : Method} {c : Code} {D : va_G} {A : Nat → Prop} {cI cZ : ClassId} {adK adV ad : Nat → Nat} {r : Int} {M' : zMem} (X : z_X p m c cX10_takesLaid 2 s args RX10 R 1 D cI cZ A adK adV) (hr : meth.sig.returnType = none) (hlk : meth.locks = false) (N : Nat) (k : zMem → zO) (hk : ∀ (M : zMem), k M = some (r, M') → z_V p l e R s m args below meth c D A cI cZ 2 (wM cI cZ ad) M' none M 34 [] []) : ∀ (n : Nat) (v1 : Int) (M : zMem), Model_takesLaid_2 N k n v1 M = some (r, M') → z_V p l e R s m args below meth c D A cI cZ 2 (wM cI cZ ad) M' none M 2 [(0, .ref (ad 0)), (1, .int (z_I v1))] [] := by
  have Z := X.1
  intro n
  induction n with
  | zero =>
    intro v1 M h
    rw [Model_takesLaid_2] at h
    cases h
  | succ n ih =>
    intro v1 M h
    rw [Model_takesLaid_2] at h
    refine z_iload_n Z dX10_takesLaid_2 rfl 1 rfl ?_
    refine z_aload_n Z dX10_takesLaid_3 rfl 0 rfl ?_
    refine gM_X10_7_0 X dX10_takesLaid_4 ?_
    refine z_iconst Z dX10_takesLaid_7 ?_
    refine ldM_1 X dX10_takesLaid_8 h (fun x0 h => ?_)
    refine z_icmp_ge (tgt := 34) Z dX10_takesLaid_9 (by decide) h (fun h => ?_) (fun h => ?_)
    · refine z_sub [] rfl ?_
      exact hk M h
    · refine z_aload_n Z dX10_takesLaid_12 rfl 0 rfl ?_
      refine gM_X10_7_0 X dX10_takesLaid_13 ?_
      refine z_sipush Z dX10_takesLaid_16 rfl ?_
      refine z_iload_n Z dX10_takesLaid_19 rfl 1 rfl ?_
      refine z_iadd Z dX10_takesLaid_20 ?_
      refine z_aload_n Z dX10_takesLaid_21 rfl 0 rfl ?_
      refine gM_X10_75_0 X dX10_takesLaid_22 ?_
      refine z_iload_n Z dX10_takesLaid_25 rfl 1 rfl ?_
      refine ldM_21 X dX10_takesLaid_26 h (fun x1 h => ?_)
      refine srM_1 X dX10_takesLaid_27 h (fun M1 h => ?_)
      refine z_iincn Z (fun z => [(1, .int (z_I z)), (0, .ref (ad 0))]) dX10_takesLaid_28 (k := 1) rfl (by decide) (fun _ => rfl) h (fun v1_ h => ?_)
      refine z_goto (tgt := 2) Z dX10_takesLaid_31 (by decide) ?_
      refine z_sub [1, 0] rfl ?_
      exact ih v1_ M1 h
set_option maxRecDepth 100000 in
set_option maxHeartbeats 4000000 in
theorem c_X10_takesLaid {l : Launch} {D : va_G} {cI cZ : ClassId} {ad adK adV : Nat → Nat} {N : Nat} {M M' : zMem} {r : Int} (h : Model_takesLaid N M = some (r, M')) : z_Ct (wM cI cZ ad) D cI cZ adK adV l yX10_takesLaid cX10_takesLaid 2 none 1 [.ref (ad 0)] M M' none := by
  unfold Model_takesLaid at h
  refine z_entry (own := RX10) rfl (by decide) (Nat.le_of_ble_eq_true rfl) ?_
  intro p e s m args below meth c R A X hr hlk
  have Z := X.1
  refine z_sub (lv' := [(0, .ref (ad 0))]) [0] rfl ?_
  refine z_iconst Z dX10_takesLaid_0 ?_
  refine z_istore_n (lv' := [(1, .int (z_I 0)), (0, .ref (ad 0))]) Z dX10_takesLaid_1 rfl (by decide) rfl ?_
  refine z_jnr (P := fun (k : zMem → zO) => ∀ (M1 : zMem), k M1 = some (r, M') → z_V p l e R s m args below meth c D A cI cZ 2 (wM cI cZ ad) M' none M1 34 [] []) h ?_ ?_
  · intro M1 h
    exact z_vret X hr hlk dX10_takesLaid_34 h
  · intro k0 hk0 h
    refine z_sub [1, 0] rfl ?_
    exact wModel_takesLaid_2 X hr hlk N k0 hk0 N 0 M h
set_option maxRecDepth 100000 in
set_option maxHeartbeats 4000000 in
theorem wModel_wordsOf_4 {p : Program} {l : Launch} {e : Env} {R : Room} {s : State} {m : MethodId} {args : Array Value} {below : List Frame} {meth : Method} {c : Code} {D : va_G} {A : Nat → Prop} {cI cZ : ClassId} {adK adV ad : Nat → Nat} {r : Int} {M' : zMem} (X : z_X p m c cX10_wordsOf 3 s args RX10 R 1 D cI cZ A adK adV) (hr : meth.sig.returnType = some .int) (hlk : meth.locks = false) (N : Nat) (k : Int → zMem → zO) (hk : ∀ (y1 : Int) (M : zMem), k y1 M = some (r, M') → z_V p l e R s m args below meth c D A cI cZ 3 (wM cI cZ ad) M' (some (.int (z_I r))) M 34 [(1, .int (z_I y1))] []) : ∀ (n : Nat) (v1 v2 : Int) (M : zMem), Model_wordsOf_4 N k n v1 v2 M = some (r, M') → z_V p l e R s m args below meth c D A cI cZ 3 (wM cI cZ ad) M' (some (.int (z_I r))) M 4 [(0, .ref (ad 0)), (1, .int (z_I v1)), (2, .int (z_I v2))] [] := by
  have Z := X.1
  intro n
  induction n with
  | zero =>
    intro v1 v2 M h
    rw [Model_wordsOf_4] at h
    cases h
  | succ n ih =>
    intro v1 v2 M h
    rw [Model_wordsOf_4] at h
    refine z_iload_n Z dX10_wordsOf_4 rfl 2 rfl ?_
    refine z_aload_n Z dX10_wordsOf_5 rfl 0 rfl ?_
    refine gM_X10_7_0 X dX10_wordsOf_6 ?_
    refine z_iconst Z dX10_wordsOf_9 ?_
    refine ldM_1 X dX10_wordsOf_10 h (fun x0 h => ?_)
    refine z_icmp_ge (tgt := 34) Z dX10_wordsOf_11 (by decide) h (fun h => ?_) (fun h => ?_)
    · refine z_sub [1] rfl ?_
      exact hk v1 M h
    · refine z_iload_n Z dX10_wordsOf_14 rfl 1 rfl ?_
      refine z_iconst Z dX10_wordsOf_15 ?_
      refine z_aload_n Z dX10_wordsOf_16 rfl 0 rfl ?_
      refine gM_X10_7_0 X dX10_wordsOf_17 ?_
      refine z_bipush Z dX10_wordsOf_20 rfl ?_
      refine z_iload_n Z dX10_wordsOf_22 rfl 2 rfl ?_
      refine z_iadd Z dX10_wordsOf_23 ?_
      refine ldM_1 X dX10_wordsOf_24 h (fun x1 h => ?_)
      refine z_isub Z dX10_wordsOf_25 ?_
      refine z_iadd Z dX10_wordsOf_26 ?_
      refine z_nmI h (fun v1_ h => ?_)
      refine z_istore_n (lv' := [(1, .int (z_I v1_)), (0, .ref (ad 0)), (2, .int (z_I v2))]) Z dX10_wordsOf_27 rfl (by decide) rfl ?_
      refine z_iincn Z (fun z => [(2, .int (z_I z)), (1, .int (z_I v1_)), (0, .ref (ad 0))]) dX10_wordsOf_28 (k := 2) rfl (by decide) (fun _ => rfl) h (fun v2_ h => ?_)
      refine z_goto (tgt := 4) Z dX10_wordsOf_31 (by decide) ?_
      refine z_sub [2, 1, 0] rfl ?_
      exact ih v1_ v2_ M h
set_option maxRecDepth 100000 in
set_option maxHeartbeats 4000000 in
theorem c_X10_wordsOf {l : Launch} {D : va_G} {cI cZ : ClassId} {ad adK adV : Nat → Nat} {N : Nat} {M M' : zMem} {r : Int} (h : Model_wordsOf N M = some (r, M')) : z_Ct (wM cI cZ ad) D cI cZ adK adV l yX10_wordsOf cX10_wordsOf 3 (some .int) 1 [.ref (ad 0)] M M' (some (.int (z_I r))) := by
  unfold Model_wordsOf at h
  refine z_entry (own := RX10) rfl (by decide) (Nat.le_of_ble_eq_true rfl) ?_
  intro p e s m args below meth c R A X hr hlk
  have Z := X.1
  refine z_sub (lv' := [(0, .ref (ad 0))]) [0] rfl ?_
  refine z_iconst Z dX10_wordsOf_0 ?_
  refine z_istore_n (lv' := [(1, .int (z_I 0)), (0, .ref (ad 0))]) Z dX10_wordsOf_1 rfl (by decide) rfl ?_
  refine z_iconst Z dX10_wordsOf_2 ?_
  refine z_istore_n (lv' := [(2, .int (z_I 0)), (1, .int (z_I 0)), (0, .ref (ad 0))]) Z dX10_wordsOf_3 rfl (by decide) rfl ?_
  refine z_jnr (P := fun (k : Int → zMem → zO) => ∀ (v1_ : Int) (M1 : zMem), k v1_ M1 = some (r, M') → z_V p l e R s m args below meth c D A cI cZ 3 (wM cI cZ ad) M' (some (.int (z_I r))) M1 34 [(1, .int (z_I v1_))] []) h ?_ ?_
  · intro v1_ M1 h
    refine z_iload_n Z dX10_wordsOf_34 rfl 0 rfl ?_
    exact z_iret X hr hlk dX10_wordsOf_35 h
  · intro k0 hk0 h
    refine z_sub [2, 1, 0] rfl ?_
    exact wModel_wordsOf_4 X hr hlk N k0 hk0 N 0 0 M h
set_option maxRecDepth 100000 in
set_option maxHeartbeats 4000000 in
theorem wModel_drum_2 {p : Program} {l : Launch} {e : Env} {R : Room} {s : State} {m : MethodId} {args : Array Value} {below : List Frame} {meth : Method} {c : Code} {D : va_G} {A : Nat → Prop} {cI cZ : ClassId} {adK adV ad : Nat → Nat} {r : Int} {M' : zMem} (X : z_X p m c cX10_drum 2 s args RX10 R 15 D cI cZ A adK adV) (hr : meth.sig.returnType = some .int) (hlk : meth.locks = false) (N : Nat) (k : zMem → zO) (hk : ∀ (M : zMem), k M = some (r, M') → z_V p l e R s m args below meth c D A cI cZ 2 (wM cI cZ ad) M' (some (.int (z_I r))) M 36 [(0, .ref (ad 0))] []) : ∀ (n : Nat) (v1 : Int) (M : zMem), Model_drum_2 N k n v1 M = some (r, M') → z_V p l e R s m args below meth c D A cI cZ 2 (wM cI cZ ad) M' (some (.int (z_I r))) M 2 [(0, .ref (ad 0)), (1, .int (z_I v1))] [] := by
  have Z := X.1
  intro n
  induction n with
  | zero =>
    intro v1 M h
    rw [Model_drum_2] at h
    cases h
  | succ n ih =>
    intro v1 M h
    rw [Model_drum_2] at h
    refine z_iload_n Z dX10_drum_2 rfl 1 rfl ?_
    refine z_aload_n Z dX10_drum_3 rfl 0 rfl ?_
    refine gM_X10_7_0 X dX10_drum_4 ?_
    refine z_alen (nn := 169) X aM_1 rfl dX10_drum_7 ?_
    refine z_icmp_ge (tgt := 36) Z dX10_drum_8 (by decide) h (fun h => ?_) (fun h => ?_)
    · refine z_sub [0] rfl ?_
      exact hk M h
    · refine z_aload_n Z dX10_drum_11 rfl 0 rfl ?_
      refine gM_X10_13_0 X dX10_drum_12 ?_
      refine z_iload_n Z dX10_drum_15 rfl 1 rfl ?_
      refine z_aload_n Z dX10_drum_16 rfl 0 rfl ?_
      refine gM_X10_7_0 X dX10_drum_17 ?_
      refine z_iload_n Z dX10_drum_20 rfl 1 rfl ?_
      refine ldM_1 X dX10_drum_21 h (fun x0 h => ?_)
      refine srM_2 X dX10_drum_22 h (fun M1 h => ?_)
      refine z_aload_n Z dX10_drum_23 rfl 0 rfl ?_
      refine gM_X10_7_0 X dX10_drum_24 ?_
      refine z_iload_n Z dX10_drum_27 rfl 1 rfl ?_
      refine z_iconst Z dX10_drum_28 ?_
      refine srM_1 X dX10_drum_29 h (fun M2 h => ?_)
      refine z_iincn Z (fun z => [(1, .int (z_I z)), (0, .ref (ad 0))]) dX10_drum_30 (k := 1) rfl (by decide) (fun _ => rfl) h (fun v1_ h => ?_)
      refine z_goto (tgt := 2) Z dX10_drum_33 (by decide) ?_
      refine z_sub [1, 0] rfl ?_
      exact ih v1_ M2 h
set_option maxRecDepth 100000 in
set_option maxHeartbeats 4000000 in
theorem wModel_drum_75 {p : Program} {l : Launch} {e : Env} {R : Room} {s : State} {m : MethodId} {args : Array Value} {below : List Frame} {meth : Method} {c : Code} {D : va_G} {A : Nat → Prop} {cI cZ : ClassId} {adK adV ad : Nat → Nat} {r : Int} {M' : zMem} (X : z_X p m c cX10_drum 2 s args RX10 R 15 D cI cZ A adK adV) (hr : meth.sig.returnType = some .int) (hlk : meth.locks = false) (N : Nat) (k : zMem → zO) (hk : ∀ (M : zMem), k M = some (r, M') → z_V p l e R s m args below meth c D A cI cZ 2 (wM cI cZ ad) M' (some (.int (z_I r))) M 149 [(0, .ref (ad 0))] []) : ∀ (n : Nat) (M : zMem), Model_drum_75 N k n M = some (r, M') → z_V p l e R s m args below meth c D A cI cZ 2 (wM cI cZ ad) M' (some (.int (z_I r))) M 75 [(0, .ref (ad 0))] [] := by
  have Z := X.1
  intro n
  induction n with
  | zero =>
    intro M h
    rw [Model_drum_75] at h
    cases h
  | succ n ih =>
    intro M h
    rw [Model_drum_75] at h
    refine z_aload_n Z dX10_drum_75 rfl 0 rfl ?_
    refine gM_X10_141_0 X dX10_drum_76 ?_
    refine z_if_ne (tgt := 149) Z dX10_drum_79 (by decide) h (fun h => ?_) (fun h => ?_)
    · refine z_sub [0] rfl ?_
      exact hk M h
    · refine z_aload_n Z dX10_drum_82 rfl 0 rfl ?_
      refine gM_X10_116_0 X dX10_drum_83 ?_
      refine z_if_eq (tgt := 149) Z dX10_drum_86 (by decide) h (fun h => ?_) (fun h => ?_)
      · refine z_sub [0] rfl ?_
        exact hk M h
      · refine z_aload_n Z dX10_drum_89 rfl 0 rfl ?_
        refine gM_X10_7_0 X dX10_drum_90 ?_
        refine z_bipush Z dX10_drum_93 rfl ?_
        refine ldM_1 X dX10_drum_95 h (fun x0 h => ?_)
        refine z_jnr (P := fun (k : zMem → zO) => ∀ (M1 : zMem), k M1 = some (r, M') → z_V p l e R s m args below meth c D A cI cZ 2 (wM cI cZ ad) M' (some (.int (z_I r))) M1 110 [(0, .ref (ad 0))] []) h ?_ ?_
        · intro M1 h
          refine z_aload_n Z dX10_drum_110 rfl 0 rfl ?_
          refine z_aload_n Z dX10_drum_111 rfl 0 rfl ?_
          refine gM_X10_141_0 X dX10_drum_112 ?_
          refine z_jnr (P := fun (k : Int → zMem → zO) => ∀ (x1 : Int) (M2 : zMem), k x1 M2 = some (r, M') → z_V p l e R s m args below meth c D A cI cZ 2 (wM cI cZ ad) M' (some (.int (z_I r))) M2 132 [(0, .ref (ad 0))] [.int (z_I x1), .ref (ad 0)]) h ?_ ?_
          · intro x1 M2 h
            obtain ⟨u_, M3, hf, h⟩ := z_cld h
            refine z_callVv (Wd := wM cI cZ ad) X (c_X10_passes hf) ml_X10_158 yd_X10_passes yw_X10_passes (by omega) (by decide) (rM_0 X) rfl rfl (Nat.le_of_ble_eq_true rfl) ⟨Nat.zero_le _, Nat.zero_le _⟩ dX10_drum_132 ?_
            refine z_aload_n Z dX10_drum_135 rfl 0 rfl ?_
            refine gM_X10_7_0 X dX10_drum_136 ?_
            refine z_bipush Z dX10_drum_139 rfl ?_
            refine z_dup2 Z dX10_drum_141 rfl rfl ?_
            refine ldM_1 X dX10_drum_142 h (fun x2 h => ?_)
            refine z_iconst Z dX10_drum_143 ?_
            refine z_iadd Z dX10_drum_144 ?_
            refine srM_1 X dX10_drum_145 h (fun M4 h => ?_)
            refine z_goto (tgt := 75) Z dX10_drum_146 (by decide) ?_
            refine z_sub [0] rfl ?_
            exact ih M4 h
          · intro k2 hk2 h
            refine z_jnr (P := fun (k : zMem → zO) => ∀ (M5 : zMem), k M5 = some (r, M') → z_V p l e R s m args below meth c D A cI cZ 2 (wM cI cZ ad) M' (some (.int (z_I r))) M5 127 [(0, .ref (ad 0))] [.ref (ad 0)]) h ?_ ?_
            · intro M5 h
              refine z_iconst Z dX10_drum_127 ?_
              refine z_goto (tgt := 132) Z dX10_drum_128 (by decide) ?_
              refine z_sub [0] rfl ?_
              exact hk2 1 M5 h
            · intro k3 hk3 h
              refine z_if_ne (tgt := 127) Z dX10_drum_115 (by decide) h (fun h => ?_) (fun h => ?_)
              · refine z_sub [0] rfl ?_
                exact hk3 M1 h
              · refine z_aload_n Z dX10_drum_118 rfl 0 rfl ?_
                refine z_bipush Z dX10_drum_119 rfl ?_
                obtain ⟨r_, M6, hf1, h⟩ := z_cld h
                refine z_callVi (Wd := wM cI cZ ad) X (c_X10_isSign hf1) ml_X10_214 yd_X10_isSign yw_X10_isSign (by omega) (by decide) (rM_0 X) rfl rfl (Nat.le_of_ble_eq_true rfl) ⟨Nat.zero_le _, Nat.zero_le _⟩ dX10_drum_121 ?_
                refine z_if_eq (tgt := 131) Z dX10_drum_124 (by decide) h (fun h => ?_) (fun h => ?_)
                · refine z_iconst Z dX10_drum_131 ?_
                  refine z_sub [0] rfl ?_
                  exact hk2 0 M6 h
                · refine z_sub [0] rfl ?_
                  exact hk3 M6 h
        · intro k1 hk1 h
          refine z_if_ne (tgt := 106) Z dX10_drum_96 (by decide) h (fun h => ?_) (fun h => ?_)
          · refine z_aload_n Z dX10_drum_106 rfl 0 rfl ?_
            obtain ⟨u_1, M7, hf2, h⟩ := z_cld h
            refine z_callVv (Wd := wM cI cZ ad) X (c_X10_readsItem hf2) ml_X10_228 yd_X10_readsItem yw_X10_readsItem (by omega) (by decide) (rM_0 X) rfl rfl (Nat.le_of_ble_eq_true rfl) ⟨Nat.zero_le _, Nat.zero_le _⟩ dX10_drum_107 ?_
            refine z_sub [0] rfl ?_
            exact hk1 M7 h
          · refine z_aload_n Z dX10_drum_99 rfl 0 rfl ?_
            obtain ⟨u_2, M8, hf3, h⟩ := z_cld h
            refine z_callVv (Wd := wM cI cZ ad) X (c_X10_readsDrum hf3) ml_X10_225 yd_X10_readsDrum yw_X10_readsDrum (by omega) (by decide) (rM_0 X) rfl rfl (Nat.le_of_ble_eq_true rfl) ⟨Nat.zero_le _, Nat.zero_le _⟩ dX10_drum_100 ?_
            refine z_goto (tgt := 110) Z dX10_drum_103 (by decide) ?_
            refine z_sub [0] rfl ?_
            exact hk1 M8 h
set_option maxRecDepth 100000 in
set_option maxHeartbeats 4000000 in
theorem wModel_drum_238 {p : Program} {l : Launch} {e : Env} {R : Room} {s : State} {m : MethodId} {args : Array Value} {below : List Frame} {meth : Method} {c : Code} {D : va_G} {A : Nat → Prop} {cI cZ : ClassId} {adK adV ad : Nat → Nat} {r : Int} {M' : zMem} (X : z_X p m c cX10_drum 2 s args RX10 R 15 D cI cZ A adK adV) (hr : meth.sig.returnType = some .int) (hlk : meth.locks = false) (N : Nat) (k : zMem → zO) (hk : ∀ (M : zMem), k M = some (r, M') → z_V p l e R s m args below meth c D A cI cZ 2 (wM cI cZ ad) M' (some (.int (z_I r))) M 279 [(0, .ref (ad 0))] []) : ∀ (n : Nat) (v1 : Int) (M : zMem), Model_drum_238 N k n v1 M = some (r, M') → z_V p l e R s m args below meth c D A cI cZ 2 (wM cI cZ ad) M' (some (.int (z_I r))) M 238 [(0, .ref (ad 0)), (1, .int (z_I v1))] [] := by
  have Z := X.1
  intro n
  induction n with
  | zero =>
    intro v1 M h
    rw [Model_drum_238] at h
    cases h
  | succ n ih =>
    intro v1 M h
    rw [Model_drum_238] at h
    refine z_iload_n Z dX10_drum_238 rfl 1 rfl ?_
    refine z_if_lt (tgt := 279) Z dX10_drum_239 (by decide) h (fun h => ?_) (fun h => ?_)
    · refine z_sub [0] rfl ?_
      exact hk M h
    · refine z_aload_n Z dX10_drum_242 rfl 0 rfl ?_
      refine gM_X10_7_0 X dX10_drum_243 ?_
      refine z_bipush Z dX10_drum_246 rfl ?_
      refine z_aload_n Z dX10_drum_248 rfl 0 rfl ?_
      refine gM_X10_7_0 X dX10_drum_249 ?_
      refine z_bipush Z dX10_drum_252 rfl ?_
      refine z_iload_n Z dX10_drum_254 rfl 1 rfl ?_
      refine z_iadd Z dX10_drum_255 ?_
      refine ldM_1 X dX10_drum_256 h (fun x0 h => ?_)
      refine z_iconst Z dX10_drum_257 ?_
      refine z_jnr (P := fun (k : Int → Int → zMem → zO) => ∀ (x1 x2 : Int) (M1 : zMem), k x1 x2 M1 = some (r, M') → z_V p l e R s m args below meth c D A cI cZ 2 (wM cI cZ ad) M' (some (.int (z_I r))) M1 272 [(0, .ref (ad 0)), (1, .int (z_I v1))] [.int (z_I x1), .int (z_I x2), .ref (ad 1)]) h ?_ ?_
      · intro x1 x2 M1 h
        refine srM_1 X dX10_drum_272 h (fun M2 h => ?_)
        refine z_iincn Z (fun z => [(1, .int (z_I z)), (0, .ref (ad 0))]) dX10_drum_273 (k := 1) rfl (by decide) (fun _ => rfl) h (fun v1_ h => ?_)
        refine z_goto (tgt := 238) Z dX10_drum_276 (by decide) ?_
        refine z_sub [1, 0] rfl ?_
        exact ih v1_ M2 h
      · intro k1 hk1 h
        refine z_icmp_ne (tgt := 265) Z dX10_drum_258 (by decide) h (fun h => ?_) (fun h => ?_)
        · refine z_aload_n Z dX10_drum_265 rfl 0 rfl ?_
          refine gM_X10_7_0 X dX10_drum_266 ?_
          refine z_bipush Z dX10_drum_269 rfl ?_
          refine ldM_1 X dX10_drum_271 h (fun x3 h => ?_)
          refine z_sub [0, 1] rfl ?_
          exact hk1 x3 8 M h
        · refine z_iload_n Z dX10_drum_261 rfl 1 rfl ?_
          refine z_goto (tgt := 272) Z dX10_drum_262 (by decide) ?_
          refine z_sub [0, 1] rfl ?_
          exact hk1 v1 8 M h
set_option maxRecDepth 100000 in
set_option maxHeartbeats 4000000 in
theorem wModel_drum_183 {p : Program} {l : Launch} {e : Env} {R : Room} {s : State} {m : MethodId} {args : Array Value} {below : List Frame} {meth : Method} {c : Code} {D : va_G} {A : Nat → Prop} {cI cZ : ClassId} {adK adV ad : Nat → Nat} {r : Int} {M' : zMem} (X : z_X p m c cX10_drum 2 s args RX10 R 15 D cI cZ A adK adV) (hr : meth.sig.returnType = some .int) (hlk : meth.locks = false) (N : Nat) (k : zMem → zO) (hk : ∀ (M : zMem), k M = some (r, M') → z_V p l e R s m args below meth c D A cI cZ 2 (wM cI cZ ad) M' (some (.int (z_I r))) M 210 [(0, .ref (ad 0))] []) : ∀ (n : Nat) (v1 : Int) (M : zMem), Model_drum_183 N k n v1 M = some (r, M') → z_V p l e R s m args below meth c D A cI cZ 2 (wM cI cZ ad) M' (some (.int (z_I r))) M 183 [(0, .ref (ad 0)), (1, .int (z_I v1))] [] := by
  have Z := X.1
  intro n
  induction n with
  | zero =>
    intro v1 M h
    rw [Model_drum_183] at h
    cases h
  | succ n ih =>
    intro v1 M h
    rw [Model_drum_183] at h
    refine z_iload_n Z dX10_drum_183 rfl 1 rfl ?_
    refine z_aload_n Z dX10_drum_184 rfl 0 rfl ?_
    refine gM_X10_7_0 X dX10_drum_185 ?_
    refine z_alen (nn := 169) X aM_1 rfl dX10_drum_188 ?_
    refine z_icmp_ge (tgt := 210) Z dX10_drum_189 (by decide) h (fun h => ?_) (fun h => ?_)
    · refine z_sub [0] rfl ?_
      exact hk M h
    · refine z_aload_n Z dX10_drum_192 rfl 0 rfl ?_
      refine gM_X10_7_0 X dX10_drum_193 ?_
      refine z_iload_n Z dX10_drum_196 rfl 1 rfl ?_
      refine z_aload_n Z dX10_drum_197 rfl 0 rfl ?_
      refine gM_X10_13_0 X dX10_drum_198 ?_
      refine z_iload_n Z dX10_drum_201 rfl 1 rfl ?_
      refine ldM_2 X dX10_drum_202 h (fun x0 h => ?_)
      refine srM_1 X dX10_drum_203 h (fun M1 h => ?_)
      refine z_iincn Z (fun z => [(1, .int (z_I z)), (0, .ref (ad 0))]) dX10_drum_204 (k := 1) rfl (by decide) (fun _ => rfl) h (fun v1_ h => ?_)
      refine z_goto (tgt := 183) Z dX10_drum_207 (by decide) ?_
      refine z_sub [1, 0] rfl ?_
      exact ih v1_ M1 h
set_option maxRecDepth 100000 in
set_option maxHeartbeats 4000000 in
theorem c_X10_drum {l : Launch} {D : va_G} {cI cZ : ClassId} {ad adK adV : Nat → Nat} {N : Nat} {M M' : zMem} {r : Int} (h : Model_drum N M = some (r, M')) : z_Ct (wM cI cZ ad) D cI cZ adK adV l yX10_drum cX10_drum 2 (some .int) 15 [.ref (ad 0)] M M' (some (.int (z_I r))) := by
  unfold Model_drum at h
  refine z_entry (own := RX10) rfl (by decide) (Nat.le_of_ble_eq_true rfl) ?_
  intro p e s m args below meth c R A X hr hlk
  have Z := X.1
  refine z_sub (lv' := [(0, .ref (ad 0))]) [0] rfl ?_
  refine z_iconst Z dX10_drum_0 ?_
  refine z_istore_n (lv' := [(1, .int (z_I 0)), (0, .ref (ad 0))]) Z dX10_drum_1 rfl (by decide) rfl ?_
  refine z_jnr (P := fun (k : zMem → zO) => ∀ (M1 : zMem), k M1 = some (r, M') → z_V p l e R s m args below meth c D A cI cZ 2 (wM cI cZ ad) M' (some (.int (z_I r))) M1 36 [(0, .ref (ad 0))] []) h ?_ ?_
  · intro M1 h
    refine z_aload_n Z dX10_drum_36 rfl 0 rfl ?_
    refine z_iconst Z dX10_drum_37 ?_
    refine pM_X10_100_0 X dX10_drum_38 h (fun M2 h => ?_)
    refine z_aload_n Z dX10_drum_41 rfl 0 rfl ?_
    refine z_iconst Z dX10_drum_42 ?_
    refine pM_X10_141_0 X dX10_drum_43 h (fun M3 h => ?_)
    refine z_aload_n Z dX10_drum_46 rfl 0 rfl ?_
    refine z_iconst Z dX10_drum_47 ?_
    refine pM_X10_145_0 X dX10_drum_48 h (fun M4 h => ?_)
    refine z_aload_n Z dX10_drum_51 rfl 0 rfl ?_
    refine z_iconst Z dX10_drum_52 ?_
    refine pM_X10_148_0 X dX10_drum_53 h (fun M5 h => ?_)
    refine z_aload_n Z dX10_drum_56 rfl 0 rfl ?_
    refine z_iconst Z dX10_drum_57 ?_
    refine pM_X10_194_0 X dX10_drum_58 h (fun M6 h => ?_)
    refine z_aload_n Z dX10_drum_61 rfl 0 rfl ?_
    refine z_iconst Z dX10_drum_62 ?_
    refine pM_X10_202_0 X dX10_drum_63 h (fun M7 h => ?_)
    refine z_aload_n Z dX10_drum_66 rfl 0 rfl ?_
    refine z_iconst Z dX10_drum_67 ?_
    refine pM_X10_205_0 X dX10_drum_68 h (fun M8 h => ?_)
    refine z_aload_n Z dX10_drum_71 rfl 0 rfl ?_
    obtain ⟨u_, M9, hf, h⟩ := z_cld h
    refine z_callVv (Wd := wM cI cZ ad) X (c_X10_next hf) ml_X10_155 yd_X10_next yw_X10_next (by omega) (by decide) (rM_0 X) rfl rfl (Nat.le_of_ble_eq_true rfl) ⟨Nat.zero_le _, Nat.zero_le _⟩ dX10_drum_72 ?_
    refine z_jnr (P := fun (k : zMem → zO) => ∀ (M10 : zMem), k M10 = some (r, M') → z_V p l e R s m args below meth c D A cI cZ 2 (wM cI cZ ad) M' (some (.int (z_I r))) M10 149 [(0, .ref (ad 0))] []) h ?_ ?_
    · intro M10 h
      refine z_aload_n Z dX10_drum_149 rfl 0 rfl ?_
      obtain ⟨u_1, M11, hf1, h⟩ := z_cld h
      refine z_callVv (Wd := wM cI cZ ad) X (c_X10_resolves hf1) ml_X10_231 yd_X10_resolves yw_X10_resolves (by omega) (by decide) (rM_0 X) rfl rfl (Nat.le_of_ble_eq_true rfl) ⟨Nat.zero_le _, Nat.zero_le _⟩ dX10_drum_150 ?_
      refine z_aload_n Z dX10_drum_153 rfl 0 rfl ?_
      refine z_iconst Z dX10_drum_154 ?_
      refine pM_X10_93_0 X dX10_drum_155 h (fun M12 h => ?_)
      refine z_aload_n Z dX10_drum_158 rfl 0 rfl ?_
      refine z_aload_n Z dX10_drum_159 rfl 0 rfl ?_
      refine gM_X10_145_0 X dX10_drum_160 ?_
      refine pM_X10_234_0 X dX10_drum_163 h (fun M13 h => ?_)
      refine z_aload_n Z dX10_drum_166 rfl 0 rfl ?_
      refine z_aload_n Z dX10_drum_167 rfl 0 rfl ?_
      refine gM_X10_148_0 X dX10_drum_168 ?_
      refine pM_X10_22_0 X dX10_drum_171 h (fun M14 h => ?_)
      refine z_aload_n Z dX10_drum_174 rfl 0 rfl ?_
      refine gM_X10_141_0 X dX10_drum_175 ?_
      refine z_if_eq (tgt := 221) Z dX10_drum_178 (by decide) h (fun h => ?_) (fun h => ?_)
      · refine z_aload_n Z dX10_drum_221 rfl 0 rfl ?_
        refine gM_X10_7_0 X dX10_drum_222 ?_
        refine z_bipush Z dX10_drum_225 rfl ?_
        refine z_iconst Z dX10_drum_227 ?_
        refine srM_1 X dX10_drum_228 h (fun M15 h => ?_)
        refine z_aload_n Z dX10_drum_229 rfl 0 rfl ?_
        refine gM_X10_7_0 X dX10_drum_230 ?_
        refine z_iconst Z dX10_drum_233 ?_
        refine ldM_1 X dX10_drum_234 h (fun x0 h => ?_)
        refine z_iconst Z dX10_drum_235 ?_
        refine z_isub Z dX10_drum_236 ?_
        refine z_nmI h (fun v1_ h => ?_)
        refine z_istore_n (lv' := [(1, .int (z_I v1_)), (0, .ref (ad 0))]) Z dX10_drum_237 rfl (by decide) rfl ?_
        refine z_jnr (P := fun (k : zMem → zO) => ∀ (M16 : zMem), k M16 = some (r, M') → z_V p l e R s m args below meth c D A cI cZ 2 (wM cI cZ ad) M' (some (.int (z_I r))) M16 279 [(0, .ref (ad 0))] []) h ?_ ?_
        · intro M16 h
          refine z_aload_n Z dX10_drum_279 rfl 0 rfl ?_
          refine z_iconst Z dX10_drum_280 ?_
          refine pM_X10_240_0 X dX10_drum_281 h (fun M17 h => ?_)
          refine z_aload_n Z dX10_drum_284 rfl 0 rfl ?_
          refine z_iconst Z dX10_drum_285 ?_
          obtain ⟨u_2, M18, hf2, h⟩ := z_cld h
          refine z_callVv (Wd := wM cI cZ ad) X (c_X10_laysBy hf2) ml_X10_243 yd_X10_laysBy yw_X10_laysBy (by omega) (by decide) (rM_0 X) rfl rfl (Nat.le_of_ble_eq_true rfl) ⟨Nat.zero_le _, Nat.zero_le _⟩ dX10_drum_286 ?_
          refine z_aload_n Z dX10_drum_289 rfl 0 rfl ?_
          obtain ⟨u_3, M19, hf3, h⟩ := z_cld h
          refine z_callVv (Wd := wM cI cZ ad) X (c_X10_takesLaid hf3) ml_X10_246 yd_X10_takesLaid yw_X10_takesLaid (by omega) (by decide) (rM_0 X) rfl rfl (Nat.le_of_ble_eq_true rfl) ⟨Nat.zero_le _, Nat.zero_le _⟩ dX10_drum_290 ?_
          refine z_aload_n Z dX10_drum_293 rfl 0 rfl ?_
          refine gM_X10_7_0 X dX10_drum_294 ?_
          refine z_bipush Z dX10_drum_297 rfl ?_
          refine ldM_1 X dX10_drum_299 h (fun x1 h => ?_)
          exact z_iret X hr hlk dX10_drum_300 h
        · intro k2 hk2 h
          refine z_sub [1, 0] rfl ?_
          exact wModel_drum_238 X hr hlk N k2 hk2 N v1_ M15 h
      · refine z_iconst Z dX10_drum_181 ?_
        refine z_istore_n (lv' := [(1, .int (z_I 0)), (0, .ref (ad 0))]) Z dX10_drum_182 rfl (by decide) rfl ?_
        refine z_jnr (P := fun (k : zMem → zO) => ∀ (M20 : zMem), k M20 = some (r, M') → z_V p l e R s m args below meth c D A cI cZ 2 (wM cI cZ ad) M' (some (.int (z_I r))) M20 210 [(0, .ref (ad 0))] []) h ?_ ?_
        · intro M20 h
          refine z_aload_n Z dX10_drum_210 rfl 0 rfl ?_
          refine z_aload_n Z dX10_drum_211 rfl 0 rfl ?_
          obtain ⟨r_, M21, hf4, h⟩ := z_cld h
          refine z_callVi (Wd := wM cI cZ ad) X (c_X10_wordsOf hf4) ml_X10_237 yd_X10_wordsOf yw_X10_wordsOf (by omega) (by decide) (rM_0 X) rfl rfl (Nat.le_of_ble_eq_true rfl) ⟨Nat.zero_le _, Nat.zero_le _⟩ dX10_drum_212 ?_
          refine pM_X10_202_0 X dX10_drum_215 h (fun M22 h => ?_)
          refine z_bipush Z dX10_drum_218 rfl ?_
          exact z_iret X hr hlk dX10_drum_220 h
        · intro k3 hk3 h
          refine z_sub [1, 0] rfl ?_
          exact wModel_drum_183 X hr hlk N k3 hk3 N 0 M14 h
    · intro k1 hk1 h
      refine z_sub [0] rfl ?_
      exact wModel_drum_75 X hr hlk N k1 hk1 N M9 h
  · intro k0 hk0 h
    refine z_sub [1, 0] rfl ?_
    exact wModel_drum_2 X hr hlk N k0 hk0 N 0 M h
set_option maxRecDepth 100000 in
set_option maxHeartbeats 4000000 in
theorem c_X10_fault {l : Launch} {D : va_G} {cI cZ : ClassId} {ad adK adV : Nat → Nat} {v1 : Int} {M M' : zMem} {r : Int} (h : Model_fault v1 M = some (r, M')) : z_Ct (wM cI cZ ad) D cI cZ adK adV l yX10_fault cX10_fault 2 (some .int) 1 [.ref (ad 0), .int (z_I v1)] M M' (some (.int (z_I r))) := by
  unfold Model_fault at h
  refine z_entry (own := RX10) rfl (by decide) (Nat.le_of_ble_eq_true rfl) ?_
  intro p e s m args below meth c R A X hr hlk
  have Z := X.1
  refine z_sub (lv' := [(0, .ref (ad 0)), (1, .int (z_I v1))]) [0, 1] rfl ?_
  refine z_iload_n Z dX10_fault_0 rfl 1 rfl ?_
  refine z_if_ne (tgt := 11) Z dX10_fault_1 (by decide) h (fun h => ?_) (fun h => ?_)
  · refine z_iload_n Z dX10_fault_11 rfl 1 rfl ?_
    refine z_iconst Z dX10_fault_12 ?_
    refine z_icmp_ne (tgt := 23) Z dX10_fault_13 (by decide) h (fun h => ?_) (fun h => ?_)
    · refine z_iconst Z dX10_fault_23 ?_
      exact z_iret X hr hlk dX10_fault_24 h
    · refine z_aload_n Z dX10_fault_16 rfl 0 rfl ?_
      refine gM_X10_22_0 X dX10_fault_17 ?_
      refine z_goto (tgt := 24) Z dX10_fault_20 (by decide) ?_
      exact z_iret X hr hlk dX10_fault_24 h
  · refine z_aload_n Z dX10_fault_4 rfl 0 rfl ?_
    refine gM_X10_234_0 X dX10_fault_5 ?_
    refine z_goto (tgt := 24) Z dX10_fault_8 (by decide) ?_
    exact z_iret X hr hlk dX10_fault_24 h
set_option maxRecDepth 100000 in
set_option maxHeartbeats 4000000 in
theorem wModel_freeItems_4 {p : Program} {l : Launch} {e : Env} {R : Room} {s : State} {m : MethodId} {args : Array Value} {below : List Frame} {meth : Method} {c : Code} {D : va_G} {A : Nat → Prop} {cI cZ : ClassId} {adK adV ad : Nat → Nat} {r : Int} {M' : zMem} (X : z_X p m c cX10_freeItems 3 s args RX10 R 1 D cI cZ A adK adV) (hr : meth.sig.returnType = some .int) (hlk : meth.locks = false) (N : Nat) (k : Int → zMem → zO) (hk : ∀ (y1 : Int) (M : zMem), k y1 M = some (r, M') → z_V p l e R s m args below meth c D A cI cZ 3 (wM cI cZ ad) M' (some (.int (z_I r))) M 42 [(1, .int (z_I y1))] []) : ∀ (n : Nat) (v1 v2 : Int) (M : zMem), Model_freeItems_4 N k n v1 v2 M = some (r, M') → z_V p l e R s m args below meth c D A cI cZ 3 (wM cI cZ ad) M' (some (.int (z_I r))) M 4 [(0, .ref (ad 0)), (1, .int (z_I v1)), (2, .int (z_I v2))] [] := by
  have Z := X.1
  intro n
  induction n with
  | zero =>
    intro v1 v2 M h
    rw [Model_freeItems_4] at h
    cases h
  | succ n ih =>
    intro v1 v2 M h
    rw [Model_freeItems_4] at h
    refine z_iload_n Z dX10_freeItems_4 rfl 2 rfl ?_
    refine z_aload_n Z dX10_freeItems_5 rfl 0 rfl ?_
    refine gM_X10_7_0 X dX10_freeItems_6 ?_
    refine z_iconst Z dX10_freeItems_9 ?_
    refine ldM_1 X dX10_freeItems_10 h (fun x0 h => ?_)
    refine z_icmp_ge (tgt := 42) Z dX10_freeItems_11 (by decide) h (fun h => ?_) (fun h => ?_)
    · refine z_sub [1] rfl ?_
      exact hk v1 M h
    · refine z_iload_n Z dX10_freeItems_14 rfl 1 rfl ?_
      refine z_aload_n Z dX10_freeItems_15 rfl 0 rfl ?_
      refine gM_X10_7_0 X dX10_freeItems_16 ?_
      refine z_sipush Z dX10_freeItems_19 rfl ?_
      refine z_iload_n Z dX10_freeItems_22 rfl 2 rfl ?_
      refine z_iadd Z dX10_freeItems_23 ?_
      refine ldM_1 X dX10_freeItems_24 h (fun x1 h => ?_)
      refine z_iconst Z dX10_freeItems_25 ?_
      refine z_jnr (P := fun (k : Int → Int → zMem → zO) => ∀ (x2 x3 : Int) (M1 : zMem), k x2 x3 M1 = some (r, M') → z_V p l e R s m args below meth c D A cI cZ 3 (wM cI cZ ad) M' (some (.int (z_I r))) M1 34 [(0, .ref (ad 0)), (2, .int (z_I v2))] [.int (z_I x2), .int (z_I x3)]) h ?_ ?_
      · intro x2 x3 M1 h
        refine z_iadd Z dX10_freeItems_34 ?_
        refine z_nmI h (fun v1_ h => ?_)
        refine z_istore_n (lv' := [(1, .int (z_I v1_)), (0, .ref (ad 0)), (2, .int (z_I v2))]) Z dX10_freeItems_35 rfl (by decide) rfl ?_
        refine z_iincn Z (fun z => [(2, .int (z_I z)), (1, .int (z_I v1_)), (0, .ref (ad 0))]) dX10_freeItems_36 (k := 2) rfl (by decide) (fun _ => rfl) h (fun v2_ h => ?_)
        refine z_goto (tgt := 4) Z dX10_freeItems_39 (by decide) ?_
        refine z_sub [2, 1, 0] rfl ?_
        exact ih v1_ v2_ M1 h
      · intro k1 hk1 h
        refine z_icmp_ne (tgt := 33) Z dX10_freeItems_26 (by decide) h (fun h => ?_) (fun h => ?_)
        · refine z_iconst Z dX10_freeItems_33 ?_
          refine z_sub [0, 2] rfl ?_
          exact hk1 0 v1 M h
        · refine z_iconst Z dX10_freeItems_29 ?_
          refine z_goto (tgt := 34) Z dX10_freeItems_30 (by decide) ?_
          refine z_sub [0, 2] rfl ?_
          exact hk1 1 v1 M h
set_option maxRecDepth 100000 in
set_option maxHeartbeats 4000000 in
theorem c_X10_freeItems {l : Launch} {D : va_G} {cI cZ : ClassId} {ad adK adV : Nat → Nat} {N : Nat} {M M' : zMem} {r : Int} (h : Model_freeItems N M = some (r, M')) : z_Ct (wM cI cZ ad) D cI cZ adK adV l yX10_freeItems cX10_freeItems 3 (some .int) 1 [.ref (ad 0)] M M' (some (.int (z_I r))) := by
  unfold Model_freeItems at h
  refine z_entry (own := RX10) rfl (by decide) (Nat.le_of_ble_eq_true rfl) ?_
  intro p e s m args below meth c R A X hr hlk
  have Z := X.1
  refine z_sub (lv' := [(0, .ref (ad 0))]) [0] rfl ?_
  refine z_iconst Z dX10_freeItems_0 ?_
  refine z_istore_n (lv' := [(1, .int (z_I 0)), (0, .ref (ad 0))]) Z dX10_freeItems_1 rfl (by decide) rfl ?_
  refine z_iconst Z dX10_freeItems_2 ?_
  refine z_istore_n (lv' := [(2, .int (z_I 0)), (1, .int (z_I 0)), (0, .ref (ad 0))]) Z dX10_freeItems_3 rfl (by decide) rfl ?_
  refine z_jnr (P := fun (k : Int → zMem → zO) => ∀ (v1_ : Int) (M1 : zMem), k v1_ M1 = some (r, M') → z_V p l e R s m args below meth c D A cI cZ 3 (wM cI cZ ad) M' (some (.int (z_I r))) M1 42 [(1, .int (z_I v1_))] []) h ?_ ?_
  · intro v1_ M1 h
    refine z_iload_n Z dX10_freeItems_42 rfl 0 rfl ?_
    exact z_iret X hr hlk dX10_freeItems_43 h
  · intro k0 hk0 h
    refine z_sub [2, 1, 0] rfl ?_
    exact wModel_freeItems_4 X hr hlk N k0 hk0 N 0 0 M h
set_option maxRecDepth 100000 in
set_option maxHeartbeats 4000000 in
theorem c_X10_count {l : Launch} {D : va_G} {cI cZ : ClassId} {ad adK adV : Nat → Nat} {N : Nat} {v1 : Int} {M M' : zMem} {r : Int} (h : Model_count N v1 M = some (r, M')) : z_Ct (wM cI cZ ad) D cI cZ adK adV l yX10_count cX10_count 2 (some .int) 2 [.ref (ad 0), .int (z_I v1)] M M' (some (.int (z_I r))) := by
  unfold Model_count at h
  refine z_entry (own := RX10) rfl (by decide) (Nat.le_of_ble_eq_true rfl) ?_
  intro p e s m args below meth c R A X hr hlk
  have Z := X.1
  refine z_sub (lv' := [(0, .ref (ad 0)), (1, .int (z_I v1))]) [0, 1] rfl ?_
  refine z_iload_n Z dX10_count_0 rfl 1 rfl ?_
  refine z_jnr (P := fun (k : zMem → zO) => ∀ (M1 : zMem), k M1 = some (r, M') → z_V p l e R s m args below meth c D A cI cZ 2 (wM cI cZ ad) M' (some (.int (z_I r))) M1 60 [(0, .ref (ad 0)), (1, .int (z_I v1))] []) h ?_ ?_
  · intro M1 h
    refine z_aload_n Z dX10_count_60 rfl 0 rfl ?_
    refine gM_X10_7_0 X dX10_count_61 ?_
    refine z_iload_n Z dX10_count_64 rfl 1 rfl ?_
    refine ldM_1 X dX10_count_65 h (fun x0 h => ?_)
    exact z_iret X hr hlk dX10_count_66 h
  · intro k0 hk0 h
    obtain ⟨hx, -, h⟩ := z_eqd h
    rcases h with ⟨e0, h⟩ | ⟨n0, h⟩
    · refine z_tableIn (tgt := 60) Z dX10_count_1 hx (by omega) (by omega) (by rw [e0]; rfl) (by decide) ?_
      refine z_sub [0, 1] rfl ?_
      exact hk0 M h
    · obtain ⟨hx, -, h⟩ := z_eqd h
      rcases h with ⟨e0, h⟩ | ⟨n1, h⟩
      · refine z_tableIn (tgt := 60) Z dX10_count_1 hx (by omega) (by omega) (by rw [e0]; rfl) (by decide) ?_
        refine z_sub [0, 1] rfl ?_
        exact hk0 M h
      · obtain ⟨hx, -, h⟩ := z_eqd h
        rcases h with ⟨e0, h⟩ | ⟨n2, h⟩
        · refine z_tableIn (tgt := 60) Z dX10_count_1 hx (by omega) (by omega) (by rw [e0]; rfl) (by decide) ?_
          refine z_sub [0, 1] rfl ?_
          exact hk0 M h
        · obtain ⟨hx, -, h⟩ := z_eqd h
          rcases h with ⟨e0, h⟩ | ⟨n3, h⟩
          · refine z_tableIn (tgt := 60) Z dX10_count_1 hx (by omega) (by omega) (by rw [e0]; rfl) (by decide) ?_
            refine z_sub [0, 1] rfl ?_
            exact hk0 M h
          · obtain ⟨hx, -, h⟩ := z_eqd h
            rcases h with ⟨e0, h⟩ | ⟨n4, h⟩
            · refine z_tableIn (tgt := 60) Z dX10_count_1 hx (by omega) (by omega) (by rw [e0]; rfl) (by decide) ?_
              refine z_sub [0, 1] rfl ?_
              exact hk0 M h
            · obtain ⟨hx, -, h⟩ := z_eqd h
              rcases h with ⟨e0, h⟩ | ⟨n5, h⟩
              · refine z_tableIn (tgt := 67) Z dX10_count_1 hx (by omega) (by omega) (by rw [e0]; rfl) (by decide) ?_
                refine z_aload_n Z dX10_count_67 rfl 0 rfl ?_
                obtain ⟨r_, M2, hf, h⟩ := z_cld h
                refine z_callVi (Wd := wM cI cZ ad) X (c_X10_wordsOf hf) ml_X10_237 yd_X10_wordsOf yw_X10_wordsOf (by omega) (by decide) (rM_0 X) rfl rfl (Nat.le_of_ble_eq_true rfl) ⟨Nat.zero_le _, Nat.zero_le _⟩ dX10_count_68 ?_
                exact z_iret X hr hlk dX10_count_71 h
              · obtain ⟨hx, -, h⟩ := z_eqd h
                rcases h with ⟨e0, h⟩ | ⟨n6, h⟩
                · refine z_tableIn (tgt := 72) Z dX10_count_1 hx (by omega) (by omega) (by rw [e0]; rfl) (by decide) ?_
                  refine z_aload_n Z dX10_count_72 rfl 0 rfl ?_
                  refine gM_X10_7_0 X dX10_count_73 ?_
                  refine z_iconst Z dX10_count_76 ?_
                  refine ldM_1 X dX10_count_77 h (fun x1 h => ?_)
                  refine z_aload_n Z dX10_count_78 rfl 0 rfl ?_
                  obtain ⟨r_1, M3, hf1, h⟩ := z_cld h
                  refine z_callVi (Wd := wM cI cZ ad) X (c_X10_wordsOf hf1) ml_X10_237 yd_X10_wordsOf yw_X10_wordsOf (by omega) (by decide) (rM_0 X) rfl rfl (Nat.le_of_ble_eq_true rfl) ⟨Nat.zero_le _, Nat.zero_le _⟩ dX10_count_79 ?_
                  refine z_isub Z dX10_count_82 ?_
                  exact z_iret X hr hlk dX10_count_83 h
                · obtain ⟨hx, -, h⟩ := z_eqd h
                  rcases h with ⟨e0, h⟩ | ⟨n7, h⟩
                  · refine z_tableIn (tgt := 84) Z dX10_count_1 hx (by omega) (by omega) (by rw [e0]; rfl) (by decide) ?_
                    refine z_aload_n Z dX10_count_84 rfl 0 rfl ?_
                    obtain ⟨r_2, M4, hf2, h⟩ := z_cld h
                    refine z_callVi (Wd := wM cI cZ ad) X (c_X10_freeItems hf2) ml_X10_249 yd_X10_freeItems yw_X10_freeItems (by omega) (by decide) (rM_0 X) rfl rfl (Nat.le_of_ble_eq_true rfl) ⟨Nat.zero_le _, Nat.zero_le _⟩ dX10_count_85 ?_
                    exact z_iret X hr hlk dX10_count_88 h
                  · obtain ⟨hx, -, h⟩ := z_eqd h
                    rcases h with ⟨e0, h⟩ | ⟨n8, h⟩
                    · refine z_tableIn (tgt := 89) Z dX10_count_1 hx (by omega) (by omega) (by rw [e0]; rfl) (by decide) ?_
                      refine z_aload_n Z dX10_count_89 rfl 0 rfl ?_
                      refine gM_X10_7_0 X dX10_count_90 ?_
                      refine z_bipush Z dX10_count_93 rfl ?_
                      refine ldM_1 X dX10_count_95 h (fun x2 h => ?_)
                      exact z_iret X hr hlk dX10_count_96 h
                    · obtain ⟨hx, -, h⟩ := z_eqd h
                      rcases h with ⟨e0, h⟩ | ⟨n9, h⟩
                      · refine z_tableIn (tgt := 97) Z dX10_count_1 hx (by omega) (by omega) (by rw [e0]; rfl) (by decide) ?_
                        refine z_aload_n Z dX10_count_97 rfl 0 rfl ?_
                        refine gM_X10_7_0 X dX10_count_98 ?_
                        refine z_bipush Z dX10_count_101 rfl ?_
                        refine ldM_1 X dX10_count_103 h (fun x3 h => ?_)
                        exact z_iret X hr hlk dX10_count_104 h
                      · obtain ⟨hx, -, h⟩ := z_eqd h
                        rcases h with ⟨e0, h⟩ | ⟨n10, h⟩
                        · refine z_tableIn (tgt := 105) Z dX10_count_1 hx (by omega) (by omega) (by rw [e0]; rfl) (by decide) ?_
                          refine z_aload_n Z dX10_count_105 rfl 0 rfl ?_
                          refine gM_X10_93_0 X dX10_count_106 ?_
                          exact z_iret X hr hlk dX10_count_109 h
                        · refine z_tableOut (tgt := 110) Z dX10_count_1 hx (by omega) (by decide) ?_
                          refine z_iconst Z dX10_count_110 ?_
                          exact z_iret X hr hlk dX10_count_111 h
set_option maxRecDepth 100000 in
set_option maxHeartbeats 4000000 in
theorem c_X10_isItem {l : Launch} {D : va_G} {cI cZ : ClassId} {ad adK adV : Nat → Nat} {v1 : Int} {M M' : zMem} {r : Int} (h : Model_isItem v1 M = some (r, M')) : z_Ct (wM cI cZ ad) D cI cZ adK adV l yX10_isItem cX10_isItem 2 (some .boolean) 2 [.ref (ad 0), .int (z_I v1)] M M' (some (.int (z_I r))) := by
  unfold Model_isItem at h
  refine z_entry (own := RX10) rfl (by decide) (Nat.le_of_ble_eq_true rfl) ?_
  intro p e s m args below meth c R A X hr hlk
  have Z := X.1
  refine z_sub (lv' := [(0, .ref (ad 0)), (1, .int (z_I v1))]) [0, 1] rfl ?_
  refine z_iload_n Z dX10_isItem_0 rfl 1 rfl ?_
  refine z_i2l Z dX10_isItem_1 h (fun x0 h => ?_)
  refine z_lconst (x := 0) Z dX10_isItem_2 rfl ?_
  refine z_aload_n Z dX10_isItem_3 rfl 0 rfl ?_
  refine gM_X10_7_0 X dX10_isItem_4 ?_
  refine z_iconst Z dX10_isItem_7 ?_
  refine ldM_1 X dX10_isItem_8 h (fun x1 h => ?_)
  refine z_iconst Z dX10_isItem_9 ?_
  refine z_isub Z dX10_isItem_10 ?_
  refine z_i2l Z dX10_isItem_11 h (fun x2 h => ?_)
  obtain ⟨r_, M1, hf, h⟩ := z_cld h
  refine z_callSi (Wd := wM cI cZ ad) X (c_X10_in hf) ml_X10_96 yd_X10_in yw_X10_in (by omega) (by decide) rfl rfl (Nat.le_of_ble_eq_true rfl) ⟨Nat.zero_le _, Nat.zero_le _⟩ dX10_isItem_12 ?_
  exact z_zretn X hr hlk dX10_isItem_15 h
set_option maxRecDepth 100000 in
set_option maxHeartbeats 4000000 in
theorem c_X10_item {l : Launch} {D : va_G} {cI cZ : ClassId} {ad adK adV : Nat → Nat} {v1 v2 : Int} {M M' : zMem} {r : Int} (h : Model_item v1 v2 M = some (r, M')) : z_Ct (wM cI cZ ad) D cI cZ adK adV l yX10_item cX10_item 3 (some .int) 3 [.ref (ad 0), .int (z_I v1), .int (z_I v2)] M M' (some (.int (z_I r))) := by
  unfold Model_item at h
  refine z_entry (own := RX10) rfl (by decide) (Nat.le_of_ble_eq_true rfl) ?_
  intro p e s m args below meth c R A X hr hlk
  have Z := X.1
  refine z_sub (lv' := [(0, .ref (ad 0)), (1, .int (z_I v1)), (2, .int (z_I v2))]) [0, 1, 2] rfl ?_
  refine z_aload_n Z dX10_item_0 rfl 0 rfl ?_
  refine z_iload_n Z dX10_item_1 rfl 1 rfl ?_
  obtain ⟨r_, M1, hf, h⟩ := z_cld h
  refine z_callVi (Wd := wM cI cZ ad) X (c_X10_isItem hf) ml_X10_252 yd_X10_isItem yw_X10_isItem (by omega) (by decide) (rM_0 X) rfl rfl (Nat.le_of_ble_eq_true rfl) ⟨Nat.zero_le _, Nat.zero_le _⟩ dX10_item_2 ?_
  refine z_if_ne (tgt := 11) Z dX10_item_5 (by decide) h (fun h => ?_) (fun h => ?_)
  · refine z_iload_n Z dX10_item_11 rfl 2 rfl ?_
    obtain ⟨hx, -, h⟩ := z_eqd h
    rcases h with ⟨e0, h⟩ | ⟨n0, h⟩
    · refine z_tableIn (tgt := 44) Z dX10_item_12 hx (by omega) (by omega) (by rw [e0]; rfl) (by decide) ?_
      refine z_aload_n Z dX10_item_44 rfl 0 rfl ?_
      refine gM_X10_7_0 X dX10_item_45 ?_
      refine z_bipush Z dX10_item_48 rfl ?_
      refine z_iload_n Z dX10_item_50 rfl 1 rfl ?_
      refine z_iadd Z dX10_item_51 ?_
      refine ldM_1 X dX10_item_52 h (fun x0 h => ?_)
      exact z_iret X hr hlk dX10_item_53 h
    · obtain ⟨hx, -, h⟩ := z_eqd h
      rcases h with ⟨e0, h⟩ | ⟨n1, h⟩
      · refine z_tableIn (tgt := 54) Z dX10_item_12 hx (by omega) (by omega) (by rw [e0]; rfl) (by decide) ?_
        refine z_aload_n Z dX10_item_54 rfl 0 rfl ?_
        refine gM_X10_7_0 X dX10_item_55 ?_
        refine z_sipush Z dX10_item_58 rfl ?_
        refine z_iload_n Z dX10_item_61 rfl 1 rfl ?_
        refine z_iadd Z dX10_item_62 ?_
        refine ldM_1 X dX10_item_63 h (fun x1 h => ?_)
        exact z_iret X hr hlk dX10_item_64 h
      · obtain ⟨hx, -, h⟩ := z_eqd h
        rcases h with ⟨e0, h⟩ | ⟨n2, h⟩
        · refine z_tableIn (tgt := 65) Z dX10_item_12 hx (by omega) (by omega) (by rw [e0]; rfl) (by decide) ?_
          refine z_aload_n Z dX10_item_65 rfl 0 rfl ?_
          refine gM_X10_7_0 X dX10_item_66 ?_
          refine z_sipush Z dX10_item_69 rfl ?_
          refine z_iload_n Z dX10_item_72 rfl 1 rfl ?_
          refine z_iadd Z dX10_item_73 ?_
          refine ldM_1 X dX10_item_74 h (fun x2 h => ?_)
          refine z_iconst Z dX10_item_75 ?_
          refine z_icmp_ne (tgt := 83) Z dX10_item_76 (by decide) h (fun h => ?_) (fun h => ?_)
          · refine z_iconst Z dX10_item_83 ?_
            exact z_iret X hr hlk dX10_item_84 h
          · refine z_iconst Z dX10_item_79 ?_
            refine z_goto (tgt := 84) Z dX10_item_80 (by decide) ?_
            exact z_iret X hr hlk dX10_item_84 h
        · obtain ⟨hx, -, h⟩ := z_eqd h
          rcases h with ⟨e0, h⟩ | ⟨n3, h⟩
          · refine z_tableIn (tgt := 85) Z dX10_item_12 hx (by omega) (by omega) (by rw [e0]; rfl) (by decide) ?_
            refine z_aload_n Z dX10_item_85 rfl 0 rfl ?_
            refine gM_X10_7_0 X dX10_item_86 ?_
            refine z_bipush Z dX10_item_89 rfl ?_
            refine z_iload_n Z dX10_item_91 rfl 1 rfl ?_
            refine z_iadd Z dX10_item_92 ?_
            refine ldM_1 X dX10_item_93 h (fun x3 h => ?_)
            refine z_iconst Z dX10_item_94 ?_
            refine z_icmp_ne (tgt := 110) Z dX10_item_95 (by decide) h (fun h => ?_) (fun h => ?_)
            · refine z_iconst Z dX10_item_110 ?_
              exact z_iret X hr hlk dX10_item_111 h
            · refine z_aload_n Z dX10_item_98 rfl 0 rfl ?_
              refine gM_X10_7_0 X dX10_item_99 ?_
              refine z_bipush Z dX10_item_102 rfl ?_
              refine z_iload_n Z dX10_item_104 rfl 1 rfl ?_
              refine z_iadd Z dX10_item_105 ?_
              refine ldM_1 X dX10_item_106 h (fun x4 h => ?_)
              refine z_goto (tgt := 111) Z dX10_item_107 (by decide) ?_
              exact z_iret X hr hlk dX10_item_111 h
          · refine z_tableOut (tgt := 112) Z dX10_item_12 hx (by omega) (by decide) ?_
            refine z_bipush Z dX10_item_112 rfl ?_
            exact z_iret X hr hlk dX10_item_114 h
  · refine z_bipush Z dX10_item_8 rfl ?_
    exact z_iret X hr hlk dX10_item_10 h
set_option maxRecDepth 100000 in
set_option maxHeartbeats 4000000 in
theorem wModel_itemAt_2 {p : Program} {l : Launch} {e : Env} {R : Room} {s : State} {m : MethodId} {args : Array Value} {below : List Frame} {meth : Method} {c : Code} {D : va_G} {A : Nat → Prop} {cI cZ : ClassId} {adK adV ad : Nat → Nat} {r : Int} {M' : zMem} (X : z_X p m c cX10_itemAt 3 s args RX10 R 1 D cI cZ A adK adV) (hr : meth.sig.returnType = some .int) (hlk : meth.locks = false) (N : Nat) (v1 : Int) (k : zMem → zO) (hk : ∀ (M : zMem), k M = some (r, M') → z_V p l e R s m args below meth c D A cI cZ 3 (wM cI cZ ad) M' (some (.int (z_I r))) M 34 [] []) : ∀ (n : Nat) (v2 : Int) (M : zMem), Model_itemAt_2 N v1 k n v2 M = some (r, M') → z_V p l e R s m args below meth c D A cI cZ 3 (wM cI cZ ad) M' (some (.int (z_I r))) M 2 [(0, .ref (ad 0)), (1, .int (z_I v1)), (2, .int (z_I v2))] [] := by
  have Z := X.1
  intro n
  induction n with
  | zero =>
    intro v2 M h
    rw [Model_itemAt_2] at h
    cases h
  | succ n ih =>
    intro v2 M h
    rw [Model_itemAt_2] at h
    refine z_iload_n Z dX10_itemAt_2 rfl 2 rfl ?_
    refine z_aload_n Z dX10_itemAt_3 rfl 0 rfl ?_
    refine gM_X10_7_0 X dX10_itemAt_4 ?_
    refine z_iconst Z dX10_itemAt_7 ?_
    refine ldM_1 X dX10_itemAt_8 h (fun x0 h => ?_)
    refine z_icmp_ge (tgt := 34) Z dX10_itemAt_9 (by decide) h (fun h => ?_) (fun h => ?_)
    · refine z_sub [] rfl ?_
      exact hk M h
    · refine z_aload_n Z dX10_itemAt_12 rfl 0 rfl ?_
      refine gM_X10_7_0 X dX10_itemAt_13 ?_
      refine z_sipush Z dX10_itemAt_16 rfl ?_
      refine z_iload_n Z dX10_itemAt_19 rfl 2 rfl ?_
      refine z_iadd Z dX10_itemAt_20 ?_
      refine ldM_1 X dX10_itemAt_21 h (fun x1 h => ?_)
      refine z_iload_n Z dX10_itemAt_22 rfl 1 rfl ?_
      refine z_icmp_ne (tgt := 28) Z dX10_itemAt_23 (by decide) h (fun h => ?_) (fun h => ?_)
      · refine z_iincn Z (fun z => [(2, .int (z_I z)), (0, .ref (ad 0)), (1, .int (z_I v1))]) dX10_itemAt_28 (k := 2) rfl (by decide) (fun _ => rfl) h (fun v2_ h => ?_)
        refine z_goto (tgt := 2) Z dX10_itemAt_31 (by decide) ?_
        refine z_sub [1, 2, 0] rfl ?_
        exact ih v2_ M h
      · refine z_iload_n Z dX10_itemAt_26 rfl 2 rfl ?_
        exact z_iret X hr hlk dX10_itemAt_27 h
set_option maxRecDepth 100000 in
set_option maxHeartbeats 4000000 in
theorem c_X10_itemAt {l : Launch} {D : va_G} {cI cZ : ClassId} {ad adK adV : Nat → Nat} {N : Nat} {v1 : Int} {M M' : zMem} {r : Int} (h : Model_itemAt N v1 M = some (r, M')) : z_Ct (wM cI cZ ad) D cI cZ adK adV l yX10_itemAt cX10_itemAt 3 (some .int) 1 [.ref (ad 0), .int (z_I v1)] M M' (some (.int (z_I r))) := by
  unfold Model_itemAt at h
  refine z_entry (own := RX10) rfl (by decide) (Nat.le_of_ble_eq_true rfl) ?_
  intro p e s m args below meth c R A X hr hlk
  have Z := X.1
  refine z_sub (lv' := [(0, .ref (ad 0)), (1, .int (z_I v1))]) [0, 1] rfl ?_
  refine z_iconst Z dX10_itemAt_0 ?_
  refine z_istore_n (lv' := [(2, .int (z_I 0)), (0, .ref (ad 0)), (1, .int (z_I v1))]) Z dX10_itemAt_1 rfl (by decide) rfl ?_
  refine z_jnr (P := fun (k : zMem → zO) => ∀ (M1 : zMem), k M1 = some (r, M') → z_V p l e R s m args below meth c D A cI cZ 3 (wM cI cZ ad) M' (some (.int (z_I r))) M1 34 [] []) h ?_ ?_
  · intro M1 h
    refine z_iconst Z dX10_itemAt_34 ?_
    exact z_iret X hr hlk dX10_itemAt_35 h
  · intro k0 hk0 h
    refine z_sub [1, 2, 0] rfl ?_
    exact wModel_itemAt_2 X hr hlk N v1 k0 hk0 N 0 M h
set_option maxRecDepth 100000 in
set_option maxHeartbeats 4000000 in
theorem c_X10_at {l : Launch} {D : va_G} {cI cZ : ClassId} {ad adK adV : Nat → Nat} {N : Nat} {v1 : Int} {M M' : zMem} {r : Int} (h : Model_at N v1 M = some (r, M')) : z_Ct (wM cI cZ ad) D cI cZ adK adV l yX10_at cX10_at 2 (some .int) 2 [.ref (ad 0), .int (z_I v1)] M M' (some (.int (z_I r))) := by
  unfold Model_at at h
  refine z_entry (own := RX10) rfl (by decide) (Nat.le_of_ble_eq_true rfl) ?_
  intro p e s m args below meth c R A X hr hlk
  have Z := X.1
  refine z_sub (lv' := [(0, .ref (ad 0)), (1, .int (z_I v1))]) [0, 1] rfl ?_
  refine z_iload_n Z dX10_at_0 rfl 1 rfl ?_
  refine z_i2l Z dX10_at_1 h (fun x0 h => ?_)
  refine z_lconst (x := 0) Z dX10_at_2 rfl ?_
  refine z_aload_n Z dX10_at_3 rfl 0 rfl ?_
  obtain ⟨r_, M1, hf, h⟩ := z_cld h
  refine z_callVi (Wd := wM cI cZ ad) X (c_X10_many hf) ml_X10_218 yd_X10_many yw_X10_many (by omega) (by decide) (rM_0 X) rfl rfl (Nat.le_of_ble_eq_true rfl) ⟨Nat.zero_le _, Nat.zero_le _⟩ dX10_at_4 ?_
  refine z_iconst Z dX10_at_7 ?_
  refine z_isub Z dX10_at_8 ?_
  refine z_i2l Z dX10_at_9 h (fun x1 h => ?_)
  obtain ⟨r_1, M2, hf1, h⟩ := z_cld h
  refine z_callSi (Wd := wM cI cZ ad) X (c_X10_in hf1) ml_X10_96 yd_X10_in yw_X10_in (by omega) (by decide) rfl rfl (Nat.le_of_ble_eq_true rfl) ⟨Nat.zero_le _, Nat.zero_le _⟩ dX10_at_10 ?_
  refine z_if_eq (tgt := 24) Z dX10_at_13 (by decide) h (fun h => ?_) (fun h => ?_)
  · refine z_bipush Z dX10_at_24 rfl ?_
    exact z_iret X hr hlk dX10_at_26 h
  · refine z_aload_n Z dX10_at_16 rfl 0 rfl ?_
    refine z_iload_n Z dX10_at_17 rfl 1 rfl ?_
    obtain ⟨r_2, M3, hf2, h⟩ := z_cld h
    refine z_callVi (Wd := wM cI cZ ad) X (c_X10_itemAt hf2) ml_X10_255 yd_X10_itemAt yw_X10_itemAt (by omega) (by decide) (rM_0 X) rfl rfl (Nat.le_of_ble_eq_true rfl) ⟨Nat.zero_le _, Nat.zero_le _⟩ dX10_at_18 ?_
    refine z_goto (tgt := 26) Z dX10_at_21 (by decide) ?_
    exact z_iret X hr hlk dX10_at_26 h
set_option maxRecDepth 100000 in
set_option maxHeartbeats 4000000 in
theorem c_X10_steps {l : Launch} {D : va_G} {cI cZ : ClassId} {ad adK adV : Nat → Nat} {N : Nat} {M M' : zMem} {r : Int} (h : Model_steps N M = some (r, M')) : z_Ct (wM cI cZ ad) D cI cZ adK adV l yX10_steps cX10_steps 1 (some .int) 6 [.ref (ad 0)] M M' (some (.int (z_I r))) := by
  unfold Model_steps at h
  refine z_entry (own := RX10) rfl (by decide) (Nat.le_of_ble_eq_true rfl) ?_
  intro p e s m args below meth c R A X hr hlk
  have Z := X.1
  refine z_sub (lv' := [(0, .ref (ad 0))]) [0] rfl ?_
  refine z_aload_n Z dX10_steps_0 rfl 0 rfl ?_
  obtain ⟨r_, M1, hf, h⟩ := z_cld h
  refine z_callVi (Wd := wM cI cZ ad) X (c_X10_hasRun hf) ml_X10_307 yd_X10_hasRun yw_X10_hasRun (by omega) (by decide) (rM_0 X) rfl rfl (Nat.le_of_ble_eq_true rfl) ⟨Nat.zero_le _, Nat.zero_le _⟩ dX10_steps_1 ?_
  refine z_if_ne (tgt := 10) Z dX10_steps_4 (by decide) h (fun h => ?_) (fun h => ?_)
  · refine z_aload_n Z dX10_steps_10 rfl 0 rfl ?_
    obtain ⟨u_, M2, hf1, h⟩ := z_cld h
    refine z_callVv (Wd := wM cI cZ ad) X (c_X10_runs hf1) ml_X10_301 yd_X10_runs yw_X10_runs (by omega) (by decide) (rM_0 X) rfl rfl (Nat.le_of_ble_eq_true rfl) ⟨Nat.zero_le _, Nat.zero_le _⟩ dX10_steps_11 ?_
    refine z_aload_n Z dX10_steps_14 rfl 0 rfl ?_
    refine gM_X10_263_0 X dX10_steps_15 ?_
    exact z_iret X hr hlk dX10_steps_18 h
  · refine z_bipush Z dX10_steps_7 rfl ?_
    exact z_iret X hr hlk dX10_steps_9 h
set_option maxRecDepth 100000 in
set_option maxHeartbeats 4000000 in
theorem c_X10_why {l : Launch} {D : va_G} {cI cZ : ClassId} {ad adK adV : Nat → Nat} {N : Nat} {M M' : zMem} {r : Int} (h : Model_why N M = some (r, M')) : z_Ct (wM cI cZ ad) D cI cZ adK adV l yX10_why cX10_why 1 (some .int) 6 [.ref (ad 0)] M M' (some (.int (z_I r))) := by
  unfold Model_why at h
  refine z_entry (own := RX10) rfl (by decide) (Nat.le_of_ble_eq_true rfl) ?_
  intro p e s m args below meth c R A X hr hlk
  have Z := X.1
  refine z_sub (lv' := [(0, .ref (ad 0))]) [0] rfl ?_
  refine z_aload_n Z dX10_why_0 rfl 0 rfl ?_
  obtain ⟨r_, M1, hf, h⟩ := z_cld h
  refine z_callVi (Wd := wM cI cZ ad) X (c_X10_hasRun hf) ml_X10_307 yd_X10_hasRun yw_X10_hasRun (by omega) (by decide) (rM_0 X) rfl rfl (Nat.le_of_ble_eq_true rfl) ⟨Nat.zero_le _, Nat.zero_le _⟩ dX10_why_1 ?_
  refine z_if_ne (tgt := 10) Z dX10_why_4 (by decide) h (fun h => ?_) (fun h => ?_)
  · refine z_aload_n Z dX10_why_10 rfl 0 rfl ?_
    obtain ⟨u_, M2, hf1, h⟩ := z_cld h
    refine z_callVv (Wd := wM cI cZ ad) X (c_X10_runs hf1) ml_X10_301 yd_X10_runs yw_X10_runs (by omega) (by decide) (rM_0 X) rfl rfl (Nat.le_of_ble_eq_true rfl) ⟨Nat.zero_le _, Nat.zero_le _⟩ dX10_why_11 ?_
    refine z_aload_n Z dX10_why_14 rfl 0 rfl ?_
    refine gM_X10_269_0 X dX10_why_15 ?_
    exact z_iret X hr hlk dX10_why_18 h
  · refine z_bipush Z dX10_why_7 rfl ?_
    exact z_iret X hr hlk dX10_why_9 h
set_option maxRecDepth 100000 in
set_option maxHeartbeats 4000000 in
theorem c_X10_acc {l : Launch} {D : va_G} {cI cZ : ClassId} {ad adK adV : Nat → Nat} {N : Nat} {M M' : zMem} {r : Int} (h : Model_acc N M = some (r, M')) : z_Ct (wM cI cZ ad) D cI cZ adK adV l yX10_acc cX10_acc 1 (some .int) 6 [.ref (ad 0)] M M' (some (.int (z_I r))) := by
  unfold Model_acc at h
  refine z_entry (own := RX10) rfl (by decide) (Nat.le_of_ble_eq_true rfl) ?_
  intro p e s m args below meth c R A X hr hlk
  have Z := X.1
  refine z_sub (lv' := [(0, .ref (ad 0))]) [0] rfl ?_
  refine z_aload_n Z dX10_acc_0 rfl 0 rfl ?_
  obtain ⟨r_, M1, hf, h⟩ := z_cld h
  refine z_callVi (Wd := wM cI cZ ad) X (c_X10_hasRun hf) ml_X10_307 yd_X10_hasRun yw_X10_hasRun (by omega) (by decide) (rM_0 X) rfl rfl (Nat.le_of_ble_eq_true rfl) ⟨Nat.zero_le _, Nat.zero_le _⟩ dX10_acc_1 ?_
  refine z_if_ne (tgt := 11) Z dX10_acc_4 (by decide) h (fun h => ?_) (fun h => ?_)
  · refine z_aload_n Z dX10_acc_11 rfl 0 rfl ?_
    obtain ⟨u_, M2, hf1, h⟩ := z_cld h
    refine z_callVv (Wd := wM cI cZ ad) X (c_X10_runs hf1) ml_X10_301 yd_X10_runs yw_X10_runs (by omega) (by decide) (rM_0 X) rfl rfl (Nat.le_of_ble_eq_true rfl) ⟨Nat.zero_le _, Nat.zero_le _⟩ dX10_acc_12 ?_
    refine z_aload_n Z dX10_acc_15 rfl 0 rfl ?_
    refine gM_X10_266_0 X dX10_acc_16 ?_
    exact z_iret X hr hlk dX10_acc_19 h
  · refine z_sipush Z dX10_acc_7 rfl ?_
    exact z_iret X hr hlk dX10_acc_10 h
set_option maxRecDepth 100000 in
set_option maxHeartbeats 4000000 in
theorem c_X10_value {l : Launch} {D : va_G} {cI cZ : ClassId} {ad adK adV : Nat → Nat} {N : Nat} {v1 : Int} {M M' : zMem} {r : Int} (h : Model_value N v1 M = some (r, M')) : z_Ct (wM cI cZ ad) D cI cZ adK adV l yX10_value cX10_value 2 (some .int) 6 [.ref (ad 0), .int (z_I v1)] M M' (some (.int (z_I r))) := by
  unfold Model_value at h
  refine z_entry (own := RX10) rfl (by decide) (Nat.le_of_ble_eq_true rfl) ?_
  intro p e s m args below meth c R A X hr hlk
  have Z := X.1
  refine z_sub (lv' := [(0, .ref (ad 0)), (1, .int (z_I v1))]) [0, 1] rfl ?_
  refine z_aload_n Z dX10_value_0 rfl 0 rfl ?_
  obtain ⟨r_, M1, hf, h⟩ := z_cld h
  refine z_callVi (Wd := wM cI cZ ad) X (c_X10_hasRun hf) ml_X10_307 yd_X10_hasRun yw_X10_hasRun (by omega) (by decide) (rM_0 X) rfl rfl (Nat.le_of_ble_eq_true rfl) ⟨Nat.zero_le _, Nat.zero_le _⟩ dX10_value_1 ?_
  refine z_jnr (P := fun (k : zMem → zO) => ∀ (M2 : zMem), k M2 = some (r, M') → z_V p l e R s m args below meth c D A cI cZ 2 (wM cI cZ ad) M' (some (.int (z_I r))) M2 28 [] []) h ?_ ?_
  · intro M2 h
    refine z_sipush Z dX10_value_28 rfl ?_
    exact z_iret X hr hlk dX10_value_31 h
  · intro k0 hk0 h
    refine z_if_eq (tgt := 28) Z dX10_value_4 (by decide) h (fun h => ?_) (fun h => ?_)
    · refine z_sub [] rfl ?_
      exact hk0 M1 h
    · refine z_aload_n Z dX10_value_7 rfl 0 rfl ?_
      refine z_iload_n Z dX10_value_8 rfl 1 rfl ?_
      obtain ⟨r_1, M3, hf1, h⟩ := z_cld h
      refine z_callVi (Wd := wM cI cZ ad) X (c_X10_isItem hf1) ml_X10_252 yd_X10_isItem yw_X10_isItem (by omega) (by decide) (rM_0 X) rfl rfl (Nat.le_of_ble_eq_true rfl) ⟨Nat.zero_le _, Nat.zero_le _⟩ dX10_value_9 ?_
      refine z_if_eq (tgt := 28) Z dX10_value_12 (by decide) h (fun h => ?_) (fun h => ?_)
      · refine z_sub [] rfl ?_
        exact hk0 M3 h
      · refine z_aload_n Z dX10_value_15 rfl 0 rfl ?_
        refine gM_X10_7_0 X dX10_value_16 ?_
        refine z_bipush Z dX10_value_19 rfl ?_
        refine z_iload_n Z dX10_value_21 rfl 1 rfl ?_
        refine z_iadd Z dX10_value_22 ?_
        refine ldM_1 X dX10_value_23 h (fun x0 h => ?_)
        refine z_iconst Z dX10_value_24 ?_
        refine z_icmp_ne (tgt := 32) Z dX10_value_25 (by decide) h (fun h => ?_) (fun h => ?_)
        · refine z_aload_n Z dX10_value_32 rfl 0 rfl ?_
          obtain ⟨u_, M4, hf2, h⟩ := z_cld h
          refine z_callVv (Wd := wM cI cZ ad) X (c_X10_runs hf2) ml_X10_301 yd_X10_runs yw_X10_runs (by omega) (by decide) (rM_0 X) rfl rfl (Nat.le_of_ble_eq_true rfl) ⟨Nat.zero_le _, Nat.zero_le _⟩ dX10_value_33 ?_
          refine z_aload_n Z dX10_value_36 rfl 0 rfl ?_
          refine gM_X10_66_0 X dX10_value_37 ?_
          refine z_iload_n Z dX10_value_40 rfl 1 rfl ?_
          refine ldM_18 X dX10_value_41 h (fun x1 h => ?_)
          exact z_iret X hr hlk dX10_value_42 h
        · refine z_sub [] rfl ?_
          exact hk0 M3 h
set_option maxRecDepth 100000 in
set_option maxHeartbeats 4000000 in
theorem c_X10_timeNow {l : Launch} {D : va_G} {cI cZ : ClassId} {ad adK adV : Nat → Nat} {N : Nat} {M M' : zMem} {r : Int} (h : Model_timeNow N M = some (r, M')) : z_Ct (wM cI cZ ad) D cI cZ adK adV l yX10_timeNow cX10_timeNow 1 (some .int) 6 [.ref (ad 0)] M M' (some (.int (z_I r))) := by
  unfold Model_timeNow at h
  refine z_entry (own := RX10) rfl (by decide) (Nat.le_of_ble_eq_true rfl) ?_
  intro p e s m args below meth c R A X hr hlk
  have Z := X.1
  refine z_sub (lv' := [(0, .ref (ad 0))]) [0] rfl ?_
  refine z_aload_n Z dX10_timeNow_0 rfl 0 rfl ?_
  obtain ⟨u_, M1, hf, h⟩ := z_cld h
  refine z_callVv (Wd := wM cI cZ ad) X (c_X10_takes hf) ml_X10_298 yd_X10_takes yw_X10_takes (by omega) (by decide) (rM_0 X) rfl rfl (Nat.le_of_ble_eq_true rfl) ⟨Nat.zero_le _, Nat.zero_le _⟩ dX10_timeNow_1 ?_
  refine z_aload_n Z dX10_timeNow_4 rfl 0 rfl ?_
  obtain ⟨u_1, M2, hf1, h⟩ := z_cld h
  refine z_callVv (Wd := wM cI cZ ad) X (c_X10_runs hf1) ml_X10_301 yd_X10_runs yw_X10_runs (by omega) (by decide) (rM_0 X) rfl rfl (Nat.le_of_ble_eq_true rfl) ⟨Nat.zero_le _, Nat.zero_le _⟩ dX10_timeNow_5 ?_
  refine z_aload_n Z dX10_timeNow_8 rfl 0 rfl ?_
  obtain ⟨r_, M3, hf2, h⟩ := z_cld h
  refine z_callVi (Wd := wM cI cZ ad) X (c_X10_timed hf2) ml_X10_304 yd_X10_timed yw_X10_timed (by omega) (by decide) (rM_0 X) rfl rfl (Nat.le_of_ble_eq_true rfl) ⟨Nat.zero_le _, Nat.zero_le _⟩ dX10_timeNow_9 ?_
  exact z_iret X hr hlk dX10_timeNow_12 h
set_option maxRecDepth 100000 in
set_option maxHeartbeats 4000000 in
theorem c_X10_done {l : Launch} {D : va_G} {cI cZ : ClassId} {ad adK adV : Nat → Nat} {N : Nat} {v1 v2 : Int} {M M' : zMem} {r : Int} (h : Model_done N v1 v2 M = some (r, M')) : z_Ct (wM cI cZ ad) D cI cZ adK adV l yX10_done cX10_done 4 (some .int) 7 [.ref (ad 0), .int (z_I v1), .int (z_I v2)] M M' (some (.int (z_I r))) := by
  unfold Model_done at h
  refine z_entry (own := RX10) rfl (by decide) (Nat.le_of_ble_eq_true rfl) ?_
  intro p e s m args below meth c R A X hr hlk
  have Z := X.1
  refine z_sub (lv' := [(0, .ref (ad 0)), (1, .int (z_I v1)), (2, .int (z_I v2))]) [0, 1, 2] rfl ?_
  refine z_aload_n Z dX10_done_0 rfl 0 rfl ?_
  obtain ⟨r_, M1, hf, h⟩ := z_cld h
  refine z_callVi (Wd := wM cI cZ ad) X (c_X10_hasRun hf) ml_X10_307 yd_X10_hasRun yw_X10_hasRun (by omega) (by decide) (rM_0 X) rfl rfl (Nat.le_of_ble_eq_true rfl) ⟨Nat.zero_le _, Nat.zero_le _⟩ dX10_done_1 ?_
  refine z_jnr (P := fun (k : zMem → zO) => ∀ (M2 : zMem), k M2 = some (r, M') → z_V p l e R s m args below meth c D A cI cZ 4 (wM cI cZ ad) M' (some (.int (z_I r))) M2 23 [] []) h ?_ ?_
  · intro M2 h
    refine z_sipush Z dX10_done_23 rfl ?_
    exact z_iret X hr hlk dX10_done_26 h
  · intro k0 hk0 h
    refine z_if_eq (tgt := 23) Z dX10_done_4 (by decide) h (fun h => ?_) (fun h => ?_)
    · refine z_sub [] rfl ?_
      exact hk0 M1 h
    · refine z_iload_n Z dX10_done_7 rfl 1 rfl ?_
      refine z_if_lt (tgt := 23) Z dX10_done_8 (by decide) h (fun h => ?_) (fun h => ?_)
      · refine z_sub [] rfl ?_
        exact hk0 M1 h
      · refine z_iload_n Z dX10_done_11 rfl 2 rfl ?_
        refine z_i2l Z dX10_done_12 h (fun x0 h => ?_)
        refine z_lconst (x := 0) Z dX10_done_13 rfl ?_
        refine z_ldc2 Z dX10_done_14 cn_X10_311 ?_
        obtain ⟨r_1, M3, hf1, h⟩ := z_cld h
        refine z_callSi (Wd := wM cI cZ ad) X (c_X10_in hf1) ml_X10_96 yd_X10_in yw_X10_in (by omega) (by decide) rfl rfl (Nat.le_of_ble_eq_true rfl) ⟨Nat.zero_le _, Nat.zero_le _⟩ dX10_done_17 ?_
        refine z_if_ne (tgt := 27) Z dX10_done_20 (by decide) h (fun h => ?_) (fun h => ?_)
        · refine z_aload_n Z dX10_done_27 rfl 0 rfl ?_
          obtain ⟨r_2, M4, hf2, h⟩ := z_cld h
          refine z_callVi (Wd := wM cI cZ ad) X (c_X10_timeNow hf2) ml_X10_313 yd_X10_timeNow yw_X10_timeNow (by omega) (by decide) (rM_0 X) rfl rfl (Nat.le_of_ble_eq_true rfl) ⟨Nat.zero_le _, Nat.zero_le _⟩ dX10_done_28 ?_
          refine z_istore_n (lv' := [(3, .int (z_I r_2)), (0, .ref (ad 0)), (1, .int (z_I v1)), (2, .int (z_I v2))]) Z dX10_done_31 rfl (by decide) rfl ?_
          refine z_iload_n Z dX10_done_32 rfl 2 rfl ?_
          refine z_aload_n Z dX10_done_33 rfl 1 rfl ?_
          refine gM_X10_263_0 X dX10_done_34 ?_
          refine z_icmp_lt (tgt := 44) Z dX10_done_37 (by decide) h (fun h => ?_) (fun h => ?_)
          · refine z_iload_n Z dX10_done_44 rfl 3 rfl ?_
            obtain ⟨hx, -, h⟩ := z_eqd h
            rcases h with ⟨e0, h⟩ | ⟨n0, h⟩
            · refine z_tableIn (tgt := 76) Z dX10_done_45 hx (by omega) (by omega) (by rw [e0]; rfl) (by decide) ?_
              refine z_aload_n Z dX10_done_76 rfl 1 rfl ?_
              refine gM_X10_54_0 X dX10_done_77 ?_
              refine z_iload_n Z dX10_done_80 rfl 2 rfl ?_
              refine ldM_14 X dX10_done_81 h (fun x1 h => ?_)
              exact z_iret X hr hlk dX10_done_82 h
            · obtain ⟨hx, -, h⟩ := z_eqd h
              rcases h with ⟨e0, h⟩ | ⟨n1, h⟩
              · refine z_tableIn (tgt := 83) Z dX10_done_45 hx (by omega) (by omega) (by rw [e0]; rfl) (by decide) ?_
                refine z_aload_n Z dX10_done_83 rfl 1 rfl ?_
                refine gM_X10_57_0 X dX10_done_84 ?_
                refine z_iload_n Z dX10_done_87 rfl 2 rfl ?_
                refine ldM_15 X dX10_done_88 h (fun x2 h => ?_)
                exact z_iret X hr hlk dX10_done_89 h
              · obtain ⟨hx, -, h⟩ := z_eqd h
                rcases h with ⟨e0, h⟩ | ⟨n2, h⟩
                · refine z_tableIn (tgt := 90) Z dX10_done_45 hx (by omega) (by omega) (by rw [e0]; rfl) (by decide) ?_
                  refine z_aload_n Z dX10_done_90 rfl 1 rfl ?_
                  refine gM_X10_51_0 X dX10_done_91 ?_
                  refine z_aload_n Z dX10_done_94 rfl 1 rfl ?_
                  refine gM_X10_60_0 X dX10_done_95 ?_
                  refine z_iload_n Z dX10_done_98 rfl 2 rfl ?_
                  refine ldM_16 X dX10_done_99 h (fun x3 h => ?_)
                  refine ldM_13 X dX10_done_100 h (fun x4 h => ?_)
                  exact z_iret X hr hlk dX10_done_101 h
                · obtain ⟨hx, -, h⟩ := z_eqd h
                  rcases h with ⟨e0, h⟩ | ⟨n3, h⟩
                  · refine z_tableIn (tgt := 102) Z dX10_done_45 hx (by omega) (by omega) (by rw [e0]; rfl) (by decide) ?_
                    refine z_aload_n Z dX10_done_102 rfl 1 rfl ?_
                    refine gM_X10_57_0 X dX10_done_103 ?_
                    refine z_iload_n Z dX10_done_106 rfl 2 rfl ?_
                    refine ldM_15 X dX10_done_107 h (fun x5 h => ?_)
                    refine z_iconst Z dX10_done_108 ?_
                    refine z_icmp_ne (tgt := 116) Z dX10_done_109 (by decide) h (fun h => ?_) (fun h => ?_)
                    · refine z_aload_n Z dX10_done_116 rfl 1 rfl ?_
                      refine gM_X10_51_0 X dX10_done_117 ?_
                      refine z_aload_n Z dX10_done_120 rfl 1 rfl ?_
                      refine gM_X10_60_0 X dX10_done_121 ?_
                      refine z_iload_n Z dX10_done_124 rfl 2 rfl ?_
                      refine ldM_16 X dX10_done_125 h (fun x6 h => ?_)
                      refine z_iconst Z dX10_done_126 ?_
                      refine z_iadd Z dX10_done_127 ?_
                      refine ldM_13 X dX10_done_128 h (fun x7 h => ?_)
                      exact z_iret X hr hlk dX10_done_129 h
                    · refine z_iconst Z dX10_done_112 ?_
                      refine z_goto (tgt := 129) Z dX10_done_113 (by decide) ?_
                      exact z_iret X hr hlk dX10_done_129 h
                  · refine z_tableOut (tgt := 130) Z dX10_done_45 hx (by omega) (by decide) ?_
                    refine z_aload_n Z dX10_done_130 rfl 1 rfl ?_
                    refine gM_X10_63_0 X dX10_done_131 ?_
                    refine z_iload_n Z dX10_done_134 rfl 2 rfl ?_
                    refine ldM_17 X dX10_done_135 h (fun x8 h => ?_)
                    exact z_iret X hr hlk dX10_done_136 h
          · refine z_sipush Z dX10_done_40 rfl ?_
            exact z_iret X hr hlk dX10_done_43 h
        · refine z_sub [] rfl ?_
          exact hk0 M3 h
set_option maxRecDepth 100000 in
set_option maxHeartbeats 4000000 in
theorem c_X10_time {l : Launch} {D : va_G} {cI cZ : ClassId} {ad adK adV : Nat → Nat} {N : Nat} {M M' : zMem} {r : Int} (h : Model_time N M = some (r, M')) : z_Ct (wM cI cZ ad) D cI cZ adK adV l yX10_time cX10_time 1 (some .int) 7 [.ref (ad 0)] M M' (some (.int (z_I r))) := by
  unfold Model_time at h
  refine z_entry (own := RX10) rfl (by decide) (Nat.le_of_ble_eq_true rfl) ?_
  intro p e s m args below meth c R A X hr hlk
  have Z := X.1
  refine z_sub (lv' := [(0, .ref (ad 0))]) [0] rfl ?_
  refine z_aload_n Z dX10_time_0 rfl 0 rfl ?_
  obtain ⟨r_, M1, hf, h⟩ := z_cld h
  refine z_callVi (Wd := wM cI cZ ad) X (c_X10_hasRun hf) ml_X10_307 yd_X10_hasRun yw_X10_hasRun (by omega) (by decide) (rM_0 X) rfl rfl (Nat.le_of_ble_eq_true rfl) ⟨Nat.zero_le _, Nat.zero_le _⟩ dX10_time_1 ?_
  refine z_if_eq (tgt := 14) Z dX10_time_4 (by decide) h (fun h => ?_) (fun h => ?_)
  · refine z_bipush Z dX10_time_14 rfl ?_
    exact z_iret X hr hlk dX10_time_16 h
  · refine z_aload_n Z dX10_time_7 rfl 0 rfl ?_
    obtain ⟨r_1, M2, hf1, h⟩ := z_cld h
    refine z_callVi (Wd := wM cI cZ ad) X (c_X10_timeNow hf1) ml_X10_313 yd_X10_timeNow yw_X10_timeNow (by omega) (by decide) (rM_0 X) rfl rfl (Nat.le_of_ble_eq_true rfl) ⟨Nat.zero_le _, Nat.zero_le _⟩ dX10_time_8 ?_
    refine z_goto (tgt := 16) Z dX10_time_11 (by decide) ?_
    exact z_iret X hr hlk dX10_time_16 h
set_option maxRecDepth 100000 in
set_option maxHeartbeats 4000000 in
theorem c_X10_rounds {l : Launch} {D : va_G} {cI cZ : ClassId} {ad adK adV : Nat → Nat} {N : Nat} {M M' : zMem} {r : Int} (h : Model_rounds N M = some (r, M')) : z_Ct (wM cI cZ ad) D cI cZ adK adV l yX10_rounds cX10_rounds 1 (some .int) 7 [.ref (ad 0)] M M' (some (.int (z_I r))) := by
  unfold Model_rounds at h
  refine z_entry (own := RX10) rfl (by decide) (Nat.le_of_ble_eq_true rfl) ?_
  intro p e s m args below meth c R A X hr hlk
  have Z := X.1
  refine z_sub (lv' := [(0, .ref (ad 0))]) [0] rfl ?_
  refine z_aload_n Z dX10_rounds_0 rfl 0 rfl ?_
  obtain ⟨r_, M1, hf, h⟩ := z_cld h
  refine z_callVi (Wd := wM cI cZ ad) X (c_X10_hasRun hf) ml_X10_307 yd_X10_hasRun yw_X10_hasRun (by omega) (by decide) (rM_0 X) rfl rfl (Nat.le_of_ble_eq_true rfl) ⟨Nat.zero_le _, Nat.zero_le _⟩ dX10_rounds_1 ?_
  refine z_if_eq (tgt := 21) Z dX10_rounds_4 (by decide) h (fun h => ?_) (fun h => ?_)
  · refine z_bipush Z dX10_rounds_21 rfl ?_
    exact z_iret X hr hlk dX10_rounds_23 h
  · refine z_aload_n Z dX10_rounds_7 rfl 0 rfl ?_
    obtain ⟨r_1, M2, hf1, h⟩ := z_cld h
    refine z_callVi (Wd := wM cI cZ ad) X (c_X10_timeNow hf1) ml_X10_313 yd_X10_timeNow yw_X10_timeNow (by omega) (by decide) (rM_0 X) rfl rfl (Nat.le_of_ble_eq_true rfl) ⟨Nat.zero_le _, Nat.zero_le _⟩ dX10_rounds_8 ?_
    refine z_aload_n Z dX10_rounds_11 rfl 0 rfl ?_
    refine gM_X10_7_0 X dX10_rounds_12 ?_
    refine z_iconst Z dX10_rounds_15 ?_
    refine ldM_1 X dX10_rounds_16 h (fun x0 h => ?_)
    refine z_idiv Z dX10_rounds_17 h (fun x1 h => ?_)
    refine z_goto (tgt := 23) Z dX10_rounds_18 (by decide) ?_
    exact z_iret X hr hlk dX10_rounds_23 h
set_option maxRecDepth 100000 in
set_option maxHeartbeats 4000000 in
theorem c_X10_lostAt {l : Launch} {D : va_G} {cI cZ : ClassId} {ad adK adV : Nat → Nat} {v1 : Int} {M M' : zMem} {r : Int} (h : Model_lostAt v1 M = some (r, M')) : z_Ct (wM cI cZ ad) D cI cZ adK adV l yX10_lostAt cX10_lostAt 2 (some .int) 2 [.ref (ad 0), .int (z_I v1)] M M' (some (.int (z_I r))) := by
  unfold Model_lostAt at h
  refine z_entry (own := RX10) rfl (by decide) (Nat.le_of_ble_eq_true rfl) ?_
  intro p e s m args below meth c R A X hr hlk
  have Z := X.1
  refine z_sub (lv' := [(0, .ref (ad 0)), (1, .int (z_I v1))]) [0, 1] rfl ?_
  refine z_aload_n Z dX10_lostAt_0 rfl 0 rfl ?_
  refine gM_X10_51_0 X dX10_lostAt_1 ?_
  refine z_iload_n Z dX10_lostAt_4 rfl 1 rfl ?_
  refine ldM_13 X dX10_lostAt_5 h (fun x0 h => ?_)
  refine z_iload_n Z dX10_lostAt_6 rfl 1 rfl ?_
  refine z_jnr (P := fun (k : Int → Int → zMem → zO) => ∀ (x1 x2 : Int) (M1 : zMem), k x1 x2 M1 = some (r, M') → z_V p l e R s m args below meth c D A cI cZ 2 (wM cI cZ ad) M' (some (.int (z_I r))) M1 33 [] [.int (z_I x1), .int (z_I x2)]) h ?_ ?_
  · intro x1 x2 M1 h
    refine z_isub Z dX10_lostAt_33 ?_
    exact z_iret X hr hlk dX10_lostAt_34 h
  · intro k0 hk0 h
    refine z_if_ne (tgt := 14) Z dX10_lostAt_7 (by decide) h (fun h => ?_) (fun h => ?_)
    · refine z_aload_n Z dX10_lostAt_14 rfl 0 rfl ?_
      refine gM_X10_51_0 X dX10_lostAt_15 ?_
      refine z_iload_n Z dX10_lostAt_18 rfl 1 rfl ?_
      refine z_iconst Z dX10_lostAt_19 ?_
      refine z_isub Z dX10_lostAt_20 ?_
      refine ldM_13 X dX10_lostAt_21 h (fun x3 h => ?_)
      refine z_aload_n Z dX10_lostAt_22 rfl 0 rfl ?_
      refine z_aload_n Z dX10_lostAt_23 rfl 0 rfl ?_
      refine gM_X10_48_0 X dX10_lostAt_24 ?_
      refine z_iload_n Z dX10_lostAt_27 rfl 1 rfl ?_
      refine ldM_12 X dX10_lostAt_28 h (fun x4 h => ?_)
      obtain ⟨r_, M2, hf, h⟩ := z_cld h
      refine z_callVi (Wd := wM cI cZ ad) X (c_X10_waited hf) ml_X10_292 yd_X10_waited yw_X10_waited (by omega) (by decide) (rM_0 X) rfl rfl (Nat.le_of_ble_eq_true rfl) ⟨Nat.zero_le _, Nat.zero_le _⟩ dX10_lostAt_29 ?_
      refine z_iadd Z dX10_lostAt_32 ?_
      refine z_sub [] rfl ?_
      exact hk0 (x3 + r_) x0 M2 h
    · refine z_iconst Z dX10_lostAt_10 ?_
      refine z_goto (tgt := 33) Z dX10_lostAt_11 (by decide) ?_
      refine z_sub [] rfl ?_
      exact hk0 0 x0 M h
set_option maxRecDepth 100000 in
set_option maxHeartbeats 4000000 in
theorem wModel_lostOf_4 {p : Program} {l : Launch} {e : Env} {R : Room} {s : State} {m : MethodId} {args : Array Value} {below : List Frame} {meth : Method} {c : Code} {D : va_G} {A : Nat → Prop} {cI cZ : ClassId} {adK adV ad : Nat → Nat} {r : Int} {M' : zMem} (X : z_X p m c cX10_lostOf 4 s args RX10 R 3 D cI cZ A adK adV) (hr : meth.sig.returnType = some .int) (hlk : meth.locks = false) (N : Nat) (v1 : Int) (k : Int → zMem → zO) (hk : ∀ (y2 : Int) (M : zMem), k y2 M = some (r, M') → z_V p l e R s m args below meth c D A cI cZ 4 (wM cI cZ ad) M' (some (.int (z_I r))) M 45 [(2, .int (z_I y2))] []) : ∀ (n : Nat) (v2 v3 : Int) (M : zMem), Model_lostOf_4 N v1 k n v2 v3 M = some (r, M') → z_V p l e R s m args below meth c D A cI cZ 4 (wM cI cZ ad) M' (some (.int (z_I r))) M 4 [(0, .ref (ad 0)), (1, .int (z_I v1)), (2, .int (z_I v2)), (3, .int (z_I v3))] [] := by
  have Z := X.1
  intro n
  induction n with
  | zero =>
    intro v2 v3 M h
    rw [Model_lostOf_4] at h
    cases h
  | succ n ih =>
    intro v2 v3 M h
    rw [Model_lostOf_4] at h
    refine z_iload_n Z dX10_lostOf_4 rfl 3 rfl ?_
    refine z_aload_n Z dX10_lostOf_5 rfl 0 rfl ?_
    refine gM_X10_261_0 X dX10_lostOf_6 ?_
    refine z_icmp_ge (tgt := 45) Z dX10_lostOf_9 (by decide) h (fun h => ?_) (fun h => ?_)
    · refine z_sub [2] rfl ?_
      exact hk v2 M h
    · refine z_iload_n Z dX10_lostOf_12 rfl 2 rfl ?_
      refine z_iload_n Z dX10_lostOf_13 rfl 1 rfl ?_
      refine z_iconst Z dX10_lostOf_14 ?_
      refine z_jnr (P := fun (k : Int → Int → zMem → zO) => ∀ (x0 x1 : Int) (M1 : zMem), k x0 x1 M1 = some (r, M') → z_V p l e R s m args below meth c D A cI cZ 4 (wM cI cZ ad) M' (some (.int (z_I r))) M1 37 [(0, .ref (ad 0)), (1, .int (z_I v1)), (3, .int (z_I v3))] [.int (z_I x0), .int (z_I x1)]) h ?_ ?_
      · intro x0 x1 M1 h
        refine z_iadd Z dX10_lostOf_37 ?_
        refine z_nmI h (fun v2_ h => ?_)
        refine z_istore_n (lv' := [(2, .int (z_I v2_)), (0, .ref (ad 0)), (1, .int (z_I v1)), (3, .int (z_I v3))]) Z dX10_lostOf_38 rfl (by decide) rfl ?_
        refine z_iincn Z (fun z => [(3, .int (z_I z)), (2, .int (z_I v2_)), (0, .ref (ad 0)), (1, .int (z_I v1))]) dX10_lostOf_39 (k := 3) rfl (by decide) (fun _ => rfl) h (fun v3_ h => ?_)
        refine z_goto (tgt := 4) Z dX10_lostOf_42 (by decide) ?_
        refine z_sub [2, 3, 1, 0] rfl ?_
        exact ih v2_ v3_ M1 h
      · intro k1 hk1 h
        refine z_jnr (P := fun (k : Int → zMem → zO) => ∀ (x2 : Int) (M2 : zMem), k x2 M2 = some (r, M') → z_V p l e R s m args below meth c D A cI cZ 4 (wM cI cZ ad) M' (some (.int (z_I r))) M2 28 [(0, .ref (ad 0)), (1, .int (z_I v1)), (3, .int (z_I v3))] [.int (z_I x2)]) h ?_ ?_
        · intro x2 M2 h
          refine z_aload_n Z dX10_lostOf_28 rfl 0 rfl ?_
          refine z_iload_n Z dX10_lostOf_29 rfl 2 rfl ?_
          obtain ⟨r_, M3, hf, h⟩ := z_cld h
          refine z_callVi (Wd := wM cI cZ ad) X (c_X10_lostAt hf) ml_X10_316 yd_X10_lostAt yw_X10_lostAt (by omega) (by decide) (rM_0 X) rfl rfl (Nat.le_of_ble_eq_true rfl) ⟨Nat.zero_le _, Nat.zero_le _⟩ dX10_lostOf_30 ?_
          refine z_goto (tgt := 37) Z dX10_lostOf_33 (by decide) ?_
          refine z_sub [0, 1, 2] rfl ?_
          exact hk1 r_ x2 M3 h
        · intro k2 hk2 h
          refine z_icmp_eq (tgt := 28) Z dX10_lostOf_15 (by decide) h (fun h => ?_) (fun h => ?_)
          · refine z_sub [0, 1, 3] rfl ?_
            exact hk2 v2 M h
          · refine z_aload_n Z dX10_lostOf_18 rfl 0 rfl ?_
            refine gM_X10_45_0 X dX10_lostOf_19 ?_
            refine z_iload_n Z dX10_lostOf_22 rfl 3 rfl ?_
            refine ldM_11 X dX10_lostOf_23 h (fun x3 h => ?_)
            refine z_iload_n Z dX10_lostOf_24 rfl 1 rfl ?_
            refine z_icmp_ne (tgt := 36) Z dX10_lostOf_25 (by decide) h (fun h => ?_) (fun h => ?_)
            · refine z_iconst Z dX10_lostOf_36 ?_
              refine z_sub [0, 1, 3] rfl ?_
              exact hk1 0 v2 M h
            · refine z_sub [0, 1, 3] rfl ?_
              exact hk2 v2 M h
set_option maxRecDepth 100000 in
set_option maxHeartbeats 4000000 in
theorem c_X10_lostOf {l : Launch} {D : va_G} {cI cZ : ClassId} {ad adK adV : Nat → Nat} {N : Nat} {v1 : Int} {M M' : zMem} {r : Int} (h : Model_lostOf N v1 M = some (r, M')) : z_Ct (wM cI cZ ad) D cI cZ adK adV l yX10_lostOf cX10_lostOf 4 (some .int) 3 [.ref (ad 0), .int (z_I v1)] M M' (some (.int (z_I r))) := by
  unfold Model_lostOf at h
  refine z_entry (own := RX10) rfl (by decide) (Nat.le_of_ble_eq_true rfl) ?_
  intro p e s m args below meth c R A X hr hlk
  have Z := X.1
  refine z_sub (lv' := [(0, .ref (ad 0)), (1, .int (z_I v1))]) [0, 1] rfl ?_
  refine z_iconst Z dX10_lostOf_0 ?_
  refine z_istore_n (lv' := [(2, .int (z_I 0)), (0, .ref (ad 0)), (1, .int (z_I v1))]) Z dX10_lostOf_1 rfl (by decide) rfl ?_
  refine z_iconst Z dX10_lostOf_2 ?_
  refine z_istore_n (lv' := [(3, .int (z_I 0)), (2, .int (z_I 0)), (0, .ref (ad 0)), (1, .int (z_I v1))]) Z dX10_lostOf_3 rfl (by decide) rfl ?_
  refine z_jnr (P := fun (k : Int → zMem → zO) => ∀ (v2_ : Int) (M1 : zMem), k v2_ M1 = some (r, M') → z_V p l e R s m args below meth c D A cI cZ 4 (wM cI cZ ad) M' (some (.int (z_I r))) M1 45 [(2, .int (z_I v2_))] []) h ?_ ?_
  · intro v2_ M1 h
    refine z_iload_n Z dX10_lostOf_45 rfl 0 rfl ?_
    exact z_iret X hr hlk dX10_lostOf_46 h
  · intro k0 hk0 h
    refine z_sub [2, 3, 1, 0] rfl ?_
    exact wModel_lostOf_4 X hr hlk N v1 k0 hk0 N 0 0 M h
set_option maxRecDepth 100000 in
set_option maxHeartbeats 4000000 in
theorem c_X10_lost {l : Launch} {D : va_G} {cI cZ : ClassId} {ad adK adV : Nat → Nat} {N : Nat} {M M' : zMem} {r : Int} (h : Model_lost N M = some (r, M')) : z_Ct (wM cI cZ ad) D cI cZ adK adV l yX10_lost cX10_lost 2 (some .int) 7 [.ref (ad 0)] M M' (some (.int (z_I r))) := by
  unfold Model_lost at h
  refine z_entry (own := RX10) rfl (by decide) (Nat.le_of_ble_eq_true rfl) ?_
  intro p e s m args below meth c R A X hr hlk
  have Z := X.1
  refine z_sub (lv' := [(0, .ref (ad 0))]) [0] rfl ?_
  refine z_aload_n Z dX10_lost_0 rfl 0 rfl ?_
  obtain ⟨r_, M1, hf, h⟩ := z_cld h
  refine z_callVi (Wd := wM cI cZ ad) X (c_X10_hasRun hf) ml_X10_307 yd_X10_hasRun yw_X10_hasRun (by omega) (by decide) (rM_0 X) rfl rfl (Nat.le_of_ble_eq_true rfl) ⟨Nat.zero_le _, Nat.zero_le _⟩ dX10_lost_1 ?_
  refine z_if_ne (tgt := 10) Z dX10_lost_4 (by decide) h (fun h => ?_) (fun h => ?_)
  · refine z_aload_n Z dX10_lost_10 rfl 0 rfl ?_
    obtain ⟨r_1, M2, hf1, h⟩ := z_cld h
    refine z_callVi (Wd := wM cI cZ ad) X (c_X10_timeNow hf1) ml_X10_313 yd_X10_timeNow yw_X10_timeNow (by omega) (by decide) (rM_0 X) rfl rfl (Nat.le_of_ble_eq_true rfl) ⟨Nat.zero_le _, Nat.zero_le _⟩ dX10_lost_11 ?_
    refine z_istore_n (lv' := [(1, .int (z_I r_1)), (0, .ref (ad 0))]) Z dX10_lost_14 rfl (by decide) rfl ?_
    refine z_aload_n Z dX10_lost_15 rfl 1 rfl ?_
    refine z_iconst Z dX10_lost_16 ?_
    obtain ⟨r_2, M3, hf2, h⟩ := z_cld h
    refine z_callVi (Wd := wM cI cZ ad) X (c_X10_lostOf hf2) ml_X10_319 yd_X10_lostOf yw_X10_lostOf (by omega) (by decide) (rM_0 X) rfl rfl (Nat.le_of_ble_eq_true rfl) ⟨Nat.zero_le _, Nat.zero_le _⟩ dX10_lost_17 ?_
    exact z_iret X hr hlk dX10_lost_20 h
  · refine z_bipush Z dX10_lost_7 rfl ?_
    exact z_iret X hr hlk dX10_lost_9 h
