/-! the machine does what the pure programs say -/
set_option maxRecDepth 100000 in
set_option maxHeartbeats 4000000 in
theorem c_X10_lostFor {l : Launch} {D : va_G} {cI cZ : ClassId} {ad adK adV : Nat → Nat} {N : Nat} {v1 : Int} {M M' : zMem} {r : Int} (h : Model_lostFor N v1 M = some (r, M')) : z_Ct (wM cI cZ ad) D cI cZ adK adV l yX10_lostFor cX10_lostFor 3 (some .int) 7 [.ref (ad 0), .int (z_I v1)] M M' (some (.int (z_I r))) := by
  unfold Model_lostFor at h
  refine z_entry (own := RX10) rfl (by decide) (Nat.le_of_ble_eq_true rfl) ?_
  intro p e s m args below meth c R A X hr hlk
  have Z := X.1
  refine z_sub (lv' := [(0, .ref (ad 0)), (1, .int (z_I v1))]) [0, 1] rfl ?_
  refine z_aload_n Z dX10_lostFor_0 rfl 0 rfl ?_
  obtain ⟨r_, M1, hf, h⟩ := z_cld h
  refine z_callVi (Wd := wM cI cZ ad) X (c_X10_hasRun hf) ml_X10_307 yd_X10_hasRun yw_X10_hasRun (by omega) (by decide) (rM_0 X) rfl rfl (Nat.le_of_ble_eq_true rfl) ⟨Nat.zero_le _, Nat.zero_le _⟩ dX10_lostFor_1 ?_
  refine z_if_eq (tgt := 15) Z dX10_lostFor_4 (by decide) h (fun h => ?_) (fun h => ?_)
  · refine z_bipush Z dX10_lostFor_15 rfl ?_
    exact z_iret X hr hlk dX10_lostFor_17 h
  · refine z_aload_n Z dX10_lostFor_7 rfl 0 rfl ?_
    refine z_iload_n Z dX10_lostFor_8 rfl 1 rfl ?_
    obtain ⟨r_1, M2, hf1, h⟩ := z_cld h
    refine z_callVi (Wd := wM cI cZ ad) X (c_X10_isItem hf1) ml_X10_252 yd_X10_isItem yw_X10_isItem (by omega) (by decide) (rM_0 X) rfl rfl (Nat.le_of_ble_eq_true rfl) ⟨Nat.zero_le _, Nat.zero_le _⟩ dX10_lostFor_9 ?_
    refine z_if_ne (tgt := 18) Z dX10_lostFor_12 (by decide) h (fun h => ?_) (fun h => ?_)
    · refine z_aload_n Z dX10_lostFor_18 rfl 0 rfl ?_
      obtain ⟨r_2, M3, hf2, h⟩ := z_cld h
      refine z_callVi (Wd := wM cI cZ ad) X (c_X10_timeNow hf2) ml_X10_313 yd_X10_timeNow yw_X10_timeNow (by omega) (by decide) (rM_0 X) rfl rfl (Nat.le_of_ble_eq_true rfl) ⟨Nat.zero_le _, Nat.zero_le _⟩ dX10_lostFor_19 ?_
      refine z_istore_n (lv' := [(2, .int (z_I r_2)), (0, .ref (ad 0)), (1, .int (z_I v1))]) Z dX10_lostFor_22 rfl (by decide) rfl ?_
      refine z_aload_n Z dX10_lostFor_23 rfl 1 rfl ?_
      refine z_iload_n Z dX10_lostFor_24 rfl 2 rfl ?_
      obtain ⟨r_3, M4, hf3, h⟩ := z_cld h
      refine z_callVi (Wd := wM cI cZ ad) X (c_X10_lostOf hf3) ml_X10_319 yd_X10_lostOf yw_X10_lostOf (by omega) (by decide) (rM_0 X) rfl rfl (Nat.le_of_ble_eq_true rfl) ⟨Nat.zero_le _, Nat.zero_le _⟩ dX10_lostFor_25 ?_
      exact z_iret X hr hlk dX10_lostFor_28 h
    · refine z_bipush Z dX10_lostFor_15 rfl ?_
      exact z_iret X hr hlk dX10_lostFor_17 h
set_option maxRecDepth 100000 in
set_option maxHeartbeats 4000000 in
theorem wModel_worst_19 {p : Program} {l : Launch} {e : Env} {R : Room} {s : State} {m : MethodId} {args : Array Value} {below : List Frame} {meth : Method} {c : Code} {D : va_G} {A : Nat → Prop} {cI cZ : ClassId} {adK adV ad : Nat → Nat} {r : Int} {M' : zMem} (X : z_X p m c cX10_worst 4 s args RX10 R 7 D cI cZ A adK adV) (hr : meth.sig.returnType = some .int) (hlk : meth.locks = false) (N : Nat) (k : Int → zMem → zO) (hk : ∀ (y2 : Int) (M : zMem), k y2 M = some (r, M') → z_V p l e R s m args below meth c D A cI cZ 4 (wM cI cZ ad) M' (some (.int (z_I r))) M 63 [(2, .int (z_I y2))] []) : ∀ (n : Nat) (v2 v3 : Int) (M : zMem), Model_worst_19 N k n v2 v3 M = some (r, M') → z_V p l e R s m args below meth c D A cI cZ 4 (wM cI cZ ad) M' (some (.int (z_I r))) M 19 [(0, .ref (ad 0)), (2, .int (z_I v2)), (3, .int (z_I v3))] [] := by
  have Z := X.1
  intro n
  induction n with
  | zero =>
    intro v2 v3 M h
    rw [Model_worst_19] at h
    cases h
  | succ n ih =>
    intro v2 v3 M h
    rw [Model_worst_19] at h
    refine z_iload_n Z dX10_worst_19 rfl 2 rfl ?_
    refine z_aload_n Z dX10_worst_20 rfl 0 rfl ?_
    refine gM_X10_7_0 X dX10_worst_21 ?_
    refine z_iconst Z dX10_worst_24 ?_
    refine ldM_1 X dX10_worst_25 h (fun x0 h => ?_)
    refine z_icmp_ge (tgt := 63) Z dX10_worst_26 (by decide) h (fun h => ?_) (fun h => ?_)
    · refine z_sub [1] rfl ?_
      exact hk v2 M h
    · refine z_aload_n Z dX10_worst_29 rfl 0 rfl ?_
      refine z_iload_n Z dX10_worst_30 rfl 2 rfl ?_
      obtain ⟨r_, M1, hf, h⟩ := z_cld h
      refine z_callVi (Wd := wM cI cZ ad) X (c_X10_lostOf hf) ml_X10_319 yd_X10_lostOf yw_X10_lostOf (by omega) (by decide) (rM_0 X) rfl rfl (Nat.le_of_ble_eq_true rfl) ⟨Nat.zero_le _, Nat.zero_le _⟩ dX10_worst_31 ?_
      refine z_iload_n Z dX10_worst_34 rfl 1 rfl ?_
      refine z_iconst Z dX10_worst_35 ?_
      refine z_jnr (P := fun (k : Int → Int → zMem → zO) => ∀ (x1 x2 : Int) (M2 : zMem), k x1 x2 M2 = some (r, M') → z_V p l e R s m args below meth c D A cI cZ 4 (wM cI cZ ad) M' (some (.int (z_I r))) M2 48 [(0, .ref (ad 0)), (2, .int (z_I v2)), (3, .int (z_I v3))] [.int (z_I x1), .int (z_I x2)]) h ?_ ?_
      · intro x1 x2 M2 h
        refine z_jnr (P := fun (k : Int → zMem → zO) => ∀ (x3 : Int) (M3 : zMem), k x3 M3 = some (r, M') → z_V p l e R s m args below meth c D A cI cZ 4 (wM cI cZ ad) M' (some (.int (z_I r))) M3 56 [(0, .ref (ad 0)), (3, .int (z_I v3))] [.int (z_I x3)]) h ?_ ?_
        · intro x3 M3 h
          refine z_istore_n (lv' := [(2, .int (z_I x3)), (0, .ref (ad 0)), (3, .int (z_I v3))]) Z dX10_worst_56 rfl (by decide) rfl ?_
          refine z_iincn Z (fun z => [(3, .int (z_I z)), (2, .int (z_I x3)), (0, .ref (ad 0))]) dX10_worst_57 (k := 2) rfl (by decide) (fun _ => rfl) h (fun v3_ h => ?_)
          refine z_goto (tgt := 19) Z dX10_worst_60 (by decide) ?_
          refine z_sub [2, 1, 0] rfl ?_
          exact ih x3 v3_ M3 h
        · intro k2 hk2 h
          refine z_icmp_le (tgt := 55) Z dX10_worst_48 (by decide) h (fun h => ?_) (fun h => ?_)
          · refine z_iload_n Z dX10_worst_55 rfl 1 rfl ?_
            refine z_sub [0, 2] rfl ?_
            exact hk2 v2 M2 h
          · refine z_iload_n Z dX10_worst_51 rfl 2 rfl ?_
            refine z_goto (tgt := 56) Z dX10_worst_52 (by decide) ?_
            refine z_sub [0, 2] rfl ?_
            exact hk2 v3 M2 h
      · intro k1 hk1 h
        refine z_icmp_ne (tgt := 43) Z dX10_worst_36 (by decide) h (fun h => ?_) (fun h => ?_)
        · refine z_aload_n Z dX10_worst_43 rfl 0 rfl ?_
          refine z_iload_n Z dX10_worst_44 rfl 1 rfl ?_
          obtain ⟨r_1, M4, hf1, h⟩ := z_cld h
          refine z_callVi (Wd := wM cI cZ ad) X (c_X10_lostOf hf1) ml_X10_319 yd_X10_lostOf yw_X10_lostOf (by omega) (by decide) (rM_0 X) rfl rfl (Nat.le_of_ble_eq_true rfl) ⟨Nat.zero_le _, Nat.zero_le _⟩ dX10_worst_45 ?_
          refine z_sub [0, 1, 2] rfl ?_
          exact hk1 r_1 r_ M4 h
        · refine z_iconst Z dX10_worst_39 ?_
          refine z_goto (tgt := 48) Z dX10_worst_40 (by decide) ?_
          refine z_sub [0, 1, 2] rfl ?_
          exact hk1 0 r_ M1 h
set_option maxRecDepth 100000 in
set_option maxHeartbeats 4000000 in
theorem c_X10_worst {l : Launch} {D : va_G} {cI cZ : ClassId} {ad adK adV : Nat → Nat} {N : Nat} {M M' : zMem} {r : Int} (h : Model_worst N M = some (r, M')) : z_Ct (wM cI cZ ad) D cI cZ adK adV l yX10_worst cX10_worst 4 (some .int) 7 [.ref (ad 0)] M M' (some (.int (z_I r))) := by
  unfold Model_worst at h
  refine z_entry (own := RX10) rfl (by decide) (Nat.le_of_ble_eq_true rfl) ?_
  intro p e s m args below meth c R A X hr hlk
  have Z := X.1
  refine z_sub (lv' := [(0, .ref (ad 0))]) [0] rfl ?_
  refine z_aload_n Z dX10_worst_0 rfl 0 rfl ?_
  obtain ⟨r_, M1, hf, h⟩ := z_cld h
  refine z_callVi (Wd := wM cI cZ ad) X (c_X10_hasRun hf) ml_X10_307 yd_X10_hasRun yw_X10_hasRun (by omega) (by decide) (rM_0 X) rfl rfl (Nat.le_of_ble_eq_true rfl) ⟨Nat.zero_le _, Nat.zero_le _⟩ dX10_worst_1 ?_
  refine z_if_ne (tgt := 10) Z dX10_worst_4 (by decide) h (fun h => ?_) (fun h => ?_)
  · refine z_aload_n Z dX10_worst_10 rfl 0 rfl ?_
    obtain ⟨r_1, M2, hf1, h⟩ := z_cld h
    refine z_callVi (Wd := wM cI cZ ad) X (c_X10_timeNow hf1) ml_X10_313 yd_X10_timeNow yw_X10_timeNow (by omega) (by decide) (rM_0 X) rfl rfl (Nat.le_of_ble_eq_true rfl) ⟨Nat.zero_le _, Nat.zero_le _⟩ dX10_worst_11 ?_
    refine z_istore_n (lv' := [(1, .int (z_I r_1)), (0, .ref (ad 0))]) Z dX10_worst_14 rfl (by decide) rfl ?_
    refine z_iconst Z dX10_worst_15 ?_
    refine z_istore_n (lv' := [(2, .int (z_I (-1))), (1, .int (z_I r_1)), (0, .ref (ad 0))]) Z dX10_worst_16 rfl (by decide) rfl ?_
    refine z_iconst Z dX10_worst_17 ?_
    refine z_istore_n (lv' := [(3, .int (z_I 0)), (2, .int (z_I (-1))), (1, .int (z_I r_1)), (0, .ref (ad 0))]) Z dX10_worst_18 rfl (by decide) rfl ?_
    refine z_jnr (P := fun (k : Int → zMem → zO) => ∀ (v2_ : Int) (M3 : zMem), k v2_ M3 = some (r, M') → z_V p l e R s m args below meth c D A cI cZ 4 (wM cI cZ ad) M' (some (.int (z_I r))) M3 63 [(2, .int (z_I v2_))] []) h ?_ ?_
    · intro v2_ M3 h
      refine z_iload_n Z dX10_worst_63 rfl 0 rfl ?_
      exact z_iret X hr hlk dX10_worst_64 h
    · intro k0 hk0 h
      refine z_sub [3, 1, 0] rfl ?_
      exact wModel_worst_19 X hr hlk N k0 hk0 N (-1) 0 M2 h
  · refine z_bipush Z dX10_worst_7 rfl ?_
    exact z_iret X hr hlk dX10_worst_9 h
set_option maxRecDepth 100000 in
set_option maxHeartbeats 4000000 in
theorem wModel_met_26 {p : Program} {l : Launch} {e : Env} {R : Room} {s : State} {m : MethodId} {args : Array Value} {below : List Frame} {meth : Method} {c : Code} {D : va_G} {A : Nat → Prop} {cI cZ : ClassId} {adK adV ad : Nat → Nat} {r : Int} {M' : zMem} (X : z_X p m c cX10_met 4 s args RX10 R 6 D cI cZ A adK adV) (hr : meth.sig.returnType = some .int) (hlk : meth.locks = false) (N : Nat) (v1 : Int) (k : Int → zMem → zO) (hk : ∀ (y2 : Int) (M : zMem), k y2 M = some (r, M') → z_V p l e R s m args below meth c D A cI cZ 4 (wM cI cZ ad) M' (some (.int (z_I r))) M 58 [(2, .int (z_I y2))] []) : ∀ (n : Nat) (v2 v3 : Int) (M : zMem), Model_met_26 N v1 k n v2 v3 M = some (r, M') → z_V p l e R s m args below meth c D A cI cZ 4 (wM cI cZ ad) M' (some (.int (z_I r))) M 26 [(0, .ref (ad 0)), (1, .int (z_I v1)), (2, .int (z_I v2)), (3, .int (z_I v3))] [] := by
  have Z := X.1
  intro n
  induction n with
  | zero =>
    intro v2 v3 M h
    rw [Model_met_26] at h
    cases h
  | succ n ih =>
    intro v2 v3 M h
    rw [Model_met_26] at h
    refine z_iload_n Z dX10_met_26 rfl 3 rfl ?_
    refine z_aload_n Z dX10_met_27 rfl 0 rfl ?_
    refine gM_X10_261_0 X dX10_met_28 ?_
    refine z_icmp_ge (tgt := 58) Z dX10_met_31 (by decide) h (fun h => ?_) (fun h => ?_)
    · refine z_sub [2] rfl ?_
      exact hk v2 M h
    · refine z_iload_n Z dX10_met_34 rfl 2 rfl ?_
      refine z_aload_n Z dX10_met_35 rfl 0 rfl ?_
      refine gM_X10_45_0 X dX10_met_36 ?_
      refine z_iload_n Z dX10_met_39 rfl 3 rfl ?_
      refine ldM_11 X dX10_met_40 h (fun x0 h => ?_)
      refine z_iload_n Z dX10_met_41 rfl 1 rfl ?_
      refine z_jnr (P := fun (k : Int → Int → zMem → zO) => ∀ (x1 x2 : Int) (M1 : zMem), k x1 x2 M1 = some (r, M') → z_V p l e R s m args below meth c D A cI cZ 4 (wM cI cZ ad) M' (some (.int (z_I r))) M1 50 [(0, .ref (ad 0)), (1, .int (z_I v1)), (3, .int (z_I v3))] [.int (z_I x1), .int (z_I x2)]) h ?_ ?_
      · intro x1 x2 M1 h
        refine z_iadd Z dX10_met_50 ?_
        refine z_nmI h (fun v2_ h => ?_)
        refine z_istore_n (lv' := [(2, .int (z_I v2_)), (0, .ref (ad 0)), (1, .int (z_I v1)), (3, .int (z_I v3))]) Z dX10_met_51 rfl (by decide) rfl ?_
        refine z_iincn Z (fun z => [(3, .int (z_I z)), (2, .int (z_I v2_)), (0, .ref (ad 0)), (1, .int (z_I v1))]) dX10_met_52 (k := 3) rfl (by decide) (fun _ => rfl) h (fun v3_ h => ?_)
        refine z_goto (tgt := 26) Z dX10_met_55 (by decide) ?_
        refine z_sub [2, 3, 1, 0] rfl ?_
        exact ih v2_ v3_ M1 h
      · intro k1 hk1 h
        refine z_icmp_ne (tgt := 49) Z dX10_met_42 (by decide) h (fun h => ?_) (fun h => ?_)
        · refine z_iconst Z dX10_met_49 ?_
          refine z_sub [0, 1, 3] rfl ?_
          exact hk1 0 v2 M h
        · refine z_iconst Z dX10_met_45 ?_
          refine z_goto (tgt := 50) Z dX10_met_46 (by decide) ?_
          refine z_sub [0, 1, 3] rfl ?_
          exact hk1 1 v2 M h
set_option maxRecDepth 100000 in
set_option maxHeartbeats 4000000 in
theorem c_X10_met {l : Launch} {D : va_G} {cI cZ : ClassId} {ad adK adV : Nat → Nat} {N : Nat} {v1 : Int} {M M' : zMem} {r : Int} (h : Model_met N v1 M = some (r, M')) : z_Ct (wM cI cZ ad) D cI cZ adK adV l yX10_met cX10_met 4 (some .int) 6 [.ref (ad 0), .int (z_I v1)] M M' (some (.int (z_I r))) := by
  unfold Model_met at h
  refine z_entry (own := RX10) rfl (by decide) (Nat.le_of_ble_eq_true rfl) ?_
  intro p e s m args below meth c R A X hr hlk
  have Z := X.1
  refine z_sub (lv' := [(0, .ref (ad 0)), (1, .int (z_I v1))]) [0, 1] rfl ?_
  refine z_aload_n Z dX10_met_0 rfl 0 rfl ?_
  obtain ⟨r_, M1, hf, h⟩ := z_cld h
  refine z_callVi (Wd := wM cI cZ ad) X (c_X10_hasRun hf) ml_X10_307 yd_X10_hasRun yw_X10_hasRun (by omega) (by decide) (rM_0 X) rfl rfl (Nat.le_of_ble_eq_true rfl) ⟨Nat.zero_le _, Nat.zero_le _⟩ dX10_met_1 ?_
  refine z_if_eq (tgt := 15) Z dX10_met_4 (by decide) h (fun h => ?_) (fun h => ?_)
  · refine z_bipush Z dX10_met_15 rfl ?_
    exact z_iret X hr hlk dX10_met_17 h
  · refine z_aload_n Z dX10_met_7 rfl 0 rfl ?_
    refine z_iload_n Z dX10_met_8 rfl 1 rfl ?_
    obtain ⟨r_1, M2, hf1, h⟩ := z_cld h
    refine z_callVi (Wd := wM cI cZ ad) X (c_X10_isItem hf1) ml_X10_252 yd_X10_isItem yw_X10_isItem (by omega) (by decide) (rM_0 X) rfl rfl (Nat.le_of_ble_eq_true rfl) ⟨Nat.zero_le _, Nat.zero_le _⟩ dX10_met_9 ?_
    refine z_if_ne (tgt := 18) Z dX10_met_12 (by decide) h (fun h => ?_) (fun h => ?_)
    · refine z_aload_n Z dX10_met_18 rfl 0 rfl ?_
      obtain ⟨u_, M3, hf2, h⟩ := z_cld h
      refine z_callVv (Wd := wM cI cZ ad) X (c_X10_runs hf2) ml_X10_301 yd_X10_runs yw_X10_runs (by omega) (by decide) (rM_0 X) rfl rfl (Nat.le_of_ble_eq_true rfl) ⟨Nat.zero_le _, Nat.zero_le _⟩ dX10_met_19 ?_
      refine z_iconst Z dX10_met_22 ?_
      refine z_istore_n (lv' := [(2, .int (z_I 0)), (0, .ref (ad 0)), (1, .int (z_I v1))]) Z dX10_met_23 rfl (by decide) rfl ?_
      refine z_iconst Z dX10_met_24 ?_
      refine z_istore_n (lv' := [(3, .int (z_I 0)), (2, .int (z_I 0)), (0, .ref (ad 0)), (1, .int (z_I v1))]) Z dX10_met_25 rfl (by decide) rfl ?_
      refine z_jnr (P := fun (k : Int → zMem → zO) => ∀ (v2_ : Int) (M4 : zMem), k v2_ M4 = some (r, M') → z_V p l e R s m args below meth c D A cI cZ 4 (wM cI cZ ad) M' (some (.int (z_I r))) M4 58 [(2, .int (z_I v2_))] []) h ?_ ?_
      · intro v2_ M4 h
        refine z_iload_n Z dX10_met_58 rfl 0 rfl ?_
        exact z_iret X hr hlk dX10_met_59 h
      · intro k0 hk0 h
        refine z_sub [2, 3, 1, 0] rfl ?_
        exact wModel_met_26 X hr hlk N v1 k0 hk0 N 0 0 M3 h
    · refine z_bipush Z dX10_met_15 rfl ?_
      exact z_iret X hr hlk dX10_met_17 h
set_option maxRecDepth 100000 in
set_option maxHeartbeats 4000000 in
theorem c_X10_bound {l : Launch} {D : va_G} {cI cZ : ClassId} {ad adK adV : Nat → Nat} {N : Nat} {M M' : zMem} {r : Int} (h : Model_bound N M = some (r, M')) : z_Ct (wM cI cZ ad) D cI cZ adK adV l yX10_bound cX10_bound 1 (some .int) 7 [.ref (ad 0)] M M' (some (.int (z_I r))) := by
  unfold Model_bound at h
  refine z_entry (own := RX10) rfl (by decide) (Nat.le_of_ble_eq_true rfl) ?_
  intro p e s m args below meth c R A X hr hlk
  have Z := X.1
  refine z_sub (lv' := [(0, .ref (ad 0))]) [0] rfl ?_
  refine z_aload_n Z dX10_bound_0 rfl 0 rfl ?_
  obtain ⟨r_, M1, hf, h⟩ := z_cld h
  refine z_callVi (Wd := wM cI cZ ad) X (c_X10_hasRun hf) ml_X10_307 yd_X10_hasRun yw_X10_hasRun (by omega) (by decide) (rM_0 X) rfl rfl (Nat.le_of_ble_eq_true rfl) ⟨Nat.zero_le _, Nat.zero_le _⟩ dX10_bound_1 ?_
  refine z_if_eq (tgt := 27) Z dX10_bound_4 (by decide) h (fun h => ?_) (fun h => ?_)
  · refine z_bipush Z dX10_bound_27 rfl ?_
    exact z_iret X hr hlk dX10_bound_29 h
  · refine z_aload_n Z dX10_bound_7 rfl 0 rfl ?_
    obtain ⟨r_1, M2, hf1, h⟩ := z_cld h
    refine z_callVi (Wd := wM cI cZ ad) X (c_X10_timeNow hf1) ml_X10_313 yd_X10_timeNow yw_X10_timeNow (by omega) (by decide) (rM_0 X) rfl rfl (Nat.le_of_ble_eq_true rfl) ⟨Nat.zero_le _, Nat.zero_le _⟩ dX10_bound_8 ?_
    refine z_aload_n Z dX10_bound_11 rfl 0 rfl ?_
    refine z_iconst Z dX10_bound_12 ?_
    obtain ⟨r_2, M3, hf2, h⟩ := z_cld h
    refine z_callVi (Wd := wM cI cZ ad) X (c_X10_lostOf hf2) ml_X10_319 yd_X10_lostOf yw_X10_lostOf (by omega) (by decide) (rM_0 X) rfl rfl (Nat.le_of_ble_eq_true rfl) ⟨Nat.zero_le _, Nat.zero_le _⟩ dX10_bound_13 ?_
    refine z_isub Z dX10_bound_16 ?_
    refine z_aload_n Z dX10_bound_17 rfl 0 rfl ?_
    refine gM_X10_51_0 X dX10_bound_18 ?_
    refine z_iconst Z dX10_bound_21 ?_
    refine ldM_13 X dX10_bound_22 h (fun x0 h => ?_)
    refine z_iadd Z dX10_bound_23 ?_
    refine z_goto (tgt := 29) Z dX10_bound_24 (by decide) ?_
    exact z_iret X hr hlk dX10_bound_29 h
set_option maxRecDepth 100000 in
set_option maxHeartbeats 4000000 in
theorem c_X10_waiting {l : Launch} {D : va_G} {cI cZ : ClassId} {ad adK adV : Nat → Nat} {N : Nat} {v1 : Int} {M M' : zMem} {r : Int} (h : Model_waiting N v1 M = some (r, M')) : z_Ct (wM cI cZ ad) D cI cZ adK adV l yX10_waiting cX10_waiting 2 (some .int) 6 [.ref (ad 0), .int (z_I v1)] M M' (some (.int (z_I r))) := by
  unfold Model_waiting at h
  refine z_entry (own := RX10) rfl (by decide) (Nat.le_of_ble_eq_true rfl) ?_
  intro p e s m args below meth c R A X hr hlk
  have Z := X.1
  refine z_sub (lv' := [(0, .ref (ad 0)), (1, .int (z_I v1))]) [0, 1] rfl ?_
  refine z_aload_n Z dX10_waiting_0 rfl 0 rfl ?_
  obtain ⟨r_, M1, hf, h⟩ := z_cld h
  refine z_callVi (Wd := wM cI cZ ad) X (c_X10_hasRun hf) ml_X10_307 yd_X10_hasRun yw_X10_hasRun (by omega) (by decide) (rM_0 X) rfl rfl (Nat.le_of_ble_eq_true rfl) ⟨Nat.zero_le _, Nat.zero_le _⟩ dX10_waiting_1 ?_
  refine z_if_eq (tgt := 19) Z dX10_waiting_4 (by decide) h (fun h => ?_) (fun h => ?_)
  · refine z_bipush Z dX10_waiting_19 rfl ?_
    exact z_iret X hr hlk dX10_waiting_21 h
  · refine z_iload_n Z dX10_waiting_7 rfl 1 rfl ?_
    refine z_i2l Z dX10_waiting_8 h (fun x0 h => ?_)
    refine z_lconst (x := 0) Z dX10_waiting_9 rfl ?_
    refine z_ldc2 Z dX10_waiting_10 cn_X10_322 ?_
    obtain ⟨r_1, M2, hf1, h⟩ := z_cld h
    refine z_callSi (Wd := wM cI cZ ad) X (c_X10_in hf1) ml_X10_96 yd_X10_in yw_X10_in (by omega) (by decide) rfl rfl (Nat.le_of_ble_eq_true rfl) ⟨Nat.zero_le _, Nat.zero_le _⟩ dX10_waiting_13 ?_
    refine z_if_ne (tgt := 22) Z dX10_waiting_16 (by decide) h (fun h => ?_) (fun h => ?_)
    · refine z_aload_n Z dX10_waiting_22 rfl 0 rfl ?_
      obtain ⟨u_, M3, hf2, h⟩ := z_cld h
      refine z_callVv (Wd := wM cI cZ ad) X (c_X10_takes hf2) ml_X10_298 yd_X10_takes yw_X10_takes (by omega) (by decide) (rM_0 X) rfl rfl (Nat.le_of_ble_eq_true rfl) ⟨Nat.zero_le _, Nat.zero_le _⟩ dX10_waiting_23 ?_
      refine z_aload_n Z dX10_waiting_26 rfl 0 rfl ?_
      refine z_iload_n Z dX10_waiting_27 rfl 1 rfl ?_
      refine pM_X10_288_0 X dX10_waiting_28 h (fun M4 h => ?_)
      refine z_aload_n Z dX10_waiting_31 rfl 0 rfl ?_
      obtain ⟨u_1, M5, hf3, h⟩ := z_cld h
      refine z_callVv (Wd := wM cI cZ ad) X (c_X10_runs hf3) ml_X10_301 yd_X10_runs yw_X10_runs (by omega) (by decide) (rM_0 X) rfl rfl (Nat.le_of_ble_eq_true rfl) ⟨Nat.zero_le _, Nat.zero_le _⟩ dX10_waiting_32 ?_
      refine z_aload_n Z dX10_waiting_35 rfl 0 rfl ?_
      obtain ⟨r_2, M6, hf4, h⟩ := z_cld h
      refine z_callVi (Wd := wM cI cZ ad) X (c_X10_timed hf4) ml_X10_304 yd_X10_timed yw_X10_timed (by omega) (by decide) (rM_0 X) rfl rfl (Nat.le_of_ble_eq_true rfl) ⟨Nat.zero_le _, Nat.zero_le _⟩ dX10_waiting_36 ?_
      exact z_iret X hr hlk dX10_waiting_39 h
    · refine z_bipush Z dX10_waiting_19 rfl ?_
      exact z_iret X hr hlk dX10_waiting_21 h
set_option maxRecDepth 100000 in
set_option maxHeartbeats 4000000 in
theorem c_X10_quicker {l : Launch} {D : va_G} {cI cZ : ClassId} {ad adK adV : Nat → Nat} {N : Nat} {v1 : Int} {M M' : zMem} {r : Int} (h : Model_quicker N v1 M = some (r, M')) : z_Ct (wM cI cZ ad) D cI cZ adK adV l yX10_quicker cX10_quicker 2 (some .int) 6 [.ref (ad 0), .int (z_I v1)] M M' (some (.int (z_I r))) := by
  unfold Model_quicker at h
  refine z_entry (own := RX10) rfl (by decide) (Nat.le_of_ble_eq_true rfl) ?_
  intro p e s m args below meth c R A X hr hlk
  have Z := X.1
  refine z_sub (lv' := [(0, .ref (ad 0)), (1, .int (z_I v1))]) [0, 1] rfl ?_
  refine z_aload_n Z dX10_quicker_0 rfl 0 rfl ?_
  obtain ⟨r_, M1, hf, h⟩ := z_cld h
  refine z_callVi (Wd := wM cI cZ ad) X (c_X10_hasRun hf) ml_X10_307 yd_X10_hasRun yw_X10_hasRun (by omega) (by decide) (rM_0 X) rfl rfl (Nat.le_of_ble_eq_true rfl) ⟨Nat.zero_le _, Nat.zero_le _⟩ dX10_quicker_1 ?_
  refine z_if_eq (tgt := 15) Z dX10_quicker_4 (by decide) h (fun h => ?_) (fun h => ?_)
  · refine z_bipush Z dX10_quicker_15 rfl ?_
    exact z_iret X hr hlk dX10_quicker_17 h
  · refine z_aload_n Z dX10_quicker_7 rfl 0 rfl ?_
    refine z_iload_n Z dX10_quicker_8 rfl 1 rfl ?_
    obtain ⟨r_1, M2, hf1, h⟩ := z_cld h
    refine z_callVi (Wd := wM cI cZ ad) X (c_X10_isQuick hf1) ml_X10_181 yd_X10_isQuick yw_X10_isQuick (by omega) (by decide) (rM_0 X) rfl rfl (Nat.le_of_ble_eq_true rfl) ⟨Nat.zero_le _, Nat.zero_le _⟩ dX10_quicker_9 ?_
    refine z_if_ne (tgt := 18) Z dX10_quicker_12 (by decide) h (fun h => ?_) (fun h => ?_)
    · refine z_aload_n Z dX10_quicker_18 rfl 0 rfl ?_
      obtain ⟨u_, M3, hf2, h⟩ := z_cld h
      refine z_callVv (Wd := wM cI cZ ad) X (c_X10_takes hf2) ml_X10_298 yd_X10_takes yw_X10_takes (by omega) (by decide) (rM_0 X) rfl rfl (Nat.le_of_ble_eq_true rfl) ⟨Nat.zero_le _, Nat.zero_le _⟩ dX10_quicker_19 ?_
      refine z_aload_n Z dX10_quicker_22 rfl 0 rfl ?_
      refine z_iload_n Z dX10_quicker_23 rfl 1 rfl ?_
      refine pM_X10_290_0 X dX10_quicker_24 h (fun M4 h => ?_)
      refine z_aload_n Z dX10_quicker_27 rfl 0 rfl ?_
      obtain ⟨u_1, M5, hf3, h⟩ := z_cld h
      refine z_callVv (Wd := wM cI cZ ad) X (c_X10_runs hf3) ml_X10_301 yd_X10_runs yw_X10_runs (by omega) (by decide) (rM_0 X) rfl rfl (Nat.le_of_ble_eq_true rfl) ⟨Nat.zero_le _, Nat.zero_le _⟩ dX10_quicker_28 ?_
      refine z_aload_n Z dX10_quicker_31 rfl 0 rfl ?_
      obtain ⟨r_2, M6, hf4, h⟩ := z_cld h
      refine z_callVi (Wd := wM cI cZ ad) X (c_X10_timed hf4) ml_X10_304 yd_X10_timed yw_X10_timed (by omega) (by decide) (rM_0 X) rfl rfl (Nat.le_of_ble_eq_true rfl) ⟨Nat.zero_le _, Nat.zero_le _⟩ dX10_quicker_32 ?_
      exact z_iret X hr hlk dX10_quicker_35 h
    · refine z_bipush Z dX10_quicker_15 rfl ?_
      exact z_iret X hr hlk dX10_quicker_17 h
set_option maxRecDepth 100000 in
set_option maxHeartbeats 4000000 in
theorem c_X10_timeMoved {l : Launch} {D : va_G} {cI cZ : ClassId} {ad adK adV : Nat → Nat} {N : Nat} {v1 v2 : Int} {M M' : zMem} {r : Int} (h : Model_timeMoved N v1 v2 M = some (r, M')) : z_Ct (wM cI cZ ad) D cI cZ adK adV l yX10_timeMoved cX10_timeMoved 5 (some .int) 5 [.ref (ad 0), .int (z_I v1), .int (z_I v2)] M M' (some (.int (z_I r))) := by
  unfold Model_timeMoved at h
  refine z_entry (own := RX10) rfl (by decide) (Nat.le_of_ble_eq_true rfl) ?_
  intro p e s m args below meth c R A X hr hlk
  have Z := X.1
  refine z_sub (lv' := [(0, .ref (ad 0)), (1, .int (z_I v1)), (2, .int (z_I v2))]) [0, 1, 2] rfl ?_
  refine z_aload_n Z dX10_timeMoved_0 rfl 0 rfl ?_
  refine gM_X10_72_0 X dX10_timeMoved_1 ?_
  refine z_iload_n Z dX10_timeMoved_4 rfl 1 rfl ?_
  refine ldM_20 X dX10_timeMoved_5 h (fun x0 h => ?_)
  refine z_istore_n (lv' := [(3, .int (z_I x0)), (0, .ref (ad 0)), (1, .int (z_I v1)), (2, .int (z_I v2))]) Z dX10_timeMoved_6 rfl (by decide) rfl ?_
  refine z_aload_n Z dX10_timeMoved_7 rfl 1 rfl ?_
  refine gM_X10_72_0 X dX10_timeMoved_8 ?_
  refine z_iload_n Z dX10_timeMoved_11 rfl 2 rfl ?_
  refine z_iload_n Z dX10_timeMoved_12 rfl 3 rfl ?_
  refine srM_20 X dX10_timeMoved_13 h (fun M1 h => ?_)
  refine z_aload_n Z dX10_timeMoved_14 rfl 1 rfl ?_
  obtain ⟨r_, M2, hf, h⟩ := z_cld h
  refine z_callVi (Wd := wM cI cZ ad) X (c_X10_timed hf) ml_X10_304 yd_X10_timed yw_X10_timed (by omega) (by decide) (rM_0 X) rfl rfl (Nat.le_of_ble_eq_true rfl) ⟨Nat.zero_le _, Nat.zero_le _⟩ dX10_timeMoved_15 ?_
  refine z_istore (lv' := [(4, .int (z_I r_)), (3, .int (z_I x0)), (0, .ref (ad 0)), (1, .int (z_I v1)), (2, .int (z_I v2))]) Z dX10_timeMoved_18 (by decide) rfl ?_
  refine z_aload_n Z dX10_timeMoved_20 rfl 2 rfl ?_
  refine gM_X10_72_0 X dX10_timeMoved_21 ?_
  refine z_iload_n Z dX10_timeMoved_24 rfl 3 rfl ?_
  refine z_iload_n Z dX10_timeMoved_25 rfl 1 rfl ?_
  refine srM_20 X dX10_timeMoved_26 h (fun M3 h => ?_)
  refine z_iload Z dX10_timeMoved_27 0 rfl ?_
  exact z_iret X hr hlk dX10_timeMoved_29 h
set_option maxRecDepth 100000 in
set_option maxHeartbeats 4000000 in
theorem c_X10_whyNot {l : Launch} {D : va_G} {cI cZ : ClassId} {ad adK adV : Nat → Nat} {N : Nat} {v1 v2 : Int} {M M' : zMem} {r : Int} (h : Model_whyNot N v1 v2 M = some (r, M')) : z_Ct (wM cI cZ ad) D cI cZ adK adV l yX10_whyNot cX10_whyNot 3 (some .int) 3 [.ref (ad 0), .int (z_I v1), .int (z_I v2)] M M' (some (.int (z_I r))) := by
  unfold Model_whyNot at h
  refine z_entry (own := RX10) rfl (by decide) (Nat.le_of_ble_eq_true rfl) ?_
  intro p e s m args below meth c R A X hr hlk
  have Z := X.1
  refine z_sub (lv' := [(0, .ref (ad 0)), (1, .int (z_I v1)), (2, .int (z_I v2))]) [0, 1, 2] rfl ?_
  refine z_aload_n Z dX10_whyNot_0 rfl 0 rfl ?_
  obtain ⟨r_, M1, hf, h⟩ := z_cld h
  refine z_callVi (Wd := wM cI cZ ad) X (c_X10_hasRun hf) ml_X10_307 yd_X10_hasRun yw_X10_hasRun (by omega) (by decide) (rM_0 X) rfl rfl (Nat.le_of_ble_eq_true rfl) ⟨Nat.zero_le _, Nat.zero_le _⟩ dX10_whyNot_1 ?_
  refine z_if_eq (tgt := 31) Z dX10_whyNot_4 (by decide) h (fun h => ?_) (fun h => ?_)
  · refine z_bipush Z dX10_whyNot_31 rfl ?_
    exact z_iret X hr hlk dX10_whyNot_33 h
  · refine z_aload_n Z dX10_whyNot_7 rfl 0 rfl ?_
    refine z_iload_n Z dX10_whyNot_8 rfl 1 rfl ?_
    obtain ⟨r_1, M2, hf1, h⟩ := z_cld h
    refine z_callVi (Wd := wM cI cZ ad) X (c_X10_isItem hf1) ml_X10_252 yd_X10_isItem yw_X10_isItem (by omega) (by decide) (rM_0 X) rfl rfl (Nat.le_of_ble_eq_true rfl) ⟨Nat.zero_le _, Nat.zero_le _⟩ dX10_whyNot_9 ?_
    refine z_if_eq (tgt := 31) Z dX10_whyNot_12 (by decide) h (fun h => ?_) (fun h => ?_)
    · refine z_bipush Z dX10_whyNot_31 rfl ?_
      exact z_iret X hr hlk dX10_whyNot_33 h
    · refine z_iload_n Z dX10_whyNot_15 rfl 2 rfl ?_
      refine z_i2l Z dX10_whyNot_16 h (fun x0 h => ?_)
      refine z_lconst (x := 0) Z dX10_whyNot_17 rfl ?_
      refine z_aload_n Z dX10_whyNot_18 rfl 0 rfl ?_
      obtain ⟨r_2, M3, hf2, h⟩ := z_cld h
      refine z_callVi (Wd := wM cI cZ ad) X (c_X10_many hf2) ml_X10_218 yd_X10_many yw_X10_many (by omega) (by decide) (rM_0 X) rfl rfl (Nat.le_of_ble_eq_true rfl) ⟨Nat.zero_le _, Nat.zero_le _⟩ dX10_whyNot_19 ?_
      refine z_iconst Z dX10_whyNot_22 ?_
      refine z_isub Z dX10_whyNot_23 ?_
      refine z_i2l Z dX10_whyNot_24 h (fun x1 h => ?_)
      obtain ⟨r_3, M4, hf3, h⟩ := z_cld h
      refine z_callSi (Wd := wM cI cZ ad) X (c_X10_in hf3) ml_X10_96 yd_X10_in yw_X10_in (by omega) (by decide) rfl rfl (Nat.le_of_ble_eq_true rfl) ⟨Nat.zero_le _, Nat.zero_le _⟩ dX10_whyNot_25 ?_
      refine z_if_ne (tgt := 34) Z dX10_whyNot_28 (by decide) h (fun h => ?_) (fun h => ?_)
      · refine z_aload_n Z dX10_whyNot_34 rfl 0 rfl ?_
        refine z_iload_n Z dX10_whyNot_35 rfl 1 rfl ?_
        obtain ⟨r_4, M5, hf4, h⟩ := z_cld h
        refine z_callVi (Wd := wM cI cZ ad) X (c_X10_isFree hf4) ml_X10_324 yd_X10_isFree yw_X10_isFree (by omega) (by decide) (rM_0 X) rfl rfl (Nat.le_of_ble_eq_true rfl) ⟨Nat.zero_le _, Nat.zero_le _⟩ dX10_whyNot_36 ?_
        refine z_jnr (P := fun (k : zMem → zO) => ∀ (M6 : zMem), k M6 = some (r, M') → z_V p l e R s m args below meth c D A cI cZ 3 (wM cI cZ ad) M' (some (.int (z_I r))) M6 64 [] []) h ?_ ?_
        · intro M6 h
          refine z_bipush Z dX10_whyNot_64 rfl ?_
          exact z_iret X hr hlk dX10_whyNot_66 h
        · intro k0 hk0 h
          refine z_if_eq (tgt := 64) Z dX10_whyNot_39 (by decide) h (fun h => ?_) (fun h => ?_)
          · refine z_sub [] rfl ?_
            exact hk0 M5 h
          · refine z_aload_n Z dX10_whyNot_42 rfl 0 rfl ?_
            refine z_iload_n Z dX10_whyNot_43 rfl 2 rfl ?_
            obtain ⟨r_5, M7, hf5, h⟩ := z_cld h
            refine z_callVi (Wd := wM cI cZ ad) X (c_X10_itemAt hf5) ml_X10_255 yd_X10_itemAt yw_X10_itemAt (by omega) (by decide) (rM_0 X) rfl rfl (Nat.le_of_ble_eq_true rfl) ⟨Nat.zero_le _, Nat.zero_le _⟩ dX10_whyNot_44 ?_
            refine z_iconst Z dX10_whyNot_47 ?_
            refine z_jnr (P := fun (k : zMem → zO) => ∀ (M8 : zMem), k M8 = some (r, M') → z_V p l e R s m args below meth c D A cI cZ 3 (wM cI cZ ad) M' (some (.int (z_I r))) M8 60 [] []) h ?_ ?_
            · intro M8 h
              refine z_iconst Z dX10_whyNot_60 ?_
              refine z_goto (tgt := 66) Z dX10_whyNot_61 (by decide) ?_
              exact z_iret X hr hlk dX10_whyNot_66 h
            · intro k1 hk1 h
              refine z_icmp_eq (tgt := 60) Z dX10_whyNot_48 (by decide) h (fun h => ?_) (fun h => ?_)
              · refine z_sub [] rfl ?_
                exact hk1 M7 h
              · refine z_aload_n Z dX10_whyNot_51 rfl 0 rfl ?_
                refine z_iload_n Z dX10_whyNot_52 rfl 2 rfl ?_
                obtain ⟨r_6, M9, hf6, h⟩ := z_cld h
                refine z_callVi (Wd := wM cI cZ ad) X (c_X10_itemAt hf6) ml_X10_255 yd_X10_itemAt yw_X10_itemAt (by omega) (by decide) (rM_0 X) rfl rfl (Nat.le_of_ble_eq_true rfl) ⟨Nat.zero_le _, Nat.zero_le _⟩ dX10_whyNot_53 ?_
                refine z_iload_n Z dX10_whyNot_56 rfl 1 rfl ?_
                refine z_icmp_ne (tgt := 64) Z dX10_whyNot_57 (by decide) h (fun h => ?_) (fun h => ?_)
                · refine z_sub [] rfl ?_
                  exact hk0 M9 h
                · refine z_sub [] rfl ?_
                  exact hk1 M9 h
      · refine z_bipush Z dX10_whyNot_31 rfl ?_
        exact z_iret X hr hlk dX10_whyNot_33 h
set_option maxRecDepth 100000 in
set_option maxHeartbeats 4000000 in
theorem c_X10_moved {l : Launch} {D : va_G} {cI cZ : ClassId} {ad adK adV : Nat → Nat} {N : Nat} {v1 v2 : Int} {M M' : zMem} {r : Int} (h : Model_moved N v1 v2 M = some (r, M')) : z_Ct (wM cI cZ ad) D cI cZ adK adV l yX10_moved cX10_moved 5 (some .int) 7 [.ref (ad 0), .int (z_I v1), .int (z_I v2)] M M' (some (.int (z_I r))) := by
  unfold Model_moved at h
  refine z_entry (own := RX10) rfl (by decide) (Nat.le_of_ble_eq_true rfl) ?_
  intro p e s m args below meth c R A X hr hlk
  have Z := X.1
  refine z_sub (lv' := [(0, .ref (ad 0)), (1, .int (z_I v1)), (2, .int (z_I v2))]) [0, 1, 2] rfl ?_
  refine z_aload_n Z dX10_moved_0 rfl 0 rfl ?_
  refine z_iload_n Z dX10_moved_1 rfl 1 rfl ?_
  refine z_iload_n Z dX10_moved_2 rfl 2 rfl ?_
  obtain ⟨r_, M1, hf, h⟩ := z_cld h
  refine z_callVi (Wd := wM cI cZ ad) X (c_X10_whyNot hf) ml_X10_327 yd_X10_whyNot yw_X10_whyNot (by omega) (by decide) (rM_0 X) rfl rfl (Nat.le_of_ble_eq_true rfl) ⟨Nat.zero_le _, Nat.zero_le _⟩ dX10_moved_3 ?_
  refine z_istore_n (lv' := [(3, .int (z_I r_)), (0, .ref (ad 0)), (1, .int (z_I v1)), (2, .int (z_I v2))]) Z dX10_moved_6 rfl (by decide) rfl ?_
  refine z_iload_n Z dX10_moved_7 rfl 0 rfl ?_
  refine z_if_ge (tgt := 13) Z dX10_moved_8 (by decide) h (fun h => ?_) (fun h => ?_)
  · refine z_aload_n Z dX10_moved_13 rfl 1 rfl ?_
    obtain ⟨r_1, M2, hf1, h⟩ := z_cld h
    refine z_callVi (Wd := wM cI cZ ad) X (c_X10_timeNow hf1) ml_X10_313 yd_X10_timeNow yw_X10_timeNow (by omega) (by decide) (rM_0 X) rfl rfl (Nat.le_of_ble_eq_true rfl) ⟨Nat.zero_le _, Nat.zero_le _⟩ dX10_moved_14 ?_
    refine z_istore (lv' := [(4, .int (z_I r_1)), (3, .int (z_I r_)), (0, .ref (ad 0)), (1, .int (z_I v1)), (2, .int (z_I v2))]) Z dX10_moved_17 (by decide) rfl ?_
    refine z_aload_n Z dX10_moved_19 rfl 2 rfl ?_
    refine z_iload_n Z dX10_moved_20 rfl 3 rfl ?_
    refine z_iload_n Z dX10_moved_21 rfl 4 rfl ?_
    obtain ⟨r_2, M3, hf2, h⟩ := z_cld h
    refine z_callVi (Wd := wM cI cZ ad) X (c_X10_timeMoved hf2) ml_X10_330 yd_X10_timeMoved yw_X10_timeMoved (by omega) (by decide) (rM_0 X) rfl rfl (Nat.le_of_ble_eq_true rfl) ⟨Nat.zero_le _, Nat.zero_le _⟩ dX10_moved_22 ?_
    exact z_iret X hr hlk dX10_moved_25 h
  · refine z_iload_n Z dX10_moved_11 rfl 0 rfl ?_
    exact z_iret X hr hlk dX10_moved_12 h
set_option maxRecDepth 100000 in
set_option maxHeartbeats 4000000 in
theorem c_X10_timeSwapped {l : Launch} {D : va_G} {cI cZ : ClassId} {ad adK adV : Nat → Nat} {N : Nat} {v1 v2 : Int} {M M' : zMem} {r : Int} (h : Model_timeSwapped N v1 v2 M = some (r, M')) : z_Ct (wM cI cZ ad) D cI cZ adK adV l yX10_timeSwapped cX10_timeSwapped 6 (some .int) 5 [.ref (ad 0), .int (z_I v1), .int (z_I v2)] M M' (some (.int (z_I r))) := by
  unfold Model_timeSwapped at h
  refine z_entry (own := RX10) rfl (by decide) (Nat.le_of_ble_eq_true rfl) ?_
  intro p e s m args below meth c R A X hr hlk
  have Z := X.1
  refine z_sub (lv' := [(0, .ref (ad 0)), (1, .int (z_I v1)), (2, .int (z_I v2))]) [0, 1, 2] rfl ?_
  refine z_aload_n Z dX10_timeSwapped_0 rfl 0 rfl ?_
  refine gM_X10_72_0 X dX10_timeSwapped_1 ?_
  refine z_iload_n Z dX10_timeSwapped_4 rfl 1 rfl ?_
  refine ldM_20 X dX10_timeSwapped_5 h (fun x0 h => ?_)
  refine z_istore_n (lv' := [(3, .int (z_I x0)), (0, .ref (ad 0)), (1, .int (z_I v1)), (2, .int (z_I v2))]) Z dX10_timeSwapped_6 rfl (by decide) rfl ?_
  refine z_aload_n Z dX10_timeSwapped_7 rfl 1 rfl ?_
  refine gM_X10_72_0 X dX10_timeSwapped_8 ?_
  refine z_iload_n Z dX10_timeSwapped_11 rfl 3 rfl ?_
  refine ldM_20 X dX10_timeSwapped_12 h (fun x1 h => ?_)
  refine z_istore (lv' := [(4, .int (z_I x1)), (3, .int (z_I x0)), (0, .ref (ad 0)), (1, .int (z_I v1)), (2, .int (z_I v2))]) Z dX10_timeSwapped_13 (by decide) rfl ?_
  refine z_aload_n Z dX10_timeSwapped_15 rfl 2 rfl ?_
  refine gM_X10_72_0 X dX10_timeSwapped_16 ?_
  refine z_iload_n Z dX10_timeSwapped_19 rfl 3 rfl ?_
  refine z_iload Z dX10_timeSwapped_20 0 rfl ?_
  refine srM_20 X dX10_timeSwapped_22 h (fun M1 h => ?_)
  refine z_aload_n Z dX10_timeSwapped_23 rfl 2 rfl ?_
  refine gM_X10_72_0 X dX10_timeSwapped_24 ?_
  refine z_iload_n Z dX10_timeSwapped_27 rfl 4 rfl ?_
  refine z_iload_n Z dX10_timeSwapped_28 rfl 1 rfl ?_
  refine srM_20 X dX10_timeSwapped_29 h (fun M2 h => ?_)
  refine z_aload_n Z dX10_timeSwapped_30 rfl 2 rfl ?_
  obtain ⟨r_, M3, hf, h⟩ := z_cld h
  refine z_callVi (Wd := wM cI cZ ad) X (c_X10_timed hf) ml_X10_304 yd_X10_timed yw_X10_timed (by omega) (by decide) (rM_0 X) rfl rfl (Nat.le_of_ble_eq_true rfl) ⟨Nat.zero_le _, Nat.zero_le _⟩ dX10_timeSwapped_31 ?_
  refine z_istore (lv' := [(5, .int (z_I r_)), (4, .int (z_I x1)), (3, .int (z_I x0)), (0, .ref (ad 0)), (1, .int (z_I v1)), (2, .int (z_I v2))]) Z dX10_timeSwapped_34 (by decide) rfl ?_
  refine z_aload_n Z dX10_timeSwapped_36 rfl 3 rfl ?_
  refine gM_X10_72_0 X dX10_timeSwapped_37 ?_
  refine z_iload_n Z dX10_timeSwapped_40 rfl 4 rfl ?_
  refine z_iload_n Z dX10_timeSwapped_41 rfl 2 rfl ?_
  refine srM_20 X dX10_timeSwapped_42 h (fun M4 h => ?_)
  refine z_aload_n Z dX10_timeSwapped_43 rfl 3 rfl ?_
  refine gM_X10_72_0 X dX10_timeSwapped_44 ?_
  refine z_iload_n Z dX10_timeSwapped_47 rfl 5 rfl ?_
  refine z_iload Z dX10_timeSwapped_48 1 rfl ?_
  refine srM_20 X dX10_timeSwapped_50 h (fun M5 h => ?_)
  refine z_iload Z dX10_timeSwapped_51 0 rfl ?_
  exact z_iret X hr hlk dX10_timeSwapped_53 h
set_option maxRecDepth 100000 in
set_option maxHeartbeats 4000000 in
theorem c_X10_whyNotBoth {l : Launch} {D : va_G} {cI cZ : ClassId} {ad adK adV : Nat → Nat} {v1 v2 : Int} {M M' : zMem} {r : Int} (h : Model_whyNotBoth v1 v2 M = some (r, M')) : z_Ct (wM cI cZ ad) D cI cZ adK adV l yX10_whyNotBoth cX10_whyNotBoth 3 (some .int) 3 [.ref (ad 0), .int (z_I v1), .int (z_I v2)] M M' (some (.int (z_I r))) := by
  unfold Model_whyNotBoth at h
  refine z_entry (own := RX10) rfl (by decide) (Nat.le_of_ble_eq_true rfl) ?_
  intro p e s m args below meth c R A X hr hlk
  have Z := X.1
  refine z_sub (lv' := [(0, .ref (ad 0)), (1, .int (z_I v1)), (2, .int (z_I v2))]) [0, 1, 2] rfl ?_
  refine z_aload_n Z dX10_whyNotBoth_0 rfl 0 rfl ?_
  obtain ⟨r_, M1, hf, h⟩ := z_cld h
  refine z_callVi (Wd := wM cI cZ ad) X (c_X10_hasRun hf) ml_X10_307 yd_X10_hasRun yw_X10_hasRun (by omega) (by decide) (rM_0 X) rfl rfl (Nat.le_of_ble_eq_true rfl) ⟨Nat.zero_le _, Nat.zero_le _⟩ dX10_whyNotBoth_1 ?_
  refine z_if_eq (tgt := 28) Z dX10_whyNotBoth_4 (by decide) h (fun h => ?_) (fun h => ?_)
  · refine z_bipush Z dX10_whyNotBoth_28 rfl ?_
    exact z_iret X hr hlk dX10_whyNotBoth_30 h
  · refine z_aload_n Z dX10_whyNotBoth_7 rfl 0 rfl ?_
    refine z_iload_n Z dX10_whyNotBoth_8 rfl 1 rfl ?_
    obtain ⟨r_1, M2, hf1, h⟩ := z_cld h
    refine z_callVi (Wd := wM cI cZ ad) X (c_X10_isItem hf1) ml_X10_252 yd_X10_isItem yw_X10_isItem (by omega) (by decide) (rM_0 X) rfl rfl (Nat.le_of_ble_eq_true rfl) ⟨Nat.zero_le _, Nat.zero_le _⟩ dX10_whyNotBoth_9 ?_
    refine z_if_eq (tgt := 28) Z dX10_whyNotBoth_12 (by decide) h (fun h => ?_) (fun h => ?_)
    · refine z_bipush Z dX10_whyNotBoth_28 rfl ?_
      exact z_iret X hr hlk dX10_whyNotBoth_30 h
    · refine z_aload_n Z dX10_whyNotBoth_15 rfl 0 rfl ?_
      refine z_iload_n Z dX10_whyNotBoth_16 rfl 2 rfl ?_
      obtain ⟨r_2, M3, hf2, h⟩ := z_cld h
      refine z_callVi (Wd := wM cI cZ ad) X (c_X10_isItem hf2) ml_X10_252 yd_X10_isItem yw_X10_isItem (by omega) (by decide) (rM_0 X) rfl rfl (Nat.le_of_ble_eq_true rfl) ⟨Nat.zero_le _, Nat.zero_le _⟩ dX10_whyNotBoth_17 ?_
      refine z_if_eq (tgt := 28) Z dX10_whyNotBoth_20 (by decide) h (fun h => ?_) (fun h => ?_)
      · refine z_bipush Z dX10_whyNotBoth_28 rfl ?_
        exact z_iret X hr hlk dX10_whyNotBoth_30 h
      · refine z_iload_n Z dX10_whyNotBoth_23 rfl 1 rfl ?_
        refine z_iload_n Z dX10_whyNotBoth_24 rfl 2 rfl ?_
        refine z_icmp_ne (tgt := 31) Z dX10_whyNotBoth_25 (by decide) h (fun h => ?_) (fun h => ?_)
        · refine z_aload_n Z dX10_whyNotBoth_31 rfl 0 rfl ?_
          refine z_iload_n Z dX10_whyNotBoth_32 rfl 1 rfl ?_
          obtain ⟨r_3, M4, hf3, h⟩ := z_cld h
          refine z_callVi (Wd := wM cI cZ ad) X (c_X10_isFree hf3) ml_X10_324 yd_X10_isFree yw_X10_isFree (by omega) (by decide) (rM_0 X) rfl rfl (Nat.le_of_ble_eq_true rfl) ⟨Nat.zero_le _, Nat.zero_le _⟩ dX10_whyNotBoth_33 ?_
          refine z_jnr (P := fun (k : zMem → zO) => ∀ (M5 : zMem), k M5 = some (r, M') → z_V p l e R s m args below meth c D A cI cZ 3 (wM cI cZ ad) M' (some (.int (z_I r))) M5 51 [] []) h ?_ ?_
          · intro M5 h
            refine z_bipush Z dX10_whyNotBoth_51 rfl ?_
            exact z_iret X hr hlk dX10_whyNotBoth_53 h
          · intro k0 hk0 h
            refine z_if_eq (tgt := 51) Z dX10_whyNotBoth_36 (by decide) h (fun h => ?_) (fun h => ?_)
            · refine z_sub [] rfl ?_
              exact hk0 M4 h
            · refine z_aload_n Z dX10_whyNotBoth_39 rfl 0 rfl ?_
              refine z_iload_n Z dX10_whyNotBoth_40 rfl 2 rfl ?_
              obtain ⟨r_4, M6, hf4, h⟩ := z_cld h
              refine z_callVi (Wd := wM cI cZ ad) X (c_X10_isFree hf4) ml_X10_324 yd_X10_isFree yw_X10_isFree (by omega) (by decide) (rM_0 X) rfl rfl (Nat.le_of_ble_eq_true rfl) ⟨Nat.zero_le _, Nat.zero_le _⟩ dX10_whyNotBoth_41 ?_
              refine z_if_eq (tgt := 51) Z dX10_whyNotBoth_44 (by decide) h (fun h => ?_) (fun h => ?_)
              · refine z_sub [] rfl ?_
                exact hk0 M6 h
              · refine z_iconst Z dX10_whyNotBoth_47 ?_
                refine z_goto (tgt := 53) Z dX10_whyNotBoth_48 (by decide) ?_
                exact z_iret X hr hlk dX10_whyNotBoth_53 h
        · refine z_bipush Z dX10_whyNotBoth_28 rfl ?_
          exact z_iret X hr hlk dX10_whyNotBoth_30 h
set_option maxRecDepth 100000 in
set_option maxHeartbeats 4000000 in
theorem c_X10_swapped {l : Launch} {D : va_G} {cI cZ : ClassId} {ad adK adV : Nat → Nat} {N : Nat} {v1 v2 : Int} {M M' : zMem} {r : Int} (h : Model_swapped N v1 v2 M = some (r, M')) : z_Ct (wM cI cZ ad) D cI cZ adK adV l yX10_swapped cX10_swapped 5 (some .int) 7 [.ref (ad 0), .int (z_I v1), .int (z_I v2)] M M' (some (.int (z_I r))) := by
  unfold Model_swapped at h
  refine z_entry (own := RX10) rfl (by decide) (Nat.le_of_ble_eq_true rfl) ?_
  intro p e s m args below meth c R A X hr hlk
  have Z := X.1
  refine z_sub (lv' := [(0, .ref (ad 0)), (1, .int (z_I v1)), (2, .int (z_I v2))]) [0, 1, 2] rfl ?_
  refine z_aload_n Z dX10_swapped_0 rfl 0 rfl ?_
  refine z_iload_n Z dX10_swapped_1 rfl 1 rfl ?_
  refine z_iload_n Z dX10_swapped_2 rfl 2 rfl ?_
  obtain ⟨r_, M1, hf, h⟩ := z_cld h
  refine z_callVi (Wd := wM cI cZ ad) X (c_X10_whyNotBoth hf) ml_X10_333 yd_X10_whyNotBoth yw_X10_whyNotBoth (by omega) (by decide) (rM_0 X) rfl rfl (Nat.le_of_ble_eq_true rfl) ⟨Nat.zero_le _, Nat.zero_le _⟩ dX10_swapped_3 ?_
  refine z_istore_n (lv' := [(3, .int (z_I r_)), (0, .ref (ad 0)), (1, .int (z_I v1)), (2, .int (z_I v2))]) Z dX10_swapped_6 rfl (by decide) rfl ?_
  refine z_iload_n Z dX10_swapped_7 rfl 0 rfl ?_
  refine z_if_ge (tgt := 13) Z dX10_swapped_8 (by decide) h (fun h => ?_) (fun h => ?_)
  · refine z_aload_n Z dX10_swapped_13 rfl 1 rfl ?_
    obtain ⟨r_1, M2, hf1, h⟩ := z_cld h
    refine z_callVi (Wd := wM cI cZ ad) X (c_X10_timeNow hf1) ml_X10_313 yd_X10_timeNow yw_X10_timeNow (by omega) (by decide) (rM_0 X) rfl rfl (Nat.le_of_ble_eq_true rfl) ⟨Nat.zero_le _, Nat.zero_le _⟩ dX10_swapped_14 ?_
    refine z_istore (lv' := [(4, .int (z_I r_1)), (3, .int (z_I r_)), (0, .ref (ad 0)), (1, .int (z_I v1)), (2, .int (z_I v2))]) Z dX10_swapped_17 (by decide) rfl ?_
    refine z_aload_n Z dX10_swapped_19 rfl 2 rfl ?_
    refine z_iload_n Z dX10_swapped_20 rfl 3 rfl ?_
    refine z_iload_n Z dX10_swapped_21 rfl 4 rfl ?_
    obtain ⟨r_2, M3, hf2, h⟩ := z_cld h
    refine z_callVi (Wd := wM cI cZ ad) X (c_X10_timeSwapped hf2) ml_X10_336 yd_X10_timeSwapped yw_X10_timeSwapped (by omega) (by decide) (rM_0 X) rfl rfl (Nat.le_of_ble_eq_true rfl) ⟨Nat.zero_le _, Nat.zero_le _⟩ dX10_swapped_22 ?_
    exact z_iret X hr hlk dX10_swapped_25 h
  · refine z_iload_n Z dX10_swapped_11 rfl 0 rfl ?_
    exact z_iret X hr hlk dX10_swapped_12 h
set_option maxRecDepth 100000 in
set_option maxHeartbeats 4000000 in
theorem wModel_best_32 {p : Program} {l : Launch} {e : Env} {R : Room} {s : State} {m : MethodId} {args : Array Value} {below : List Frame} {meth : Method} {c : Code} {D : va_G} {A : Nat → Prop} {cI cZ : ClassId} {adK adV ad : Nat → Nat} {r : Int} {M' : zMem} (X : z_X p m c cX10_best 5 s args RX10 R 7 D cI cZ A adK adV) (hr : meth.sig.returnType = some .int) (hlk : meth.locks = false) (N : Nat) (v3 : Int) (k : Int → Int → zMem → zO) (hk : ∀ (y1 y2 : Int) (M : zMem), k y1 y2 M = some (r, M') → z_V p l e R s m args below meth c D A cI cZ 5 (wM cI cZ ad) M' (some (.int (z_I r))) M 92 [(0, .ref (ad 0)), (1, .int (z_I y1)), (2, .int (z_I y2)), (3, .int (z_I v3))] []) : ∀ (n : Nat) (v1 v2 v4 : Int) (M : zMem), Model_best_32 N v3 k n v1 v2 v4 M = some (r, M') → z_V p l e R s m args below meth c D A cI cZ 5 (wM cI cZ ad) M' (some (.int (z_I r))) M 32 [(0, .ref (ad 0)), (1, .int (z_I v1)), (2, .int (z_I v2)), (3, .int (z_I v3)), (4, .int (z_I v4))] [] := by
  have Z := X.1
  intro n
  induction n with
  | zero =>
    intro v1 v2 v4 M h
    rw [Model_best_32] at h
    cases h
  | succ n ih =>
    intro v1 v2 v4 M h
    rw [Model_best_32] at h
    refine z_iload Z dX10_best_32 4 rfl ?_
    refine z_aload_n Z dX10_best_34 rfl 0 rfl ?_
    obtain ⟨r_, M1, hf, h⟩ := z_cld h
    refine z_callVi (Wd := wM cI cZ ad) X (c_X10_many hf) ml_X10_218 yd_X10_many yw_X10_many (by omega) (by decide) (rM_0 X) rfl rfl (Nat.le_of_ble_eq_true rfl) ⟨Nat.zero_le _, Nat.zero_le _⟩ dX10_best_35 ?_
    refine z_icmp_ge (tgt := 92) Z dX10_best_38 (by decide) h (fun h => ?_) (fun h => ?_)
    · refine z_sub [0, 1, 2, 3] rfl ?_
      exact hk v1 v2 M1 h
    · refine z_aload_n Z dX10_best_41 rfl 0 rfl ?_
      refine z_iload_n Z dX10_best_42 rfl 3 rfl ?_
      obtain ⟨r_1, M2, hf1, h⟩ := z_cld h
      refine z_callVi (Wd := wM cI cZ ad) X (c_X10_isFree hf1) ml_X10_324 yd_X10_isFree yw_X10_isFree (by omega) (by decide) (rM_0 X) rfl rfl (Nat.le_of_ble_eq_true rfl) ⟨Nat.zero_le _, Nat.zero_le _⟩ dX10_best_43 ?_
      refine z_if_eq (tgt := 92) Z dX10_best_46 (by decide) h (fun h => ?_) (fun h => ?_)
      · refine z_sub [0, 1, 2, 3] rfl ?_
        exact hk v1 v2 M2 h
      · refine z_aload_n Z dX10_best_49 rfl 0 rfl ?_
        refine z_iload Z dX10_best_50 4 rfl ?_
        obtain ⟨r_2, M3, hf2, h⟩ := z_cld h
        refine z_callVi (Wd := wM cI cZ ad) X (c_X10_itemAt hf2) ml_X10_255 yd_X10_itemAt yw_X10_itemAt (by omega) (by decide) (rM_0 X) rfl rfl (Nat.le_of_ble_eq_true rfl) ⟨Nat.zero_le _, Nat.zero_le _⟩ dX10_best_52 ?_
        refine z_iconst Z dX10_best_55 ?_
        refine z_jnr (P := fun (k : Int → Int → zMem → zO) => ∀ (v1_ v2_ : Int) (M4 : zMem), k v1_ v2_ M4 = some (r, M') → z_V p l e R s m args below meth c D A cI cZ 5 (wM cI cZ ad) M' (some (.int (z_I r))) M4 86 [(0, .ref (ad 0)), (1, .int (z_I v1_)), (2, .int (z_I v2_)), (3, .int (z_I v3)), (4, .int (z_I v4))] []) h ?_ ?_
        · intro v1_ v2_ M4 h
          refine z_iincn Z (fun z => [(4, .int (z_I z)), (0, .ref (ad 0)), (1, .int (z_I v1_)), (2, .int (z_I v2_)), (3, .int (z_I v3))]) dX10_best_86 (k := 4) rfl (by decide) (fun _ => rfl) h (fun v4_ h => ?_)
          refine z_goto (tgt := 32) Z dX10_best_89 (by decide) ?_
          refine z_sub [1, 2, 3, 4, 0] rfl ?_
          exact ih v1_ v2_ v4_ M4 h
        · intro k1 hk1 h
          refine z_icmp_ne (tgt := 86) Z dX10_best_56 (by decide) h (fun h => ?_) (fun h => ?_)
          · refine z_sub [0, 1, 2, 3, 4] rfl ?_
            exact hk1 v1 v2 M3 h
          · refine z_aload_n Z dX10_best_59 rfl 0 rfl ?_
            refine z_iload_n Z dX10_best_60 rfl 3 rfl ?_
            refine z_iload Z dX10_best_61 4 rfl ?_
            obtain ⟨r_3, M5, hf3, h⟩ := z_cld h
            refine z_callVi (Wd := wM cI cZ ad) X (c_X10_timeMoved hf3) ml_X10_330 yd_X10_timeMoved yw_X10_timeMoved (by omega) (by decide) (rM_0 X) rfl rfl (Nat.le_of_ble_eq_true rfl) ⟨Nat.zero_le _, Nat.zero_le _⟩ dX10_best_63 ?_
            refine z_iload_n Z dX10_best_66 rfl 1 rfl ?_
            refine z_icmp_ge (tgt := 86) Z dX10_best_67 (by decide) h (fun h => ?_) (fun h => ?_)
            · refine z_sub [0, 1, 2, 3, 4] rfl ?_
              exact hk1 v1 v2 M5 h
            · refine z_aload_n Z dX10_best_70 rfl 0 rfl ?_
              refine z_iload_n Z dX10_best_71 rfl 3 rfl ?_
              refine z_iload Z dX10_best_72 4 rfl ?_
              obtain ⟨r_4, M6, hf4, h⟩ := z_cld h
              refine z_callVi (Wd := wM cI cZ ad) X (c_X10_timeMoved hf4) ml_X10_330 yd_X10_timeMoved yw_X10_timeMoved (by omega) (by decide) (rM_0 X) rfl rfl (Nat.le_of_ble_eq_true rfl) ⟨Nat.zero_le _, Nat.zero_le _⟩ dX10_best_74 ?_
              refine z_istore_n (lv' := [(1, .int (z_I r_4)), (0, .ref (ad 0)), (2, .int (z_I v2)), (3, .int (z_I v3)), (4, .int (z_I v4))]) Z dX10_best_77 rfl (by decide) rfl ?_
              refine z_bipush Z dX10_best_78 rfl ?_
              refine z_iload_n Z dX10_best_80 rfl 3 rfl ?_
              refine z_imul Z dX10_best_81 ?_
              refine z_iload Z dX10_best_82 4 rfl ?_
              refine z_iadd Z dX10_best_84 ?_
              refine z_nmI h (fun v2_1 h => ?_)
              refine z_istore_n (lv' := [(2, .int (z_I v2_1)), (1, .int (z_I r_4)), (0, .ref (ad 0)), (3, .int (z_I v3)), (4, .int (z_I v4))]) Z dX10_best_85 rfl (by decide) rfl ?_
              refine z_sub [2, 1, 0, 3, 4] rfl ?_
              exact hk1 r_4 v2_1 M6 h
set_option maxRecDepth 100000 in
set_option maxHeartbeats 4000000 in
theorem wModel_best_19 {p : Program} {l : Launch} {e : Env} {R : Room} {s : State} {m : MethodId} {args : Array Value} {below : List Frame} {meth : Method} {c : Code} {D : va_G} {A : Nat → Prop} {cI cZ : ClassId} {adK adV ad : Nat → Nat} {r : Int} {M' : zMem} (X : z_X p m c cX10_best 5 s args RX10 R 7 D cI cZ A adK adV) (hr : meth.sig.returnType = some .int) (hlk : meth.locks = false) (N : Nat) (k : Int → zMem → zO) (hk : ∀ (y2 : Int) (M : zMem), k y2 M = some (r, M') → z_V p l e R s m args below meth c D A cI cZ 5 (wM cI cZ ad) M' (some (.int (z_I r))) M 98 [(2, .int (z_I y2))] []) : ∀ (n : Nat) (v1 v2 v3 : Int) (M : zMem), Model_best_19 N k n v1 v2 v3 M = some (r, M') → z_V p l e R s m args below meth c D A cI cZ 5 (wM cI cZ ad) M' (some (.int (z_I r))) M 19 [(0, .ref (ad 0)), (1, .int (z_I v1)), (2, .int (z_I v2)), (3, .int (z_I v3))] [] := by
  have Z := X.1
  intro n
  induction n with
  | zero =>
    intro v1 v2 v3 M h
    rw [Model_best_19] at h
    cases h
  | succ n ih =>
    intro v1 v2 v3 M h
    rw [Model_best_19] at h
    refine z_iload_n Z dX10_best_19 rfl 3 rfl ?_
    refine z_aload_n Z dX10_best_20 rfl 0 rfl ?_
    refine gM_X10_7_0 X dX10_best_21 ?_
    refine z_iconst Z dX10_best_24 ?_
    refine ldM_1 X dX10_best_25 h (fun x0 h => ?_)
    refine z_icmp_ge (tgt := 98) Z dX10_best_26 (by decide) h (fun h => ?_) (fun h => ?_)
    · refine z_sub [2] rfl ?_
      exact hk v2 M h
    · refine z_iconst Z dX10_best_29 ?_
      refine z_istore (lv' := [(4, .int (z_I 0)), (0, .ref (ad 0)), (1, .int (z_I v1)), (2, .int (z_I v2)), (3, .int (z_I v3))]) Z dX10_best_30 (by decide) rfl ?_
      refine z_jnr (P := fun (k : Int → Int → zMem → zO) => ∀ (v1_ v2_ : Int) (M1 : zMem), k v1_ v2_ M1 = some (r, M') → z_V p l e R s m args below meth c D A cI cZ 5 (wM cI cZ ad) M' (some (.int (z_I r))) M1 92 [(0, .ref (ad 0)), (1, .int (z_I v1_)), (2, .int (z_I v2_)), (3, .int (z_I v3))] []) h ?_ ?_
      · intro v1_ v2_ M1 h
        refine z_iincn Z (fun z => [(3, .int (z_I z)), (0, .ref (ad 0)), (1, .int (z_I v1_)), (2, .int (z_I v2_))]) dX10_best_92 (k := 3) rfl (by decide) (fun _ => rfl) h (fun v3_ h => ?_)
        refine z_goto (tgt := 19) Z dX10_best_95 (by decide) ?_
        refine z_sub [1, 2, 3, 0] rfl ?_
        exact ih v1_ v2_ v3_ M1 h
      · intro k1 hk1 h
        refine z_sub [1, 2, 3, 4, 0] rfl ?_
        exact wModel_best_32 X hr hlk N v3 k1 hk1 N v1 v2 0 M h
set_option maxRecDepth 100000 in
set_option maxHeartbeats 4000000 in
theorem c_X10_best {l : Launch} {D : va_G} {cI cZ : ClassId} {ad adK adV : Nat → Nat} {N : Nat} {M M' : zMem} {r : Int} (h : Model_best N M = some (r, M')) : z_Ct (wM cI cZ ad) D cI cZ adK adV l yX10_best cX10_best 5 (some .int) 7 [.ref (ad 0)] M M' (some (.int (z_I r))) := by
  unfold Model_best at h
  refine z_entry (own := RX10) rfl (by decide) (Nat.le_of_ble_eq_true rfl) ?_
  intro p e s m args below meth c R A X hr hlk
  have Z := X.1
  refine z_sub (lv' := [(0, .ref (ad 0))]) [0] rfl ?_
  refine z_aload_n Z dX10_best_0 rfl 0 rfl ?_
  obtain ⟨r_, M1, hf, h⟩ := z_cld h
  refine z_callVi (Wd := wM cI cZ ad) X (c_X10_hasRun hf) ml_X10_307 yd_X10_hasRun yw_X10_hasRun (by omega) (by decide) (rM_0 X) rfl rfl (Nat.le_of_ble_eq_true rfl) ⟨Nat.zero_le _, Nat.zero_le _⟩ dX10_best_1 ?_
  refine z_if_ne (tgt := 10) Z dX10_best_4 (by decide) h (fun h => ?_) (fun h => ?_)
  · refine z_aload_n Z dX10_best_10 rfl 0 rfl ?_
    obtain ⟨r_1, M2, hf1, h⟩ := z_cld h
    refine z_callVi (Wd := wM cI cZ ad) X (c_X10_timeNow hf1) ml_X10_313 yd_X10_timeNow yw_X10_timeNow (by omega) (by decide) (rM_0 X) rfl rfl (Nat.le_of_ble_eq_true rfl) ⟨Nat.zero_le _, Nat.zero_le _⟩ dX10_best_11 ?_
    refine z_istore_n (lv' := [(1, .int (z_I r_1)), (0, .ref (ad 0))]) Z dX10_best_14 rfl (by decide) rfl ?_
    refine z_iconst Z dX10_best_15 ?_
    refine z_istore_n (lv' := [(2, .int (z_I (-1))), (1, .int (z_I r_1)), (0, .ref (ad 0))]) Z dX10_best_16 rfl (by decide) rfl ?_
    refine z_iconst Z dX10_best_17 ?_
    refine z_istore_n (lv' := [(3, .int (z_I 0)), (2, .int (z_I (-1))), (1, .int (z_I r_1)), (0, .ref (ad 0))]) Z dX10_best_18 rfl (by decide) rfl ?_
    refine z_jnr (P := fun (k : Int → zMem → zO) => ∀ (v2_ : Int) (M3 : zMem), k v2_ M3 = some (r, M') → z_V p l e R s m args below meth c D A cI cZ 5 (wM cI cZ ad) M' (some (.int (z_I r))) M3 98 [(2, .int (z_I v2_))] []) h ?_ ?_
    · intro v2_ M3 h
      refine z_iload_n Z dX10_best_98 rfl 0 rfl ?_
      exact z_iret X hr hlk dX10_best_99 h
    · intro k0 hk0 h
      refine z_sub [3, 2, 1, 0] rfl ?_
      exact wModel_best_19 X hr hlk N k0 hk0 N r_1 (-1) 0 M2 h
  · refine z_bipush Z dX10_best_7 rfl ?_
    exact z_iret X hr hlk dX10_best_9 h
set_option maxRecDepth 100000 in
set_option maxHeartbeats 4000000 in
theorem wModel_pair_34 {p : Program} {l : Launch} {e : Env} {R : Room} {s : State} {m : MethodId} {args : Array Value} {below : List Frame} {meth : Method} {c : Code} {D : va_G} {A : Nat → Prop} {cI cZ : ClassId} {adK adV ad : Nat → Nat} {r : Int} {M' : zMem} (X : z_X p m c cX10_pair 5 s args RX10 R 7 D cI cZ A adK adV) (hr : meth.sig.returnType = some .int) (hlk : meth.locks = false) (N : Nat) (v3 : Int) (k : Int → Int → zMem → zO) (hk : ∀ (y1 y2 : Int) (M : zMem), k y1 y2 M = some (r, M') → z_V p l e R s m args below meth c D A cI cZ 5 (wM cI cZ ad) M' (some (.int (z_I r))) M 95 [(0, .ref (ad 0)), (1, .int (z_I y1)), (2, .int (z_I y2)), (3, .int (z_I v3))] []) : ∀ (n : Nat) (v1 v2 v4 : Int) (M : zMem), Model_pair_34 N v3 k n v1 v2 v4 M = some (r, M') → z_V p l e R s m args below meth c D A cI cZ 5 (wM cI cZ ad) M' (some (.int (z_I r))) M 34 [(0, .ref (ad 0)), (1, .int (z_I v1)), (2, .int (z_I v2)), (3, .int (z_I v3)), (4, .int (z_I v4))] [] := by
  have Z := X.1
  intro n
  induction n with
  | zero =>
    intro v1 v2 v4 M h
    rw [Model_pair_34] at h
    cases h
  | succ n ih =>
    intro v1 v2 v4 M h
    rw [Model_pair_34] at h
    refine z_iload Z dX10_pair_34 4 rfl ?_
    refine z_aload_n Z dX10_pair_36 rfl 0 rfl ?_
    refine gM_X10_7_0 X dX10_pair_37 ?_
    refine z_iconst Z dX10_pair_40 ?_
    refine ldM_1 X dX10_pair_41 h (fun x0 h => ?_)
    refine z_icmp_ge (tgt := 95) Z dX10_pair_42 (by decide) h (fun h => ?_) (fun h => ?_)
    · refine z_sub [0, 1, 2, 3] rfl ?_
      exact hk v1 v2 M h
    · refine z_aload_n Z dX10_pair_45 rfl 0 rfl ?_
      refine z_iload_n Z dX10_pair_46 rfl 3 rfl ?_
      obtain ⟨r_, M1, hf, h⟩ := z_cld h
      refine z_callVi (Wd := wM cI cZ ad) X (c_X10_isFree hf) ml_X10_324 yd_X10_isFree yw_X10_isFree (by omega) (by decide) (rM_0 X) rfl rfl (Nat.le_of_ble_eq_true rfl) ⟨Nat.zero_le _, Nat.zero_le _⟩ dX10_pair_47 ?_
      refine z_jnr (P := fun (k : Int → Int → zMem → zO) => ∀ (v1_ v2_ : Int) (M2 : zMem), k v1_ v2_ M2 = some (r, M') → z_V p l e R s m args below meth c D A cI cZ 5 (wM cI cZ ad) M' (some (.int (z_I r))) M2 89 [(0, .ref (ad 0)), (1, .int (z_I v1_)), (2, .int (z_I v2_)), (3, .int (z_I v3)), (4, .int (z_I v4))] []) h ?_ ?_
      · intro v1_ v2_ M2 h
        refine z_iincn Z (fun z => [(4, .int (z_I z)), (0, .ref (ad 0)), (1, .int (z_I v1_)), (2, .int (z_I v2_)), (3, .int (z_I v3))]) dX10_pair_89 (k := 4) rfl (by decide) (fun _ => rfl) h (fun v4_ h => ?_)
        refine z_goto (tgt := 34) Z dX10_pair_92 (by decide) ?_
        refine z_sub [1, 2, 3, 4, 0] rfl ?_
        exact ih v1_ v2_ v4_ M2 h
      · intro k1 hk1 h
        refine z_if_eq (tgt := 89) Z dX10_pair_50 (by decide) h (fun h => ?_) (fun h => ?_)
        · refine z_sub [0, 1, 2, 3, 4] rfl ?_
          exact hk1 v1 v2 M1 h
        · refine z_aload_n Z dX10_pair_53 rfl 0 rfl ?_
          refine z_iload Z dX10_pair_54 4 rfl ?_
          obtain ⟨r_1, M3, hf1, h⟩ := z_cld h
          refine z_callVi (Wd := wM cI cZ ad) X (c_X10_isFree hf1) ml_X10_324 yd_X10_isFree yw_X10_isFree (by omega) (by decide) (rM_0 X) rfl rfl (Nat.le_of_ble_eq_true rfl) ⟨Nat.zero_le _, Nat.zero_le _⟩ dX10_pair_56 ?_
          refine z_if_eq (tgt := 89) Z dX10_pair_59 (by decide) h (fun h => ?_) (fun h => ?_)
          · refine z_sub [0, 1, 2, 3, 4] rfl ?_
            exact hk1 v1 v2 M3 h
          · refine z_aload_n Z dX10_pair_62 rfl 0 rfl ?_
            refine z_iload_n Z dX10_pair_63 rfl 3 rfl ?_
            refine z_iload Z dX10_pair_64 4 rfl ?_
            obtain ⟨r_2, M4, hf2, h⟩ := z_cld h
            refine z_callVi (Wd := wM cI cZ ad) X (c_X10_timeSwapped hf2) ml_X10_336 yd_X10_timeSwapped yw_X10_timeSwapped (by omega) (by decide) (rM_0 X) rfl rfl (Nat.le_of_ble_eq_true rfl) ⟨Nat.zero_le _, Nat.zero_le _⟩ dX10_pair_66 ?_
            refine z_iload_n Z dX10_pair_69 rfl 1 rfl ?_
            refine z_icmp_ge (tgt := 89) Z dX10_pair_70 (by decide) h (fun h => ?_) (fun h => ?_)
            · refine z_sub [0, 1, 2, 3, 4] rfl ?_
              exact hk1 v1 v2 M4 h
            · refine z_aload_n Z dX10_pair_73 rfl 0 rfl ?_
              refine z_iload_n Z dX10_pair_74 rfl 3 rfl ?_
              refine z_iload Z dX10_pair_75 4 rfl ?_
              obtain ⟨r_3, M5, hf3, h⟩ := z_cld h
              refine z_callVi (Wd := wM cI cZ ad) X (c_X10_timeSwapped hf3) ml_X10_336 yd_X10_timeSwapped yw_X10_timeSwapped (by omega) (by decide) (rM_0 X) rfl rfl (Nat.le_of_ble_eq_true rfl) ⟨Nat.zero_le _, Nat.zero_le _⟩ dX10_pair_77 ?_
              refine z_istore_n (lv' := [(1, .int (z_I r_3)), (0, .ref (ad 0)), (2, .int (z_I v2)), (3, .int (z_I v3)), (4, .int (z_I v4))]) Z dX10_pair_80 rfl (by decide) rfl ?_
              refine z_bipush Z dX10_pair_81 rfl ?_
              refine z_iload_n Z dX10_pair_83 rfl 3 rfl ?_
              refine z_imul Z dX10_pair_84 ?_
              refine z_iload Z dX10_pair_85 4 rfl ?_
              refine z_iadd Z dX10_pair_87 ?_
              refine z_nmI h (fun v2_1 h => ?_)
              refine z_istore_n (lv' := [(2, .int (z_I v2_1)), (1, .int (z_I r_3)), (0, .ref (ad 0)), (3, .int (z_I v3)), (4, .int (z_I v4))]) Z dX10_pair_88 rfl (by decide) rfl ?_
              refine z_sub [2, 1, 0, 3, 4] rfl ?_
              exact hk1 r_3 v2_1 M5 h
set_option maxRecDepth 100000 in
set_option maxHeartbeats 4000000 in
theorem wModel_pair_19 {p : Program} {l : Launch} {e : Env} {R : Room} {s : State} {m : MethodId} {args : Array Value} {below : List Frame} {meth : Method} {c : Code} {D : va_G} {A : Nat → Prop} {cI cZ : ClassId} {adK adV ad : Nat → Nat} {r : Int} {M' : zMem} (X : z_X p m c cX10_pair 5 s args RX10 R 7 D cI cZ A adK adV) (hr : meth.sig.returnType = some .int) (hlk : meth.locks = false) (N : Nat) (k : Int → zMem → zO) (hk : ∀ (y2 : Int) (M : zMem), k y2 M = some (r, M') → z_V p l e R s m args below meth c D A cI cZ 5 (wM cI cZ ad) M' (some (.int (z_I r))) M 101 [(2, .int (z_I y2))] []) : ∀ (n : Nat) (v1 v2 v3 : Int) (M : zMem), Model_pair_19 N k n v1 v2 v3 M = some (r, M') → z_V p l e R s m args below meth c D A cI cZ 5 (wM cI cZ ad) M' (some (.int (z_I r))) M 19 [(0, .ref (ad 0)), (1, .int (z_I v1)), (2, .int (z_I v2)), (3, .int (z_I v3))] [] := by
  have Z := X.1
  intro n
  induction n with
  | zero =>
    intro v1 v2 v3 M h
    rw [Model_pair_19] at h
    cases h
  | succ n ih =>
    intro v1 v2 v3 M h
    rw [Model_pair_19] at h
    refine z_iload_n Z dX10_pair_19 rfl 3 rfl ?_
    refine z_aload_n Z dX10_pair_20 rfl 0 rfl ?_
    refine gM_X10_7_0 X dX10_pair_21 ?_
    refine z_iconst Z dX10_pair_24 ?_
    refine ldM_1 X dX10_pair_25 h (fun x0 h => ?_)
    refine z_icmp_ge (tgt := 101) Z dX10_pair_26 (by decide) h (fun h => ?_) (fun h => ?_)
    · refine z_sub [2] rfl ?_
      exact hk v2 M h
    · refine z_iload_n Z dX10_pair_29 rfl 3 rfl ?_
      refine z_iconst Z dX10_pair_30 ?_
      refine z_iadd Z dX10_pair_31 ?_
      refine z_nmI h (fun v4_ h => ?_)
      refine z_istore (lv' := [(4, .int (z_I v4_)), (0, .ref (ad 0)), (1, .int (z_I v1)), (2, .int (z_I v2)), (3, .int (z_I v3))]) Z dX10_pair_32 (by decide) rfl ?_
      refine z_jnr (P := fun (k : Int → Int → zMem → zO) => ∀ (v1_ v2_ : Int) (M1 : zMem), k v1_ v2_ M1 = some (r, M') → z_V p l e R s m args below meth c D A cI cZ 5 (wM cI cZ ad) M' (some (.int (z_I r))) M1 95 [(0, .ref (ad 0)), (1, .int (z_I v1_)), (2, .int (z_I v2_)), (3, .int (z_I v3))] []) h ?_ ?_
      · intro v1_ v2_ M1 h
        refine z_iincn Z (fun z => [(3, .int (z_I z)), (0, .ref (ad 0)), (1, .int (z_I v1_)), (2, .int (z_I v2_))]) dX10_pair_95 (k := 3) rfl (by decide) (fun _ => rfl) h (fun v3_ h => ?_)
        refine z_goto (tgt := 19) Z dX10_pair_98 (by decide) ?_
        refine z_sub [1, 2, 3, 0] rfl ?_
        exact ih v1_ v2_ v3_ M1 h
      · intro k1 hk1 h
        refine z_sub [1, 2, 3, 4, 0] rfl ?_
        exact wModel_pair_34 X hr hlk N v3 k1 hk1 N v1 v2 v4_ M h
set_option maxRecDepth 100000 in
set_option maxHeartbeats 4000000 in
theorem c_X10_pair {l : Launch} {D : va_G} {cI cZ : ClassId} {ad adK adV : Nat → Nat} {N : Nat} {M M' : zMem} {r : Int} (h : Model_pair N M = some (r, M')) : z_Ct (wM cI cZ ad) D cI cZ adK adV l yX10_pair cX10_pair 5 (some .int) 7 [.ref (ad 0)] M M' (some (.int (z_I r))) := by
  unfold Model_pair at h
  refine z_entry (own := RX10) rfl (by decide) (Nat.le_of_ble_eq_true rfl) ?_
  intro p e s m args below meth c R A X hr hlk
  have Z := X.1
  refine z_sub (lv' := [(0, .ref (ad 0))]) [0] rfl ?_
  refine z_aload_n Z dX10_pair_0 rfl 0 rfl ?_
  obtain ⟨r_, M1, hf, h⟩ := z_cld h
  refine z_callVi (Wd := wM cI cZ ad) X (c_X10_hasRun hf) ml_X10_307 yd_X10_hasRun yw_X10_hasRun (by omega) (by decide) (rM_0 X) rfl rfl (Nat.le_of_ble_eq_true rfl) ⟨Nat.zero_le _, Nat.zero_le _⟩ dX10_pair_1 ?_
  refine z_if_ne (tgt := 10) Z dX10_pair_4 (by decide) h (fun h => ?_) (fun h => ?_)
  · refine z_aload_n Z dX10_pair_10 rfl 0 rfl ?_
    obtain ⟨r_1, M2, hf1, h⟩ := z_cld h
    refine z_callVi (Wd := wM cI cZ ad) X (c_X10_timeNow hf1) ml_X10_313 yd_X10_timeNow yw_X10_timeNow (by omega) (by decide) (rM_0 X) rfl rfl (Nat.le_of_ble_eq_true rfl) ⟨Nat.zero_le _, Nat.zero_le _⟩ dX10_pair_11 ?_
    refine z_istore_n (lv' := [(1, .int (z_I r_1)), (0, .ref (ad 0))]) Z dX10_pair_14 rfl (by decide) rfl ?_
    refine z_iconst Z dX10_pair_15 ?_
    refine z_istore_n (lv' := [(2, .int (z_I (-1))), (1, .int (z_I r_1)), (0, .ref (ad 0))]) Z dX10_pair_16 rfl (by decide) rfl ?_
    refine z_iconst Z dX10_pair_17 ?_
    refine z_istore_n (lv' := [(3, .int (z_I 0)), (2, .int (z_I (-1))), (1, .int (z_I r_1)), (0, .ref (ad 0))]) Z dX10_pair_18 rfl (by decide) rfl ?_
    refine z_jnr (P := fun (k : Int → zMem → zO) => ∀ (v2_ : Int) (M3 : zMem), k v2_ M3 = some (r, M') → z_V p l e R s m args below meth c D A cI cZ 5 (wM cI cZ ad) M' (some (.int (z_I r))) M3 101 [(2, .int (z_I v2_))] []) h ?_ ?_
    · intro v2_ M3 h
      refine z_iload_n Z dX10_pair_101 rfl 0 rfl ?_
      exact z_iret X hr hlk dX10_pair_102 h
    · intro k0 hk0 h
      refine z_sub [3, 2, 1, 0] rfl ?_
      exact wModel_pair_19 X hr hlk N k0 hk0 N r_1 (-1) 0 M2 h
  · refine z_bipush Z dX10_pair_7 rfl ?_
    exact z_iret X hr hlk dX10_pair_9 h
set_option maxRecDepth 100000 in
set_option maxHeartbeats 4000000 in
theorem wModel_idle_32 {p : Program} {l : Launch} {e : Env} {R : Room} {s : State} {m : MethodId} {args : Array Value} {below : List Frame} {meth : Method} {c : Code} {D : va_G} {A : Nat → Prop} {cI cZ : ClassId} {adK adV ad : Nat → Nat} {r : Int} {M' : zMem} (X : z_X p m c cX10_idle 5 s args RX10 R 7 D cI cZ A adK adV) (hr : meth.sig.returnType = some .int) (hlk : meth.locks = false) (N : Nat) (v1 v3 : Int) (k : Int → zMem → zO) (hk : ∀ (y2 : Int) (M : zMem), k y2 M = some (r, M') → z_V p l e R s m args below meth c D A cI cZ 5 (wM cI cZ ad) M' (some (.int (z_I r))) M 84 [(0, .ref (ad 0)), (1, .int (z_I v1)), (2, .int (z_I y2)), (3, .int (z_I v3))] []) : ∀ (n : Nat) (v2 v4 : Int) (M : zMem), Model_idle_32 N v1 v3 k n v2 v4 M = some (r, M') → z_V p l e R s m args below meth c D A cI cZ 5 (wM cI cZ ad) M' (some (.int (z_I r))) M 32 [(0, .ref (ad 0)), (1, .int (z_I v1)), (2, .int (z_I v2)), (3, .int (z_I v3)), (4, .int (z_I v4))] [] := by
  have Z := X.1
  intro n
  induction n with
  | zero =>
    intro v2 v4 M h
    rw [Model_idle_32] at h
    cases h
  | succ n ih =>
    intro v2 v4 M h
    rw [Model_idle_32] at h
    refine z_iload Z dX10_idle_32 4 rfl ?_
    refine z_aload_n Z dX10_idle_34 rfl 0 rfl ?_
    obtain ⟨r_, M1, hf, h⟩ := z_cld h
    refine z_callVi (Wd := wM cI cZ ad) X (c_X10_many hf) ml_X10_218 yd_X10_many yw_X10_many (by omega) (by decide) (rM_0 X) rfl rfl (Nat.le_of_ble_eq_true rfl) ⟨Nat.zero_le _, Nat.zero_le _⟩ dX10_idle_35 ?_
    refine z_icmp_ge (tgt := 84) Z dX10_idle_38 (by decide) h (fun h => ?_) (fun h => ?_)
    · refine z_sub [0, 1, 2, 3] rfl ?_
      exact hk v2 M1 h
    · refine z_aload_n Z dX10_idle_41 rfl 0 rfl ?_
      refine z_iload_n Z dX10_idle_42 rfl 3 rfl ?_
      obtain ⟨r_1, M2, hf1, h⟩ := z_cld h
      refine z_callVi (Wd := wM cI cZ ad) X (c_X10_isFree hf1) ml_X10_324 yd_X10_isFree yw_X10_isFree (by omega) (by decide) (rM_0 X) rfl rfl (Nat.le_of_ble_eq_true rfl) ⟨Nat.zero_le _, Nat.zero_le _⟩ dX10_idle_43 ?_
      refine z_if_eq (tgt := 84) Z dX10_idle_46 (by decide) h (fun h => ?_) (fun h => ?_)
      · refine z_sub [0, 1, 2, 3] rfl ?_
        exact hk v2 M2 h
      · refine z_iload_n Z dX10_idle_49 rfl 2 rfl ?_
        refine z_aload_n Z dX10_idle_50 rfl 0 rfl ?_
        refine z_iload Z dX10_idle_51 4 rfl ?_
        obtain ⟨r_2, M3, hf2, h⟩ := z_cld h
        refine z_callVi (Wd := wM cI cZ ad) X (c_X10_itemAt hf2) ml_X10_255 yd_X10_itemAt yw_X10_itemAt (by omega) (by decide) (rM_0 X) rfl rfl (Nat.le_of_ble_eq_true rfl) ⟨Nat.zero_le _, Nat.zero_le _⟩ dX10_idle_53 ?_
        refine z_iconst Z dX10_idle_56 ?_
        refine z_jnr (P := fun (k : Int → Int → zMem → zO) => ∀ (x0 x1 : Int) (M4 : zMem), k x0 x1 M4 = some (r, M') → z_V p l e R s m args below meth c D A cI cZ 5 (wM cI cZ ad) M' (some (.int (z_I r))) M4 76 [(0, .ref (ad 0)), (1, .int (z_I v1)), (3, .int (z_I v3)), (4, .int (z_I v4))] [.int (z_I x0), .int (z_I x1)]) h ?_ ?_
        · intro x0 x1 M4 h
          refine z_iadd Z dX10_idle_76 ?_
          refine z_nmI h (fun v2_ h => ?_)
          refine z_istore_n (lv' := [(2, .int (z_I v2_)), (0, .ref (ad 0)), (1, .int (z_I v1)), (3, .int (z_I v3)), (4, .int (z_I v4))]) Z dX10_idle_77 rfl (by decide) rfl ?_
          refine z_iincn Z (fun z => [(4, .int (z_I z)), (2, .int (z_I v2_)), (0, .ref (ad 0)), (1, .int (z_I v1)), (3, .int (z_I v3))]) dX10_idle_78 (k := 4) rfl (by decide) (fun _ => rfl) h (fun v4_ h => ?_)
          refine z_goto (tgt := 32) Z dX10_idle_81 (by decide) ?_
          refine z_sub [2, 3, 1, 4, 0] rfl ?_
          exact ih v2_ v4_ M4 h
        · intro k1 hk1 h
          refine z_jnr (P := fun (k : Int → zMem → zO) => ∀ (x2 : Int) (M5 : zMem), k x2 M5 = some (r, M') → z_V p l e R s m args below meth c D A cI cZ 5 (wM cI cZ ad) M' (some (.int (z_I r))) M5 75 [(0, .ref (ad 0)), (1, .int (z_I v1)), (3, .int (z_I v3)), (4, .int (z_I v4))] [.int (z_I x2)]) h ?_ ?_
          · intro x2 M5 h
            refine z_iconst Z dX10_idle_75 ?_
            refine z_sub [0, 1, 2, 3] rfl ?_
            exact hk1 0 x2 M5 h
          · intro k2 hk2 h
            refine z_icmp_ne (tgt := 75) Z dX10_idle_57 (by decide) h (fun h => ?_) (fun h => ?_)
            · refine z_sub [0, 1, 3, 4] rfl ?_
              exact hk2 v2 M3 h
            · refine z_aload_n Z dX10_idle_60 rfl 0 rfl ?_
              refine z_iload_n Z dX10_idle_61 rfl 3 rfl ?_
              refine z_iload Z dX10_idle_62 4 rfl ?_
              obtain ⟨r_3, M6, hf3, h⟩ := z_cld h
              refine z_callVi (Wd := wM cI cZ ad) X (c_X10_timeMoved hf3) ml_X10_330 yd_X10_timeMoved yw_X10_timeMoved (by omega) (by decide) (rM_0 X) rfl rfl (Nat.le_of_ble_eq_true rfl) ⟨Nat.zero_le _, Nat.zero_le _⟩ dX10_idle_64 ?_
              refine z_iload_n Z dX10_idle_67 rfl 1 rfl ?_
              refine z_icmp_ne (tgt := 75) Z dX10_idle_68 (by decide) h (fun h => ?_) (fun h => ?_)
              · refine z_sub [0, 1, 3, 4] rfl ?_
                exact hk2 v2 M6 h
              · refine z_iconst Z dX10_idle_71 ?_
                refine z_goto (tgt := 76) Z dX10_idle_72 (by decide) ?_
                refine z_sub [0, 1, 3, 4] rfl ?_
                exact hk1 1 v2 M6 h
set_option maxRecDepth 100000 in
set_option maxHeartbeats 4000000 in
theorem wModel_idle_19 {p : Program} {l : Launch} {e : Env} {R : Room} {s : State} {m : MethodId} {args : Array Value} {below : List Frame} {meth : Method} {c : Code} {D : va_G} {A : Nat → Prop} {cI cZ : ClassId} {adK adV ad : Nat → Nat} {r : Int} {M' : zMem} (X : z_X p m c cX10_idle 5 s args RX10 R 7 D cI cZ A adK adV) (hr : meth.sig.returnType = some .int) (hlk : meth.locks = false) (N : Nat) (v1 : Int) (k : Int → zMem → zO) (hk : ∀ (y2 : Int) (M : zMem), k y2 M = some (r, M') → z_V p l e R s m args below meth c D A cI cZ 5 (wM cI cZ ad) M' (some (.int (z_I r))) M 90 [(2, .int (z_I y2))] []) : ∀ (n : Nat) (v2 v3 : Int) (M : zMem), Model_idle_19 N v1 k n v2 v3 M = some (r, M') → z_V p l e R s m args below meth c D A cI cZ 5 (wM cI cZ ad) M' (some (.int (z_I r))) M 19 [(0, .ref (ad 0)), (1, .int (z_I v1)), (2, .int (z_I v2)), (3, .int (z_I v3))] [] := by
  have Z := X.1
  intro n
  induction n with
  | zero =>
    intro v2 v3 M h
    rw [Model_idle_19] at h
    cases h
  | succ n ih =>
    intro v2 v3 M h
    rw [Model_idle_19] at h
    refine z_iload_n Z dX10_idle_19 rfl 3 rfl ?_
    refine z_aload_n Z dX10_idle_20 rfl 0 rfl ?_
    refine gM_X10_7_0 X dX10_idle_21 ?_
    refine z_iconst Z dX10_idle_24 ?_
    refine ldM_1 X dX10_idle_25 h (fun x0 h => ?_)
    refine z_icmp_ge (tgt := 90) Z dX10_idle_26 (by decide) h (fun h => ?_) (fun h => ?_)
    · refine z_sub [2] rfl ?_
      exact hk v2 M h
    · refine z_iconst Z dX10_idle_29 ?_
      refine z_istore (lv' := [(4, .int (z_I 0)), (0, .ref (ad 0)), (1, .int (z_I v1)), (2, .int (z_I v2)), (3, .int (z_I v3))]) Z dX10_idle_30 (by decide) rfl ?_
      refine z_jnr (P := fun (k : Int → zMem → zO) => ∀ (v2_ : Int) (M1 : zMem), k v2_ M1 = some (r, M') → z_V p l e R s m args below meth c D A cI cZ 5 (wM cI cZ ad) M' (some (.int (z_I r))) M1 84 [(0, .ref (ad 0)), (1, .int (z_I v1)), (2, .int (z_I v2_)), (3, .int (z_I v3))] []) h ?_ ?_
      · intro v2_ M1 h
        refine z_iincn Z (fun z => [(3, .int (z_I z)), (0, .ref (ad 0)), (1, .int (z_I v1)), (2, .int (z_I v2_))]) dX10_idle_84 (k := 3) rfl (by decide) (fun _ => rfl) h (fun v3_ h => ?_)
        refine z_goto (tgt := 19) Z dX10_idle_87 (by decide) ?_
        refine z_sub [1, 2, 3, 0] rfl ?_
        exact ih v2_ v3_ M1 h
      · intro k1 hk1 h
        refine z_sub [1, 2, 3, 4, 0] rfl ?_
        exact wModel_idle_32 X hr hlk N v1 v3 k1 hk1 N v2 0 M h
set_option maxRecDepth 100000 in
set_option maxHeartbeats 4000000 in
theorem c_X10_idle {l : Launch} {D : va_G} {cI cZ : ClassId} {ad adK adV : Nat → Nat} {N : Nat} {M M' : zMem} {r : Int} (h : Model_idle N M = some (r, M')) : z_Ct (wM cI cZ ad) D cI cZ adK adV l yX10_idle cX10_idle 5 (some .int) 7 [.ref (ad 0)] M M' (some (.int (z_I r))) := by
  unfold Model_idle at h
  refine z_entry (own := RX10) rfl (by decide) (Nat.le_of_ble_eq_true rfl) ?_
  intro p e s m args below meth c R A X hr hlk
  have Z := X.1
  refine z_sub (lv' := [(0, .ref (ad 0))]) [0] rfl ?_
  refine z_aload_n Z dX10_idle_0 rfl 0 rfl ?_
  obtain ⟨r_, M1, hf, h⟩ := z_cld h
  refine z_callVi (Wd := wM cI cZ ad) X (c_X10_hasRun hf) ml_X10_307 yd_X10_hasRun yw_X10_hasRun (by omega) (by decide) (rM_0 X) rfl rfl (Nat.le_of_ble_eq_true rfl) ⟨Nat.zero_le _, Nat.zero_le _⟩ dX10_idle_1 ?_
  refine z_if_ne (tgt := 10) Z dX10_idle_4 (by decide) h (fun h => ?_) (fun h => ?_)
  · refine z_aload_n Z dX10_idle_10 rfl 0 rfl ?_
    obtain ⟨r_1, M2, hf1, h⟩ := z_cld h
    refine z_callVi (Wd := wM cI cZ ad) X (c_X10_timeNow hf1) ml_X10_313 yd_X10_timeNow yw_X10_timeNow (by omega) (by decide) (rM_0 X) rfl rfl (Nat.le_of_ble_eq_true rfl) ⟨Nat.zero_le _, Nat.zero_le _⟩ dX10_idle_11 ?_
    refine z_istore_n (lv' := [(1, .int (z_I r_1)), (0, .ref (ad 0))]) Z dX10_idle_14 rfl (by decide) rfl ?_
    refine z_iconst Z dX10_idle_15 ?_
    refine z_istore_n (lv' := [(2, .int (z_I 0)), (1, .int (z_I r_1)), (0, .ref (ad 0))]) Z dX10_idle_16 rfl (by decide) rfl ?_
    refine z_iconst Z dX10_idle_17 ?_
    refine z_istore_n (lv' := [(3, .int (z_I 0)), (2, .int (z_I 0)), (1, .int (z_I r_1)), (0, .ref (ad 0))]) Z dX10_idle_18 rfl (by decide) rfl ?_
    refine z_jnr (P := fun (k : Int → zMem → zO) => ∀ (v2_ : Int) (M3 : zMem), k v2_ M3 = some (r, M') → z_V p l e R s m args below meth c D A cI cZ 5 (wM cI cZ ad) M' (some (.int (z_I r))) M3 90 [(2, .int (z_I v2_))] []) h ?_ ?_
    · intro v2_ M3 h
      refine z_iload_n Z dX10_idle_90 rfl 0 rfl ?_
      exact z_iret X hr hlk dX10_idle_91 h
    · intro k0 hk0 h
      refine z_sub [3, 2, 1, 0] rfl ?_
      exact wModel_idle_19 X hr hlk N r_1 k0 hk0 N 0 0 M2 h
  · refine z_bipush Z dX10_idle_7 rfl ?_
    exact z_iret X hr hlk dX10_idle_9 h
set_option maxRecDepth 100000 in
set_option maxHeartbeats 4000000 in
theorem c_X10_whyNotLaw {l : Launch} {D : va_G} {cI cZ : ClassId} {ad adK adV : Nat → Nat} {N : Nat} {v1 : Int} {M M' : zMem} {r : Int} (h : Model_whyNotLaw N v1 M = some (r, M')) : z_Ct (wM cI cZ ad) D cI cZ adK adV l yX10_whyNotLaw cX10_whyNotLaw 2 (some .int) 2 [.ref (ad 0), .int (z_I v1)] M M' (some (.int (z_I r))) := by
  unfold Model_whyNotLaw at h
  refine z_entry (own := RX10) rfl (by decide) (Nat.le_of_ble_eq_true rfl) ?_
  intro p e s m args below meth c R A X hr hlk
  have Z := X.1
  refine z_sub (lv' := [(0, .ref (ad 0)), (1, .int (z_I v1))]) [0, 1] rfl ?_
  refine z_aload_n Z dX10_whyNotLaw_0 rfl 0 rfl ?_
  obtain ⟨r_, M1, hf, h⟩ := z_cld h
  refine z_callVi (Wd := wM cI cZ ad) X (c_X10_hasRun hf) ml_X10_307 yd_X10_hasRun yw_X10_hasRun (by omega) (by decide) (rM_0 X) rfl rfl (Nat.le_of_ble_eq_true rfl) ⟨Nat.zero_le _, Nat.zero_le _⟩ dX10_whyNotLaw_1 ?_
  refine z_if_eq (tgt := 19) Z dX10_whyNotLaw_4 (by decide) h (fun h => ?_) (fun h => ?_)
  · refine z_bipush Z dX10_whyNotLaw_19 rfl ?_
    exact z_iret X hr hlk dX10_whyNotLaw_21 h
  · refine z_iload_n Z dX10_whyNotLaw_7 rfl 1 rfl ?_
    refine z_i2l Z dX10_whyNotLaw_8 h (fun x0 h => ?_)
    refine z_lconst (x := 0) Z dX10_whyNotLaw_9 rfl ?_
    refine z_ldc2 Z dX10_whyNotLaw_10 cn_X10_391 ?_
    obtain ⟨r_1, M2, hf1, h⟩ := z_cld h
    refine z_callSi (Wd := wM cI cZ ad) X (c_X10_in hf1) ml_X10_96 yd_X10_in yw_X10_in (by omega) (by decide) rfl rfl (Nat.le_of_ble_eq_true rfl) ⟨Nat.zero_le _, Nat.zero_le _⟩ dX10_whyNotLaw_13 ?_
    refine z_if_ne (tgt := 22) Z dX10_whyNotLaw_16 (by decide) h (fun h => ?_) (fun h => ?_)
    · refine z_iload_n Z dX10_whyNotLaw_22 rfl 1 rfl ?_
      refine z_iconst Z dX10_whyNotLaw_23 ?_
      refine z_jnr (P := fun (k : zMem → zO) => ∀ (M3 : zMem), k M3 = some (r, M') → z_V p l e R s m args below meth c D A cI cZ 2 (wM cI cZ ad) M' (some (.int (z_I r))) M3 40 [] []) h ?_ ?_
      · intro M3 h
        refine z_iconst Z dX10_whyNotLaw_40 ?_
        exact z_iret X hr hlk dX10_whyNotLaw_41 h
      · intro k0 hk0 h
        refine z_icmp_ne (tgt := 40) Z dX10_whyNotLaw_24 (by decide) h (fun h => ?_) (fun h => ?_)
        · refine z_sub [] rfl ?_
          exact hk0 M2 h
        · refine z_aload_n Z dX10_whyNotLaw_27 rfl 0 rfl ?_
          obtain ⟨r_2, M4, hf2, h⟩ := z_cld h
          refine z_callVi (Wd := wM cI cZ ad) X (c_X10_freeItems hf2) ml_X10_249 yd_X10_freeItems yw_X10_freeItems (by omega) (by decide) (rM_0 X) rfl rfl (Nat.le_of_ble_eq_true rfl) ⟨Nat.zero_le _, Nat.zero_le _⟩ dX10_whyNotLaw_28 ?_
          refine z_iconst Z dX10_whyNotLaw_31 ?_
          refine z_icmp_le (tgt := 40) Z dX10_whyNotLaw_32 (by decide) h (fun h => ?_) (fun h => ?_)
          · refine z_sub [] rfl ?_
            exact hk0 M4 h
          · refine z_bipush Z dX10_whyNotLaw_35 rfl ?_
            refine z_goto (tgt := 41) Z dX10_whyNotLaw_37 (by decide) ?_
            exact z_iret X hr hlk dX10_whyNotLaw_41 h
    · refine z_bipush Z dX10_whyNotLaw_19 rfl ?_
      exact z_iret X hr hlk dX10_whyNotLaw_21 h
set_option maxRecDepth 100000 in
set_option maxHeartbeats 4000000 in
theorem wModel_lawful_27 {p : Program} {l : Launch} {e : Env} {R : Room} {s : State} {m : MethodId} {args : Array Value} {below : List Frame} {meth : Method} {c : Code} {D : va_G} {A : Nat → Prop} {cI cZ : ClassId} {adK adV ad : Nat → Nat} {r : Int} {M' : zMem} (X : z_X p m c cX10_lawful 4 s args RX10 R 15 D cI cZ A adK adV) (hr : meth.sig.returnType = some .int) (hlk : meth.locks = false) (N : Nat) (k : zMem → zO) (hk : ∀ (M : zMem), k M = some (r, M') → z_V p l e R s m args below meth c D A cI cZ 4 (wM cI cZ ad) M' (some (.int (z_I r))) M 55 [(0, .ref (ad 0))] []) : ∀ (n : Nat) (v3 : Int) (M : zMem), Model_lawful_27 N k n v3 M = some (r, M') → z_V p l e R s m args below meth c D A cI cZ 4 (wM cI cZ ad) M' (some (.int (z_I r))) M 27 [(0, .ref (ad 0)), (3, .int (z_I v3))] [] := by
  have Z := X.1
  intro n
  induction n with
  | zero =>
    intro v3 M h
    rw [Model_lawful_27] at h
    cases h
  | succ n ih =>
    intro v3 M h
    rw [Model_lawful_27] at h
    refine z_iload_n Z dX10_lawful_27 rfl 1 rfl ?_
    refine z_aload_n Z dX10_lawful_28 rfl 0 rfl ?_
    refine gM_X10_7_0 X dX10_lawful_29 ?_
    refine z_iconst Z dX10_lawful_32 ?_
    refine ldM_1 X dX10_lawful_33 h (fun x0 h => ?_)
    refine z_icmp_ge (tgt := 55) Z dX10_lawful_34 (by decide) h (fun h => ?_) (fun h => ?_)
    · refine z_sub [0] rfl ?_
      exact hk M h
    · refine z_aload_n Z dX10_lawful_37 rfl 0 rfl ?_
      refine gM_X10_72_0 X dX10_lawful_38 ?_
      refine z_iload_n Z dX10_lawful_41 rfl 1 rfl ?_
      refine z_aload_n Z dX10_lawful_42 rfl 0 rfl ?_
      refine gM_X10_75_0 X dX10_lawful_43 ?_
      refine z_iload_n Z dX10_lawful_46 rfl 1 rfl ?_
      refine ldM_21 X dX10_lawful_47 h (fun x1 h => ?_)
      refine srM_20 X dX10_lawful_48 h (fun M1 h => ?_)
      refine z_iincn Z (fun z => [(3, .int (z_I z)), (0, .ref (ad 0))]) dX10_lawful_49 (k := 1) rfl (by decide) (fun _ => rfl) h (fun v3_ h => ?_)
      refine z_goto (tgt := 27) Z dX10_lawful_52 (by decide) ?_
      refine z_sub [1, 0] rfl ?_
      exact ih v3_ M1 h
set_option maxRecDepth 100000 in
set_option maxHeartbeats 4000000 in
theorem c_X10_lawful {l : Launch} {D : va_G} {cI cZ : ClassId} {ad adK adV : Nat → Nat} {N : Nat} {v1 : Int} {M M' : zMem} {r : Int} (h : Model_lawful N v1 M = some (r, M')) : z_Ct (wM cI cZ ad) D cI cZ adK adV l yX10_lawful cX10_lawful 4 (some .int) 15 [.ref (ad 0), .int (z_I v1)] M M' (some (.int (z_I r))) := by
  unfold Model_lawful at h
  refine z_entry (own := RX10) rfl (by decide) (Nat.le_of_ble_eq_true rfl) ?_
  intro p e s m args below meth c R A X hr hlk
  have Z := X.1
  refine z_sub (lv' := [(0, .ref (ad 0)), (1, .int (z_I v1))]) [0, 1] rfl ?_
  refine z_aload_n Z dX10_lawful_0 rfl 0 rfl ?_
  refine z_iload_n Z dX10_lawful_1 rfl 1 rfl ?_
  obtain ⟨r_, M1, hf, h⟩ := z_cld h
  refine z_callVi (Wd := wM cI cZ ad) X (c_X10_whyNotLaw hf) ml_X10_393 yd_X10_whyNotLaw yw_X10_whyNotLaw (by omega) (by decide) (rM_0 X) rfl rfl (Nat.le_of_ble_eq_true rfl) ⟨Nat.zero_le _, Nat.zero_le _⟩ dX10_lawful_2 ?_
  refine z_istore_n (lv' := [(2, .int (z_I r_)), (0, .ref (ad 0)), (1, .int (z_I v1))]) Z dX10_lawful_5 rfl (by decide) rfl ?_
  refine z_iload_n Z dX10_lawful_6 rfl 0 rfl ?_
  refine z_if_ge (tgt := 12) Z dX10_lawful_7 (by decide) h (fun h => ?_) (fun h => ?_)
  · refine z_aload_n Z dX10_lawful_12 rfl 1 rfl ?_
    refine z_iload_n Z dX10_lawful_13 rfl 2 rfl ?_
    obtain ⟨u_, M2, hf1, h⟩ := z_cld h
    refine z_callVv (Wd := wM cI cZ ad) X (c_X10_laysBy hf1) ml_X10_243 yd_X10_laysBy yw_X10_laysBy (by omega) (by decide) (rM_0 X) rfl rfl (Nat.le_of_ble_eq_true rfl) ⟨Nat.zero_le _, Nat.zero_le _⟩ dX10_lawful_14 ?_
    refine z_aload_n Z dX10_lawful_17 rfl 1 rfl ?_
    obtain ⟨u_1, M3, hf2, h⟩ := z_cld h
    refine z_callVv (Wd := wM cI cZ ad) X (c_X10_takes hf2) ml_X10_298 yd_X10_takes yw_X10_takes (by omega) (by decide) (rM_0 X) rfl rfl (Nat.le_of_ble_eq_true rfl) ⟨Nat.zero_le _, Nat.zero_le _⟩ dX10_lawful_18 ?_
    refine z_aload_n Z dX10_lawful_21 rfl 1 rfl ?_
    obtain ⟨u_2, M4, hf3, h⟩ := z_cld h
    refine z_callVv (Wd := wM cI cZ ad) X (c_X10_runs hf3) ml_X10_301 yd_X10_runs yw_X10_runs (by omega) (by decide) (rM_0 X) rfl rfl (Nat.le_of_ble_eq_true rfl) ⟨Nat.zero_le _, Nat.zero_le _⟩ dX10_lawful_22 ?_
    refine z_iconst Z dX10_lawful_25 ?_
    refine z_istore_n (lv' := [(3, .int (z_I 0)), (2, .int (z_I r_)), (0, .ref (ad 0)), (1, .int (z_I v1))]) Z dX10_lawful_26 rfl (by decide) rfl ?_
    refine z_jnr (P := fun (k : zMem → zO) => ∀ (M5 : zMem), k M5 = some (r, M') → z_V p l e R s m args below meth c D A cI cZ 4 (wM cI cZ ad) M' (some (.int (z_I r))) M5 55 [(0, .ref (ad 0))] []) h ?_ ?_
    · intro M5 h
      refine z_aload_n Z dX10_lawful_55 rfl 0 rfl ?_
      obtain ⟨r_1, M6, hf4, h⟩ := z_cld h
      refine z_callVi (Wd := wM cI cZ ad) X (c_X10_timed hf4) ml_X10_304 yd_X10_timed yw_X10_timed (by omega) (by decide) (rM_0 X) rfl rfl (Nat.le_of_ble_eq_true rfl) ⟨Nat.zero_le _, Nat.zero_le _⟩ dX10_lawful_56 ?_
      exact z_iret X hr hlk dX10_lawful_59 h
    · intro k0 hk0 h
      refine z_sub [2, 0] rfl ?_
      exact wModel_lawful_27 X hr hlk N k0 hk0 N 0 M4 h
  · refine z_iload_n Z dX10_lawful_10 rfl 0 rfl ?_
    exact z_iret X hr hlk dX10_lawful_11 h
set_option maxRecDepth 100000 in
set_option maxHeartbeats 4000000 in
theorem c_X10_address {l : Launch} {D : va_G} {cI cZ : ClassId} {ad adK adV : Nat → Nat} {N : Nat} {v1 v2 : Int} {M M' : zMem} {r : Int} (h : Model_address N v1 v2 M = some (r, M')) : z_Ct (wM cI cZ ad) D cI cZ adK adV l yX10_address cX10_address 4 (some .int) 15 [.ref (ad 0), .int (z_I v1), .int (z_I v2)] M M' (some (.int (z_I r))) := by
  unfold Model_address at h
  refine z_entry (own := RX10) rfl (by decide) (Nat.le_of_ble_eq_true rfl) ?_
  intro p e s m args below meth c R A X hr hlk
  have Z := X.1
  refine z_sub (lv' := [(0, .ref (ad 0)), (1, .int (z_I v1)), (2, .int (z_I v2))]) [0, 1, 2] rfl ?_
  refine z_aload_n Z dX10_address_0 rfl 0 rfl ?_
  refine z_iload_n Z dX10_address_1 rfl 2 rfl ?_
  obtain ⟨r_, M1, hf, h⟩ := z_cld h
  refine z_callVi (Wd := wM cI cZ ad) X (c_X10_isItem hf) ml_X10_252 yd_X10_isItem yw_X10_isItem (by omega) (by decide) (rM_0 X) rfl rfl (Nat.le_of_ble_eq_true rfl) ⟨Nat.zero_le _, Nat.zero_le _⟩ dX10_address_2 ?_
  refine z_if_ne (tgt := 11) Z dX10_address_5 (by decide) h (fun h => ?_) (fun h => ?_)
  · refine z_aload_n Z dX10_address_11 rfl 0 rfl ?_
    refine z_iload_n Z dX10_address_12 rfl 1 rfl ?_
    obtain ⟨r_1, M2, hf1, h⟩ := z_cld h
    refine z_callVi (Wd := wM cI cZ ad) X (c_X10_whyNotLaw hf1) ml_X10_393 yd_X10_whyNotLaw yw_X10_whyNotLaw (by omega) (by decide) (rM_0 X) rfl rfl (Nat.le_of_ble_eq_true rfl) ⟨Nat.zero_le _, Nat.zero_le _⟩ dX10_address_13 ?_
    refine z_istore_n (lv' := [(3, .int (z_I r_1)), (0, .ref (ad 0)), (1, .int (z_I v1)), (2, .int (z_I v2))]) Z dX10_address_16 rfl (by decide) rfl ?_
    refine z_iload_n Z dX10_address_17 rfl 0 rfl ?_
    refine z_if_ge (tgt := 23) Z dX10_address_18 (by decide) h (fun h => ?_) (fun h => ?_)
    · refine z_aload_n Z dX10_address_23 rfl 1 rfl ?_
      refine z_iload_n Z dX10_address_24 rfl 2 rfl ?_
      obtain ⟨u_, M3, hf2, h⟩ := z_cld h
      refine z_callVv (Wd := wM cI cZ ad) X (c_X10_laysBy hf2) ml_X10_243 yd_X10_laysBy yw_X10_laysBy (by omega) (by decide) (rM_0 X) rfl rfl (Nat.le_of_ble_eq_true rfl) ⟨Nat.zero_le _, Nat.zero_le _⟩ dX10_address_25 ?_
      refine z_aload_n Z dX10_address_28 rfl 1 rfl ?_
      refine gM_X10_75_0 X dX10_address_29 ?_
      refine z_iload_n Z dX10_address_32 rfl 3 rfl ?_
      refine ldM_21 X dX10_address_33 h (fun x0 h => ?_)
      exact z_iret X hr hlk dX10_address_34 h
    · refine z_iload_n Z dX10_address_21 rfl 0 rfl ?_
      exact z_iret X hr hlk dX10_address_22 h
  · refine z_bipush Z dX10_address_8 rfl ?_
    exact z_iret X hr hlk dX10_address_10 h
set_option maxRecDepth 100000 in
set_option maxHeartbeats 4000000 in
theorem c_X10_ways {l : Launch} {D : va_G} {cI cZ : ClassId} {ad adK adV : Nat → Nat} {N : Nat} {M M' : zMem} {r : Int} (h : Model_ways N M = some (r, M')) : z_Ct (wM cI cZ ad) D cI cZ adK adV l yX10_ways cX10_ways 2 (some .long) 14 [.ref (ad 0)] M M' (some (.long (z_L r))) := by
  unfold Model_ways at h
  refine z_entry (own := RX10) rfl (by decide) (Nat.le_of_ble_eq_true rfl) ?_
  intro p e s m args below meth c R A X hr hlk
  have Z := X.1
  refine z_sub (lv' := [(0, .ref (ad 0))]) [0] rfl ?_
  refine z_aload_n Z dX10_ways_0 rfl 0 rfl ?_
  refine z_iconst Z dX10_ways_1 ?_
  obtain ⟨r_, M1, hf, h⟩ := z_cld h
  refine z_callVi (Wd := wM cI cZ ad) X (c_X10_whyNotLaw hf) ml_X10_393 yd_X10_whyNotLaw yw_X10_whyNotLaw (by omega) (by decide) (rM_0 X) rfl rfl (Nat.le_of_ble_eq_true rfl) ⟨Nat.zero_le _, Nat.zero_le _⟩ dX10_ways_2 ?_
  refine z_istore_n (lv' := [(1, .int (z_I r_)), (0, .ref (ad 0))]) Z dX10_ways_5 rfl (by decide) rfl ?_
  refine z_iload_n Z dX10_ways_6 rfl 0 rfl ?_
  refine z_if_ge (tgt := 13) Z dX10_ways_7 (by decide) h (fun h => ?_) (fun h => ?_)
  · refine z_aload_n Z dX10_ways_13 rfl 1 rfl ?_
    obtain ⟨u_, M2, hf1, h⟩ := z_cld h
    refine z_callVv (Wd := wM cI cZ ad) X (c_X10_triesAll hf1) ml_X10_385 yd_X10_triesAll yw_X10_triesAll (by omega) (by decide) (rM_0 X) rfl rfl (Nat.le_of_ble_eq_true rfl) ⟨Nat.zero_le _, Nat.zero_le _⟩ dX10_ways_14 ?_
    refine z_aload_n Z dX10_ways_17 rfl 1 rfl ?_
    refine gM_X10_358_0 X dX10_ways_18 ?_
    exact z_lret X hr hlk dX10_ways_21 h
  · refine z_iload_n Z dX10_ways_10 rfl 0 rfl ?_
    refine z_i2l Z dX10_ways_11 h (fun x0 h => ?_)
    exact z_lret X hr hlk dX10_ways_12 h
set_option maxRecDepth 100000 in
set_option maxHeartbeats 4000000 in
theorem c_X10_dearest {l : Launch} {D : va_G} {cI cZ : ClassId} {ad adK adV : Nat → Nat} {N : Nat} {M M' : zMem} {r : Int} (h : Model_dearest N M = some (r, M')) : z_Ct (wM cI cZ ad) D cI cZ adK adV l yX10_dearest cX10_dearest 2 (some .int) 14 [.ref (ad 0)] M M' (some (.int (z_I r))) := by
  unfold Model_dearest at h
  refine z_entry (own := RX10) rfl (by decide) (Nat.le_of_ble_eq_true rfl) ?_
  intro p e s m args below meth c R A X hr hlk
  have Z := X.1
  refine z_sub (lv' := [(0, .ref (ad 0))]) [0] rfl ?_
  refine z_aload_n Z dX10_dearest_0 rfl 0 rfl ?_
  refine z_iconst Z dX10_dearest_1 ?_
  obtain ⟨r_, M1, hf, h⟩ := z_cld h
  refine z_callVi (Wd := wM cI cZ ad) X (c_X10_whyNotLaw hf) ml_X10_393 yd_X10_whyNotLaw yw_X10_whyNotLaw (by omega) (by decide) (rM_0 X) rfl rfl (Nat.le_of_ble_eq_true rfl) ⟨Nat.zero_le _, Nat.zero_le _⟩ dX10_dearest_2 ?_
  refine z_istore_n (lv' := [(1, .int (z_I r_)), (0, .ref (ad 0))]) Z dX10_dearest_5 rfl (by decide) rfl ?_
  refine z_iload_n Z dX10_dearest_6 rfl 0 rfl ?_
  refine z_if_ge (tgt := 12) Z dX10_dearest_7 (by decide) h (fun h => ?_) (fun h => ?_)
  · refine z_aload_n Z dX10_dearest_12 rfl 1 rfl ?_
    obtain ⟨u_, M2, hf1, h⟩ := z_cld h
    refine z_callVv (Wd := wM cI cZ ad) X (c_X10_triesAll hf1) ml_X10_385 yd_X10_triesAll yw_X10_triesAll (by omega) (by decide) (rM_0 X) rfl rfl (Nat.le_of_ble_eq_true rfl) ⟨Nat.zero_le _, Nat.zero_le _⟩ dX10_dearest_13 ?_
    refine z_aload_n Z dX10_dearest_16 rfl 1 rfl ?_
    refine gM_X10_362_0 X dX10_dearest_17 ?_
    exact z_iret X hr hlk dX10_dearest_20 h
  · refine z_iload_n Z dX10_dearest_10 rfl 0 rfl ?_
    exact z_iret X hr hlk dX10_dearest_11 h
set_option maxRecDepth 100000 in
set_option maxHeartbeats 4000000 in
theorem wModel_keeps_2 {p : Program} {l : Launch} {e : Env} {R : Room} {s : State} {m : MethodId} {args : Array Value} {below : List Frame} {meth : Method} {c : Code} {D : va_G} {A : Nat → Prop} {cI cZ : ClassId} {adK adV ad : Nat → Nat} {r : Int} {M' : zMem} (X : z_X p m c cX10_keeps 2 s args RX10 R 1 D cI cZ A adK adV) (hr : meth.sig.returnType = none) (hlk : meth.locks = false) (N : Nat) (k : zMem → zO) (hk : ∀ (M : zMem), k M = some (r, M') → z_V p l e R s m args below meth c D A cI cZ 2 (wM cI cZ ad) M' none M 41 [(0, .ref (ad 0))] []) : ∀ (n : Nat) (v1 : Int) (M : zMem), Model_keeps_2 N k n v1 M = some (r, M') → z_V p l e R s m args below meth c D A cI cZ 2 (wM cI cZ ad) M' none M 2 [(0, .ref (ad 0)), (1, .int (z_I v1))] [] := by
  have Z := X.1
  intro n
  induction n with
  | zero =>
    intro v1 M h
    rw [Model_keeps_2] at h
    cases h
  | succ n ih =>
    intro v1 M h
    rw [Model_keeps_2] at h
    refine z_iload_n Z dX10_keeps_2 rfl 1 rfl ?_
    refine z_bipush Z dX10_keeps_3 rfl ?_
    refine z_icmp_ge (tgt := 41) Z dX10_keeps_5 (by decide) h (fun h => ?_) (fun h => ?_)
    · refine z_sub [0] rfl ?_
      exact hk M h
    · refine z_aload_n Z dX10_keeps_8 rfl 0 rfl ?_
      refine gM_X10_16_0 X dX10_keeps_9 ?_
      refine z_bipush Z dX10_keeps_12 rfl ?_
      refine z_aload_n Z dX10_keeps_14 rfl 0 rfl ?_
      refine gM_X10_7_0 X dX10_keeps_15 ?_
      refine z_bipush Z dX10_keeps_18 rfl ?_
      refine ldM_1 X dX10_keeps_20 h (fun x0 h => ?_)
      refine z_imul Z dX10_keeps_21 ?_
      refine z_iload_n Z dX10_keeps_22 rfl 1 rfl ?_
      refine z_iadd Z dX10_keeps_23 ?_
      refine z_aload_n Z dX10_keeps_24 rfl 0 rfl ?_
      refine gM_X10_7_0 X dX10_keeps_25 ?_
      refine z_sipush Z dX10_keeps_28 rfl ?_
      refine z_iload_n Z dX10_keeps_31 rfl 1 rfl ?_
      refine z_iadd Z dX10_keeps_32 ?_
      refine ldM_1 X dX10_keeps_33 h (fun x1 h => ?_)
      refine srM_3 X dX10_keeps_34 h (fun M1 h => ?_)
      refine z_iincn Z (fun z => [(1, .int (z_I z)), (0, .ref (ad 0))]) dX10_keeps_35 (k := 1) rfl (by decide) (fun _ => rfl) h (fun v1_ h => ?_)
      refine z_goto (tgt := 2) Z dX10_keeps_38 (by decide) ?_
      refine z_sub [1, 0] rfl ?_
      exact ih v1_ M1 h
set_option maxRecDepth 100000 in
set_option maxHeartbeats 4000000 in
theorem c_X10_keeps {l : Launch} {D : va_G} {cI cZ : ClassId} {ad adK adV : Nat → Nat} {N : Nat} {M M' : zMem} {r : Int} (h : Model_keeps N M = some (r, M')) : z_Ct (wM cI cZ ad) D cI cZ adK adV l yX10_keeps cX10_keeps 2 none 1 [.ref (ad 0)] M M' none := by
  unfold Model_keeps at h
  refine z_entry (own := RX10) rfl (by decide) (Nat.le_of_ble_eq_true rfl) ?_
  intro p e s m args below meth c R A X hr hlk
  have Z := X.1
  refine z_sub (lv' := [(0, .ref (ad 0))]) [0] rfl ?_
  refine z_iconst Z dX10_keeps_0 ?_
  refine z_istore_n (lv' := [(1, .int (z_I 0)), (0, .ref (ad 0))]) Z dX10_keeps_1 rfl (by decide) rfl ?_
  refine z_jnr (P := fun (k : zMem → zO) => ∀ (M1 : zMem), k M1 = some (r, M') → z_V p l e R s m args below meth c D A cI cZ 2 (wM cI cZ ad) M' none M1 41 [(0, .ref (ad 0))] []) h ?_ ?_
  · intro M1 h
    refine z_aload_n Z dX10_keeps_41 rfl 0 rfl ?_
    refine gM_X10_7_0 X dX10_keeps_42 ?_
    refine z_bipush Z dX10_keeps_45 rfl ?_
    refine z_dup2 Z dX10_keeps_47 rfl rfl ?_
    refine ldM_1 X dX10_keeps_48 h (fun x0 h => ?_)
    refine z_iconst Z dX10_keeps_49 ?_
    refine z_iadd Z dX10_keeps_50 ?_
    refine srM_1 X dX10_keeps_51 h (fun M2 h => ?_)
    exact z_vret X hr hlk dX10_keeps_52 h
  · intro k0 hk0 h
    refine z_sub [1, 0] rfl ?_
    exact wModel_keeps_2 X hr hlk N k0 hk0 N 0 M h
set_option maxRecDepth 100000 in
set_option maxHeartbeats 4000000 in
theorem c_X10_put {l : Launch} {D : va_G} {cI cZ : ClassId} {ad adK adV : Nat → Nat} {N : Nat} {v1 v2 : Int} {M M' : zMem} {r : Int} (h : Model_put N v1 v2 M = some (r, M')) : z_Ct (wM cI cZ ad) D cI cZ adK adV l yX10_put cX10_put 4 (some .int) 7 [.ref (ad 0), .int (z_I v1), .int (z_I v2)] M M' (some (.int (z_I r))) := by
  unfold Model_put at h
  refine z_entry (own := RX10) rfl (by decide) (Nat.le_of_ble_eq_true rfl) ?_
  intro p e s m args below meth c R A X hr hlk
  have Z := X.1
  refine z_sub (lv' := [(0, .ref (ad 0)), (1, .int (z_I v1)), (2, .int (z_I v2))]) [0, 1, 2] rfl ?_
  refine z_aload_n Z dX10_put_0 rfl 0 rfl ?_
  refine z_iload_n Z dX10_put_1 rfl 1 rfl ?_
  refine z_iload_n Z dX10_put_2 rfl 2 rfl ?_
  obtain ⟨r_, M1, hf, h⟩ := z_cld h
  refine z_callVi (Wd := wM cI cZ ad) X (c_X10_whyNot hf) ml_X10_327 yd_X10_whyNot yw_X10_whyNot (by omega) (by decide) (rM_0 X) rfl rfl (Nat.le_of_ble_eq_true rfl) ⟨Nat.zero_le _, Nat.zero_le _⟩ dX10_put_3 ?_
  refine z_istore_n (lv' := [(3, .int (z_I r_)), (0, .ref (ad 0)), (1, .int (z_I v1)), (2, .int (z_I v2))]) Z dX10_put_6 rfl (by decide) rfl ?_
  refine z_iload_n Z dX10_put_7 rfl 0 rfl ?_
  refine z_jnr (P := fun (k : zMem → zO) => ∀ (M2 : zMem), k M2 = some (r, M') → z_V p l e R s m args below meth c D A cI cZ 4 (wM cI cZ ad) M' (some (.int (z_I r))) M2 23 [(3, .int (z_I r_))] []) h ?_ ?_
  · intro M2 h
    refine z_iload_n Z dX10_put_23 rfl 0 rfl ?_
    refine z_if_ge (tgt := 31) Z dX10_put_24 (by decide) h (fun h => ?_) (fun h => ?_)
    · refine z_bipush Z dX10_put_31 rfl ?_
      exact z_iret X hr hlk dX10_put_33 h
    · refine z_iload_n Z dX10_put_27 rfl 0 rfl ?_
      refine z_goto (tgt := 33) Z dX10_put_28 (by decide) ?_
      exact z_iret X hr hlk dX10_put_33 h
  · intro k0 hk0 h
    refine z_if_lt (tgt := 23) Z dX10_put_8 (by decide) h (fun h => ?_) (fun h => ?_)
    · refine z_sub [0] rfl ?_
      exact hk0 M1 h
    · refine z_aload_n Z dX10_put_11 rfl 1 rfl ?_
      refine gM_X10_7_0 X dX10_put_12 ?_
      refine z_bipush Z dX10_put_15 rfl ?_
      refine ldM_1 X dX10_put_17 h (fun x0 h => ?_)
      refine z_bipush Z dX10_put_18 rfl ?_
      refine z_icmp_ne (tgt := 34) Z dX10_put_20 (by decide) h (fun h => ?_) (fun h => ?_)
      · refine z_aload_n Z dX10_put_34 rfl 1 rfl ?_
        obtain ⟨u_, M3, hf1, h⟩ := z_cld h
        refine z_callVv (Wd := wM cI cZ ad) X (c_X10_keeps hf1) ml_X10_396 yd_X10_keeps yw_X10_keeps (by omega) (by decide) (rM_0 X) rfl rfl (Nat.le_of_ble_eq_true rfl) ⟨Nat.zero_le _, Nat.zero_le _⟩ dX10_put_35 ?_
        refine z_aload_n Z dX10_put_38 rfl 1 rfl ?_
        refine gM_X10_7_0 X dX10_put_39 ?_
        refine z_sipush Z dX10_put_42 rfl ?_
        refine z_iload_n Z dX10_put_45 rfl 2 rfl ?_
        refine z_iadd Z dX10_put_46 ?_
        refine z_iload_n Z dX10_put_47 rfl 3 rfl ?_
        refine srM_1 X dX10_put_48 h (fun M4 h => ?_)
        refine z_aload_n Z dX10_put_49 rfl 1 rfl ?_
        obtain ⟨r_1, M5, hf2, h⟩ := z_cld h
        refine z_callVi (Wd := wM cI cZ ad) X (c_X10_timeNow hf2) ml_X10_313 yd_X10_timeNow yw_X10_timeNow (by omega) (by decide) (rM_0 X) rfl rfl (Nat.le_of_ble_eq_true rfl) ⟨Nat.zero_le _, Nat.zero_le _⟩ dX10_put_50 ?_
        exact z_iret X hr hlk dX10_put_53 h
      · refine z_sub [0] rfl ?_
        exact hk0 M1 h
set_option maxRecDepth 100000 in
set_option maxHeartbeats 4000000 in
theorem c_X10_swap {l : Launch} {D : va_G} {cI cZ : ClassId} {ad adK adV : Nat → Nat} {N : Nat} {v1 v2 : Int} {M M' : zMem} {r : Int} (h : Model_swap N v1 v2 M = some (r, M')) : z_Ct (wM cI cZ ad) D cI cZ adK adV l yX10_swap cX10_swap 5 (some .int) 7 [.ref (ad 0), .int (z_I v1), .int (z_I v2)] M M' (some (.int (z_I r))) := by
  unfold Model_swap at h
  refine z_entry (own := RX10) rfl (by decide) (Nat.le_of_ble_eq_true rfl) ?_
  intro p e s m args below meth c R A X hr hlk
  have Z := X.1
  refine z_sub (lv' := [(0, .ref (ad 0)), (1, .int (z_I v1)), (2, .int (z_I v2))]) [0, 1, 2] rfl ?_
  refine z_aload_n Z dX10_swap_0 rfl 0 rfl ?_
  refine z_iload_n Z dX10_swap_1 rfl 1 rfl ?_
  refine z_iload_n Z dX10_swap_2 rfl 2 rfl ?_
  obtain ⟨r_, M1, hf, h⟩ := z_cld h
  refine z_callVi (Wd := wM cI cZ ad) X (c_X10_whyNotBoth hf) ml_X10_333 yd_X10_whyNotBoth yw_X10_whyNotBoth (by omega) (by decide) (rM_0 X) rfl rfl (Nat.le_of_ble_eq_true rfl) ⟨Nat.zero_le _, Nat.zero_le _⟩ dX10_swap_3 ?_
  refine z_istore_n (lv' := [(3, .int (z_I r_)), (0, .ref (ad 0)), (1, .int (z_I v1)), (2, .int (z_I v2))]) Z dX10_swap_6 rfl (by decide) rfl ?_
  refine z_iload_n Z dX10_swap_7 rfl 0 rfl ?_
  refine z_jnr (P := fun (k : zMem → zO) => ∀ (M2 : zMem), k M2 = some (r, M') → z_V p l e R s m args below meth c D A cI cZ 5 (wM cI cZ ad) M' (some (.int (z_I r))) M2 23 [(3, .int (z_I r_))] []) h ?_ ?_
  · intro M2 h
    refine z_iload_n Z dX10_swap_23 rfl 0 rfl ?_
    refine z_if_ge (tgt := 31) Z dX10_swap_24 (by decide) h (fun h => ?_) (fun h => ?_)
    · refine z_bipush Z dX10_swap_31 rfl ?_
      exact z_iret X hr hlk dX10_swap_33 h
    · refine z_iload_n Z dX10_swap_27 rfl 0 rfl ?_
      refine z_goto (tgt := 33) Z dX10_swap_28 (by decide) ?_
      exact z_iret X hr hlk dX10_swap_33 h
  · intro k0 hk0 h
    refine z_if_lt (tgt := 23) Z dX10_swap_8 (by decide) h (fun h => ?_) (fun h => ?_)
    · refine z_sub [0] rfl ?_
      exact hk0 M1 h
    · refine z_aload_n Z dX10_swap_11 rfl 1 rfl ?_
      refine gM_X10_7_0 X dX10_swap_12 ?_
      refine z_bipush Z dX10_swap_15 rfl ?_
      refine ldM_1 X dX10_swap_17 h (fun x0 h => ?_)
      refine z_bipush Z dX10_swap_18 rfl ?_
      refine z_icmp_ne (tgt := 34) Z dX10_swap_20 (by decide) h (fun h => ?_) (fun h => ?_)
      · refine z_aload_n Z dX10_swap_34 rfl 1 rfl ?_
        obtain ⟨u_, M3, hf1, h⟩ := z_cld h
        refine z_callVv (Wd := wM cI cZ ad) X (c_X10_keeps hf1) ml_X10_396 yd_X10_keeps yw_X10_keeps (by omega) (by decide) (rM_0 X) rfl rfl (Nat.le_of_ble_eq_true rfl) ⟨Nat.zero_le _, Nat.zero_le _⟩ dX10_swap_35 ?_
        refine z_aload_n Z dX10_swap_38 rfl 1 rfl ?_
        refine gM_X10_7_0 X dX10_swap_39 ?_
        refine z_sipush Z dX10_swap_42 rfl ?_
        refine z_iload_n Z dX10_swap_45 rfl 2 rfl ?_
        refine z_iadd Z dX10_swap_46 ?_
        refine ldM_1 X dX10_swap_47 h (fun x1 h => ?_)
        refine z_istore (lv' := [(4, .int (z_I x1)), (3, .int (z_I r_)), (0, .ref (ad 0)), (1, .int (z_I v1)), (2, .int (z_I v2))]) Z dX10_swap_48 (by decide) rfl ?_
        refine z_aload_n Z dX10_swap_50 rfl 2 rfl ?_
        refine gM_X10_7_0 X dX10_swap_51 ?_
        refine z_sipush Z dX10_swap_54 rfl ?_
        refine z_iload_n Z dX10_swap_57 rfl 3 rfl ?_
        refine z_iadd Z dX10_swap_58 ?_
        refine z_aload_n Z dX10_swap_59 rfl 2 rfl ?_
        refine gM_X10_7_0 X dX10_swap_60 ?_
        refine z_sipush Z dX10_swap_63 rfl ?_
        refine z_iload_n Z dX10_swap_66 rfl 4 rfl ?_
        refine z_iadd Z dX10_swap_67 ?_
        refine ldM_1 X dX10_swap_68 h (fun x2 h => ?_)
        refine srM_1 X dX10_swap_69 h (fun M4 h => ?_)
        refine z_aload_n Z dX10_swap_70 rfl 2 rfl ?_
        refine gM_X10_7_0 X dX10_swap_71 ?_
        refine z_sipush Z dX10_swap_74 rfl ?_
        refine z_iload_n Z dX10_swap_77 rfl 4 rfl ?_
        refine z_iadd Z dX10_swap_78 ?_
        refine z_iload Z dX10_swap_79 0 rfl ?_
        refine srM_1 X dX10_swap_81 h (fun M5 h => ?_)
        refine z_aload_n Z dX10_swap_82 rfl 2 rfl ?_
        obtain ⟨r_1, M6, hf2, h⟩ := z_cld h
        refine z_callVi (Wd := wM cI cZ ad) X (c_X10_timeNow hf2) ml_X10_313 yd_X10_timeNow yw_X10_timeNow (by omega) (by decide) (rM_0 X) rfl rfl (Nat.le_of_ble_eq_true rfl) ⟨Nat.zero_le _, Nat.zero_le _⟩ dX10_swap_83 ?_
        exact z_iret X hr hlk dX10_swap_86 h
      · refine z_sub [0] rfl ?_
        exact hk0 M1 h
set_option maxRecDepth 100000 in
set_option maxHeartbeats 4000000 in
theorem c_X10_lays {l : Launch} {D : va_G} {cI cZ : ClassId} {ad adK adV : Nat → Nat} {N : Nat} {v1 : Int} {M M' : zMem} {r : Int} (h : Model_lays N v1 M = some (r, M')) : z_Ct (wM cI cZ ad) D cI cZ adK adV l yX10_lays cX10_lays 3 (some .int) 15 [.ref (ad 0), .int (z_I v1)] M M' (some (.int (z_I r))) := by
  unfold Model_lays at h
  refine z_entry (own := RX10) rfl (by decide) (Nat.le_of_ble_eq_true rfl) ?_
  intro p e s m args below meth c R A X hr hlk
  have Z := X.1
  refine z_sub (lv' := [(0, .ref (ad 0)), (1, .int (z_I v1))]) [0, 1] rfl ?_
  refine z_aload_n Z dX10_lays_0 rfl 0 rfl ?_
  refine z_iload_n Z dX10_lays_1 rfl 1 rfl ?_
  obtain ⟨r_, M1, hf, h⟩ := z_cld h
  refine z_callVi (Wd := wM cI cZ ad) X (c_X10_whyNotLaw hf) ml_X10_393 yd_X10_whyNotLaw yw_X10_whyNotLaw (by omega) (by decide) (rM_0 X) rfl rfl (Nat.le_of_ble_eq_true rfl) ⟨Nat.zero_le _, Nat.zero_le _⟩ dX10_lays_2 ?_
  refine z_istore_n (lv' := [(2, .int (z_I r_)), (0, .ref (ad 0)), (1, .int (z_I v1))]) Z dX10_lays_5 rfl (by decide) rfl ?_
  refine z_iload_n Z dX10_lays_6 rfl 0 rfl ?_
  refine z_bipush Z dX10_lays_7 rfl ?_
  refine z_jnr (P := fun (k : zMem → zO) => ∀ (M2 : zMem), k M2 = some (r, M') → z_V p l e R s m args below meth c D A cI cZ 3 (wM cI cZ ad) M' (some (.int (z_I r))) M2 46 [(2, .int (z_I r_))] []) h ?_ ?_
  · intro M2 h
    refine z_iload_n Z dX10_lays_46 rfl 0 rfl ?_
    refine z_bipush Z dX10_lays_47 rfl ?_
    refine z_icmp_ne (tgt := 56) Z dX10_lays_49 (by decide) h (fun h => ?_) (fun h => ?_)
    · refine z_bipush Z dX10_lays_56 rfl ?_
      exact z_iret X hr hlk dX10_lays_58 h
    · refine z_iload_n Z dX10_lays_52 rfl 0 rfl ?_
      refine z_goto (tgt := 58) Z dX10_lays_53 (by decide) ?_
      exact z_iret X hr hlk dX10_lays_58 h
  · intro k0 hk0 h
    refine z_icmp_eq (tgt := 46) Z dX10_lays_9 (by decide) h (fun h => ?_) (fun h => ?_)
    · refine z_sub [0] rfl ?_
      exact hk0 M1 h
    · refine z_iload_n Z dX10_lays_12 rfl 0 rfl ?_
      refine z_jnr (P := fun (k : zMem → zO) => ∀ (M3 : zMem), k M3 = some (r, M') → z_V p l e R s m args below meth c D A cI cZ 3 (wM cI cZ ad) M' (some (.int (z_I r))) M3 28 [(0, .ref (ad 0)), (1, .int (z_I v1)), (2, .int (z_I r_))] []) h ?_ ?_
      · intro M3 h
        refine z_iload_n Z dX10_lays_28 rfl 2 rfl ?_
        refine z_bipush Z dX10_lays_29 rfl ?_
        refine z_jnr (P := fun (k : zMem → zO) => ∀ (M4 : zMem), k M4 = some (r, M') → z_V p l e R s m args below meth c D A cI cZ 3 (wM cI cZ ad) M' (some (.int (z_I r))) M4 59 [(0, .ref (ad 0)), (1, .int (z_I v1)), (2, .int (z_I r_))] []) h ?_ ?_
        · intro M4 h
          refine z_iload_n Z dX10_lays_59 rfl 2 rfl ?_
          refine z_if_ge (tgt := 65) Z dX10_lays_60 (by decide) h (fun h => ?_) (fun h => ?_)
          · refine z_aload_n Z dX10_lays_65 rfl 0 rfl ?_
            refine z_iload_n Z dX10_lays_66 rfl 1 rfl ?_
            obtain ⟨u_, M5, hf1, h⟩ := z_cld h
            refine z_callVv (Wd := wM cI cZ ad) X (c_X10_laysBy hf1) ml_X10_243 yd_X10_laysBy yw_X10_laysBy (by omega) (by decide) (rM_0 X) rfl rfl (Nat.le_of_ble_eq_true rfl) ⟨Nat.zero_le _, Nat.zero_le _⟩ dX10_lays_67 ?_
            refine z_aload_n Z dX10_lays_70 rfl 0 rfl ?_
            obtain ⟨u_1, M6, hf2, h⟩ := z_cld h
            refine z_callVv (Wd := wM cI cZ ad) X (c_X10_keeps hf2) ml_X10_396 yd_X10_keeps yw_X10_keeps (by omega) (by decide) (rM_0 X) rfl rfl (Nat.le_of_ble_eq_true rfl) ⟨Nat.zero_le _, Nat.zero_le _⟩ dX10_lays_71 ?_
            refine z_aload_n Z dX10_lays_74 rfl 0 rfl ?_
            obtain ⟨u_2, M7, hf3, h⟩ := z_cld h
            refine z_callVv (Wd := wM cI cZ ad) X (c_X10_takesLaid hf3) ml_X10_246 yd_X10_takesLaid yw_X10_takesLaid (by omega) (by decide) (rM_0 X) rfl rfl (Nat.le_of_ble_eq_true rfl) ⟨Nat.zero_le _, Nat.zero_le _⟩ dX10_lays_75 ?_
            refine z_aload_n Z dX10_lays_78 rfl 0 rfl ?_
            obtain ⟨r_1, M8, hf4, h⟩ := z_cld h
            refine z_callVi (Wd := wM cI cZ ad) X (c_X10_timeNow hf4) ml_X10_313 yd_X10_timeNow yw_X10_timeNow (by omega) (by decide) (rM_0 X) rfl rfl (Nat.le_of_ble_eq_true rfl) ⟨Nat.zero_le _, Nat.zero_le _⟩ dX10_lays_79 ?_
            exact z_iret X hr hlk dX10_lays_82 h
          · refine z_iload_n Z dX10_lays_63 rfl 2 rfl ?_
            exact z_iret X hr hlk dX10_lays_64 h
        · intro k2 hk2 h
          refine z_icmp_ne (tgt := 59) Z dX10_lays_31 (by decide) h (fun h => ?_) (fun h => ?_)
          · refine z_sub [0, 1, 2] rfl ?_
            exact hk2 M3 h
          · refine z_aload_n Z dX10_lays_34 rfl 0 rfl ?_
            refine gM_X10_7_0 X dX10_lays_35 ?_
            refine z_bipush Z dX10_lays_38 rfl ?_
            refine ldM_1 X dX10_lays_40 h (fun x0 h => ?_)
            refine z_bipush Z dX10_lays_41 rfl ?_
            refine z_icmp_ne (tgt := 59) Z dX10_lays_43 (by decide) h (fun h => ?_) (fun h => ?_)
            · refine z_sub [0, 1, 2] rfl ?_
              exact hk2 M3 h
            · refine z_sub [2] rfl ?_
              exact hk0 M3 h
      · intro k1 hk1 h
        refine z_if_ne (tgt := 28) Z dX10_lays_13 (by decide) h (fun h => ?_) (fun h => ?_)
        · refine z_sub [1, 2, 0] rfl ?_
          exact hk1 M1 h
        · refine z_aload_n Z dX10_lays_16 rfl 1 rfl ?_
          refine gM_X10_7_0 X dX10_lays_17 ?_
          refine z_bipush Z dX10_lays_20 rfl ?_
          refine ldM_1 X dX10_lays_22 h (fun x1 h => ?_)
          refine z_bipush Z dX10_lays_23 rfl ?_
          refine z_icmp_eq (tgt := 46) Z dX10_lays_25 (by decide) h (fun h => ?_) (fun h => ?_)
          · refine z_sub [0] rfl ?_
            exact hk0 M1 h
          · refine z_sub [1, 2, 0] rfl ?_
            exact hk1 M1 h
set_option maxRecDepth 100000 in
set_option maxHeartbeats 4000000 in
theorem wModel_goesBack_10 {p : Program} {l : Launch} {e : Env} {R : Room} {s : State} {m : MethodId} {args : Array Value} {below : List Frame} {meth : Method} {c : Code} {D : va_G} {A : Nat → Prop} {cI cZ : ClassId} {adK adV ad : Nat → Nat} {r : Int} {M' : zMem} (X : z_X p m c cX10_goesBack 3 s args RX10 R 1 D cI cZ A adK adV) (hr : meth.sig.returnType = none) (hlk : meth.locks = false) (N : Nat) (v1 : Int) (k : zMem → zO) (hk : ∀ (M : zMem), k M = some (r, M') → z_V p l e R s m args below meth c D A cI cZ 3 (wM cI cZ ad) M' none M 43 [] []) : ∀ (n : Nat) (v2 : Int) (M : zMem), Model_goesBack_10 N v1 k n v2 M = some (r, M') → z_V p l e R s m args below meth c D A cI cZ 3 (wM cI cZ ad) M' none M 10 [(0, .ref (ad 0)), (1, .int (z_I v1)), (2, .int (z_I v2))] [] := by
  have Z := X.1
  intro n
  induction n with
  | zero =>
    intro v2 M h
    rw [Model_goesBack_10] at h
    cases h
  | succ n ih =>
    intro v2 M h
    rw [Model_goesBack_10] at h
    refine z_iload_n Z dX10_goesBack_10 rfl 2 rfl ?_
    refine z_bipush Z dX10_goesBack_11 rfl ?_
    refine z_icmp_ge (tgt := 43) Z dX10_goesBack_13 (by decide) h (fun h => ?_) (fun h => ?_)
    · refine z_sub [] rfl ?_
      exact hk M h
    · refine z_aload_n Z dX10_goesBack_16 rfl 0 rfl ?_
      refine gM_X10_7_0 X dX10_goesBack_17 ?_
      refine z_sipush Z dX10_goesBack_20 rfl ?_
      refine z_iload_n Z dX10_goesBack_23 rfl 2 rfl ?_
      refine z_iadd Z dX10_goesBack_24 ?_
      refine z_aload_n Z dX10_goesBack_25 rfl 0 rfl ?_
      refine gM_X10_16_0 X dX10_goesBack_26 ?_
      refine z_bipush Z dX10_goesBack_29 rfl ?_
      refine z_iload_n Z dX10_goesBack_31 rfl 1 rfl ?_
      refine z_imul Z dX10_goesBack_32 ?_
      refine z_iload_n Z dX10_goesBack_33 rfl 2 rfl ?_
      refine z_iadd Z dX10_goesBack_34 ?_
      refine ldM_3 X dX10_goesBack_35 h (fun x0 h => ?_)
      refine srM_1 X dX10_goesBack_36 h (fun M1 h => ?_)
      refine z_iincn Z (fun z => [(2, .int (z_I z)), (0, .ref (ad 0)), (1, .int (z_I v1))]) dX10_goesBack_37 (k := 2) rfl (by decide) (fun _ => rfl) h (fun v2_ h => ?_)
      refine z_goto (tgt := 10) Z dX10_goesBack_40 (by decide) ?_
      refine z_sub [1, 2, 0] rfl ?_
      exact ih v2_ M1 h
set_option maxRecDepth 100000 in
set_option maxHeartbeats 4000000 in
theorem c_X10_goesBack {l : Launch} {D : va_G} {cI cZ : ClassId} {ad adK adV : Nat → Nat} {N : Nat} {v1 : Int} {M M' : zMem} {r : Int} (h : Model_goesBack N v1 M = some (r, M')) : z_Ct (wM cI cZ ad) D cI cZ adK adV l yX10_goesBack cX10_goesBack 3 none 1 [.ref (ad 0), .int (z_I v1)] M M' none := by
  unfold Model_goesBack at h
  refine z_entry (own := RX10) rfl (by decide) (Nat.le_of_ble_eq_true rfl) ?_
  intro p e s m args below meth c R A X hr hlk
  have Z := X.1
  refine z_sub (lv' := [(0, .ref (ad 0)), (1, .int (z_I v1))]) [0, 1] rfl ?_
  refine z_aload_n Z dX10_goesBack_0 rfl 0 rfl ?_
  refine gM_X10_7_0 X dX10_goesBack_1 ?_
  refine z_bipush Z dX10_goesBack_4 rfl ?_
  refine z_iload_n Z dX10_goesBack_6 rfl 1 rfl ?_
  refine srM_1 X dX10_goesBack_7 h (fun M1 h => ?_)
  refine z_iconst Z dX10_goesBack_8 ?_
  refine z_istore_n (lv' := [(2, .int (z_I 0)), (0, .ref (ad 0)), (1, .int (z_I v1))]) Z dX10_goesBack_9 rfl (by decide) rfl ?_
  refine z_jnr (P := fun (k : zMem → zO) => ∀ (M2 : zMem), k M2 = some (r, M') → z_V p l e R s m args below meth c D A cI cZ 3 (wM cI cZ ad) M' none M2 43 [] []) h ?_ ?_
  · intro M2 h
    exact z_vret X hr hlk dX10_goesBack_43 h
  · intro k0 hk0 h
    refine z_sub [1, 2, 0] rfl ?_
    exact wModel_goesBack_10 X hr hlk N v1 k0 hk0 N 0 M1 h
set_option maxRecDepth 100000 in
set_option maxHeartbeats 4000000 in
theorem c_X10_undo {l : Launch} {D : va_G} {cI cZ : ClassId} {ad adK adV : Nat → Nat} {N : Nat} {M M' : zMem} {r : Int} (h : Model_undo N M = some (r, M')) : z_Ct (wM cI cZ ad) D cI cZ adK adV l yX10_undo cX10_undo 1 (some .int) 2 [.ref (ad 0)] M M' (some (.int (z_I r))) := by
  unfold Model_undo at h
  refine z_entry (own := RX10) rfl (by decide) (Nat.le_of_ble_eq_true rfl) ?_
  intro p e s m args below meth c R A X hr hlk
  have Z := X.1
  refine z_sub (lv' := [(0, .ref (ad 0))]) [0] rfl ?_
  refine z_aload_n Z dX10_undo_0 rfl 0 rfl ?_
  refine gM_X10_7_0 X dX10_undo_1 ?_
  refine z_bipush Z dX10_undo_4 rfl ?_
  refine ldM_1 X dX10_undo_6 h (fun x0 h => ?_)
  refine z_if_ne (tgt := 13) Z dX10_undo_7 (by decide) h (fun h => ?_) (fun h => ?_)
  · refine z_aload_n Z dX10_undo_13 rfl 0 rfl ?_
    refine gM_X10_7_0 X dX10_undo_14 ?_
    refine z_bipush Z dX10_undo_17 rfl ?_
    refine ldM_1 X dX10_undo_19 h (fun x1 h => ?_)
    refine z_if_ne (tgt := 26) Z dX10_undo_20 (by decide) h (fun h => ?_) (fun h => ?_)
    · refine z_aload_n Z dX10_undo_26 rfl 0 rfl ?_
      refine z_aload_n Z dX10_undo_27 rfl 0 rfl ?_
      refine gM_X10_7_0 X dX10_undo_28 ?_
      refine z_bipush Z dX10_undo_31 rfl ?_
      refine ldM_1 X dX10_undo_33 h (fun x2 h => ?_)
      refine z_iconst Z dX10_undo_34 ?_
      refine z_isub Z dX10_undo_35 ?_
      obtain ⟨u_, M1, hf, h⟩ := z_cld h
      refine z_callVv (Wd := wM cI cZ ad) X (c_X10_goesBack hf) ml_X10_399 yd_X10_goesBack yw_X10_goesBack (by omega) (by decide) (rM_0 X) rfl rfl (Nat.le_of_ble_eq_true rfl) ⟨Nat.zero_le _, Nat.zero_le _⟩ dX10_undo_36 ?_
      refine z_aload_n Z dX10_undo_39 rfl 0 rfl ?_
      refine gM_X10_7_0 X dX10_undo_40 ?_
      refine z_bipush Z dX10_undo_43 rfl ?_
      refine ldM_1 X dX10_undo_45 h (fun x3 h => ?_)
      exact z_iret X hr hlk dX10_undo_46 h
    · refine z_bipush Z dX10_undo_23 rfl ?_
      exact z_iret X hr hlk dX10_undo_25 h
  · refine z_bipush Z dX10_undo_10 rfl ?_
    exact z_iret X hr hlk dX10_undo_12 h
set_option maxRecDepth 100000 in
set_option maxHeartbeats 4000000 in
theorem c_X10_anew {l : Launch} {D : va_G} {cI cZ : ClassId} {ad adK adV : Nat → Nat} {N : Nat} {M M' : zMem} {r : Int} (h : Model_anew N M = some (r, M')) : z_Ct (wM cI cZ ad) D cI cZ adK adV l yX10_anew cX10_anew 2 (some .int) 2 [.ref (ad 0)] M M' (some (.int (z_I r))) := by
  unfold Model_anew at h
  refine z_entry (own := RX10) rfl (by decide) (Nat.le_of_ble_eq_true rfl) ?_
  intro p e s m args below meth c R A X hr hlk
  have Z := X.1
  refine z_sub (lv' := [(0, .ref (ad 0))]) [0] rfl ?_
  refine z_aload_n Z dX10_anew_0 rfl 0 rfl ?_
  refine gM_X10_7_0 X dX10_anew_1 ?_
  refine z_bipush Z dX10_anew_4 rfl ?_
  refine ldM_1 X dX10_anew_6 h (fun x0 h => ?_)
  refine z_if_ne (tgt := 13) Z dX10_anew_7 (by decide) h (fun h => ?_) (fun h => ?_)
  · refine z_aload_n Z dX10_anew_13 rfl 0 rfl ?_
    refine gM_X10_7_0 X dX10_anew_14 ?_
    refine z_bipush Z dX10_anew_17 rfl ?_
    refine ldM_1 X dX10_anew_19 h (fun x1 h => ?_)
    refine z_istore_n (lv' := [(1, .int (z_I x1)), (0, .ref (ad 0))]) Z dX10_anew_20 rfl (by decide) rfl ?_
    refine z_iload_n Z dX10_anew_21 rfl 0 rfl ?_
    refine z_if_le (tgt := 30) Z dX10_anew_22 (by decide) h (fun h => ?_) (fun h => ?_)
    · refine z_iload_n Z dX10_anew_30 rfl 0 rfl ?_
      exact z_iret X hr hlk dX10_anew_31 h
    · refine z_aload_n Z dX10_anew_25 rfl 1 rfl ?_
      refine z_iconst Z dX10_anew_26 ?_
      obtain ⟨u_, M1, hf, h⟩ := z_cld h
      refine z_callVv (Wd := wM cI cZ ad) X (c_X10_goesBack hf) ml_X10_399 yd_X10_goesBack yw_X10_goesBack (by omega) (by decide) (rM_0 X) rfl rfl (Nat.le_of_ble_eq_true rfl) ⟨Nat.zero_le _, Nat.zero_le _⟩ dX10_anew_27 ?_
      refine z_iload_n Z dX10_anew_30 rfl 0 rfl ?_
      exact z_iret X hr hlk dX10_anew_31 h
  · refine z_bipush Z dX10_anew_10 rfl ?_
    exact z_iret X hr hlk dX10_anew_12 h
