/-! the machine does what the pure programs say -/
set_option maxRecDepth 100000 in
set_option maxHeartbeats 4000000 in
theorem wClock_aim_2 {p : Program} {l : Launch} {e : Env} {R : Room} {s : State} {m : MethodId} {args : Array Value} {below : List Frame} {meth : Method} {c : Code} {D : va_G} {A : Nat → Prop} {cI cZ : ClassId} {adK adV ad : Nat → Nat} {r : Int} {M' : zMem} {ca : Nat} (X : z_X p m c cX1_aim 4 s args RX1 R 3 D cI cZ A adK adV) (hr : meth.sig.returnType = none) (hlk : meth.locks = false) (hcell : ca = 57 ∨ ca = 50 ∨ ca = 58) (N : Nat) (v2 : Int) (k : zMem → zO) (hk : ∀ (M : zMem), k M = some (r, M') → z_V p l e R s m args below meth c D A cI cZ 4 (wC cI cZ ad) M' none M 28 [] []) : ∀ (n : Nat) (v3 : Int) (M : zMem), Clock_aim_2 N ca v2 k n v3 M = some (r, M') → z_V p l e R s m args below meth c D A cI cZ 4 (wC cI cZ ad) M' none M 2 [(0, .ref (ad 41)), (1, .ref (ad ca)), (2, .int (z_I v2)), (3, .int (z_I v3))] [] := by
  rcases hcell with rfl | rfl | rfl
  · have Z := X.1
    intro n
    induction n with
    | zero =>
      intro v3 M h
      rw [Clock_aim_2] at h
      cases h
    | succ n ih =>
      intro v3 M h
      rw [Clock_aim_2] at h
      refine z_iload_n Z dX1_aim_2 rfl 3 rfl ?_
      refine z_aload_n Z dX1_aim_3 rfl 0 rfl ?_
      refine gC_X1_24_41 X dX1_aim_4 ?_
      refine gC_X1_40_19 X dX1_aim_7 ?_
      refine z_icmp_ge (tgt := 28) Z dX1_aim_10 (by decide) h (fun h => ?_) (fun h => ?_)
      · refine z_sub [] rfl ?_
        exact hk M h
      · refine z_aload_n Z dX1_aim_13 rfl 0 rfl ?_
        refine z_iload_n Z dX1_aim_14 rfl 3 rfl ?_
        refine z_aload_n Z dX1_aim_15 rfl 1 rfl ?_
        refine z_iload_n Z dX1_aim_16 rfl 3 rfl ?_
        refine ldC_57 X dX1_aim_17 h (fun x0 h => ?_)
        refine z_iload_n Z dX1_aim_18 rfl 2 rfl ?_
        obtain ⟨u_, M1, hf, h⟩ := z_cld h
        refine z_callVv (Wd := wC cI cZ ad) X (c_X1_aimItem hf) ml_X1_46 yd_X1_aimItem yw_X1_aimItem (by omega) (by decide) (rC_41 X) rfl rfl (Nat.le_of_ble_eq_true rfl) ⟨Nat.zero_le _, Nat.zero_le _⟩ dX1_aim_19 ?_
        refine z_iincn Z (fun z => [(3, .int (z_I z)), (0, .ref (ad 41)), (1, .ref (ad 57)), (2, .int (z_I v2))]) dX1_aim_22 (k := 3) rfl (by decide) (fun _ => rfl) h (fun v3_ h => ?_)
        refine z_goto (tgt := 2) Z dX1_aim_25 (by decide) ?_
        refine z_sub [1, 2, 3, 0] rfl ?_
        exact ih v3_ M1 h
  · have Z := X.1
    intro n
    induction n with
    | zero =>
      intro v3 M h
      rw [Clock_aim_2] at h
      cases h
    | succ n ih =>
      intro v3 M h
      rw [Clock_aim_2] at h
      refine z_iload_n Z dX1_aim_2 rfl 3 rfl ?_
      refine z_aload_n Z dX1_aim_3 rfl 0 rfl ?_
      refine gC_X1_24_41 X dX1_aim_4 ?_
      refine gC_X1_40_19 X dX1_aim_7 ?_
      refine z_icmp_ge (tgt := 28) Z dX1_aim_10 (by decide) h (fun h => ?_) (fun h => ?_)
      · refine z_sub [] rfl ?_
        exact hk M h
      · refine z_aload_n Z dX1_aim_13 rfl 0 rfl ?_
        refine z_iload_n Z dX1_aim_14 rfl 3 rfl ?_
        refine z_aload_n Z dX1_aim_15 rfl 1 rfl ?_
        refine z_iload_n Z dX1_aim_16 rfl 3 rfl ?_
        refine ldC_50 X dX1_aim_17 h (fun x0 h => ?_)
        refine z_iload_n Z dX1_aim_18 rfl 2 rfl ?_
        obtain ⟨u_, M1, hf, h⟩ := z_cld h
        refine z_callVv (Wd := wC cI cZ ad) X (c_X1_aimItem hf) ml_X1_46 yd_X1_aimItem yw_X1_aimItem (by omega) (by decide) (rC_41 X) rfl rfl (Nat.le_of_ble_eq_true rfl) ⟨Nat.zero_le _, Nat.zero_le _⟩ dX1_aim_19 ?_
        refine z_iincn Z (fun z => [(3, .int (z_I z)), (0, .ref (ad 41)), (1, .ref (ad 50)), (2, .int (z_I v2))]) dX1_aim_22 (k := 3) rfl (by decide) (fun _ => rfl) h (fun v3_ h => ?_)
        refine z_goto (tgt := 2) Z dX1_aim_25 (by decide) ?_
        refine z_sub [1, 2, 3, 0] rfl ?_
        exact ih v3_ M1 h
  · have Z := X.1
    intro n
    induction n with
    | zero =>
      intro v3 M h
      rw [Clock_aim_2] at h
      cases h
    | succ n ih =>
      intro v3 M h
      rw [Clock_aim_2] at h
      refine z_iload_n Z dX1_aim_2 rfl 3 rfl ?_
      refine z_aload_n Z dX1_aim_3 rfl 0 rfl ?_
      refine gC_X1_24_41 X dX1_aim_4 ?_
      refine gC_X1_40_19 X dX1_aim_7 ?_
      refine z_icmp_ge (tgt := 28) Z dX1_aim_10 (by decide) h (fun h => ?_) (fun h => ?_)
      · refine z_sub [] rfl ?_
        exact hk M h
      · refine z_aload_n Z dX1_aim_13 rfl 0 rfl ?_
        refine z_iload_n Z dX1_aim_14 rfl 3 rfl ?_
        refine z_aload_n Z dX1_aim_15 rfl 1 rfl ?_
        refine z_iload_n Z dX1_aim_16 rfl 3 rfl ?_
        refine ldC_58 X dX1_aim_17 h (fun x0 h => ?_)
        refine z_iload_n Z dX1_aim_18 rfl 2 rfl ?_
        obtain ⟨u_, M1, hf, h⟩ := z_cld h
        refine z_callVv (Wd := wC cI cZ ad) X (c_X1_aimItem hf) ml_X1_46 yd_X1_aimItem yw_X1_aimItem (by omega) (by decide) (rC_41 X) rfl rfl (Nat.le_of_ble_eq_true rfl) ⟨Nat.zero_le _, Nat.zero_le _⟩ dX1_aim_19 ?_
        refine z_iincn Z (fun z => [(3, .int (z_I z)), (0, .ref (ad 41)), (1, .ref (ad 58)), (2, .int (z_I v2))]) dX1_aim_22 (k := 3) rfl (by decide) (fun _ => rfl) h (fun v3_ h => ?_)
        refine z_goto (tgt := 2) Z dX1_aim_25 (by decide) ?_
        refine z_sub [1, 2, 3, 0] rfl ?_
        exact ih v3_ M1 h
set_option maxRecDepth 100000 in
set_option maxHeartbeats 4000000 in
theorem c_X1_aim {l : Launch} {D : va_G} {cI cZ : ClassId} {ad adK adV : Nat → Nat} {N : Nat} {ca : Nat} (hcell : ca = 57 ∨ ca = 50 ∨ ca = 58) {v2 : Int} {M M' : zMem} {r : Int} (h : Clock_aim N ca v2 M = some (r, M')) : z_Ct (wC cI cZ ad) D cI cZ adK adV l yX1_aim cX1_aim 4 none 3 [.ref (ad 41), .ref (ad ca), .int (z_I v2)] M M' none := by
  unfold Clock_aim at h
  rcases hcell with rfl | rfl | rfl
  · refine z_entry (own := RX1) rfl (by decide) (Nat.le_of_ble_eq_true rfl) ?_
    intro p e s m args below meth c R A X hr hlk
    have Z := X.1
    refine z_sub (lv' := [(0, .ref (ad 41)), (1, .ref (ad 57)), (2, .int (z_I v2))]) [0, 1, 2] rfl ?_
    refine z_iconst Z dX1_aim_0 ?_
    refine z_istore_n (lv' := [(3, .int (z_I 0)), (0, .ref (ad 41)), (1, .ref (ad 57)), (2, .int (z_I v2))]) Z dX1_aim_1 rfl (by decide) rfl ?_
    refine z_jnr (P := fun (k : zMem → zO) => ∀ (M1 : zMem), k M1 = some (r, M') → z_V p l e R s m args below meth c D A cI cZ 4 (wC cI cZ ad) M' none M1 28 [] []) h ?_ ?_
    · intro M1 h
      exact z_vret X hr hlk dX1_aim_28 h
    · intro k0 hk0 h
      refine z_sub [1, 2, 3, 0] rfl ?_
      exact wClock_aim_2 X hr hlk (Or.inl rfl) N v2 k0 hk0 N 0 M h
  · refine z_entry (own := RX1) rfl (by decide) (Nat.le_of_ble_eq_true rfl) ?_
    intro p e s m args below meth c R A X hr hlk
    have Z := X.1
    refine z_sub (lv' := [(0, .ref (ad 41)), (1, .ref (ad 50)), (2, .int (z_I v2))]) [0, 1, 2] rfl ?_
    refine z_iconst Z dX1_aim_0 ?_
    refine z_istore_n (lv' := [(3, .int (z_I 0)), (0, .ref (ad 41)), (1, .ref (ad 50)), (2, .int (z_I v2))]) Z dX1_aim_1 rfl (by decide) rfl ?_
    refine z_jnr (P := fun (k : zMem → zO) => ∀ (M1 : zMem), k M1 = some (r, M') → z_V p l e R s m args below meth c D A cI cZ 4 (wC cI cZ ad) M' none M1 28 [] []) h ?_ ?_
    · intro M1 h
      exact z_vret X hr hlk dX1_aim_28 h
    · intro k0 hk0 h
      refine z_sub [1, 2, 3, 0] rfl ?_
      exact wClock_aim_2 X hr hlk (Or.inr (Or.inl rfl)) N v2 k0 hk0 N 0 M h
  · refine z_entry (own := RX1) rfl (by decide) (Nat.le_of_ble_eq_true rfl) ?_
    intro p e s m args below meth c R A X hr hlk
    have Z := X.1
    refine z_sub (lv' := [(0, .ref (ad 41)), (1, .ref (ad 58)), (2, .int (z_I v2))]) [0, 1, 2] rfl ?_
    refine z_iconst Z dX1_aim_0 ?_
    refine z_istore_n (lv' := [(3, .int (z_I 0)), (0, .ref (ad 41)), (1, .ref (ad 58)), (2, .int (z_I v2))]) Z dX1_aim_1 rfl (by decide) rfl ?_
    refine z_jnr (P := fun (k : zMem → zO) => ∀ (M1 : zMem), k M1 = some (r, M') → z_V p l e R s m args below meth c D A cI cZ 4 (wC cI cZ ad) M' none M1 28 [] []) h ?_ ?_
    · intro M1 h
      exact z_vret X hr hlk dX1_aim_28 h
    · intro k0 hk0 h
      refine z_sub [1, 2, 3, 0] rfl ?_
      exact wClock_aim_2 X hr hlk (Or.inr (Or.inr (rfl))) N v2 k0 hk0 N 0 M h
set_option maxRecDepth 100000 in
set_option maxHeartbeats 4000000 in
theorem c_X1_lostFrom {l : Launch} {D : va_G} {cI cZ : ClassId} {ad adK adV : Nat → Nat} {v0 v1 v2 : Int} {M M' : zMem} {r : Int} (h : Clock_lostFrom v0 v1 v2 M = some (r, M')) : z_Ct (wC cI cZ ad) D cI cZ adK adV l yX1_lostFrom cX1_lostFrom 4 (some .int) 1 [.int (z_I v0), .int (z_I v1), .int (z_I v2)] M M' (some (.int (z_I r))) := by
  unfold Clock_lostFrom at h
  refine z_entry (own := RX1) rfl (by decide) (Nat.le_of_ble_eq_true rfl) ?_
  intro p e s m args below meth c R A X hr hlk
  have Z := X.1
  refine z_sub (lv' := [(0, .int (z_I v0)), (1, .int (z_I v1)), (2, .int (z_I v2))]) [0, 1, 2] rfl ?_
  refine z_iload_n Z dX1_lostFrom_0 rfl 1 rfl ?_
  refine z_iconst Z dX1_lostFrom_1 ?_
  refine z_icmp_ge (tgt := 7) Z dX1_lostFrom_2 (by decide) h (fun h => ?_) (fun h => ?_)
  · refine z_iload_n Z dX1_lostFrom_7 rfl 2 rfl ?_
    refine z_iload_n Z dX1_lostFrom_8 rfl 0 rfl ?_
    refine z_iload_n Z dX1_lostFrom_9 rfl 1 rfl ?_
    refine z_iremt Z dX1_lostFrom_10 h (fun x0 h => ?_)
    refine z_isub Z dX1_lostFrom_11 ?_
    refine z_nmI h (fun v3_ h => ?_)
    refine z_istore_n (lv' := [(3, .int (z_I v3_)), (0, .int (z_I v0)), (1, .int (z_I v1)), (2, .int (z_I v2))]) Z dX1_lostFrom_12 rfl (by decide) rfl ?_
    refine z_iload_n Z dX1_lostFrom_13 rfl 0 rfl ?_
    refine z_if_ge (tgt := 23) Z dX1_lostFrom_14 (by decide) h (fun h => ?_) (fun h => ?_)
    · refine z_iload_n Z dX1_lostFrom_23 rfl 0 rfl ?_
      exact z_iret X hr hlk dX1_lostFrom_24 h
    · refine z_iload_n Z dX1_lostFrom_17 rfl 0 rfl ?_
      refine z_iload_n Z dX1_lostFrom_18 rfl 2 rfl ?_
      refine z_iadd Z dX1_lostFrom_19 ?_
      refine z_goto (tgt := 24) Z dX1_lostFrom_20 (by decide) ?_
      exact z_iret X hr hlk dX1_lostFrom_24 h
  · refine z_iconst Z dX1_lostFrom_5 ?_
    exact z_iret X hr hlk dX1_lostFrom_6 h
set_option maxRecDepth 100000 in
set_option maxHeartbeats 4000000 in
theorem wClock_walk_8 {p : Program} {l : Launch} {e : Env} {R : Room} {s : State} {m : MethodId} {args : Array Value} {below : List Frame} {meth : Method} {c : Code} {D : va_G} {A : Nat → Prop} {cI cZ : ClassId} {adK adV ad : Nat → Nat} {r : Int} {M' : zMem} (X : z_X p m c cX1_walk 12 s args RX1 R 2 D cI cZ A adK adV) (hr : meth.sig.returnType = some .int) (hlk : meth.locks = false) (N : Nat) (v1 v2 : Int) (k : Int → zMem → zO) (hk : ∀ (y4 : Int) (M : zMem), k y4 M = some (r, M') → z_V p l e R s m args below meth c D A cI cZ 12 (wC cI cZ ad) M' (some (.int (z_I r))) M 234 [(4, .int (z_I y4))] []) : ∀ (n : Nat) (v3 v4 v5 : Int) (M : zMem), Clock_walk_8 N v1 v2 k n v3 v4 v5 M = some (r, M') → z_V p l e R s m args below meth c D A cI cZ 12 (wC cI cZ ad) M' (some (.int (z_I r))) M 8 [(0, .ref (ad 41)), (1, .int (z_I v1)), (2, .int (z_I v2)), (3, .int (z_I v3)), (4, .int (z_I v4)), (5, .int (z_I v5))] [] := by
  have Z := X.1
  intro n
  induction n with
  | zero =>
    intro v3 v4 v5 M h
    rw [Clock_walk_8] at h
    cases h
  | succ n ih =>
    intro v3 v4 v5 M h
    rw [Clock_walk_8] at h
    refine z_iload Z dX1_walk_8 5 rfl ?_
    refine z_aload_n Z dX1_walk_10 rfl 0 rfl ?_
    refine gC_X1_28_41 X dX1_walk_11 ?_
    refine gC_X1_54_28 X dX1_walk_14 ?_
    refine z_icmp_ge (tgt := 234) Z dX1_walk_17 (by decide) h (fun h => ?_) (fun h => ?_)
    · refine z_sub [4] rfl ?_
      exact hk v4 M h
    · refine z_aload_n Z dX1_walk_20 rfl 0 rfl ?_
      refine gC_X1_28_41 X dX1_walk_21 ?_
      refine gC_X1_59_28 X dX1_walk_24 ?_
      refine z_iload Z dX1_walk_27 5 rfl ?_
      refine ldC_35 X dX1_walk_29 h (fun x0 h => ?_)
      refine z_istore (lv' := [(6, .int (z_I x0)), (0, .ref (ad 41)), (1, .int (z_I v1)), (2, .int (z_I v2)), (3, .int (z_I v3)), (4, .int (z_I v4)), (5, .int (z_I v5))]) Z dX1_walk_30 (by decide) rfl ?_
      refine z_aload_n Z dX1_walk_32 rfl 1 rfl ?_
      refine gC_X1_28_41 X dX1_walk_33 ?_
      refine gC_X1_62_28 X dX1_walk_36 ?_
      refine z_iload Z dX1_walk_39 6 rfl ?_
      refine ldC_36 X dX1_walk_41 h (fun x1 h => ?_)
      refine z_istore (lv' := [(7, .int (z_I x1)), (6, .int (z_I x0)), (0, .ref (ad 41)), (1, .int (z_I v1)), (2, .int (z_I v2)), (3, .int (z_I v3)), (4, .int (z_I v4)), (5, .int (z_I v5))]) Z dX1_walk_42 (by decide) rfl ?_
      refine z_iload_n Z dX1_walk_44 rfl 5 rfl ?_
      refine z_aload_n Z dX1_walk_45 rfl 2 rfl ?_
      refine gC_X1_9_41 X dX1_walk_46 ?_
      refine z_iload Z dX1_walk_49 1 rfl ?_
      refine ldC_42 X dX1_walk_51 h (fun x2 h => ?_)
      refine z_aload_n Z dX1_walk_52 rfl 2 rfl ?_
      refine gC_X1_15_41 X dX1_walk_53 ?_
      refine z_iload Z dX1_walk_56 1 rfl ?_
      refine ldC_43 X dX1_walk_58 h (fun x3 h => ?_)
      obtain ⟨r_, M1, hf, h⟩ := z_cld h
      refine z_callSi (Wd := wC cI cZ ad) X (c_X1_lostFrom hf) ml_X1_65 yd_X1_lostFrom yw_X1_lostFrom (by omega) (by decide) rfl rfl (Nat.le_of_ble_eq_true rfl) ⟨Nat.zero_le _, Nat.zero_le _⟩ dX1_walk_59 ?_
      refine z_istore (lv' := [(8, .int (z_I r_)), (7, .int (z_I x1)), (6, .int (z_I x0)), (0, .ref (ad 41)), (1, .int (z_I v1)), (2, .int (z_I v2)), (3, .int (z_I v3)), (4, .int (z_I v4)), (5, .int (z_I v5))]) Z dX1_walk_62 (by decide) rfl ?_
      refine z_aload_n Z dX1_walk_64 rfl 3 rfl ?_
      refine gC_X1_21_41 X dX1_walk_65 ?_
      refine z_iload Z dX1_walk_68 8 rfl ?_
      refine z_iload Z dX1_walk_70 0 rfl ?_
      refine srC_45 X dX1_walk_72 h (fun M2 h => ?_)
      refine z_aload_n Z dX1_walk_73 rfl 3 rfl ?_
      refine gC_X1_18_41 X dX1_walk_74 ?_
      refine z_iload Z dX1_walk_77 8 rfl ?_
      refine z_iload_n Z dX1_walk_79 rfl 6 rfl ?_
      refine z_iload Z dX1_walk_80 0 rfl ?_
      refine z_iadd Z dX1_walk_82 ?_
      refine srC_44 X dX1_walk_83 h (fun M3 h => ?_)
      refine z_iload_n Z dX1_walk_84 rfl 6 rfl ?_
      refine z_iload Z dX1_walk_85 0 rfl ?_
      refine z_iadd Z dX1_walk_87 ?_
      refine z_iconst Z dX1_walk_88 ?_
      refine z_iadd Z dX1_walk_89 ?_
      refine z_iload Z dX1_walk_90 1 rfl ?_
      refine z_iconst Z dX1_walk_92 ?_
      refine z_jnr (P := fun (k : Int → Int → zMem → zO) => ∀ (x4 x5 : Int) (M4 : zMem), k x4 x5 M4 = some (r, M') → z_V p l e R s m args below meth c D A cI cZ 12 (wC cI cZ ad) M' (some (.int (z_I r))) M4 107 [(0, .ref (ad 41)), (1, .int (z_I v1)), (2, .int (z_I v2)), (5, .int (z_I v5)), (7, .int (z_I x1))] [.int (z_I x4), .int (z_I x5)]) h ?_ ?_
      · intro x4 x5 M4 h
        refine z_iadd Z dX1_walk_107 ?_
        refine z_nmI h (fun v4_ h => ?_)
        refine z_istore (lv' := [(4, .int (z_I v4_)), (0, .ref (ad 41)), (1, .int (z_I v1)), (2, .int (z_I v2)), (5, .int (z_I v5)), (7, .int (z_I x1))]) Z dX1_walk_108 (by decide) rfl ?_
        refine z_iload Z dX1_walk_110 0 rfl ?_
        refine z_iload Z dX1_walk_112 5 rfl ?_
        refine z_jnr (P := fun (k : Int → Int → zMem → zO) => ∀ (x6 x7 : Int) (M5 : zMem), k x6 x7 M5 = some (r, M') → z_V p l e R s m args below meth c D A cI cZ 12 (wC cI cZ ad) M' (some (.int (z_I r))) M5 122 [(0, .ref (ad 41)), (1, .int (z_I v1)), (2, .int (z_I v2)), (4, .int (z_I v4_)), (5, .int (z_I v5))] [.int (z_I x6), .int (z_I x7)]) h ?_ ?_
        · intro x6 x7 M5 h
          refine z_iadd Z dX1_walk_122 ?_
          refine z_nmI h (fun v3_ h => ?_)
          refine z_istore_n (lv' := [(3, .int (z_I v3_)), (0, .ref (ad 41)), (1, .int (z_I v1)), (2, .int (z_I v2)), (4, .int (z_I v4_)), (5, .int (z_I v5))]) Z dX1_walk_123 rfl (by decide) rfl ?_
          refine z_iincn Z (fun z => [(5, .int (z_I z)), (3, .int (z_I v3_)), (0, .ref (ad 41)), (1, .int (z_I v1)), (2, .int (z_I v2)), (4, .int (z_I v4_))]) dX1_walk_124 (k := 5) rfl (by decide) (fun _ => rfl) h (fun v5_ h => ?_)
          refine z_iload_n Z dX1_walk_127 rfl 4 rfl ?_
          refine z_jnr (P := fun (k : Int → zMem → zO) => ∀ (x8 : Int) (M6 : zMem), k x8 M6 = some (r, M') → z_V p l e R s m args below meth c D A cI cZ 12 (wC cI cZ ad) M' (some (.int (z_I r))) M6 145 [(0, .ref (ad 41)), (1, .int (z_I v1)), (2, .int (z_I v2)), (3, .int (z_I v3_)), (4, .int (z_I v4_)), (5, .int (z_I v5_))] [.int (z_I x8)]) h ?_ ?_
          · intro x8 M6 h
            refine z_istore (lv' := [(9, .int (z_I x8)), (0, .ref (ad 41)), (1, .int (z_I v1)), (2, .int (z_I v2)), (3, .int (z_I v3_)), (4, .int (z_I v4_)), (5, .int (z_I v5_))]) Z dX1_walk_145 (by decide) rfl ?_
            refine z_aload_n Z dX1_walk_147 rfl 1 rfl ?_
            refine gC_X1_28_41 X dX1_walk_148 ?_
            refine gC_X1_75_28 X dX1_walk_151 ?_
            refine z_iload Z dX1_walk_154 6 rfl ?_
            refine ldC_38 X dX1_walk_156 h (fun x9 h => ?_)
            refine z_istore (lv' := [(10, .int (z_I x9)), (9, .int (z_I x8)), (0, .ref (ad 41)), (1, .int (z_I v1)), (2, .int (z_I v2)), (3, .int (z_I v3_)), (4, .int (z_I v4_)), (5, .int (z_I v5_))]) Z dX1_walk_157 (by decide) rfl ?_
            refine z_iload Z dX1_walk_159 1 rfl ?_
            refine z_jnr (P := fun (k : Int → Int → Int → zMem → zO) => ∀ (v3_1 v4_1 v5_1 : Int) (M7 : zMem), k v3_1 v4_1 v5_1 M7 = some (r, M') → z_V p l e R s m args below meth c D A cI cZ 12 (wC cI cZ ad) M' (some (.int (z_I r))) M7 231 [(0, .ref (ad 41)), (1, .int (z_I v1)), (2, .int (z_I v2)), (3, .int (z_I v3_1)), (4, .int (z_I v4_1)), (5, .int (z_I v5_1))] []) h ?_ ?_
            · intro v3_1 v4_1 v5_1 M7 h
              refine z_goto (tgt := 8) Z dX1_walk_231 (by decide) ?_
              refine z_sub [0, 1, 2, 3, 4, 5] rfl ?_
              exact ih v3_1 v4_1 v5_1 M7 h
            · intro k4 hk4 h
              refine z_if_le (tgt := 231) Z dX1_walk_161 (by decide) h (fun h => ?_) (fun h => ?_)
              · refine z_sub [2, 3, 4, 5, 6, 7] rfl ?_
                exact hk4 v3_ v4_ v5_ M6 h
              · refine z_iload Z dX1_walk_164 0 rfl ?_
                refine z_if_le (tgt := 231) Z dX1_walk_166 (by decide) h (fun h => ?_) (fun h => ?_)
                · refine z_sub [2, 3, 4, 5, 6, 7] rfl ?_
                  exact hk4 v3_ v4_ v5_ M6 h
                · refine z_iload Z dX1_walk_169 0 rfl ?_
                  refine z_iload Z dX1_walk_171 7 rfl ?_
                  refine z_icmp_gt (tgt := 231) Z dX1_walk_173 (by decide) h (fun h => ?_) (fun h => ?_)
                  · refine z_sub [2, 3, 4, 5, 6, 7] rfl ?_
                    exact hk4 v3_ v4_ v5_ M6 h
                  · refine z_aload_n Z dX1_walk_176 rfl 2 rfl ?_
                    refine gC_X1_18_41 X dX1_walk_177 ?_
                    refine z_iload Z dX1_walk_180 7 rfl ?_
                    refine z_iload Z dX1_walk_182 0 rfl ?_
                    refine z_isub Z dX1_walk_184 ?_
                    refine ldC_44 X dX1_walk_185 h (fun x10 h => ?_)
                    refine z_aload_n Z dX1_walk_186 rfl 2 rfl ?_
                    refine gC_X1_21_41 X dX1_walk_187 ?_
                    refine z_iload Z dX1_walk_190 7 rfl ?_
                    refine z_iload Z dX1_walk_192 0 rfl ?_
                    refine z_isub Z dX1_walk_194 ?_
                    refine ldC_45 X dX1_walk_195 h (fun x11 h => ?_)
                    refine z_isub Z dX1_walk_196 ?_
                    refine z_nmI h (fun v11_ h => ?_)
                    refine z_istore (lv' := [(11, .int (z_I v11_)), (10, .int (z_I x9)), (9, .int (z_I x8)), (0, .ref (ad 41)), (1, .int (z_I v1)), (2, .int (z_I v2)), (3, .int (z_I v3_)), (4, .int (z_I v4_)), (5, .int (z_I v5_))]) Z dX1_walk_197 (by decide) rfl ?_
                    refine z_iload Z dX1_walk_199 7 rfl ?_
                    refine z_iload Z dX1_walk_201 2 rfl ?_
                    refine z_iload_n Z dX1_walk_203 rfl 6 rfl ?_
                    refine z_iload Z dX1_walk_204 0 rfl ?_
                    refine z_isub Z dX1_walk_206 ?_
                    refine z_imul Z dX1_walk_207 ?_
                    refine z_iadd Z dX1_walk_208 ?_
                    refine z_nmI h (fun v4_2 h => ?_)
                    refine z_istore (lv' := [(4, .int (z_I v4_2)), (11, .int (z_I v11_)), (10, .int (z_I x9)), (9, .int (z_I x8)), (0, .ref (ad 41)), (1, .int (z_I v1)), (2, .int (z_I v2)), (3, .int (z_I v3_)), (5, .int (z_I v5_))]) Z dX1_walk_209 (by decide) rfl ?_
                    refine z_iload_n Z dX1_walk_211 rfl 7 rfl ?_
                    refine z_iload Z dX1_walk_212 3 rfl ?_
                    refine z_iload_n Z dX1_walk_214 rfl 7 rfl ?_
                    refine z_iload Z dX1_walk_215 1 rfl ?_
                    refine z_isub Z dX1_walk_217 ?_
                    refine z_imul Z dX1_walk_218 ?_
                    refine z_iadd Z dX1_walk_219 ?_
                    refine z_nmI h (fun v3_2 h => ?_)
                    refine z_istore_n (lv' := [(3, .int (z_I v3_2)), (4, .int (z_I v4_2)), (11, .int (z_I v11_)), (10, .int (z_I x9)), (9, .int (z_I x8)), (0, .ref (ad 41)), (1, .int (z_I v1)), (2, .int (z_I v2)), (5, .int (z_I v5_))]) Z dX1_walk_220 rfl (by decide) rfl ?_
                    refine z_iload Z dX1_walk_221 8 rfl ?_
                    refine z_iload Z dX1_walk_223 4 rfl ?_
                    refine z_iload Z dX1_walk_225 3 rfl ?_
                    refine z_imul Z dX1_walk_227 ?_
                    refine z_iadd Z dX1_walk_228 ?_
                    refine z_nmI h (fun v5_2 h => ?_)
                    refine z_istore (lv' := [(5, .int (z_I v5_2)), (3, .int (z_I v3_2)), (4, .int (z_I v4_2)), (11, .int (z_I v11_)), (10, .int (z_I x9)), (9, .int (z_I x8)), (0, .ref (ad 41)), (1, .int (z_I v1)), (2, .int (z_I v2))]) Z dX1_walk_229 (by decide) rfl ?_
                    refine z_sub [6, 7, 8, 1, 2, 0] rfl ?_
                    exact hk4 v3_2 v4_2 v5_2 M6 h
          · intro k3 hk3 h
            refine z_if_eq (tgt := 135) Z dX1_walk_128 (by decide) h (fun h => ?_) (fun h => ?_)
            · refine z_aload_n Z dX1_walk_135 rfl 2 rfl ?_
              refine gC_X1_28_41 X dX1_walk_136 ?_
              refine gC_X1_72_28 X dX1_walk_139 ?_
              refine z_iload Z dX1_walk_142 0 rfl ?_
              refine ldC_37 X dX1_walk_144 h (fun x12 h => ?_)
              refine z_sub [2, 3, 4, 1, 5, 0] rfl ?_
              exact hk3 x12 M5 h
            · refine z_iconst Z dX1_walk_131 ?_
              refine z_goto (tgt := 145) Z dX1_walk_132 (by decide) ?_
              refine z_sub [2, 3, 4, 1, 5, 0] rfl ?_
              exact hk3 0 M5 h
        · intro k2 hk2 h
          refine z_if_ne (tgt := 121) Z dX1_walk_114 (by decide) h (fun h => ?_) (fun h => ?_)
          · refine z_iconst Z dX1_walk_121 ?_
            refine z_sub [1, 2, 3, 0, 4] rfl ?_
            exact hk2 0 v4_ M4 h
          · refine z_iload_n Z dX1_walk_117 rfl 2 rfl ?_
            refine z_goto (tgt := 122) Z dX1_walk_118 (by decide) ?_
            refine z_sub [1, 2, 3, 0, 4] rfl ?_
            exact hk2 v1 v4_ M4 h
      · intro k1 hk1 h
        refine z_icmp_ne (tgt := 106) Z dX1_walk_93 (by decide) h (fun h => ?_) (fun h => ?_)
        · refine z_iconst Z dX1_walk_106 ?_
          refine z_sub [3, 4, 5, 8, 1] rfl ?_
          exact hk1 0 ((v3 + r_) + 1) M3 h
        · refine z_aload_n Z dX1_walk_96 rfl 3 rfl ?_
          refine gC_X1_24_41 X dX1_walk_97 ?_
          refine gC_X1_69_19 X dX1_walk_100 ?_
          refine z_goto (tgt := 107) Z dX1_walk_103 (by decide) ?_
          refine z_sub [3, 4, 5, 8, 1] rfl ?_
          exact hk1 (M3 19 4) ((v3 + r_) + 1) M3 h
set_option maxRecDepth 100000 in
set_option maxHeartbeats 4000000 in
theorem c_X1_walk {l : Launch} {D : va_G} {cI cZ : ClassId} {ad adK adV : Nat → Nat} {N : Nat} {v1 v2 : Int} {M M' : zMem} {r : Int} (h : Clock_walk N v1 v2 M = some (r, M')) : z_Ct (wC cI cZ ad) D cI cZ adK adV l yX1_walk cX1_walk 12 (some .int) 2 [.ref (ad 41), .int (z_I v1), .int (z_I v2)] M M' (some (.int (z_I r))) := by
  unfold Clock_walk at h
  refine z_entry (own := RX1) rfl (by decide) (Nat.le_of_ble_eq_true rfl) ?_
  intro p e s m args below meth c R A X hr hlk
  have Z := X.1
  refine z_sub (lv' := [(0, .ref (ad 41)), (1, .int (z_I v1)), (2, .int (z_I v2))]) [0, 1, 2] rfl ?_
  refine z_iconst Z dX1_walk_0 ?_
  refine z_istore_n (lv' := [(3, .int (z_I 0)), (0, .ref (ad 41)), (1, .int (z_I v1)), (2, .int (z_I v2))]) Z dX1_walk_1 rfl (by decide) rfl ?_
  refine z_iconst Z dX1_walk_2 ?_
  refine z_istore (lv' := [(4, .int (z_I 0)), (3, .int (z_I 0)), (0, .ref (ad 41)), (1, .int (z_I v1)), (2, .int (z_I v2))]) Z dX1_walk_3 (by decide) rfl ?_
  refine z_iconst Z dX1_walk_5 ?_
  refine z_istore (lv' := [(5, .int (z_I 0)), (4, .int (z_I 0)), (3, .int (z_I 0)), (0, .ref (ad 41)), (1, .int (z_I v1)), (2, .int (z_I v2))]) Z dX1_walk_6 (by decide) rfl ?_
  refine z_jnr (P := fun (k : Int → zMem → zO) => ∀ (v4_ : Int) (M1 : zMem), k v4_ M1 = some (r, M') → z_V p l e R s m args below meth c D A cI cZ 12 (wC cI cZ ad) M' (some (.int (z_I r))) M1 234 [(4, .int (z_I v4_))] []) h ?_ ?_
  · intro v4_ M1 h
    refine z_iload Z dX1_walk_234 0 rfl ?_
    exact z_iret X hr hlk dX1_walk_236 h
  · intro k0 hk0 h
    refine z_sub [3, 4, 5, 2, 1, 0] rfl ?_
    exact wClock_walk_8 X hr hlk N v1 v2 k0 hk0 N 0 0 0 M h
set_option maxRecDepth 100000 in
set_option maxHeartbeats 4000000 in
theorem c_X1_measure {l : Launch} {D : va_G} {cI cZ : ClassId} {ad adK adV : Nat → Nat} {N : Nat} {ca : Nat} (hcell : ca = 57 ∨ ca = 58) {v2 v3 : Int} {M M' : zMem} {r : Int} (h : Clock_measure N ca v2 v3 M = some (r, M')) : z_Ct (wC cI cZ ad) D cI cZ adK adV l yX1_measure cX1_measure 4 (some .int) 4 [.ref (ad 41), .ref (ad ca), .int (z_I v2), .int (z_I v3)] M M' (some (.int (z_I r))) := by
  unfold Clock_measure at h
  rcases hcell with rfl | rfl
  · refine z_entry (own := RX1) rfl (by decide) (Nat.le_of_ble_eq_true rfl) ?_
    intro p e s m args below meth c R A X hr hlk
    have Z := X.1
    refine z_sub (lv' := [(0, .ref (ad 41)), (1, .ref (ad 57)), (2, .int (z_I v2)), (3, .int (z_I v3))]) [0, 1, 2, 3] rfl ?_
    refine z_aload_n Z dX1_measure_0 rfl 0 rfl ?_
    refine z_aload_n Z dX1_measure_1 rfl 1 rfl ?_
    refine z_iload_n Z dX1_measure_2 rfl 3 rfl ?_
    obtain ⟨u_, M1, hf, h⟩ := z_cld h
    refine z_callVv (Wd := wC cI cZ ad) X (c_X1_aim (Or.inl rfl) hf) ml_X1_32 yd_X1_aim yw_X1_aim (by omega) (by decide) (rC_41 X) rfl rfl (Nat.le_of_ble_eq_true rfl) ⟨Nat.zero_le _, Nat.zero_le _⟩ dX1_measure_3 ?_
    refine z_aload_n Z dX1_measure_6 rfl 0 rfl ?_
    refine z_iload_n Z dX1_measure_7 rfl 2 rfl ?_
    refine z_iconst Z dX1_measure_8 ?_
    obtain ⟨r_, M2, hf1, h⟩ := z_cld h
    refine z_callVi (Wd := wC cI cZ ad) X (c_X1_walk hf1) ml_X1_36 yd_X1_walk yw_X1_walk (by omega) (by decide) (rC_41 X) rfl rfl (Nat.le_of_ble_eq_true rfl) ⟨Nat.zero_le _, Nat.zero_le _⟩ dX1_measure_9 ?_
    exact z_iret X hr hlk dX1_measure_12 h
  · refine z_entry (own := RX1) rfl (by decide) (Nat.le_of_ble_eq_true rfl) ?_
    intro p e s m args below meth c R A X hr hlk
    have Z := X.1
    refine z_sub (lv' := [(0, .ref (ad 41)), (1, .ref (ad 58)), (2, .int (z_I v2)), (3, .int (z_I v3))]) [0, 1, 2, 3] rfl ?_
    refine z_aload_n Z dX1_measure_0 rfl 0 rfl ?_
    refine z_aload_n Z dX1_measure_1 rfl 1 rfl ?_
    refine z_iload_n Z dX1_measure_2 rfl 3 rfl ?_
    obtain ⟨u_, M1, hf, h⟩ := z_cld h
    refine z_callVv (Wd := wC cI cZ ad) X (c_X1_aim (Or.inr (Or.inr (rfl))) hf) ml_X1_32 yd_X1_aim yw_X1_aim (by omega) (by decide) (rC_41 X) rfl rfl (Nat.le_of_ble_eq_true rfl) ⟨Nat.zero_le _, Nat.zero_le _⟩ dX1_measure_3 ?_
    refine z_aload_n Z dX1_measure_6 rfl 0 rfl ?_
    refine z_iload_n Z dX1_measure_7 rfl 2 rfl ?_
    refine z_iconst Z dX1_measure_8 ?_
    obtain ⟨r_, M2, hf1, h⟩ := z_cld h
    refine z_callVi (Wd := wC cI cZ ad) X (c_X1_walk hf1) ml_X1_36 yd_X1_walk yw_X1_walk (by omega) (by decide) (rC_41 X) rfl rfl (Nat.le_of_ble_eq_true rfl) ⟨Nat.zero_le _, Nat.zero_le _⟩ dX1_measure_9 ?_
    exact z_iret X hr hlk dX1_measure_12 h
set_option maxRecDepth 100000 in
set_option maxHeartbeats 4000000 in
theorem c_X9_timeNow {l : Launch} {D : va_G} {cI cZ : ClassId} {ad adK adV : Nat → Nat} {N : Nat} {M M' : zMem} {r : Int} (h : Drum_timeNow N M = some (r, M')) : z_Ct (wC cI cZ ad) D cI cZ adK adV l yX9_timeNow cX9_timeNow 1 (some .int) 5 [.ref (ad 0)] M M' (some (.int (z_I r))) := by
  unfold Drum_timeNow at h
  refine z_entry (own := RX9) rfl (by decide) (Nat.le_of_ble_eq_true rfl) ?_
  intro p e s m args below meth c R A X hr hlk
  have Z := X.1
  refine z_sub (lv' := [(0, .ref (ad 0))]) [0] rfl ?_
  refine z_aload_n Z dX9_timeNow_0 rfl 0 rfl ?_
  refine gC_X9_49_0 X dX9_timeNow_1 ?_
  refine z_aload_n Z dX9_timeNow_4 rfl 0 rfl ?_
  refine gC_X9_78_0 X dX9_timeNow_5 ?_
  refine z_aload_n Z dX9_timeNow_8 rfl 0 rfl ?_
  refine gC_X9_42_0 X dX9_timeNow_9 ?_
  refine gC_X9_129_19 X dX9_timeNow_12 ?_
  refine z_aload_n Z dX9_timeNow_15 rfl 0 rfl ?_
  refine gC_X9_42_0 X dX9_timeNow_16 ?_
  refine gC_X9_132_19 X dX9_timeNow_19 ?_
  obtain ⟨r_, M1, hf, h⟩ := z_cld h
  refine z_callVi (Wd := wC cI cZ ad) X (c_X1_measure (Or.inl rfl) hf) ml_X9_216 yd_X1_measure yw_X1_measure (by omega) (by decide) (rC_41 X) rfl rfl (Nat.le_of_ble_eq_true rfl) ⟨Nat.zero_le _, Nat.zero_le _⟩ dX9_timeNow_22 ?_
  exact z_iret X hr hlk dX9_timeNow_25 h
set_option maxRecDepth 100000 in
set_option maxHeartbeats 4000000 in
theorem c_X9_whenRead {l : Launch} {D : va_G} {cI cZ : ClassId} {ad adK adV : Nat → Nat} {N : Nat} {v1 : Int} {M M' : zMem} {r : Int} (h : Drum_whenRead N v1 M = some (r, M')) : z_Ct (wC cI cZ ad) D cI cZ adK adV l yX9_whenRead cX9_whenRead 2 (some .int) 6 [.ref (ad 0), .int (z_I v1)] M M' (some (.int (z_I r))) := by
  unfold Drum_whenRead at h
  refine z_entry (own := RX9) rfl (by decide) (Nat.le_of_ble_eq_true rfl) ?_
  intro p e s m args below meth c R A X hr hlk
  have Z := X.1
  refine z_sub (lv' := [(0, .ref (ad 0)), (1, .int (z_I v1))]) [0, 1] rfl ?_
  refine z_aload_n Z dX9_whenRead_0 rfl 0 rfl ?_
  obtain ⟨r_, M1, hf, h⟩ := z_cld h
  refine z_callVi (Wd := wC cI cZ ad) X (c_X9_timeNow hf) ml_X9_198 yd_X9_timeNow yw_X9_timeNow (by omega) (by decide) (rC_0 X) rfl rfl (Nat.le_of_ble_eq_true rfl) ⟨Nat.zero_le _, Nat.zero_le _⟩ dX9_whenRead_1 ?_
  refine z_pop Z dX9_whenRead_4 rfl ?_
  refine z_aload_n Z dX9_whenRead_5 rfl 0 rfl ?_
  refine gC_X9_49_0 X dX9_whenRead_6 ?_
  refine z_iload_n Z dX9_whenRead_9 rfl 1 rfl ?_
  obtain ⟨r_1, M2, hf1, h⟩ := z_cld h
  refine z_callVi (Wd := wC cI cZ ad) X (c_X1_whenOf hf1) ml_X9_271 yd_X1_whenOf yw_X1_whenOf (by omega) (by decide) (rC_41 X) rfl rfl (Nat.le_of_ble_eq_true rfl) ⟨Nat.zero_le _, Nat.zero_le _⟩ dX9_whenRead_10 ?_
  exact z_iret X hr hlk dX9_whenRead_13 h
set_option maxRecDepth 100000 in
set_option maxHeartbeats 4000000 in
theorem c_X9_done {l : Launch} {D : va_G} {cI cZ : ClassId} {ad adK adV : Nat → Nat} {N : Nat} {v1 v2 : Int} {M M' : zMem} {r : Int} (h : Drum_done N v1 v2 M = some (r, M')) : z_Ct (wC cI cZ ad) D cI cZ adK adV l yX9_done cX9_done 3 (some .int) 7 [.ref (ad 0), .int (z_I v1), .int (z_I v2)] M M' (some (.int (z_I r))) := by
  unfold Drum_done at h
  refine z_entry (own := RX9) rfl (by decide) (Nat.le_of_ble_eq_true rfl) ?_
  intro p e s m args below meth c R A X hr hlk
  have Z := X.1
  refine z_sub (lv' := [(0, .ref (ad 0)), (1, .int (z_I v1)), (2, .int (z_I v2))]) [0, 1, 2] rfl ?_
  refine z_aload_n Z dX9_done_0 rfl 0 rfl ?_
  refine gC_X9_42_0 X dX9_done_1 ?_
  refine gC_X9_141_19 X dX9_done_4 ?_
  refine z_jnr (P := fun (k : zMem → zO) => ∀ (M1 : zMem), k M1 = some (r, M') → z_V p l e R s m args below meth c D A cI cZ 3 (wC cI cZ ad) M' (some (.int (z_I r))) M1 23 [] []) h ?_ ?_
  · intro M1 h
    refine z_sipush Z dX9_done_23 rfl ?_
    exact z_iret X hr hlk dX9_done_26 h
  · intro k0 hk0 h
    refine z_if_eq (tgt := 23) Z dX9_done_7 (by decide) h (fun h => ?_) (fun h => ?_)
    · refine z_sub [] rfl ?_
      exact hk0 M h
    · refine z_iload_n Z dX9_done_10 rfl 1 rfl ?_
      refine z_if_lt (tgt := 23) Z dX9_done_11 (by decide) h (fun h => ?_) (fun h => ?_)
      · refine z_sub [] rfl ?_
        exact hk0 M h
      · refine z_iload_n Z dX9_done_14 rfl 2 rfl ?_
        refine z_if_lt (tgt := 23) Z dX9_done_15 (by decide) h (fun h => ?_) (fun h => ?_)
        · refine z_sub [] rfl ?_
          exact hk0 M h
        · refine z_iload_n Z dX9_done_18 rfl 2 rfl ?_
          refine z_iconst Z dX9_done_19 ?_
          refine z_icmp_le (tgt := 27) Z dX9_done_20 (by decide) h (fun h => ?_) (fun h => ?_)
          · refine z_iload_n Z dX9_done_27 rfl 1 rfl ?_
            refine z_aload_n Z dX9_done_28 rfl 0 rfl ?_
            refine gC_X9_45_0 X dX9_done_29 ?_
            refine gC_X9_168_28 X dX9_done_32 ?_
            refine z_icmp_lt (tgt := 42) Z dX9_done_35 (by decide) h (fun h => ?_) (fun h => ?_)
            · refine z_iload_n Z dX9_done_42 rfl 2 rfl ?_
              obtain ⟨hx, -, h⟩ := z_eqd h
              rcases h with ⟨e0, h⟩ | ⟨n0, h⟩
              · refine z_tableIn (tgt := 72) Z dX9_done_43 hx (by omega) (by omega) (by rw [e0]; rfl) (by decide) ?_
                refine z_aload_n Z dX9_done_72 rfl 0 rfl ?_
                refine gC_X9_45_0 X dX9_done_73 ?_
                refine gC_X9_183_28 X dX9_done_76 ?_
                refine z_iload_n Z dX9_done_79 rfl 1 rfl ?_
                refine ldC_31 X dX9_done_80 h (fun x0 h => ?_)
                exact z_iret X hr hlk dX9_done_81 h
              · obtain ⟨hx, -, h⟩ := z_eqd h
                rcases h with ⟨e0, h⟩ | ⟨n1, h⟩
                · refine z_tableIn (tgt := 82) Z dX9_done_43 hx (by omega) (by omega) (by rw [e0]; rfl) (by decide) ?_
                  refine z_aload_n Z dX9_done_82 rfl 0 rfl ?_
                  refine gC_X9_45_0 X dX9_done_83 ?_
                  refine gC_X9_186_28 X dX9_done_86 ?_
                  refine z_iload_n Z dX9_done_89 rfl 1 rfl ?_
                  refine ldC_32 X dX9_done_90 h (fun x1 h => ?_)
                  exact z_iret X hr hlk dX9_done_91 h
                · obtain ⟨hx, -, h⟩ := z_eqd h
                  rcases h with ⟨e0, h⟩ | ⟨n2, h⟩
                  · refine z_tableIn (tgt := 92) Z dX9_done_43 hx (by omega) (by omega) (by rw [e0]; rfl) (by decide) ?_
                    refine z_aload_n Z dX9_done_92 rfl 0 rfl ?_
                    refine z_aload_n Z dX9_done_93 rfl 0 rfl ?_
                    refine gC_X9_45_0 X dX9_done_94 ?_
                    refine gC_X9_189_28 X dX9_done_97 ?_
                    refine z_iload_n Z dX9_done_100 rfl 1 rfl ?_
                    refine ldC_34 X dX9_done_101 h (fun x2 h => ?_)
                    obtain ⟨r_, M2, hf, h⟩ := z_cld h
                    refine z_callVi (Wd := wC cI cZ ad) X (c_X9_whenRead hf) ml_X9_192 yd_X9_whenRead yw_X9_whenRead (by omega) (by decide) (rC_0 X) rfl rfl (Nat.le_of_ble_eq_true rfl) ⟨Nat.zero_le _, Nat.zero_le _⟩ dX9_done_102 ?_
                    exact z_iret X hr hlk dX9_done_105 h
                  · obtain ⟨hx, -, h⟩ := z_eqd h
                    rcases h with ⟨e0, h⟩ | ⟨n3, h⟩
                    · refine z_tableIn (tgt := 106) Z dX9_done_43 hx (by omega) (by omega) (by rw [e0]; rfl) (by decide) ?_
                      refine z_aload_n Z dX9_done_106 rfl 0 rfl ?_
                      refine gC_X9_45_0 X dX9_done_107 ?_
                      refine gC_X9_186_28 X dX9_done_110 ?_
                      refine z_iload_n Z dX9_done_113 rfl 1 rfl ?_
                      refine ldC_32 X dX9_done_114 h (fun x3 h => ?_)
                      refine z_iconst Z dX9_done_115 ?_
                      refine z_icmp_ne (tgt := 123) Z dX9_done_116 (by decide) h (fun h => ?_) (fun h => ?_)
                      · refine z_aload_n Z dX9_done_123 rfl 0 rfl ?_
                        refine z_aload_n Z dX9_done_124 rfl 0 rfl ?_
                        refine gC_X9_45_0 X dX9_done_125 ?_
                        refine gC_X9_189_28 X dX9_done_128 ?_
                        refine z_iload_n Z dX9_done_131 rfl 1 rfl ?_
                        refine ldC_34 X dX9_done_132 h (fun x4 h => ?_)
                        refine z_iconst Z dX9_done_133 ?_
                        refine z_iadd Z dX9_done_134 ?_
                        obtain ⟨r_1, M3, hf1, h⟩ := z_cld h
                        refine z_callVi (Wd := wC cI cZ ad) X (c_X9_whenRead hf1) ml_X9_192 yd_X9_whenRead yw_X9_whenRead (by omega) (by decide) (rC_0 X) rfl rfl (Nat.le_of_ble_eq_true rfl) ⟨Nat.zero_le _, Nat.zero_le _⟩ dX9_done_135 ?_
                        exact z_iret X hr hlk dX9_done_138 h
                      · refine z_iconst Z dX9_done_119 ?_
                        refine z_goto (tgt := 138) Z dX9_done_120 (by decide) ?_
                        exact z_iret X hr hlk dX9_done_138 h
                    · refine z_tableOut (tgt := 139) Z dX9_done_43 hx (by omega) (by decide) ?_
                      refine z_aload_n Z dX9_done_139 rfl 0 rfl ?_
                      refine gC_X9_45_0 X dX9_done_140 ?_
                      refine gC_X9_195_28 X dX9_done_143 ?_
                      refine z_iload_n Z dX9_done_146 rfl 1 rfl ?_
                      refine ldC_33 X dX9_done_147 h (fun x5 h => ?_)
                      exact z_iret X hr hlk dX9_done_148 h
            · refine z_sipush Z dX9_done_38 rfl ?_
              exact z_iret X hr hlk dX9_done_41 h
          · refine z_sub [] rfl ?_
            exact hk0 M h
set_option maxRecDepth 100000 in
set_option maxHeartbeats 4000000 in
theorem c_X9_time {l : Launch} {D : va_G} {cI cZ : ClassId} {ad adK adV : Nat → Nat} {N : Nat} {M M' : zMem} {r : Int} (h : Drum_time N M = some (r, M')) : z_Ct (wC cI cZ ad) D cI cZ adK adV l yX9_time cX9_time 1 (some .int) 6 [.ref (ad 0)] M M' (some (.int (z_I r))) := by
  unfold Drum_time at h
  refine z_entry (own := RX9) rfl (by decide) (Nat.le_of_ble_eq_true rfl) ?_
  intro p e s m args below meth c R A X hr hlk
  have Z := X.1
  refine z_sub (lv' := [(0, .ref (ad 0))]) [0] rfl ?_
  refine z_aload_n Z dX9_time_0 rfl 0 rfl ?_
  refine gC_X9_42_0 X dX9_time_1 ?_
  refine gC_X9_141_19 X dX9_time_4 ?_
  refine z_if_le (tgt := 17) Z dX9_time_7 (by decide) h (fun h => ?_) (fun h => ?_)
  · refine z_bipush Z dX9_time_17 rfl ?_
    exact z_iret X hr hlk dX9_time_19 h
  · refine z_aload_n Z dX9_time_10 rfl 0 rfl ?_
    obtain ⟨r_, M1, hf, h⟩ := z_cld h
    refine z_callVi (Wd := wC cI cZ ad) X (c_X9_timeNow hf) ml_X9_198 yd_X9_timeNow yw_X9_timeNow (by omega) (by decide) (rC_0 X) rfl rfl (Nat.le_of_ble_eq_true rfl) ⟨Nat.zero_le _, Nat.zero_le _⟩ dX9_time_11 ?_
    refine z_goto (tgt := 19) Z dX9_time_14 (by decide) ?_
    exact z_iret X hr hlk dX9_time_19 h
set_option maxRecDepth 100000 in
set_option maxHeartbeats 4000000 in
theorem c_X9_rounds {l : Launch} {D : va_G} {cI cZ : ClassId} {ad adK adV : Nat → Nat} {N : Nat} {M M' : zMem} {r : Int} (h : Drum_rounds N M = some (r, M')) : z_Ct (wC cI cZ ad) D cI cZ adK adV l yX9_rounds cX9_rounds 1 (some .int) 6 [.ref (ad 0)] M M' (some (.int (z_I r))) := by
  unfold Drum_rounds at h
  refine z_entry (own := RX9) rfl (by decide) (Nat.le_of_ble_eq_true rfl) ?_
  intro p e s m args below meth c R A X hr hlk
  have Z := X.1
  refine z_sub (lv' := [(0, .ref (ad 0))]) [0] rfl ?_
  refine z_aload_n Z dX9_rounds_0 rfl 0 rfl ?_
  refine gC_X9_42_0 X dX9_rounds_1 ?_
  refine gC_X9_141_19 X dX9_rounds_4 ?_
  refine z_jnr (P := fun (k : zMem → zO) => ∀ (M1 : zMem), k M1 = some (r, M') → z_V p l e R s m args below meth c D A cI cZ 1 (wC cI cZ ad) M' (some (.int (z_I r))) M1 35 [] []) h ?_ ?_
  · intro M1 h
    refine z_bipush Z dX9_rounds_35 rfl ?_
    exact z_iret X hr hlk dX9_rounds_37 h
  · intro k0 hk0 h
    refine z_if_le (tgt := 35) Z dX9_rounds_7 (by decide) h (fun h => ?_) (fun h => ?_)
    · refine z_sub [] rfl ?_
      exact hk0 M h
    · refine z_aload_n Z dX9_rounds_10 rfl 0 rfl ?_
      refine gC_X9_42_0 X dX9_rounds_11 ?_
      refine gC_X9_126_19 X dX9_rounds_14 ?_
      refine z_if_le (tgt := 35) Z dX9_rounds_17 (by decide) h (fun h => ?_) (fun h => ?_)
      · refine z_sub [] rfl ?_
        exact hk0 M h
      · refine z_aload_n Z dX9_rounds_20 rfl 0 rfl ?_
        obtain ⟨r_, M2, hf, h⟩ := z_cld h
        refine z_callVi (Wd := wC cI cZ ad) X (c_X9_timeNow hf) ml_X9_198 yd_X9_timeNow yw_X9_timeNow (by omega) (by decide) (rC_0 X) rfl rfl (Nat.le_of_ble_eq_true rfl) ⟨Nat.zero_le _, Nat.zero_le _⟩ dX9_rounds_21 ?_
        refine z_aload_n Z dX9_rounds_24 rfl 0 rfl ?_
        refine gC_X9_42_0 X dX9_rounds_25 ?_
        refine gC_X9_126_19 X dX9_rounds_28 ?_
        refine z_idiv Z dX9_rounds_31 h (fun x0 h => ?_)
        refine z_goto (tgt := 37) Z dX9_rounds_32 (by decide) ?_
        exact z_iret X hr hlk dX9_rounds_37 h
set_option maxRecDepth 100000 in
set_option maxHeartbeats 4000000 in
theorem c_X1_lostAtFirst {l : Launch} {D : va_G} {cI cZ : ClassId} {ad adK adV : Nat → Nat} {M M' : zMem} {r : Int} (h : Clock_lostAtFirst M = some (r, M')) : z_Ct (wC cI cZ ad) D cI cZ adK adV l yX1_lostAtFirst cX1_lostAtFirst 1 (some .int) 1 [.ref (ad 41)] M M' (some (.int (z_I r))) := by
  unfold Clock_lostAtFirst at h
  refine z_entry (own := RX1) rfl (by decide) (Nat.le_of_ble_eq_true rfl) ?_
  intro p e s m args below meth c R A X hr hlk
  have Z := X.1
  refine z_sub (lv' := [(0, .ref (ad 41))]) [0] rfl ?_
  refine z_aload_n Z dX1_lostAtFirst_0 rfl 0 rfl ?_
  refine gC_X1_28_41 X dX1_lostAtFirst_1 ?_
  refine gC_X1_54_28 X dX1_lostAtFirst_4 ?_
  refine z_if_le (tgt := 19) Z dX1_lostAtFirst_7 (by decide) h (fun h => ?_) (fun h => ?_)
  · refine z_iconst Z dX1_lostAtFirst_19 ?_
    exact z_iret X hr hlk dX1_lostAtFirst_20 h
  · refine z_aload_n Z dX1_lostAtFirst_10 rfl 0 rfl ?_
    refine gC_X1_21_41 X dX1_lostAtFirst_11 ?_
    refine z_iconst Z dX1_lostAtFirst_14 ?_
    refine ldC_45 X dX1_lostAtFirst_15 h (fun x0 h => ?_)
    refine z_goto (tgt := 20) Z dX1_lostAtFirst_16 (by decide) ?_
    exact z_iret X hr hlk dX1_lostAtFirst_20 h
set_option maxRecDepth 100000 in
set_option maxHeartbeats 4000000 in
theorem wClock_lostBehindFirst_4 {p : Program} {l : Launch} {e : Env} {R : Room} {s : State} {m : MethodId} {args : Array Value} {below : List Frame} {meth : Method} {c : Code} {D : va_G} {A : Nat → Prop} {cI cZ : ClassId} {adK adV ad : Nat → Nat} {r : Int} {M' : zMem} (X : z_X p m c cX1_lostBehindFirst 3 s args RX1 R 1 D cI cZ A adK adV) (hr : meth.sig.returnType = some .int) (hlk : meth.locks = false) (N : Nat) (k : Int → zMem → zO) (hk : ∀ (y1 : Int) (M : zMem), k y1 M = some (r, M') → z_V p l e R s m args below meth c D A cI cZ 3 (wC cI cZ ad) M' (some (.int (z_I r))) M 30 [(1, .int (z_I y1))] []) : ∀ (n : Nat) (v1 v2 : Int) (M : zMem), Clock_lostBehindFirst_4 N k n v1 v2 M = some (r, M') → z_V p l e R s m args below meth c D A cI cZ 3 (wC cI cZ ad) M' (some (.int (z_I r))) M 4 [(0, .ref (ad 41)), (1, .int (z_I v1)), (2, .int (z_I v2))] [] := by
  have Z := X.1
  intro n
  induction n with
  | zero =>
    intro v1 v2 M h
    rw [Clock_lostBehindFirst_4] at h
    cases h
  | succ n ih =>
    intro v1 v2 M h
    rw [Clock_lostBehindFirst_4] at h
    refine z_iload_n Z dX1_lostBehindFirst_4 rfl 2 rfl ?_
    refine z_aload_n Z dX1_lostBehindFirst_5 rfl 0 rfl ?_
    refine gC_X1_28_41 X dX1_lostBehindFirst_6 ?_
    refine gC_X1_54_28 X dX1_lostBehindFirst_9 ?_
    refine z_icmp_ge (tgt := 30) Z dX1_lostBehindFirst_12 (by decide) h (fun h => ?_) (fun h => ?_)
    · refine z_sub [1] rfl ?_
      exact hk v1 M h
    · refine z_iload_n Z dX1_lostBehindFirst_15 rfl 1 rfl ?_
      refine z_aload_n Z dX1_lostBehindFirst_16 rfl 0 rfl ?_
      refine gC_X1_21_41 X dX1_lostBehindFirst_17 ?_
      refine z_iload_n Z dX1_lostBehindFirst_20 rfl 2 rfl ?_
      refine ldC_45 X dX1_lostBehindFirst_21 h (fun x0 h => ?_)
      refine z_iadd Z dX1_lostBehindFirst_22 ?_
      refine z_nmI h (fun v1_ h => ?_)
      refine z_istore_n (lv' := [(1, .int (z_I v1_)), (0, .ref (ad 41)), (2, .int (z_I v2))]) Z dX1_lostBehindFirst_23 rfl (by decide) rfl ?_
      refine z_iincn Z (fun z => [(2, .int (z_I z)), (1, .int (z_I v1_)), (0, .ref (ad 41))]) dX1_lostBehindFirst_24 (k := 2) rfl (by decide) (fun _ => rfl) h (fun v2_ h => ?_)
      refine z_goto (tgt := 4) Z dX1_lostBehindFirst_27 (by decide) ?_
      refine z_sub [2, 1, 0] rfl ?_
      exact ih v1_ v2_ M h
set_option maxRecDepth 100000 in
set_option maxHeartbeats 4000000 in
theorem c_X1_lostBehindFirst {l : Launch} {D : va_G} {cI cZ : ClassId} {ad adK adV : Nat → Nat} {N : Nat} {M M' : zMem} {r : Int} (h : Clock_lostBehindFirst N M = some (r, M')) : z_Ct (wC cI cZ ad) D cI cZ adK adV l yX1_lostBehindFirst cX1_lostBehindFirst 3 (some .int) 1 [.ref (ad 41)] M M' (some (.int (z_I r))) := by
  unfold Clock_lostBehindFirst at h
  refine z_entry (own := RX1) rfl (by decide) (Nat.le_of_ble_eq_true rfl) ?_
  intro p e s m args below meth c R A X hr hlk
  have Z := X.1
  refine z_sub (lv' := [(0, .ref (ad 41))]) [0] rfl ?_
  refine z_iconst Z dX1_lostBehindFirst_0 ?_
  refine z_istore_n (lv' := [(1, .int (z_I 0)), (0, .ref (ad 41))]) Z dX1_lostBehindFirst_1 rfl (by decide) rfl ?_
  refine z_iconst Z dX1_lostBehindFirst_2 ?_
  refine z_istore_n (lv' := [(2, .int (z_I 1)), (1, .int (z_I 0)), (0, .ref (ad 41))]) Z dX1_lostBehindFirst_3 rfl (by decide) rfl ?_
  refine z_jnr (P := fun (k : Int → zMem → zO) => ∀ (v1_ : Int) (M1 : zMem), k v1_ M1 = some (r, M') → z_V p l e R s m args below meth c D A cI cZ 3 (wC cI cZ ad) M' (some (.int (z_I r))) M1 30 [(1, .int (z_I v1_))] []) h ?_ ?_
  · intro v1_ M1 h
    refine z_iload_n Z dX1_lostBehindFirst_30 rfl 0 rfl ?_
    exact z_iret X hr hlk dX1_lostBehindFirst_31 h
  · intro k0 hk0 h
    refine z_sub [2, 1, 0] rfl ?_
    exact wClock_lostBehindFirst_4 X hr hlk N k0 hk0 N 0 1 M h
set_option maxRecDepth 100000 in
set_option maxHeartbeats 4000000 in
theorem c_X9_lostInAll {l : Launch} {D : va_G} {cI cZ : ClassId} {ad adK adV : Nat → Nat} {N : Nat} {M M' : zMem} {r : Int} (h : Drum_lostInAll N M = some (r, M')) : z_Ct (wC cI cZ ad) D cI cZ adK adV l yX9_lostInAll cX9_lostInAll 1 (some .int) 6 [.ref (ad 0)] M M' (some (.int (z_I r))) := by
  unfold Drum_lostInAll at h
  refine z_entry (own := RX9) rfl (by decide) (Nat.le_of_ble_eq_true rfl) ?_
  intro p e s m args below meth c R A X hr hlk
  have Z := X.1
  refine z_sub (lv' := [(0, .ref (ad 0))]) [0] rfl ?_
  refine z_aload_n Z dX9_lostInAll_0 rfl 0 rfl ?_
  obtain ⟨r_, M1, hf, h⟩ := z_cld h
  refine z_callVi (Wd := wC cI cZ ad) X (c_X9_timeNow hf) ml_X9_198 yd_X9_timeNow yw_X9_timeNow (by omega) (by decide) (rC_0 X) rfl rfl (Nat.le_of_ble_eq_true rfl) ⟨Nat.zero_le _, Nat.zero_le _⟩ dX9_lostInAll_1 ?_
  refine z_pop Z dX9_lostInAll_4 rfl ?_
  refine z_aload_n Z dX9_lostInAll_5 rfl 0 rfl ?_
  refine gC_X9_49_0 X dX9_lostInAll_6 ?_
  obtain ⟨r_1, M2, hf1, h⟩ := z_cld h
  refine z_callVi (Wd := wC cI cZ ad) X (c_X1_lostBehindFirst hf1) ml_X9_213 yd_X1_lostBehindFirst yw_X1_lostBehindFirst (by omega) (by decide) (rC_41 X) rfl rfl (Nat.le_of_ble_eq_true rfl) ⟨Nat.zero_le _, Nat.zero_le _⟩ dX9_lostInAll_9 ?_
  refine z_aload_n Z dX9_lostInAll_12 rfl 0 rfl ?_
  refine gC_X9_49_0 X dX9_lostInAll_13 ?_
  obtain ⟨r_2, M3, hf2, h⟩ := z_cld h
  refine z_callVi (Wd := wC cI cZ ad) X (c_X1_lostAtFirst hf2) ml_X9_274 yd_X1_lostAtFirst yw_X1_lostAtFirst (by omega) (by decide) (rC_41 X) rfl rfl (Nat.le_of_ble_eq_true rfl) ⟨Nat.zero_le _, Nat.zero_le _⟩ dX9_lostInAll_16 ?_
  refine z_iadd Z dX9_lostInAll_19 ?_
  exact z_iret X hr hlk dX9_lostInAll_20 h
set_option maxRecDepth 100000 in
set_option maxHeartbeats 4000000 in
theorem c_X9_lost {l : Launch} {D : va_G} {cI cZ : ClassId} {ad adK adV : Nat → Nat} {N : Nat} {M M' : zMem} {r : Int} (h : Drum_lost N M = some (r, M')) : z_Ct (wC cI cZ ad) D cI cZ adK adV l yX9_lost cX9_lost 1 (some .int) 7 [.ref (ad 0)] M M' (some (.int (z_I r))) := by
  unfold Drum_lost at h
  refine z_entry (own := RX9) rfl (by decide) (Nat.le_of_ble_eq_true rfl) ?_
  intro p e s m args below meth c R A X hr hlk
  have Z := X.1
  refine z_sub (lv' := [(0, .ref (ad 0))]) [0] rfl ?_
  refine z_aload_n Z dX9_lost_0 rfl 0 rfl ?_
  refine gC_X9_42_0 X dX9_lost_1 ?_
  refine gC_X9_141_19 X dX9_lost_4 ?_
  refine z_if_le (tgt := 17) Z dX9_lost_7 (by decide) h (fun h => ?_) (fun h => ?_)
  · refine z_bipush Z dX9_lost_17 rfl ?_
    exact z_iret X hr hlk dX9_lost_19 h
  · refine z_aload_n Z dX9_lost_10 rfl 0 rfl ?_
    obtain ⟨r_, M1, hf, h⟩ := z_cld h
    refine z_callVi (Wd := wC cI cZ ad) X (c_X9_lostInAll hf) ml_X9_201 yd_X9_lostInAll yw_X9_lostInAll (by omega) (by decide) (rC_0 X) rfl rfl (Nat.le_of_ble_eq_true rfl) ⟨Nat.zero_le _, Nat.zero_le _⟩ dX9_lost_11 ?_
    refine z_goto (tgt := 19) Z dX9_lost_14 (by decide) ?_
    exact z_iret X hr hlk dX9_lost_19 h
set_option maxRecDepth 100000 in
set_option maxHeartbeats 4000000 in
theorem wClock_lostOn_4 {p : Program} {l : Launch} {e : Env} {R : Room} {s : State} {m : MethodId} {args : Array Value} {below : List Frame} {meth : Method} {c : Code} {D : va_G} {A : Nat → Prop} {cI cZ : ClassId} {adK adV ad : Nat → Nat} {r : Int} {M' : zMem} (X : z_X p m c cX1_lostOn 4 s args RX1 R 1 D cI cZ A adK adV) (hr : meth.sig.returnType = some .int) (hlk : meth.locks = false) (N : Nat) (v1 : Int) (k : Int → zMem → zO) (hk : ∀ (y2 : Int) (M : zMem), k y2 M = some (r, M') → z_V p l e R s m args below meth c D A cI cZ 4 (wC cI cZ ad) M' (some (.int (z_I r))) M 43 [(2, .int (z_I y2))] []) : ∀ (n : Nat) (v2 v3 : Int) (M : zMem), Clock_lostOn_4 N v1 k n v2 v3 M = some (r, M') → z_V p l e R s m args below meth c D A cI cZ 4 (wC cI cZ ad) M' (some (.int (z_I r))) M 4 [(0, .ref (ad 41)), (1, .int (z_I v1)), (2, .int (z_I v2)), (3, .int (z_I v3))] [] := by
  have Z := X.1
  intro n
  induction n with
  | zero =>
    intro v2 v3 M h
    rw [Clock_lostOn_4] at h
    cases h
  | succ n ih =>
    intro v2 v3 M h
    rw [Clock_lostOn_4] at h
    refine z_iload_n Z dX1_lostOn_4 rfl 3 rfl ?_
    refine z_aload_n Z dX1_lostOn_5 rfl 0 rfl ?_
    refine gC_X1_28_41 X dX1_lostOn_6 ?_
    refine gC_X1_54_28 X dX1_lostOn_9 ?_
    refine z_icmp_ge (tgt := 43) Z dX1_lostOn_12 (by decide) h (fun h => ?_) (fun h => ?_)
    · refine z_sub [2] rfl ?_
      exact hk v2 M h
    · refine z_aload_n Z dX1_lostOn_15 rfl 0 rfl ?_
      refine gC_X1_28_41 X dX1_lostOn_16 ?_
      refine gC_X1_59_28 X dX1_lostOn_19 ?_
      refine z_iload_n Z dX1_lostOn_22 rfl 3 rfl ?_
      refine ldC_35 X dX1_lostOn_23 h (fun x0 h => ?_)
      refine z_iload_n Z dX1_lostOn_24 rfl 1 rfl ?_
      refine z_jnr (P := fun (k : Int → zMem → zO) => ∀ (v2_ : Int) (M1 : zMem), k v2_ M1 = some (r, M') → z_V p l e R s m args below meth c D A cI cZ 4 (wC cI cZ ad) M' (some (.int (z_I r))) M1 37 [(0, .ref (ad 41)), (1, .int (z_I v1)), (2, .int (z_I v2_)), (3, .int (z_I v3))] []) h ?_ ?_
      · intro v2_ M1 h
        refine z_iincn Z (fun z => [(3, .int (z_I z)), (0, .ref (ad 41)), (1, .int (z_I v1)), (2, .int (z_I v2_))]) dX1_lostOn_37 (k := 3) rfl (by decide) (fun _ => rfl) h (fun v3_ h => ?_)
        refine z_goto (tgt := 4) Z dX1_lostOn_40 (by decide) ?_
        refine z_sub [1, 2, 3, 0] rfl ?_
        exact ih v2_ v3_ M1 h
      · intro k1 hk1 h
        refine z_icmp_ne (tgt := 37) Z dX1_lostOn_25 (by decide) h (fun h => ?_) (fun h => ?_)
        · refine z_sub [0, 1, 2, 3] rfl ?_
          exact hk1 v2 M h
        · refine z_iload_n Z dX1_lostOn_28 rfl 2 rfl ?_
          refine z_aload_n Z dX1_lostOn_29 rfl 0 rfl ?_
          refine gC_X1_21_41 X dX1_lostOn_30 ?_
          refine z_iload_n Z dX1_lostOn_33 rfl 3 rfl ?_
          refine ldC_45 X dX1_lostOn_34 h (fun x1 h => ?_)
          refine z_iadd Z dX1_lostOn_35 ?_
          refine z_nmI h (fun v2_1 h => ?_)
          refine z_istore_n (lv' := [(2, .int (z_I v2_1)), (0, .ref (ad 41)), (1, .int (z_I v1)), (3, .int (z_I v3))]) Z dX1_lostOn_36 rfl (by decide) rfl ?_
          refine z_sub [1, 2, 0, 3] rfl ?_
          exact hk1 v2_1 M h
set_option maxRecDepth 100000 in
set_option maxHeartbeats 4000000 in
theorem c_X1_lostOn {l : Launch} {D : va_G} {cI cZ : ClassId} {ad adK adV : Nat → Nat} {N : Nat} {v1 : Int} {M M' : zMem} {r : Int} (h : Clock_lostOn N v1 M = some (r, M')) : z_Ct (wC cI cZ ad) D cI cZ adK adV l yX1_lostOn cX1_lostOn 4 (some .int) 1 [.ref (ad 41), .int (z_I v1)] M M' (some (.int (z_I r))) := by
  unfold Clock_lostOn at h
  refine z_entry (own := RX1) rfl (by decide) (Nat.le_of_ble_eq_true rfl) ?_
  intro p e s m args below meth c R A X hr hlk
  have Z := X.1
  refine z_sub (lv' := [(0, .ref (ad 41)), (1, .int (z_I v1))]) [0, 1] rfl ?_
  refine z_iconst Z dX1_lostOn_0 ?_
  refine z_istore_n (lv' := [(2, .int (z_I 0)), (0, .ref (ad 41)), (1, .int (z_I v1))]) Z dX1_lostOn_1 rfl (by decide) rfl ?_
  refine z_iconst Z dX1_lostOn_2 ?_
  refine z_istore_n (lv' := [(3, .int (z_I 0)), (2, .int (z_I 0)), (0, .ref (ad 41)), (1, .int (z_I v1))]) Z dX1_lostOn_3 rfl (by decide) rfl ?_
  refine z_jnr (P := fun (k : Int → zMem → zO) => ∀ (v2_ : Int) (M1 : zMem), k v2_ M1 = some (r, M') → z_V p l e R s m args below meth c D A cI cZ 4 (wC cI cZ ad) M' (some (.int (z_I r))) M1 43 [(2, .int (z_I v2_))] []) h ?_ ?_
  · intro v2_ M1 h
    refine z_iload_n Z dX1_lostOn_43 rfl 0 rfl ?_
    exact z_iret X hr hlk dX1_lostOn_44 h
  · intro k0 hk0 h
    refine z_sub [2, 3, 1, 0] rfl ?_
    exact wClock_lostOn_4 X hr hlk N v1 k0 hk0 N 0 0 M h
set_option maxRecDepth 100000 in
set_option maxHeartbeats 4000000 in
theorem c_X9_lostFor {l : Launch} {D : va_G} {cI cZ : ClassId} {ad adK adV : Nat → Nat} {N : Nat} {v1 : Int} {M M' : zMem} {r : Int} (h : Drum_lostFor N v1 M = some (r, M')) : z_Ct (wC cI cZ ad) D cI cZ adK adV l yX9_lostFor cX9_lostFor 2 (some .int) 6 [.ref (ad 0), .int (z_I v1)] M M' (some (.int (z_I r))) := by
  unfold Drum_lostFor at h
  refine z_entry (own := RX9) rfl (by decide) (Nat.le_of_ble_eq_true rfl) ?_
  intro p e s m args below meth c R A X hr hlk
  have Z := X.1
  refine z_sub (lv' := [(0, .ref (ad 0)), (1, .int (z_I v1))]) [0, 1] rfl ?_
  refine z_aload_n Z dX9_lostFor_0 rfl 0 rfl ?_
  refine gC_X9_42_0 X dX9_lostFor_1 ?_
  refine gC_X9_141_19 X dX9_lostFor_4 ?_
  refine z_if_eq (tgt := 21) Z dX9_lostFor_7 (by decide) h (fun h => ?_) (fun h => ?_)
  · refine z_bipush Z dX9_lostFor_21 rfl ?_
    exact z_iret X hr hlk dX9_lostFor_23 h
  · refine z_aload_n Z dX9_lostFor_10 rfl 0 rfl ?_
    refine gC_X9_42_0 X dX9_lostFor_11 ?_
    refine z_iload_n Z dX9_lostFor_14 rfl 1 rfl ?_
    obtain ⟨r_, M1, hf, h⟩ := z_cld h
    refine z_callVi (Wd := wC cI cZ ad) X (c_X3_isItem (Or.inr (rfl)) hf) ml_X9_148 yd_X3_isItem yw_X3_isItem (by omega) (by decide) (rC_19 X) rfl rfl (Nat.le_of_ble_eq_true rfl) ⟨Nat.zero_le _, Nat.zero_le _⟩ dX9_lostFor_15 ?_
    refine z_if_ne (tgt := 24) Z dX9_lostFor_18 (by decide) h (fun h => ?_) (fun h => ?_)
    · refine z_aload_n Z dX9_lostFor_24 rfl 0 rfl ?_
      obtain ⟨r_1, M2, hf1, h⟩ := z_cld h
      refine z_callVi (Wd := wC cI cZ ad) X (c_X9_timeNow hf1) ml_X9_198 yd_X9_timeNow yw_X9_timeNow (by omega) (by decide) (rC_0 X) rfl rfl (Nat.le_of_ble_eq_true rfl) ⟨Nat.zero_le _, Nat.zero_le _⟩ dX9_lostFor_25 ?_
      refine z_pop Z dX9_lostFor_28 rfl ?_
      refine z_aload_n Z dX9_lostFor_29 rfl 0 rfl ?_
      refine gC_X9_49_0 X dX9_lostFor_30 ?_
      refine z_iload_n Z dX9_lostFor_33 rfl 1 rfl ?_
      obtain ⟨r_2, M3, hf2, h⟩ := z_cld h
      refine z_callVi (Wd := wC cI cZ ad) X (c_X1_lostOn hf2) ml_X9_204 yd_X1_lostOn yw_X1_lostOn (by omega) (by decide) (rC_41 X) rfl rfl (Nat.le_of_ble_eq_true rfl) ⟨Nat.zero_le _, Nat.zero_le _⟩ dX9_lostFor_34 ?_
      exact z_iret X hr hlk dX9_lostFor_37 h
    · refine z_bipush Z dX9_lostFor_21 rfl ?_
      exact z_iret X hr hlk dX9_lostFor_23 h
set_option maxRecDepth 100000 in
set_option maxHeartbeats 4000000 in
theorem wDrum_worst_24 {p : Program} {l : Launch} {e : Env} {R : Room} {s : State} {m : MethodId} {args : Array Value} {below : List Frame} {meth : Method} {c : Code} {D : va_G} {A : Nat → Prop} {cI cZ : ClassId} {adK adV ad : Nat → Nat} {r : Int} {M' : zMem} (X : z_X p m c cX9_worst 5 s args RX9 R 6 D cI cZ A adK adV) (hr : meth.sig.returnType = some .int) (hlk : meth.locks = false) (N : Nat) (k : Int → zMem → zO) (hk : ∀ (y1 : Int) (M : zMem), k y1 M = some (r, M') → z_V p l e R s m args below meth c D A cI cZ 5 (wC cI cZ ad) M' (some (.int (z_I r))) M 62 [(1, .int (z_I y1))] []) : ∀ (n : Nat) (v1 v2 v3 : Int) (M : zMem), Drum_worst_24 N k n v1 v2 v3 M = some (r, M') → z_V p l e R s m args below meth c D A cI cZ 5 (wC cI cZ ad) M' (some (.int (z_I r))) M 24 [(0, .ref (ad 0)), (1, .int (z_I v1)), (2, .int (z_I v2)), (3, .int (z_I v3))] [] := by
  have Z := X.1
  intro n
  induction n with
  | zero =>
    intro v1 v2 v3 M h
    rw [Drum_worst_24] at h
    cases h
  | succ n ih =>
    intro v1 v2 v3 M h
    rw [Drum_worst_24] at h
    refine z_iload_n Z dX9_worst_24 rfl 3 rfl ?_
    refine z_aload_n Z dX9_worst_25 rfl 0 rfl ?_
    refine gC_X9_42_0 X dX9_worst_26 ?_
    refine gC_X9_207_19 X dX9_worst_29 ?_
    refine z_icmp_ge (tgt := 62) Z dX9_worst_32 (by decide) h (fun h => ?_) (fun h => ?_)
    · refine z_sub [1] rfl ?_
      exact hk v1 M h
    · refine z_aload_n Z dX9_worst_35 rfl 0 rfl ?_
      refine gC_X9_49_0 X dX9_worst_36 ?_
      refine z_iload_n Z dX9_worst_39 rfl 3 rfl ?_
      obtain ⟨r_, M1, hf, h⟩ := z_cld h
      refine z_callVi (Wd := wC cI cZ ad) X (c_X1_lostOn hf) ml_X9_204 yd_X1_lostOn yw_X1_lostOn (by omega) (by decide) (rC_41 X) rfl rfl (Nat.le_of_ble_eq_true rfl) ⟨Nat.zero_le _, Nat.zero_le _⟩ dX9_worst_40 ?_
      refine z_istore (lv' := [(4, .int (z_I r_)), (0, .ref (ad 0)), (1, .int (z_I v1)), (2, .int (z_I v2)), (3, .int (z_I v3))]) Z dX9_worst_43 (by decide) rfl ?_
      refine z_iload Z dX9_worst_45 0 rfl ?_
      refine z_iload_n Z dX9_worst_47 rfl 3 rfl ?_
      refine z_jnr (P := fun (k : Int → Int → zMem → zO) => ∀ (v1_ v2_ : Int) (M2 : zMem), k v1_ v2_ M2 = some (r, M') → z_V p l e R s m args below meth c D A cI cZ 5 (wC cI cZ ad) M' (some (.int (z_I r))) M2 56 [(0, .ref (ad 0)), (1, .int (z_I v1_)), (2, .int (z_I v2_)), (3, .int (z_I v3))] []) h ?_ ?_
      · intro v1_ v2_ M2 h
        refine z_iincn Z (fun z => [(3, .int (z_I z)), (0, .ref (ad 0)), (1, .int (z_I v1_)), (2, .int (z_I v2_))]) dX9_worst_56 (k := 3) rfl (by decide) (fun _ => rfl) h (fun v3_ h => ?_)
        refine z_goto (tgt := 24) Z dX9_worst_59 (by decide) ?_
        refine z_sub [1, 2, 3, 0] rfl ?_
        exact ih v1_ v2_ v3_ M2 h
      · intro k1 hk1 h
        refine z_icmp_le (tgt := 56) Z dX9_worst_48 (by decide) h (fun h => ?_) (fun h => ?_)
        · refine z_sub [1, 2, 3, 4] rfl ?_
          exact hk1 v1 v2 M1 h
        · refine z_iload_n Z dX9_worst_51 rfl 4 rfl ?_
          refine z_istore_n (lv' := [(1, .int (z_I v3)), (4, .int (z_I r_)), (0, .ref (ad 0)), (2, .int (z_I v2)), (3, .int (z_I v3))]) Z dX9_worst_52 rfl (by decide) rfl ?_
          refine z_iload Z dX9_worst_53 1 rfl ?_
          refine z_istore_n (lv' := [(2, .int (z_I r_)), (1, .int (z_I v3)), (4, .int (z_I r_)), (0, .ref (ad 0)), (3, .int (z_I v3))]) Z dX9_worst_55 rfl (by decide) rfl ?_
          refine z_sub [3, 1, 0, 4] rfl ?_
          exact hk1 v3 r_ M1 h
set_option maxRecDepth 100000 in
set_option maxHeartbeats 4000000 in
theorem c_X9_worst {l : Launch} {D : va_G} {cI cZ : ClassId} {ad adK adV : Nat → Nat} {N : Nat} {M M' : zMem} {r : Int} (h : Drum_worst N M = some (r, M')) : z_Ct (wC cI cZ ad) D cI cZ adK adV l yX9_worst cX9_worst 5 (some .int) 6 [.ref (ad 0)] M M' (some (.int (z_I r))) := by
  unfold Drum_worst at h
  refine z_entry (own := RX9) rfl (by decide) (Nat.le_of_ble_eq_true rfl) ?_
  intro p e s m args below meth c R A X hr hlk
  have Z := X.1
  refine z_sub (lv' := [(0, .ref (ad 0))]) [0] rfl ?_
  refine z_aload_n Z dX9_worst_0 rfl 0 rfl ?_
  refine gC_X9_42_0 X dX9_worst_1 ?_
  refine gC_X9_141_19 X dX9_worst_4 ?_
  refine z_if_ne (tgt := 13) Z dX9_worst_7 (by decide) h (fun h => ?_) (fun h => ?_)
  · refine z_aload_n Z dX9_worst_13 rfl 0 rfl ?_
    obtain ⟨r_, M1, hf, h⟩ := z_cld h
    refine z_callVi (Wd := wC cI cZ ad) X (c_X9_timeNow hf) ml_X9_198 yd_X9_timeNow yw_X9_timeNow (by omega) (by decide) (rC_0 X) rfl rfl (Nat.le_of_ble_eq_true rfl) ⟨Nat.zero_le _, Nat.zero_le _⟩ dX9_worst_14 ?_
    refine z_pop Z dX9_worst_17 rfl ?_
    refine z_iconst Z dX9_worst_18 ?_
    refine z_istore_n (lv' := [(1, .int (z_I (-1))), (0, .ref (ad 0))]) Z dX9_worst_19 rfl (by decide) rfl ?_
    refine z_iconst Z dX9_worst_20 ?_
    refine z_istore_n (lv' := [(2, .int (z_I 0)), (1, .int (z_I (-1))), (0, .ref (ad 0))]) Z dX9_worst_21 rfl (by decide) rfl ?_
    refine z_iconst Z dX9_worst_22 ?_
    refine z_istore_n (lv' := [(3, .int (z_I 0)), (2, .int (z_I 0)), (1, .int (z_I (-1))), (0, .ref (ad 0))]) Z dX9_worst_23 rfl (by decide) rfl ?_
    refine z_jnr (P := fun (k : Int → zMem → zO) => ∀ (v1_ : Int) (M2 : zMem), k v1_ M2 = some (r, M') → z_V p l e R s m args below meth c D A cI cZ 5 (wC cI cZ ad) M' (some (.int (z_I r))) M2 62 [(1, .int (z_I v1_))] []) h ?_ ?_
    · intro v1_ M2 h
      refine z_iload_n Z dX9_worst_62 rfl 0 rfl ?_
      exact z_iret X hr hlk dX9_worst_63 h
    · intro k0 hk0 h
      refine z_sub [3, 2, 1, 0] rfl ?_
      exact wDrum_worst_24 X hr hlk N k0 hk0 N (-1) 0 0 M1 h
  · refine z_bipush Z dX9_worst_10 rfl ?_
    exact z_iret X hr hlk dX9_worst_12 h
set_option maxRecDepth 100000 in
set_option maxHeartbeats 4000000 in
theorem wTrace_readingsOf_4 {p : Program} {l : Launch} {e : Env} {R : Room} {s : State} {m : MethodId} {args : Array Value} {below : List Frame} {meth : Method} {c : Code} {D : va_G} {A : Nat → Prop} {cI cZ : ClassId} {adK adV ad : Nat → Nat} {r : Int} {M' : zMem} (X : z_X p m c cX8_readingsOf 4 s args RX8 R 1 D cI cZ A adK adV) (hr : meth.sig.returnType = some .int) (hlk : meth.locks = false) (N : Nat) (v1 : Int) (k : Int → zMem → zO) (hk : ∀ (y2 : Int) (M : zMem), k y2 M = some (r, M') → z_V p l e R s m args below meth c D A cI cZ 4 (wC cI cZ ad) M' (some (.int (z_I r))) M 31 [(2, .int (z_I y2))] []) : ∀ (n : Nat) (v2 v3 : Int) (M : zMem), Trace_readingsOf_4 N v1 k n v2 v3 M = some (r, M') → z_V p l e R s m args below meth c D A cI cZ 4 (wC cI cZ ad) M' (some (.int (z_I r))) M 4 [(0, .ref (ad 28)), (1, .int (z_I v1)), (2, .int (z_I v2)), (3, .int (z_I v3))] [] := by
  have Z := X.1
  intro n
  induction n with
  | zero =>
    intro v2 v3 M h
    rw [Trace_readingsOf_4] at h
    cases h
  | succ n ih =>
    intro v2 v3 M h
    rw [Trace_readingsOf_4] at h
    refine z_iload_n Z dX8_readingsOf_4 rfl 3 rfl ?_
    refine z_aload_n Z dX8_readingsOf_5 rfl 0 rfl ?_
    refine gC_X8_40_28 X dX8_readingsOf_6 ?_
    refine z_icmp_ge (tgt := 31) Z dX8_readingsOf_9 (by decide) h (fun h => ?_) (fun h => ?_)
    · refine z_sub [2] rfl ?_
      exact hk v2 M h
    · refine z_aload_n Z dX8_readingsOf_12 rfl 0 rfl ?_
      refine gC_X8_43_28 X dX8_readingsOf_13 ?_
      refine z_iload_n Z dX8_readingsOf_16 rfl 3 rfl ?_
      refine ldC_35 X dX8_readingsOf_17 h (fun x0 h => ?_)
      refine z_iload_n Z dX8_readingsOf_18 rfl 1 rfl ?_
      refine z_jnr (P := fun (k : Int → zMem → zO) => ∀ (v2_ : Int) (M1 : zMem), k v2_ M1 = some (r, M') → z_V p l e R s m args below meth c D A cI cZ 4 (wC cI cZ ad) M' (some (.int (z_I r))) M1 25 [(0, .ref (ad 28)), (1, .int (z_I v1)), (2, .int (z_I v2_)), (3, .int (z_I v3))] []) h ?_ ?_
      · intro v2_ M1 h
        refine z_iincn Z (fun z => [(3, .int (z_I z)), (0, .ref (ad 28)), (1, .int (z_I v1)), (2, .int (z_I v2_))]) dX8_readingsOf_25 (k := 3) rfl (by decide) (fun _ => rfl) h (fun v3_ h => ?_)
        refine z_goto (tgt := 4) Z dX8_readingsOf_28 (by decide) ?_
        refine z_sub [1, 2, 3, 0] rfl ?_
        exact ih v2_ v3_ M1 h
      · intro k1 hk1 h
        refine z_icmp_ne (tgt := 25) Z dX8_readingsOf_19 (by decide) h (fun h => ?_) (fun h => ?_)
        · refine z_sub [0, 1, 2, 3] rfl ?_
          exact hk1 v2 M h
        · refine z_iincn Z (fun z => [(2, .int (z_I z)), (0, .ref (ad 28)), (1, .int (z_I v1)), (3, .int (z_I v3))]) dX8_readingsOf_22 (k := 2) rfl (by decide) (fun _ => rfl) h (fun v2_1 h => ?_)
          refine z_sub [1, 2, 0, 3] rfl ?_
          exact hk1 v2_1 M h
set_option maxRecDepth 100000 in
set_option maxHeartbeats 4000000 in
theorem c_X8_readingsOf {l : Launch} {D : va_G} {cI cZ : ClassId} {ad adK adV : Nat → Nat} {N : Nat} {v1 : Int} {M M' : zMem} {r : Int} (h : Trace_readingsOf N v1 M = some (r, M')) : z_Ct (wC cI cZ ad) D cI cZ adK adV l yX8_readingsOf cX8_readingsOf 4 (some .int) 1 [.ref (ad 28), .int (z_I v1)] M M' (some (.int (z_I r))) := by
  unfold Trace_readingsOf at h
  refine z_entry (own := RX8) rfl (by decide) (Nat.le_of_ble_eq_true rfl) ?_
  intro p e s m args below meth c R A X hr hlk
  have Z := X.1
  refine z_sub (lv' := [(0, .ref (ad 28)), (1, .int (z_I v1))]) [0, 1] rfl ?_
  refine z_iconst Z dX8_readingsOf_0 ?_
  refine z_istore_n (lv' := [(2, .int (z_I 0)), (0, .ref (ad 28)), (1, .int (z_I v1))]) Z dX8_readingsOf_1 rfl (by decide) rfl ?_
  refine z_iconst Z dX8_readingsOf_2 ?_
  refine z_istore_n (lv' := [(3, .int (z_I 0)), (2, .int (z_I 0)), (0, .ref (ad 28)), (1, .int (z_I v1))]) Z dX8_readingsOf_3 rfl (by decide) rfl ?_
  refine z_jnr (P := fun (k : Int → zMem → zO) => ∀ (v2_ : Int) (M1 : zMem), k v2_ M1 = some (r, M') → z_V p l e R s m args below meth c D A cI cZ 4 (wC cI cZ ad) M' (some (.int (z_I r))) M1 31 [(2, .int (z_I v2_))] []) h ?_ ?_
  · intro v2_ M1 h
    refine z_iload_n Z dX8_readingsOf_31 rfl 0 rfl ?_
    exact z_iret X hr hlk dX8_readingsOf_32 h
  · intro k0 hk0 h
    refine z_sub [2, 3, 1, 0] rfl ?_
    exact wTrace_readingsOf_4 X hr hlk N v1 k0 hk0 N 0 0 M h
set_option maxRecDepth 100000 in
set_option maxHeartbeats 4000000 in
theorem c_X9_met {l : Launch} {D : va_G} {cI cZ : ClassId} {ad adK adV : Nat → Nat} {N : Nat} {v1 : Int} {M M' : zMem} {r : Int} (h : Drum_met N v1 M = some (r, M')) : z_Ct (wC cI cZ ad) D cI cZ adK adV l yX9_met cX9_met 2 (some .int) 2 [.ref (ad 0), .int (z_I v1)] M M' (some (.int (z_I r))) := by
  unfold Drum_met at h
  refine z_entry (own := RX9) rfl (by decide) (Nat.le_of_ble_eq_true rfl) ?_
  intro p e s m args below meth c R A X hr hlk
  have Z := X.1
  refine z_sub (lv' := [(0, .ref (ad 0)), (1, .int (z_I v1))]) [0, 1] rfl ?_
  refine z_aload_n Z dX9_met_0 rfl 0 rfl ?_
  refine gC_X9_42_0 X dX9_met_1 ?_
  refine gC_X9_141_19 X dX9_met_4 ?_
  refine z_jnr (P := fun (k : zMem → zO) => ∀ (M1 : zMem), k M1 = some (r, M') → z_V p l e R s m args below meth c D A cI cZ 2 (wC cI cZ ad) M' (some (.int (z_I r))) M1 32 [] []) h ?_ ?_
  · intro M1 h
    refine z_bipush Z dX9_met_32 rfl ?_
    exact z_iret X hr hlk dX9_met_34 h
  · intro k0 hk0 h
    refine z_if_le (tgt := 32) Z dX9_met_7 (by decide) h (fun h => ?_) (fun h => ?_)
    · refine z_sub [] rfl ?_
      exact hk0 M h
    · refine z_aload_n Z dX9_met_10 rfl 0 rfl ?_
      refine gC_X9_42_0 X dX9_met_11 ?_
      refine z_iload_n Z dX9_met_14 rfl 1 rfl ?_
      obtain ⟨r_, M2, hf, h⟩ := z_cld h
      refine z_callVi (Wd := wC cI cZ ad) X (c_X3_isItem (Or.inr (rfl)) hf) ml_X9_148 yd_X3_isItem yw_X3_isItem (by omega) (by decide) (rC_19 X) rfl rfl (Nat.le_of_ble_eq_true rfl) ⟨Nat.zero_le _, Nat.zero_le _⟩ dX9_met_15 ?_
      refine z_if_eq (tgt := 32) Z dX9_met_18 (by decide) h (fun h => ?_) (fun h => ?_)
      · refine z_sub [] rfl ?_
        exact hk0 M2 h
      · refine z_aload_n Z dX9_met_21 rfl 0 rfl ?_
        refine gC_X9_45_0 X dX9_met_22 ?_
        refine z_iload_n Z dX9_met_25 rfl 1 rfl ?_
        obtain ⟨r_1, M3, hf1, h⟩ := z_cld h
        refine z_callVi (Wd := wC cI cZ ad) X (c_X8_readingsOf hf1) ml_X9_210 yd_X8_readingsOf yw_X8_readingsOf (by omega) (by decide) (rC_28 X) rfl rfl (Nat.le_of_ble_eq_true rfl) ⟨Nat.zero_le _, Nat.zero_le _⟩ dX9_met_26 ?_
        refine z_goto (tgt := 34) Z dX9_met_29 (by decide) ?_
        exact z_iret X hr hlk dX9_met_34 h
set_option maxRecDepth 100000 in
set_option maxHeartbeats 4000000 in
theorem c_X9_bound {l : Launch} {D : va_G} {cI cZ : ClassId} {ad adK adV : Nat → Nat} {N : Nat} {M M' : zMem} {r : Int} (h : Drum_bound N M = some (r, M')) : z_Ct (wC cI cZ ad) D cI cZ adK adV l yX9_bound cX9_bound 2 (some .int) 6 [.ref (ad 0)] M M' (some (.int (z_I r))) := by
  unfold Drum_bound at h
  refine z_entry (own := RX9) rfl (by decide) (Nat.le_of_ble_eq_true rfl) ?_
  intro p e s m args below meth c R A X hr hlk
  have Z := X.1
  refine z_sub (lv' := [(0, .ref (ad 0))]) [0] rfl ?_
  refine z_aload_n Z dX9_bound_0 rfl 0 rfl ?_
  refine gC_X9_42_0 X dX9_bound_1 ?_
  refine gC_X9_141_19 X dX9_bound_4 ?_
  refine z_if_ne (tgt := 13) Z dX9_bound_7 (by decide) h (fun h => ?_) (fun h => ?_)
  · refine z_aload_n Z dX9_bound_13 rfl 0 rfl ?_
    obtain ⟨r_, M1, hf, h⟩ := z_cld h
    refine z_callVi (Wd := wC cI cZ ad) X (c_X9_timeNow hf) ml_X9_198 yd_X9_timeNow yw_X9_timeNow (by omega) (by decide) (rC_0 X) rfl rfl (Nat.le_of_ble_eq_true rfl) ⟨Nat.zero_le _, Nat.zero_le _⟩ dX9_bound_14 ?_
    refine z_istore_n (lv' := [(1, .int (z_I r_)), (0, .ref (ad 0))]) Z dX9_bound_17 rfl (by decide) rfl ?_
    refine z_iload_n Z dX9_bound_18 rfl 0 rfl ?_
    refine z_aload_n Z dX9_bound_19 rfl 1 rfl ?_
    refine gC_X9_49_0 X dX9_bound_20 ?_
    obtain ⟨r_1, M2, hf1, h⟩ := z_cld h
    refine z_callVi (Wd := wC cI cZ ad) X (c_X1_lostBehindFirst hf1) ml_X9_213 yd_X1_lostBehindFirst yw_X1_lostBehindFirst (by omega) (by decide) (rC_41 X) rfl rfl (Nat.le_of_ble_eq_true rfl) ⟨Nat.zero_le _, Nat.zero_le _⟩ dX9_bound_23 ?_
    refine z_isub Z dX9_bound_26 ?_
    exact z_iret X hr hlk dX9_bound_27 h
  · refine z_bipush Z dX9_bound_10 rfl ?_
    exact z_iret X hr hlk dX9_bound_12 h
set_option maxRecDepth 100000 in
set_option maxHeartbeats 4000000 in
theorem c_X9_waiting {l : Launch} {D : va_G} {cI cZ : ClassId} {ad adK adV : Nat → Nat} {N : Nat} {v1 : Int} {M M' : zMem} {r : Int} (h : Drum_waiting N v1 M = some (r, M')) : z_Ct (wC cI cZ ad) D cI cZ adK adV l yX9_waiting cX9_waiting 2 (some .int) 5 [.ref (ad 0), .int (z_I v1)] M M' (some (.int (z_I r))) := by
  unfold Drum_waiting at h
  refine z_entry (own := RX9) rfl (by decide) (Nat.le_of_ble_eq_true rfl) ?_
  intro p e s m args below meth c R A X hr hlk
  have Z := X.1
  refine z_sub (lv' := [(0, .ref (ad 0)), (1, .int (z_I v1))]) [0, 1] rfl ?_
  refine z_aload_n Z dX9_waiting_0 rfl 0 rfl ?_
  refine gC_X9_42_0 X dX9_waiting_1 ?_
  refine gC_X9_141_19 X dX9_waiting_4 ?_
  refine z_if_eq (tgt := 20) Z dX9_waiting_7 (by decide) h (fun h => ?_) (fun h => ?_)
  · refine z_bipush Z dX9_waiting_20 rfl ?_
    exact z_iret X hr hlk dX9_waiting_22 h
  · refine z_iload_n Z dX9_waiting_10 rfl 1 rfl ?_
    refine z_if_lt (tgt := 20) Z dX9_waiting_11 (by decide) h (fun h => ?_) (fun h => ?_)
    · refine z_bipush Z dX9_waiting_20 rfl ?_
      exact z_iret X hr hlk dX9_waiting_22 h
    · refine z_iload_n Z dX9_waiting_14 rfl 1 rfl ?_
      refine z_bipush Z dX9_waiting_15 rfl ?_
      refine z_icmp_le (tgt := 23) Z dX9_waiting_17 (by decide) h (fun h => ?_) (fun h => ?_)
      · refine z_aload_n Z dX9_waiting_23 rfl 0 rfl ?_
        refine gC_X9_49_0 X dX9_waiting_24 ?_
        refine z_aload_n Z dX9_waiting_27 rfl 0 rfl ?_
        refine gC_X9_78_0 X dX9_waiting_28 ?_
        refine z_iload_n Z dX9_waiting_31 rfl 1 rfl ?_
        refine z_aload_n Z dX9_waiting_32 rfl 0 rfl ?_
        refine gC_X9_42_0 X dX9_waiting_33 ?_
        refine gC_X9_132_19 X dX9_waiting_36 ?_
        obtain ⟨r_, M1, hf, h⟩ := z_cld h
        refine z_callVi (Wd := wC cI cZ ad) X (c_X1_measure (Or.inl rfl) hf) ml_X9_216 yd_X1_measure yw_X1_measure (by omega) (by decide) (rC_41 X) rfl rfl (Nat.le_of_ble_eq_true rfl) ⟨Nat.zero_le _, Nat.zero_le _⟩ dX9_waiting_39 ?_
        exact z_iret X hr hlk dX9_waiting_42 h
      · refine z_bipush Z dX9_waiting_20 rfl ?_
        exact z_iret X hr hlk dX9_waiting_22 h
set_option maxRecDepth 100000 in
set_option maxHeartbeats 4000000 in
theorem c_X9_quicker {l : Launch} {D : va_G} {cI cZ : ClassId} {ad adK adV : Nat → Nat} {N : Nat} {v1 : Int} {M M' : zMem} {r : Int} (h : Drum_quicker N v1 M = some (r, M')) : z_Ct (wC cI cZ ad) D cI cZ adK adV l yX9_quicker cX9_quicker 2 (some .int) 5 [.ref (ad 0), .int (z_I v1)] M M' (some (.int (z_I r))) := by
  unfold Drum_quicker at h
  refine z_entry (own := RX9) rfl (by decide) (Nat.le_of_ble_eq_true rfl) ?_
  intro p e s m args below meth c R A X hr hlk
  have Z := X.1
  refine z_sub (lv' := [(0, .ref (ad 0)), (1, .int (z_I v1))]) [0, 1] rfl ?_
  refine z_aload_n Z dX9_quicker_0 rfl 0 rfl ?_
  refine gC_X9_42_0 X dX9_quicker_1 ?_
  refine gC_X9_141_19 X dX9_quicker_4 ?_
  refine z_if_eq (tgt := 24) Z dX9_quicker_7 (by decide) h (fun h => ?_) (fun h => ?_)
  · refine z_bipush Z dX9_quicker_24 rfl ?_
    exact z_iret X hr hlk dX9_quicker_26 h
  · refine z_iload_n Z dX9_quicker_10 rfl 1 rfl ?_
    refine z_aload_n Z dX9_quicker_11 rfl 0 rfl ?_
    refine gC_X9_42_0 X dX9_quicker_12 ?_
    refine gC_X9_126_19 X dX9_quicker_15 ?_
    obtain ⟨r_, M1, hf, h⟩ := z_cld h
    refine z_callSi (Wd := wC cI cZ ad) X (c_X9_isQuick hf) ml_X9_220 yd_X9_isQuick yw_X9_isQuick (by omega) (by decide) rfl rfl (Nat.le_of_ble_eq_true rfl) ⟨Nat.zero_le _, Nat.zero_le _⟩ dX9_quicker_18 ?_
    refine z_if_ne (tgt := 27) Z dX9_quicker_21 (by decide) h (fun h => ?_) (fun h => ?_)
    · refine z_aload_n Z dX9_quicker_27 rfl 0 rfl ?_
      refine gC_X9_49_0 X dX9_quicker_28 ?_
      refine z_aload_n Z dX9_quicker_31 rfl 0 rfl ?_
      refine gC_X9_78_0 X dX9_quicker_32 ?_
      refine z_aload_n Z dX9_quicker_35 rfl 0 rfl ?_
      refine gC_X9_42_0 X dX9_quicker_36 ?_
      refine gC_X9_129_19 X dX9_quicker_39 ?_
      refine z_iload_n Z dX9_quicker_42 rfl 1 rfl ?_
      obtain ⟨r_1, M2, hf1, h⟩ := z_cld h
      refine z_callVi (Wd := wC cI cZ ad) X (c_X1_measure (Or.inl rfl) hf1) ml_X9_216 yd_X1_measure yw_X1_measure (by omega) (by decide) (rC_41 X) rfl rfl (Nat.le_of_ble_eq_true rfl) ⟨Nat.zero_le _, Nat.zero_le _⟩ dX9_quicker_43 ?_
      exact z_iret X hr hlk dX9_quicker_46 h
    · refine z_bipush Z dX9_quicker_24 rfl ?_
      exact z_iret X hr hlk dX9_quicker_26 h
set_option maxRecDepth 100000 in
set_option maxHeartbeats 4000000 in
theorem c_X9_refusalOfMove {l : Launch} {D : va_G} {cI cZ : ClassId} {ad adK adV : Nat → Nat} {N : Nat} {v1 v2 : Int} {M M' : zMem} {r : Int} (h : Drum_refusalOfMove N v1 v2 M = some (r, M')) : z_Ct (wC cI cZ ad) D cI cZ adK adV l yX9_refusalOfMove cX9_refusalOfMove 4 (some .int) 3 [.ref (ad 0), .int (z_I v1), .int (z_I v2)] M M' (some (.int (z_I r))) := by
  unfold Drum_refusalOfMove at h
  refine z_entry (own := RX9) rfl (by decide) (Nat.le_of_ble_eq_true rfl) ?_
  intro p e s m args below meth c R A X hr hlk
  have Z := X.1
  refine z_sub (lv' := [(0, .ref (ad 0)), (1, .int (z_I v1)), (2, .int (z_I v2))]) [0, 1, 2] rfl ?_
  refine z_aload_n Z dX9_refusalOfMove_0 rfl 0 rfl ?_
  refine gC_X9_42_0 X dX9_refusalOfMove_1 ?_
  refine gC_X9_141_19 X dX9_refusalOfMove_4 ?_
  refine z_if_eq (tgt := 32) Z dX9_refusalOfMove_7 (by decide) h (fun h => ?_) (fun h => ?_)
  · refine z_bipush Z dX9_refusalOfMove_32 rfl ?_
    exact z_iret X hr hlk dX9_refusalOfMove_34 h
  · refine z_aload_n Z dX9_refusalOfMove_10 rfl 0 rfl ?_
    refine gC_X9_42_0 X dX9_refusalOfMove_11 ?_
    refine z_iload_n Z dX9_refusalOfMove_14 rfl 1 rfl ?_
    obtain ⟨r_, M1, hf, h⟩ := z_cld h
    refine z_callVi (Wd := wC cI cZ ad) X (c_X3_isItem (Or.inr (rfl)) hf) ml_X9_148 yd_X3_isItem yw_X3_isItem (by omega) (by decide) (rC_19 X) rfl rfl (Nat.le_of_ble_eq_true rfl) ⟨Nat.zero_le _, Nat.zero_le _⟩ dX9_refusalOfMove_15 ?_
    refine z_if_eq (tgt := 32) Z dX9_refusalOfMove_18 (by decide) h (fun h => ?_) (fun h => ?_)
    · refine z_bipush Z dX9_refusalOfMove_32 rfl ?_
      exact z_iret X hr hlk dX9_refusalOfMove_34 h
    · refine z_aload_n Z dX9_refusalOfMove_21 rfl 0 rfl ?_
      refine gC_X9_42_0 X dX9_refusalOfMove_22 ?_
      refine z_iload_n Z dX9_refusalOfMove_25 rfl 2 rfl ?_
      obtain ⟨r_1, M2, hf1, h⟩ := z_cld h
      refine z_callVi (Wd := wC cI cZ ad) X (c_X3_isAddress hf1) ml_X9_161 yd_X3_isAddress yw_X3_isAddress (by omega) (by decide) (rC_19 X) rfl rfl (Nat.le_of_ble_eq_true rfl) ⟨Nat.zero_le _, Nat.zero_le _⟩ dX9_refusalOfMove_26 ?_
      refine z_if_ne (tgt := 35) Z dX9_refusalOfMove_29 (by decide) h (fun h => ?_) (fun h => ?_)
      · refine z_aload_n Z dX9_refusalOfMove_35 rfl 0 rfl ?_
        refine z_iload_n Z dX9_refusalOfMove_36 rfl 2 rfl ?_
        obtain ⟨r_2, M3, hf2, h⟩ := z_cld h
        refine z_callVi (Wd := wC cI cZ ad) X (c_X9_itemAt hf2) ml_X9_164 yd_X9_itemAt yw_X9_itemAt (by omega) (by decide) (rC_0 X) rfl rfl (Nat.le_of_ble_eq_true rfl) ⟨Nat.zero_le _, Nat.zero_le _⟩ dX9_refusalOfMove_37 ?_
        refine z_istore_n (lv' := [(3, .int (z_I r_2)), (0, .ref (ad 0)), (1, .int (z_I v1)), (2, .int (z_I v2))]) Z dX9_refusalOfMove_40 rfl (by decide) rfl ?_
        refine z_aload_n Z dX9_refusalOfMove_41 rfl 1 rfl ?_
        refine gC_X9_42_0 X dX9_refusalOfMove_42 ?_
        refine z_iload_n Z dX9_refusalOfMove_45 rfl 2 rfl ?_
        obtain ⟨r_3, M4, hf3, h⟩ := z_cld h
        refine z_callVi (Wd := wC cI cZ ad) X (c_X3_isFixed hf3) ml_X9_155 yd_X3_isFixed yw_X3_isFixed (by omega) (by decide) (rC_19 X) rfl rfl (Nat.le_of_ble_eq_true rfl) ⟨Nat.zero_le _, Nat.zero_le _⟩ dX9_refusalOfMove_46 ?_
        refine z_jnr (P := fun (k : zMem → zO) => ∀ (M5 : zMem), k M5 = some (r, M') → z_V p l e R s m args below meth c D A cI cZ 4 (wC cI cZ ad) M' (some (.int (z_I r))) M5 62 [] []) h ?_ ?_
        · intro M5 h
          refine z_bipush Z dX9_refusalOfMove_62 rfl ?_
          refine z_goto (tgt := 68) Z dX9_refusalOfMove_64 (by decide) ?_
          exact z_iret X hr hlk dX9_refusalOfMove_68 h
        · intro k0 hk0 h
          refine z_if_ne (tgt := 62) Z dX9_refusalOfMove_49 (by decide) h (fun h => ?_) (fun h => ?_)
          · refine z_sub [] rfl ?_
            exact hk0 M4 h
          · refine z_iload_n Z dX9_refusalOfMove_52 rfl 0 rfl ?_
            refine z_iconst Z dX9_refusalOfMove_53 ?_
            refine z_jnr (P := fun (k : zMem → zO) => ∀ (M6 : zMem), k M6 = some (r, M') → z_V p l e R s m args below meth c D A cI cZ 4 (wC cI cZ ad) M' (some (.int (z_I r))) M6 67 [] []) h ?_ ?_
            · intro M6 h
              refine z_iconst Z dX9_refusalOfMove_67 ?_
              exact z_iret X hr hlk dX9_refusalOfMove_68 h
            · intro k1 hk1 h
              refine z_icmp_eq (tgt := 67) Z dX9_refusalOfMove_54 (by decide) h (fun h => ?_) (fun h => ?_)
              · refine z_sub [] rfl ?_
                exact hk1 M4 h
              · refine z_iload_n Z dX9_refusalOfMove_57 rfl 0 rfl ?_
                refine z_iload_n Z dX9_refusalOfMove_58 rfl 2 rfl ?_
                refine z_icmp_eq (tgt := 67) Z dX9_refusalOfMove_59 (by decide) h (fun h => ?_) (fun h => ?_)
                · refine z_sub [] rfl ?_
                  exact hk1 M4 h
                · refine z_sub [] rfl ?_
                  exact hk0 M4 h
      · refine z_bipush Z dX9_refusalOfMove_32 rfl ?_
        exact z_iret X hr hlk dX9_refusalOfMove_34 h
set_option maxRecDepth 100000 in
set_option maxHeartbeats 4000000 in
theorem c_X9_timeMoved {l : Launch} {D : va_G} {cI cZ : ClassId} {ad adK adV : Nat → Nat} {N : Nat} {v1 v2 : Int} {M M' : zMem} {r : Int} (h : Drum_timeMoved N v1 v2 M = some (r, M')) : z_Ct (wC cI cZ ad) D cI cZ adK adV l yX9_timeMoved cX9_timeMoved 3 (some .int) 4 [.ref (ad 0), .int (z_I v1), .int (z_I v2)] M M' (some (.int (z_I r))) := by
  unfold Drum_timeMoved at h
  refine z_entry (own := RX9) rfl (by decide) (Nat.le_of_ble_eq_true rfl) ?_
  intro p e s m args below meth c R A X hr hlk
  have Z := X.1
  refine z_sub (lv' := [(0, .ref (ad 0)), (1, .int (z_I v1)), (2, .int (z_I v2))]) [0, 1, 2] rfl ?_
  refine z_aload_n Z dX9_timeMoved_0 rfl 0 rfl ?_
  refine gC_X9_49_0 X dX9_timeMoved_1 ?_
  refine z_aload_n Z dX9_timeMoved_4 rfl 0 rfl ?_
  refine gC_X9_78_0 X dX9_timeMoved_5 ?_
  refine z_aload_n Z dX9_timeMoved_8 rfl 0 rfl ?_
  refine gC_X9_42_0 X dX9_timeMoved_9 ?_
  refine gC_X9_132_19 X dX9_timeMoved_12 ?_
  obtain ⟨u_, M1, hf, h⟩ := z_cld h
  refine z_callVv (Wd := wC cI cZ ad) X (c_X1_aim (Or.inl rfl) hf) ml_X9_277 yd_X1_aim yw_X1_aim (by omega) (by decide) (rC_41 X) rfl rfl (Nat.le_of_ble_eq_true rfl) ⟨Nat.zero_le _, Nat.zero_le _⟩ dX9_timeMoved_15 ?_
  refine z_aload_n Z dX9_timeMoved_18 rfl 0 rfl ?_
  refine gC_X9_49_0 X dX9_timeMoved_19 ?_
  refine z_iload_n Z dX9_timeMoved_22 rfl 1 rfl ?_
  refine z_iload_n Z dX9_timeMoved_23 rfl 2 rfl ?_
  refine z_aload_n Z dX9_timeMoved_24 rfl 0 rfl ?_
  refine gC_X9_42_0 X dX9_timeMoved_25 ?_
  refine gC_X9_132_19 X dX9_timeMoved_28 ?_
  obtain ⟨u_1, M2, hf1, h⟩ := z_cld h
  refine z_callVv (Wd := wC cI cZ ad) X (c_X1_aimItem hf1) ml_X9_281 yd_X1_aimItem yw_X1_aimItem (by omega) (by decide) (rC_41 X) rfl rfl (Nat.le_of_ble_eq_true rfl) ⟨Nat.zero_le _, Nat.zero_le _⟩ dX9_timeMoved_31 ?_
  refine z_aload_n Z dX9_timeMoved_34 rfl 0 rfl ?_
  refine gC_X9_49_0 X dX9_timeMoved_35 ?_
  refine z_aload_n Z dX9_timeMoved_38 rfl 0 rfl ?_
  refine gC_X9_42_0 X dX9_timeMoved_39 ?_
  refine gC_X9_129_19 X dX9_timeMoved_42 ?_
  refine z_iconst Z dX9_timeMoved_45 ?_
  obtain ⟨r_, M3, hf2, h⟩ := z_cld h
  refine z_callVi (Wd := wC cI cZ ad) X (c_X1_walk hf2) ml_X9_285 yd_X1_walk yw_X1_walk (by omega) (by decide) (rC_41 X) rfl rfl (Nat.le_of_ble_eq_true rfl) ⟨Nat.zero_le _, Nat.zero_le _⟩ dX9_timeMoved_46 ?_
  exact z_iret X hr hlk dX9_timeMoved_49 h
set_option maxRecDepth 100000 in
set_option maxHeartbeats 4000000 in
theorem c_X9_moved {l : Launch} {D : va_G} {cI cZ : ClassId} {ad adK adV : Nat → Nat} {N : Nat} {v1 v2 : Int} {M M' : zMem} {r : Int} (h : Drum_moved N v1 v2 M = some (r, M')) : z_Ct (wC cI cZ ad) D cI cZ adK adV l yX9_moved cX9_moved 4 (some .int) 5 [.ref (ad 0), .int (z_I v1), .int (z_I v2)] M M' (some (.int (z_I r))) := by
  unfold Drum_moved at h
  refine z_entry (own := RX9) rfl (by decide) (Nat.le_of_ble_eq_true rfl) ?_
  intro p e s m args below meth c R A X hr hlk
  have Z := X.1
  refine z_sub (lv' := [(0, .ref (ad 0)), (1, .int (z_I v1)), (2, .int (z_I v2))]) [0, 1, 2] rfl ?_
  refine z_aload_n Z dX9_moved_0 rfl 0 rfl ?_
  refine z_iload_n Z dX9_moved_1 rfl 1 rfl ?_
  refine z_iload_n Z dX9_moved_2 rfl 2 rfl ?_
  obtain ⟨r_, M1, hf, h⟩ := z_cld h
  refine z_callVi (Wd := wC cI cZ ad) X (c_X9_refusalOfMove hf) ml_X9_224 yd_X9_refusalOfMove yw_X9_refusalOfMove (by omega) (by decide) (rC_0 X) rfl rfl (Nat.le_of_ble_eq_true rfl) ⟨Nat.zero_le _, Nat.zero_le _⟩ dX9_moved_3 ?_
  refine z_istore_n (lv' := [(3, .int (z_I r_)), (0, .ref (ad 0)), (1, .int (z_I v1)), (2, .int (z_I v2))]) Z dX9_moved_6 rfl (by decide) rfl ?_
  refine z_iload_n Z dX9_moved_7 rfl 0 rfl ?_
  refine z_if_eq (tgt := 15) Z dX9_moved_8 (by decide) h (fun h => ?_) (fun h => ?_)
  · refine z_aload_n Z dX9_moved_15 rfl 1 rfl ?_
    refine z_iload_n Z dX9_moved_16 rfl 2 rfl ?_
    refine z_iload_n Z dX9_moved_17 rfl 3 rfl ?_
    obtain ⟨r_1, M2, hf1, h⟩ := z_cld h
    refine z_callVi (Wd := wC cI cZ ad) X (c_X9_timeMoved hf1) ml_X9_228 yd_X9_timeMoved yw_X9_timeMoved (by omega) (by decide) (rC_0 X) rfl rfl (Nat.le_of_ble_eq_true rfl) ⟨Nat.zero_le _, Nat.zero_le _⟩ dX9_moved_18 ?_
    exact z_iret X hr hlk dX9_moved_21 h
  · refine z_iload_n Z dX9_moved_11 rfl 0 rfl ?_
    refine z_goto (tgt := 21) Z dX9_moved_12 (by decide) ?_
    exact z_iret X hr hlk dX9_moved_21 h
set_option maxRecDepth 100000 in
set_option maxHeartbeats 4000000 in
theorem c_X9_refusalOfExchange {l : Launch} {D : va_G} {cI cZ : ClassId} {ad adK adV : Nat → Nat} {v1 v2 : Int} {M M' : zMem} {r : Int} (h : Drum_refusalOfExchange v1 v2 M = some (r, M')) : z_Ct (wC cI cZ ad) D cI cZ adK adV l yX9_refusalOfExchange cX9_refusalOfExchange 3 (some .int) 3 [.ref (ad 0), .int (z_I v1), .int (z_I v2)] M M' (some (.int (z_I r))) := by
  unfold Drum_refusalOfExchange at h
  refine z_entry (own := RX9) rfl (by decide) (Nat.le_of_ble_eq_true rfl) ?_
  intro p e s m args below meth c R A X hr hlk
  have Z := X.1
  refine z_sub (lv' := [(0, .ref (ad 0)), (1, .int (z_I v1)), (2, .int (z_I v2))]) [0, 1, 2] rfl ?_
  refine z_aload_n Z dX9_refusalOfExchange_0 rfl 0 rfl ?_
  refine gC_X9_42_0 X dX9_refusalOfExchange_1 ?_
  refine gC_X9_141_19 X dX9_refusalOfExchange_4 ?_
  refine z_if_eq (tgt := 37) Z dX9_refusalOfExchange_7 (by decide) h (fun h => ?_) (fun h => ?_)
  · refine z_bipush Z dX9_refusalOfExchange_37 rfl ?_
    exact z_iret X hr hlk dX9_refusalOfExchange_39 h
  · refine z_iload_n Z dX9_refusalOfExchange_10 rfl 1 rfl ?_
    refine z_iload_n Z dX9_refusalOfExchange_11 rfl 2 rfl ?_
    refine z_icmp_eq (tgt := 37) Z dX9_refusalOfExchange_12 (by decide) h (fun h => ?_) (fun h => ?_)
    · refine z_bipush Z dX9_refusalOfExchange_37 rfl ?_
      exact z_iret X hr hlk dX9_refusalOfExchange_39 h
    · refine z_aload_n Z dX9_refusalOfExchange_15 rfl 0 rfl ?_
      refine gC_X9_42_0 X dX9_refusalOfExchange_16 ?_
      refine z_iload_n Z dX9_refusalOfExchange_19 rfl 1 rfl ?_
      obtain ⟨r_, M1, hf, h⟩ := z_cld h
      refine z_callVi (Wd := wC cI cZ ad) X (c_X3_isItem (Or.inr (rfl)) hf) ml_X9_148 yd_X3_isItem yw_X3_isItem (by omega) (by decide) (rC_19 X) rfl rfl (Nat.le_of_ble_eq_true rfl) ⟨Nat.zero_le _, Nat.zero_le _⟩ dX9_refusalOfExchange_20 ?_
      refine z_if_eq (tgt := 37) Z dX9_refusalOfExchange_23 (by decide) h (fun h => ?_) (fun h => ?_)
      · refine z_bipush Z dX9_refusalOfExchange_37 rfl ?_
        exact z_iret X hr hlk dX9_refusalOfExchange_39 h
      · refine z_aload_n Z dX9_refusalOfExchange_26 rfl 0 rfl ?_
        refine gC_X9_42_0 X dX9_refusalOfExchange_27 ?_
        refine z_iload_n Z dX9_refusalOfExchange_30 rfl 2 rfl ?_
        obtain ⟨r_1, M2, hf1, h⟩ := z_cld h
        refine z_callVi (Wd := wC cI cZ ad) X (c_X3_isItem (Or.inr (rfl)) hf1) ml_X9_148 yd_X3_isItem yw_X3_isItem (by omega) (by decide) (rC_19 X) rfl rfl (Nat.le_of_ble_eq_true rfl) ⟨Nat.zero_le _, Nat.zero_le _⟩ dX9_refusalOfExchange_31 ?_
        refine z_if_ne (tgt := 40) Z dX9_refusalOfExchange_34 (by decide) h (fun h => ?_) (fun h => ?_)
        · refine z_aload_n Z dX9_refusalOfExchange_40 rfl 0 rfl ?_
          refine gC_X9_42_0 X dX9_refusalOfExchange_41 ?_
          refine z_iload_n Z dX9_refusalOfExchange_44 rfl 1 rfl ?_
          obtain ⟨r_2, M3, hf2, h⟩ := z_cld h
          refine z_callVi (Wd := wC cI cZ ad) X (c_X3_isFixed hf2) ml_X9_155 yd_X3_isFixed yw_X3_isFixed (by omega) (by decide) (rC_19 X) rfl rfl (Nat.le_of_ble_eq_true rfl) ⟨Nat.zero_le _, Nat.zero_le _⟩ dX9_refusalOfExchange_45 ?_
          refine z_jnr (P := fun (k : zMem → zO) => ∀ (M4 : zMem), k M4 = some (r, M') → z_V p l e R s m args below meth c D A cI cZ 3 (wC cI cZ ad) M' (some (.int (z_I r))) M4 62 [] []) h ?_ ?_
          · intro M4 h
            refine z_bipush Z dX9_refusalOfExchange_62 rfl ?_
            refine z_goto (tgt := 68) Z dX9_refusalOfExchange_64 (by decide) ?_
            exact z_iret X hr hlk dX9_refusalOfExchange_68 h
          · intro k0 hk0 h
            refine z_if_ne (tgt := 62) Z dX9_refusalOfExchange_48 (by decide) h (fun h => ?_) (fun h => ?_)
            · refine z_sub [] rfl ?_
              exact hk0 M3 h
            · refine z_aload_n Z dX9_refusalOfExchange_51 rfl 0 rfl ?_
              refine gC_X9_42_0 X dX9_refusalOfExchange_52 ?_
              refine z_iload_n Z dX9_refusalOfExchange_55 rfl 2 rfl ?_
              obtain ⟨r_3, M5, hf3, h⟩ := z_cld h
              refine z_callVi (Wd := wC cI cZ ad) X (c_X3_isFixed hf3) ml_X9_155 yd_X3_isFixed yw_X3_isFixed (by omega) (by decide) (rC_19 X) rfl rfl (Nat.le_of_ble_eq_true rfl) ⟨Nat.zero_le _, Nat.zero_le _⟩ dX9_refusalOfExchange_56 ?_
              refine z_if_eq (tgt := 67) Z dX9_refusalOfExchange_59 (by decide) h (fun h => ?_) (fun h => ?_)
              · refine z_iconst Z dX9_refusalOfExchange_67 ?_
                exact z_iret X hr hlk dX9_refusalOfExchange_68 h
              · refine z_sub [] rfl ?_
                exact hk0 M5 h
        · refine z_bipush Z dX9_refusalOfExchange_37 rfl ?_
          exact z_iret X hr hlk dX9_refusalOfExchange_39 h
set_option maxRecDepth 100000 in
set_option maxHeartbeats 4000000 in
theorem c_X9_timeExchanged {l : Launch} {D : va_G} {cI cZ : ClassId} {ad adK adV : Nat → Nat} {N : Nat} {v1 v2 : Int} {M M' : zMem} {r : Int} (h : Drum_timeExchanged N v1 v2 M = some (r, M')) : z_Ct (wC cI cZ ad) D cI cZ adK adV l yX9_timeExchanged cX9_timeExchanged 3 (some .int) 4 [.ref (ad 0), .int (z_I v1), .int (z_I v2)] M M' (some (.int (z_I r))) := by
  unfold Drum_timeExchanged at h
  refine z_entry (own := RX9) rfl (by decide) (Nat.le_of_ble_eq_true rfl) ?_
  intro p e s m args below meth c R A X hr hlk
  have Z := X.1
  refine z_sub (lv' := [(0, .ref (ad 0)), (1, .int (z_I v1)), (2, .int (z_I v2))]) [0, 1, 2] rfl ?_
  refine z_aload_n Z dX9_timeExchanged_0 rfl 0 rfl ?_
  refine gC_X9_49_0 X dX9_timeExchanged_1 ?_
  refine z_aload_n Z dX9_timeExchanged_4 rfl 0 rfl ?_
  refine gC_X9_78_0 X dX9_timeExchanged_5 ?_
  refine z_aload_n Z dX9_timeExchanged_8 rfl 0 rfl ?_
  refine gC_X9_42_0 X dX9_timeExchanged_9 ?_
  refine gC_X9_132_19 X dX9_timeExchanged_12 ?_
  obtain ⟨u_, M1, hf, h⟩ := z_cld h
  refine z_callVv (Wd := wC cI cZ ad) X (c_X1_aim (Or.inl rfl) hf) ml_X9_277 yd_X1_aim yw_X1_aim (by omega) (by decide) (rC_41 X) rfl rfl (Nat.le_of_ble_eq_true rfl) ⟨Nat.zero_le _, Nat.zero_le _⟩ dX9_timeExchanged_15 ?_
  refine z_aload_n Z dX9_timeExchanged_18 rfl 0 rfl ?_
  refine gC_X9_49_0 X dX9_timeExchanged_19 ?_
  refine z_iload_n Z dX9_timeExchanged_22 rfl 1 rfl ?_
  refine z_aload_n Z dX9_timeExchanged_23 rfl 0 rfl ?_
  refine gC_X9_78_0 X dX9_timeExchanged_24 ?_
  refine z_iload_n Z dX9_timeExchanged_27 rfl 2 rfl ?_
  refine ldC_57 X dX9_timeExchanged_28 h (fun x0 h => ?_)
  refine z_aload_n Z dX9_timeExchanged_29 rfl 0 rfl ?_
  refine gC_X9_42_0 X dX9_timeExchanged_30 ?_
  refine gC_X9_132_19 X dX9_timeExchanged_33 ?_
  obtain ⟨u_1, M2, hf1, h⟩ := z_cld h
  refine z_callVv (Wd := wC cI cZ ad) X (c_X1_aimItem hf1) ml_X9_281 yd_X1_aimItem yw_X1_aimItem (by omega) (by decide) (rC_41 X) rfl rfl (Nat.le_of_ble_eq_true rfl) ⟨Nat.zero_le _, Nat.zero_le _⟩ dX9_timeExchanged_36 ?_
  refine z_aload_n Z dX9_timeExchanged_39 rfl 0 rfl ?_
  refine gC_X9_49_0 X dX9_timeExchanged_40 ?_
  refine z_iload_n Z dX9_timeExchanged_43 rfl 2 rfl ?_
  refine z_aload_n Z dX9_timeExchanged_44 rfl 0 rfl ?_
  refine gC_X9_78_0 X dX9_timeExchanged_45 ?_
  refine z_iload_n Z dX9_timeExchanged_48 rfl 1 rfl ?_
  refine ldC_57 X dX9_timeExchanged_49 h (fun x1 h => ?_)
  refine z_aload_n Z dX9_timeExchanged_50 rfl 0 rfl ?_
  refine gC_X9_42_0 X dX9_timeExchanged_51 ?_
  refine gC_X9_132_19 X dX9_timeExchanged_54 ?_
  obtain ⟨u_2, M3, hf2, h⟩ := z_cld h
  refine z_callVv (Wd := wC cI cZ ad) X (c_X1_aimItem hf2) ml_X9_281 yd_X1_aimItem yw_X1_aimItem (by omega) (by decide) (rC_41 X) rfl rfl (Nat.le_of_ble_eq_true rfl) ⟨Nat.zero_le _, Nat.zero_le _⟩ dX9_timeExchanged_57 ?_
  refine z_aload_n Z dX9_timeExchanged_60 rfl 0 rfl ?_
  refine gC_X9_49_0 X dX9_timeExchanged_61 ?_
  refine z_aload_n Z dX9_timeExchanged_64 rfl 0 rfl ?_
  refine gC_X9_42_0 X dX9_timeExchanged_65 ?_
  refine gC_X9_129_19 X dX9_timeExchanged_68 ?_
  refine z_iconst Z dX9_timeExchanged_71 ?_
  obtain ⟨r_, M4, hf3, h⟩ := z_cld h
  refine z_callVi (Wd := wC cI cZ ad) X (c_X1_walk hf3) ml_X9_285 yd_X1_walk yw_X1_walk (by omega) (by decide) (rC_41 X) rfl rfl (Nat.le_of_ble_eq_true rfl) ⟨Nat.zero_le _, Nat.zero_le _⟩ dX9_timeExchanged_72 ?_
  exact z_iret X hr hlk dX9_timeExchanged_75 h
set_option maxRecDepth 100000 in
set_option maxHeartbeats 4000000 in
theorem c_X9_swapped {l : Launch} {D : va_G} {cI cZ : ClassId} {ad adK adV : Nat → Nat} {N : Nat} {v1 v2 : Int} {M M' : zMem} {r : Int} (h : Drum_swapped N v1 v2 M = some (r, M')) : z_Ct (wC cI cZ ad) D cI cZ adK adV l yX9_swapped cX9_swapped 4 (some .int) 5 [.ref (ad 0), .int (z_I v1), .int (z_I v2)] M M' (some (.int (z_I r))) := by
  unfold Drum_swapped at h
  refine z_entry (own := RX9) rfl (by decide) (Nat.le_of_ble_eq_true rfl) ?_
  intro p e s m args below meth c R A X hr hlk
  have Z := X.1
  refine z_sub (lv' := [(0, .ref (ad 0)), (1, .int (z_I v1)), (2, .int (z_I v2))]) [0, 1, 2] rfl ?_
  refine z_aload_n Z dX9_swapped_0 rfl 0 rfl ?_
  refine z_iload_n Z dX9_swapped_1 rfl 1 rfl ?_
  refine z_iload_n Z dX9_swapped_2 rfl 2 rfl ?_
  obtain ⟨r_, M1, hf, h⟩ := z_cld h
  refine z_callVi (Wd := wC cI cZ ad) X (c_X9_refusalOfExchange hf) ml_X9_231 yd_X9_refusalOfExchange yw_X9_refusalOfExchange (by omega) (by decide) (rC_0 X) rfl rfl (Nat.le_of_ble_eq_true rfl) ⟨Nat.zero_le _, Nat.zero_le _⟩ dX9_swapped_3 ?_
  refine z_istore_n (lv' := [(3, .int (z_I r_)), (0, .ref (ad 0)), (1, .int (z_I v1)), (2, .int (z_I v2))]) Z dX9_swapped_6 rfl (by decide) rfl ?_
  refine z_iload_n Z dX9_swapped_7 rfl 0 rfl ?_
  refine z_if_eq (tgt := 15) Z dX9_swapped_8 (by decide) h (fun h => ?_) (fun h => ?_)
  · refine z_aload_n Z dX9_swapped_15 rfl 1 rfl ?_
    refine z_iload_n Z dX9_swapped_16 rfl 2 rfl ?_
    refine z_iload_n Z dX9_swapped_17 rfl 3 rfl ?_
    obtain ⟨r_1, M2, hf1, h⟩ := z_cld h
    refine z_callVi (Wd := wC cI cZ ad) X (c_X9_timeExchanged hf1) ml_X9_234 yd_X9_timeExchanged yw_X9_timeExchanged (by omega) (by decide) (rC_0 X) rfl rfl (Nat.le_of_ble_eq_true rfl) ⟨Nat.zero_le _, Nat.zero_le _⟩ dX9_swapped_18 ?_
    exact z_iret X hr hlk dX9_swapped_21 h
  · refine z_iload_n Z dX9_swapped_11 rfl 0 rfl ?_
    refine z_goto (tgt := 21) Z dX9_swapped_12 (by decide) ?_
    exact z_iret X hr hlk dX9_swapped_21 h
set_option maxRecDepth 100000 in
set_option maxHeartbeats 4000000 in
theorem c_X9_isMove {l : Launch} {D : va_G} {cI cZ : ClassId} {ad adK adV : Nat → Nat} {N : Nat} {v1 v2 : Int} {M M' : zMem} {r : Int} (h : Drum_isMove N v1 v2 M = some (r, M')) : z_Ct (wC cI cZ ad) D cI cZ adK adV l yX9_isMove cX9_isMove 3 (some .boolean) 3 [.ref (ad 0), .int (z_I v1), .int (z_I v2)] M M' (some (.int (z_I r))) := by
  unfold Drum_isMove at h
  refine z_entry (own := RX9) rfl (by decide) (Nat.le_of_ble_eq_true rfl) ?_
  intro p e s m args below meth c R A X hr hlk
  have Z := X.1
  refine z_sub (lv' := [(0, .ref (ad 0)), (1, .int (z_I v1)), (2, .int (z_I v2))]) [0, 1, 2] rfl ?_
  refine z_aload_n Z dX9_isMove_0 rfl 0 rfl ?_
  refine gC_X9_42_0 X dX9_isMove_1 ?_
  refine z_iload_n Z dX9_isMove_4 rfl 1 rfl ?_
  obtain ⟨r_, M1, hf, h⟩ := z_cld h
  refine z_callVi (Wd := wC cI cZ ad) X (c_X3_isFixed hf) ml_X9_155 yd_X3_isFixed yw_X3_isFixed (by omega) (by decide) (rC_19 X) rfl rfl (Nat.le_of_ble_eq_true rfl) ⟨Nat.zero_le _, Nat.zero_le _⟩ dX9_isMove_5 ?_
  refine z_jnr (P := fun (k : zMem → zO) => ∀ (M2 : zMem), k M2 = some (r, M') → z_V p l e R s m args below meth c D A cI cZ 3 (wC cI cZ ad) M' (some (.int (z_I r))) M2 24 [] []) h ?_ ?_
  · intro M2 h
    refine z_iconst Z dX9_isMove_24 ?_
    exact z_zret X hr hlk (Or.inl rfl) dX9_isMove_25 h
  · intro k0 hk0 h
    refine z_if_ne (tgt := 24) Z dX9_isMove_8 (by decide) h (fun h => ?_) (fun h => ?_)
    · refine z_sub [] rfl ?_
      exact hk0 M1 h
    · refine z_aload_n Z dX9_isMove_11 rfl 0 rfl ?_
      refine z_iload_n Z dX9_isMove_12 rfl 2 rfl ?_
      obtain ⟨r_1, M3, hf1, h⟩ := z_cld h
      refine z_callVi (Wd := wC cI cZ ad) X (c_X9_itemAt hf1) ml_X9_164 yd_X9_itemAt yw_X9_itemAt (by omega) (by decide) (rC_0 X) rfl rfl (Nat.le_of_ble_eq_true rfl) ⟨Nat.zero_le _, Nat.zero_le _⟩ dX9_isMove_13 ?_
      refine z_iconst Z dX9_isMove_16 ?_
      refine z_icmp_ne (tgt := 24) Z dX9_isMove_17 (by decide) h (fun h => ?_) (fun h => ?_)
      · refine z_sub [] rfl ?_
        exact hk0 M3 h
      · refine z_iconst Z dX9_isMove_20 ?_
        refine z_goto (tgt := 25) Z dX9_isMove_21 (by decide) ?_
        exact z_zret X hr hlk (Or.inr rfl) dX9_isMove_25 h
set_option maxRecDepth 100000 in
set_option maxHeartbeats 4000000 in
theorem wDrum_best_36 {p : Program} {l : Launch} {e : Env} {R : Room} {s : State} {m : MethodId} {args : Array Value} {below : List Frame} {meth : Method} {c : Code} {D : va_G} {A : Nat → Prop} {cI cZ : ClassId} {adK adV ad : Nat → Nat} {r : Int} {M' : zMem} (X : z_X p m c cX9_best 6 s args RX9 R 6 D cI cZ A adK adV) (hr : meth.sig.returnType = some .int) (hlk : meth.locks = false) (N : Nat) (v3 : Int) (k : Int → Int → zMem → zO) (hk : ∀ (y1 y2 : Int) (M : zMem), k y1 y2 M = some (r, M') → z_V p l e R s m args below meth c D A cI cZ 6 (wC cI cZ ad) M' (some (.int (z_I r))) M 93 [(0, .ref (ad 0)), (1, .int (z_I y1)), (2, .int (z_I y2)), (3, .int (z_I v3))] []) : ∀ (n : Nat) (v1 v2 v4 : Int) (M : zMem), Drum_best_36 N v3 k n v1 v2 v4 M = some (r, M') → z_V p l e R s m args below meth c D A cI cZ 6 (wC cI cZ ad) M' (some (.int (z_I r))) M 36 [(0, .ref (ad 0)), (1, .int (z_I v1)), (2, .int (z_I v2)), (3, .int (z_I v3)), (4, .int (z_I v4))] [] := by
  have Z := X.1
  intro n
  induction n with
  | zero =>
    intro v1 v2 v4 M h
    rw [Drum_best_36] at h
    cases h
  | succ n ih =>
    intro v1 v2 v4 M h
    rw [Drum_best_36] at h
    refine z_iload Z dX9_best_36 4 rfl ?_
    refine z_aload_n Z dX9_best_38 rfl 0 rfl ?_
    refine gC_X9_42_0 X dX9_best_39 ?_
    obtain ⟨r_, M1, hf, h⟩ := z_cld h
    refine z_callVi (Wd := wC cI cZ ad) X (c_X3_addresses (Or.inr (rfl)) hf) ml_X9_237 yd_X3_addresses yw_X3_addresses (by omega) (by decide) (rC_19 X) rfl rfl (Nat.le_of_ble_eq_true rfl) ⟨Nat.zero_le _, Nat.zero_le _⟩ dX9_best_42 ?_
    refine z_icmp_ge (tgt := 93) Z dX9_best_45 (by decide) h (fun h => ?_) (fun h => ?_)
    · refine z_sub [0, 1, 2, 3] rfl ?_
      exact hk v1 v2 M1 h
    · refine z_aload_n Z dX9_best_48 rfl 0 rfl ?_
      refine z_iload_n Z dX9_best_49 rfl 3 rfl ?_
      refine z_iload Z dX9_best_50 4 rfl ?_
      obtain ⟨r_1, M2, hf1, h⟩ := z_cld h
      refine z_callVi (Wd := wC cI cZ ad) X (c_X9_isMove hf1) ml_X9_240 yd_X9_isMove yw_X9_isMove (by omega) (by decide) (rC_0 X) rfl rfl (Nat.le_of_ble_eq_true rfl) ⟨Nat.zero_le _, Nat.zero_le _⟩ dX9_best_52 ?_
      refine z_jnr (P := fun (k : Int → Int → zMem → zO) => ∀ (v1_ v2_ : Int) (M3 : zMem), k v1_ v2_ M3 = some (r, M') → z_V p l e R s m args below meth c D A cI cZ 6 (wC cI cZ ad) M' (some (.int (z_I r))) M3 87 [(0, .ref (ad 0)), (1, .int (z_I v1_)), (2, .int (z_I v2_)), (3, .int (z_I v3)), (4, .int (z_I v4))] []) h ?_ ?_
      · intro v1_ v2_ M3 h
        refine z_iincn Z (fun z => [(4, .int (z_I z)), (0, .ref (ad 0)), (1, .int (z_I v1_)), (2, .int (z_I v2_)), (3, .int (z_I v3))]) dX9_best_87 (k := 4) rfl (by decide) (fun _ => rfl) h (fun v4_ h => ?_)
        refine z_goto (tgt := 36) Z dX9_best_90 (by decide) ?_
        refine z_sub [1, 2, 3, 4, 0] rfl ?_
        exact ih v1_ v2_ v4_ M3 h
      · intro k1 hk1 h
        refine z_if_ne (tgt := 61) Z dX9_best_55 (by decide) h (fun h => ?_) (fun h => ?_)
        · refine z_aload_n Z dX9_best_61 rfl 0 rfl ?_
          refine z_iload_n Z dX9_best_62 rfl 3 rfl ?_
          refine z_iload Z dX9_best_63 4 rfl ?_
          obtain ⟨r_2, M4, hf2, h⟩ := z_cld h
          refine z_callVi (Wd := wC cI cZ ad) X (c_X9_timeMoved hf2) ml_X9_228 yd_X9_timeMoved yw_X9_timeMoved (by omega) (by decide) (rC_0 X) rfl rfl (Nat.le_of_ble_eq_true rfl) ⟨Nat.zero_le _, Nat.zero_le _⟩ dX9_best_65 ?_
          refine z_istore (lv' := [(5, .int (z_I r_2)), (0, .ref (ad 0)), (1, .int (z_I v1)), (2, .int (z_I v2)), (3, .int (z_I v3)), (4, .int (z_I v4))]) Z dX9_best_68 (by decide) rfl ?_
          refine z_iload Z dX9_best_70 0 rfl ?_
          refine z_iload_n Z dX9_best_72 rfl 2 rfl ?_
          refine z_icmp_ge (tgt := 87) Z dX9_best_73 (by decide) h (fun h => ?_) (fun h => ?_)
          · refine z_sub [1, 2, 3, 4, 5] rfl ?_
            exact hk1 v1 v2 M4 h
          · refine z_iload Z dX9_best_76 0 rfl ?_
            refine z_istore_n (lv' := [(1, .int (z_I r_2)), (5, .int (z_I r_2)), (0, .ref (ad 0)), (2, .int (z_I v2)), (3, .int (z_I v3)), (4, .int (z_I v4))]) Z dX9_best_78 rfl (by decide) rfl ?_
            refine z_bipush Z dX9_best_79 rfl ?_
            refine z_iload_n Z dX9_best_81 rfl 4 rfl ?_
            refine z_imul Z dX9_best_82 ?_
            refine z_iload Z dX9_best_83 5 rfl ?_
            refine z_iadd Z dX9_best_85 ?_
            refine z_nmI h (fun v2_1 h => ?_)
            refine z_istore_n (lv' := [(2, .int (z_I v2_1)), (1, .int (z_I r_2)), (5, .int (z_I r_2)), (0, .ref (ad 0)), (3, .int (z_I v3)), (4, .int (z_I v4))]) Z dX9_best_86 rfl (by decide) rfl ?_
            refine z_sub [3, 1, 0, 4, 5] rfl ?_
            exact hk1 r_2 v2_1 M4 h
        · refine z_goto (tgt := 87) Z dX9_best_58 (by decide) ?_
          refine z_sub [0, 1, 2, 3, 4] rfl ?_
          exact hk1 v1 v2 M2 h
set_option maxRecDepth 100000 in
set_option maxHeartbeats 4000000 in
theorem wDrum_best_22 {p : Program} {l : Launch} {e : Env} {R : Room} {s : State} {m : MethodId} {args : Array Value} {below : List Frame} {meth : Method} {c : Code} {D : va_G} {A : Nat → Prop} {cI cZ : ClassId} {adK adV ad : Nat → Nat} {r : Int} {M' : zMem} (X : z_X p m c cX9_best 6 s args RX9 R 6 D cI cZ A adK adV) (hr : meth.sig.returnType = some .int) (hlk : meth.locks = false) (N : Nat) (k : Int → zMem → zO) (hk : ∀ (y2 : Int) (M : zMem), k y2 M = some (r, M') → z_V p l e R s m args below meth c D A cI cZ 6 (wC cI cZ ad) M' (some (.int (z_I r))) M 99 [(2, .int (z_I y2))] []) : ∀ (n : Nat) (v1 v2 v3 : Int) (M : zMem), Drum_best_22 N k n v1 v2 v3 M = some (r, M') → z_V p l e R s m args below meth c D A cI cZ 6 (wC cI cZ ad) M' (some (.int (z_I r))) M 22 [(0, .ref (ad 0)), (1, .int (z_I v1)), (2, .int (z_I v2)), (3, .int (z_I v3))] [] := by
  have Z := X.1
  intro n
  induction n with
  | zero =>
    intro v1 v2 v3 M h
    rw [Drum_best_22] at h
    cases h
  | succ n ih =>
    intro v1 v2 v3 M h
    rw [Drum_best_22] at h
    refine z_iload_n Z dX9_best_22 rfl 3 rfl ?_
    refine z_aload_n Z dX9_best_23 rfl 0 rfl ?_
    refine gC_X9_42_0 X dX9_best_24 ?_
    refine gC_X9_207_19 X dX9_best_27 ?_
    refine z_icmp_ge (tgt := 99) Z dX9_best_30 (by decide) h (fun h => ?_) (fun h => ?_)
    · refine z_sub [2] rfl ?_
      exact hk v2 M h
    · refine z_iconst Z dX9_best_33 ?_
      refine z_istore (lv' := [(4, .int (z_I 0)), (0, .ref (ad 0)), (1, .int (z_I v1)), (2, .int (z_I v2)), (3, .int (z_I v3))]) Z dX9_best_34 (by decide) rfl ?_
      refine z_jnr (P := fun (k : Int → Int → zMem → zO) => ∀ (v1_ v2_ : Int) (M1 : zMem), k v1_ v2_ M1 = some (r, M') → z_V p l e R s m args below meth c D A cI cZ 6 (wC cI cZ ad) M' (some (.int (z_I r))) M1 93 [(0, .ref (ad 0)), (1, .int (z_I v1_)), (2, .int (z_I v2_)), (3, .int (z_I v3))] []) h ?_ ?_
      · intro v1_ v2_ M1 h
        refine z_iincn Z (fun z => [(3, .int (z_I z)), (0, .ref (ad 0)), (1, .int (z_I v1_)), (2, .int (z_I v2_))]) dX9_best_93 (k := 3) rfl (by decide) (fun _ => rfl) h (fun v3_ h => ?_)
        refine z_goto (tgt := 22) Z dX9_best_96 (by decide) ?_
        refine z_sub [1, 2, 3, 0] rfl ?_
        exact ih v1_ v2_ v3_ M1 h
      · intro k1 hk1 h
        refine z_sub [1, 2, 3, 4, 0] rfl ?_
        exact wDrum_best_36 X hr hlk N v3 k1 hk1 N v1 v2 0 M h
set_option maxRecDepth 100000 in
set_option maxHeartbeats 4000000 in
theorem c_X9_best {l : Launch} {D : va_G} {cI cZ : ClassId} {ad adK adV : Nat → Nat} {N : Nat} {M M' : zMem} {r : Int} (h : Drum_best N M = some (r, M')) : z_Ct (wC cI cZ ad) D cI cZ adK adV l yX9_best cX9_best 6 (some .int) 6 [.ref (ad 0)] M M' (some (.int (z_I r))) := by
  unfold Drum_best at h
  refine z_entry (own := RX9) rfl (by decide) (Nat.le_of_ble_eq_true rfl) ?_
  intro p e s m args below meth c R A X hr hlk
  have Z := X.1
  refine z_sub (lv' := [(0, .ref (ad 0))]) [0] rfl ?_
  refine z_aload_n Z dX9_best_0 rfl 0 rfl ?_
  refine gC_X9_42_0 X dX9_best_1 ?_
  refine gC_X9_141_19 X dX9_best_4 ?_
  refine z_if_ne (tgt := 13) Z dX9_best_7 (by decide) h (fun h => ?_) (fun h => ?_)
  · refine z_aload_n Z dX9_best_13 rfl 0 rfl ?_
    obtain ⟨r_, M1, hf, h⟩ := z_cld h
    refine z_callVi (Wd := wC cI cZ ad) X (c_X9_timeNow hf) ml_X9_198 yd_X9_timeNow yw_X9_timeNow (by omega) (by decide) (rC_0 X) rfl rfl (Nat.le_of_ble_eq_true rfl) ⟨Nat.zero_le _, Nat.zero_le _⟩ dX9_best_14 ?_
    refine z_istore_n (lv' := [(1, .int (z_I r_)), (0, .ref (ad 0))]) Z dX9_best_17 rfl (by decide) rfl ?_
    refine z_iconst Z dX9_best_18 ?_
    refine z_istore_n (lv' := [(2, .int (z_I (-1))), (1, .int (z_I r_)), (0, .ref (ad 0))]) Z dX9_best_19 rfl (by decide) rfl ?_
    refine z_iconst Z dX9_best_20 ?_
    refine z_istore_n (lv' := [(3, .int (z_I 0)), (2, .int (z_I (-1))), (1, .int (z_I r_)), (0, .ref (ad 0))]) Z dX9_best_21 rfl (by decide) rfl ?_
    refine z_jnr (P := fun (k : Int → zMem → zO) => ∀ (v2_ : Int) (M2 : zMem), k v2_ M2 = some (r, M') → z_V p l e R s m args below meth c D A cI cZ 6 (wC cI cZ ad) M' (some (.int (z_I r))) M2 99 [(2, .int (z_I v2_))] []) h ?_ ?_
    · intro v2_ M2 h
      refine z_iload_n Z dX9_best_99 rfl 0 rfl ?_
      exact z_iret X hr hlk dX9_best_100 h
    · intro k0 hk0 h
      refine z_sub [3, 2, 1, 0] rfl ?_
      exact wDrum_best_22 X hr hlk N k0 hk0 N r_ (-1) 0 M1 h
  · refine z_bipush Z dX9_best_10 rfl ?_
    exact z_iret X hr hlk dX9_best_12 h
set_option maxRecDepth 100000 in
set_option maxHeartbeats 4000000 in
theorem wDrum_pair_38 {p : Program} {l : Launch} {e : Env} {R : Room} {s : State} {m : MethodId} {args : Array Value} {below : List Frame} {meth : Method} {c : Code} {D : va_G} {A : Nat → Prop} {cI cZ : ClassId} {adK adV ad : Nat → Nat} {r : Int} {M' : zMem} (X : z_X p m c cX9_pair 6 s args RX9 R 6 D cI cZ A adK adV) (hr : meth.sig.returnType = some .int) (hlk : meth.locks = false) (N : Nat) (v3 : Int) (k : Int → Int → zMem → zO) (hk : ∀ (y1 y2 : Int) (M : zMem), k y1 y2 M = some (r, M') → z_V p l e R s m args below meth c D A cI cZ 6 (wC cI cZ ad) M' (some (.int (z_I r))) M 108 [(0, .ref (ad 0)), (1, .int (z_I y1)), (2, .int (z_I y2)), (3, .int (z_I v3))] []) : ∀ (n : Nat) (v1 v2 v4 : Int) (M : zMem), Drum_pair_38 N v3 k n v1 v2 v4 M = some (r, M') → z_V p l e R s m args below meth c D A cI cZ 6 (wC cI cZ ad) M' (some (.int (z_I r))) M 38 [(0, .ref (ad 0)), (1, .int (z_I v1)), (2, .int (z_I v2)), (3, .int (z_I v3)), (4, .int (z_I v4))] [] := by
  have Z := X.1
  intro n
  induction n with
  | zero =>
    intro v1 v2 v4 M h
    rw [Drum_pair_38] at h
    cases h
  | succ n ih =>
    intro v1 v2 v4 M h
    rw [Drum_pair_38] at h
    refine z_iload Z dX9_pair_38 4 rfl ?_
    refine z_aload_n Z dX9_pair_40 rfl 0 rfl ?_
    refine gC_X9_42_0 X dX9_pair_41 ?_
    refine gC_X9_207_19 X dX9_pair_44 ?_
    refine z_icmp_ge (tgt := 108) Z dX9_pair_47 (by decide) h (fun h => ?_) (fun h => ?_)
    · refine z_sub [0, 1, 2, 3] rfl ?_
      exact hk v1 v2 M h
    · refine z_aload_n Z dX9_pair_50 rfl 0 rfl ?_
      refine gC_X9_42_0 X dX9_pair_51 ?_
      refine z_iload_n Z dX9_pair_54 rfl 3 rfl ?_
      obtain ⟨r_, M1, hf, h⟩ := z_cld h
      refine z_callVi (Wd := wC cI cZ ad) X (c_X3_isFixed hf) ml_X9_155 yd_X3_isFixed yw_X3_isFixed (by omega) (by decide) (rC_19 X) rfl rfl (Nat.le_of_ble_eq_true rfl) ⟨Nat.zero_le _, Nat.zero_le _⟩ dX9_pair_55 ?_
      refine z_jnr (P := fun (k : Int → Int → zMem → zO) => ∀ (v1_ v2_ : Int) (M2 : zMem), k v1_ v2_ M2 = some (r, M') → z_V p l e R s m args below meth c D A cI cZ 6 (wC cI cZ ad) M' (some (.int (z_I r))) M2 102 [(0, .ref (ad 0)), (1, .int (z_I v1_)), (2, .int (z_I v2_)), (3, .int (z_I v3)), (4, .int (z_I v4))] []) h ?_ ?_
      · intro v1_ v2_ M2 h
        refine z_iincn Z (fun z => [(4, .int (z_I z)), (0, .ref (ad 0)), (1, .int (z_I v1_)), (2, .int (z_I v2_)), (3, .int (z_I v3))]) dX9_pair_102 (k := 4) rfl (by decide) (fun _ => rfl) h (fun v4_ h => ?_)
        refine z_goto (tgt := 38) Z dX9_pair_105 (by decide) ?_
        refine z_sub [1, 2, 3, 4, 0] rfl ?_
        exact ih v1_ v2_ v4_ M2 h
      · intro k1 hk1 h
        refine z_if_ne (tgt := 102) Z dX9_pair_58 (by decide) h (fun h => ?_) (fun h => ?_)
        · refine z_sub [0, 1, 2, 3, 4] rfl ?_
          exact hk1 v1 v2 M1 h
        · refine z_aload_n Z dX9_pair_61 rfl 0 rfl ?_
          refine gC_X9_42_0 X dX9_pair_62 ?_
          refine z_iload Z dX9_pair_65 4 rfl ?_
          obtain ⟨r_1, M3, hf1, h⟩ := z_cld h
          refine z_callVi (Wd := wC cI cZ ad) X (c_X3_isFixed hf1) ml_X9_155 yd_X3_isFixed yw_X3_isFixed (by omega) (by decide) (rC_19 X) rfl rfl (Nat.le_of_ble_eq_true rfl) ⟨Nat.zero_le _, Nat.zero_le _⟩ dX9_pair_67 ?_
          refine z_if_eq (tgt := 76) Z dX9_pair_70 (by decide) h (fun h => ?_) (fun h => ?_)
          · refine z_aload_n Z dX9_pair_76 rfl 0 rfl ?_
            refine z_iload_n Z dX9_pair_77 rfl 3 rfl ?_
            refine z_iload Z dX9_pair_78 4 rfl ?_
            obtain ⟨r_2, M4, hf2, h⟩ := z_cld h
            refine z_callVi (Wd := wC cI cZ ad) X (c_X9_timeExchanged hf2) ml_X9_234 yd_X9_timeExchanged yw_X9_timeExchanged (by omega) (by decide) (rC_0 X) rfl rfl (Nat.le_of_ble_eq_true rfl) ⟨Nat.zero_le _, Nat.zero_le _⟩ dX9_pair_80 ?_
            refine z_istore (lv' := [(5, .int (z_I r_2)), (0, .ref (ad 0)), (1, .int (z_I v1)), (2, .int (z_I v2)), (3, .int (z_I v3)), (4, .int (z_I v4))]) Z dX9_pair_83 (by decide) rfl ?_
            refine z_iload Z dX9_pair_85 0 rfl ?_
            refine z_iload_n Z dX9_pair_87 rfl 2 rfl ?_
            refine z_icmp_ge (tgt := 102) Z dX9_pair_88 (by decide) h (fun h => ?_) (fun h => ?_)
            · refine z_sub [1, 2, 3, 4, 5] rfl ?_
              exact hk1 v1 v2 M4 h
            · refine z_iload Z dX9_pair_91 0 rfl ?_
              refine z_istore_n (lv' := [(1, .int (z_I r_2)), (5, .int (z_I r_2)), (0, .ref (ad 0)), (2, .int (z_I v2)), (3, .int (z_I v3)), (4, .int (z_I v4))]) Z dX9_pair_93 rfl (by decide) rfl ?_
              refine z_bipush Z dX9_pair_94 rfl ?_
              refine z_iload_n Z dX9_pair_96 rfl 4 rfl ?_
              refine z_imul Z dX9_pair_97 ?_
              refine z_iload Z dX9_pair_98 5 rfl ?_
              refine z_iadd Z dX9_pair_100 ?_
              refine z_nmI h (fun v2_1 h => ?_)
              refine z_istore_n (lv' := [(2, .int (z_I v2_1)), (1, .int (z_I r_2)), (5, .int (z_I r_2)), (0, .ref (ad 0)), (3, .int (z_I v3)), (4, .int (z_I v4))]) Z dX9_pair_101 rfl (by decide) rfl ?_
              refine z_sub [3, 1, 0, 4, 5] rfl ?_
              exact hk1 r_2 v2_1 M4 h
          · refine z_goto (tgt := 102) Z dX9_pair_73 (by decide) ?_
            refine z_sub [0, 1, 2, 3, 4] rfl ?_
            exact hk1 v1 v2 M3 h
set_option maxRecDepth 100000 in
set_option maxHeartbeats 4000000 in
theorem wDrum_pair_22 {p : Program} {l : Launch} {e : Env} {R : Room} {s : State} {m : MethodId} {args : Array Value} {below : List Frame} {meth : Method} {c : Code} {D : va_G} {A : Nat → Prop} {cI cZ : ClassId} {adK adV ad : Nat → Nat} {r : Int} {M' : zMem} (X : z_X p m c cX9_pair 6 s args RX9 R 6 D cI cZ A adK adV) (hr : meth.sig.returnType = some .int) (hlk : meth.locks = false) (N : Nat) (k : Int → zMem → zO) (hk : ∀ (y2 : Int) (M : zMem), k y2 M = some (r, M') → z_V p l e R s m args below meth c D A cI cZ 6 (wC cI cZ ad) M' (some (.int (z_I r))) M 114 [(2, .int (z_I y2))] []) : ∀ (n : Nat) (v1 v2 v3 : Int) (M : zMem), Drum_pair_22 N k n v1 v2 v3 M = some (r, M') → z_V p l e R s m args below meth c D A cI cZ 6 (wC cI cZ ad) M' (some (.int (z_I r))) M 22 [(0, .ref (ad 0)), (1, .int (z_I v1)), (2, .int (z_I v2)), (3, .int (z_I v3))] [] := by
  have Z := X.1
  intro n
  induction n with
  | zero =>
    intro v1 v2 v3 M h
    rw [Drum_pair_22] at h
    cases h
  | succ n ih =>
    intro v1 v2 v3 M h
    rw [Drum_pair_22] at h
    refine z_iload_n Z dX9_pair_22 rfl 3 rfl ?_
    refine z_aload_n Z dX9_pair_23 rfl 0 rfl ?_
    refine gC_X9_42_0 X dX9_pair_24 ?_
    refine gC_X9_207_19 X dX9_pair_27 ?_
    refine z_icmp_ge (tgt := 114) Z dX9_pair_30 (by decide) h (fun h => ?_) (fun h => ?_)
    · refine z_sub [2] rfl ?_
      exact hk v2 M h
    · refine z_iload_n Z dX9_pair_33 rfl 3 rfl ?_
      refine z_iconst Z dX9_pair_34 ?_
      refine z_iadd Z dX9_pair_35 ?_
      refine z_nmI h (fun v4_ h => ?_)
      refine z_istore (lv' := [(4, .int (z_I v4_)), (0, .ref (ad 0)), (1, .int (z_I v1)), (2, .int (z_I v2)), (3, .int (z_I v3))]) Z dX9_pair_36 (by decide) rfl ?_
      refine z_jnr (P := fun (k : Int → Int → zMem → zO) => ∀ (v1_ v2_ : Int) (M1 : zMem), k v1_ v2_ M1 = some (r, M') → z_V p l e R s m args below meth c D A cI cZ 6 (wC cI cZ ad) M' (some (.int (z_I r))) M1 108 [(0, .ref (ad 0)), (1, .int (z_I v1_)), (2, .int (z_I v2_)), (3, .int (z_I v3))] []) h ?_ ?_
      · intro v1_ v2_ M1 h
        refine z_iincn Z (fun z => [(3, .int (z_I z)), (0, .ref (ad 0)), (1, .int (z_I v1_)), (2, .int (z_I v2_))]) dX9_pair_108 (k := 3) rfl (by decide) (fun _ => rfl) h (fun v3_ h => ?_)
        refine z_goto (tgt := 22) Z dX9_pair_111 (by decide) ?_
        refine z_sub [1, 2, 3, 0] rfl ?_
        exact ih v1_ v2_ v3_ M1 h
      · intro k1 hk1 h
        refine z_sub [1, 2, 3, 4, 0] rfl ?_
        exact wDrum_pair_38 X hr hlk N v3 k1 hk1 N v1 v2 v4_ M h
set_option maxRecDepth 100000 in
set_option maxHeartbeats 4000000 in
theorem c_X9_pair {l : Launch} {D : va_G} {cI cZ : ClassId} {ad adK adV : Nat → Nat} {N : Nat} {M M' : zMem} {r : Int} (h : Drum_pair N M = some (r, M')) : z_Ct (wC cI cZ ad) D cI cZ adK adV l yX9_pair cX9_pair 6 (some .int) 6 [.ref (ad 0)] M M' (some (.int (z_I r))) := by
  unfold Drum_pair at h
  refine z_entry (own := RX9) rfl (by decide) (Nat.le_of_ble_eq_true rfl) ?_
  intro p e s m args below meth c R A X hr hlk
  have Z := X.1
  refine z_sub (lv' := [(0, .ref (ad 0))]) [0] rfl ?_
  refine z_aload_n Z dX9_pair_0 rfl 0 rfl ?_
  refine gC_X9_42_0 X dX9_pair_1 ?_
  refine gC_X9_141_19 X dX9_pair_4 ?_
  refine z_if_ne (tgt := 13) Z dX9_pair_7 (by decide) h (fun h => ?_) (fun h => ?_)
  · refine z_aload_n Z dX9_pair_13 rfl 0 rfl ?_
    obtain ⟨r_, M1, hf, h⟩ := z_cld h
    refine z_callVi (Wd := wC cI cZ ad) X (c_X9_timeNow hf) ml_X9_198 yd_X9_timeNow yw_X9_timeNow (by omega) (by decide) (rC_0 X) rfl rfl (Nat.le_of_ble_eq_true rfl) ⟨Nat.zero_le _, Nat.zero_le _⟩ dX9_pair_14 ?_
    refine z_istore_n (lv' := [(1, .int (z_I r_)), (0, .ref (ad 0))]) Z dX9_pair_17 rfl (by decide) rfl ?_
    refine z_iconst Z dX9_pair_18 ?_
    refine z_istore_n (lv' := [(2, .int (z_I (-1))), (1, .int (z_I r_)), (0, .ref (ad 0))]) Z dX9_pair_19 rfl (by decide) rfl ?_
    refine z_iconst Z dX9_pair_20 ?_
    refine z_istore_n (lv' := [(3, .int (z_I 0)), (2, .int (z_I (-1))), (1, .int (z_I r_)), (0, .ref (ad 0))]) Z dX9_pair_21 rfl (by decide) rfl ?_
    refine z_jnr (P := fun (k : Int → zMem → zO) => ∀ (v2_ : Int) (M2 : zMem), k v2_ M2 = some (r, M') → z_V p l e R s m args below meth c D A cI cZ 6 (wC cI cZ ad) M' (some (.int (z_I r))) M2 114 [(2, .int (z_I v2_))] []) h ?_ ?_
    · intro v2_ M2 h
      refine z_iload_n Z dX9_pair_114 rfl 0 rfl ?_
      exact z_iret X hr hlk dX9_pair_115 h
    · intro k0 hk0 h
      refine z_sub [3, 2, 1, 0] rfl ?_
      exact wDrum_pair_22 X hr hlk N k0 hk0 N r_ (-1) 0 M1 h
  · refine z_bipush Z dX9_pair_10 rfl ?_
    exact z_iret X hr hlk dX9_pair_12 h
set_option maxRecDepth 100000 in
set_option maxHeartbeats 4000000 in
theorem wDrum_idle_36 {p : Program} {l : Launch} {e : Env} {R : Room} {s : State} {m : MethodId} {args : Array Value} {below : List Frame} {meth : Method} {c : Code} {D : va_G} {A : Nat → Prop} {cI cZ : ClassId} {adK adV ad : Nat → Nat} {r : Int} {M' : zMem} (X : z_X p m c cX9_idle 5 s args RX9 R 6 D cI cZ A adK adV) (hr : meth.sig.returnType = some .int) (hlk : meth.locks = false) (N : Nat) (v1 v3 : Int) (k : Int → zMem → zO) (hk : ∀ (y2 : Int) (M : zMem), k y2 M = some (r, M') → z_V p l e R s m args below meth c D A cI cZ 5 (wC cI cZ ad) M' (some (.int (z_I r))) M 78 [(0, .ref (ad 0)), (1, .int (z_I v1)), (2, .int (z_I y2)), (3, .int (z_I v3))] []) : ∀ (n : Nat) (v2 v4 : Int) (M : zMem), Drum_idle_36 N v1 v3 k n v2 v4 M = some (r, M') → z_V p l e R s m args below meth c D A cI cZ 5 (wC cI cZ ad) M' (some (.int (z_I r))) M 36 [(0, .ref (ad 0)), (1, .int (z_I v1)), (2, .int (z_I v2)), (3, .int (z_I v3)), (4, .int (z_I v4))] [] := by
  have Z := X.1
  intro n
  induction n with
  | zero =>
    intro v2 v4 M h
    rw [Drum_idle_36] at h
    cases h
  | succ n ih =>
    intro v2 v4 M h
    rw [Drum_idle_36] at h
    refine z_iload Z dX9_idle_36 4 rfl ?_
    refine z_aload_n Z dX9_idle_38 rfl 0 rfl ?_
    refine gC_X9_42_0 X dX9_idle_39 ?_
    obtain ⟨r_, M1, hf, h⟩ := z_cld h
    refine z_callVi (Wd := wC cI cZ ad) X (c_X3_addresses (Or.inr (rfl)) hf) ml_X9_237 yd_X3_addresses yw_X3_addresses (by omega) (by decide) (rC_19 X) rfl rfl (Nat.le_of_ble_eq_true rfl) ⟨Nat.zero_le _, Nat.zero_le _⟩ dX9_idle_42 ?_
    refine z_icmp_ge (tgt := 78) Z dX9_idle_45 (by decide) h (fun h => ?_) (fun h => ?_)
    · refine z_sub [0, 1, 2, 3] rfl ?_
      exact hk v2 M1 h
    · refine z_aload_n Z dX9_idle_48 rfl 0 rfl ?_
      refine z_iload_n Z dX9_idle_49 rfl 3 rfl ?_
      refine z_iload Z dX9_idle_50 4 rfl ?_
      obtain ⟨r_1, M2, hf1, h⟩ := z_cld h
      refine z_callVi (Wd := wC cI cZ ad) X (c_X9_isMove hf1) ml_X9_240 yd_X9_isMove yw_X9_isMove (by omega) (by decide) (rC_0 X) rfl rfl (Nat.le_of_ble_eq_true rfl) ⟨Nat.zero_le _, Nat.zero_le _⟩ dX9_idle_52 ?_
      refine z_jnr (P := fun (k : Int → zMem → zO) => ∀ (v2_ : Int) (M3 : zMem), k v2_ M3 = some (r, M') → z_V p l e R s m args below meth c D A cI cZ 5 (wC cI cZ ad) M' (some (.int (z_I r))) M3 72 [(0, .ref (ad 0)), (1, .int (z_I v1)), (2, .int (z_I v2_)), (3, .int (z_I v3)), (4, .int (z_I v4))] []) h ?_ ?_
      · intro v2_ M3 h
        refine z_iincn Z (fun z => [(4, .int (z_I z)), (0, .ref (ad 0)), (1, .int (z_I v1)), (2, .int (z_I v2_)), (3, .int (z_I v3))]) dX9_idle_72 (k := 4) rfl (by decide) (fun _ => rfl) h (fun v4_ h => ?_)
        refine z_goto (tgt := 36) Z dX9_idle_75 (by decide) ?_
        refine z_sub [1, 2, 3, 4, 0] rfl ?_
        exact ih v2_ v4_ M3 h
      · intro k1 hk1 h
        refine z_if_eq (tgt := 72) Z dX9_idle_55 (by decide) h (fun h => ?_) (fun h => ?_)
        · refine z_sub [0, 1, 2, 3, 4] rfl ?_
          exact hk1 v2 M2 h
        · refine z_aload_n Z dX9_idle_58 rfl 0 rfl ?_
          refine z_iload_n Z dX9_idle_59 rfl 3 rfl ?_
          refine z_iload Z dX9_idle_60 4 rfl ?_
          obtain ⟨r_2, M4, hf2, h⟩ := z_cld h
          refine z_callVi (Wd := wC cI cZ ad) X (c_X9_timeMoved hf2) ml_X9_228 yd_X9_timeMoved yw_X9_timeMoved (by omega) (by decide) (rC_0 X) rfl rfl (Nat.le_of_ble_eq_true rfl) ⟨Nat.zero_le _, Nat.zero_le _⟩ dX9_idle_62 ?_
          refine z_iload_n Z dX9_idle_65 rfl 1 rfl ?_
          refine z_icmp_ne (tgt := 72) Z dX9_idle_66 (by decide) h (fun h => ?_) (fun h => ?_)
          · refine z_sub [0, 1, 2, 3, 4] rfl ?_
            exact hk1 v2 M4 h
          · refine z_iincn Z (fun z => [(2, .int (z_I z)), (0, .ref (ad 0)), (1, .int (z_I v1)), (3, .int (z_I v3)), (4, .int (z_I v4))]) dX9_idle_69 (k := 2) rfl (by decide) (fun _ => rfl) h (fun v2_1 h => ?_)
            refine z_sub [1, 2, 0, 3, 4] rfl ?_
            exact hk1 v2_1 M4 h
set_option maxRecDepth 100000 in
set_option maxHeartbeats 4000000 in
theorem wDrum_idle_22 {p : Program} {l : Launch} {e : Env} {R : Room} {s : State} {m : MethodId} {args : Array Value} {below : List Frame} {meth : Method} {c : Code} {D : va_G} {A : Nat → Prop} {cI cZ : ClassId} {adK adV ad : Nat → Nat} {r : Int} {M' : zMem} (X : z_X p m c cX9_idle 5 s args RX9 R 6 D cI cZ A adK adV) (hr : meth.sig.returnType = some .int) (hlk : meth.locks = false) (N : Nat) (v1 : Int) (k : Int → zMem → zO) (hk : ∀ (y2 : Int) (M : zMem), k y2 M = some (r, M') → z_V p l e R s m args below meth c D A cI cZ 5 (wC cI cZ ad) M' (some (.int (z_I r))) M 84 [(2, .int (z_I y2))] []) : ∀ (n : Nat) (v2 v3 : Int) (M : zMem), Drum_idle_22 N v1 k n v2 v3 M = some (r, M') → z_V p l e R s m args below meth c D A cI cZ 5 (wC cI cZ ad) M' (some (.int (z_I r))) M 22 [(0, .ref (ad 0)), (1, .int (z_I v1)), (2, .int (z_I v2)), (3, .int (z_I v3))] [] := by
  have Z := X.1
  intro n
  induction n with
  | zero =>
    intro v2 v3 M h
    rw [Drum_idle_22] at h
    cases h
  | succ n ih =>
    intro v2 v3 M h
    rw [Drum_idle_22] at h
    refine z_iload_n Z dX9_idle_22 rfl 3 rfl ?_
    refine z_aload_n Z dX9_idle_23 rfl 0 rfl ?_
    refine gC_X9_42_0 X dX9_idle_24 ?_
    refine gC_X9_207_19 X dX9_idle_27 ?_
    refine z_icmp_ge (tgt := 84) Z dX9_idle_30 (by decide) h (fun h => ?_) (fun h => ?_)
    · refine z_sub [2] rfl ?_
      exact hk v2 M h
    · refine z_iconst Z dX9_idle_33 ?_
      refine z_istore (lv' := [(4, .int (z_I 0)), (0, .ref (ad 0)), (1, .int (z_I v1)), (2, .int (z_I v2)), (3, .int (z_I v3))]) Z dX9_idle_34 (by decide) rfl ?_
      refine z_jnr (P := fun (k : Int → zMem → zO) => ∀ (v2_ : Int) (M1 : zMem), k v2_ M1 = some (r, M') → z_V p l e R s m args below meth c D A cI cZ 5 (wC cI cZ ad) M' (some (.int (z_I r))) M1 78 [(0, .ref (ad 0)), (1, .int (z_I v1)), (2, .int (z_I v2_)), (3, .int (z_I v3))] []) h ?_ ?_
      · intro v2_ M1 h
        refine z_iincn Z (fun z => [(3, .int (z_I z)), (0, .ref (ad 0)), (1, .int (z_I v1)), (2, .int (z_I v2_))]) dX9_idle_78 (k := 3) rfl (by decide) (fun _ => rfl) h (fun v3_ h => ?_)
        refine z_goto (tgt := 22) Z dX9_idle_81 (by decide) ?_
        refine z_sub [1, 2, 3, 0] rfl ?_
        exact ih v2_ v3_ M1 h
      · intro k1 hk1 h
        refine z_sub [1, 2, 3, 4, 0] rfl ?_
        exact wDrum_idle_36 X hr hlk N v1 v3 k1 hk1 N v2 0 M h
set_option maxRecDepth 100000 in
set_option maxHeartbeats 4000000 in
theorem c_X9_idle {l : Launch} {D : va_G} {cI cZ : ClassId} {ad adK adV : Nat → Nat} {N : Nat} {M M' : zMem} {r : Int} (h : Drum_idle N M = some (r, M')) : z_Ct (wC cI cZ ad) D cI cZ adK adV l yX9_idle cX9_idle 5 (some .int) 6 [.ref (ad 0)] M M' (some (.int (z_I r))) := by
  unfold Drum_idle at h
  refine z_entry (own := RX9) rfl (by decide) (Nat.le_of_ble_eq_true rfl) ?_
  intro p e s m args below meth c R A X hr hlk
  have Z := X.1
  refine z_sub (lv' := [(0, .ref (ad 0))]) [0] rfl ?_
  refine z_aload_n Z dX9_idle_0 rfl 0 rfl ?_
  refine gC_X9_42_0 X dX9_idle_1 ?_
  refine gC_X9_141_19 X dX9_idle_4 ?_
  refine z_if_ne (tgt := 13) Z dX9_idle_7 (by decide) h (fun h => ?_) (fun h => ?_)
  · refine z_aload_n Z dX9_idle_13 rfl 0 rfl ?_
    obtain ⟨r_, M1, hf, h⟩ := z_cld h
    refine z_callVi (Wd := wC cI cZ ad) X (c_X9_timeNow hf) ml_X9_198 yd_X9_timeNow yw_X9_timeNow (by omega) (by decide) (rC_0 X) rfl rfl (Nat.le_of_ble_eq_true rfl) ⟨Nat.zero_le _, Nat.zero_le _⟩ dX9_idle_14 ?_
    refine z_istore_n (lv' := [(1, .int (z_I r_)), (0, .ref (ad 0))]) Z dX9_idle_17 rfl (by decide) rfl ?_
    refine z_iconst Z dX9_idle_18 ?_
    refine z_istore_n (lv' := [(2, .int (z_I 0)), (1, .int (z_I r_)), (0, .ref (ad 0))]) Z dX9_idle_19 rfl (by decide) rfl ?_
    refine z_iconst Z dX9_idle_20 ?_
    refine z_istore_n (lv' := [(3, .int (z_I 0)), (2, .int (z_I 0)), (1, .int (z_I r_)), (0, .ref (ad 0))]) Z dX9_idle_21 rfl (by decide) rfl ?_
    refine z_jnr (P := fun (k : Int → zMem → zO) => ∀ (v2_ : Int) (M2 : zMem), k v2_ M2 = some (r, M') → z_V p l e R s m args below meth c D A cI cZ 5 (wC cI cZ ad) M' (some (.int (z_I r))) M2 84 [(2, .int (z_I v2_))] []) h ?_ ?_
    · intro v2_ M2 h
      refine z_iload_n Z dX9_idle_84 rfl 0 rfl ?_
      exact z_iret X hr hlk dX9_idle_85 h
    · intro k0 hk0 h
      refine z_sub [3, 2, 1, 0] rfl ?_
      exact wDrum_idle_22 X hr hlk N r_ k0 hk0 N 0 0 M1 h
  · refine z_bipush Z dX9_idle_10 rfl ?_
    exact z_iret X hr hlk dX9_idle_12 h
set_option maxRecDepth 100000 in
set_option maxHeartbeats 4000000 in
theorem c_X1_lostAt {l : Launch} {D : va_G} {cI cZ : ClassId} {ad adK adV : Nat → Nat} {v1 v2 : Int} {M M' : zMem} {r : Int} (h : Clock_lostAt v1 v2 M = some (r, M')) : z_Ct (wC cI cZ ad) D cI cZ adK adV l yX1_lostAt cX1_lostAt 4 (some .int) 2 [.ref (ad 41), .int (z_I v1), .int (z_I v2)] M M' (some (.int (z_I r))) := by
  unfold Clock_lostAt at h
  refine z_entry (own := RX1) rfl (by decide) (Nat.le_of_ble_eq_true rfl) ?_
  intro p e s m args below meth c R A X hr hlk
  have Z := X.1
  refine z_sub (lv' := [(0, .ref (ad 41)), (1, .int (z_I v1)), (2, .int (z_I v2))]) [0, 1, 2] rfl ?_
  refine z_aload_n Z dX1_lostAt_0 rfl 0 rfl ?_
  refine z_iload_n Z dX1_lostAt_1 rfl 2 rfl ?_
  refine z_aload_n Z dX1_lostAt_2 rfl 0 rfl ?_
  refine gC_X1_24_41 X dX1_lostAt_3 ?_
  refine gC_X1_84_19 X dX1_lostAt_6 ?_
  obtain ⟨r_, M1, hf, h⟩ := z_cld h
  refine z_callVi (Wd := wC cI cZ ad) X (c_X1_turnAt hf) ml_X1_50 yd_X1_turnAt yw_X1_turnAt (by omega) (by decide) (rC_41 X) rfl rfl (Nat.le_of_ble_eq_true rfl) ⟨Nat.zero_le _, Nat.zero_le _⟩ dX1_lostAt_9 ?_
  refine z_istore_n (lv' := [(3, .int (z_I r_)), (0, .ref (ad 41)), (1, .int (z_I v1)), (2, .int (z_I v2))]) Z dX1_lostAt_12 rfl (by decide) rfl ?_
  refine z_iload_n Z dX1_lostAt_13 rfl 0 rfl ?_
  refine z_if_le (tgt := 28) Z dX1_lostAt_14 (by decide) h (fun h => ?_) (fun h => ?_)
  · refine z_iconst Z dX1_lostAt_28 ?_
    exact z_iret X hr hlk dX1_lostAt_29 h
  · refine z_iload_n Z dX1_lostAt_17 rfl 2 rfl ?_
    refine z_iload_n Z dX1_lostAt_18 rfl 0 rfl ?_
    refine z_iload_n Z dX1_lostAt_19 rfl 3 rfl ?_
    refine z_iload_n Z dX1_lostAt_20 rfl 0 rfl ?_
    refine z_iremt Z dX1_lostAt_21 h (fun x0 h => ?_)
    obtain ⟨r_1, M2, hf1, h⟩ := z_cld h
    refine z_callSi (Wd := wC cI cZ ad) X (c_X1_lostFrom hf1) ml_X1_65 yd_X1_lostFrom yw_X1_lostFrom (by omega) (by decide) rfl rfl (Nat.le_of_ble_eq_true rfl) ⟨Nat.zero_le _, Nat.zero_le _⟩ dX1_lostAt_22 ?_
    refine z_goto (tgt := 29) Z dX1_lostAt_25 (by decide) ?_
    exact z_iret X hr hlk dX1_lostAt_29 h
set_option maxRecDepth 100000 in
set_option maxHeartbeats 4000000 in
theorem wLaws_soonest_8 {p : Program} {l : Launch} {e : Env} {R : Room} {s : State} {m : MethodId} {args : Array Value} {below : List Frame} {meth : Method} {c : Code} {D : va_G} {A : Nat → Prop} {cI cZ : ClassId} {adK adV ad : Nat → Nat} {r : Int} {M' : zMem} (X : z_X p m c cX2_soonest 6 s args RX2 R 3 D cI cZ A adK adV) (hr : meth.sig.returnType = some .int) (hlk : meth.locks = false) (N : Nat) (v1 : Int) (k : Int → zMem → zO) (hk : ∀ (y2 : Int) (M : zMem), k y2 M = some (r, M') → z_V p l e R s m args below meth c D A cI cZ 6 (wC cI cZ ad) M' (some (.int (z_I r))) M 60 [(2, .int (z_I y2))] []) : ∀ (n : Nat) (v2 v3 v4 : Int) (M : zMem), Laws_soonest_8 N v1 k n v2 v3 v4 M = some (r, M') → z_V p l e R s m args below meth c D A cI cZ 6 (wC cI cZ ad) M' (some (.int (z_I r))) M 8 [(0, .ref (ad 46)), (1, .int (z_I v1)), (2, .int (z_I v2)), (3, .int (z_I v3)), (4, .int (z_I v4))] [] := by
  have Z := X.1
  intro n
  induction n with
  | zero =>
    intro v2 v3 v4 M h
    rw [Laws_soonest_8] at h
    cases h
  | succ n ih =>
    intro v2 v3 v4 M h
    rw [Laws_soonest_8] at h
    refine z_iload Z dX2_soonest_8 4 rfl ?_
    refine z_aload_n Z dX2_soonest_10 rfl 0 rfl ?_
    refine gC_X2_15_46 X dX2_soonest_11 ?_
    obtain ⟨r_, M1, hf, h⟩ := z_cld h
    refine z_callVi (Wd := wC cI cZ ad) X (c_X3_addresses (Or.inr (rfl)) hf) ml_X2_83 yd_X3_addresses yw_X3_addresses (by omega) (by decide) (rC_19 X) rfl rfl (Nat.le_of_ble_eq_true rfl) ⟨Nat.zero_le _, Nat.zero_le _⟩ dX2_soonest_14 ?_
    refine z_icmp_ge (tgt := 60) Z dX2_soonest_17 (by decide) h (fun h => ?_) (fun h => ?_)
    · refine z_sub [2] rfl ?_
      exact hk v2 M1 h
    · refine z_aload_n Z dX2_soonest_20 rfl 0 rfl ?_
      refine gC_X2_23_46 X dX2_soonest_21 ?_
      refine z_iload_n Z dX2_soonest_24 rfl 1 rfl ?_
      refine z_iload Z dX2_soonest_25 4 rfl ?_
      obtain ⟨r_1, M2, hf1, h⟩ := z_cld h
      refine z_callVi (Wd := wC cI cZ ad) X (c_X1_lostAt hf1) ml_X2_55 yd_X1_lostAt yw_X1_lostAt (by omega) (by decide) (rC_41 X) rfl rfl (Nat.le_of_ble_eq_true rfl) ⟨Nat.zero_le _, Nat.zero_le _⟩ dX2_soonest_27 ?_
      refine z_istore (lv' := [(5, .int (z_I r_1)), (0, .ref (ad 46)), (1, .int (z_I v1)), (2, .int (z_I v2)), (3, .int (z_I v3)), (4, .int (z_I v4))]) Z dX2_soonest_30 (by decide) rfl ?_
      refine z_aload_n Z dX2_soonest_32 rfl 1 rfl ?_
      refine gC_X2_9_46 X dX2_soonest_33 ?_
      refine z_iload Z dX2_soonest_36 5 rfl ?_
      refine ldC_47 X dX2_soonest_38 h (fun x0 h => ?_)
      refine z_jnr (P := fun (k : Int → Int → zMem → zO) => ∀ (v2_ v3_ : Int) (M3 : zMem), k v2_ v3_ M3 = some (r, M') → z_V p l e R s m args below meth c D A cI cZ 6 (wC cI cZ ad) M' (some (.int (z_I r))) M3 54 [(0, .ref (ad 46)), (1, .int (z_I v1)), (2, .int (z_I v2_)), (3, .int (z_I v3_)), (4, .int (z_I v4))] []) h ?_ ?_
      · intro v2_ v3_ M3 h
        refine z_iincn Z (fun z => [(4, .int (z_I z)), (0, .ref (ad 46)), (1, .int (z_I v1)), (2, .int (z_I v2_)), (3, .int (z_I v3_))]) dX2_soonest_54 (k := 4) rfl (by decide) (fun _ => rfl) h (fun v4_ h => ?_)
        refine z_goto (tgt := 8) Z dX2_soonest_57 (by decide) ?_
        refine z_sub [1, 2, 3, 4, 0] rfl ?_
        exact ih v2_ v3_ v4_ M3 h
      · intro k1 hk1 h
        refine z_if_ne (tgt := 54) Z dX2_soonest_39 (by decide) h (fun h => ?_) (fun h => ?_)
        · refine z_sub [1, 2, 3, 4, 5] rfl ?_
          exact hk1 v2 v3 M2 h
        · refine z_iload Z dX2_soonest_42 0 rfl ?_
          refine z_iload_n Z dX2_soonest_44 rfl 4 rfl ?_
          refine z_icmp_ge (tgt := 54) Z dX2_soonest_45 (by decide) h (fun h => ?_) (fun h => ?_)
          · refine z_sub [1, 2, 3, 4, 5] rfl ?_
            exact hk1 v2 v3 M2 h
          · refine z_iload Z dX2_soonest_48 5 rfl ?_
            refine z_istore_n (lv' := [(2, .int (z_I v4)), (5, .int (z_I r_1)), (0, .ref (ad 46)), (1, .int (z_I v1)), (3, .int (z_I v3)), (4, .int (z_I v4))]) Z dX2_soonest_50 rfl (by decide) rfl ?_
            refine z_iload Z dX2_soonest_51 1 rfl ?_
            refine z_istore_n (lv' := [(3, .int (z_I r_1)), (2, .int (z_I v4)), (5, .int (z_I r_1)), (0, .ref (ad 46)), (1, .int (z_I v1)), (4, .int (z_I v4))]) Z dX2_soonest_53 rfl (by decide) rfl ?_
            refine z_sub [3, 4, 1, 0, 5] rfl ?_
            exact hk1 v4 r_1 M2 h
set_option maxRecDepth 100000 in
set_option maxHeartbeats 4000000 in
theorem c_X2_soonest {l : Launch} {D : va_G} {cI cZ : ClassId} {ad adK adV : Nat → Nat} {N : Nat} {v1 : Int} {M M' : zMem} {r : Int} (h : Laws_soonest N v1 M = some (r, M')) : z_Ct (wC cI cZ ad) D cI cZ adK adV l yX2_soonest cX2_soonest 6 (some .int) 3 [.ref (ad 46), .int (z_I v1)] M M' (some (.int (z_I r))) := by
  unfold Laws_soonest at h
  refine z_entry (own := RX2) rfl (by decide) (Nat.le_of_ble_eq_true rfl) ?_
  intro p e s m args below meth c R A X hr hlk
  have Z := X.1
  refine z_sub (lv' := [(0, .ref (ad 46)), (1, .int (z_I v1))]) [0, 1] rfl ?_
  refine z_iconst Z dX2_soonest_0 ?_
  refine z_istore_n (lv' := [(2, .int (z_I (-1))), (0, .ref (ad 46)), (1, .int (z_I v1))]) Z dX2_soonest_1 rfl (by decide) rfl ?_
  refine z_bipush Z dX2_soonest_2 rfl ?_
  refine z_istore_n (lv' := [(3, .int (z_I 12)), (2, .int (z_I (-1))), (0, .ref (ad 46)), (1, .int (z_I v1))]) Z dX2_soonest_4 rfl (by decide) rfl ?_
  refine z_iconst Z dX2_soonest_5 ?_
  refine z_istore (lv' := [(4, .int (z_I 0)), (3, .int (z_I 12)), (2, .int (z_I (-1))), (0, .ref (ad 46)), (1, .int (z_I v1))]) Z dX2_soonest_6 (by decide) rfl ?_
  refine z_jnr (P := fun (k : Int → zMem → zO) => ∀ (v2_ : Int) (M1 : zMem), k v2_ M1 = some (r, M') → z_V p l e R s m args below meth c D A cI cZ 6 (wC cI cZ ad) M' (some (.int (z_I r))) M1 60 [(2, .int (z_I v2_))] []) h ?_ ?_
  · intro v2_ M1 h
    refine z_iload_n Z dX2_soonest_60 rfl 0 rfl ?_
    exact z_iret X hr hlk dX2_soonest_61 h
  · intro k0 hk0 h
    refine z_sub [3, 4, 2, 1, 0] rfl ?_
    exact wLaws_soonest_8 X hr hlk N v1 k0 hk0 N (-1) 12 0 M h
