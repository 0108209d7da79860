/-! the machine does what the pure programs say -/
set_option maxRecDepth 100000 in
set_option maxHeartbeats 4000000 in
theorem wTape_append_3 {p : Program} {l : Launch} {e : Env} {R : Room} {s : State} {m : MethodId} {args : Array Value} {below : List Frame} {meth : Method} {c : Code} {D : va_G} {A : Nat → Prop} {cI cZ : ClassId} {adK adV ad : Nat → Nat} {r : Int} {M' : zMem} (X : z_X p m c cX6_append 3 s args RX6 R 1 D cI cZ A adK adV) (hr : meth.sig.returnType = none) (hlk : meth.locks = false) (N : Nat) (v1 : Int) (k : zMem → zO) (hk : ∀ (M : zMem), k M = some (r, M') → z_V p l e R s m args below meth c D A cI cZ 3 (wC cI cZ ad) M' none M 49 [] []) : ∀ (n : Nat) (v2 : Int) (M : zMem), Tape_append_3 N v1 k n v2 M = some (r, M') → z_V p l e R s m args below meth c D A cI cZ 3 (wC cI cZ ad) M' none M 3 [(0, .ref (ad 1)), (1, .int (z_I v1)), (2, .int (z_I v2))] [] := by
  have Z := X.1
  intro n
  induction n with
  | zero =>
    intro v2 M h
    rw [Tape_append_3] at h
    cases h
  | succ n ih =>
    intro v2 M h
    rw [Tape_append_3] at h
    refine z_iload_n Z dX6_append_3 rfl 2 rfl ?_
    refine z_if_lt (tgt := 49) Z dX6_append_4 (by decide) h (fun h => ?_) (fun h => ?_)
    · refine z_sub [] rfl ?_
      exact hk M h
    · refine z_aload_n Z dX6_append_7 rfl 0 rfl ?_
      refine gC_X6_15_1 X dX6_append_8 ?_
      refine z_sipush Z dX6_append_11 rfl ?_
      refine z_icmp_ge (tgt := 49) Z dX6_append_14 (by decide) h (fun h => ?_) (fun h => ?_)
      · refine z_sub [] rfl ?_
        exact hk M h
      · refine z_aload_n Z dX6_append_17 rfl 0 rfl ?_
        refine gC_X6_9_1 X dX6_append_18 ?_
        refine z_aload_n Z dX6_append_21 rfl 0 rfl ?_
        refine gC_X6_15_1 X dX6_append_22 ?_
        refine z_iload_n Z dX6_append_25 rfl 1 rfl ?_
        refine z_iload_n Z dX6_append_26 rfl 2 rfl ?_
        refine z_iushr Z dX6_append_27 ?_
        refine z_sipush Z dX6_append_28 rfl ?_
        refine z_iand Z dX6_append_31 ?_
        refine srC_2 X dX6_append_32 h (fun M1 h => ?_)
        refine z_aload_n Z dX6_append_33 rfl 0 rfl ?_
        refine z_dup Z dX6_append_34 rfl ?_
        refine gC_X6_15_1 X dX6_append_35 ?_
        refine z_iconst Z dX6_append_38 ?_
        refine z_iadd Z dX6_append_39 ?_
        refine pC_X6_15_1 X dX6_append_40 h (fun M2 h => ?_)
        refine z_iincn Z (fun z => [(2, .int (z_I z)), (0, .ref (ad 1)), (1, .int (z_I v1))]) dX6_append_43 (k := 2) rfl (by decide) (fun _ => rfl) h (fun v2_ h => ?_)
        refine z_goto (tgt := 3) Z dX6_append_46 (by decide) ?_
        refine z_sub [1, 2, 0] rfl ?_
        exact ih v2_ M2 h
set_option maxRecDepth 100000 in
set_option maxHeartbeats 4000000 in
theorem c_X6_append {l : Launch} {D : va_G} {cI cZ : ClassId} {ad adK adV : Nat → Nat} {N : Nat} {v1 : Int} {M M' : zMem} {r : Int} (h : Tape_append N v1 M = some (r, M')) : z_Ct (wC cI cZ ad) D cI cZ adK adV l yX6_append cX6_append 3 none 1 [.ref (ad 1), .int (z_I v1)] M M' none := by
  unfold Tape_append at h
  refine z_entry (own := RX6) rfl (by decide) (Nat.le_of_ble_eq_true rfl) ?_
  intro p e s m args below meth c R A X hr hlk
  have Z := X.1
  refine z_sub (lv' := [(0, .ref (ad 1)), (1, .int (z_I v1))]) [0, 1] rfl ?_
  refine z_bipush Z dX6_append_0 rfl ?_
  refine z_istore_n (lv' := [(2, .int (z_I 24)), (0, .ref (ad 1)), (1, .int (z_I v1))]) Z dX6_append_2 rfl (by decide) rfl ?_
  refine z_jnr (P := fun (k : zMem → zO) => ∀ (M1 : zMem), k M1 = some (r, M') → z_V p l e R s m args below meth c D A cI cZ 3 (wC cI cZ ad) M' none M1 49 [] []) h ?_ ?_
  · intro M1 h
    exact z_vret X hr hlk dX6_append_49 h
  · intro k0 hk0 h
    refine z_sub [1, 2, 0] rfl ?_
    exact wTape_append_3 X hr hlk N v1 k0 hk0 N 24 M h
set_option maxRecDepth 100000 in
set_option maxHeartbeats 4000000 in
theorem c_X9_feed {l : Launch} {D : va_G} {cI cZ : ClassId} {ad adK adV : Nat → Nat} {N : Nat} {v1 v2 v3 v4 v5 : Int} {M M' : zMem} {r : Int} (h : Drum_feed N v1 v2 v3 v4 v5 M = some (r, M')) : z_Ct (wC cI cZ ad) D cI cZ adK adV l yX9_feed cX9_feed 6 (some .int) 2 [.ref (ad 0), .int (z_I v1), .int (z_I v2), .int (z_I v3), .int (z_I v4), .int (z_I v5)] M M' (some (.int (z_I r))) := by
  unfold Drum_feed at h
  refine z_entry (own := RX9) rfl (by decide) (Nat.le_of_ble_eq_true rfl) ?_
  intro p e s m args below meth c R A X hr hlk
  have Z := X.1
  refine z_sub (lv' := [(0, .ref (ad 0)), (1, .int (z_I v1)), (2, .int (z_I v2)), (3, .int (z_I v3)), (4, .int (z_I v4)), (5, .int (z_I v5))]) [0, 1, 2, 3, 4, 5] rfl ?_
  refine z_aload_n Z dX9_feed_0 rfl 0 rfl ?_
  refine gC_X9_23_0 X dX9_feed_1 ?_
  refine gC_X9_92_1 X dX9_feed_4 ?_
  refine z_bipush Z dX9_feed_7 rfl ?_
  refine z_iadd Z dX9_feed_9 ?_
  refine z_sipush Z dX9_feed_10 rfl ?_
  refine z_icmp_le (tgt := 18) Z dX9_feed_13 (by decide) h (fun h => ?_) (fun h => ?_)
  · refine z_aload_n Z dX9_feed_18 rfl 0 rfl ?_
    refine gC_X9_23_0 X dX9_feed_19 ?_
    refine z_iload_n Z dX9_feed_22 rfl 1 rfl ?_
    obtain ⟨u_, M1, hf, h⟩ := z_cld h
    refine z_callVv (Wd := wC cI cZ ad) X (c_X6_append hf) ml_X9_95 yd_X6_append yw_X6_append (by omega) (by decide) (rC_1 X) rfl rfl (Nat.le_of_ble_eq_true rfl) ⟨Nat.zero_le _, Nat.zero_le _⟩ dX9_feed_23 ?_
    refine z_aload_n Z dX9_feed_26 rfl 0 rfl ?_
    refine gC_X9_23_0 X dX9_feed_27 ?_
    refine z_iload_n Z dX9_feed_30 rfl 2 rfl ?_
    obtain ⟨u_1, M2, hf1, h⟩ := z_cld h
    refine z_callVv (Wd := wC cI cZ ad) X (c_X6_append hf1) ml_X9_95 yd_X6_append yw_X6_append (by omega) (by decide) (rC_1 X) rfl rfl (Nat.le_of_ble_eq_true rfl) ⟨Nat.zero_le _, Nat.zero_le _⟩ dX9_feed_31 ?_
    refine z_aload_n Z dX9_feed_34 rfl 0 rfl ?_
    refine gC_X9_23_0 X dX9_feed_35 ?_
    refine z_iload_n Z dX9_feed_38 rfl 3 rfl ?_
    obtain ⟨u_2, M3, hf2, h⟩ := z_cld h
    refine z_callVv (Wd := wC cI cZ ad) X (c_X6_append hf2) ml_X9_95 yd_X6_append yw_X6_append (by omega) (by decide) (rC_1 X) rfl rfl (Nat.le_of_ble_eq_true rfl) ⟨Nat.zero_le _, Nat.zero_le _⟩ dX9_feed_39 ?_
    refine z_aload_n Z dX9_feed_42 rfl 0 rfl ?_
    refine gC_X9_23_0 X dX9_feed_43 ?_
    refine z_iload Z dX9_feed_46 4 rfl ?_
    obtain ⟨u_3, M4, hf3, h⟩ := z_cld h
    refine z_callVv (Wd := wC cI cZ ad) X (c_X6_append hf3) ml_X9_95 yd_X6_append yw_X6_append (by omega) (by decide) (rC_1 X) rfl rfl (Nat.le_of_ble_eq_true rfl) ⟨Nat.zero_le _, Nat.zero_le _⟩ dX9_feed_48 ?_
    refine z_aload_n Z dX9_feed_51 rfl 0 rfl ?_
    refine gC_X9_23_0 X dX9_feed_52 ?_
    refine z_iload Z dX9_feed_55 5 rfl ?_
    obtain ⟨u_4, M5, hf4, h⟩ := z_cld h
    refine z_callVv (Wd := wC cI cZ ad) X (c_X6_append hf4) ml_X9_95 yd_X6_append yw_X6_append (by omega) (by decide) (rC_1 X) rfl rfl (Nat.le_of_ble_eq_true rfl) ⟨Nat.zero_le _, Nat.zero_le _⟩ dX9_feed_57 ?_
    refine z_aload_n Z dX9_feed_60 rfl 0 rfl ?_
    refine gC_X9_23_0 X dX9_feed_61 ?_
    refine gC_X9_92_1 X dX9_feed_64 ?_
    exact z_iret X hr hlk dX9_feed_67 h
  · refine z_iconst Z dX9_feed_16 ?_
    exact z_iret X hr hlk dX9_feed_17 h
set_option maxRecDepth 100000 in
set_option maxHeartbeats 4000000 in
theorem c_X9_end {l : Launch} {D : va_G} {cI cZ : ClassId} {ad adK adV : Nat → Nat} {v1 : Int} {M M' : zMem} {r : Int} (h : Drum_end v1 M = some (r, M')) : z_Ct (wC cI cZ ad) D cI cZ adK adV l yX9_end cX9_end 2 (some .int) 1 [.ref (ad 0), .int (z_I v1)] M M' (some (.int (z_I r))) := by
  unfold Drum_end at h
  refine z_entry (own := RX9) rfl (by decide) (Nat.le_of_ble_eq_true rfl) ?_
  intro p e s m args below meth c R A X hr hlk
  have Z := X.1
  refine z_sub (lv' := [(0, .ref (ad 0)), (1, .int (z_I v1))]) [0, 1] rfl ?_
  refine z_iload_n Z dX9_end_0 rfl 1 rfl ?_
  refine z_if_lt (tgt := 15) Z dX9_end_1 (by decide) h (fun h => ?_) (fun h => ?_)
  · refine z_iconst Z dX9_end_15 ?_
    exact z_iret X hr hlk dX9_end_16 h
  · refine z_iload_n Z dX9_end_4 rfl 1 rfl ?_
    refine z_aload_n Z dX9_end_5 rfl 0 rfl ?_
    refine gC_X9_23_0 X dX9_end_6 ?_
    refine gC_X9_92_1 X dX9_end_9 ?_
    refine z_icmp_le (tgt := 17) Z dX9_end_12 (by decide) h (fun h => ?_) (fun h => ?_)
    · refine z_aload_n Z dX9_end_17 rfl 0 rfl ?_
      refine gC_X9_23_0 X dX9_end_18 ?_
      refine z_iload_n Z dX9_end_21 rfl 1 rfl ?_
      refine pC_X9_92_1 X dX9_end_22 h (fun M1 h => ?_)
      refine z_iload_n Z dX9_end_25 rfl 1 rfl ?_
      exact z_iret X hr hlk dX9_end_26 h
    · refine z_iconst Z dX9_end_15 ?_
      exact z_iret X hr hlk dX9_end_16 h
set_option maxRecDepth 100000 in
set_option maxHeartbeats 4000000 in
theorem c_X3_addresses {l : Launch} {D : va_G} {cI cZ : ClassId} {ad adK adV : Nat → Nat} {pl : Nat} (hcell : pl = 10 ∨ pl = 19) {M M' : zMem} {r : Int} (h : Plan_addresses pl M = some (r, M')) : z_Ct (wC cI cZ ad) D cI cZ adK adV l yX3_addresses cX3_addresses 1 (some .int) 1 [.ref (ad pl)] M M' (some (.int (z_I r))) := by
  unfold Plan_addresses at h
  rcases hcell with rfl | rfl
  · refine z_entry (own := RX3) rfl (by decide) (Nat.le_of_ble_eq_true rfl) ?_
    intro p e s m args below meth c R A X hr hlk
    have Z := X.1
    refine z_sub (lv' := [(0, .ref (ad 10))]) [0] rfl ?_
    refine z_aload_n Z dX3_addresses_0 rfl 0 rfl ?_
    refine gC_X3_9_10 X dX3_addresses_1 ?_
    refine z_aload_n Z dX3_addresses_4 rfl 0 rfl ?_
    refine gC_X3_15_10 X dX3_addresses_5 ?_
    refine z_imul Z dX3_addresses_8 ?_
    exact z_iret X hr hlk dX3_addresses_9 h
  · refine z_entry (own := RX3) rfl (by decide) (Nat.le_of_ble_eq_true rfl) ?_
    intro p e s m args below meth c R A X hr hlk
    have Z := X.1
    refine z_sub (lv' := [(0, .ref (ad 19))]) [0] rfl ?_
    refine z_aload_n Z dX3_addresses_0 rfl 0 rfl ?_
    refine gC_X3_9_19 X dX3_addresses_1 ?_
    refine z_aload_n Z dX3_addresses_4 rfl 0 rfl ?_
    refine gC_X3_15_19 X dX3_addresses_5 ?_
    refine z_imul Z dX3_addresses_8 ?_
    exact z_iret X hr hlk dX3_addresses_9 h
set_option maxRecDepth 100000 in
set_option maxHeartbeats 4000000 in
theorem c_X3_isAddress {l : Launch} {D : va_G} {cI cZ : ClassId} {ad adK adV : Nat → Nat} {v1 : Int} {M M' : zMem} {r : Int} (h : Plan_isAddress v1 M = some (r, M')) : z_Ct (wC cI cZ ad) D cI cZ adK adV l yX3_isAddress cX3_isAddress 2 (some .boolean) 2 [.ref (ad 19), .int (z_I v1)] M M' (some (.int (z_I r))) := by
  unfold Plan_isAddress at h
  refine z_entry (own := RX3) rfl (by decide) (Nat.le_of_ble_eq_true rfl) ?_
  intro p e s m args below meth c R A X hr hlk
  have Z := X.1
  refine z_sub (lv' := [(0, .ref (ad 19)), (1, .int (z_I v1))]) [0, 1] rfl ?_
  refine z_iload_n Z dX3_isAddress_0 rfl 1 rfl ?_
  refine z_jnr (P := fun (k : zMem → zO) => ∀ (M1 : zMem), k M1 = some (r, M') → z_V p l e R s m args below meth c D A cI cZ 2 (wC cI cZ ad) M' (some (.int (z_I r))) M1 16 [] []) h ?_ ?_
  · intro M1 h
    refine z_iconst Z dX3_isAddress_16 ?_
    exact z_zret X hr hlk (Or.inl rfl) dX3_isAddress_17 h
  · intro k0 hk0 h
    refine z_if_lt (tgt := 16) Z dX3_isAddress_1 (by decide) h (fun h => ?_) (fun h => ?_)
    · refine z_sub [] rfl ?_
      exact hk0 M h
    · refine z_iload_n Z dX3_isAddress_4 rfl 1 rfl ?_
      refine z_aload_n Z dX3_isAddress_5 rfl 0 rfl ?_
      obtain ⟨r_, M2, hf, h⟩ := z_cld h
      refine z_callVi (Wd := wC cI cZ ad) X (c_X3_addresses (Or.inr (rfl)) hf) ml_X3_85 yd_X3_addresses yw_X3_addresses (by omega) (by decide) (rC_19 X) rfl rfl (Nat.le_of_ble_eq_true rfl) ⟨Nat.zero_le _, Nat.zero_le _⟩ dX3_isAddress_6 ?_
      refine z_icmp_ge (tgt := 16) Z dX3_isAddress_9 (by decide) h (fun h => ?_) (fun h => ?_)
      · refine z_sub [] rfl ?_
        exact hk0 M2 h
      · refine z_iconst Z dX3_isAddress_12 ?_
        refine z_goto (tgt := 17) Z dX3_isAddress_13 (by decide) ?_
        exact z_zret X hr hlk (Or.inr rfl) dX3_isAddress_17 h
set_option maxRecDepth 100000 in
set_option maxHeartbeats 4000000 in
theorem c_X2_lay {l : Launch} {D : va_G} {cI cZ : ClassId} {ad adK adV : Nat → Nat} {ca : Nat} (hcell : ca = 57 ∨ ca = 58) {v2 v3 : Int} {M M' : zMem} {r : Int} (h : Laws_lay ca v2 v3 M = some (r, M')) : z_Ct (wC cI cZ ad) D cI cZ adK adV l yX2_lay cX2_lay 4 none 3 [.ref (ad 46), .ref (ad ca), .int (z_I v2), .int (z_I v3)] M M' none := by
  unfold Laws_lay at h
  rcases hcell with rfl | rfl
  · refine z_entry (own := RX2) rfl (by decide) (Nat.le_of_ble_eq_true rfl) ?_
    intro p e s m args below meth c R A X hr hlk
    have Z := X.1
    refine z_sub (lv' := [(0, .ref (ad 46)), (1, .ref (ad 57)), (2, .int (z_I v2)), (3, .int (z_I v3))]) [0, 1, 2, 3] rfl ?_
    refine z_aload_n Z dX2_lay_0 rfl 1 rfl ?_
    refine z_iload_n Z dX2_lay_1 rfl 2 rfl ?_
    refine z_iload_n Z dX2_lay_2 rfl 3 rfl ?_
    refine srC_57 X dX2_lay_3 h (fun M1 h => ?_)
    refine z_aload_n Z dX2_lay_4 rfl 0 rfl ?_
    refine gC_X2_15_46 X dX2_lay_5 ?_
    refine z_iload_n Z dX2_lay_8 rfl 3 rfl ?_
    obtain ⟨r_, M2, hf, h⟩ := z_cld h
    refine z_callVi (Wd := wC cI cZ ad) X (c_X3_isAddress hf) ml_X2_79 yd_X3_isAddress yw_X3_isAddress (by omega) (by decide) (rC_19 X) rfl rfl (Nat.le_of_ble_eq_true rfl) ⟨Nat.zero_le _, Nat.zero_le _⟩ dX2_lay_9 ?_
    refine z_if_eq (tgt := 22) Z dX2_lay_12 (by decide) h (fun h => ?_) (fun h => ?_)
    · exact z_vret X hr hlk dX2_lay_22 h
    · refine z_aload_n Z dX2_lay_15 rfl 0 rfl ?_
      refine gC_X2_9_46 X dX2_lay_16 ?_
      refine z_iload_n Z dX2_lay_19 rfl 3 rfl ?_
      refine z_iconst Z dX2_lay_20 ?_
      refine srC_47 X dX2_lay_21 h (fun M3 h => ?_)
      exact z_vret X hr hlk dX2_lay_22 h
  · refine z_entry (own := RX2) rfl (by decide) (Nat.le_of_ble_eq_true rfl) ?_
    intro p e s m args below meth c R A X hr hlk
    have Z := X.1
    refine z_sub (lv' := [(0, .ref (ad 46)), (1, .ref (ad 58)), (2, .int (z_I v2)), (3, .int (z_I v3))]) [0, 1, 2, 3] rfl ?_
    refine z_aload_n Z dX2_lay_0 rfl 1 rfl ?_
    refine z_iload_n Z dX2_lay_1 rfl 2 rfl ?_
    refine z_iload_n Z dX2_lay_2 rfl 3 rfl ?_
    refine srC_58 X dX2_lay_3 h (fun M1 h => ?_)
    refine z_aload_n Z dX2_lay_4 rfl 0 rfl ?_
    refine gC_X2_15_46 X dX2_lay_5 ?_
    refine z_iload_n Z dX2_lay_8 rfl 3 rfl ?_
    obtain ⟨r_, M2, hf, h⟩ := z_cld h
    refine z_callVi (Wd := wC cI cZ ad) X (c_X3_isAddress hf) ml_X2_79 yd_X3_isAddress yw_X3_isAddress (by omega) (by decide) (rC_19 X) rfl rfl (Nat.le_of_ble_eq_true rfl) ⟨Nat.zero_le _, Nat.zero_le _⟩ dX2_lay_9 ?_
    refine z_if_eq (tgt := 22) Z dX2_lay_12 (by decide) h (fun h => ?_) (fun h => ?_)
    · exact z_vret X hr hlk dX2_lay_22 h
    · refine z_aload_n Z dX2_lay_15 rfl 0 rfl ?_
      refine gC_X2_9_46 X dX2_lay_16 ?_
      refine z_iload_n Z dX2_lay_19 rfl 3 rfl ?_
      refine z_iconst Z dX2_lay_20 ?_
      refine srC_47 X dX2_lay_21 h (fun M3 h => ?_)
      exact z_vret X hr hlk dX2_lay_22 h
set_option maxRecDepth 100000 in
set_option maxHeartbeats 4000000 in
theorem wLaws_layFixed_2 {p : Program} {l : Launch} {e : Env} {R : Room} {s : State} {m : MethodId} {args : Array Value} {below : List Frame} {meth : Method} {c : Code} {D : va_G} {A : Nat → Prop} {cI cZ : ClassId} {adK adV ad : Nat → Nat} {r : Int} {M' : zMem} {ca : Nat} (X : z_X p m c cX2_layFixed 3 s args RX2 R 4 D cI cZ A adK adV) (hr : meth.sig.returnType = none) (hlk : meth.locks = false) (hcell : ca = 57 ∨ ca = 58) (N : Nat) (k : zMem → zO) (hk : ∀ (M : zMem), k M = some (r, M') → z_V p l e R s m args below meth c D A cI cZ 3 (wC cI cZ ad) M' none M 21 [(0, .ref (ad 46)), (1, .ref (ad ca))] []) : ∀ (n : Nat) (v2 : Int) (M : zMem), Laws_layFixed_2 N ca k n v2 M = some (r, M') → z_V p l e R s m args below meth c D A cI cZ 3 (wC cI cZ ad) M' none M 2 [(0, .ref (ad 46)), (1, .ref (ad ca)), (2, .int (z_I v2))] [] := by
  rcases hcell with rfl | rfl
  · have Z := X.1
    intro n
    induction n with
    | zero =>
      intro v2 M h
      rw [Laws_layFixed_2] at h
      cases h
    | succ n ih =>
      intro v2 M h
      rw [Laws_layFixed_2] at h
      refine z_iload_n Z dX2_layFixed_2 rfl 2 rfl ?_
      refine z_bipush Z dX2_layFixed_3 rfl ?_
      refine z_icmp_ge (tgt := 21) Z dX2_layFixed_5 (by decide) h (fun h => ?_) (fun h => ?_)
      · refine z_sub [0, 1] rfl ?_
        exact hk M h
      · refine z_aload_n Z dX2_layFixed_8 rfl 0 rfl ?_
        refine gC_X2_9_46 X dX2_layFixed_9 ?_
        refine z_iload_n Z dX2_layFixed_12 rfl 2 rfl ?_
        refine z_iconst Z dX2_layFixed_13 ?_
        refine srC_47 X dX2_layFixed_14 h (fun M1 h => ?_)
        refine z_iincn Z (fun z => [(2, .int (z_I z)), (0, .ref (ad 46)), (1, .ref (ad 57))]) dX2_layFixed_15 (k := 2) rfl (by decide) (fun _ => rfl) h (fun v2_ h => ?_)
        refine z_goto (tgt := 2) Z dX2_layFixed_18 (by decide) ?_
        refine z_sub [1, 2, 0] rfl ?_
        exact ih v2_ M1 h
  · have Z := X.1
    intro n
    induction n with
    | zero =>
      intro v2 M h
      rw [Laws_layFixed_2] at h
      cases h
    | succ n ih =>
      intro v2 M h
      rw [Laws_layFixed_2] at h
      refine z_iload_n Z dX2_layFixed_2 rfl 2 rfl ?_
      refine z_bipush Z dX2_layFixed_3 rfl ?_
      refine z_icmp_ge (tgt := 21) Z dX2_layFixed_5 (by decide) h (fun h => ?_) (fun h => ?_)
      · refine z_sub [0, 1] rfl ?_
        exact hk M h
      · refine z_aload_n Z dX2_layFixed_8 rfl 0 rfl ?_
        refine gC_X2_9_46 X dX2_layFixed_9 ?_
        refine z_iload_n Z dX2_layFixed_12 rfl 2 rfl ?_
        refine z_iconst Z dX2_layFixed_13 ?_
        refine srC_47 X dX2_layFixed_14 h (fun M1 h => ?_)
        refine z_iincn Z (fun z => [(2, .int (z_I z)), (0, .ref (ad 46)), (1, .ref (ad 58))]) dX2_layFixed_15 (k := 2) rfl (by decide) (fun _ => rfl) h (fun v2_ h => ?_)
        refine z_goto (tgt := 2) Z dX2_layFixed_18 (by decide) ?_
        refine z_sub [1, 2, 0] rfl ?_
        exact ih v2_ M1 h
set_option maxRecDepth 100000 in
set_option maxHeartbeats 4000000 in
theorem wLaws_layFixed_23 {p : Program} {l : Launch} {e : Env} {R : Room} {s : State} {m : MethodId} {args : Array Value} {below : List Frame} {meth : Method} {c : Code} {D : va_G} {A : Nat → Prop} {cI cZ : ClassId} {adK adV ad : Nat → Nat} {r : Int} {M' : zMem} {ca : Nat} (X : z_X p m c cX2_layFixed 3 s args RX2 R 4 D cI cZ A adK adV) (hr : meth.sig.returnType = none) (hlk : meth.locks = false) (hcell : ca = 57 ∨ ca = 58) (N : Nat) (k : zMem → zO) (hk : ∀ (M : zMem), k M = some (r, M') → z_V p l e R s m args below meth c D A cI cZ 3 (wC cI cZ ad) M' none M 55 [] []) : ∀ (n : Nat) (v2 : Int) (M : zMem), Laws_layFixed_23 N ca k n v2 M = some (r, M') → z_V p l e R s m args below meth c D A cI cZ 3 (wC cI cZ ad) M' none M 23 [(0, .ref (ad 46)), (1, .ref (ad ca)), (2, .int (z_I v2))] [] := by
  rcases hcell with rfl | rfl
  · have Z := X.1
    intro n
    induction n with
    | zero =>
      intro v2 M h
      rw [Laws_layFixed_23] at h
      cases h
    | succ n ih =>
      intro v2 M h
      rw [Laws_layFixed_23] at h
      refine z_iload_n Z dX2_layFixed_23 rfl 2 rfl ?_
      refine z_aload_n Z dX2_layFixed_24 rfl 0 rfl ?_
      refine gC_X2_15_46 X dX2_layFixed_25 ?_
      refine gC_X2_69_19 X dX2_layFixed_28 ?_
      refine z_icmp_ge (tgt := 55) Z dX2_layFixed_31 (by decide) h (fun h => ?_) (fun h => ?_)
      · refine z_sub [] rfl ?_
        exact hk M h
      · refine z_aload_n Z dX2_layFixed_34 rfl 0 rfl ?_
        refine z_aload_n Z dX2_layFixed_35 rfl 1 rfl ?_
        refine z_iload_n Z dX2_layFixed_36 rfl 2 rfl ?_
        refine z_aload_n Z dX2_layFixed_37 rfl 0 rfl ?_
        refine gC_X2_15_46 X dX2_layFixed_38 ?_
        refine gC_X2_72_19 X dX2_layFixed_41 ?_
        refine z_iload_n Z dX2_layFixed_44 rfl 2 rfl ?_
        refine ldC_21 X dX2_layFixed_45 h (fun x0 h => ?_)
        obtain ⟨u_, M1, hf, h⟩ := z_cld h
        refine z_callVv (Wd := wC cI cZ ad) X (c_X2_lay (Or.inl rfl) hf) ml_X2_48 yd_X2_lay yw_X2_lay (by omega) (by decide) (rC_46 X) rfl rfl (Nat.le_of_ble_eq_true rfl) ⟨Nat.zero_le _, Nat.zero_le _⟩ dX2_layFixed_46 ?_
        refine z_iincn Z (fun z => [(2, .int (z_I z)), (0, .ref (ad 46)), (1, .ref (ad 57))]) dX2_layFixed_49 (k := 2) rfl (by decide) (fun _ => rfl) h (fun v2_ h => ?_)
        refine z_goto (tgt := 23) Z dX2_layFixed_52 (by decide) ?_
        refine z_sub [1, 2, 0] rfl ?_
        exact ih v2_ M1 h
  · have Z := X.1
    intro n
    induction n with
    | zero =>
      intro v2 M h
      rw [Laws_layFixed_23] at h
      cases h
    | succ n ih =>
      intro v2 M h
      rw [Laws_layFixed_23] at h
      refine z_iload_n Z dX2_layFixed_23 rfl 2 rfl ?_
      refine z_aload_n Z dX2_layFixed_24 rfl 0 rfl ?_
      refine gC_X2_15_46 X dX2_layFixed_25 ?_
      refine gC_X2_69_19 X dX2_layFixed_28 ?_
      refine z_icmp_ge (tgt := 55) Z dX2_layFixed_31 (by decide) h (fun h => ?_) (fun h => ?_)
      · refine z_sub [] rfl ?_
        exact hk M h
      · refine z_aload_n Z dX2_layFixed_34 rfl 0 rfl ?_
        refine z_aload_n Z dX2_layFixed_35 rfl 1 rfl ?_
        refine z_iload_n Z dX2_layFixed_36 rfl 2 rfl ?_
        refine z_aload_n Z dX2_layFixed_37 rfl 0 rfl ?_
        refine gC_X2_15_46 X dX2_layFixed_38 ?_
        refine gC_X2_72_19 X dX2_layFixed_41 ?_
        refine z_iload_n Z dX2_layFixed_44 rfl 2 rfl ?_
        refine ldC_21 X dX2_layFixed_45 h (fun x0 h => ?_)
        obtain ⟨u_, M1, hf, h⟩ := z_cld h
        refine z_callVv (Wd := wC cI cZ ad) X (c_X2_lay (Or.inr (rfl)) hf) ml_X2_48 yd_X2_lay yw_X2_lay (by omega) (by decide) (rC_46 X) rfl rfl (Nat.le_of_ble_eq_true rfl) ⟨Nat.zero_le _, Nat.zero_le _⟩ dX2_layFixed_46 ?_
        refine z_iincn Z (fun z => [(2, .int (z_I z)), (0, .ref (ad 46)), (1, .ref (ad 58))]) dX2_layFixed_49 (k := 2) rfl (by decide) (fun _ => rfl) h (fun v2_ h => ?_)
        refine z_goto (tgt := 23) Z dX2_layFixed_52 (by decide) ?_
        refine z_sub [1, 2, 0] rfl ?_
        exact ih v2_ M1 h
set_option maxRecDepth 100000 in
set_option maxHeartbeats 4000000 in
theorem c_X2_layFixed {l : Launch} {D : va_G} {cI cZ : ClassId} {ad adK adV : Nat → Nat} {N : Nat} {ca : Nat} (hcell : ca = 57 ∨ ca = 58) {M M' : zMem} {r : Int} (h : Laws_layFixed N ca M = some (r, M')) : z_Ct (wC cI cZ ad) D cI cZ adK adV l yX2_layFixed cX2_layFixed 3 none 4 [.ref (ad 46), .ref (ad ca)] M M' none := by
  unfold Laws_layFixed at h
  rcases hcell with rfl | rfl
  · refine z_entry (own := RX2) rfl (by decide) (Nat.le_of_ble_eq_true rfl) ?_
    intro p e s m args below meth c R A X hr hlk
    have Z := X.1
    refine z_sub (lv' := [(0, .ref (ad 46)), (1, .ref (ad 57))]) [0, 1] rfl ?_
    refine z_iconst Z dX2_layFixed_0 ?_
    refine z_istore_n (lv' := [(2, .int (z_I 0)), (0, .ref (ad 46)), (1, .ref (ad 57))]) Z dX2_layFixed_1 rfl (by decide) rfl ?_
    refine z_jnr (P := fun (k : zMem → zO) => ∀ (M1 : zMem), k M1 = some (r, M') → z_V p l e R s m args below meth c D A cI cZ 3 (wC cI cZ ad) M' none M1 21 [(0, .ref (ad 46)), (1, .ref (ad 57))] []) h ?_ ?_
    · intro M1 h
      refine z_iconst Z dX2_layFixed_21 ?_
      refine z_istore_n (lv' := [(2, .int (z_I 0)), (0, .ref (ad 46)), (1, .ref (ad 57))]) Z dX2_layFixed_22 rfl (by decide) rfl ?_
      refine z_jnr (P := fun (k : zMem → zO) => ∀ (M2 : zMem), k M2 = some (r, M') → z_V p l e R s m args below meth c D A cI cZ 3 (wC cI cZ ad) M' none M2 55 [] []) h ?_ ?_
      · intro M2 h
        exact z_vret X hr hlk dX2_layFixed_55 h
      · intro k1 hk1 h
        refine z_sub [1, 2, 0] rfl ?_
        exact wLaws_layFixed_23 X hr hlk (Or.inl rfl) N k1 hk1 N 0 M1 h
    · intro k0 hk0 h
      refine z_sub [1, 2, 0] rfl ?_
      exact wLaws_layFixed_2 X hr hlk (Or.inl rfl) N k0 hk0 N 0 M h
  · refine z_entry (own := RX2) rfl (by decide) (Nat.le_of_ble_eq_true rfl) ?_
    intro p e s m args below meth c R A X hr hlk
    have Z := X.1
    refine z_sub (lv' := [(0, .ref (ad 46)), (1, .ref (ad 58))]) [0, 1] rfl ?_
    refine z_iconst Z dX2_layFixed_0 ?_
    refine z_istore_n (lv' := [(2, .int (z_I 0)), (0, .ref (ad 46)), (1, .ref (ad 58))]) Z dX2_layFixed_1 rfl (by decide) rfl ?_
    refine z_jnr (P := fun (k : zMem → zO) => ∀ (M1 : zMem), k M1 = some (r, M') → z_V p l e R s m args below meth c D A cI cZ 3 (wC cI cZ ad) M' none M1 21 [(0, .ref (ad 46)), (1, .ref (ad 58))] []) h ?_ ?_
    · intro M1 h
      refine z_iconst Z dX2_layFixed_21 ?_
      refine z_istore_n (lv' := [(2, .int (z_I 0)), (0, .ref (ad 46)), (1, .ref (ad 58))]) Z dX2_layFixed_22 rfl (by decide) rfl ?_
      refine z_jnr (P := fun (k : zMem → zO) => ∀ (M2 : zMem), k M2 = some (r, M') → z_V p l e R s m args below meth c D A cI cZ 3 (wC cI cZ ad) M' none M2 55 [] []) h ?_ ?_
      · intro M2 h
        exact z_vret X hr hlk dX2_layFixed_55 h
      · intro k1 hk1 h
        refine z_sub [1, 2, 0] rfl ?_
        exact wLaws_layFixed_23 X hr hlk (Or.inr (rfl)) N k1 hk1 N 0 M1 h
    · intro k0 hk0 h
      refine z_sub [1, 2, 0] rfl ?_
      exact wLaws_layFixed_2 X hr hlk (Or.inr (rfl)) N k0 hk0 N 0 M h
set_option maxRecDepth 100000 in
set_option maxHeartbeats 4000000 in
theorem wLaws_leastFree_2 {p : Program} {l : Launch} {e : Env} {R : Room} {s : State} {m : MethodId} {args : Array Value} {below : List Frame} {meth : Method} {c : Code} {D : va_G} {A : Nat → Prop} {cI cZ : ClassId} {adK adV ad : Nat → Nat} {r : Int} {M' : zMem} (X : z_X p m c cX2_leastFree 2 s args RX2 R 2 D cI cZ A adK adV) (hr : meth.sig.returnType = some .int) (hlk : meth.locks = false) (N : Nat) (k : zMem → zO) (hk : ∀ (M : zMem), k M = some (r, M') → z_V p l e R s m args below meth c D A cI cZ 2 (wC cI cZ ad) M' (some (.int (z_I r))) M 30 [] []) : ∀ (n : Nat) (v1 : Int) (M : zMem), Laws_leastFree_2 N k n v1 M = some (r, M') → z_V p l e R s m args below meth c D A cI cZ 2 (wC cI cZ ad) M' (some (.int (z_I r))) M 2 [(0, .ref (ad 46)), (1, .int (z_I v1))] [] := by
  have Z := X.1
  intro n
  induction n with
  | zero =>
    intro v1 M h
    rw [Laws_leastFree_2] at h
    cases h
  | succ n ih =>
    intro v1 M h
    rw [Laws_leastFree_2] at h
    refine z_iload_n Z dX2_leastFree_2 rfl 1 rfl ?_
    refine z_aload_n Z dX2_leastFree_3 rfl 0 rfl ?_
    refine gC_X2_15_46 X dX2_leastFree_4 ?_
    obtain ⟨r_, M1, hf, h⟩ := z_cld h
    refine z_callVi (Wd := wC cI cZ ad) X (c_X3_addresses (Or.inr (rfl)) hf) ml_X2_83 yd_X3_addresses yw_X3_addresses (by omega) (by decide) (rC_19 X) rfl rfl (Nat.le_of_ble_eq_true rfl) ⟨Nat.zero_le _, Nat.zero_le _⟩ dX2_leastFree_7 ?_
    refine z_icmp_ge (tgt := 30) Z dX2_leastFree_10 (by decide) h (fun h => ?_) (fun h => ?_)
    · refine z_sub [] rfl ?_
      exact hk M1 h
    · refine z_aload_n Z dX2_leastFree_13 rfl 0 rfl ?_
      refine gC_X2_9_46 X dX2_leastFree_14 ?_
      refine z_iload_n Z dX2_leastFree_17 rfl 1 rfl ?_
      refine ldC_47 X dX2_leastFree_18 h (fun x0 h => ?_)
      refine z_if_ne (tgt := 24) Z dX2_leastFree_19 (by decide) h (fun h => ?_) (fun h => ?_)
      · refine z_iincn Z (fun z => [(1, .int (z_I z)), (0, .ref (ad 46))]) dX2_leastFree_24 (k := 1) rfl (by decide) (fun _ => rfl) h (fun v1_ h => ?_)
        refine z_goto (tgt := 2) Z dX2_leastFree_27 (by decide) ?_
        refine z_sub [1, 0] rfl ?_
        exact ih v1_ M1 h
      · refine z_iload_n Z dX2_leastFree_22 rfl 1 rfl ?_
        exact z_iret X hr hlk dX2_leastFree_23 h
set_option maxRecDepth 100000 in
set_option maxHeartbeats 4000000 in
theorem c_X2_leastFree {l : Launch} {D : va_G} {cI cZ : ClassId} {ad adK adV : Nat → Nat} {N : Nat} {M M' : zMem} {r : Int} (h : Laws_leastFree N M = some (r, M')) : z_Ct (wC cI cZ ad) D cI cZ adK adV l yX2_leastFree cX2_leastFree 2 (some .int) 2 [.ref (ad 46)] M M' (some (.int (z_I r))) := by
  unfold Laws_leastFree at h
  refine z_entry (own := RX2) rfl (by decide) (Nat.le_of_ble_eq_true rfl) ?_
  intro p e s m args below meth c R A X hr hlk
  have Z := X.1
  refine z_sub (lv' := [(0, .ref (ad 46))]) [0] rfl ?_
  refine z_iconst Z dX2_leastFree_0 ?_
  refine z_istore_n (lv' := [(1, .int (z_I 0)), (0, .ref (ad 46))]) Z dX2_leastFree_1 rfl (by decide) rfl ?_
  refine z_jnr (P := fun (k : zMem → zO) => ∀ (M1 : zMem), k M1 = some (r, M') → z_V p l e R s m args below meth c D A cI cZ 2 (wC cI cZ ad) M' (some (.int (z_I r))) M1 30 [] []) h ?_ ?_
  · intro M1 h
    refine z_iconst Z dX2_leastFree_30 ?_
    exact z_iret X hr hlk dX2_leastFree_31 h
  · intro k0 hk0 h
    refine z_sub [1, 0] rfl ?_
    exact wLaws_leastFree_2 X hr hlk N k0 hk0 N 0 M h
set_option maxRecDepth 100000 in
set_option maxHeartbeats 4000000 in
theorem wLaws_layRest_2 {p : Program} {l : Launch} {e : Env} {R : Room} {s : State} {m : MethodId} {args : Array Value} {below : List Frame} {meth : Method} {c : Code} {D : va_G} {A : Nat → Prop} {cI cZ : ClassId} {adK adV ad : Nat → Nat} {r : Int} {M' : zMem} {ca : Nat} (X : z_X p m c cX2_layRest 3 s args RX2 R 4 D cI cZ A adK adV) (hr : meth.sig.returnType = none) (hlk : meth.locks = false) (hcell : ca = 57 ∨ ca = 58) (N : Nat) (k : zMem → zO) (hk : ∀ (M : zMem), k M = some (r, M') → z_V p l e R s m args below meth c D A cI cZ 3 (wC cI cZ ad) M' none M 36 [] []) : ∀ (n : Nat) (v2 : Int) (M : zMem), Laws_layRest_2 N ca k n v2 M = some (r, M') → z_V p l e R s m args below meth c D A cI cZ 3 (wC cI cZ ad) M' none M 2 [(0, .ref (ad 46)), (1, .ref (ad ca)), (2, .int (z_I v2))] [] := by
  rcases hcell with rfl | rfl
  · have Z := X.1
    intro n
    induction n with
    | zero =>
      intro v2 M h
      rw [Laws_layRest_2] at h
      cases h
    | succ n ih =>
      intro v2 M h
      rw [Laws_layRest_2] at h
      refine z_iload_n Z dX2_layRest_2 rfl 2 rfl ?_
      refine z_aload_n Z dX2_layRest_3 rfl 0 rfl ?_
      refine gC_X2_15_46 X dX2_layRest_4 ?_
      refine gC_X2_69_19 X dX2_layRest_7 ?_
      refine z_icmp_ge (tgt := 36) Z dX2_layRest_10 (by decide) h (fun h => ?_) (fun h => ?_)
      · refine z_sub [] rfl ?_
        exact hk M h
      · refine z_aload_n Z dX2_layRest_13 rfl 1 rfl ?_
        refine z_iload_n Z dX2_layRest_14 rfl 2 rfl ?_
        refine ldC_57 X dX2_layRest_15 h (fun x0 h => ?_)
        refine z_iconst Z dX2_layRest_16 ?_
        refine z_jnr (P := fun (k : zMem → zO) => ∀ (M1 : zMem), k M1 = some (r, M') → z_V p l e R s m args below meth c D A cI cZ 3 (wC cI cZ ad) M' none M1 30 [(0, .ref (ad 46)), (1, .ref (ad 57)), (2, .int (z_I v2))] []) h ?_ ?_
        · intro M1 h
          refine z_iincn Z (fun z => [(2, .int (z_I z)), (0, .ref (ad 46)), (1, .ref (ad 57))]) dX2_layRest_30 (k := 2) rfl (by decide) (fun _ => rfl) h (fun v2_ h => ?_)
          refine z_goto (tgt := 2) Z dX2_layRest_33 (by decide) ?_
          refine z_sub [1, 2, 0] rfl ?_
          exact ih v2_ M1 h
        · intro k1 hk1 h
          refine z_icmp_ne (tgt := 30) Z dX2_layRest_17 (by decide) h (fun h => ?_) (fun h => ?_)
          · refine z_sub [0, 1, 2] rfl ?_
            exact hk1 M h
          · refine z_aload_n Z dX2_layRest_20 rfl 0 rfl ?_
            refine z_aload_n Z dX2_layRest_21 rfl 1 rfl ?_
            refine z_iload_n Z dX2_layRest_22 rfl 2 rfl ?_
            refine z_aload_n Z dX2_layRest_23 rfl 0 rfl ?_
            obtain ⟨r_, M2, hf, h⟩ := z_cld h
            refine z_callVi (Wd := wC cI cZ ad) X (c_X2_leastFree hf) ml_X2_75 yd_X2_leastFree yw_X2_leastFree (by omega) (by decide) (rC_46 X) rfl rfl (Nat.le_of_ble_eq_true rfl) ⟨Nat.zero_le _, Nat.zero_le _⟩ dX2_layRest_24 ?_
            obtain ⟨u_, M3, hf1, h⟩ := z_cld h
            refine z_callVv (Wd := wC cI cZ ad) X (c_X2_lay (Or.inl rfl) hf1) ml_X2_48 yd_X2_lay yw_X2_lay (by omega) (by decide) (rC_46 X) rfl rfl (Nat.le_of_ble_eq_true rfl) ⟨Nat.zero_le _, Nat.zero_le _⟩ dX2_layRest_27 ?_
            refine z_sub [0, 1, 2] rfl ?_
            exact hk1 M3 h
  · have Z := X.1
    intro n
    induction n with
    | zero =>
      intro v2 M h
      rw [Laws_layRest_2] at h
      cases h
    | succ n ih =>
      intro v2 M h
      rw [Laws_layRest_2] at h
      refine z_iload_n Z dX2_layRest_2 rfl 2 rfl ?_
      refine z_aload_n Z dX2_layRest_3 rfl 0 rfl ?_
      refine gC_X2_15_46 X dX2_layRest_4 ?_
      refine gC_X2_69_19 X dX2_layRest_7 ?_
      refine z_icmp_ge (tgt := 36) Z dX2_layRest_10 (by decide) h (fun h => ?_) (fun h => ?_)
      · refine z_sub [] rfl ?_
        exact hk M h
      · refine z_aload_n Z dX2_layRest_13 rfl 1 rfl ?_
        refine z_iload_n Z dX2_layRest_14 rfl 2 rfl ?_
        refine ldC_58 X dX2_layRest_15 h (fun x0 h => ?_)
        refine z_iconst Z dX2_layRest_16 ?_
        refine z_jnr (P := fun (k : zMem → zO) => ∀ (M1 : zMem), k M1 = some (r, M') → z_V p l e R s m args below meth c D A cI cZ 3 (wC cI cZ ad) M' none M1 30 [(0, .ref (ad 46)), (1, .ref (ad 58)), (2, .int (z_I v2))] []) h ?_ ?_
        · intro M1 h
          refine z_iincn Z (fun z => [(2, .int (z_I z)), (0, .ref (ad 46)), (1, .ref (ad 58))]) dX2_layRest_30 (k := 2) rfl (by decide) (fun _ => rfl) h (fun v2_ h => ?_)
          refine z_goto (tgt := 2) Z dX2_layRest_33 (by decide) ?_
          refine z_sub [1, 2, 0] rfl ?_
          exact ih v2_ M1 h
        · intro k1 hk1 h
          refine z_icmp_ne (tgt := 30) Z dX2_layRest_17 (by decide) h (fun h => ?_) (fun h => ?_)
          · refine z_sub [0, 1, 2] rfl ?_
            exact hk1 M h
          · refine z_aload_n Z dX2_layRest_20 rfl 0 rfl ?_
            refine z_aload_n Z dX2_layRest_21 rfl 1 rfl ?_
            refine z_iload_n Z dX2_layRest_22 rfl 2 rfl ?_
            refine z_aload_n Z dX2_layRest_23 rfl 0 rfl ?_
            obtain ⟨r_, M2, hf, h⟩ := z_cld h
            refine z_callVi (Wd := wC cI cZ ad) X (c_X2_leastFree hf) ml_X2_75 yd_X2_leastFree yw_X2_leastFree (by omega) (by decide) (rC_46 X) rfl rfl (Nat.le_of_ble_eq_true rfl) ⟨Nat.zero_le _, Nat.zero_le _⟩ dX2_layRest_24 ?_
            obtain ⟨u_, M3, hf1, h⟩ := z_cld h
            refine z_callVv (Wd := wC cI cZ ad) X (c_X2_lay (Or.inr (rfl)) hf1) ml_X2_48 yd_X2_lay yw_X2_lay (by omega) (by decide) (rC_46 X) rfl rfl (Nat.le_of_ble_eq_true rfl) ⟨Nat.zero_le _, Nat.zero_le _⟩ dX2_layRest_27 ?_
            refine z_sub [0, 1, 2] rfl ?_
            exact hk1 M3 h
set_option maxRecDepth 100000 in
set_option maxHeartbeats 4000000 in
theorem c_X2_layRest {l : Launch} {D : va_G} {cI cZ : ClassId} {ad adK adV : Nat → Nat} {N : Nat} {ca : Nat} (hcell : ca = 57 ∨ ca = 58) {M M' : zMem} {r : Int} (h : Laws_layRest N ca M = some (r, M')) : z_Ct (wC cI cZ ad) D cI cZ adK adV l yX2_layRest cX2_layRest 3 none 4 [.ref (ad 46), .ref (ad ca)] M M' none := by
  unfold Laws_layRest at h
  rcases hcell with rfl | rfl
  · refine z_entry (own := RX2) rfl (by decide) (Nat.le_of_ble_eq_true rfl) ?_
    intro p e s m args below meth c R A X hr hlk
    have Z := X.1
    refine z_sub (lv' := [(0, .ref (ad 46)), (1, .ref (ad 57))]) [0, 1] rfl ?_
    refine z_iconst Z dX2_layRest_0 ?_
    refine z_istore_n (lv' := [(2, .int (z_I 0)), (0, .ref (ad 46)), (1, .ref (ad 57))]) Z dX2_layRest_1 rfl (by decide) rfl ?_
    refine z_jnr (P := fun (k : zMem → zO) => ∀ (M1 : zMem), k M1 = some (r, M') → z_V p l e R s m args below meth c D A cI cZ 3 (wC cI cZ ad) M' none M1 36 [] []) h ?_ ?_
    · intro M1 h
      exact z_vret X hr hlk dX2_layRest_36 h
    · intro k0 hk0 h
      refine z_sub [1, 2, 0] rfl ?_
      exact wLaws_layRest_2 X hr hlk (Or.inl rfl) N k0 hk0 N 0 M h
  · refine z_entry (own := RX2) rfl (by decide) (Nat.le_of_ble_eq_true rfl) ?_
    intro p e s m args below meth c R A X hr hlk
    have Z := X.1
    refine z_sub (lv' := [(0, .ref (ad 46)), (1, .ref (ad 58))]) [0, 1] rfl ?_
    refine z_iconst Z dX2_layRest_0 ?_
    refine z_istore_n (lv' := [(2, .int (z_I 0)), (0, .ref (ad 46)), (1, .ref (ad 58))]) Z dX2_layRest_1 rfl (by decide) rfl ?_
    refine z_jnr (P := fun (k : zMem → zO) => ∀ (M1 : zMem), k M1 = some (r, M') → z_V p l e R s m args below meth c D A cI cZ 3 (wC cI cZ ad) M' none M1 36 [] []) h ?_ ?_
    · intro M1 h
      exact z_vret X hr hlk dX2_layRest_36 h
    · intro k0 hk0 h
      refine z_sub [1, 2, 0] rfl ?_
      exact wLaws_layRest_2 X hr hlk (Or.inr (rfl)) N k0 hk0 N 0 M h
set_option maxRecDepth 100000 in
set_option maxHeartbeats 4000000 in
theorem c_X2_layInOrder {l : Launch} {D : va_G} {cI cZ : ClassId} {ad adK adV : Nat → Nat} {N : Nat} {ca : Nat} (hcell : ca = 57 ∨ ca = 58) {M M' : zMem} {r : Int} (h : Laws_layInOrder N ca M = some (r, M')) : z_Ct (wC cI cZ ad) D cI cZ adK adV l yX2_layInOrder cX2_layInOrder 2 none 5 [.ref (ad 46), .ref (ad ca)] M M' none := by
  unfold Laws_layInOrder at h
  rcases hcell with rfl | rfl
  · refine z_entry (own := RX2) rfl (by decide) (Nat.le_of_ble_eq_true rfl) ?_
    intro p e s m args below meth c R A X hr hlk
    have Z := X.1
    refine z_sub (lv' := [(0, .ref (ad 46)), (1, .ref (ad 57))]) [0, 1] rfl ?_
    refine z_aload_n Z dX2_layInOrder_0 rfl 0 rfl ?_
    refine z_aload_n Z dX2_layInOrder_1 rfl 1 rfl ?_
    obtain ⟨u_, M1, hf, h⟩ := z_cld h
    refine z_callVv (Wd := wC cI cZ ad) X (c_X2_layFixed (Or.inl rfl) hf) ml_X2_27 yd_X2_layFixed yw_X2_layFixed (by omega) (by decide) (rC_46 X) rfl rfl (Nat.le_of_ble_eq_true rfl) ⟨Nat.zero_le _, Nat.zero_le _⟩ dX2_layInOrder_2 ?_
    refine z_aload_n Z dX2_layInOrder_5 rfl 0 rfl ?_
    refine z_aload_n Z dX2_layInOrder_6 rfl 1 rfl ?_
    obtain ⟨u_1, M2, hf1, h⟩ := z_cld h
    refine z_callVv (Wd := wC cI cZ ad) X (c_X2_layRest (Or.inl rfl) hf1) ml_X2_31 yd_X2_layRest yw_X2_layRest (by omega) (by decide) (rC_46 X) rfl rfl (Nat.le_of_ble_eq_true rfl) ⟨Nat.zero_le _, Nat.zero_le _⟩ dX2_layInOrder_7 ?_
    exact z_vret X hr hlk dX2_layInOrder_10 h
  · refine z_entry (own := RX2) rfl (by decide) (Nat.le_of_ble_eq_true rfl) ?_
    intro p e s m args below meth c R A X hr hlk
    have Z := X.1
    refine z_sub (lv' := [(0, .ref (ad 46)), (1, .ref (ad 58))]) [0, 1] rfl ?_
    refine z_aload_n Z dX2_layInOrder_0 rfl 0 rfl ?_
    refine z_aload_n Z dX2_layInOrder_1 rfl 1 rfl ?_
    obtain ⟨u_, M1, hf, h⟩ := z_cld h
    refine z_callVv (Wd := wC cI cZ ad) X (c_X2_layFixed (Or.inr (rfl)) hf) ml_X2_27 yd_X2_layFixed yw_X2_layFixed (by omega) (by decide) (rC_46 X) rfl rfl (Nat.le_of_ble_eq_true rfl) ⟨Nat.zero_le _, Nat.zero_le _⟩ dX2_layInOrder_2 ?_
    refine z_aload_n Z dX2_layInOrder_5 rfl 0 rfl ?_
    refine z_aload_n Z dX2_layInOrder_6 rfl 1 rfl ?_
    obtain ⟨u_1, M2, hf1, h⟩ := z_cld h
    refine z_callVv (Wd := wC cI cZ ad) X (c_X2_layRest (Or.inr (rfl)) hf1) ml_X2_31 yd_X2_layRest yw_X2_layRest (by omega) (by decide) (rC_46 X) rfl rfl (Nat.le_of_ble_eq_true rfl) ⟨Nat.zero_le _, Nat.zero_le _⟩ dX2_layInOrder_7 ?_
    exact z_vret X hr hlk dX2_layInOrder_10 h
set_option maxRecDepth 100000 in
set_option maxHeartbeats 4000000 in
theorem c_X9_copyItems {l : Launch} {D : va_G} {cI cZ : ClassId} {ad adK adV : Nat → Nat} {ca : Nat} {cb : Nat} (hcell : (ca = 11 ∧ cb = 20) ∨ (ca = 12 ∧ cb = 21) ∨ (ca = 13 ∧ cb = 22) ∨ (ca = 14 ∧ cb = 23) ∨ (ca = 15 ∧ cb = 24) ∨ (ca = 16 ∧ cb = 25) ∨ (ca = 18 ∧ cb = 27) ∨ (ca = 22 ∧ cb = 29) ∨ (ca = 23 ∧ cb = 30) ∨ (ca = 50 ∧ cb = 54) ∨ (ca = 54 ∧ cb = 58) ∨ (ca = 54 ∧ cb = 57)) {M M' : zMem} {r : Int} (h : Drum_copyItems ca cb M = some (r, M')) : z_Ct (wC cI cZ ad) D cI cZ adK adV l yX9_copyItems cX9_copyItems 2 none 3 [.ref (ad ca), .ref (ad cb)] M M' none := by
  unfold Drum_copyItems at h
  rcases hcell with ⟨rfl, rfl⟩ | ⟨rfl, rfl⟩ | ⟨rfl, rfl⟩ | ⟨rfl, rfl⟩ | ⟨rfl, rfl⟩ | ⟨rfl, rfl⟩ | ⟨rfl, rfl⟩ | ⟨rfl, rfl⟩ | ⟨rfl, rfl⟩ | ⟨rfl, rfl⟩ | ⟨rfl, rfl⟩ | ⟨rfl, rfl⟩
  · refine z_entry (own := RX9) rfl (by decide) (Nat.le_of_ble_eq_true rfl) ?_
    intro p e s m args below meth c R A X hr hlk
    have Z := X.1
    refine z_sub (lv' := [(0, .ref (ad 11)), (1, .ref (ad 20))]) [0, 1] rfl ?_
    refine z_aload_n Z dX9_copyItems_0 rfl 0 rfl ?_
    refine z_iconst Z dX9_copyItems_1 ?_
    refine z_aload_n Z dX9_copyItems_2 rfl 1 rfl ?_
    refine z_iconst Z dX9_copyItems_3 ?_
    refine z_bipush Z dX9_copyItems_4 rfl ?_
    refine z_copy (Wd := wC cI cZ ad) X ml_X9_299 aw_copy (by omega) aC_11 aC_20 rfl rfl (by decide) (by decide) tC_20 (Nat.le_of_ble_eq_true rfl) dX9_copyItems_6 h (fun M1 h => ?_)
    exact z_vret X hr hlk dX9_copyItems_9 h
  · refine z_entry (own := RX9) rfl (by decide) (Nat.le_of_ble_eq_true rfl) ?_
    intro p e s m args below meth c R A X hr hlk
    have Z := X.1
    refine z_sub (lv' := [(0, .ref (ad 12)), (1, .ref (ad 21))]) [0, 1] rfl ?_
    refine z_aload_n Z dX9_copyItems_0 rfl 0 rfl ?_
    refine z_iconst Z dX9_copyItems_1 ?_
    refine z_aload_n Z dX9_copyItems_2 rfl 1 rfl ?_
    refine z_iconst Z dX9_copyItems_3 ?_
    refine z_bipush Z dX9_copyItems_4 rfl ?_
    refine z_copy (Wd := wC cI cZ ad) X ml_X9_299 aw_copy (by omega) aC_12 aC_21 rfl rfl (by decide) (by decide) tC_21 (Nat.le_of_ble_eq_true rfl) dX9_copyItems_6 h (fun M1 h => ?_)
    exact z_vret X hr hlk dX9_copyItems_9 h
  · refine z_entry (own := RX9) rfl (by decide) (Nat.le_of_ble_eq_true rfl) ?_
    intro p e s m args below meth c R A X hr hlk
    have Z := X.1
    refine z_sub (lv' := [(0, .ref (ad 13)), (1, .ref (ad 22))]) [0, 1] rfl ?_
    refine z_aload_n Z dX9_copyItems_0 rfl 0 rfl ?_
    refine z_iconst Z dX9_copyItems_1 ?_
    refine z_aload_n Z dX9_copyItems_2 rfl 1 rfl ?_
    refine z_iconst Z dX9_copyItems_3 ?_
    refine z_bipush Z dX9_copyItems_4 rfl ?_
    refine z_copy (Wd := wC cI cZ ad) X ml_X9_299 aw_copy (by omega) aC_13 aC_22 rfl rfl (by decide) (by decide) tC_22 (Nat.le_of_ble_eq_true rfl) dX9_copyItems_6 h (fun M1 h => ?_)
    exact z_vret X hr hlk dX9_copyItems_9 h
  · refine z_entry (own := RX9) rfl (by decide) (Nat.le_of_ble_eq_true rfl) ?_
    intro p e s m args below meth c R A X hr hlk
    have Z := X.1
    refine z_sub (lv' := [(0, .ref (ad 14)), (1, .ref (ad 23))]) [0, 1] rfl ?_
    refine z_aload_n Z dX9_copyItems_0 rfl 0 rfl ?_
    refine z_iconst Z dX9_copyItems_1 ?_
    refine z_aload_n Z dX9_copyItems_2 rfl 1 rfl ?_
    refine z_iconst Z dX9_copyItems_3 ?_
    refine z_bipush Z dX9_copyItems_4 rfl ?_
    refine z_copy (Wd := wC cI cZ ad) X ml_X9_299 aw_copy (by omega) aC_14 aC_23 rfl rfl (by decide) (by decide) tC_23 (Nat.le_of_ble_eq_true rfl) dX9_copyItems_6 h (fun M1 h => ?_)
    exact z_vret X hr hlk dX9_copyItems_9 h
  · refine z_entry (own := RX9) rfl (by decide) (Nat.le_of_ble_eq_true rfl) ?_
    intro p e s m args below meth c R A X hr hlk
    have Z := X.1
    refine z_sub (lv' := [(0, .ref (ad 15)), (1, .ref (ad 24))]) [0, 1] rfl ?_
    refine z_aload_n Z dX9_copyItems_0 rfl 0 rfl ?_
    refine z_iconst Z dX9_copyItems_1 ?_
    refine z_aload_n Z dX9_copyItems_2 rfl 1 rfl ?_
    refine z_iconst Z dX9_copyItems_3 ?_
    refine z_bipush Z dX9_copyItems_4 rfl ?_
    refine z_copy (Wd := wC cI cZ ad) X ml_X9_299 aw_copy (by omega) aC_15 aC_24 rfl rfl (by decide) (by decide) tC_24 (Nat.le_of_ble_eq_true rfl) dX9_copyItems_6 h (fun M1 h => ?_)
    exact z_vret X hr hlk dX9_copyItems_9 h
  · refine z_entry (own := RX9) rfl (by decide) (Nat.le_of_ble_eq_true rfl) ?_
    intro p e s m args below meth c R A X hr hlk
    have Z := X.1
    refine z_sub (lv' := [(0, .ref (ad 16)), (1, .ref (ad 25))]) [0, 1] rfl ?_
    refine z_aload_n Z dX9_copyItems_0 rfl 0 rfl ?_
    refine z_iconst Z dX9_copyItems_1 ?_
    refine z_aload_n Z dX9_copyItems_2 rfl 1 rfl ?_
    refine z_iconst Z dX9_copyItems_3 ?_
    refine z_bipush Z dX9_copyItems_4 rfl ?_
    refine z_copy (Wd := wC cI cZ ad) X ml_X9_299 aw_copy (by omega) aC_16 aC_25 rfl rfl (by decide) (by decide) tC_25 (Nat.le_of_ble_eq_true rfl) dX9_copyItems_6 h (fun M1 h => ?_)
    exact z_vret X hr hlk dX9_copyItems_9 h
  · refine z_entry (own := RX9) rfl (by decide) (Nat.le_of_ble_eq_true rfl) ?_
    intro p e s m args below meth c R A X hr hlk
    have Z := X.1
    refine z_sub (lv' := [(0, .ref (ad 18)), (1, .ref (ad 27))]) [0, 1] rfl ?_
    refine z_aload_n Z dX9_copyItems_0 rfl 0 rfl ?_
    refine z_iconst Z dX9_copyItems_1 ?_
    refine z_aload_n Z dX9_copyItems_2 rfl 1 rfl ?_
    refine z_iconst Z dX9_copyItems_3 ?_
    refine z_bipush Z dX9_copyItems_4 rfl ?_
    refine z_copy (Wd := wC cI cZ ad) X ml_X9_299 aw_copy (by omega) aC_18 aC_27 rfl rfl (by decide) (by decide) tC_27 (Nat.le_of_ble_eq_true rfl) dX9_copyItems_6 h (fun M1 h => ?_)
    exact z_vret X hr hlk dX9_copyItems_9 h
  · refine z_entry (own := RX9) rfl (by decide) (Nat.le_of_ble_eq_true rfl) ?_
    intro p e s m args below meth c R A X hr hlk
    have Z := X.1
    refine z_sub (lv' := [(0, .ref (ad 22)), (1, .ref (ad 29))]) [0, 1] rfl ?_
    refine z_aload_n Z dX9_copyItems_0 rfl 0 rfl ?_
    refine z_iconst Z dX9_copyItems_1 ?_
    refine z_aload_n Z dX9_copyItems_2 rfl 1 rfl ?_
    refine z_iconst Z dX9_copyItems_3 ?_
    refine z_bipush Z dX9_copyItems_4 rfl ?_
    refine z_copy (Wd := wC cI cZ ad) X ml_X9_299 aw_copy (by omega) aC_22 aC_29 rfl rfl (by decide) (by decide) tC_29 (Nat.le_of_ble_eq_true rfl) dX9_copyItems_6 h (fun M1 h => ?_)
    exact z_vret X hr hlk dX9_copyItems_9 h
  · refine z_entry (own := RX9) rfl (by decide) (Nat.le_of_ble_eq_true rfl) ?_
    intro p e s m args below meth c R A X hr hlk
    have Z := X.1
    refine z_sub (lv' := [(0, .ref (ad 23)), (1, .ref (ad 30))]) [0, 1] rfl ?_
    refine z_aload_n Z dX9_copyItems_0 rfl 0 rfl ?_
    refine z_iconst Z dX9_copyItems_1 ?_
    refine z_aload_n Z dX9_copyItems_2 rfl 1 rfl ?_
    refine z_iconst Z dX9_copyItems_3 ?_
    refine z_bipush Z dX9_copyItems_4 rfl ?_
    refine z_copy (Wd := wC cI cZ ad) X ml_X9_299 aw_copy (by omega) aC_23 aC_30 rfl rfl (by decide) (by decide) tC_30 (Nat.le_of_ble_eq_true rfl) dX9_copyItems_6 h (fun M1 h => ?_)
    exact z_vret X hr hlk dX9_copyItems_9 h
  · refine z_entry (own := RX9) rfl (by decide) (Nat.le_of_ble_eq_true rfl) ?_
    intro p e s m args below meth c R A X hr hlk
    have Z := X.1
    refine z_sub (lv' := [(0, .ref (ad 50)), (1, .ref (ad 54))]) [0, 1] rfl ?_
    refine z_aload_n Z dX9_copyItems_0 rfl 0 rfl ?_
    refine z_iconst Z dX9_copyItems_1 ?_
    refine z_aload_n Z dX9_copyItems_2 rfl 1 rfl ?_
    refine z_iconst Z dX9_copyItems_3 ?_
    refine z_bipush Z dX9_copyItems_4 rfl ?_
    refine z_copy (Wd := wC cI cZ ad) X ml_X9_299 aw_copy (by omega) aC_50 aC_54 rfl rfl (by decide) (by decide) tC_54 (Nat.le_of_ble_eq_true rfl) dX9_copyItems_6 h (fun M1 h => ?_)
    exact z_vret X hr hlk dX9_copyItems_9 h
  · refine z_entry (own := RX9) rfl (by decide) (Nat.le_of_ble_eq_true rfl) ?_
    intro p e s m args below meth c R A X hr hlk
    have Z := X.1
    refine z_sub (lv' := [(0, .ref (ad 54)), (1, .ref (ad 58))]) [0, 1] rfl ?_
    refine z_aload_n Z dX9_copyItems_0 rfl 0 rfl ?_
    refine z_iconst Z dX9_copyItems_1 ?_
    refine z_aload_n Z dX9_copyItems_2 rfl 1 rfl ?_
    refine z_iconst Z dX9_copyItems_3 ?_
    refine z_bipush Z dX9_copyItems_4 rfl ?_
    refine z_copy (Wd := wC cI cZ ad) X ml_X9_299 aw_copy (by omega) aC_54 aC_58 rfl rfl (by decide) (by decide) tC_58 (Nat.le_of_ble_eq_true rfl) dX9_copyItems_6 h (fun M1 h => ?_)
    exact z_vret X hr hlk dX9_copyItems_9 h
  · refine z_entry (own := RX9) rfl (by decide) (Nat.le_of_ble_eq_true rfl) ?_
    intro p e s m args below meth c R A X hr hlk
    have Z := X.1
    refine z_sub (lv' := [(0, .ref (ad 54)), (1, .ref (ad 57))]) [0, 1] rfl ?_
    refine z_aload_n Z dX9_copyItems_0 rfl 0 rfl ?_
    refine z_iconst Z dX9_copyItems_1 ?_
    refine z_aload_n Z dX9_copyItems_2 rfl 1 rfl ?_
    refine z_iconst Z dX9_copyItems_3 ?_
    refine z_bipush Z dX9_copyItems_4 rfl ?_
    refine z_copy (Wd := wC cI cZ ad) X ml_X9_299 aw_copy (by omega) aC_54 aC_57 rfl rfl (by decide) (by decide) tC_57 (Nat.le_of_ble_eq_true rfl) dX9_copyItems_6 h (fun M1 h => ?_)
    exact z_vret X hr hlk dX9_copyItems_9 h
set_option maxRecDepth 100000 in
set_option maxHeartbeats 4000000 in
theorem c_X3_copyFrom {l : Launch} {D : va_G} {cI cZ : ClassId} {ad adK adV : Nat → Nat} {M M' : zMem} {r : Int} (h : Plan_copyFrom M = some (r, M')) : z_Ct (wC cI cZ ad) D cI cZ adK adV l yX3_copyFrom cX3_copyFrom 2 none 4 [.ref (ad 19), .ref (ad 10)] M M' none := by
  unfold Plan_copyFrom at h
  refine z_entry (own := RX3) rfl (by decide) (Nat.le_of_ble_eq_true rfl) ?_
  intro p e s m args below meth c R A X hr hlk
  have Z := X.1
  refine z_sub (lv' := [(0, .ref (ad 19)), (1, .ref (ad 10))]) [0, 1] rfl ?_
  refine z_aload_n Z dX3_copyFrom_0 rfl 0 rfl ?_
  refine z_aload_n Z dX3_copyFrom_1 rfl 1 rfl ?_
  refine gC_X3_9_10 X dX3_copyFrom_2 ?_
  refine pC_X3_9_19 X dX3_copyFrom_5 h (fun M1 h => ?_)
  refine z_aload_n Z dX3_copyFrom_8 rfl 0 rfl ?_
  refine z_aload_n Z dX3_copyFrom_9 rfl 1 rfl ?_
  refine gC_X3_15_10 X dX3_copyFrom_10 ?_
  refine pC_X3_15_19 X dX3_copyFrom_13 h (fun M2 h => ?_)
  refine z_aload_n Z dX3_copyFrom_16 rfl 0 rfl ?_
  refine z_aload_n Z dX3_copyFrom_17 rfl 1 rfl ?_
  refine gC_X3_18_10 X dX3_copyFrom_18 ?_
  refine pC_X3_18_19 X dX3_copyFrom_21 h (fun M3 h => ?_)
  refine z_aload_n Z dX3_copyFrom_24 rfl 0 rfl ?_
  refine z_aload_n Z dX3_copyFrom_25 rfl 1 rfl ?_
  refine gC_X3_21_10 X dX3_copyFrom_26 ?_
  refine pC_X3_21_19 X dX3_copyFrom_29 h (fun M4 h => ?_)
  refine z_aload_n Z dX3_copyFrom_32 rfl 0 rfl ?_
  refine z_aload_n Z dX3_copyFrom_33 rfl 1 rfl ?_
  refine gC_X3_24_10 X dX3_copyFrom_34 ?_
  refine pC_X3_24_19 X dX3_copyFrom_37 h (fun M5 h => ?_)
  refine z_aload_n Z dX3_copyFrom_40 rfl 0 rfl ?_
  refine z_aload_n Z dX3_copyFrom_41 rfl 1 rfl ?_
  refine gC_X3_27_10 X dX3_copyFrom_42 ?_
  refine pC_X3_27_19 X dX3_copyFrom_45 h (fun M6 h => ?_)
  refine z_aload_n Z dX3_copyFrom_48 rfl 0 rfl ?_
  refine z_aload_n Z dX3_copyFrom_49 rfl 1 rfl ?_
  refine gC_X3_30_10 X dX3_copyFrom_50 ?_
  refine pC_X3_30_19 X dX3_copyFrom_53 h (fun M7 h => ?_)
  refine z_aload_n Z dX3_copyFrom_56 rfl 0 rfl ?_
  refine z_aload_n Z dX3_copyFrom_57 rfl 1 rfl ?_
  refine gC_X3_33_10 X dX3_copyFrom_58 ?_
  refine pC_X3_33_19 X dX3_copyFrom_61 h (fun M8 h => ?_)
  refine z_aload_n Z dX3_copyFrom_64 rfl 0 rfl ?_
  refine z_aload_n Z dX3_copyFrom_65 rfl 1 rfl ?_
  refine gC_X3_36_10 X dX3_copyFrom_66 ?_
  refine pC_X3_36_19 X dX3_copyFrom_69 h (fun M9 h => ?_)
  refine z_aload_n Z dX3_copyFrom_72 rfl 0 rfl ?_
  refine z_aload_n Z dX3_copyFrom_73 rfl 1 rfl ?_
  refine gC_X3_39_10 X dX3_copyFrom_74 ?_
  refine pC_X3_39_19 X dX3_copyFrom_77 h (fun M10 h => ?_)
  refine z_aload_n Z dX3_copyFrom_80 rfl 1 rfl ?_
  refine gC_X3_42_10 X dX3_copyFrom_81 ?_
  refine z_aload_n Z dX3_copyFrom_84 rfl 0 rfl ?_
  refine gC_X3_42_19 X dX3_copyFrom_85 ?_
  obtain ⟨u_, M11, hf, h⟩ := z_cld h
  refine z_callNv (Wd := wC cI cZ ad) X (c_X9_copyItems (Or.inl ⟨rfl, rfl⟩) hf) nl_X3_67 yd_X9_copyItems yw_X9_copyItems (by omega) (by decide) rfl rfl (Nat.le_of_ble_eq_true rfl) ⟨Nat.zero_le _, Nat.zero_le _⟩ dX3_copyFrom_88 ?_
  refine z_aload_n Z dX3_copyFrom_91 rfl 1 rfl ?_
  refine gC_X3_46_10 X dX3_copyFrom_92 ?_
  refine z_aload_n Z dX3_copyFrom_95 rfl 0 rfl ?_
  refine gC_X3_46_19 X dX3_copyFrom_96 ?_
  obtain ⟨u_1, M12, hf1, h⟩ := z_cld h
  refine z_callNv (Wd := wC cI cZ ad) X (c_X9_copyItems (Or.inr (Or.inl ⟨rfl, rfl⟩)) hf1) nl_X3_67 yd_X9_copyItems yw_X9_copyItems (by omega) (by decide) rfl rfl (Nat.le_of_ble_eq_true rfl) ⟨Nat.zero_le _, Nat.zero_le _⟩ dX3_copyFrom_99 ?_
  refine z_aload_n Z dX3_copyFrom_102 rfl 1 rfl ?_
  refine gC_X3_49_10 X dX3_copyFrom_103 ?_
  refine z_aload_n Z dX3_copyFrom_106 rfl 0 rfl ?_
  refine gC_X3_49_19 X dX3_copyFrom_107 ?_
  obtain ⟨u_2, M13, hf2, h⟩ := z_cld h
  refine z_callNv (Wd := wC cI cZ ad) X (c_X9_copyItems (Or.inr (Or.inr (Or.inl ⟨rfl, rfl⟩))) hf2) nl_X3_67 yd_X9_copyItems yw_X9_copyItems (by omega) (by decide) rfl rfl (Nat.le_of_ble_eq_true rfl) ⟨Nat.zero_le _, Nat.zero_le _⟩ dX3_copyFrom_110 ?_
  refine z_aload_n Z dX3_copyFrom_113 rfl 1 rfl ?_
  refine gC_X3_52_10 X dX3_copyFrom_114 ?_
  refine z_aload_n Z dX3_copyFrom_117 rfl 0 rfl ?_
  refine gC_X3_52_19 X dX3_copyFrom_118 ?_
  obtain ⟨u_3, M14, hf3, h⟩ := z_cld h
  refine z_callNv (Wd := wC cI cZ ad) X (c_X9_copyItems (Or.inr (Or.inr (Or.inr (Or.inl ⟨rfl, rfl⟩)))) hf3) nl_X3_67 yd_X9_copyItems yw_X9_copyItems (by omega) (by decide) rfl rfl (Nat.le_of_ble_eq_true rfl) ⟨Nat.zero_le _, Nat.zero_le _⟩ dX3_copyFrom_121 ?_
  refine z_aload_n Z dX3_copyFrom_124 rfl 1 rfl ?_
  refine gC_X3_55_10 X dX3_copyFrom_125 ?_
  refine z_aload_n Z dX3_copyFrom_128 rfl 0 rfl ?_
  refine gC_X3_55_19 X dX3_copyFrom_129 ?_
  obtain ⟨u_4, M15, hf4, h⟩ := z_cld h
  refine z_callNv (Wd := wC cI cZ ad) X (c_X9_copyItems (Or.inr (Or.inr (Or.inr (Or.inr (Or.inl ⟨rfl, rfl⟩))))) hf4) nl_X3_67 yd_X9_copyItems yw_X9_copyItems (by omega) (by decide) rfl rfl (Nat.le_of_ble_eq_true rfl) ⟨Nat.zero_le _, Nat.zero_le _⟩ dX3_copyFrom_132 ?_
  refine z_aload_n Z dX3_copyFrom_135 rfl 1 rfl ?_
  refine gC_X3_58_10 X dX3_copyFrom_136 ?_
  refine z_aload_n Z dX3_copyFrom_139 rfl 0 rfl ?_
  refine gC_X3_58_19 X dX3_copyFrom_140 ?_
  obtain ⟨u_5, M16, hf5, h⟩ := z_cld h
  refine z_callNv (Wd := wC cI cZ ad) X (c_X9_copyItems (Or.inr (Or.inr (Or.inr (Or.inr (Or.inr (Or.inl ⟨rfl, rfl⟩)))))) hf5) nl_X3_67 yd_X9_copyItems yw_X9_copyItems (by omega) (by decide) rfl rfl (Nat.le_of_ble_eq_true rfl) ⟨Nat.zero_le _, Nat.zero_le _⟩ dX3_copyFrom_143 ?_
  refine z_aload_n Z dX3_copyFrom_146 rfl 1 rfl ?_
  refine gC_X3_64_10 X dX3_copyFrom_147 ?_
  refine z_aload_n Z dX3_copyFrom_150 rfl 0 rfl ?_
  refine gC_X3_64_19 X dX3_copyFrom_151 ?_
  obtain ⟨u_6, M17, hf6, h⟩ := z_cld h
  refine z_callNv (Wd := wC cI cZ ad) X (c_X9_copyItems (Or.inr (Or.inr (Or.inr (Or.inr (Or.inr (Or.inr (Or.inl ⟨rfl, rfl⟩))))))) hf6) nl_X3_67 yd_X9_copyItems yw_X9_copyItems (by omega) (by decide) rfl rfl (Nat.le_of_ble_eq_true rfl) ⟨Nat.zero_le _, Nat.zero_le _⟩ dX3_copyFrom_154 ?_
  refine z_aload_n Z dX3_copyFrom_157 rfl 1 rfl ?_
  refine gC_X3_61_10 X dX3_copyFrom_158 ?_
  refine z_iconst Z dX3_copyFrom_161 ?_
  refine z_aload_n Z dX3_copyFrom_162 rfl 0 rfl ?_
  refine gC_X3_61_19 X dX3_copyFrom_163 ?_
  refine z_iconst Z dX3_copyFrom_166 ?_
  refine z_bipush Z dX3_copyFrom_167 rfl ?_
  refine z_copy (Wd := wC cI cZ ad) X ml_X3_71 aw_copy (by omega) aC_17 aC_26 rfl rfl (by decide) (by decide) tC_26 (Nat.le_of_ble_eq_true rfl) dX3_copyFrom_169 h (fun M18 h => ?_)
  exact z_vret X hr hlk dX3_copyFrom_172 h
set_option maxRecDepth 100000 in
set_option maxHeartbeats 4000000 in
theorem c_X3_clear {l : Launch} {D : va_G} {cI cZ : ClassId} {ad adK adV : Nat → Nat} {M M' : zMem} {r : Int} (h : Plan_clear M = some (r, M')) : z_Ct (wC cI cZ ad) D cI cZ adK adV l yX3_clear cX3_clear 1 none 1 [.ref (ad 10)] M M' none := by
  unfold Plan_clear at h
  refine z_entry (own := RX3) rfl (by decide) (Nat.le_of_ble_eq_true rfl) ?_
  intro p e s m args below meth c R A X hr hlk
  have Z := X.1
  refine z_sub (lv' := [(0, .ref (ad 10))]) [0] rfl ?_
  refine z_aload_n Z dX3_clear_0 rfl 0 rfl ?_
  refine z_iconst Z dX3_clear_1 ?_
  refine pC_X3_9_10 X dX3_clear_2 h (fun M1 h => ?_)
  refine z_aload_n Z dX3_clear_5 rfl 0 rfl ?_
  refine z_iconst Z dX3_clear_6 ?_
  refine pC_X3_15_10 X dX3_clear_7 h (fun M2 h => ?_)
  refine z_aload_n Z dX3_clear_10 rfl 0 rfl ?_
  refine z_iconst Z dX3_clear_11 ?_
  refine pC_X3_18_10 X dX3_clear_12 h (fun M3 h => ?_)
  refine z_aload_n Z dX3_clear_15 rfl 0 rfl ?_
  refine z_iconst Z dX3_clear_16 ?_
  refine pC_X3_21_10 X dX3_clear_17 h (fun M4 h => ?_)
  refine z_aload_n Z dX3_clear_20 rfl 0 rfl ?_
  refine z_iconst Z dX3_clear_21 ?_
  refine pC_X3_24_10 X dX3_clear_22 h (fun M5 h => ?_)
  refine z_aload_n Z dX3_clear_25 rfl 0 rfl ?_
  refine z_iconst Z dX3_clear_26 ?_
  refine pC_X3_27_10 X dX3_clear_27 h (fun M6 h => ?_)
  refine z_aload_n Z dX3_clear_30 rfl 0 rfl ?_
  refine z_iconst Z dX3_clear_31 ?_
  refine pC_X3_30_10 X dX3_clear_32 h (fun M7 h => ?_)
  refine z_aload_n Z dX3_clear_35 rfl 0 rfl ?_
  refine z_iconst Z dX3_clear_36 ?_
  refine pC_X3_33_10 X dX3_clear_37 h (fun M8 h => ?_)
  refine z_aload_n Z dX3_clear_40 rfl 0 rfl ?_
  refine z_iconst Z dX3_clear_41 ?_
  refine pC_X3_36_10 X dX3_clear_42 h (fun M9 h => ?_)
  refine z_aload_n Z dX3_clear_45 rfl 0 rfl ?_
  refine z_iconst Z dX3_clear_46 ?_
  refine pC_X3_39_10 X dX3_clear_47 h (fun M10 h => ?_)
  exact z_vret X hr hlk dX3_clear_50 h
set_option maxRecDepth 100000 in
set_option maxHeartbeats 4000000 in
theorem c_X4_goesOn {l : Launch} {D : va_G} {cI cZ : ClassId} {ad adK adV : Nat → Nat} {M M' : zMem} {r : Int} (h : Reader_goesOn M = some (r, M')) : z_Ct (wC cI cZ ad) D cI cZ adK adV l yX4_goesOn cX4_goesOn 1 (some .boolean) 1 [.ref (ad 3)] M M' (some (.int (z_I r))) := by
  unfold Reader_goesOn at h
  refine z_entry (own := RX4) rfl (by decide) (Nat.le_of_ble_eq_true rfl) ?_
  intro p e s m args below meth c R A X hr hlk
  have Z := X.1
  refine z_sub (lv' := [(0, .ref (ad 3))]) [0] rfl ?_
  refine z_aload_n Z dX4_goesOn_0 rfl 0 rfl ?_
  refine gC_X4_27_3 X dX4_goesOn_1 ?_
  refine z_jnr (P := fun (k : zMem → zO) => ∀ (M1 : zMem), k M1 = some (r, M') → z_V p l e R s m args below meth c D A cI cZ 1 (wC cI cZ ad) M' (some (.int (z_I r))) M1 21 [] []) h ?_ ?_
  · intro M1 h
    refine z_iconst Z dX4_goesOn_21 ?_
    exact z_zret X hr hlk (Or.inl rfl) dX4_goesOn_22 h
  · intro k0 hk0 h
    refine z_if_ne (tgt := 21) Z dX4_goesOn_4 (by decide) h (fun h => ?_) (fun h => ?_)
    · refine z_sub [] rfl ?_
      exact hk0 M h
    · refine z_aload_n Z dX4_goesOn_7 rfl 0 rfl ?_
      refine gC_X4_39_3 X dX4_goesOn_8 ?_
      refine gC_X4_84_9 X dX4_goesOn_11 ?_
      refine z_if_eq (tgt := 21) Z dX4_goesOn_14 (by decide) h (fun h => ?_) (fun h => ?_)
      · refine z_sub [] rfl ?_
        exact hk0 M h
      · refine z_iconst Z dX4_goesOn_17 ?_
        refine z_goto (tgt := 22) Z dX4_goesOn_18 (by decide) ?_
        exact z_zret X hr hlk (Or.inr rfl) dX4_goesOn_22 h
set_option maxRecDepth 100000 in
set_option maxHeartbeats 4000000 in
theorem c_X3_isItem {l : Launch} {D : va_G} {cI cZ : ClassId} {ad adK adV : Nat → Nat} {pl : Nat} (hcell : pl = 10 ∨ pl = 19) {v1 : Int} {M M' : zMem} {r : Int} (h : Plan_isItem pl v1 M = some (r, M')) : z_Ct (wC cI cZ ad) D cI cZ adK adV l yX3_isItem cX3_isItem 2 (some .boolean) 1 [.ref (ad pl), .int (z_I v1)] M M' (some (.int (z_I r))) := by
  unfold Plan_isItem at h
  rcases hcell with rfl | rfl
  · refine z_entry (own := RX3) rfl (by decide) (Nat.le_of_ble_eq_true rfl) ?_
    intro p e s m args below meth c R A X hr hlk
    have Z := X.1
    refine z_sub (lv' := [(0, .ref (ad 10)), (1, .int (z_I v1))]) [0, 1] rfl ?_
    refine z_iload_n Z dX3_isItem_0 rfl 1 rfl ?_
    refine z_jnr (P := fun (k : zMem → zO) => ∀ (M1 : zMem), k M1 = some (r, M') → z_V p l e R s m args below meth c D A cI cZ 2 (wC cI cZ ad) M' (some (.int (z_I r))) M1 16 [] []) h ?_ ?_
    · intro M1 h
      refine z_iconst Z dX3_isItem_16 ?_
      exact z_zret X hr hlk (Or.inl rfl) dX3_isItem_17 h
    · intro k0 hk0 h
      refine z_if_lt (tgt := 16) Z dX3_isItem_1 (by decide) h (fun h => ?_) (fun h => ?_)
      · refine z_sub [] rfl ?_
        exact hk0 M h
      · refine z_iload_n Z dX3_isItem_4 rfl 1 rfl ?_
        refine z_aload_n Z dX3_isItem_5 rfl 0 rfl ?_
        refine gC_X3_30_10 X dX3_isItem_6 ?_
        refine z_icmp_ge (tgt := 16) Z dX3_isItem_9 (by decide) h (fun h => ?_) (fun h => ?_)
        · refine z_sub [] rfl ?_
          exact hk0 M h
        · refine z_iconst Z dX3_isItem_12 ?_
          refine z_goto (tgt := 17) Z dX3_isItem_13 (by decide) ?_
          exact z_zret X hr hlk (Or.inr rfl) dX3_isItem_17 h
  · refine z_entry (own := RX3) rfl (by decide) (Nat.le_of_ble_eq_true rfl) ?_
    intro p e s m args below meth c R A X hr hlk
    have Z := X.1
    refine z_sub (lv' := [(0, .ref (ad 19)), (1, .int (z_I v1))]) [0, 1] rfl ?_
    refine z_iload_n Z dX3_isItem_0 rfl 1 rfl ?_
    refine z_jnr (P := fun (k : zMem → zO) => ∀ (M1 : zMem), k M1 = some (r, M') → z_V p l e R s m args below meth c D A cI cZ 2 (wC cI cZ ad) M' (some (.int (z_I r))) M1 16 [] []) h ?_ ?_
    · intro M1 h
      refine z_iconst Z dX3_isItem_16 ?_
      exact z_zret X hr hlk (Or.inl rfl) dX3_isItem_17 h
    · intro k0 hk0 h
      refine z_if_lt (tgt := 16) Z dX3_isItem_1 (by decide) h (fun h => ?_) (fun h => ?_)
      · refine z_sub [] rfl ?_
        exact hk0 M h
      · refine z_iload_n Z dX3_isItem_4 rfl 1 rfl ?_
        refine z_aload_n Z dX3_isItem_5 rfl 0 rfl ?_
        refine gC_X3_30_19 X dX3_isItem_6 ?_
        refine z_icmp_ge (tgt := 16) Z dX3_isItem_9 (by decide) h (fun h => ?_) (fun h => ?_)
        · refine z_sub [] rfl ?_
          exact hk0 M h
        · refine z_iconst Z dX3_isItem_12 ?_
          refine z_goto (tgt := 17) Z dX3_isItem_13 (by decide) ?_
          exact z_zret X hr hlk (Or.inr rfl) dX3_isItem_17 h
set_option maxRecDepth 100000 in
set_option maxHeartbeats 4000000 in
theorem c_X3_isStep {l : Launch} {D : va_G} {cI cZ : ClassId} {ad adK adV : Nat → Nat} {pl : Nat} (hcell : pl = 10 ∨ pl = 19) {v1 : Int} {M M' : zMem} {r : Int} (h : Plan_isStep pl v1 M = some (r, M')) : z_Ct (wC cI cZ ad) D cI cZ adK adV l yX3_isStep cX3_isStep 2 (some .boolean) 2 [.ref (ad pl), .int (z_I v1)] M M' (some (.int (z_I r))) := by
  unfold Plan_isStep at h
  rcases hcell with rfl | rfl
  · refine z_entry (own := RX3) rfl (by decide) (Nat.le_of_ble_eq_true rfl) ?_
    intro p e s m args below meth c R A X hr hlk
    have Z := X.1
    refine z_sub (lv' := [(0, .ref (ad 10)), (1, .int (z_I v1))]) [0, 1] rfl ?_
    refine z_aload_n Z dX3_isStep_0 rfl 0 rfl ?_
    refine z_iload_n Z dX3_isStep_1 rfl 1 rfl ?_
    obtain ⟨r_, M1, hf, h⟩ := z_cld h
    refine z_callVi (Wd := wC cI cZ ad) X (c_X3_isItem (Or.inl rfl) hf) ml_X3_81 yd_X3_isItem yw_X3_isItem (by omega) (by decide) (rC_10 X) rfl rfl (Nat.le_of_ble_eq_true rfl) ⟨Nat.zero_le _, Nat.zero_le _⟩ dX3_isStep_2 ?_
    refine z_jnr (P := fun (k : zMem → zO) => ∀ (M2 : zMem), k M2 = some (r, M') → z_V p l e R s m args below meth c D A cI cZ 2 (wC cI cZ ad) M' (some (.int (z_I r))) M2 22 [] []) h ?_ ?_
    · intro M2 h
      refine z_iconst Z dX3_isStep_22 ?_
      exact z_zret X hr hlk (Or.inl rfl) dX3_isStep_23 h
    · intro k0 hk0 h
      refine z_if_eq (tgt := 22) Z dX3_isStep_5 (by decide) h (fun h => ?_) (fun h => ?_)
      · refine z_sub [] rfl ?_
        exact hk0 M1 h
      · refine z_aload_n Z dX3_isStep_8 rfl 0 rfl ?_
        refine gC_X3_42_10 X dX3_isStep_9 ?_
        refine z_iload_n Z dX3_isStep_12 rfl 1 rfl ?_
        refine ldC_11 X dX3_isStep_13 h (fun x0 h => ?_)
        refine z_iconst Z dX3_isStep_14 ?_
        refine z_icmp_eq (tgt := 22) Z dX3_isStep_15 (by decide) h (fun h => ?_) (fun h => ?_)
        · refine z_sub [] rfl ?_
          exact hk0 M1 h
        · refine z_iconst Z dX3_isStep_18 ?_
          refine z_goto (tgt := 23) Z dX3_isStep_19 (by decide) ?_
          exact z_zret X hr hlk (Or.inr rfl) dX3_isStep_23 h
  · refine z_entry (own := RX3) rfl (by decide) (Nat.le_of_ble_eq_true rfl) ?_
    intro p e s m args below meth c R A X hr hlk
    have Z := X.1
    refine z_sub (lv' := [(0, .ref (ad 19)), (1, .int (z_I v1))]) [0, 1] rfl ?_
    refine z_aload_n Z dX3_isStep_0 rfl 0 rfl ?_
    refine z_iload_n Z dX3_isStep_1 rfl 1 rfl ?_
    obtain ⟨r_, M1, hf, h⟩ := z_cld h
    refine z_callVi (Wd := wC cI cZ ad) X (c_X3_isItem (Or.inr (rfl)) hf) ml_X3_81 yd_X3_isItem yw_X3_isItem (by omega) (by decide) (rC_19 X) rfl rfl (Nat.le_of_ble_eq_true rfl) ⟨Nat.zero_le _, Nat.zero_le _⟩ dX3_isStep_2 ?_
    refine z_jnr (P := fun (k : zMem → zO) => ∀ (M2 : zMem), k M2 = some (r, M') → z_V p l e R s m args below meth c D A cI cZ 2 (wC cI cZ ad) M' (some (.int (z_I r))) M2 22 [] []) h ?_ ?_
    · intro M2 h
      refine z_iconst Z dX3_isStep_22 ?_
      exact z_zret X hr hlk (Or.inl rfl) dX3_isStep_23 h
    · intro k0 hk0 h
      refine z_if_eq (tgt := 22) Z dX3_isStep_5 (by decide) h (fun h => ?_) (fun h => ?_)
      · refine z_sub [] rfl ?_
        exact hk0 M1 h
      · refine z_aload_n Z dX3_isStep_8 rfl 0 rfl ?_
        refine gC_X3_42_19 X dX3_isStep_9 ?_
        refine z_iload_n Z dX3_isStep_12 rfl 1 rfl ?_
        refine ldC_20 X dX3_isStep_13 h (fun x0 h => ?_)
        refine z_iconst Z dX3_isStep_14 ?_
        refine z_icmp_eq (tgt := 22) Z dX3_isStep_15 (by decide) h (fun h => ?_) (fun h => ?_)
        · refine z_sub [] rfl ?_
          exact hk0 M1 h
        · refine z_iconst Z dX3_isStep_18 ?_
          refine z_goto (tgt := 23) Z dX3_isStep_19 (by decide) ?_
          exact z_zret X hr hlk (Or.inr rfl) dX3_isStep_23 h
set_option maxRecDepth 100000 in
set_option maxHeartbeats 4000000 in
theorem c_X4_failAt {l : Launch} {D : va_G} {cI cZ : ClassId} {ad adK adV : Nat → Nat} {v1 v2 : Int} {M M' : zMem} {r : Int} (h : Reader_failAt v1 v2 M = some (r, M')) : z_Ct (wC cI cZ ad) D cI cZ adK adV l yX4_failAt cX4_failAt 3 none 1 [.ref (ad 3), .int (z_I v1), .int (z_I v2)] M M' none := by
  unfold Reader_failAt at h
  refine z_entry (own := RX4) rfl (by decide) (Nat.le_of_ble_eq_true rfl) ?_
  intro p e s m args below meth c R A X hr hlk
  have Z := X.1
  refine z_sub (lv' := [(0, .ref (ad 3)), (1, .int (z_I v1)), (2, .int (z_I v2))]) [0, 1, 2] rfl ?_
  refine z_aload_n Z dX4_failAt_0 rfl 0 rfl ?_
  refine gC_X4_27_3 X dX4_failAt_1 ?_
  refine z_if_ne (tgt := 17) Z dX4_failAt_4 (by decide) h (fun h => ?_) (fun h => ?_)
  · exact z_vret X hr hlk dX4_failAt_17 h
  · refine z_aload_n Z dX4_failAt_7 rfl 0 rfl ?_
    refine z_iload_n Z dX4_failAt_8 rfl 1 rfl ?_
    refine pC_X4_27_3 X dX4_failAt_9 h (fun M1 h => ?_)
    refine z_aload_n Z dX4_failAt_12 rfl 0 rfl ?_
    refine z_iload_n Z dX4_failAt_13 rfl 2 rfl ?_
    refine pC_X4_31_3 X dX4_failAt_14 h (fun M2 h => ?_)
    exact z_vret X hr hlk dX4_failAt_17 h
set_option maxRecDepth 100000 in
set_option maxHeartbeats 4000000 in
theorem wReader_itemNamed_2 {p : Program} {l : Launch} {e : Env} {R : Room} {s : State} {m : MethodId} {args : Array Value} {below : List Frame} {meth : Method} {c : Code} {D : va_G} {A : Nat → Prop} {cI cZ : ClassId} {adK adV ad : Nat → Nat} {r : Int} {M' : zMem} (X : z_X p m c cX4_itemNamed 4 s args RX4 R 1 D cI cZ A adK adV) (hr : meth.sig.returnType = some .int) (hlk : meth.locks = false) (N : Nat) (v1 v2 : Int) (k : zMem → zO) (hk : ∀ (M : zMem), k M = some (r, M') → z_V p l e R s m args below meth c D A cI cZ 4 (wC cI cZ ad) M' (some (.int (z_I r))) M 31 [] []) : ∀ (n : Nat) (v3 : Int) (M : zMem), Reader_itemNamed_2 N v1 v2 k n v3 M = some (r, M') → z_V p l e R s m args below meth c D A cI cZ 4 (wC cI cZ ad) M' (some (.int (z_I r))) M 2 [(0, .ref (ad 3)), (1, .int (z_I v1)), (2, .int (z_I v2)), (3, .int (z_I v3))] [] := by
  have Z := X.1
  intro n
  induction n with
  | zero =>
    intro v3 M h
    rw [Reader_itemNamed_2] at h
    cases h
  | succ n ih =>
    intro v3 M h
    rw [Reader_itemNamed_2] at h
    refine z_iload_n Z dX4_itemNamed_2 rfl 3 rfl ?_
    refine z_iload_n Z dX4_itemNamed_3 rfl 2 rfl ?_
    refine z_icmp_ge (tgt := 31) Z dX4_itemNamed_4 (by decide) h (fun h => ?_) (fun h => ?_)
    · refine z_sub [] rfl ?_
      exact hk M h
    · refine z_iload_n Z dX4_itemNamed_7 rfl 3 rfl ?_
      refine z_bipush Z dX4_itemNamed_8 rfl ?_
      refine z_icmp_ge (tgt := 31) Z dX4_itemNamed_10 (by decide) h (fun h => ?_) (fun h => ?_)
      · refine z_sub [] rfl ?_
        exact hk M h
      · refine z_aload_n Z dX4_itemNamed_13 rfl 0 rfl ?_
        refine gC_X4_9_3 X dX4_itemNamed_14 ?_
        refine z_iload_n Z dX4_itemNamed_17 rfl 3 rfl ?_
        refine ldC_4 X dX4_itemNamed_18 h (fun x0 h => ?_)
        refine z_iload_n Z dX4_itemNamed_19 rfl 1 rfl ?_
        refine z_icmp_ne (tgt := 25) Z dX4_itemNamed_20 (by decide) h (fun h => ?_) (fun h => ?_)
        · refine z_iincn Z (fun z => [(3, .int (z_I z)), (0, .ref (ad 3)), (1, .int (z_I v1)), (2, .int (z_I v2))]) dX4_itemNamed_25 (k := 3) rfl (by decide) (fun _ => rfl) h (fun v3_ h => ?_)
          refine z_goto (tgt := 2) Z dX4_itemNamed_28 (by decide) ?_
          refine z_sub [1, 2, 3, 0] rfl ?_
          exact ih v3_ M h
        · refine z_iload_n Z dX4_itemNamed_23 rfl 3 rfl ?_
          exact z_iret X hr hlk dX4_itemNamed_24 h
set_option maxRecDepth 100000 in
set_option maxHeartbeats 4000000 in
theorem c_X4_itemNamed {l : Launch} {D : va_G} {cI cZ : ClassId} {ad adK adV : Nat → Nat} {N : Nat} {v1 v2 : Int} {M M' : zMem} {r : Int} (h : Reader_itemNamed N v1 v2 M = some (r, M')) : z_Ct (wC cI cZ ad) D cI cZ adK adV l yX4_itemNamed cX4_itemNamed 4 (some .int) 1 [.ref (ad 3), .int (z_I v1), .int (z_I v2)] M M' (some (.int (z_I r))) := by
  unfold Reader_itemNamed at h
  refine z_entry (own := RX4) rfl (by decide) (Nat.le_of_ble_eq_true rfl) ?_
  intro p e s m args below meth c R A X hr hlk
  have Z := X.1
  refine z_sub (lv' := [(0, .ref (ad 3)), (1, .int (z_I v1)), (2, .int (z_I v2))]) [0, 1, 2] rfl ?_
  refine z_iconst Z dX4_itemNamed_0 ?_
  refine z_istore_n (lv' := [(3, .int (z_I 0)), (0, .ref (ad 3)), (1, .int (z_I v1)), (2, .int (z_I v2))]) Z dX4_itemNamed_1 rfl (by decide) rfl ?_
  refine z_jnr (P := fun (k : zMem → zO) => ∀ (M1 : zMem), k M1 = some (r, M') → z_V p l e R s m args below meth c D A cI cZ 4 (wC cI cZ ad) M' (some (.int (z_I r))) M1 31 [] []) h ?_ ?_
  · intro M1 h
    refine z_iconst Z dX4_itemNamed_31 ?_
    exact z_iret X hr hlk dX4_itemNamed_32 h
  · intro k0 hk0 h
    refine z_sub [1, 2, 3, 0] rfl ?_
    exact wReader_itemNamed_2 X hr hlk N v1 v2 k0 hk0 N 0 M h
set_option maxRecDepth 100000 in
set_option maxHeartbeats 4000000 in
theorem c_X3_isWord {l : Launch} {D : va_G} {cI cZ : ClassId} {ad adK adV : Nat → Nat} {pl : Nat} (hcell : pl = 10 ∨ pl = 19) {v1 : Int} {M M' : zMem} {r : Int} (h : Plan_isWord pl v1 M = some (r, M')) : z_Ct (wC cI cZ ad) D cI cZ adK adV l yX3_isWord cX3_isWord 2 (some .boolean) 2 [.ref (ad pl), .int (z_I v1)] M M' (some (.int (z_I r))) := by
  unfold Plan_isWord at h
  rcases hcell with rfl | rfl
  · refine z_entry (own := RX3) rfl (by decide) (Nat.le_of_ble_eq_true rfl) ?_
    intro p e s m args below meth c R A X hr hlk
    have Z := X.1
    refine z_sub (lv' := [(0, .ref (ad 10)), (1, .int (z_I v1))]) [0, 1] rfl ?_
    refine z_aload_n Z dX3_isWord_0 rfl 0 rfl ?_
    refine z_iload_n Z dX3_isWord_1 rfl 1 rfl ?_
    obtain ⟨r_, M1, hf, h⟩ := z_cld h
    refine z_callVi (Wd := wC cI cZ ad) X (c_X3_isItem (Or.inl rfl) hf) ml_X3_81 yd_X3_isItem yw_X3_isItem (by omega) (by decide) (rC_10 X) rfl rfl (Nat.le_of_ble_eq_true rfl) ⟨Nat.zero_le _, Nat.zero_le _⟩ dX3_isWord_2 ?_
    refine z_jnr (P := fun (k : zMem → zO) => ∀ (M2 : zMem), k M2 = some (r, M') → z_V p l e R s m args below meth c D A cI cZ 2 (wC cI cZ ad) M' (some (.int (z_I r))) M2 22 [] []) h ?_ ?_
    · intro M2 h
      refine z_iconst Z dX3_isWord_22 ?_
      exact z_zret X hr hlk (Or.inl rfl) dX3_isWord_23 h
    · intro k0 hk0 h
      refine z_if_eq (tgt := 22) Z dX3_isWord_5 (by decide) h (fun h => ?_) (fun h => ?_)
      · refine z_sub [] rfl ?_
        exact hk0 M1 h
      · refine z_aload_n Z dX3_isWord_8 rfl 0 rfl ?_
        refine gC_X3_42_10 X dX3_isWord_9 ?_
        refine z_iload_n Z dX3_isWord_12 rfl 1 rfl ?_
        refine ldC_11 X dX3_isWord_13 h (fun x0 h => ?_)
        refine z_iconst Z dX3_isWord_14 ?_
        refine z_icmp_ne (tgt := 22) Z dX3_isWord_15 (by decide) h (fun h => ?_) (fun h => ?_)
        · refine z_sub [] rfl ?_
          exact hk0 M1 h
        · refine z_iconst Z dX3_isWord_18 ?_
          refine z_goto (tgt := 23) Z dX3_isWord_19 (by decide) ?_
          exact z_zret X hr hlk (Or.inr rfl) dX3_isWord_23 h
  · refine z_entry (own := RX3) rfl (by decide) (Nat.le_of_ble_eq_true rfl) ?_
    intro p e s m args below meth c R A X hr hlk
    have Z := X.1
    refine z_sub (lv' := [(0, .ref (ad 19)), (1, .int (z_I v1))]) [0, 1] rfl ?_
    refine z_aload_n Z dX3_isWord_0 rfl 0 rfl ?_
    refine z_iload_n Z dX3_isWord_1 rfl 1 rfl ?_
    obtain ⟨r_, M1, hf, h⟩ := z_cld h
    refine z_callVi (Wd := wC cI cZ ad) X (c_X3_isItem (Or.inr (rfl)) hf) ml_X3_81 yd_X3_isItem yw_X3_isItem (by omega) (by decide) (rC_19 X) rfl rfl (Nat.le_of_ble_eq_true rfl) ⟨Nat.zero_le _, Nat.zero_le _⟩ dX3_isWord_2 ?_
    refine z_jnr (P := fun (k : zMem → zO) => ∀ (M2 : zMem), k M2 = some (r, M') → z_V p l e R s m args below meth c D A cI cZ 2 (wC cI cZ ad) M' (some (.int (z_I r))) M2 22 [] []) h ?_ ?_
    · intro M2 h
      refine z_iconst Z dX3_isWord_22 ?_
      exact z_zret X hr hlk (Or.inl rfl) dX3_isWord_23 h
    · intro k0 hk0 h
      refine z_if_eq (tgt := 22) Z dX3_isWord_5 (by decide) h (fun h => ?_) (fun h => ?_)
      · refine z_sub [] rfl ?_
        exact hk0 M1 h
      · refine z_aload_n Z dX3_isWord_8 rfl 0 rfl ?_
        refine gC_X3_42_19 X dX3_isWord_9 ?_
        refine z_iload_n Z dX3_isWord_12 rfl 1 rfl ?_
        refine ldC_20 X dX3_isWord_13 h (fun x0 h => ?_)
        refine z_iconst Z dX3_isWord_14 ?_
        refine z_icmp_ne (tgt := 22) Z dX3_isWord_15 (by decide) h (fun h => ?_) (fun h => ?_)
        · refine z_sub [] rfl ?_
          exact hk0 M1 h
        · refine z_iconst Z dX3_isWord_18 ?_
          refine z_goto (tgt := 23) Z dX3_isWord_19 (by decide) ?_
          exact z_zret X hr hlk (Or.inr rfl) dX3_isWord_23 h
set_option maxRecDepth 100000 in
set_option maxHeartbeats 4000000 in
theorem c_X4_mayBeFirst {l : Launch} {D : va_G} {cI cZ : ClassId} {ad adK adV : Nat → Nat} {v1 v2 : Int} {M M' : zMem} {r : Int} (h : Reader_mayBeFirst v1 v2 M = some (r, M')) : z_Ct (wC cI cZ ad) D cI cZ adK adV l yX4_mayBeFirst cX4_mayBeFirst 3 (some .boolean) 3 [.ref (ad 10), .int (z_I v1), .int (z_I v2)] M M' (some (.int (z_I r))) := by
  unfold Reader_mayBeFirst at h
  refine z_entry (own := RX4) rfl (by decide) (Nat.le_of_ble_eq_true rfl) ?_
  intro p e s m args below meth c R A X hr hlk
  have Z := X.1
  refine z_sub (lv' := [(0, .ref (ad 10)), (1, .int (z_I v1)), (2, .int (z_I v2))]) [0, 1, 2] rfl ?_
  refine z_iload_n Z dX4_mayBeFirst_0 rfl 1 rfl ?_
  refine z_iconst Z dX4_mayBeFirst_1 ?_
  refine z_icmp_ne (tgt := 11) Z dX4_mayBeFirst_2 (by decide) h (fun h => ?_) (fun h => ?_)
  · refine z_iload_n Z dX4_mayBeFirst_11 rfl 1 rfl ?_
    refine z_bipush Z dX4_mayBeFirst_12 rfl ?_
    refine z_icmp_ne (tgt := 41) Z dX4_mayBeFirst_14 (by decide) h (fun h => ?_) (fun h => ?_)
    · refine z_aload_n Z dX4_mayBeFirst_41 rfl 0 rfl ?_
      refine z_iload_n Z dX4_mayBeFirst_42 rfl 2 rfl ?_
      obtain ⟨r_, M1, hf, h⟩ := z_cld h
      refine z_callVi (Wd := wC cI cZ ad) X (c_X3_isWord (Or.inl rfl) hf) ml_X4_189 yd_X3_isWord yw_X3_isWord (by omega) (by decide) (rC_10 X) rfl rfl (Nat.le_of_ble_eq_true rfl) ⟨Nat.zero_le _, Nat.zero_le _⟩ dX4_mayBeFirst_43 ?_
      exact z_zretn X hr hlk dX4_mayBeFirst_46 h
    · refine z_aload_n Z dX4_mayBeFirst_17 rfl 0 rfl ?_
      refine z_iload_n Z dX4_mayBeFirst_18 rfl 2 rfl ?_
      obtain ⟨r_1, M2, hf1, h⟩ := z_cld h
      refine z_callVi (Wd := wC cI cZ ad) X (c_X3_isStep (Or.inl rfl) hf1) ml_X4_179 yd_X3_isStep yw_X3_isStep (by omega) (by decide) (rC_10 X) rfl rfl (Nat.le_of_ble_eq_true rfl) ⟨Nat.zero_le _, Nat.zero_le _⟩ dX4_mayBeFirst_19 ?_
      refine z_jnr (P := fun (k : zMem → zO) => ∀ (M3 : zMem), k M3 = some (r, M') → z_V p l e R s m args below meth c D A cI cZ 3 (wC cI cZ ad) M' (some (.int (z_I r))) M3 39 [] []) h ?_ ?_
      · intro M3 h
        refine z_iconst Z dX4_mayBeFirst_39 ?_
        exact z_zret X hr hlk (Or.inl rfl) dX4_mayBeFirst_40 h
      · intro k0 hk0 h
        refine z_if_eq (tgt := 39) Z dX4_mayBeFirst_22 (by decide) h (fun h => ?_) (fun h => ?_)
        · refine z_sub [] rfl ?_
          exact hk0 M2 h
        · refine z_aload_n Z dX4_mayBeFirst_25 rfl 0 rfl ?_
          refine gC_X4_166_10 X dX4_mayBeFirst_26 ?_
          refine z_iload_n Z dX4_mayBeFirst_29 rfl 2 rfl ?_
          refine ldC_11 X dX4_mayBeFirst_30 h (fun x0 h => ?_)
          refine z_iconst Z dX4_mayBeFirst_31 ?_
          refine z_icmp_gt (tgt := 39) Z dX4_mayBeFirst_32 (by decide) h (fun h => ?_) (fun h => ?_)
          · refine z_sub [] rfl ?_
            exact hk0 M2 h
          · refine z_iconst Z dX4_mayBeFirst_35 ?_
            refine z_goto (tgt := 40) Z dX4_mayBeFirst_36 (by decide) ?_
            exact z_zret X hr hlk (Or.inr rfl) dX4_mayBeFirst_40 h
  · refine z_aload_n Z dX4_mayBeFirst_5 rfl 0 rfl ?_
    refine z_iload_n Z dX4_mayBeFirst_6 rfl 2 rfl ?_
    obtain ⟨r_2, M4, hf2, h⟩ := z_cld h
    refine z_callVi (Wd := wC cI cZ ad) X (c_X3_isStep (Or.inl rfl) hf2) ml_X4_179 yd_X3_isStep yw_X3_isStep (by omega) (by decide) (rC_10 X) rfl rfl (Nat.le_of_ble_eq_true rfl) ⟨Nat.zero_le _, Nat.zero_le _⟩ dX4_mayBeFirst_7 ?_
    exact z_zretn X hr hlk dX4_mayBeFirst_10 h
set_option maxRecDepth 100000 in
set_option maxHeartbeats 4000000 in
theorem c_X4_linkStep {l : Launch} {D : va_G} {cI cZ : ClassId} {ad adK adV : Nat → Nat} {N : Nat} {v2 : Int} {M M' : zMem} {r : Int} (h : Reader_linkStep N v2 M = some (r, M')) : z_Ct (wC cI cZ ad) D cI cZ adK adV l yX4_linkStep cX4_linkStep 6 none 4 [.ref (ad 3), .ref (ad 10), .int (z_I v2)] M M' none := by
  unfold Reader_linkStep at h
  refine z_entry (own := RX4) rfl (by decide) (Nat.le_of_ble_eq_true rfl) ?_
  intro p e s m args below meth c R A X hr hlk
  have Z := X.1
  refine z_sub (lv' := [(0, .ref (ad 3)), (1, .ref (ad 10)), (2, .int (z_I v2))]) [0, 1, 2] rfl ?_
  refine z_aload_n Z dX4_linkStep_0 rfl 1 rfl ?_
  refine gC_X4_166_10 X dX4_linkStep_1 ?_
  refine z_iload_n Z dX4_linkStep_4 rfl 2 rfl ?_
  refine ldC_11 X dX4_linkStep_5 h (fun x0 h => ?_)
  refine z_istore_n (lv' := [(3, .int (z_I x0)), (0, .ref (ad 3)), (1, .ref (ad 10)), (2, .int (z_I v2))]) Z dX4_linkStep_6 rfl (by decide) rfl ?_
  refine z_iload_n Z dX4_linkStep_7 rfl 0 rfl ?_
  refine z_iconst Z dX4_linkStep_8 ?_
  refine z_icmp_eq (tgt := 18) Z dX4_linkStep_9 (by decide) h (fun h => ?_) (fun h => ?_)
  · exact z_vret X hr hlk dX4_linkStep_18 h
  · refine z_iload_n Z dX4_linkStep_12 rfl 0 rfl ?_
    refine z_bipush Z dX4_linkStep_13 rfl ?_
    refine z_icmp_ne (tgt := 19) Z dX4_linkStep_15 (by decide) h (fun h => ?_) (fun h => ?_)
    · refine z_aload_n Z dX4_linkStep_19 rfl 1 rfl ?_
      refine z_aload_n Z dX4_linkStep_20 rfl 1 rfl ?_
      refine gC_X4_15_3 X dX4_linkStep_21 ?_
      refine z_iload_n Z dX4_linkStep_24 rfl 3 rfl ?_
      refine ldC_5 X dX4_linkStep_25 h (fun x1 h => ?_)
      refine z_aload_n Z dX4_linkStep_26 rfl 2 rfl ?_
      refine gC_X4_77_10 X dX4_linkStep_27 ?_
      obtain ⟨r_, M1, hf, h⟩ := z_cld h
      refine z_callVi (Wd := wC cI cZ ad) X (c_X4_itemNamed hf) ml_X4_169 yd_X4_itemNamed yw_X4_itemNamed (by omega) (by decide) (rC_3 X) rfl rfl (Nat.le_of_ble_eq_true rfl) ⟨Nat.zero_le _, Nat.zero_le _⟩ dX4_linkStep_30 ?_
      refine z_istore (lv' := [(4, .int (z_I r_)), (3, .int (z_I x0)), (0, .ref (ad 3)), (1, .ref (ad 10)), (2, .int (z_I v2))]) Z dX4_linkStep_33 (by decide) rfl ?_
      refine z_aload_n Z dX4_linkStep_35 rfl 2 rfl ?_
      refine z_aload_n Z dX4_linkStep_36 rfl 2 rfl ?_
      refine gC_X4_21_3 X dX4_linkStep_37 ?_
      refine z_iload_n Z dX4_linkStep_40 rfl 4 rfl ?_
      refine ldC_7 X dX4_linkStep_41 h (fun x2 h => ?_)
      refine z_aload_n Z dX4_linkStep_42 rfl 3 rfl ?_
      refine gC_X4_77_10 X dX4_linkStep_43 ?_
      obtain ⟨r_1, M2, hf1, h⟩ := z_cld h
      refine z_callVi (Wd := wC cI cZ ad) X (c_X4_itemNamed hf1) ml_X4_169 yd_X4_itemNamed yw_X4_itemNamed (by omega) (by decide) (rC_3 X) rfl rfl (Nat.le_of_ble_eq_true rfl) ⟨Nat.zero_le _, Nat.zero_le _⟩ dX4_linkStep_46 ?_
      refine z_istore (lv' := [(5, .int (z_I r_1)), (4, .int (z_I r_)), (3, .int (z_I x0)), (0, .ref (ad 3)), (1, .ref (ad 10)), (2, .int (z_I v2))]) Z dX4_linkStep_49 (by decide) rfl ?_
      refine z_aload_n Z dX4_linkStep_51 rfl 4 rfl ?_
      refine z_iload_n Z dX4_linkStep_52 rfl 2 rfl ?_
      refine z_iload Z dX4_linkStep_53 1 rfl ?_
      obtain ⟨r_2, M3, hf2, h⟩ := z_cld h
      refine z_callSi (Wd := wC cI cZ ad) X (c_X4_mayBeFirst hf2) ml_X4_172 yd_X4_mayBeFirst yw_X4_mayBeFirst (by omega) (by decide) rfl rfl (Nat.le_of_ble_eq_true rfl) ⟨Nat.zero_le _, Nat.zero_le _⟩ dX4_linkStep_55 ?_
      refine z_if_ne (tgt := 75) Z dX4_linkStep_58 (by decide) h (fun h => ?_) (fun h => ?_)
      · refine z_aload_n Z dX4_linkStep_75 rfl 4 rfl ?_
        refine z_iload Z dX4_linkStep_76 0 rfl ?_
        obtain ⟨r_3, M4, hf3, h⟩ := z_cld h
        refine z_callVi (Wd := wC cI cZ ad) X (c_X3_isStep (Or.inl rfl) hf3) ml_X4_179 yd_X3_isStep yw_X3_isStep (by omega) (by decide) (rC_10 X) rfl rfl (Nat.le_of_ble_eq_true rfl) ⟨Nat.zero_le _, Nat.zero_le _⟩ dX4_linkStep_78 ?_
        refine z_if_ne (tgt := 98) Z dX4_linkStep_81 (by decide) h (fun h => ?_) (fun h => ?_)
        · refine z_aload_n Z dX4_linkStep_98 rfl 4 rfl ?_
          refine gC_X4_183_10 X dX4_linkStep_99 ?_
          refine z_iload_n Z dX4_linkStep_102 rfl 5 rfl ?_
          refine z_iload Z dX4_linkStep_103 1 rfl ?_
          refine srC_14 X dX4_linkStep_105 h (fun M5 h => ?_)
          refine z_aload_n Z dX4_linkStep_106 rfl 4 rfl ?_
          refine gC_X4_186_10 X dX4_linkStep_107 ?_
          refine z_iload_n Z dX4_linkStep_110 rfl 5 rfl ?_
          refine z_iload Z dX4_linkStep_111 0 rfl ?_
          refine srC_16 X dX4_linkStep_113 h (fun M6 h => ?_)
          exact z_vret X hr hlk dX4_linkStep_114 h
        · refine z_aload_n Z dX4_linkStep_84 rfl 3 rfl ?_
          refine z_iconst Z dX4_linkStep_85 ?_
          refine z_aload_n Z dX4_linkStep_86 rfl 3 rfl ?_
          refine gC_X4_24_3 X dX4_linkStep_87 ?_
          refine z_iload_n Z dX4_linkStep_90 rfl 5 rfl ?_
          refine ldC_8 X dX4_linkStep_91 h (fun x3 h => ?_)
          obtain ⟨u_, M7, hf4, h⟩ := z_cld h
          refine z_callVv (Wd := wC cI cZ ad) X (c_X4_failAt hf4) ml_X4_176 yd_X4_failAt yw_X4_failAt (by omega) (by decide) (rC_3 X) rfl rfl (Nat.le_of_ble_eq_true rfl) ⟨Nat.zero_le _, Nat.zero_le _⟩ dX4_linkStep_92 ?_
          refine z_goto (tgt := 114) Z dX4_linkStep_95 (by decide) ?_
          exact z_vret X hr hlk dX4_linkStep_114 h
      · refine z_aload_n Z dX4_linkStep_61 rfl 3 rfl ?_
        refine z_iconst Z dX4_linkStep_62 ?_
        refine z_aload_n Z dX4_linkStep_63 rfl 3 rfl ?_
        refine gC_X4_18_3 X dX4_linkStep_64 ?_
        refine z_iload_n Z dX4_linkStep_67 rfl 5 rfl ?_
        refine ldC_6 X dX4_linkStep_68 h (fun x4 h => ?_)
        obtain ⟨u_1, M8, hf5, h⟩ := z_cld h
        refine z_callVv (Wd := wC cI cZ ad) X (c_X4_failAt hf5) ml_X4_176 yd_X4_failAt yw_X4_failAt (by omega) (by decide) (rC_3 X) rfl rfl (Nat.le_of_ble_eq_true rfl) ⟨Nat.zero_le _, Nat.zero_le _⟩ dX4_linkStep_69 ?_
        refine z_goto (tgt := 114) Z dX4_linkStep_72 (by decide) ?_
        exact z_vret X hr hlk dX4_linkStep_114 h
    · exact z_vret X hr hlk dX4_linkStep_18 h
set_option maxRecDepth 100000 in
set_option maxHeartbeats 4000000 in
theorem c_X4_fail {l : Launch} {D : va_G} {cI cZ : ClassId} {ad adK adV : Nat → Nat} {v1 : Int} {M M' : zMem} {r : Int} (h : Reader_fail v1 M = some (r, M')) : z_Ct (wC cI cZ ad) D cI cZ adK adV l yX4_fail cX4_fail 2 none 2 [.ref (ad 3), .int (z_I v1)] M M' none := by
  unfold Reader_fail at h
  refine z_entry (own := RX4) rfl (by decide) (Nat.le_of_ble_eq_true rfl) ?_
  intro p e s m args below meth c R A X hr hlk
  have Z := X.1
  refine z_sub (lv' := [(0, .ref (ad 3)), (1, .int (z_I v1))]) [0, 1] rfl ?_
  refine z_aload_n Z dX4_fail_0 rfl 0 rfl ?_
  refine z_iload_n Z dX4_fail_1 rfl 1 rfl ?_
  refine z_aload_n Z dX4_fail_2 rfl 0 rfl ?_
  refine gC_X4_39_3 X dX4_fail_3 ?_
  refine gC_X4_192_9 X dX4_fail_6 ?_
  obtain ⟨u_, M1, hf, h⟩ := z_cld h
  refine z_callVv (Wd := wC cI cZ ad) X (c_X4_failAt hf) ml_X4_176 yd_X4_failAt yw_X4_failAt (by omega) (by decide) (rC_3 X) rfl rfl (Nat.le_of_ble_eq_true rfl) ⟨Nat.zero_le _, Nat.zero_le _⟩ dX4_fail_9 ?_
  exact z_vret X hr hlk dX4_fail_12 h
set_option maxRecDepth 100000 in
set_option maxHeartbeats 4000000 in
theorem c_X6_byteAt {l : Launch} {D : va_G} {cI cZ : ClassId} {ad adK adV : Nat → Nat} {v1 : Int} {M M' : zMem} {r : Int} (h : Tape_byteAt v1 M = some (r, M')) : z_Ct (wC cI cZ ad) D cI cZ adK adV l yX6_byteAt cX6_byteAt 2 (some .int) 1 [.ref (ad 1), .int (z_I v1)] M M' (some (.int (z_I r))) := by
  unfold Tape_byteAt at h
  refine z_entry (own := RX6) rfl (by decide) (Nat.le_of_ble_eq_true rfl) ?_
  intro p e s m args below meth c R A X hr hlk
  have Z := X.1
  refine z_sub (lv' := [(0, .ref (ad 1)), (1, .int (z_I v1))]) [0, 1] rfl ?_
  refine z_iload_n Z dX6_byteAt_0 rfl 1 rfl ?_
  refine z_jnr (P := fun (k : zMem → zO) => ∀ (M1 : zMem), k M1 = some (r, M') → z_V p l e R s m args below meth c D A cI cZ 2 (wC cI cZ ad) M' (some (.int (z_I r))) M1 21 [] []) h ?_ ?_
  · intro M1 h
    refine z_iconst Z dX6_byteAt_21 ?_
    exact z_iret X hr hlk dX6_byteAt_22 h
  · intro k0 hk0 h
    refine z_if_lt (tgt := 21) Z dX6_byteAt_1 (by decide) h (fun h => ?_) (fun h => ?_)
    · refine z_sub [] rfl ?_
      exact hk0 M h
    · refine z_iload_n Z dX6_byteAt_4 rfl 1 rfl ?_
      refine z_aload_n Z dX6_byteAt_5 rfl 0 rfl ?_
      refine gC_X6_15_1 X dX6_byteAt_6 ?_
      refine z_icmp_ge (tgt := 21) Z dX6_byteAt_9 (by decide) h (fun h => ?_) (fun h => ?_)
      · refine z_sub [] rfl ?_
        exact hk0 M h
      · refine z_aload_n Z dX6_byteAt_12 rfl 0 rfl ?_
        refine gC_X6_9_1 X dX6_byteAt_13 ?_
        refine z_iload_n Z dX6_byteAt_16 rfl 1 rfl ?_
        refine ldC_2 X dX6_byteAt_17 h (fun x0 h => ?_)
        refine z_goto (tgt := 22) Z dX6_byteAt_18 (by decide) ?_
        exact z_iret X hr hlk dX6_byteAt_22 h
set_option maxRecDepth 100000 in
set_option maxHeartbeats 4000000 in
theorem c_X7_isDigit {l : Launch} {D : va_G} {cI cZ : ClassId} {ad adK adV : Nat → Nat} {v0 : Int} {M M' : zMem} {r : Int} (h : Tokens_isDigit v0 M = some (r, M')) : z_Ct (wC cI cZ ad) D cI cZ adK adV l yX7_isDigit cX7_isDigit 1 (some .boolean) 1 [.int (z_I v0)] M M' (some (.int (z_I r))) := by
  unfold Tokens_isDigit at h
  refine z_entry (own := RX7) rfl (by decide) (Nat.le_of_ble_eq_true rfl) ?_
  intro p e s m args below meth c R A X hr hlk
  have Z := X.1
  refine z_sub (lv' := [(0, .int (z_I v0))]) [0] rfl ?_
  refine z_iload_n Z dX7_isDigit_0 rfl 0 rfl ?_
  refine z_bipush Z dX7_isDigit_1 rfl ?_
  refine z_jnr (P := fun (k : zMem → zO) => ∀ (M1 : zMem), k M1 = some (r, M') → z_V p l e R s m args below meth c D A cI cZ 1 (wC cI cZ ad) M' (some (.int (z_I r))) M1 16 [] []) h ?_ ?_
  · intro M1 h
    refine z_iconst Z dX7_isDigit_16 ?_
    exact z_zret X hr hlk (Or.inl rfl) dX7_isDigit_17 h
  · intro k0 hk0 h
    refine z_icmp_lt (tgt := 16) Z dX7_isDigit_3 (by decide) h (fun h => ?_) (fun h => ?_)
    · refine z_sub [] rfl ?_
      exact hk0 M h
    · refine z_iload_n Z dX7_isDigit_6 rfl 0 rfl ?_
      refine z_bipush Z dX7_isDigit_7 rfl ?_
      refine z_icmp_gt (tgt := 16) Z dX7_isDigit_9 (by decide) h (fun h => ?_) (fun h => ?_)
      · refine z_sub [] rfl ?_
        exact hk0 M h
      · refine z_iconst Z dX7_isDigit_12 ?_
        refine z_goto (tgt := 17) Z dX7_isDigit_13 (by decide) ?_
        exact z_zret X hr hlk (Or.inr rfl) dX7_isDigit_17 h
set_option maxRecDepth 100000 in
set_option maxHeartbeats 4000000 in
theorem c_X7_isLetter {l : Launch} {D : va_G} {cI cZ : ClassId} {ad adK adV : Nat → Nat} {v0 : Int} {M M' : zMem} {r : Int} (h : Tokens_isLetter v0 M = some (r, M')) : z_Ct (wC cI cZ ad) D cI cZ adK adV l yX7_isLetter cX7_isLetter 1 (some .boolean) 1 [.int (z_I v0)] M M' (some (.int (z_I r))) := by
  unfold Tokens_isLetter at h
  refine z_entry (own := RX7) rfl (by decide) (Nat.le_of_ble_eq_true rfl) ?_
  intro p e s m args below meth c R A X hr hlk
  have Z := X.1
  refine z_sub (lv' := [(0, .int (z_I v0))]) [0] rfl ?_
  refine z_iload_n Z dX7_isLetter_0 rfl 0 rfl ?_
  refine z_bipush Z dX7_isLetter_1 rfl ?_
  refine z_jnr (P := fun (k : zMem → zO) => ∀ (M1 : zMem), k M1 = some (r, M') → z_V p l e R s m args below meth c D A cI cZ 1 (wC cI cZ ad) M' (some (.int (z_I r))) M1 16 [] []) h ?_ ?_
  · intro M1 h
    refine z_iconst Z dX7_isLetter_16 ?_
    exact z_zret X hr hlk (Or.inl rfl) dX7_isLetter_17 h
  · intro k0 hk0 h
    refine z_icmp_lt (tgt := 16) Z dX7_isLetter_3 (by decide) h (fun h => ?_) (fun h => ?_)
    · refine z_sub [] rfl ?_
      exact hk0 M h
    · refine z_iload_n Z dX7_isLetter_6 rfl 0 rfl ?_
      refine z_bipush Z dX7_isLetter_7 rfl ?_
      refine z_icmp_gt (tgt := 16) Z dX7_isLetter_9 (by decide) h (fun h => ?_) (fun h => ?_)
      · refine z_sub [] rfl ?_
        exact hk0 M h
      · refine z_iconst Z dX7_isLetter_12 ?_
        refine z_goto (tgt := 17) Z dX7_isLetter_13 (by decide) ?_
        exact z_zret X hr hlk (Or.inr rfl) dX7_isLetter_17 h
set_option maxRecDepth 100000 in
set_option maxHeartbeats 4000000 in
theorem c_X7_isBlank {l : Launch} {D : va_G} {cI cZ : ClassId} {ad adK adV : Nat → Nat} {v0 : Int} {M M' : zMem} {r : Int} (h : Tokens_isBlank v0 M = some (r, M')) : z_Ct (wC cI cZ ad) D cI cZ adK adV l yX7_isBlank cX7_isBlank 1 (some .boolean) 1 [.int (z_I v0)] M M' (some (.int (z_I r))) := by
  unfold Tokens_isBlank at h
  refine z_entry (own := RX7) rfl (by decide) (Nat.le_of_ble_eq_true rfl) ?_
  intro p e s m args below meth c R A X hr hlk
  have Z := X.1
  refine z_sub (lv' := [(0, .int (z_I v0))]) [0] rfl ?_
  refine z_iload_n Z dX7_isBlank_0 rfl 0 rfl ?_
  refine z_bipush Z dX7_isBlank_1 rfl ?_
  refine z_jnr (P := fun (k : zMem → zO) => ∀ (M1 : zMem), k M1 = some (r, M') → z_V p l e R s m args below meth c D A cI cZ 1 (wC cI cZ ad) M' (some (.int (z_I r))) M1 12 [] []) h ?_ ?_
  · intro M1 h
    refine z_iconst Z dX7_isBlank_12 ?_
    refine z_goto (tgt := 17) Z dX7_isBlank_13 (by decide) ?_
    exact z_zret X hr hlk (Or.inr rfl) dX7_isBlank_17 h
  · intro k0 hk0 h
    refine z_icmp_eq (tgt := 12) Z dX7_isBlank_3 (by decide) h (fun h => ?_) (fun h => ?_)
    · refine z_sub [] rfl ?_
      exact hk0 M h
    · refine z_iload_n Z dX7_isBlank_6 rfl 0 rfl ?_
      refine z_bipush Z dX7_isBlank_7 rfl ?_
      refine z_icmp_ne (tgt := 16) Z dX7_isBlank_9 (by decide) h (fun h => ?_) (fun h => ?_)
      · refine z_iconst Z dX7_isBlank_16 ?_
        exact z_zret X hr hlk (Or.inl rfl) dX7_isBlank_17 h
      · refine z_sub [] rfl ?_
        exact hk0 M h
set_option maxRecDepth 100000 in
set_option maxHeartbeats 4000000 in
theorem wTokens_skipBlanks_0 {p : Program} {l : Launch} {e : Env} {R : Room} {s : State} {m : MethodId} {args : Array Value} {below : List Frame} {meth : Method} {c : Code} {D : va_G} {A : Nat → Prop} {cI cZ : ClassId} {adK adV ad : Nat → Nat} {r : Int} {M' : zMem} (X : z_X p m c cX7_skipBlanks 1 s args RX7 R 2 D cI cZ A adK adV) (hr : meth.sig.returnType = none) (hlk : meth.locks = false) (N : Nat) (k : zMem → zO) (hk : ∀ (M : zMem), k M = some (r, M') → z_V p l e R s m args below meth c D A cI cZ 1 (wC cI cZ ad) M' none M 40 [] []) : ∀ (n : Nat) (M : zMem), Tokens_skipBlanks_0 N k n M = some (r, M') → z_V p l e R s m args below meth c D A cI cZ 1 (wC cI cZ ad) M' none M 0 [(0, .ref (ad 9))] [] := by
  have Z := X.1
  intro n
  induction n with
  | zero =>
    intro M h
    rw [Tokens_skipBlanks_0] at h
    cases h
  | succ n ih =>
    intro M h
    rw [Tokens_skipBlanks_0] at h
    refine z_aload_n Z dX7_skipBlanks_0 rfl 0 rfl ?_
    refine gC_X7_24_9 X dX7_skipBlanks_1 ?_
    refine z_sipush Z dX7_skipBlanks_4 rfl ?_
    refine z_icmp_ge (tgt := 40) Z dX7_skipBlanks_7 (by decide) h (fun h => ?_) (fun h => ?_)
    · refine z_sub [] rfl ?_
      exact hk M h
    · refine z_aload_n Z dX7_skipBlanks_10 rfl 0 rfl ?_
      refine gC_X7_27_9 X dX7_skipBlanks_11 ?_
      refine z_aload_n Z dX7_skipBlanks_14 rfl 0 rfl ?_
      refine gC_X7_24_9 X dX7_skipBlanks_15 ?_
      obtain ⟨r_, M1, hf, h⟩ := z_cld h
      refine z_callVi (Wd := wC cI cZ ad) X (c_X6_byteAt hf) ml_X7_37 yd_X6_byteAt yw_X6_byteAt (by omega) (by decide) (rC_1 X) rfl rfl (Nat.le_of_ble_eq_true rfl) ⟨Nat.zero_le _, Nat.zero_le _⟩ dX7_skipBlanks_18 ?_
      obtain ⟨r_1, M2, hf1, h⟩ := z_cld h
      refine z_callSi (Wd := wC cI cZ ad) X (c_X7_isBlank hf1) ml_X7_94 yd_X7_isBlank yw_X7_isBlank (by omega) (by decide) rfl rfl (Nat.le_of_ble_eq_true rfl) ⟨Nat.zero_le _, Nat.zero_le _⟩ dX7_skipBlanks_21 ?_
      refine z_if_eq (tgt := 40) Z dX7_skipBlanks_24 (by decide) h (fun h => ?_) (fun h => ?_)
      · refine z_sub [] rfl ?_
        exact hk M2 h
      · refine z_aload_n Z dX7_skipBlanks_27 rfl 0 rfl ?_
        refine z_dup Z dX7_skipBlanks_28 rfl ?_
        refine gC_X7_24_9 X dX7_skipBlanks_29 ?_
        refine z_iconst Z dX7_skipBlanks_32 ?_
        refine z_iadd Z dX7_skipBlanks_33 ?_
        refine pC_X7_24_9 X dX7_skipBlanks_34 h (fun M3 h => ?_)
        refine z_goto (tgt := 0) Z dX7_skipBlanks_37 (by decide) ?_
        refine z_sub [0] rfl ?_
        exact ih M3 h
set_option maxRecDepth 100000 in
set_option maxHeartbeats 4000000 in
theorem c_X7_skipBlanks {l : Launch} {D : va_G} {cI cZ : ClassId} {ad adK adV : Nat → Nat} {N : Nat} {M M' : zMem} {r : Int} (h : Tokens_skipBlanks N M = some (r, M')) : z_Ct (wC cI cZ ad) D cI cZ adK adV l yX7_skipBlanks cX7_skipBlanks 1 none 2 [.ref (ad 9)] M M' none := by
  unfold Tokens_skipBlanks at h
  refine z_entry (own := RX7) rfl (by decide) (Nat.le_of_ble_eq_true rfl) ?_
  intro p e s m args below meth c R A X hr hlk
  have Z := X.1
  refine z_sub (lv' := [(0, .ref (ad 9))]) [0] rfl ?_
  refine z_jnr (P := fun (k : zMem → zO) => ∀ (M1 : zMem), k M1 = some (r, M') → z_V p l e R s m args below meth c D A cI cZ 1 (wC cI cZ ad) M' none M1 40 [] []) h ?_ ?_
  · intro M1 h
    exact z_vret X hr hlk dX7_skipBlanks_40 h
  · intro k0 hk0 h
    refine z_sub [0] rfl ?_
    exact wTokens_skipBlanks_0 X hr hlk N k0 hk0 N M h
set_option maxRecDepth 100000 in
set_option maxHeartbeats 4000000 in
theorem wTokens_takeDigits_5 {p : Program} {l : Launch} {e : Env} {R : Room} {s : State} {m : MethodId} {args : Array Value} {below : List Frame} {meth : Method} {c : Code} {D : va_G} {A : Nat → Prop} {cI cZ : ClassId} {adK adV ad : Nat → Nat} {r : Int} {M' : zMem} (X : z_X p m c cX7_takeDigits 1 s args RX7 R 3 D cI cZ A adK adV) (hr : meth.sig.returnType = none) (hlk : meth.locks = false) (N : Nat) (k : zMem → zO) (hk : ∀ (M : zMem), k M = some (r, M') → z_V p l e R s m args below meth c D A cI cZ 1 (wC cI cZ ad) M' none M 76 [] []) : ∀ (n : Nat) (M : zMem), Tokens_takeDigits_5 N k n M = some (r, M') → z_V p l e R s m args below meth c D A cI cZ 1 (wC cI cZ ad) M' none M 5 [(0, .ref (ad 9))] [] := by
  have Z := X.1
  intro n
  induction n with
  | zero =>
    intro M h
    rw [Tokens_takeDigits_5] at h
    cases h
  | succ n ih =>
    intro M h
    rw [Tokens_takeDigits_5] at h
    refine z_aload_n Z dX7_takeDigits_5 rfl 0 rfl ?_
    refine gC_X7_24_9 X dX7_takeDigits_6 ?_
    refine z_sipush Z dX7_takeDigits_9 rfl ?_
    refine z_icmp_ge (tgt := 76) Z dX7_takeDigits_12 (by decide) h (fun h => ?_) (fun h => ?_)
    · refine z_sub [] rfl ?_
      exact hk M h
    · refine z_aload_n Z dX7_takeDigits_15 rfl 0 rfl ?_
      refine gC_X7_27_9 X dX7_takeDigits_16 ?_
      refine z_aload_n Z dX7_takeDigits_19 rfl 0 rfl ?_
      refine gC_X7_24_9 X dX7_takeDigits_20 ?_
      obtain ⟨r_, M1, hf, h⟩ := z_cld h
      refine z_callVi (Wd := wC cI cZ ad) X (c_X6_byteAt hf) ml_X7_37 yd_X6_byteAt yw_X6_byteAt (by omega) (by decide) (rC_1 X) rfl rfl (Nat.le_of_ble_eq_true rfl) ⟨Nat.zero_le _, Nat.zero_le _⟩ dX7_takeDigits_23 ?_
      obtain ⟨r_1, M2, hf1, h⟩ := z_cld h
      refine z_callSi (Wd := wC cI cZ ad) X (c_X7_isDigit hf1) ml_X7_50 yd_X7_isDigit yw_X7_isDigit (by omega) (by decide) rfl rfl (Nat.le_of_ble_eq_true rfl) ⟨Nat.zero_le _, Nat.zero_le _⟩ dX7_takeDigits_26 ?_
      refine z_if_eq (tgt := 76) Z dX7_takeDigits_29 (by decide) h (fun h => ?_) (fun h => ?_)
      · refine z_sub [] rfl ?_
        exact hk M2 h
      · refine z_aload_n Z dX7_takeDigits_32 rfl 0 rfl ?_
        refine z_aload_n Z dX7_takeDigits_33 rfl 0 rfl ?_
        refine gC_X7_18_9 X dX7_takeDigits_34 ?_
        refine z_bipush Z dX7_takeDigits_37 rfl ?_
        refine z_imul Z dX7_takeDigits_39 ?_
        refine z_aload_n Z dX7_takeDigits_40 rfl 0 rfl ?_
        refine gC_X7_27_9 X dX7_takeDigits_41 ?_
        refine z_aload_n Z dX7_takeDigits_44 rfl 0 rfl ?_
        refine gC_X7_24_9 X dX7_takeDigits_45 ?_
        obtain ⟨r_2, M3, hf2, h⟩ := z_cld h
        refine z_callVi (Wd := wC cI cZ ad) X (c_X6_byteAt hf2) ml_X7_37 yd_X6_byteAt yw_X6_byteAt (by omega) (by decide) (rC_1 X) rfl rfl (Nat.le_of_ble_eq_true rfl) ⟨Nat.zero_le _, Nat.zero_le _⟩ dX7_takeDigits_48 ?_
        refine z_iadd Z dX7_takeDigits_51 ?_
        refine z_bipush Z dX7_takeDigits_52 rfl ?_
        refine z_isub Z dX7_takeDigits_54 ?_
        refine z_ldc Z dX7_takeDigits_55 cn_X7_97 ?_
        refine z_mnr X ml_X7_98 (by omega) (Nat.le_of_ble_eq_true rfl) ⟨Nat.zero_le _, Nat.zero_le _⟩ dX7_takeDigits_57 h (fun x0 h => ?_)
        refine pC_X7_18_9 X dX7_takeDigits_60 h (fun M4 h => ?_)
        refine z_aload_n Z dX7_takeDigits_63 rfl 0 rfl ?_
        refine z_dup Z dX7_takeDigits_64 rfl ?_
        refine gC_X7_24_9 X dX7_takeDigits_65 ?_
        refine z_iconst Z dX7_takeDigits_68 ?_
        refine z_iadd Z dX7_takeDigits_69 ?_
        refine pC_X7_24_9 X dX7_takeDigits_70 h (fun M5 h => ?_)
        refine z_goto (tgt := 5) Z dX7_takeDigits_73 (by decide) ?_
        refine z_sub [0] rfl ?_
        exact ih M5 h
set_option maxRecDepth 100000 in
set_option maxHeartbeats 4000000 in
theorem c_X7_takeDigits {l : Launch} {D : va_G} {cI cZ : ClassId} {ad adK adV : Nat → Nat} {N : Nat} {M M' : zMem} {r : Int} (h : Tokens_takeDigits N M = some (r, M')) : z_Ct (wC cI cZ ad) D cI cZ adK adV l yX7_takeDigits cX7_takeDigits 1 none 3 [.ref (ad 9)] M M' none := by
  unfold Tokens_takeDigits at h
  refine z_entry (own := RX7) rfl (by decide) (Nat.le_of_ble_eq_true rfl) ?_
  intro p e s m args below meth c R A X hr hlk
  have Z := X.1
  refine z_sub (lv' := [(0, .ref (ad 9))]) [0] rfl ?_
  refine z_aload_n Z dX7_takeDigits_0 rfl 0 rfl ?_
  refine z_iconst Z dX7_takeDigits_1 ?_
  refine pC_X7_18_9 X dX7_takeDigits_2 h (fun M1 h => ?_)
  refine z_jnr (P := fun (k : zMem → zO) => ∀ (M2 : zMem), k M2 = some (r, M') → z_V p l e R s m args below meth c D A cI cZ 1 (wC cI cZ ad) M' none M2 76 [] []) h ?_ ?_
  · intro M2 h
    exact z_vret X hr hlk dX7_takeDigits_76 h
  · intro k0 hk0 h
    refine z_sub [0] rfl ?_
    exact wTokens_takeDigits_5 X hr hlk N k0 hk0 N M1 h
set_option maxRecDepth 100000 in
set_option maxHeartbeats 4000000 in
theorem wTokens_takeLetters_5 {p : Program} {l : Launch} {e : Env} {R : Room} {s : State} {m : MethodId} {args : Array Value} {below : List Frame} {meth : Method} {c : Code} {D : va_G} {A : Nat → Prop} {cI cZ : ClassId} {adK adV ad : Nat → Nat} {r : Int} {M' : zMem} (X : z_X p m c cX7_takeLetters 2 s args RX7 R 2 D cI cZ A adK adV) (hr : meth.sig.returnType = none) (hlk : meth.locks = false) (N : Nat) (k : zMem → zO) (hk : ∀ (M : zMem), k M = some (r, M') → z_V p l e R s m args below meth c D A cI cZ 2 (wC cI cZ ad) M' none M 101 [] []) : ∀ (n : Nat) (M : zMem), Tokens_takeLetters_5 N k n M = some (r, M') → z_V p l e R s m args below meth c D A cI cZ 2 (wC cI cZ ad) M' none M 5 [(0, .ref (ad 9))] [] := by
  have Z := X.1
  intro n
  induction n with
  | zero =>
    intro M h
    rw [Tokens_takeLetters_5] at h
    cases h
  | succ n ih =>
    intro M h
    rw [Tokens_takeLetters_5] at h
    refine z_aload_n Z dX7_takeLetters_5 rfl 0 rfl ?_
    refine gC_X7_24_9 X dX7_takeLetters_6 ?_
    refine z_sipush Z dX7_takeLetters_9 rfl ?_
    refine z_icmp_ge (tgt := 101) Z dX7_takeLetters_12 (by decide) h (fun h => ?_) (fun h => ?_)
    · refine z_sub [] rfl ?_
      exact hk M h
    · refine z_aload_n Z dX7_takeLetters_15 rfl 0 rfl ?_
      refine gC_X7_27_9 X dX7_takeLetters_16 ?_
      refine z_aload_n Z dX7_takeLetters_19 rfl 0 rfl ?_
      refine gC_X7_24_9 X dX7_takeLetters_20 ?_
      obtain ⟨r_, M1, hf, h⟩ := z_cld h
      refine z_callVi (Wd := wC cI cZ ad) X (c_X6_byteAt hf) ml_X7_37 yd_X6_byteAt yw_X6_byteAt (by omega) (by decide) (rC_1 X) rfl rfl (Nat.le_of_ble_eq_true rfl) ⟨Nat.zero_le _, Nat.zero_le _⟩ dX7_takeLetters_23 ?_
      obtain ⟨r_1, M2, hf1, h⟩ := z_cld h
      refine z_callSi (Wd := wC cI cZ ad) X (c_X7_isLetter hf1) ml_X7_43 yd_X7_isLetter yw_X7_isLetter (by omega) (by decide) rfl rfl (Nat.le_of_ble_eq_true rfl) ⟨Nat.zero_le _, Nat.zero_le _⟩ dX7_takeLetters_26 ?_
      refine z_if_eq (tgt := 101) Z dX7_takeLetters_29 (by decide) h (fun h => ?_) (fun h => ?_)
      · refine z_sub [] rfl ?_
        exact hk M2 h
      · refine z_aload_n Z dX7_takeLetters_32 rfl 0 rfl ?_
        refine gC_X7_24_9 X dX7_takeLetters_33 ?_
        refine z_aload_n Z dX7_takeLetters_36 rfl 0 rfl ?_
        refine gC_X7_15_9 X dX7_takeLetters_37 ?_
        refine z_isub Z dX7_takeLetters_40 ?_
        refine z_bipush Z dX7_takeLetters_41 rfl ?_
        refine z_jnr (P := fun (k : Int → zMem → zO) => ∀ (x0 : Int) (M3 : zMem), k x0 M3 = some (r, M') → z_V p l e R s m args below meth c D A cI cZ 2 (wC cI cZ ad) M' none M3 51 [(0, .ref (ad 9))] [.int (z_I x0)]) h ?_ ?_
        · intro x0 M3 h
          refine z_istore_n (lv' := [(1, .int (z_I x0)), (0, .ref (ad 9))]) Z dX7_takeLetters_51 rfl (by decide) rfl ?_
          refine z_aload_n Z dX7_takeLetters_52 rfl 1 rfl ?_
          refine z_iload_n Z dX7_takeLetters_53 rfl 0 rfl ?_
          refine z_jnr (P := fun (k : Int → zMem → zO) => ∀ (x1 : Int) (M4 : zMem), k x1 M4 = some (r, M') → z_V p l e R s m args below meth c D A cI cZ 2 (wC cI cZ ad) M' none M4 85 [(0, .ref (ad 9))] [.int (z_I x1), .ref (ad 9)]) h ?_ ?_
          · intro x1 M4 h
            refine pC_X7_21_9 X dX7_takeLetters_85 h (fun M5 h => ?_)
            refine z_aload_n Z dX7_takeLetters_88 rfl 0 rfl ?_
            refine z_dup Z dX7_takeLetters_89 rfl ?_
            refine gC_X7_24_9 X dX7_takeLetters_90 ?_
            refine z_iconst Z dX7_takeLetters_93 ?_
            refine z_iadd Z dX7_takeLetters_94 ?_
            refine pC_X7_24_9 X dX7_takeLetters_95 h (fun M6 h => ?_)
            refine z_goto (tgt := 5) Z dX7_takeLetters_98 (by decide) ?_
            refine z_sub [0] rfl ?_
            exact ih M6 h
          · intro k2 hk2 h
            refine z_if_eq (tgt := 84) Z dX7_takeLetters_54 (by decide) h (fun h => ?_) (fun h => ?_)
            · refine z_iconst Z dX7_takeLetters_84 ?_
              refine z_sub [1] rfl ?_
              exact hk2 (-1) M3 h
            · refine z_aload_n Z dX7_takeLetters_57 rfl 1 rfl ?_
              refine gC_X7_21_9 X dX7_takeLetters_58 ?_
              refine z_bipush Z dX7_takeLetters_61 rfl ?_
              refine z_imul Z dX7_takeLetters_63 ?_
              refine z_aload_n Z dX7_takeLetters_64 rfl 1 rfl ?_
              refine gC_X7_27_9 X dX7_takeLetters_65 ?_
              refine z_aload_n Z dX7_takeLetters_68 rfl 1 rfl ?_
              refine gC_X7_24_9 X dX7_takeLetters_69 ?_
              obtain ⟨r_2, M7, hf2, h⟩ := z_cld h
              refine z_callVi (Wd := wC cI cZ ad) X (c_X6_byteAt hf2) ml_X7_37 yd_X6_byteAt yw_X6_byteAt (by omega) (by decide) (rC_1 X) rfl rfl (Nat.le_of_ble_eq_true rfl) ⟨Nat.zero_le _, Nat.zero_le _⟩ dX7_takeLetters_72 ?_
              refine z_iadd Z dX7_takeLetters_75 ?_
              refine z_bipush Z dX7_takeLetters_76 rfl ?_
              refine z_isub Z dX7_takeLetters_78 ?_
              refine z_iconst Z dX7_takeLetters_79 ?_
              refine z_iadd Z dX7_takeLetters_80 ?_
              refine z_goto (tgt := 85) Z dX7_takeLetters_81 (by decide) ?_
              refine z_sub [1] rfl ?_
              exact hk2 (((((M3 9 4) * 27) + r_2) - 97) + 1) M7 h
        · intro k1 hk1 h
          refine z_icmp_ge (tgt := 50) Z dX7_takeLetters_43 (by decide) h (fun h => ?_) (fun h => ?_)
          · refine z_iconst Z dX7_takeLetters_50 ?_
            refine z_sub [0] rfl ?_
            exact hk1 0 M2 h
          · refine z_iconst Z dX7_takeLetters_46 ?_
            refine z_goto (tgt := 51) Z dX7_takeLetters_47 (by decide) ?_
            refine z_sub [0] rfl ?_
            exact hk1 1 M2 h
set_option maxRecDepth 100000 in
set_option maxHeartbeats 4000000 in
theorem c_X7_takeLetters {l : Launch} {D : va_G} {cI cZ : ClassId} {ad adK adV : Nat → Nat} {N : Nat} {M M' : zMem} {r : Int} (h : Tokens_takeLetters N M = some (r, M')) : z_Ct (wC cI cZ ad) D cI cZ adK adV l yX7_takeLetters cX7_takeLetters 2 none 2 [.ref (ad 9)] M M' none := by
  unfold Tokens_takeLetters at h
  refine z_entry (own := RX7) rfl (by decide) (Nat.le_of_ble_eq_true rfl) ?_
  intro p e s m args below meth c R A X hr hlk
  have Z := X.1
  refine z_sub (lv' := [(0, .ref (ad 9))]) [0] rfl ?_
  refine z_aload_n Z dX7_takeLetters_0 rfl 0 rfl ?_
  refine z_iconst Z dX7_takeLetters_1 ?_
  refine pC_X7_21_9 X dX7_takeLetters_2 h (fun M1 h => ?_)
  refine z_jnr (P := fun (k : zMem → zO) => ∀ (M2 : zMem), k M2 = some (r, M') → z_V p l e R s m args below meth c D A cI cZ 2 (wC cI cZ ad) M' none M2 101 [] []) h ?_ ?_
  · intro M2 h
    exact z_vret X hr hlk dX7_takeLetters_101 h
  · intro k0 hk0 h
    refine z_sub [0] rfl ?_
    exact wTokens_takeLetters_5 X hr hlk N k0 hk0 N M1 h
set_option maxRecDepth 100000 in
set_option maxHeartbeats 4000000 in
theorem c_X7_advance {l : Launch} {D : va_G} {cI cZ : ClassId} {ad adK adV : Nat → Nat} {N : Nat} {M M' : zMem} {r : Int} (h : Tokens_advance N M = some (r, M')) : z_Ct (wC cI cZ ad) D cI cZ adK adV l yX7_advance cX7_advance 2 none 4 [.ref (ad 9)] M M' none := by
  unfold Tokens_advance at h
  refine z_entry (own := RX7) rfl (by decide) (Nat.le_of_ble_eq_true rfl) ?_
  intro p e s m args below meth c R A X hr hlk
  have Z := X.1
  refine z_sub (lv' := [(0, .ref (ad 9))]) [0] rfl ?_
  refine z_aload_n Z dX7_advance_0 rfl 0 rfl ?_
  obtain ⟨u_, M1, hf, h⟩ := z_cld h
  refine z_callVv (Wd := wC cI cZ ad) X (c_X7_skipBlanks hf) ml_X7_34 yd_X7_skipBlanks yw_X7_skipBlanks (by omega) (by decide) (rC_9 X) rfl rfl (Nat.le_of_ble_eq_true rfl) ⟨Nat.zero_le _, Nat.zero_le _⟩ dX7_advance_1 ?_
  refine z_aload_n Z dX7_advance_4 rfl 0 rfl ?_
  refine z_aload_n Z dX7_advance_5 rfl 0 rfl ?_
  refine gC_X7_24_9 X dX7_advance_6 ?_
  refine pC_X7_15_9 X dX7_advance_9 h (fun M2 h => ?_)
  refine z_aload_n Z dX7_advance_12 rfl 0 rfl ?_
  refine gC_X7_27_9 X dX7_advance_13 ?_
  refine z_aload_n Z dX7_advance_16 rfl 0 rfl ?_
  refine gC_X7_15_9 X dX7_advance_17 ?_
  obtain ⟨r_, M3, hf1, h⟩ := z_cld h
  refine z_callVi (Wd := wC cI cZ ad) X (c_X6_byteAt hf1) ml_X7_37 yd_X6_byteAt yw_X6_byteAt (by omega) (by decide) (rC_1 X) rfl rfl (Nat.le_of_ble_eq_true rfl) ⟨Nat.zero_le _, Nat.zero_le _⟩ dX7_advance_20 ?_
  refine z_istore_n (lv' := [(1, .int (z_I r_)), (0, .ref (ad 9))]) Z dX7_advance_23 rfl (by decide) rfl ?_
  refine z_iload_n Z dX7_advance_24 rfl 0 rfl ?_
  refine z_iconst Z dX7_advance_25 ?_
  refine z_icmp_ne (tgt := 37) Z dX7_advance_26 (by decide) h (fun h => ?_) (fun h => ?_)
  · refine z_iload_n Z dX7_advance_37 rfl 0 rfl ?_
    obtain ⟨r_1, M4, hf2, h⟩ := z_cld h
    refine z_callSi (Wd := wC cI cZ ad) X (c_X7_isLetter hf2) ml_X7_43 yd_X7_isLetter yw_X7_isLetter (by omega) (by decide) rfl rfl (Nat.le_of_ble_eq_true rfl) ⟨Nat.zero_le _, Nat.zero_le _⟩ dX7_advance_38 ?_
    refine z_if_eq (tgt := 56) Z dX7_advance_41 (by decide) h (fun h => ?_) (fun h => ?_)
    · refine z_iload_n Z dX7_advance_56 rfl 0 rfl ?_
      obtain ⟨r_2, M5, hf3, h⟩ := z_cld h
      refine z_callSi (Wd := wC cI cZ ad) X (c_X7_isDigit hf3) ml_X7_50 yd_X7_isDigit yw_X7_isDigit (by omega) (by decide) rfl rfl (Nat.le_of_ble_eq_true rfl) ⟨Nat.zero_le _, Nat.zero_le _⟩ dX7_advance_57 ?_
      refine z_if_eq (tgt := 75) Z dX7_advance_60 (by decide) h (fun h => ?_) (fun h => ?_)
      · refine z_aload_n Z dX7_advance_75 rfl 1 rfl ?_
        refine z_iload_n Z dX7_advance_76 rfl 0 rfl ?_
        refine z_bipush Z dX7_advance_77 rfl ?_
        refine z_jnr (P := fun (k : Int → zMem → zO) => ∀ (x0 : Int) (M6 : zMem), k x0 M6 = some (r, M') → z_V p l e R s m args below meth c D A cI cZ 2 (wC cI cZ ad) M' none M6 97 [(0, .ref (ad 9))] [.int (z_I x0), .ref (ad 9)]) h ?_ ?_
        · intro x0 M6 h
          refine pC_X7_11_9 X dX7_advance_97 h (fun M7 h => ?_)
          refine z_aload_n Z dX7_advance_100 rfl 0 rfl ?_
          refine z_aload_n Z dX7_advance_101 rfl 0 rfl ?_
          refine gC_X7_15_9 X dX7_advance_102 ?_
          refine z_iconst Z dX7_advance_105 ?_
          refine z_iadd Z dX7_advance_106 ?_
          refine pC_X7_24_9 X dX7_advance_107 h (fun M8 h => ?_)
          exact z_vret X hr hlk dX7_advance_110 h
        · intro k0 hk0 h
          refine z_icmp_ne (tgt := 86) Z dX7_advance_79 (by decide) h (fun h => ?_) (fun h => ?_)
          · refine z_iload_n Z dX7_advance_86 rfl 0 rfl ?_
            refine z_bipush Z dX7_advance_87 rfl ?_
            refine z_icmp_ne (tgt := 96) Z dX7_advance_89 (by decide) h (fun h => ?_) (fun h => ?_)
            · refine z_iconst Z dX7_advance_96 ?_
              refine z_sub [1] rfl ?_
              exact hk0 5 M5 h
            · refine z_iconst Z dX7_advance_92 ?_
              refine z_goto (tgt := 97) Z dX7_advance_93 (by decide) ?_
              refine z_sub [1] rfl ?_
              exact hk0 4 M5 h
          · refine z_iconst Z dX7_advance_82 ?_
            refine z_goto (tgt := 97) Z dX7_advance_83 (by decide) ?_
            refine z_sub [1] rfl ?_
            exact hk0 3 M5 h
      · refine z_aload_n Z dX7_advance_63 rfl 1 rfl ?_
        refine z_iconst Z dX7_advance_64 ?_
        refine pC_X7_11_9 X dX7_advance_65 h (fun M9 h => ?_)
        refine z_aload_n Z dX7_advance_68 rfl 1 rfl ?_
        obtain ⟨u_1, M10, hf4, h⟩ := z_cld h
        refine z_callVv (Wd := wC cI cZ ad) X (c_X7_takeDigits hf4) ml_X7_53 yd_X7_takeDigits yw_X7_takeDigits (by omega) (by decide) (rC_9 X) rfl rfl (Nat.le_of_ble_eq_true rfl) ⟨Nat.zero_le _, Nat.zero_le _⟩ dX7_advance_69 ?_
        refine z_goto (tgt := 110) Z dX7_advance_72 (by decide) ?_
        exact z_vret X hr hlk dX7_advance_110 h
    · refine z_aload_n Z dX7_advance_44 rfl 1 rfl ?_
      refine z_iconst Z dX7_advance_45 ?_
      refine pC_X7_11_9 X dX7_advance_46 h (fun M11 h => ?_)
      refine z_aload_n Z dX7_advance_49 rfl 1 rfl ?_
      obtain ⟨u_2, M12, hf5, h⟩ := z_cld h
      refine z_callVv (Wd := wC cI cZ ad) X (c_X7_takeLetters hf5) ml_X7_47 yd_X7_takeLetters yw_X7_takeLetters (by omega) (by decide) (rC_9 X) rfl rfl (Nat.le_of_ble_eq_true rfl) ⟨Nat.zero_le _, Nat.zero_le _⟩ dX7_advance_50 ?_
      refine z_goto (tgt := 110) Z dX7_advance_53 (by decide) ?_
      exact z_vret X hr hlk dX7_advance_110 h
  · refine z_aload_n Z dX7_advance_29 rfl 1 rfl ?_
    refine z_iconst Z dX7_advance_30 ?_
    refine pC_X7_11_9 X dX7_advance_31 h (fun M13 h => ?_)
    refine z_goto (tgt := 110) Z dX7_advance_34 (by decide) ?_
    exact z_vret X hr hlk dX7_advance_110 h
set_option maxRecDepth 100000 in
set_option maxHeartbeats 4000000 in
theorem c_X4_takeNumber {l : Launch} {D : va_G} {cI cZ : ClassId} {ad adK adV : Nat → Nat} {N : Nat} {v1 v2 : Int} {M M' : zMem} {r : Int} (h : Reader_takeNumber N v1 v2 M = some (r, M')) : z_Ct (wC cI cZ ad) D cI cZ adK adV l yX4_takeNumber cX4_takeNumber 4 (some .int) 5 [.ref (ad 3), .int (z_I v1), .int (z_I v2)] M M' (some (.int (z_I r))) := by
  unfold Reader_takeNumber at h
  refine z_entry (own := RX4) rfl (by decide) (Nat.le_of_ble_eq_true rfl) ?_
  intro p e s m args below meth c R A X hr hlk
  have Z := X.1
  refine z_sub (lv' := [(0, .ref (ad 3)), (1, .int (z_I v1)), (2, .int (z_I v2))]) [0, 1, 2] rfl ?_
  refine z_aload_n Z dX4_takeNumber_0 rfl 0 rfl ?_
  refine gC_X4_39_3 X dX4_takeNumber_1 ?_
  refine gC_X4_84_9 X dX4_takeNumber_4 ?_
  refine z_iconst Z dX4_takeNumber_7 ?_
  refine z_jnr (P := fun (k : zMem → zO) => ∀ (M1 : zMem), k M1 = some (r, M') → z_V p l e R s m args below meth c D A cI cZ 4 (wC cI cZ ad) M' (some (.int (z_I r))) M1 46 [(0, .ref (ad 3))] []) h ?_ ?_
  · intro M1 h
    refine z_aload_n Z dX4_takeNumber_46 rfl 0 rfl ?_
    refine gC_X4_39_3 X dX4_takeNumber_47 ?_
    refine gC_X4_210_9 X dX4_takeNumber_50 ?_
    refine z_nmI h (fun v3_ h => ?_)
    refine z_istore_n (lv' := [(3, .int (z_I v3_)), (0, .ref (ad 3))]) Z dX4_takeNumber_53 rfl (by decide) rfl ?_
    refine z_aload_n Z dX4_takeNumber_54 rfl 1 rfl ?_
    refine gC_X4_39_3 X dX4_takeNumber_55 ?_
    obtain ⟨u_, M2, hf, h⟩ := z_cld h
    refine z_callVv (Wd := wC cI cZ ad) X (c_X7_advance hf) ml_X4_198 yd_X7_advance yw_X7_advance (by omega) (by decide) (rC_9 X) rfl rfl (Nat.le_of_ble_eq_true rfl) ⟨Nat.zero_le _, Nat.zero_le _⟩ dX4_takeNumber_58 ?_
    refine z_iload_n Z dX4_takeNumber_61 rfl 0 rfl ?_
    exact z_iret X hr hlk dX4_takeNumber_62 h
  · intro k0 hk0 h
    refine z_icmp_eq (tgt := 19) Z dX4_takeNumber_8 (by decide) h (fun h => ?_) (fun h => ?_)
    · refine z_aload_n Z dX4_takeNumber_19 rfl 0 rfl ?_
      refine gC_X4_39_3 X dX4_takeNumber_20 ?_
      refine gC_X4_210_9 X dX4_takeNumber_23 ?_
      refine z_iload_n Z dX4_takeNumber_26 rfl 1 rfl ?_
      refine z_jnr (P := fun (k : zMem → zO) => ∀ (M3 : zMem), k M3 = some (r, M') → z_V p l e R s m args below meth c D A cI cZ 4 (wC cI cZ ad) M' (some (.int (z_I r))) M3 41 [(0, .ref (ad 3))] []) h ?_ ?_
      · intro M3 h
        refine z_aload_n Z dX4_takeNumber_41 rfl 0 rfl ?_
        refine z_iconst Z dX4_takeNumber_42 ?_
        obtain ⟨u_1, M4, hf1, h⟩ := z_cld h
        refine z_callVv (Wd := wC cI cZ ad) X (c_X4_fail hf1) ml_X4_195 yd_X4_fail yw_X4_fail (by omega) (by decide) (rC_3 X) rfl rfl (Nat.le_of_ble_eq_true rfl) ⟨Nat.zero_le _, Nat.zero_le _⟩ dX4_takeNumber_43 ?_
        refine z_sub [0] rfl ?_
        exact hk0 M4 h
      · intro k1 hk1 h
        refine z_icmp_lt (tgt := 41) Z dX4_takeNumber_27 (by decide) h (fun h => ?_) (fun h => ?_)
        · refine z_sub [0] rfl ?_
          exact hk1 M h
        · refine z_aload_n Z dX4_takeNumber_30 rfl 0 rfl ?_
          refine gC_X4_39_3 X dX4_takeNumber_31 ?_
          refine gC_X4_210_9 X dX4_takeNumber_34 ?_
          refine z_iload_n Z dX4_takeNumber_37 rfl 2 rfl ?_
          refine z_icmp_le (tgt := 46) Z dX4_takeNumber_38 (by decide) h (fun h => ?_) (fun h => ?_)
          · refine z_sub [0] rfl ?_
            exact hk0 M h
          · refine z_sub [0] rfl ?_
            exact hk1 M h
    · refine z_aload_n Z dX4_takeNumber_11 rfl 0 rfl ?_
      refine z_iconst Z dX4_takeNumber_12 ?_
      obtain ⟨u_2, M5, hf2, h⟩ := z_cld h
      refine z_callVv (Wd := wC cI cZ ad) X (c_X4_fail hf2) ml_X4_195 yd_X4_fail yw_X4_fail (by omega) (by decide) (rC_3 X) rfl rfl (Nat.le_of_ble_eq_true rfl) ⟨Nat.zero_le _, Nat.zero_le _⟩ dX4_takeNumber_13 ?_
      refine z_goto (tgt := 46) Z dX4_takeNumber_16 (by decide) ?_
      refine z_sub [0] rfl ?_
      exact hk0 M5 h
set_option maxRecDepth 100000 in
set_option maxHeartbeats 4000000 in
theorem wTokens_is_28 {p : Program} {l : Launch} {e : Env} {R : Room} {s : State} {m : MethodId} {args : Array Value} {below : List Frame} {meth : Method} {c : Code} {D : va_G} {A : Nat → Prop} {cI cZ : ClassId} {adK adV ad : Nat → Nat} {r : Int} {M' : zMem} (X : z_X p m c cX7_is 3 s args RX7 R 6 D cI cZ A adK adV) (hr : meth.sig.returnType = some .boolean) (hlk : meth.locks = false) {v1 : Nat} (hv1 : v1 < 27) (N : Nat) (k : zMem → zO) (hk : ∀ (M : zMem), k M = some (r, M') → z_V p l e R s m args below meth c D A cI cZ 3 (wC cI cZ ad) M' (some (.int (z_I r))) M 65 [] []) : ∀ (n : Nat) (v2 : Int) (M : zMem), Tokens_is_28 N v1 k n v2 M = some (r, M') → z_V p l e R s m args below meth c D A cI cZ 3 (wC cI cZ ad) M' (some (.int (z_I r))) M 28 [(0, .ref (ad 9)), (1, .ref (adK v1)), (2, .int (z_I v2))] [] := by
  have Z := X.1
  intro n
  induction n with
  | zero =>
    intro v2 M h
    rw [Tokens_is_28] at h
    cases h
  | succ n ih =>
    intro v2 M h
    rw [Tokens_is_28] at h
    refine z_iload_n Z dX7_is_28 rfl 2 rfl ?_
    refine z_aload_n Z dX7_is_29 rfl 1 rfl ?_
    refine z_strlen X (i := v1) hv1 ml_X7_56 (by omega) (Nat.le_of_ble_eq_true rfl) ⟨Nat.zero_le _, Nat.zero_le _⟩ dX7_is_30 ?_
    refine z_icmp_ge (tgt := 65) Z dX7_is_33 (by decide) h (fun h => ?_) (fun h => ?_)
    · refine z_sub [] rfl ?_
      exact hk M h
    · refine z_aload_n Z dX7_is_36 rfl 0 rfl ?_
      refine gC_X7_27_9 X dX7_is_37 ?_
      refine z_aload_n Z dX7_is_40 rfl 0 rfl ?_
      refine gC_X7_15_9 X dX7_is_41 ?_
      refine z_iload_n Z dX7_is_44 rfl 2 rfl ?_
      refine z_iadd Z dX7_is_45 ?_
      obtain ⟨r_, M1, hf, h⟩ := z_cld h
      refine z_callVi (Wd := wC cI cZ ad) X (c_X6_byteAt hf) ml_X7_37 yd_X6_byteAt yw_X6_byteAt (by omega) (by decide) (rC_1 X) rfl rfl (Nat.le_of_ble_eq_true rfl) ⟨Nat.zero_le _, Nat.zero_le _⟩ dX7_is_46 ?_
      refine z_aload_n Z dX7_is_49 rfl 1 rfl ?_
      refine z_iload_n Z dX7_is_50 rfl 2 rfl ?_
      refine z_strchr X (i := v1) hv1 ml_X7_62 (by omega) (Nat.le_of_ble_eq_true rfl) ⟨Nat.zero_le _, Nat.zero_le _⟩ dX7_is_51 h (fun x0 h => ?_)
      refine z_icmp_eq (tgt := 59) Z dX7_is_54 (by decide) h (fun h => ?_) (fun h => ?_)
      · refine z_iincn Z (fun z => [(2, .int (z_I z)), (0, .ref (ad 9)), (1, .ref (adK v1))]) dX7_is_59 (k := 2) rfl (by decide) (fun _ => rfl) h (fun v2_ h => ?_)
        refine z_goto (tgt := 28) Z dX7_is_62 (by decide) ?_
        refine z_sub [1, 2, 0] rfl ?_
        exact ih v2_ M1 h
      · refine z_iconst Z dX7_is_57 ?_
        exact z_zret X hr hlk (Or.inl rfl) dX7_is_58 h
set_option maxRecDepth 100000 in
set_option maxHeartbeats 4000000 in
theorem c_X7_is {l : Launch} {D : va_G} {cI cZ : ClassId} {ad adK adV : Nat → Nat} {N : Nat} {v1 : Nat} (hv1 : v1 < 27) {M M' : zMem} {r : Int} (h : Tokens_is N v1 M = some (r, M')) : z_Ct (wC cI cZ ad) D cI cZ adK adV l yX7_is cX7_is 3 (some .boolean) 6 [.ref (ad 9), .ref (adK v1)] M M' (some (.int (z_I r))) := by
  unfold Tokens_is at h
  refine z_entry (own := RX7) rfl (by decide) (Nat.le_of_ble_eq_true rfl) ?_
  intro p e s m args below meth c R A X hr hlk
  have Z := X.1
  refine z_sub (lv' := [(0, .ref (ad 9)), (1, .ref (adK v1))]) [0, 1] rfl ?_
  refine z_aload_n Z dX7_is_0 rfl 0 rfl ?_
  refine gC_X7_11_9 X dX7_is_1 ?_
  refine z_iconst Z dX7_is_4 ?_
  refine z_icmp_ne (tgt := 24) Z dX7_is_5 (by decide) h (fun h => ?_) (fun h => ?_)
  · refine z_iconst Z dX7_is_24 ?_
    exact z_zret X hr hlk (Or.inl rfl) dX7_is_25 h
  · refine z_aload_n Z dX7_is_8 rfl 0 rfl ?_
    refine gC_X7_24_9 X dX7_is_9 ?_
    refine z_aload_n Z dX7_is_12 rfl 0 rfl ?_
    refine gC_X7_15_9 X dX7_is_13 ?_
    refine z_isub Z dX7_is_16 ?_
    refine z_aload_n Z dX7_is_17 rfl 1 rfl ?_
    refine z_strlen X (i := v1) hv1 ml_X7_56 (by omega) (Nat.le_of_ble_eq_true rfl) ⟨Nat.zero_le _, Nat.zero_le _⟩ dX7_is_18 ?_
    refine z_icmp_eq (tgt := 26) Z dX7_is_21 (by decide) h (fun h => ?_) (fun h => ?_)
    · refine z_iconst Z dX7_is_26 ?_
      refine z_istore_n (lv' := [(2, .int (z_I 0)), (0, .ref (ad 9)), (1, .ref (adK v1))]) Z dX7_is_27 rfl (by decide) rfl ?_
      refine z_jnr (P := fun (k : zMem → zO) => ∀ (M1 : zMem), k M1 = some (r, M') → z_V p l e R s m args below meth c D A cI cZ 3 (wC cI cZ ad) M' (some (.int (z_I r))) M1 65 [] []) h ?_ ?_
      · intro M1 h
        refine z_iconst Z dX7_is_65 ?_
        exact z_zret X hr hlk (Or.inr rfl) dX7_is_66 h
      · intro k0 hk0 h
        refine z_sub [1, 2, 0] rfl ?_
        exact wTokens_is_28 X hr hlk hv1 N k0 hk0 N 0 M h
    · refine z_iconst Z dX7_is_24 ?_
      exact z_zret X hr hlk (Or.inl rfl) dX7_is_25 h
set_option maxRecDepth 100000 in
set_option maxHeartbeats 4000000 in
theorem c_X4_takeWord {l : Launch} {D : va_G} {cI cZ : ClassId} {ad adK adV : Nat → Nat} {N : Nat} {v1 : Nat} (hv1 : v1 < 27) {M M' : zMem} {r : Int} (h : Reader_takeWord N v1 M = some (r, M')) : z_Ct (wC cI cZ ad) D cI cZ adK adV l yX4_takeWord cX4_takeWord 2 none 7 [.ref (ad 3), .ref (adK v1)] M M' none := by
  unfold Reader_takeWord at h
  refine z_entry (own := RX4) rfl (by decide) (Nat.le_of_ble_eq_true rfl) ?_
  intro p e s m args below meth c R A X hr hlk
  have Z := X.1
  refine z_sub (lv' := [(0, .ref (ad 3)), (1, .ref (adK v1))]) [0, 1] rfl ?_
  refine z_aload_n Z dX4_takeWord_0 rfl 0 rfl ?_
  refine gC_X4_39_3 X dX4_takeWord_1 ?_
  refine z_aload_n Z dX4_takeWord_4 rfl 1 rfl ?_
  obtain ⟨r_, M1, hf, h⟩ := z_cld h
  refine z_callVi (Wd := wC cI cZ ad) X (c_X7_is hv1 hf) ml_X4_61 yd_X7_is yw_X7_is (by omega) (by decide) (rC_9 X) rfl rfl (Nat.le_of_ble_eq_true rfl) ⟨Nat.zero_le _, Nat.zero_le _⟩ dX4_takeWord_5 ?_
  refine z_jnr (P := fun (k : zMem → zO) => ∀ (M2 : zMem), k M2 = some (r, M') → z_V p l e R s m args below meth c D A cI cZ 2 (wC cI cZ ad) M' none M2 16 [(0, .ref (ad 3))] []) h ?_ ?_
  · intro M2 h
    refine z_aload_n Z dX4_takeWord_16 rfl 0 rfl ?_
    refine gC_X4_39_3 X dX4_takeWord_17 ?_
    obtain ⟨u_, M3, hf1, h⟩ := z_cld h
    refine z_callVv (Wd := wC cI cZ ad) X (c_X7_advance hf1) ml_X4_198 yd_X7_advance yw_X7_advance (by omega) (by decide) (rC_9 X) rfl rfl (Nat.le_of_ble_eq_true rfl) ⟨Nat.zero_le _, Nat.zero_le _⟩ dX4_takeWord_20 ?_
    exact z_vret X hr hlk dX4_takeWord_23 h
  · intro k0 hk0 h
    refine z_if_ne (tgt := 16) Z dX4_takeWord_8 (by decide) h (fun h => ?_) (fun h => ?_)
    · refine z_sub [0] rfl ?_
      exact hk0 M1 h
    · refine z_aload_n Z dX4_takeWord_11 rfl 0 rfl ?_
      refine z_iconst Z dX4_takeWord_12 ?_
      obtain ⟨u_1, M4, hf2, h⟩ := z_cld h
      refine z_callVv (Wd := wC cI cZ ad) X (c_X4_fail hf2) ml_X4_195 yd_X4_fail yw_X4_fail (by omega) (by decide) (rC_3 X) rfl rfl (Nat.le_of_ble_eq_true rfl) ⟨Nat.zero_le _, Nat.zero_le _⟩ dX4_takeWord_13 ?_
      refine z_sub [0] rfl ?_
      exact hk0 M4 h
set_option maxRecDepth 100000 in
set_option maxHeartbeats 4000000 in
theorem c_X4_takeMeasure {l : Launch} {D : va_G} {cI cZ : ClassId} {ad adK adV : Nat → Nat} {N : Nat} {v1 : Nat} (hv1 : v1 < 27) {v2 v3 : Int} {M M' : zMem} {r : Int} (h : Reader_takeMeasure N v1 v2 v3 M = some (r, M')) : z_Ct (wC cI cZ ad) D cI cZ adK adV l yX4_takeMeasure cX4_takeMeasure 4 (some .int) 8 [.ref (ad 3), .ref (adK v1), .int (z_I v2), .int (z_I v3)] M M' (some (.int (z_I r))) := by
  unfold Reader_takeMeasure at h
  refine z_entry (own := RX4) rfl (by decide) (Nat.le_of_ble_eq_true rfl) ?_
  intro p e s m args below meth c R A X hr hlk
  have Z := X.1
  refine z_sub (lv' := [(0, .ref (ad 3)), (1, .ref (adK v1)), (2, .int (z_I v2)), (3, .int (z_I v3))]) [0, 1, 2, 3] rfl ?_
  refine z_aload_n Z dX4_takeMeasure_0 rfl 0 rfl ?_
  refine z_aload_n Z dX4_takeMeasure_1 rfl 1 rfl ?_
  obtain ⟨u_, M1, hf, h⟩ := z_cld h
  refine z_callVv (Wd := wC cI cZ ad) X (c_X4_takeWord hv1 hf) ml_X4_89 yd_X4_takeWord yw_X4_takeWord (by omega) (by decide) (rC_3 X) rfl rfl (Nat.le_of_ble_eq_true rfl) ⟨Nat.zero_le _, Nat.zero_le _⟩ dX4_takeMeasure_2 ?_
  refine z_aload_n Z dX4_takeMeasure_5 rfl 0 rfl ?_
  refine z_iload_n Z dX4_takeMeasure_6 rfl 2 rfl ?_
  refine z_iload_n Z dX4_takeMeasure_7 rfl 3 rfl ?_
  obtain ⟨r_, M2, hf1, h⟩ := z_cld h
  refine z_callVi (Wd := wC cI cZ ad) X (c_X4_takeNumber hf1) ml_X4_138 yd_X4_takeNumber yw_X4_takeNumber (by omega) (by decide) (rC_3 X) rfl rfl (Nat.le_of_ble_eq_true rfl) ⟨Nat.zero_le _, Nat.zero_le _⟩ dX4_takeMeasure_8 ?_
  exact z_iret X hr hlk dX4_takeMeasure_11 h
set_option maxRecDepth 100000 in
set_option maxHeartbeats 4000000 in
theorem c_X9_isQuick {l : Launch} {D : va_G} {cI cZ : ClassId} {ad adK adV : Nat → Nat} {v0 v1 : Int} {M M' : zMem} {r : Int} (h : Drum_isQuick v0 v1 M = some (r, M')) : z_Ct (wC cI cZ ad) D cI cZ adK adV l yX9_isQuick cX9_isQuick 2 (some .boolean) 1 [.int (z_I v0), .int (z_I v1)] M M' (some (.int (z_I r))) := by
  unfold Drum_isQuick at h
  refine z_entry (own := RX9) rfl (by decide) (Nat.le_of_ble_eq_true rfl) ?_
  intro p e s m args below meth c R A X hr hlk
  have Z := X.1
  refine z_sub (lv' := [(0, .int (z_I v0)), (1, .int (z_I v1))]) [0, 1] rfl ?_
  refine z_iload_n Z dX9_isQuick_0 rfl 0 rfl ?_
  refine z_jnr (P := fun (k : zMem → zO) => ∀ (M1 : zMem), k M1 = some (r, M') → z_V p l e R s m args below meth c D A cI cZ 2 (wC cI cZ ad) M' (some (.int (z_I r))) M1 19 [] []) h ?_ ?_
  · intro M1 h
    refine z_iconst Z dX9_isQuick_19 ?_
    refine z_goto (tgt := 24) Z dX9_isQuick_20 (by decide) ?_
    exact z_zret X hr hlk (Or.inr rfl) dX9_isQuick_24 h
  · intro k0 hk0 h
    refine z_if_eq (tgt := 19) Z dX9_isQuick_1 (by decide) h (fun h => ?_) (fun h => ?_)
    · refine z_sub [] rfl ?_
      exact hk0 M h
    · refine z_iload_n Z dX9_isQuick_4 rfl 0 rfl ?_
      refine z_jnr (P := fun (k : zMem → zO) => ∀ (M2 : zMem), k M2 = some (r, M') → z_V p l e R s m args below meth c D A cI cZ 2 (wC cI cZ ad) M' (some (.int (z_I r))) M2 23 [] []) h ?_ ?_
      · intro M2 h
        refine z_iconst Z dX9_isQuick_23 ?_
        exact z_zret X hr hlk (Or.inl rfl) dX9_isQuick_24 h
      · intro k1 hk1 h
        refine z_if_le (tgt := 23) Z dX9_isQuick_5 (by decide) h (fun h => ?_) (fun h => ?_)
        · refine z_sub [] rfl ?_
          exact hk1 M h
        · refine z_iload_n Z dX9_isQuick_8 rfl 0 rfl ?_
          refine z_iload_n Z dX9_isQuick_9 rfl 1 rfl ?_
          refine z_icmp_ge (tgt := 23) Z dX9_isQuick_10 (by decide) h (fun h => ?_) (fun h => ?_)
          · refine z_sub [] rfl ?_
            exact hk1 M h
          · refine z_iload_n Z dX9_isQuick_13 rfl 1 rfl ?_
            refine z_iload_n Z dX9_isQuick_14 rfl 0 rfl ?_
            refine z_iremt Z dX9_isQuick_15 h (fun x0 h => ?_)
            refine z_if_ne (tgt := 23) Z dX9_isQuick_16 (by decide) h (fun h => ?_) (fun h => ?_)
            · refine z_sub [] rfl ?_
              exact hk1 M h
            · refine z_sub [] rfl ?_
              exact hk0 M h
set_option maxRecDepth 100000 in
set_option maxHeartbeats 4000000 in
theorem c_X4_takeQuick {l : Launch} {D : va_G} {cI cZ : ClassId} {ad adK adV : Nat → Nat} {N : Nat} {v1 : Int} {M M' : zMem} {r : Int} (h : Reader_takeQuick N v1 M = some (r, M')) : z_Ct (wC cI cZ ad) D cI cZ adK adV l yX4_takeQuick cX4_takeQuick 2 (some .int) 8 [.ref (ad 3), .int (z_I v1)] M M' (some (.int (z_I r))) := by
  unfold Reader_takeQuick at h
  refine z_entry (own := RX4) rfl (by decide) (Nat.le_of_ble_eq_true rfl) ?_
  intro p e s m args below meth c R A X hr hlk
  have Z := X.1
  refine z_sub (lv' := [(0, .ref (ad 3)), (1, .int (z_I v1))]) [0, 1] rfl ?_
  refine z_aload_n Z dX4_takeQuick_0 rfl 0 rfl ?_
  refine z_ldcS X 4 (by decide) rfl rfl dX4_takeQuick_1 ?_
  obtain ⟨u_, M1, hf, h⟩ := z_cld h
  refine z_callVv (Wd := wC cI cZ ad) X (c_X4_takeWord (by decide) hf) ml_X4_89 yd_X4_takeWord yw_X4_takeWord (by omega) (by decide) (rC_3 X) rfl rfl (Nat.le_of_ble_eq_true rfl) ⟨Nat.zero_le _, Nat.zero_le _⟩ dX4_takeQuick_3 ?_
  refine z_aload_n Z dX4_takeQuick_6 rfl 0 rfl ?_
  refine gC_X4_39_3 X dX4_takeQuick_7 ?_
  refine gC_X4_84_9 X dX4_takeQuick_10 ?_
  refine z_iconst Z dX4_takeQuick_13 ?_
  refine z_jnr (P := fun (k : zMem → zO) => ∀ (M2 : zMem), k M2 = some (r, M') → z_V p l e R s m args below meth c D A cI cZ 2 (wC cI cZ ad) M' (some (.int (z_I r))) M2 36 [(0, .ref (ad 3))] []) h ?_ ?_
  · intro M2 h
    refine z_aload_n Z dX4_takeQuick_36 rfl 0 rfl ?_
    refine z_iconst Z dX4_takeQuick_37 ?_
    refine z_bipush Z dX4_takeQuick_38 rfl ?_
    obtain ⟨r_, M3, hf1, h⟩ := z_cld h
    refine z_callVi (Wd := wC cI cZ ad) X (c_X4_takeNumber hf1) ml_X4_138 yd_X4_takeNumber yw_X4_takeNumber (by omega) (by decide) (rC_3 X) rfl rfl (Nat.le_of_ble_eq_true rfl) ⟨Nat.zero_le _, Nat.zero_le _⟩ dX4_takeQuick_40 ?_
    exact z_iret X hr hlk dX4_takeQuick_43 h
  · intro k0 hk0 h
    refine z_icmp_ne (tgt := 36) Z dX4_takeQuick_14 (by decide) h (fun h => ?_) (fun h => ?_)
    · refine z_sub [0] rfl ?_
      exact hk0 M1 h
    · refine z_aload_n Z dX4_takeQuick_17 rfl 0 rfl ?_
      refine gC_X4_39_3 X dX4_takeQuick_18 ?_
      refine gC_X4_210_9 X dX4_takeQuick_21 ?_
      refine z_iload_n Z dX4_takeQuick_24 rfl 1 rfl ?_
      obtain ⟨r_1, M4, hf2, h⟩ := z_cld h
      refine z_callNi (Wd := wC cI cZ ad) X (c_X9_isQuick hf2) nl_X4_214 yd_X9_isQuick yw_X9_isQuick (by omega) (by decide) rfl rfl (Nat.le_of_ble_eq_true rfl) ⟨Nat.zero_le _, Nat.zero_le _⟩ dX4_takeQuick_25 ?_
      refine z_if_ne (tgt := 36) Z dX4_takeQuick_28 (by decide) h (fun h => ?_) (fun h => ?_)
      · refine z_sub [0] rfl ?_
        exact hk0 M4 h
      · refine z_aload_n Z dX4_takeQuick_31 rfl 0 rfl ?_
        refine z_iconst Z dX4_takeQuick_32 ?_
        obtain ⟨u_1, M5, hf3, h⟩ := z_cld h
        refine z_callVv (Wd := wC cI cZ ad) X (c_X4_fail hf3) ml_X4_195 yd_X4_fail yw_X4_fail (by omega) (by decide) (rC_3 X) rfl rfl (Nat.le_of_ble_eq_true rfl) ⟨Nat.zero_le _, Nat.zero_le _⟩ dX4_takeQuick_33 ?_
        refine z_sub [0] rfl ?_
        exact hk0 M5 h
set_option maxRecDepth 100000 in
set_option maxHeartbeats 4000000 in
theorem c_X4_readDrum {l : Launch} {D : va_G} {cI cZ : ClassId} {ad adK adV : Nat → Nat} {N : Nat} {M M' : zMem} {r : Int} (h : Reader_readDrum N M = some (r, M')) : z_Ct (wC cI cZ ad) D cI cZ adK adV l yX4_readDrum cX4_readDrum 2 none 9 [.ref (ad 3), .ref (ad 10)] M M' none := by
  unfold Reader_readDrum at h
  refine z_entry (own := RX4) rfl (by decide) (Nat.le_of_ble_eq_true rfl) ?_
  intro p e s m args below meth c R A X hr hlk
  have Z := X.1
  refine z_sub (lv' := [(0, .ref (ad 3)), (1, .ref (ad 10))]) [0, 1] rfl ?_
  refine z_aload_n Z dX4_readDrum_0 rfl 0 rfl ?_
  refine z_ldcS X 0 (by decide) rfl rfl dX4_readDrum_1 ?_
  obtain ⟨u_, M1, hf, h⟩ := z_cld h
  refine z_callVv (Wd := wC cI cZ ad) X (c_X4_takeWord (by decide) hf) ml_X4_89 yd_X4_takeWord yw_X4_takeWord (by omega) (by decide) (rC_3 X) rfl rfl (Nat.le_of_ble_eq_true rfl) ⟨Nat.zero_le _, Nat.zero_le _⟩ dX4_readDrum_3 ?_
  refine z_aload_n Z dX4_readDrum_6 rfl 1 rfl ?_
  refine z_aload_n Z dX4_readDrum_7 rfl 0 rfl ?_
  refine z_ldcS X 1 (by decide) rfl rfl dX4_readDrum_8 ?_
  refine z_iconst Z dX4_readDrum_10 ?_
  refine z_iconst Z dX4_readDrum_11 ?_
  obtain ⟨r_, M2, hf1, h⟩ := z_cld h
  refine z_callVi (Wd := wC cI cZ ad) X (c_X4_takeMeasure (by decide) hf1) ml_X4_95 yd_X4_takeMeasure yw_X4_takeMeasure (by omega) (by decide) (rC_3 X) rfl rfl (Nat.le_of_ble_eq_true rfl) ⟨Nat.zero_le _, Nat.zero_le _⟩ dX4_readDrum_12 ?_
  refine pC_X4_99_10 X dX4_readDrum_15 h (fun M3 h => ?_)
  refine z_aload_n Z dX4_readDrum_18 rfl 1 rfl ?_
  refine z_aload_n Z dX4_readDrum_19 rfl 0 rfl ?_
  refine z_ldcS X 2 (by decide) rfl rfl dX4_readDrum_20 ?_
  refine z_iconst Z dX4_readDrum_22 ?_
  refine z_bipush Z dX4_readDrum_23 rfl ?_
  obtain ⟨r_1, M4, hf2, h⟩ := z_cld h
  refine z_callVi (Wd := wC cI cZ ad) X (c_X4_takeMeasure (by decide) hf2) ml_X4_95 yd_X4_takeMeasure yw_X4_takeMeasure (by omega) (by decide) (rC_3 X) rfl rfl (Nat.le_of_ble_eq_true rfl) ⟨Nat.zero_le _, Nat.zero_le _⟩ dX4_readDrum_25 ?_
  refine pC_X4_103_10 X dX4_readDrum_28 h (fun M5 h => ?_)
  refine z_aload_n Z dX4_readDrum_31 rfl 1 rfl ?_
  refine z_aload_n Z dX4_readDrum_32 rfl 0 rfl ?_
  refine z_ldcS X 3 (by decide) rfl rfl dX4_readDrum_33 ?_
  refine z_iconst Z dX4_readDrum_35 ?_
  refine z_bipush Z dX4_readDrum_36 rfl ?_
  obtain ⟨r_2, M6, hf3, h⟩ := z_cld h
  refine z_callVi (Wd := wC cI cZ ad) X (c_X4_takeMeasure (by decide) hf3) ml_X4_95 yd_X4_takeMeasure yw_X4_takeMeasure (by omega) (by decide) (rC_3 X) rfl rfl (Nat.le_of_ble_eq_true rfl) ⟨Nat.zero_le _, Nat.zero_le _⟩ dX4_readDrum_38 ?_
  refine pC_X4_107_10 X dX4_readDrum_41 h (fun M7 h => ?_)
  refine z_aload_n Z dX4_readDrum_44 rfl 1 rfl ?_
  refine z_aload_n Z dX4_readDrum_45 rfl 0 rfl ?_
  refine z_aload_n Z dX4_readDrum_46 rfl 1 rfl ?_
  refine gC_X4_103_10 X dX4_readDrum_47 ?_
  obtain ⟨r_3, M8, hf4, h⟩ := z_cld h
  refine z_callVi (Wd := wC cI cZ ad) X (c_X4_takeQuick hf4) ml_X4_109 yd_X4_takeQuick yw_X4_takeQuick (by omega) (by decide) (rC_3 X) rfl rfl (Nat.le_of_ble_eq_true rfl) ⟨Nat.zero_le _, Nat.zero_le _⟩ dX4_readDrum_50 ?_
  refine pC_X4_113_10 X dX4_readDrum_53 h (fun M9 h => ?_)
  refine z_aload_n Z dX4_readDrum_56 rfl 1 rfl ?_
  refine z_aload_n Z dX4_readDrum_57 rfl 0 rfl ?_
  refine z_ldcS X 5 (by decide) rfl rfl dX4_readDrum_58 ?_
  refine z_iconst Z dX4_readDrum_60 ?_
  refine z_bipush Z dX4_readDrum_61 rfl ?_
  obtain ⟨r_4, M10, hf5, h⟩ := z_cld h
  refine z_callVi (Wd := wC cI cZ ad) X (c_X4_takeMeasure (by decide) hf5) ml_X4_95 yd_X4_takeMeasure yw_X4_takeMeasure (by omega) (by decide) (rC_3 X) rfl rfl (Nat.le_of_ble_eq_true rfl) ⟨Nat.zero_le _, Nat.zero_le _⟩ dX4_readDrum_63 ?_
  refine pC_X4_118_10 X dX4_readDrum_66 h (fun M11 h => ?_)
  exact z_vret X hr hlk dX4_readDrum_69 h
set_option maxRecDepth 100000 in
set_option maxHeartbeats 4000000 in
theorem c_X3_addItem {l : Launch} {D : va_G} {cI cZ : ClassId} {ad adK adV : Nat → Nat} {v1 v2 : Int} {M M' : zMem} {r : Int} (h : Plan_addItem v1 v2 M = some (r, M')) : z_Ct (wC cI cZ ad) D cI cZ adK adV l yX3_addItem cX3_addItem 3 none 1 [.ref (ad 10), .int (z_I v1), .int (z_I v2)] M M' none := by
  unfold Plan_addItem at h
  refine z_entry (own := RX3) rfl (by decide) (Nat.le_of_ble_eq_true rfl) ?_
  intro p e s m args below meth c R A X hr hlk
  have Z := X.1
  refine z_sub (lv' := [(0, .ref (ad 10)), (1, .int (z_I v1)), (2, .int (z_I v2))]) [0, 1, 2] rfl ?_
  refine z_aload_n Z dX3_addItem_0 rfl 0 rfl ?_
  refine gC_X3_42_10 X dX3_addItem_1 ?_
  refine z_aload_n Z dX3_addItem_4 rfl 0 rfl ?_
  refine gC_X3_30_10 X dX3_addItem_5 ?_
  refine z_iload_n Z dX3_addItem_8 rfl 1 rfl ?_
  refine srC_11 X dX3_addItem_9 h (fun M1 h => ?_)
  refine z_aload_n Z dX3_addItem_10 rfl 0 rfl ?_
  refine gC_X3_46_10 X dX3_addItem_11 ?_
  refine z_aload_n Z dX3_addItem_14 rfl 0 rfl ?_
  refine gC_X3_30_10 X dX3_addItem_15 ?_
  refine z_iload_n Z dX3_addItem_18 rfl 2 rfl ?_
  refine srC_12 X dX3_addItem_19 h (fun M2 h => ?_)
  refine z_aload_n Z dX3_addItem_20 rfl 0 rfl ?_
  refine gC_X3_52_10 X dX3_addItem_21 ?_
  refine z_aload_n Z dX3_addItem_24 rfl 0 rfl ?_
  refine gC_X3_30_10 X dX3_addItem_25 ?_
  refine z_iconst Z dX3_addItem_28 ?_
  refine srC_14 X dX3_addItem_29 h (fun M3 h => ?_)
  refine z_aload_n Z dX3_addItem_30 rfl 0 rfl ?_
  refine gC_X3_58_10 X dX3_addItem_31 ?_
  refine z_aload_n Z dX3_addItem_34 rfl 0 rfl ?_
  refine gC_X3_30_10 X dX3_addItem_35 ?_
  refine z_iconst Z dX3_addItem_38 ?_
  refine srC_16 X dX3_addItem_39 h (fun M4 h => ?_)
  refine z_aload_n Z dX3_addItem_40 rfl 0 rfl ?_
  refine z_dup Z dX3_addItem_41 rfl ?_
  refine gC_X3_30_10 X dX3_addItem_42 ?_
  refine z_iconst Z dX3_addItem_45 ?_
  refine z_iadd Z dX3_addItem_46 ?_
  refine pC_X3_30_10 X dX3_addItem_47 h (fun M5 h => ?_)
  exact z_vret X hr hlk dX3_addItem_50 h
set_option maxRecDepth 100000 in
set_option maxHeartbeats 4000000 in
theorem c_X3_addStep {l : Launch} {D : va_G} {cI cZ : ClassId} {ad adK adV : Nat → Nat} {v1 v2 v3 : Int} {M M' : zMem} {r : Int} (h : Plan_addStep v1 v2 v3 M = some (r, M')) : z_Ct (wC cI cZ ad) D cI cZ adK adV l yX3_addStep cX3_addStep 4 none 2 [.ref (ad 10), .int (z_I v1), .int (z_I v2), .int (z_I v3)] M M' none := by
  unfold Plan_addStep at h
  refine z_entry (own := RX3) rfl (by decide) (Nat.le_of_ble_eq_true rfl) ?_
  intro p e s m args below meth c R A X hr hlk
  have Z := X.1
  refine z_sub (lv' := [(0, .ref (ad 10)), (1, .int (z_I v1)), (2, .int (z_I v2)), (3, .int (z_I v3))]) [0, 1, 2, 3] rfl ?_
  refine z_aload_n Z dX3_addStep_0 rfl 0 rfl ?_
  refine gC_X3_36_10 X dX3_addStep_1 ?_
  refine z_bipush Z dX3_addStep_4 rfl ?_
  refine z_icmp_ge (tgt := 18) Z dX3_addStep_6 (by decide) h (fun h => ?_) (fun h => ?_)
  · exact z_vret X hr hlk dX3_addStep_18 h
  · refine z_aload_n Z dX3_addStep_9 rfl 0 rfl ?_
    refine gC_X3_30_10 X dX3_addStep_10 ?_
    refine z_bipush Z dX3_addStep_13 rfl ?_
    refine z_icmp_lt (tgt := 19) Z dX3_addStep_15 (by decide) h (fun h => ?_) (fun h => ?_)
    · refine z_aload_n Z dX3_addStep_19 rfl 0 rfl ?_
      refine gC_X3_36_10 X dX3_addStep_20 ?_
      refine z_jnr (P := fun (k : zMem → zO) => ∀ (M1 : zMem), k M1 = some (r, M') → z_V p l e R s m args below meth c D A cI cZ 4 (wC cI cZ ad) M' none M1 34 [(0, .ref (ad 10)), (1, .int (z_I v1)), (2, .int (z_I v2)), (3, .int (z_I v3))] []) h ?_ ?_
      · intro M1 h
        refine z_aload_n Z dX3_addStep_34 rfl 0 rfl ?_
        refine gC_X3_55_10 X dX3_addStep_35 ?_
        refine z_aload_n Z dX3_addStep_38 rfl 0 rfl ?_
        refine gC_X3_30_10 X dX3_addStep_39 ?_
        refine z_iload_n Z dX3_addStep_42 rfl 2 rfl ?_
        refine srC_15 X dX3_addStep_43 h (fun M2 h => ?_)
        refine z_aload_n Z dX3_addStep_44 rfl 0 rfl ?_
        refine z_dup Z dX3_addStep_45 rfl ?_
        refine gC_X3_36_10 X dX3_addStep_46 ?_
        refine z_iconst Z dX3_addStep_49 ?_
        refine z_iadd Z dX3_addStep_50 ?_
        refine pC_X3_36_10 X dX3_addStep_51 h (fun M3 h => ?_)
        refine z_aload_n Z dX3_addStep_54 rfl 0 rfl ?_
        refine z_iload_n Z dX3_addStep_55 rfl 1 rfl ?_
        refine z_iload_n Z dX3_addStep_56 rfl 3 rfl ?_
        obtain ⟨u_, M4, hf, h⟩ := z_cld h
        refine z_callVv (Wd := wC cI cZ ad) X (c_X3_addItem hf) ml_X3_77 yd_X3_addItem yw_X3_addItem (by omega) (by decide) (rC_10 X) rfl rfl (Nat.le_of_ble_eq_true rfl) ⟨Nat.zero_le _, Nat.zero_le _⟩ dX3_addStep_57 ?_
        exact z_vret X hr hlk dX3_addStep_60 h
      · intro k0 hk0 h
        refine z_if_ne (tgt := 34) Z dX3_addStep_23 (by decide) h (fun h => ?_) (fun h => ?_)
        · refine z_sub [0, 1, 2, 3] rfl ?_
          exact hk0 M h
        · refine z_aload_n Z dX3_addStep_26 rfl 0 rfl ?_
          refine z_aload_n Z dX3_addStep_27 rfl 0 rfl ?_
          refine gC_X3_30_10 X dX3_addStep_28 ?_
          refine pC_X3_39_10 X dX3_addStep_31 h (fun M5 h => ?_)
          refine z_sub [0, 1, 2, 3] rfl ?_
          exact hk0 M5 h
    · exact z_vret X hr hlk dX3_addStep_18 h
set_option maxRecDepth 100000 in
set_option maxHeartbeats 4000000 in
theorem wPlan_isToldAddress_2 {p : Program} {l : Launch} {e : Env} {R : Room} {s : State} {m : MethodId} {args : Array Value} {below : List Frame} {meth : Method} {c : Code} {D : va_G} {A : Nat → Prop} {cI cZ : ClassId} {adK adV ad : Nat → Nat} {r : Int} {M' : zMem} (X : z_X p m c cX3_isToldAddress 3 s args RX3 R 1 D cI cZ A adK adV) (hr : meth.sig.returnType = some .boolean) (hlk : meth.locks = false) (N : Nat) (v1 : Int) (k : zMem → zO) (hk : ∀ (M : zMem), k M = some (r, M') → z_V p l e R s m args below meth c D A cI cZ 3 (wC cI cZ ad) M' (some (.int (z_I r))) M 28 [] []) : ∀ (n : Nat) (v2 : Int) (M : zMem), Plan_isToldAddress_2 N v1 k n v2 M = some (r, M') → z_V p l e R s m args below meth c D A cI cZ 3 (wC cI cZ ad) M' (some (.int (z_I r))) M 2 [(0, .ref (ad 10)), (1, .int (z_I v1)), (2, .int (z_I v2))] [] := by
  have Z := X.1
  intro n
  induction n with
  | zero =>
    intro v2 M h
    rw [Plan_isToldAddress_2] at h
    cases h
  | succ n ih =>
    intro v2 M h
    rw [Plan_isToldAddress_2] at h
    refine z_iload_n Z dX3_isToldAddress_2 rfl 2 rfl ?_
    refine z_aload_n Z dX3_isToldAddress_3 rfl 0 rfl ?_
    refine gC_X3_30_10 X dX3_isToldAddress_4 ?_
    refine z_icmp_ge (tgt := 28) Z dX3_isToldAddress_7 (by decide) h (fun h => ?_) (fun h => ?_)
    · refine z_sub [] rfl ?_
      exact hk M h
    · refine z_aload_n Z dX3_isToldAddress_10 rfl 0 rfl ?_
      refine gC_X3_46_10 X dX3_isToldAddress_11 ?_
      refine z_iload_n Z dX3_isToldAddress_14 rfl 2 rfl ?_
      refine ldC_12 X dX3_isToldAddress_15 h (fun x0 h => ?_)
      refine z_iload_n Z dX3_isToldAddress_16 rfl 1 rfl ?_
      refine z_icmp_ne (tgt := 22) Z dX3_isToldAddress_17 (by decide) h (fun h => ?_) (fun h => ?_)
      · refine z_iincn Z (fun z => [(2, .int (z_I z)), (0, .ref (ad 10)), (1, .int (z_I v1))]) dX3_isToldAddress_22 (k := 2) rfl (by decide) (fun _ => rfl) h (fun v2_ h => ?_)
        refine z_goto (tgt := 2) Z dX3_isToldAddress_25 (by decide) ?_
        refine z_sub [1, 2, 0] rfl ?_
        exact ih v2_ M h
      · refine z_iconst Z dX3_isToldAddress_20 ?_
        exact z_zret X hr hlk (Or.inr rfl) dX3_isToldAddress_21 h
set_option maxRecDepth 100000 in
set_option maxHeartbeats 4000000 in
theorem c_X3_isToldAddress {l : Launch} {D : va_G} {cI cZ : ClassId} {ad adK adV : Nat → Nat} {N : Nat} {v1 : Int} {M M' : zMem} {r : Int} (h : Plan_isToldAddress N v1 M = some (r, M')) : z_Ct (wC cI cZ ad) D cI cZ adK adV l yX3_isToldAddress cX3_isToldAddress 3 (some .boolean) 1 [.ref (ad 10), .int (z_I v1)] M M' (some (.int (z_I r))) := by
  unfold Plan_isToldAddress at h
  refine z_entry (own := RX3) rfl (by decide) (Nat.le_of_ble_eq_true rfl) ?_
  intro p e s m args below meth c R A X hr hlk
  have Z := X.1
  refine z_sub (lv' := [(0, .ref (ad 10)), (1, .int (z_I v1))]) [0, 1] rfl ?_
  refine z_iconst Z dX3_isToldAddress_0 ?_
  refine z_istore_n (lv' := [(2, .int (z_I 0)), (0, .ref (ad 10)), (1, .int (z_I v1))]) Z dX3_isToldAddress_1 rfl (by decide) rfl ?_
  refine z_jnr (P := fun (k : zMem → zO) => ∀ (M1 : zMem), k M1 = some (r, M') → z_V p l e R s m args below meth c D A cI cZ 3 (wC cI cZ ad) M' (some (.int (z_I r))) M1 28 [] []) h ?_ ?_
  · intro M1 h
    refine z_iconst Z dX3_isToldAddress_28 ?_
    exact z_zret X hr hlk (Or.inl rfl) dX3_isToldAddress_29 h
  · intro k0 hk0 h
    refine z_sub [1, 2, 0] rfl ?_
    exact wPlan_isToldAddress_2 X hr hlk N v1 k0 hk0 N 0 M h
set_option maxRecDepth 100000 in
set_option maxHeartbeats 4000000 in
theorem c_X4_takeAddress {l : Launch} {D : va_G} {cI cZ : ClassId} {ad adK adV : Nat → Nat} {N : Nat} {M M' : zMem} {r : Int} (h : Reader_takeAddress N M = some (r, M')) : z_Ct (wC cI cZ ad) D cI cZ adK adV l yX4_takeAddress cX4_takeAddress 2 (some .int) 7 [.ref (ad 3), .ref (ad 10)] M M' (some (.int (z_I r))) := by
  unfold Reader_takeAddress at h
  refine z_entry (own := RX4) rfl (by decide) (Nat.le_of_ble_eq_true rfl) ?_
  intro p e s m args below meth c R A X hr hlk
  have Z := X.1
  refine z_sub (lv' := [(0, .ref (ad 3)), (1, .ref (ad 10))]) [0, 1] rfl ?_
  refine z_aload_n Z dX4_takeAddress_0 rfl 0 rfl ?_
  refine gC_X4_39_3 X dX4_takeAddress_1 ?_
  refine z_ldcS X 19 (by decide) rfl rfl dX4_takeAddress_4 ?_
  obtain ⟨r_, M1, hf, h⟩ := z_cld h
  refine z_callVi (Wd := wC cI cZ ad) X (c_X7_is (by decide) hf) ml_X4_61 yd_X7_is yw_X7_is (by omega) (by decide) (rC_9 X) rfl rfl (Nat.le_of_ble_eq_true rfl) ⟨Nat.zero_le _, Nat.zero_le _⟩ dX4_takeAddress_6 ?_
  refine z_if_ne (tgt := 14) Z dX4_takeAddress_9 (by decide) h (fun h => ?_) (fun h => ?_)
  · refine z_aload_n Z dX4_takeAddress_14 rfl 0 rfl ?_
    refine gC_X4_39_3 X dX4_takeAddress_15 ?_
    obtain ⟨u_, M2, hf1, h⟩ := z_cld h
    refine z_callVv (Wd := wC cI cZ ad) X (c_X7_advance hf1) ml_X4_198 yd_X7_advance yw_X7_advance (by omega) (by decide) (rC_9 X) rfl rfl (Nat.le_of_ble_eq_true rfl) ⟨Nat.zero_le _, Nat.zero_le _⟩ dX4_takeAddress_18 ?_
    refine z_aload_n Z dX4_takeAddress_21 rfl 0 rfl ?_
    refine gC_X4_39_3 X dX4_takeAddress_22 ?_
    refine gC_X4_84_9 X dX4_takeAddress_25 ?_
    refine z_iconst Z dX4_takeAddress_28 ?_
    refine z_jnr (P := fun (k : zMem → zO) => ∀ (M3 : zMem), k M3 = some (r, M') → z_V p l e R s m args below meth c D A cI cZ 2 (wC cI cZ ad) M' (some (.int (z_I r))) M3 51 [(0, .ref (ad 3)), (1, .ref (ad 10))] []) h ?_ ?_
    · intro M3 h
      refine z_aload_n Z dX4_takeAddress_51 rfl 0 rfl ?_
      refine z_iconst Z dX4_takeAddress_52 ?_
      refine z_aload_n Z dX4_takeAddress_53 rfl 1 rfl ?_
      obtain ⟨r_1, M4, hf2, h⟩ := z_cld h
      refine z_callVi (Wd := wC cI cZ ad) X (c_X3_addresses (Or.inl rfl) hf2) ml_X4_123 yd_X3_addresses yw_X3_addresses (by omega) (by decide) (rC_10 X) rfl rfl (Nat.le_of_ble_eq_true rfl) ⟨Nat.zero_le _, Nat.zero_le _⟩ dX4_takeAddress_54 ?_
      refine z_iconst Z dX4_takeAddress_57 ?_
      refine z_isub Z dX4_takeAddress_58 ?_
      obtain ⟨r_2, M5, hf3, h⟩ := z_cld h
      refine z_callVi (Wd := wC cI cZ ad) X (c_X4_takeNumber hf3) ml_X4_138 yd_X4_takeNumber yw_X4_takeNumber (by omega) (by decide) (rC_3 X) rfl rfl (Nat.le_of_ble_eq_true rfl) ⟨Nat.zero_le _, Nat.zero_le _⟩ dX4_takeAddress_59 ?_
      exact z_iret X hr hlk dX4_takeAddress_62 h
    · intro k0 hk0 h
      refine z_icmp_ne (tgt := 51) Z dX4_takeAddress_29 (by decide) h (fun h => ?_) (fun h => ?_)
      · refine z_sub [0, 1] rfl ?_
        exact hk0 M2 h
      · refine z_aload_n Z dX4_takeAddress_32 rfl 1 rfl ?_
        refine z_aload_n Z dX4_takeAddress_33 rfl 0 rfl ?_
        refine gC_X4_39_3 X dX4_takeAddress_34 ?_
        refine gC_X4_210_9 X dX4_takeAddress_37 ?_
        obtain ⟨r_3, M6, hf4, h⟩ := z_cld h
        refine z_callVi (Wd := wC cI cZ ad) X (c_X3_isToldAddress hf4) ml_X4_220 yd_X3_isToldAddress yw_X3_isToldAddress (by omega) (by decide) (rC_10 X) rfl rfl (Nat.le_of_ble_eq_true rfl) ⟨Nat.zero_le _, Nat.zero_le _⟩ dX4_takeAddress_40 ?_
        refine z_if_eq (tgt := 51) Z dX4_takeAddress_43 (by decide) h (fun h => ?_) (fun h => ?_)
        · refine z_sub [0, 1] rfl ?_
          exact hk0 M6 h
        · refine z_aload_n Z dX4_takeAddress_46 rfl 0 rfl ?_
          refine z_iconst Z dX4_takeAddress_47 ?_
          obtain ⟨u_1, M7, hf5, h⟩ := z_cld h
          refine z_callVv (Wd := wC cI cZ ad) X (c_X4_fail hf5) ml_X4_195 yd_X4_fail yw_X4_fail (by omega) (by decide) (rC_3 X) rfl rfl (Nat.le_of_ble_eq_true rfl) ⟨Nat.zero_le _, Nat.zero_le _⟩ dX4_takeAddress_48 ?_
          refine z_sub [0, 1] rfl ?_
          exact hk0 M7 h
  · refine z_iconst Z dX4_takeAddress_12 ?_
    exact z_iret X hr hlk dX4_takeAddress_13 h
set_option maxRecDepth 100000 in
set_option maxHeartbeats 4000000 in
theorem c_X7_isLineWord {l : Launch} {D : va_G} {cI cZ : ClassId} {ad adK adV : Nat → Nat} {N : Nat} {M M' : zMem} {r : Int} (h : Tokens_isLineWord N M = some (r, M')) : z_Ct (wC cI cZ ad) D cI cZ adK adV l yX7_isLineWord cX7_isLineWord 1 (some .boolean) 7 [.ref (ad 9)] M M' (some (.int (z_I r))) := by
  unfold Tokens_isLineWord at h
  refine z_entry (own := RX7) rfl (by decide) (Nat.le_of_ble_eq_true rfl) ?_
  intro p e s m args below meth c R A X hr hlk
  have Z := X.1
  refine z_sub (lv' := [(0, .ref (ad 9))]) [0] rfl ?_
  refine z_aload_n Z dX7_isLineWord_0 rfl 0 rfl ?_
  refine z_ldcS X 7 (by decide) rfl rfl dX7_isLineWord_1 ?_
  obtain ⟨r_, M1, hf, h⟩ := z_cld h
  refine z_callVi (Wd := wC cI cZ ad) X (c_X7_is (by decide) hf) ml_X7_68 yd_X7_is yw_X7_is (by omega) (by decide) (rC_9 X) rfl rfl (Nat.le_of_ble_eq_true rfl) ⟨Nat.zero_le _, Nat.zero_le _⟩ dX7_isLineWord_3 ?_
  refine z_jnr (P := fun (k : zMem → zO) => ∀ (M2 : zMem), k M2 = some (r, M') → z_V p l e R s m args below meth c D A cI cZ 1 (wC cI cZ ad) M' (some (.int (z_I r))) M2 36 [] []) h ?_ ?_
  · intro M2 h
    refine z_iconst Z dX7_isLineWord_36 ?_
    refine z_goto (tgt := 41) Z dX7_isLineWord_37 (by decide) ?_
    exact z_zret X hr hlk (Or.inr rfl) dX7_isLineWord_41 h
  · intro k0 hk0 h
    refine z_if_ne (tgt := 36) Z dX7_isLineWord_6 (by decide) h (fun h => ?_) (fun h => ?_)
    · refine z_sub [] rfl ?_
      exact hk0 M1 h
    · refine z_aload_n Z dX7_isLineWord_9 rfl 0 rfl ?_
      refine z_ldcS X 8 (by decide) rfl rfl dX7_isLineWord_10 ?_
      obtain ⟨r_1, M3, hf1, h⟩ := z_cld h
      refine z_callVi (Wd := wC cI cZ ad) X (c_X7_is (by decide) hf1) ml_X7_68 yd_X7_is yw_X7_is (by omega) (by decide) (rC_9 X) rfl rfl (Nat.le_of_ble_eq_true rfl) ⟨Nat.zero_le _, Nat.zero_le _⟩ dX7_isLineWord_12 ?_
      refine z_if_ne (tgt := 36) Z dX7_isLineWord_15 (by decide) h (fun h => ?_) (fun h => ?_)
      · refine z_sub [] rfl ?_
        exact hk0 M3 h
      · refine z_aload_n Z dX7_isLineWord_18 rfl 0 rfl ?_
        refine z_ldcS X 9 (by decide) rfl rfl dX7_isLineWord_19 ?_
        obtain ⟨r_2, M4, hf2, h⟩ := z_cld h
        refine z_callVi (Wd := wC cI cZ ad) X (c_X7_is (by decide) hf2) ml_X7_68 yd_X7_is yw_X7_is (by omega) (by decide) (rC_9 X) rfl rfl (Nat.le_of_ble_eq_true rfl) ⟨Nat.zero_le _, Nat.zero_le _⟩ dX7_isLineWord_21 ?_
        refine z_if_ne (tgt := 36) Z dX7_isLineWord_24 (by decide) h (fun h => ?_) (fun h => ?_)
        · refine z_sub [] rfl ?_
          exact hk0 M4 h
        · refine z_aload_n Z dX7_isLineWord_27 rfl 0 rfl ?_
          refine z_ldcS X 10 (by decide) rfl rfl dX7_isLineWord_28 ?_
          obtain ⟨r_3, M5, hf3, h⟩ := z_cld h
          refine z_callVi (Wd := wC cI cZ ad) X (c_X7_is (by decide) hf3) ml_X7_68 yd_X7_is yw_X7_is (by omega) (by decide) (rC_9 X) rfl rfl (Nat.le_of_ble_eq_true rfl) ⟨Nat.zero_le _, Nat.zero_le _⟩ dX7_isLineWord_30 ?_
          refine z_if_eq (tgt := 40) Z dX7_isLineWord_33 (by decide) h (fun h => ?_) (fun h => ?_)
          · refine z_iconst Z dX7_isLineWord_40 ?_
            exact z_zret X hr hlk (Or.inl rfl) dX7_isLineWord_41 h
          · refine z_sub [] rfl ?_
            exact hk0 M5 h
