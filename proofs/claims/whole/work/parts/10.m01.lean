/-! the machine does what the pure programs say -/
set_option maxRecDepth 100000 in
set_option maxHeartbeats 4000000 in
theorem c_X7_operation {l : Launch} {D : va_G} {cI cZ : ClassId} {ad adK adV : Nat → Nat} {N : Nat} {M M' : zMem} {r : Int} (h : Tokens_operation N M = some (r, M')) : z_Ct (wC cI cZ ad) D cI cZ adK adV l yX7_operation cX7_operation 1 (some .int) 7 [.ref (ad 9)] M M' (some (.int (z_I r))) := by
  unfold Tokens_operation at h
  refine z_entry (own := RX7) rfl (by decide) (Nat.le_of_ble_eq_true rfl) ?_
  intro p e s m args below meth c R A X hr hlk
  have Z := X.1
  refine z_sub (lv' := [(0, .ref (ad 9))]) [0] rfl ?_
  refine z_aload_n Z dX7_operation_0 rfl 0 rfl ?_
  refine z_ldcS X 11 (by decide) rfl rfl dX7_operation_1 ?_
  obtain ⟨r_, M1, hf, h⟩ := z_cld h
  refine z_callVi (Wd := wC cI cZ ad) X (c_X7_is (by decide) hf) ml_X7_68 yd_X7_is yw_X7_is (by omega) (by decide) (rC_9 X) rfl rfl (Nat.le_of_ble_eq_true rfl) ⟨Nat.zero_le _, Nat.zero_le _⟩ dX7_operation_3 ?_
  refine z_if_eq (tgt := 11) Z dX7_operation_6 (by decide) h (fun h => ?_) (fun h => ?_)
  · refine z_aload_n Z dX7_operation_11 rfl 0 rfl ?_
    refine z_ldcS X 12 (by decide) rfl rfl dX7_operation_12 ?_
    obtain ⟨r_1, M2, hf1, h⟩ := z_cld h
    refine z_callVi (Wd := wC cI cZ ad) X (c_X7_is (by decide) hf1) ml_X7_68 yd_X7_is yw_X7_is (by omega) (by decide) (rC_9 X) rfl rfl (Nat.le_of_ble_eq_true rfl) ⟨Nat.zero_le _, Nat.zero_le _⟩ dX7_operation_14 ?_
    refine z_if_eq (tgt := 22) Z dX7_operation_17 (by decide) h (fun h => ?_) (fun h => ?_)
    · refine z_aload_n Z dX7_operation_22 rfl 0 rfl ?_
      refine z_ldcS X 13 (by decide) rfl rfl dX7_operation_23 ?_
      obtain ⟨r_2, M3, hf2, h⟩ := z_cld h
      refine z_callVi (Wd := wC cI cZ ad) X (c_X7_is (by decide) hf2) ml_X7_68 yd_X7_is yw_X7_is (by omega) (by decide) (rC_9 X) rfl rfl (Nat.le_of_ble_eq_true rfl) ⟨Nat.zero_le _, Nat.zero_le _⟩ dX7_operation_25 ?_
      refine z_if_eq (tgt := 33) Z dX7_operation_28 (by decide) h (fun h => ?_) (fun h => ?_)
      · refine z_aload_n Z dX7_operation_33 rfl 0 rfl ?_
        refine z_ldcS X 14 (by decide) rfl rfl dX7_operation_34 ?_
        obtain ⟨r_3, M4, hf3, h⟩ := z_cld h
        refine z_callVi (Wd := wC cI cZ ad) X (c_X7_is (by decide) hf3) ml_X7_68 yd_X7_is yw_X7_is (by omega) (by decide) (rC_9 X) rfl rfl (Nat.le_of_ble_eq_true rfl) ⟨Nat.zero_le _, Nat.zero_le _⟩ dX7_operation_36 ?_
        refine z_if_eq (tgt := 44) Z dX7_operation_39 (by decide) h (fun h => ?_) (fun h => ?_)
        · refine z_aload_n Z dX7_operation_44 rfl 0 rfl ?_
          refine z_ldcS X 15 (by decide) rfl rfl dX7_operation_45 ?_
          obtain ⟨r_4, M5, hf4, h⟩ := z_cld h
          refine z_callVi (Wd := wC cI cZ ad) X (c_X7_is (by decide) hf4) ml_X7_68 yd_X7_is yw_X7_is (by omega) (by decide) (rC_9 X) rfl rfl (Nat.le_of_ble_eq_true rfl) ⟨Nat.zero_le _, Nat.zero_le _⟩ dX7_operation_47 ?_
          refine z_if_eq (tgt := 55) Z dX7_operation_50 (by decide) h (fun h => ?_) (fun h => ?_)
          · refine z_aload_n Z dX7_operation_55 rfl 0 rfl ?_
            refine z_ldcS X 16 (by decide) rfl rfl dX7_operation_56 ?_
            obtain ⟨r_5, M6, hf5, h⟩ := z_cld h
            refine z_callVi (Wd := wC cI cZ ad) X (c_X7_is (by decide) hf5) ml_X7_68 yd_X7_is yw_X7_is (by omega) (by decide) (rC_9 X) rfl rfl (Nat.le_of_ble_eq_true rfl) ⟨Nat.zero_le _, Nat.zero_le _⟩ dX7_operation_58 ?_
            refine z_if_eq (tgt := 66) Z dX7_operation_61 (by decide) h (fun h => ?_) (fun h => ?_)
            · refine z_aload_n Z dX7_operation_66 rfl 0 rfl ?_
              refine z_ldcS X 17 (by decide) rfl rfl dX7_operation_67 ?_
              obtain ⟨r_6, M7, hf6, h⟩ := z_cld h
              refine z_callVi (Wd := wC cI cZ ad) X (c_X7_is (by decide) hf6) ml_X7_68 yd_X7_is yw_X7_is (by omega) (by decide) (rC_9 X) rfl rfl (Nat.le_of_ble_eq_true rfl) ⟨Nat.zero_le _, Nat.zero_le _⟩ dX7_operation_69 ?_
              refine z_if_eq (tgt := 78) Z dX7_operation_72 (by decide) h (fun h => ?_) (fun h => ?_)
              · refine z_aload_n Z dX7_operation_78 rfl 0 rfl ?_
                refine z_ldcS X 18 (by decide) rfl rfl dX7_operation_79 ?_
                obtain ⟨r_7, M8, hf7, h⟩ := z_cld h
                refine z_callVi (Wd := wC cI cZ ad) X (c_X7_is (by decide) hf7) ml_X7_68 yd_X7_is yw_X7_is (by omega) (by decide) (rC_9 X) rfl rfl (Nat.le_of_ble_eq_true rfl) ⟨Nat.zero_le _, Nat.zero_le _⟩ dX7_operation_81 ?_
                refine z_if_eq (tgt := 92) Z dX7_operation_84 (by decide) h (fun h => ?_) (fun h => ?_)
                · refine z_iconst Z dX7_operation_92 ?_
                  exact z_iret X hr hlk dX7_operation_93 h
                · refine z_bipush Z dX7_operation_87 rfl ?_
                  refine z_goto (tgt := 93) Z dX7_operation_89 (by decide) ?_
                  exact z_iret X hr hlk dX7_operation_93 h
              · refine z_bipush Z dX7_operation_75 rfl ?_
                exact z_iret X hr hlk dX7_operation_77 h
            · refine z_iconst Z dX7_operation_64 ?_
              exact z_iret X hr hlk dX7_operation_65 h
          · refine z_iconst Z dX7_operation_53 ?_
            exact z_iret X hr hlk dX7_operation_54 h
        · refine z_iconst Z dX7_operation_42 ?_
          exact z_iret X hr hlk dX7_operation_43 h
      · refine z_iconst Z dX7_operation_31 ?_
        exact z_iret X hr hlk dX7_operation_32 h
    · refine z_iconst Z dX7_operation_20 ?_
      exact z_iret X hr hlk dX7_operation_21 h
  · refine z_iconst Z dX7_operation_9 ?_
    exact z_iret X hr hlk dX7_operation_10 h
set_option maxRecDepth 100000 in
set_option maxHeartbeats 4000000 in
theorem c_X4_takeItemName {l : Launch} {D : va_G} {cI cZ : ClassId} {ad adK adV : Nat → Nat} {N : Nat} {v1 : Int} {M M' : zMem} {r : Int} (h : Reader_takeItemName N v1 M = some (r, M')) : z_Ct (wC cI cZ ad) D cI cZ adK adV l yX4_takeItemName cX4_takeItemName 4 none 8 [.ref (ad 3), .int (z_I v1)] M M' none := by
  unfold Reader_takeItemName at h
  refine z_entry (own := RX4) rfl (by decide) (Nat.le_of_ble_eq_true rfl) ?_
  intro p e s m args below meth c R A X hr hlk
  have Z := X.1
  refine z_sub (lv' := [(0, .ref (ad 3)), (1, .int (z_I v1))]) [0, 1] rfl ?_
  refine z_aload_n Z dX4_takeItemName_0 rfl 0 rfl ?_
  refine gC_X4_39_3 X dX4_takeItemName_1 ?_
  obtain ⟨r_, M1, hf, h⟩ := z_cld h
  refine z_callVi (Wd := wC cI cZ ad) X (c_X7_isLineWord hf) ml_X4_201 yd_X7_isLineWord yw_X7_isLineWord (by omega) (by decide) (rC_9 X) rfl rfl (Nat.le_of_ble_eq_true rfl) ⟨Nat.zero_le _, Nat.zero_le _⟩ dX4_takeItemName_4 ?_
  refine z_jnr (P := fun (k : Int → zMem → zO) => ∀ (x0 : Int) (M2 : zMem), k x0 M2 = some (r, M') → z_V p l e R s m args below meth c D A cI cZ 4 (wC cI cZ ad) M' none M2 26 [(0, .ref (ad 3)), (1, .int (z_I v1))] [.int (z_I x0)]) h ?_ ?_
  · intro x0 M2 h
    refine z_istore_n (lv' := [(2, .int (z_I x0)), (0, .ref (ad 3)), (1, .int (z_I v1))]) Z dX4_takeItemName_26 rfl (by decide) rfl ?_
    refine z_aload_n Z dX4_takeItemName_27 rfl 1 rfl ?_
    refine z_aload_n Z dX4_takeItemName_28 rfl 1 rfl ?_
    refine gC_X4_39_3 X dX4_takeItemName_29 ?_
    refine gC_X4_207_9 X dX4_takeItemName_32 ?_
    refine z_iload_n Z dX4_takeItemName_35 rfl 2 rfl ?_
    obtain ⟨r_1, M3, hf1, h⟩ := z_cld h
    refine z_callVi (Wd := wC cI cZ ad) X (c_X4_itemNamed hf1) ml_X4_169 yd_X4_itemNamed yw_X4_itemNamed (by omega) (by decide) (rC_3 X) rfl rfl (Nat.le_of_ble_eq_true rfl) ⟨Nat.zero_le _, Nat.zero_le _⟩ dX4_takeItemName_36 ?_
    refine z_iconst Z dX4_takeItemName_39 ?_
    refine z_jnr (P := fun (k : Int → zMem → zO) => ∀ (x1 : Int) (M4 : zMem), k x1 M4 = some (r, M') → z_V p l e R s m args below meth c D A cI cZ 4 (wC cI cZ ad) M' none M4 48 [(0, .ref (ad 3)), (1, .int (z_I v1)), (2, .int (z_I x0))] [.int (z_I x1)]) h ?_ ?_
    · intro x1 M4 h
      refine z_istore_n (lv' := [(3, .int (z_I x1)), (0, .ref (ad 3)), (1, .int (z_I v1)), (2, .int (z_I x0))]) Z dX4_takeItemName_48 rfl (by decide) rfl ?_
      refine z_aload_n Z dX4_takeItemName_49 rfl 1 rfl ?_
      refine gC_X4_39_3 X dX4_takeItemName_50 ?_
      refine gC_X4_84_9 X dX4_takeItemName_53 ?_
      refine z_iconst Z dX4_takeItemName_56 ?_
      refine z_jnr (P := fun (k : zMem → zO) => ∀ (M5 : zMem), k M5 = some (r, M') → z_V p l e R s m args below meth c D A cI cZ 4 (wC cI cZ ad) M' none M5 114 [(0, .ref (ad 3))] []) h ?_ ?_
      · intro M5 h
        refine z_aload_n Z dX4_takeItemName_114 rfl 0 rfl ?_
        refine gC_X4_39_3 X dX4_takeItemName_115 ?_
        obtain ⟨u_, M6, hf2, h⟩ := z_cld h
        refine z_callVv (Wd := wC cI cZ ad) X (c_X7_advance hf2) ml_X4_198 yd_X7_advance yw_X7_advance (by omega) (by decide) (rC_9 X) rfl rfl (Nat.le_of_ble_eq_true rfl) ⟨Nat.zero_le _, Nat.zero_le _⟩ dX4_takeItemName_118 ?_
        exact z_vret X hr hlk dX4_takeItemName_121 h
      · intro k2 hk2 h
        refine z_icmp_eq (tgt := 68) Z dX4_takeItemName_57 (by decide) h (fun h => ?_) (fun h => ?_)
        · refine z_iload_n Z dX4_takeItemName_68 rfl 3 rfl ?_
          refine z_jnr (P := fun (k : zMem → zO) => ∀ (M7 : zMem), k M7 = some (r, M') → z_V p l e R s m args below meth c D A cI cZ 4 (wC cI cZ ad) M' none M7 87 [(0, .ref (ad 3))] []) h ?_ ?_
          · intro M7 h
            refine z_aload_n Z dX4_takeItemName_87 rfl 0 rfl ?_
            refine z_iconst Z dX4_takeItemName_88 ?_
            obtain ⟨u_1, M8, hf3, h⟩ := z_cld h
            refine z_callVv (Wd := wC cI cZ ad) X (c_X4_fail hf3) ml_X4_195 yd_X4_fail yw_X4_fail (by omega) (by decide) (rC_3 X) rfl rfl (Nat.le_of_ble_eq_true rfl) ⟨Nat.zero_le _, Nat.zero_le _⟩ dX4_takeItemName_89 ?_
            refine z_goto (tgt := 114) Z dX4_takeItemName_92 (by decide) ?_
            refine z_sub [0] rfl ?_
            exact hk2 M8 h
          · intro k3 hk3 h
            refine z_if_ne (tgt := 87) Z dX4_takeItemName_69 (by decide) h (fun h => ?_) (fun h => ?_)
            · refine z_sub [1] rfl ?_
              exact hk3 M4 h
            · refine z_iload_n Z dX4_takeItemName_72 rfl 0 rfl ?_
              refine z_if_ne (tgt := 87) Z dX4_takeItemName_73 (by decide) h (fun h => ?_) (fun h => ?_)
              · refine z_sub [1] rfl ?_
                exact hk3 M4 h
              · refine z_aload_n Z dX4_takeItemName_76 rfl 1 rfl ?_
                refine gC_X4_39_3 X dX4_takeItemName_77 ?_
                refine gC_X4_207_9 X dX4_takeItemName_80 ?_
                refine z_iconst Z dX4_takeItemName_83 ?_
                refine z_icmp_ne (tgt := 95) Z dX4_takeItemName_84 (by decide) h (fun h => ?_) (fun h => ?_)
                · refine z_iload_n Z dX4_takeItemName_95 rfl 2 rfl ?_
                  refine z_bipush Z dX4_takeItemName_96 rfl ?_
                  refine z_icmp_ge (tgt := 114) Z dX4_takeItemName_98 (by decide) h (fun h => ?_) (fun h => ?_)
                  · refine z_sub [1] rfl ?_
                    exact hk2 M4 h
                  · refine z_aload_n Z dX4_takeItemName_101 rfl 1 rfl ?_
                    refine gC_X4_9_3 X dX4_takeItemName_102 ?_
                    refine z_iload_n Z dX4_takeItemName_105 rfl 2 rfl ?_
                    refine z_aload_n Z dX4_takeItemName_106 rfl 1 rfl ?_
                    refine gC_X4_39_3 X dX4_takeItemName_107 ?_
                    refine gC_X4_207_9 X dX4_takeItemName_110 ?_
                    refine srC_4 X dX4_takeItemName_113 h (fun M9 h => ?_)
                    refine z_sub [1] rfl ?_
                    exact hk2 M9 h
                · refine z_sub [1] rfl ?_
                  exact hk3 M4 h
        · refine z_aload_n Z dX4_takeItemName_60 rfl 1 rfl ?_
          refine z_iconst Z dX4_takeItemName_61 ?_
          obtain ⟨u_2, M10, hf4, h⟩ := z_cld h
          refine z_callVv (Wd := wC cI cZ ad) X (c_X4_fail hf4) ml_X4_195 yd_X4_fail yw_X4_fail (by omega) (by decide) (rC_3 X) rfl rfl (Nat.le_of_ble_eq_true rfl) ⟨Nat.zero_le _, Nat.zero_le _⟩ dX4_takeItemName_62 ?_
          refine z_goto (tgt := 114) Z dX4_takeItemName_65 (by decide) ?_
          refine z_sub [1] rfl ?_
          exact hk2 M10 h
    · intro k1 hk1 h
      refine z_icmp_eq (tgt := 47) Z dX4_takeItemName_40 (by decide) h (fun h => ?_) (fun h => ?_)
      · refine z_iconst Z dX4_takeItemName_47 ?_
        refine z_sub [1, 2, 0] rfl ?_
        exact hk1 0 M3 h
      · refine z_iconst Z dX4_takeItemName_43 ?_
        refine z_goto (tgt := 48) Z dX4_takeItemName_44 (by decide) ?_
        refine z_sub [1, 2, 0] rfl ?_
        exact hk1 1 M3 h
  · intro k0 hk0 h
    refine z_jnr (P := fun (k : zMem → zO) => ∀ (M11 : zMem), k M11 = some (r, M') → z_V p l e R s m args below meth c D A cI cZ 4 (wC cI cZ ad) M' none M11 21 [(0, .ref (ad 3)), (1, .int (z_I v1))] []) h ?_ ?_
    · intro M11 h
      refine z_iconst Z dX4_takeItemName_21 ?_
      refine z_goto (tgt := 26) Z dX4_takeItemName_22 (by decide) ?_
      refine z_sub [0, 1] rfl ?_
      exact hk0 1 M11 h
    · intro k4 hk4 h
      refine z_if_ne (tgt := 21) Z dX4_takeItemName_7 (by decide) h (fun h => ?_) (fun h => ?_)
      · refine z_sub [0, 1] rfl ?_
        exact hk4 M1 h
      · refine z_aload_n Z dX4_takeItemName_10 rfl 0 rfl ?_
        refine gC_X4_39_3 X dX4_takeItemName_11 ?_
        obtain ⟨r_2, M12, hf5, h⟩ := z_cld h
        refine z_callVi (Wd := wC cI cZ ad) X (c_X7_operation hf5) ml_X4_204 yd_X7_operation yw_X7_operation (by omega) (by decide) (rC_9 X) rfl rfl (Nat.le_of_ble_eq_true rfl) ⟨Nat.zero_le _, Nat.zero_le _⟩ dX4_takeItemName_14 ?_
        refine z_iconst Z dX4_takeItemName_17 ?_
        refine z_icmp_eq (tgt := 25) Z dX4_takeItemName_18 (by decide) h (fun h => ?_) (fun h => ?_)
        · refine z_iconst Z dX4_takeItemName_25 ?_
          refine z_sub [0, 1] rfl ?_
          exact hk0 0 M12 h
        · refine z_sub [0, 1] rfl ?_
          exact hk4 M12 h
set_option maxRecDepth 100000 in
set_option maxHeartbeats 4000000 in
theorem c_X4_takeItemWord {l : Launch} {D : va_G} {cI cZ : ClassId} {ad adK adV : Nat → Nat} {N : Nat} {v1 : Nat} (hv1 : v1 < 27) {v2 : Int} {M M' : zMem} {r : Int} (h : Reader_takeItemWord N v1 v2 M = some (r, M')) : z_Ct (wC cI cZ ad) D cI cZ adK adV l yX4_takeItemWord cX4_takeItemWord 3 none 8 [.ref (ad 3), .ref (adK v1), .int (z_I v2)] M M' none := by
  unfold Reader_takeItemWord at h
  refine z_entry (own := RX4) rfl (by decide) (Nat.le_of_ble_eq_true rfl) ?_
  intro p e s m args below meth c R A X hr hlk
  have Z := X.1
  refine z_sub (lv' := [(0, .ref (ad 3)), (1, .ref (adK v1)), (2, .int (z_I v2))]) [0, 1, 2] rfl ?_
  refine z_aload_n Z dX4_takeItemWord_0 rfl 0 rfl ?_
  refine gC_X4_39_3 X dX4_takeItemWord_1 ?_
  refine z_aload_n Z dX4_takeItemWord_4 rfl 1 rfl ?_
  obtain ⟨r_, M1, hf, h⟩ := z_cld h
  refine z_callVi (Wd := wC cI cZ ad) X (c_X7_is hv1 hf) ml_X4_61 yd_X7_is yw_X7_is (by omega) (by decide) (rC_9 X) rfl rfl (Nat.le_of_ble_eq_true rfl) ⟨Nat.zero_le _, Nat.zero_le _⟩ dX4_takeItemWord_5 ?_
  refine z_jnr (P := fun (k : zMem → zO) => ∀ (M2 : zMem), k M2 = some (r, M') → z_V p l e R s m args below meth c D A cI cZ 3 (wC cI cZ ad) M' none M2 20 [(0, .ref (ad 3)), (1, .ref (adK v1))] []) h ?_ ?_
  · intro M2 h
    refine z_aload_n Z dX4_takeItemWord_20 rfl 0 rfl ?_
    refine z_aload_n Z dX4_takeItemWord_21 rfl 1 rfl ?_
    obtain ⟨u_, M3, hf1, h⟩ := z_cld h
    refine z_callVv (Wd := wC cI cZ ad) X (c_X4_takeWord hv1 hf1) ml_X4_89 yd_X4_takeWord yw_X4_takeWord (by omega) (by decide) (rC_3 X) rfl rfl (Nat.le_of_ble_eq_true rfl) ⟨Nat.zero_le _, Nat.zero_le _⟩ dX4_takeItemWord_22 ?_
    exact z_vret X hr hlk dX4_takeItemWord_25 h
  · intro k0 hk0 h
    refine z_if_eq (tgt := 20) Z dX4_takeItemWord_8 (by decide) h (fun h => ?_) (fun h => ?_)
    · refine z_sub [0, 1] rfl ?_
      exact hk0 M1 h
    · refine z_iload_n Z dX4_takeItemWord_11 rfl 2 rfl ?_
      refine z_if_ne (tgt := 20) Z dX4_takeItemWord_12 (by decide) h (fun h => ?_) (fun h => ?_)
      · refine z_sub [0, 1] rfl ?_
        exact hk0 M1 h
      · refine z_aload_n Z dX4_takeItemWord_15 rfl 0 rfl ?_
        refine z_iconst Z dX4_takeItemWord_16 ?_
        obtain ⟨u_1, M4, hf2, h⟩ := z_cld h
        refine z_callVv (Wd := wC cI cZ ad) X (c_X4_fail hf2) ml_X4_195 yd_X4_fail yw_X4_fail (by omega) (by decide) (rC_3 X) rfl rfl (Nat.le_of_ble_eq_true rfl) ⟨Nat.zero_le _, Nat.zero_le _⟩ dX4_takeItemWord_17 ?_
        refine z_sub [0, 1] rfl ?_
        exact hk0 M4 h
set_option maxRecDepth 100000 in
set_option maxHeartbeats 4000000 in
theorem c_X4_takeOperation {l : Launch} {D : va_G} {cI cZ : ClassId} {ad adK adV : Nat → Nat} {N : Nat} {M M' : zMem} {r : Int} (h : Reader_takeOperation N M = some (r, M')) : z_Ct (wC cI cZ ad) D cI cZ adK adV l yX4_takeOperation cX4_takeOperation 2 (some .int) 8 [.ref (ad 3)] M M' (some (.int (z_I r))) := by
  unfold Reader_takeOperation at h
  refine z_entry (own := RX4) rfl (by decide) (Nat.le_of_ble_eq_true rfl) ?_
  intro p e s m args below meth c R A X hr hlk
  have Z := X.1
  refine z_sub (lv' := [(0, .ref (ad 3))]) [0] rfl ?_
  refine z_aload_n Z dX4_takeOperation_0 rfl 0 rfl ?_
  refine gC_X4_39_3 X dX4_takeOperation_1 ?_
  obtain ⟨r_, M1, hf, h⟩ := z_cld h
  refine z_callVi (Wd := wC cI cZ ad) X (c_X7_operation hf) ml_X4_204 yd_X7_operation yw_X7_operation (by omega) (by decide) (rC_9 X) rfl rfl (Nat.le_of_ble_eq_true rfl) ⟨Nat.zero_le _, Nat.zero_le _⟩ dX4_takeOperation_4 ?_
  refine z_istore_n (lv' := [(1, .int (z_I r_)), (0, .ref (ad 3))]) Z dX4_takeOperation_7 rfl (by decide) rfl ?_
  refine z_iload_n Z dX4_takeOperation_8 rfl 0 rfl ?_
  refine z_iconst Z dX4_takeOperation_9 ?_
  refine z_jnr (P := fun (k : zMem → zO) => ∀ (M2 : zMem), k M2 = some (r, M') → z_V p l e R s m args below meth c D A cI cZ 2 (wC cI cZ ad) M' (some (.int (z_I r))) M2 18 [(0, .ref (ad 3)), (1, .int (z_I r_))] []) h ?_ ?_
  · intro M2 h
    refine z_aload_n Z dX4_takeOperation_18 rfl 0 rfl ?_
    refine gC_X4_39_3 X dX4_takeOperation_19 ?_
    obtain ⟨u_, M3, hf1, h⟩ := z_cld h
    refine z_callVv (Wd := wC cI cZ ad) X (c_X7_advance hf1) ml_X4_198 yd_X7_advance yw_X7_advance (by omega) (by decide) (rC_9 X) rfl rfl (Nat.le_of_ble_eq_true rfl) ⟨Nat.zero_le _, Nat.zero_le _⟩ dX4_takeOperation_22 ?_
    refine z_iload_n Z dX4_takeOperation_25 rfl 1 rfl ?_
    exact z_iret X hr hlk dX4_takeOperation_26 h
  · intro k0 hk0 h
    refine z_icmp_ne (tgt := 18) Z dX4_takeOperation_10 (by decide) h (fun h => ?_) (fun h => ?_)
    · refine z_sub [1, 0] rfl ?_
      exact hk0 M1 h
    · refine z_aload_n Z dX4_takeOperation_13 rfl 1 rfl ?_
      refine z_iconst Z dX4_takeOperation_14 ?_
      obtain ⟨u_1, M4, hf2, h⟩ := z_cld h
      refine z_callVv (Wd := wC cI cZ ad) X (c_X4_fail hf2) ml_X4_195 yd_X4_fail yw_X4_fail (by omega) (by decide) (rC_3 X) rfl rfl (Nat.le_of_ble_eq_true rfl) ⟨Nat.zero_le _, Nat.zero_le _⟩ dX4_takeOperation_15 ?_
      refine z_sub [1, 0] rfl ?_
      exact hk0 M4 h
set_option maxRecDepth 100000 in
set_option maxHeartbeats 4000000 in
theorem c_X4_takeReference {l : Launch} {D : va_G} {cI cZ : ClassId} {ad adK adV : Nat → Nat} {N : Nat} {ca : Nat} {cb : Nat} (hcell : (ca = 5 ∧ cb = 6) ∨ (ca = 7 ∧ cb = 8)) {v1 : Int} {M M' : zMem} {r : Int} (h : Reader_takeReference N ca cb v1 M = some (r, M')) : z_Ct (wC cI cZ ad) D cI cZ adK adV l yX4_takeReference cX4_takeReference 4 none 5 [.ref (ad 3), .int (z_I v1), .ref (ad ca), .ref (ad cb)] M M' none := by
  unfold Reader_takeReference at h
  rcases hcell with ⟨rfl, rfl⟩ | ⟨rfl, rfl⟩
  · refine z_entry (own := RX4) rfl (by decide) (Nat.le_of_ble_eq_true rfl) ?_
    intro p e s m args below meth c R A X hr hlk
    have Z := X.1
    refine z_sub (lv' := [(0, .ref (ad 3)), (1, .int (z_I v1)), (2, .ref (ad 5)), (3, .ref (ad 6))]) [0, 1, 2, 3] rfl ?_
    refine z_aload_n Z dX4_takeReference_0 rfl 0 rfl ?_
    refine gC_X4_39_3 X dX4_takeReference_1 ?_
    refine gC_X4_84_9 X dX4_takeReference_4 ?_
    refine z_iconst Z dX4_takeReference_7 ?_
    refine z_jnr (P := fun (k : zMem → zO) => ∀ (M1 : zMem), k M1 = some (r, M') → z_V p l e R s m args below meth c D A cI cZ 4 (wC cI cZ ad) M' none M1 45 [(0, .ref (ad 3))] []) h ?_ ?_
    · intro M1 h
      refine z_aload_n Z dX4_takeReference_45 rfl 0 rfl ?_
      refine gC_X4_39_3 X dX4_takeReference_46 ?_
      obtain ⟨u_, M2, hf, h⟩ := z_cld h
      refine z_callVv (Wd := wC cI cZ ad) X (c_X7_advance hf) ml_X4_198 yd_X7_advance yw_X7_advance (by omega) (by decide) (rC_9 X) rfl rfl (Nat.le_of_ble_eq_true rfl) ⟨Nat.zero_le _, Nat.zero_le _⟩ dX4_takeReference_49 ?_
      exact z_vret X hr hlk dX4_takeReference_52 h
    · intro k0 hk0 h
      refine z_icmp_eq (tgt := 19) Z dX4_takeReference_8 (by decide) h (fun h => ?_) (fun h => ?_)
      · refine z_iload_n Z dX4_takeReference_19 rfl 1 rfl ?_
        refine z_bipush Z dX4_takeReference_20 rfl ?_
        refine z_icmp_ge (tgt := 45) Z dX4_takeReference_22 (by decide) h (fun h => ?_) (fun h => ?_)
        · refine z_sub [0] rfl ?_
          exact hk0 M h
        · refine z_aload_n Z dX4_takeReference_25 rfl 2 rfl ?_
          refine z_iload_n Z dX4_takeReference_26 rfl 1 rfl ?_
          refine z_aload_n Z dX4_takeReference_27 rfl 0 rfl ?_
          refine gC_X4_39_3 X dX4_takeReference_28 ?_
          refine gC_X4_207_9 X dX4_takeReference_31 ?_
          refine srC_5 X dX4_takeReference_34 h (fun M3 h => ?_)
          refine z_aload_n Z dX4_takeReference_35 rfl 3 rfl ?_
          refine z_iload_n Z dX4_takeReference_36 rfl 1 rfl ?_
          refine z_aload_n Z dX4_takeReference_37 rfl 0 rfl ?_
          refine gC_X4_39_3 X dX4_takeReference_38 ?_
          refine gC_X4_192_9 X dX4_takeReference_41 ?_
          refine srC_6 X dX4_takeReference_44 h (fun M4 h => ?_)
          refine z_sub [0] rfl ?_
          exact hk0 M4 h
      · refine z_aload_n Z dX4_takeReference_11 rfl 0 rfl ?_
        refine z_iconst Z dX4_takeReference_12 ?_
        obtain ⟨u_1, M5, hf1, h⟩ := z_cld h
        refine z_callVv (Wd := wC cI cZ ad) X (c_X4_fail hf1) ml_X4_195 yd_X4_fail yw_X4_fail (by omega) (by decide) (rC_3 X) rfl rfl (Nat.le_of_ble_eq_true rfl) ⟨Nat.zero_le _, Nat.zero_le _⟩ dX4_takeReference_13 ?_
        refine z_goto (tgt := 45) Z dX4_takeReference_16 (by decide) ?_
        refine z_sub [0] rfl ?_
        exact hk0 M5 h
  · refine z_entry (own := RX4) rfl (by decide) (Nat.le_of_ble_eq_true rfl) ?_
    intro p e s m args below meth c R A X hr hlk
    have Z := X.1
    refine z_sub (lv' := [(0, .ref (ad 3)), (1, .int (z_I v1)), (2, .ref (ad 7)), (3, .ref (ad 8))]) [0, 1, 2, 3] rfl ?_
    refine z_aload_n Z dX4_takeReference_0 rfl 0 rfl ?_
    refine gC_X4_39_3 X dX4_takeReference_1 ?_
    refine gC_X4_84_9 X dX4_takeReference_4 ?_
    refine z_iconst Z dX4_takeReference_7 ?_
    refine z_jnr (P := fun (k : zMem → zO) => ∀ (M1 : zMem), k M1 = some (r, M') → z_V p l e R s m args below meth c D A cI cZ 4 (wC cI cZ ad) M' none M1 45 [(0, .ref (ad 3))] []) h ?_ ?_
    · intro M1 h
      refine z_aload_n Z dX4_takeReference_45 rfl 0 rfl ?_
      refine gC_X4_39_3 X dX4_takeReference_46 ?_
      obtain ⟨u_, M2, hf, h⟩ := z_cld h
      refine z_callVv (Wd := wC cI cZ ad) X (c_X7_advance hf) ml_X4_198 yd_X7_advance yw_X7_advance (by omega) (by decide) (rC_9 X) rfl rfl (Nat.le_of_ble_eq_true rfl) ⟨Nat.zero_le _, Nat.zero_le _⟩ dX4_takeReference_49 ?_
      exact z_vret X hr hlk dX4_takeReference_52 h
    · intro k0 hk0 h
      refine z_icmp_eq (tgt := 19) Z dX4_takeReference_8 (by decide) h (fun h => ?_) (fun h => ?_)
      · refine z_iload_n Z dX4_takeReference_19 rfl 1 rfl ?_
        refine z_bipush Z dX4_takeReference_20 rfl ?_
        refine z_icmp_ge (tgt := 45) Z dX4_takeReference_22 (by decide) h (fun h => ?_) (fun h => ?_)
        · refine z_sub [0] rfl ?_
          exact hk0 M h
        · refine z_aload_n Z dX4_takeReference_25 rfl 2 rfl ?_
          refine z_iload_n Z dX4_takeReference_26 rfl 1 rfl ?_
          refine z_aload_n Z dX4_takeReference_27 rfl 0 rfl ?_
          refine gC_X4_39_3 X dX4_takeReference_28 ?_
          refine gC_X4_207_9 X dX4_takeReference_31 ?_
          refine srC_7 X dX4_takeReference_34 h (fun M3 h => ?_)
          refine z_aload_n Z dX4_takeReference_35 rfl 3 rfl ?_
          refine z_iload_n Z dX4_takeReference_36 rfl 1 rfl ?_
          refine z_aload_n Z dX4_takeReference_37 rfl 0 rfl ?_
          refine gC_X4_39_3 X dX4_takeReference_38 ?_
          refine gC_X4_192_9 X dX4_takeReference_41 ?_
          refine srC_8 X dX4_takeReference_44 h (fun M4 h => ?_)
          refine z_sub [0] rfl ?_
          exact hk0 M4 h
      · refine z_aload_n Z dX4_takeReference_11 rfl 0 rfl ?_
        refine z_iconst Z dX4_takeReference_12 ?_
        obtain ⟨u_1, M5, hf1, h⟩ := z_cld h
        refine z_callVv (Wd := wC cI cZ ad) X (c_X4_fail hf1) ml_X4_195 yd_X4_fail yw_X4_fail (by omega) (by decide) (rC_3 X) rfl rfl (Nat.le_of_ble_eq_true rfl) ⟨Nat.zero_le _, Nat.zero_le _⟩ dX4_takeReference_13 ?_
        refine z_goto (tgt := 45) Z dX4_takeReference_16 (by decide) ?_
        refine z_sub [0] rfl ?_
        exact hk0 M5 h
set_option maxRecDepth 100000 in
set_option maxHeartbeats 4000000 in
theorem c_X4_readStep {l : Launch} {D : va_G} {cI cZ : ClassId} {ad adK adV : Nat → Nat} {N : Nat} {M M' : zMem} {r : Int} (h : Reader_readStep N M = some (r, M')) : z_Ct (wC cI cZ ad) D cI cZ adK adV l yX4_readStep cX4_readStep 5 none 9 [.ref (ad 3), .ref (ad 10)] M M' none := by
  unfold Reader_readStep at h
  refine z_entry (own := RX4) rfl (by decide) (Nat.le_of_ble_eq_true rfl) ?_
  intro p e s m args below meth c R A X hr hlk
  have Z := X.1
  refine z_sub (lv' := [(0, .ref (ad 3)), (1, .ref (ad 10))]) [0, 1] rfl ?_
  refine z_aload_n Z dX4_readStep_0 rfl 0 rfl ?_
  refine z_ldcS X 20 (by decide) rfl rfl dX4_readStep_1 ?_
  refine z_aload_n Z dX4_readStep_3 rfl 1 rfl ?_
  refine gC_X4_152_10 X dX4_readStep_4 ?_
  refine z_bipush Z dX4_readStep_7 rfl ?_
  refine z_jnr (P := fun (k : Int → zMem → zO) => ∀ (x0 : Int) (M1 : zMem), k x0 M1 = some (r, M') → z_V p l e R s m args below meth c D A cI cZ 5 (wC cI cZ ad) M' none M1 28 [(0, .ref (ad 3)), (1, .ref (ad 10))] [.int (z_I x0), .ref (adK 20), .ref (ad 3)]) h ?_ ?_
  · intro x0 M1 h
    obtain ⟨u_, M2, hf, h⟩ := z_cld h
    refine z_callVv (Wd := wC cI cZ ad) X (c_X4_takeItemWord (by decide) hf) ml_X4_127 yd_X4_takeItemWord yw_X4_takeItemWord (by omega) (by decide) (rC_3 X) rfl rfl (Nat.le_of_ble_eq_true rfl) ⟨Nat.zero_le _, Nat.zero_le _⟩ dX4_readStep_28 ?_
    refine z_aload_n Z dX4_readStep_31 rfl 0 rfl ?_
    refine z_aload_n Z dX4_readStep_32 rfl 1 rfl ?_
    refine gC_X4_77_10 X dX4_readStep_33 ?_
    obtain ⟨u_1, M3, hf1, h⟩ := z_cld h
    refine z_callVv (Wd := wC cI cZ ad) X (c_X4_takeItemName hf1) ml_X4_131 yd_X4_takeItemName yw_X4_takeItemName (by omega) (by decide) (rC_3 X) rfl rfl (Nat.le_of_ble_eq_true rfl) ⟨Nat.zero_le _, Nat.zero_le _⟩ dX4_readStep_36 ?_
    refine z_aload_n Z dX4_readStep_39 rfl 0 rfl ?_
    obtain ⟨r_, M4, hf2, h⟩ := z_cld h
    refine z_callVi (Wd := wC cI cZ ad) X (c_X4_takeOperation hf2) ml_X4_155 yd_X4_takeOperation yw_X4_takeOperation (by omega) (by decide) (rC_3 X) rfl rfl (Nat.le_of_ble_eq_true rfl) ⟨Nat.zero_le _, Nat.zero_le _⟩ dX4_readStep_40 ?_
    refine z_istore_n (lv' := [(2, .int (z_I r_)), (0, .ref (ad 3)), (1, .ref (ad 10))]) Z dX4_readStep_43 rfl (by decide) rfl ?_
    refine z_iconst Z dX4_readStep_44 ?_
    refine z_istore_n (lv' := [(3, .int (z_I 0)), (2, .int (z_I r_)), (0, .ref (ad 3)), (1, .ref (ad 10))]) Z dX4_readStep_45 rfl (by decide) rfl ?_
    refine z_iload_n Z dX4_readStep_46 rfl 1 rfl ?_
    refine z_bipush Z dX4_readStep_47 rfl ?_
    refine z_jnr (P := fun (k : Int → zMem → zO) => ∀ (v3_ : Int) (M5 : zMem), k v3_ M5 = some (r, M') → z_V p l e R s m args below meth c D A cI cZ 5 (wC cI cZ ad) M' none M5 102 [(0, .ref (ad 3)), (1, .ref (ad 10)), (2, .int (z_I r_)), (3, .int (z_I v3_))] []) h ?_ ?_
    · intro v3_ M5 h
      refine z_aload_n Z dX4_readStep_102 rfl 0 rfl ?_
      refine z_aload_n Z dX4_readStep_103 rfl 1 rfl ?_
      obtain ⟨r_1, M6, hf3, h⟩ := z_cld h
      refine z_callVi (Wd := wC cI cZ ad) X (c_X4_takeAddress hf3) ml_X4_142 yd_X4_takeAddress yw_X4_takeAddress (by omega) (by decide) (rC_3 X) rfl rfl (Nat.le_of_ble_eq_true rfl) ⟨Nat.zero_le _, Nat.zero_le _⟩ dX4_readStep_104 ?_
      refine z_istore (lv' := [(4, .int (z_I r_1)), (0, .ref (ad 3)), (1, .ref (ad 10)), (2, .int (z_I r_)), (3, .int (z_I v3_))]) Z dX4_readStep_107 (by decide) rfl ?_
      refine z_aload_n Z dX4_readStep_109 rfl 1 rfl ?_
      refine gC_X4_27_3 X dX4_readStep_110 ?_
      refine z_if_ne (tgt := 124) Z dX4_readStep_113 (by decide) h (fun h => ?_) (fun h => ?_)
      · exact z_vret X hr hlk dX4_readStep_124 h
      · refine z_aload_n Z dX4_readStep_116 rfl 2 rfl ?_
        refine z_iload_n Z dX4_readStep_117 rfl 3 rfl ?_
        refine z_iload_n Z dX4_readStep_118 rfl 4 rfl ?_
        refine z_iload Z dX4_readStep_119 0 rfl ?_
        obtain ⟨u_2, M7, hf4, h⟩ := z_cld h
        refine z_callVv (Wd := wC cI cZ ad) X (c_X3_addStep hf4) ml_X4_162 yd_X3_addStep yw_X3_addStep (by omega) (by decide) (rC_10 X) rfl rfl (Nat.le_of_ble_eq_true rfl) ⟨Nat.zero_le _, Nat.zero_le _⟩ dX4_readStep_121 ?_
        exact z_vret X hr hlk dX4_readStep_124 h
    · intro k1 hk1 h
      refine z_icmp_eq (tgt := 102) Z dX4_readStep_49 (by decide) h (fun h => ?_) (fun h => ?_)
      · refine z_sub [2, 3, 1, 0] rfl ?_
        exact hk1 0 M4 h
      · refine z_aload_n Z dX4_readStep_52 rfl 2 rfl ?_
        refine z_aload_n Z dX4_readStep_53 rfl 3 rfl ?_
        refine gC_X4_77_10 X dX4_readStep_54 ?_
        refine z_aload_n Z dX4_readStep_57 rfl 2 rfl ?_
        refine gC_X4_15_3 X dX4_readStep_58 ?_
        refine z_aload_n Z dX4_readStep_61 rfl 2 rfl ?_
        refine gC_X4_18_3 X dX4_readStep_62 ?_
        obtain ⟨u_3, M8, hf5, h⟩ := z_cld h
        refine z_callVv (Wd := wC cI cZ ad) X (c_X4_takeReference (Or.inl ⟨rfl, rfl⟩) hf5) ml_X4_158 yd_X4_takeReference yw_X4_takeReference (by omega) (by decide) (rC_3 X) rfl rfl (Nat.le_of_ble_eq_true rfl) ⟨Nat.zero_le _, Nat.zero_le _⟩ dX4_readStep_65 ?_
        refine z_iload_n Z dX4_readStep_68 rfl 1 rfl ?_
        refine z_bipush Z dX4_readStep_69 rfl ?_
        refine z_jnr (P := fun (k : Int → zMem → zO) => ∀ (x1 : Int) (M9 : zMem), k x1 M9 = some (r, M') → z_V p l e R s m args below meth c D A cI cZ 5 (wC cI cZ ad) M' none M9 85 [(0, .ref (ad 3)), (1, .ref (ad 10)), (2, .int (z_I r_))] [.int (z_I x1)]) h ?_ ?_
        · intro x1 M9 h
          refine z_istore_n (lv' := [(3, .int (z_I x1)), (0, .ref (ad 3)), (1, .ref (ad 10)), (2, .int (z_I r_))]) Z dX4_readStep_85 rfl (by decide) rfl ?_
          refine z_aload_n Z dX4_readStep_86 rfl 1 rfl ?_
          refine z_aload_n Z dX4_readStep_87 rfl 2 rfl ?_
          refine gC_X4_77_10 X dX4_readStep_88 ?_
          refine z_aload_n Z dX4_readStep_91 rfl 1 rfl ?_
          refine gC_X4_21_3 X dX4_readStep_92 ?_
          refine z_aload_n Z dX4_readStep_95 rfl 1 rfl ?_
          refine gC_X4_24_3 X dX4_readStep_96 ?_
          obtain ⟨u_4, M10, hf6, h⟩ := z_cld h
          refine z_callVv (Wd := wC cI cZ ad) X (c_X4_takeReference (Or.inr (⟨rfl, rfl⟩)) hf6) ml_X4_158 yd_X4_takeReference yw_X4_takeReference (by omega) (by decide) (rC_3 X) rfl rfl (Nat.le_of_ble_eq_true rfl) ⟨Nat.zero_le _, Nat.zero_le _⟩ dX4_readStep_99 ?_
          refine z_sub [1, 2, 3, 0] rfl ?_
          exact hk1 x1 M10 h
        · intro k2 hk2 h
          refine z_icmp_ne (tgt := 84) Z dX4_readStep_71 (by decide) h (fun h => ?_) (fun h => ?_)
          · refine z_iconst Z dX4_readStep_84 ?_
            refine z_sub [2, 3, 1] rfl ?_
            exact hk2 0 M8 h
          · refine z_aload_n Z dX4_readStep_74 rfl 2 rfl ?_
            refine z_iconst Z dX4_readStep_75 ?_
            refine z_bipush Z dX4_readStep_76 rfl ?_
            obtain ⟨r_2, M11, hf7, h⟩ := z_cld h
            refine z_callVi (Wd := wC cI cZ ad) X (c_X4_takeNumber hf7) ml_X4_138 yd_X4_takeNumber yw_X4_takeNumber (by omega) (by decide) (rC_3 X) rfl rfl (Nat.le_of_ble_eq_true rfl) ⟨Nat.zero_le _, Nat.zero_le _⟩ dX4_readStep_78 ?_
            refine z_goto (tgt := 85) Z dX4_readStep_81 (by decide) ?_
            refine z_sub [2, 3, 1] rfl ?_
            exact hk2 r_2 M11 h
  · intro k0 hk0 h
    refine z_jnr (P := fun (k : zMem → zO) => ∀ (M12 : zMem), k M12 = some (r, M') → z_V p l e R s m args below meth c D A cI cZ 5 (wC cI cZ ad) M' none M12 27 [(0, .ref (ad 3)), (1, .ref (ad 10))] [.ref (adK 20), .ref (ad 3)]) h ?_ ?_
    · intro M12 h
      refine z_iconst Z dX4_readStep_27 ?_
      refine z_sub [0, 1] rfl ?_
      exact hk0 0 M12 h
    · intro k3 hk3 h
      refine z_icmp_ge (tgt := 27) Z dX4_readStep_9 (by decide) h (fun h => ?_) (fun h => ?_)
      · refine z_sub [0, 1] rfl ?_
        exact hk3 M h
      · refine z_aload_n Z dX4_readStep_12 rfl 1 rfl ?_
        refine gC_X4_77_10 X dX4_readStep_13 ?_
        refine z_aload_n Z dX4_readStep_16 rfl 1 rfl ?_
        obtain ⟨r_3, M13, hf8, h⟩ := z_cld h
        refine z_callVi (Wd := wC cI cZ ad) X (c_X3_addresses (Or.inl rfl) hf8) ml_X4_123 yd_X3_addresses yw_X3_addresses (by omega) (by decide) (rC_10 X) rfl rfl (Nat.le_of_ble_eq_true rfl) ⟨Nat.zero_le _, Nat.zero_le _⟩ dX4_readStep_17 ?_
        refine z_icmp_ge (tgt := 27) Z dX4_readStep_20 (by decide) h (fun h => ?_) (fun h => ?_)
        · refine z_sub [0, 1] rfl ?_
          exact hk3 M13 h
        · refine z_iconst Z dX4_readStep_23 ?_
          refine z_goto (tgt := 28) Z dX4_readStep_24 (by decide) ?_
          refine z_sub [0, 1] rfl ?_
          exact hk0 1 M13 h
set_option maxRecDepth 100000 in
set_option maxHeartbeats 4000000 in
theorem c_X3_addWord {l : Launch} {D : va_G} {cI cZ : ClassId} {ad adK adV : Nat → Nat} {v1 v2 : Int} {M M' : zMem} {r : Int} (h : Plan_addWord v1 v2 M = some (r, M')) : z_Ct (wC cI cZ ad) D cI cZ adK adV l yX3_addWord cX3_addWord 3 none 2 [.ref (ad 10), .int (z_I v1), .int (z_I v2)] M M' none := by
  unfold Plan_addWord at h
  refine z_entry (own := RX3) rfl (by decide) (Nat.le_of_ble_eq_true rfl) ?_
  intro p e s m args below meth c R A X hr hlk
  have Z := X.1
  refine z_sub (lv' := [(0, .ref (ad 10)), (1, .int (z_I v1)), (2, .int (z_I v2))]) [0, 1, 2] rfl ?_
  refine z_aload_n Z dX3_addWord_0 rfl 0 rfl ?_
  refine gC_X3_33_10 X dX3_addWord_1 ?_
  refine z_bipush Z dX3_addWord_4 rfl ?_
  refine z_icmp_ge (tgt := 18) Z dX3_addWord_6 (by decide) h (fun h => ?_) (fun h => ?_)
  · exact z_vret X hr hlk dX3_addWord_18 h
  · refine z_aload_n Z dX3_addWord_9 rfl 0 rfl ?_
    refine gC_X3_30_10 X dX3_addWord_10 ?_
    refine z_bipush Z dX3_addWord_13 rfl ?_
    refine z_icmp_lt (tgt := 19) Z dX3_addWord_15 (by decide) h (fun h => ?_) (fun h => ?_)
    · refine z_aload_n Z dX3_addWord_19 rfl 0 rfl ?_
      refine gC_X3_61_10 X dX3_addWord_20 ?_
      refine z_aload_n Z dX3_addWord_23 rfl 0 rfl ?_
      refine gC_X3_33_10 X dX3_addWord_24 ?_
      refine z_aload_n Z dX3_addWord_27 rfl 0 rfl ?_
      refine gC_X3_30_10 X dX3_addWord_28 ?_
      refine srC_17 X dX3_addWord_31 h (fun M1 h => ?_)
      refine z_aload_n Z dX3_addWord_32 rfl 0 rfl ?_
      refine gC_X3_64_10 X dX3_addWord_33 ?_
      refine z_aload_n Z dX3_addWord_36 rfl 0 rfl ?_
      refine gC_X3_30_10 X dX3_addWord_37 ?_
      refine z_aload_n Z dX3_addWord_40 rfl 0 rfl ?_
      refine gC_X3_33_10 X dX3_addWord_41 ?_
      refine srC_18 X dX3_addWord_44 h (fun M2 h => ?_)
      refine z_aload_n Z dX3_addWord_45 rfl 0 rfl ?_
      refine gC_X3_49_10 X dX3_addWord_46 ?_
      refine z_aload_n Z dX3_addWord_49 rfl 0 rfl ?_
      refine gC_X3_30_10 X dX3_addWord_50 ?_
      refine z_iload_n Z dX3_addWord_53 rfl 1 rfl ?_
      refine srC_13 X dX3_addWord_54 h (fun M3 h => ?_)
      refine z_aload_n Z dX3_addWord_55 rfl 0 rfl ?_
      refine z_dup Z dX3_addWord_56 rfl ?_
      refine gC_X3_33_10 X dX3_addWord_57 ?_
      refine z_iconst Z dX3_addWord_60 ?_
      refine z_iadd Z dX3_addWord_61 ?_
      refine pC_X3_33_10 X dX3_addWord_62 h (fun M4 h => ?_)
      refine z_aload_n Z dX3_addWord_65 rfl 0 rfl ?_
      refine z_iconst Z dX3_addWord_66 ?_
      refine z_iload_n Z dX3_addWord_67 rfl 2 rfl ?_
      obtain ⟨u_, M5, hf, h⟩ := z_cld h
      refine z_callVv (Wd := wC cI cZ ad) X (c_X3_addItem hf) ml_X3_77 yd_X3_addItem yw_X3_addItem (by omega) (by decide) (rC_10 X) rfl rfl (Nat.le_of_ble_eq_true rfl) ⟨Nat.zero_le _, Nat.zero_le _⟩ dX3_addWord_68 ?_
      exact z_vret X hr hlk dX3_addWord_71 h
    · exact z_vret X hr hlk dX3_addWord_18 h
set_option maxRecDepth 100000 in
set_option maxHeartbeats 4000000 in
theorem c_X4_takeMinus {l : Launch} {D : va_G} {cI cZ : ClassId} {ad adK adV : Nat → Nat} {N : Nat} {M M' : zMem} {r : Int} (h : Reader_takeMinus N M = some (r, M')) : z_Ct (wC cI cZ ad) D cI cZ adK adV l yX4_takeMinus cX4_takeMinus 1 (some .boolean) 5 [.ref (ad 3)] M M' (some (.int (z_I r))) := by
  unfold Reader_takeMinus at h
  refine z_entry (own := RX4) rfl (by decide) (Nat.le_of_ble_eq_true rfl) ?_
  intro p e s m args below meth c R A X hr hlk
  have Z := X.1
  refine z_sub (lv' := [(0, .ref (ad 3))]) [0] rfl ?_
  refine z_aload_n Z dX4_takeMinus_0 rfl 0 rfl ?_
  refine gC_X4_39_3 X dX4_takeMinus_1 ?_
  refine gC_X4_84_9 X dX4_takeMinus_4 ?_
  refine z_iconst Z dX4_takeMinus_7 ?_
  refine z_icmp_eq (tgt := 13) Z dX4_takeMinus_8 (by decide) h (fun h => ?_) (fun h => ?_)
  · refine z_aload_n Z dX4_takeMinus_13 rfl 0 rfl ?_
    refine gC_X4_39_3 X dX4_takeMinus_14 ?_
    obtain ⟨u_, M1, hf, h⟩ := z_cld h
    refine z_callVv (Wd := wC cI cZ ad) X (c_X7_advance hf) ml_X4_198 yd_X7_advance yw_X7_advance (by omega) (by decide) (rC_9 X) rfl rfl (Nat.le_of_ble_eq_true rfl) ⟨Nat.zero_le _, Nat.zero_le _⟩ dX4_takeMinus_17 ?_
    refine z_iconst Z dX4_takeMinus_20 ?_
    exact z_zret X hr hlk (Or.inr rfl) dX4_takeMinus_21 h
  · refine z_iconst Z dX4_takeMinus_11 ?_
    exact z_zret X hr hlk (Or.inl rfl) dX4_takeMinus_12 h
set_option maxRecDepth 100000 in
set_option maxHeartbeats 4000000 in
theorem c_X4_readWord {l : Launch} {D : va_G} {cI cZ : ClassId} {ad adK adV : Nat → Nat} {N : Nat} {M M' : zMem} {r : Int} (h : Reader_readWord N M = some (r, M')) : z_Ct (wC cI cZ ad) D cI cZ adK adV l yX4_readWord cX4_readWord 5 none 9 [.ref (ad 3), .ref (ad 10)] M M' none := by
  unfold Reader_readWord at h
  refine z_entry (own := RX4) rfl (by decide) (Nat.le_of_ble_eq_true rfl) ?_
  intro p e s m args below meth c R A X hr hlk
  have Z := X.1
  refine z_sub (lv' := [(0, .ref (ad 3)), (1, .ref (ad 10))]) [0, 1] rfl ?_
  refine z_aload_n Z dX4_readWord_0 rfl 0 rfl ?_
  refine z_ldcS X 6 (by decide) rfl rfl dX4_readWord_1 ?_
  refine z_aload_n Z dX4_readWord_3 rfl 1 rfl ?_
  refine gC_X4_120_10 X dX4_readWord_4 ?_
  refine z_bipush Z dX4_readWord_7 rfl ?_
  refine z_jnr (P := fun (k : Int → zMem → zO) => ∀ (x0 : Int) (M1 : zMem), k x0 M1 = some (r, M') → z_V p l e R s m args below meth c D A cI cZ 5 (wC cI cZ ad) M' none M1 28 [(0, .ref (ad 3)), (1, .ref (ad 10))] [.int (z_I x0), .ref (adK 6), .ref (ad 3)]) h ?_ ?_
  · intro x0 M1 h
    obtain ⟨u_, M2, hf, h⟩ := z_cld h
    refine z_callVv (Wd := wC cI cZ ad) X (c_X4_takeItemWord (by decide) hf) ml_X4_127 yd_X4_takeItemWord yw_X4_takeItemWord (by omega) (by decide) (rC_3 X) rfl rfl (Nat.le_of_ble_eq_true rfl) ⟨Nat.zero_le _, Nat.zero_le _⟩ dX4_readWord_28 ?_
    refine z_aload_n Z dX4_readWord_31 rfl 0 rfl ?_
    refine z_aload_n Z dX4_readWord_32 rfl 1 rfl ?_
    refine gC_X4_77_10 X dX4_readWord_33 ?_
    obtain ⟨u_1, M3, hf1, h⟩ := z_cld h
    refine z_callVv (Wd := wC cI cZ ad) X (c_X4_takeItemName hf1) ml_X4_131 yd_X4_takeItemName yw_X4_takeItemName (by omega) (by decide) (rC_3 X) rfl rfl (Nat.le_of_ble_eq_true rfl) ⟨Nat.zero_le _, Nat.zero_le _⟩ dX4_readWord_36 ?_
    refine z_aload_n Z dX4_readWord_39 rfl 0 rfl ?_
    obtain ⟨r_, M4, hf2, h⟩ := z_cld h
    refine z_callVi (Wd := wC cI cZ ad) X (c_X4_takeMinus hf2) ml_X4_135 yd_X4_takeMinus yw_X4_takeMinus (by omega) (by decide) (rC_3 X) rfl rfl (Nat.le_of_ble_eq_true rfl) ⟨Nat.zero_le _, Nat.zero_le _⟩ dX4_readWord_40 ?_
    refine z_istore_n (lv' := [(2, .int (z_I r_)), (0, .ref (ad 3)), (1, .ref (ad 10))]) Z dX4_readWord_43 rfl (by decide) rfl ?_
    refine z_aload_n Z dX4_readWord_44 rfl 1 rfl ?_
    refine z_iconst Z dX4_readWord_45 ?_
    refine z_sipush Z dX4_readWord_46 rfl ?_
    obtain ⟨r_1, M5, hf3, h⟩ := z_cld h
    refine z_callVi (Wd := wC cI cZ ad) X (c_X4_takeNumber hf3) ml_X4_138 yd_X4_takeNumber yw_X4_takeNumber (by omega) (by decide) (rC_3 X) rfl rfl (Nat.le_of_ble_eq_true rfl) ⟨Nat.zero_le _, Nat.zero_le _⟩ dX4_readWord_49 ?_
    refine z_istore_n (lv' := [(3, .int (z_I r_1)), (2, .int (z_I r_)), (0, .ref (ad 3)), (1, .ref (ad 10))]) Z dX4_readWord_52 rfl (by decide) rfl ?_
    refine z_aload_n Z dX4_readWord_53 rfl 2 rfl ?_
    refine z_aload_n Z dX4_readWord_54 rfl 3 rfl ?_
    obtain ⟨r_2, M6, hf4, h⟩ := z_cld h
    refine z_callVi (Wd := wC cI cZ ad) X (c_X4_takeAddress hf4) ml_X4_142 yd_X4_takeAddress yw_X4_takeAddress (by omega) (by decide) (rC_3 X) rfl rfl (Nat.le_of_ble_eq_true rfl) ⟨Nat.zero_le _, Nat.zero_le _⟩ dX4_readWord_55 ?_
    refine z_istore (lv' := [(4, .int (z_I r_2)), (3, .int (z_I r_1)), (2, .int (z_I r_)), (0, .ref (ad 3)), (1, .ref (ad 10))]) Z dX4_readWord_58 (by decide) rfl ?_
    refine z_aload_n Z dX4_readWord_60 rfl 3 rfl ?_
    refine gC_X4_27_3 X dX4_readWord_61 ?_
    refine z_if_ne (tgt := 83) Z dX4_readWord_64 (by decide) h (fun h => ?_) (fun h => ?_)
    · exact z_vret X hr hlk dX4_readWord_83 h
    · refine z_aload_n Z dX4_readWord_67 rfl 4 rfl ?_
      refine z_iload_n Z dX4_readWord_68 rfl 2 rfl ?_
      refine z_jnr (P := fun (k : Int → zMem → zO) => ∀ (x1 : Int) (M7 : zMem), k x1 M7 = some (r, M') → z_V p l e R s m args below meth c D A cI cZ 5 (wC cI cZ ad) M' none M7 78 [(4, .int (z_I r_2))] [.int (z_I x1), .ref (ad 10)]) h ?_ ?_
      · intro x1 M7 h
        refine z_iload Z dX4_readWord_78 0 rfl ?_
        obtain ⟨u_2, M8, hf5, h⟩ := z_cld h
        refine z_callVv (Wd := wC cI cZ ad) X (c_X3_addWord hf5) ml_X4_146 yd_X3_addWord yw_X3_addWord (by omega) (by decide) (rC_10 X) rfl rfl (Nat.le_of_ble_eq_true rfl) ⟨Nat.zero_le _, Nat.zero_le _⟩ dX4_readWord_80 ?_
        exact z_vret X hr hlk dX4_readWord_83 h
      · intro k1 hk1 h
        refine z_if_eq (tgt := 77) Z dX4_readWord_69 (by decide) h (fun h => ?_) (fun h => ?_)
        · refine z_iload_n Z dX4_readWord_77 rfl 1 rfl ?_
          refine z_sub [0] rfl ?_
          exact hk1 r_1 M6 h
        · refine z_iload_n Z dX4_readWord_72 rfl 1 rfl ?_
          refine z_ineg Z dX4_readWord_73 ?_
          refine z_goto (tgt := 78) Z dX4_readWord_74 (by decide) ?_
          refine z_sub [0] rfl ?_
          exact hk1 (-r_1) M6 h
  · intro k0 hk0 h
    refine z_jnr (P := fun (k : zMem → zO) => ∀ (M9 : zMem), k M9 = some (r, M') → z_V p l e R s m args below meth c D A cI cZ 5 (wC cI cZ ad) M' none M9 27 [(0, .ref (ad 3)), (1, .ref (ad 10))] [.ref (adK 6), .ref (ad 3)]) h ?_ ?_
    · intro M9 h
      refine z_iconst Z dX4_readWord_27 ?_
      refine z_sub [0, 1] rfl ?_
      exact hk0 0 M9 h
    · intro k2 hk2 h
      refine z_icmp_ge (tgt := 27) Z dX4_readWord_9 (by decide) h (fun h => ?_) (fun h => ?_)
      · refine z_sub [0, 1] rfl ?_
        exact hk2 M h
      · refine z_aload_n Z dX4_readWord_12 rfl 1 rfl ?_
        refine gC_X4_77_10 X dX4_readWord_13 ?_
        refine z_aload_n Z dX4_readWord_16 rfl 1 rfl ?_
        obtain ⟨r_3, M10, hf6, h⟩ := z_cld h
        refine z_callVi (Wd := wC cI cZ ad) X (c_X3_addresses (Or.inl rfl) hf6) ml_X4_123 yd_X3_addresses yw_X3_addresses (by omega) (by decide) (rC_10 X) rfl rfl (Nat.le_of_ble_eq_true rfl) ⟨Nat.zero_le _, Nat.zero_le _⟩ dX4_readWord_17 ?_
        refine z_icmp_ge (tgt := 27) Z dX4_readWord_20 (by decide) h (fun h => ?_) (fun h => ?_)
        · refine z_sub [0, 1] rfl ?_
          exact hk2 M10 h
        · refine z_iconst Z dX4_readWord_23 ?_
          refine z_goto (tgt := 28) Z dX4_readWord_24 (by decide) ?_
          refine z_sub [0, 1] rfl ?_
          exact hk0 1 M10 h
set_option maxRecDepth 100000 in
set_option maxHeartbeats 4000000 in
theorem c_X4_takeSemicolon {l : Launch} {D : va_G} {cI cZ : ClassId} {ad adK adV : Nat → Nat} {N : Nat} {M M' : zMem} {r : Int} (h : Reader_takeSemicolon N M = some (r, M')) : z_Ct (wC cI cZ ad) D cI cZ adK adV l yX4_takeSemicolon cX4_takeSemicolon 1 none 5 [.ref (ad 3)] M M' none := by
  unfold Reader_takeSemicolon at h
  refine z_entry (own := RX4) rfl (by decide) (Nat.le_of_ble_eq_true rfl) ?_
  intro p e s m args below meth c R A X hr hlk
  have Z := X.1
  refine z_sub (lv' := [(0, .ref (ad 3))]) [0] rfl ?_
  refine z_aload_n Z dX4_takeSemicolon_0 rfl 0 rfl ?_
  refine gC_X4_39_3 X dX4_takeSemicolon_1 ?_
  refine gC_X4_84_9 X dX4_takeSemicolon_4 ?_
  refine z_iconst Z dX4_takeSemicolon_7 ?_
  refine z_jnr (P := fun (k : zMem → zO) => ∀ (M1 : zMem), k M1 = some (r, M') → z_V p l e R s m args below meth c D A cI cZ 1 (wC cI cZ ad) M' none M1 16 [(0, .ref (ad 3))] []) h ?_ ?_
  · intro M1 h
    refine z_aload_n Z dX4_takeSemicolon_16 rfl 0 rfl ?_
    refine gC_X4_39_3 X dX4_takeSemicolon_17 ?_
    obtain ⟨u_, M2, hf, h⟩ := z_cld h
    refine z_callVv (Wd := wC cI cZ ad) X (c_X7_advance hf) ml_X4_198 yd_X7_advance yw_X7_advance (by omega) (by decide) (rC_9 X) rfl rfl (Nat.le_of_ble_eq_true rfl) ⟨Nat.zero_le _, Nat.zero_le _⟩ dX4_takeSemicolon_20 ?_
    exact z_vret X hr hlk dX4_takeSemicolon_23 h
  · intro k0 hk0 h
    refine z_icmp_eq (tgt := 16) Z dX4_takeSemicolon_8 (by decide) h (fun h => ?_) (fun h => ?_)
    · refine z_sub [0] rfl ?_
      exact hk0 M h
    · refine z_aload_n Z dX4_takeSemicolon_11 rfl 0 rfl ?_
      refine z_iconst Z dX4_takeSemicolon_12 ?_
      obtain ⟨u_1, M3, hf1, h⟩ := z_cld h
      refine z_callVv (Wd := wC cI cZ ad) X (c_X4_fail hf1) ml_X4_195 yd_X4_fail yw_X4_fail (by omega) (by decide) (rC_3 X) rfl rfl (Nat.le_of_ble_eq_true rfl) ⟨Nat.zero_le _, Nat.zero_le _⟩ dX4_takeSemicolon_13 ?_
      refine z_sub [0] rfl ?_
      exact hk0 M3 h
set_option maxRecDepth 100000 in
set_option maxHeartbeats 4000000 in
theorem c_X7_begin {l : Launch} {D : va_G} {cI cZ : ClassId} {ad adK adV : Nat → Nat} {N : Nat} {M M' : zMem} {r : Int} (h : Tokens_begin N M = some (r, M')) : z_Ct (wC cI cZ ad) D cI cZ adK adV l yX7_begin cX7_begin 1 none 5 [.ref (ad 9)] M M' none := by
  unfold Tokens_begin at h
  refine z_entry (own := RX7) rfl (by decide) (Nat.le_of_ble_eq_true rfl) ?_
  intro p e s m args below meth c R A X hr hlk
  have Z := X.1
  refine z_sub (lv' := [(0, .ref (ad 9))]) [0] rfl ?_
  refine z_aload_n Z dX7_begin_0 rfl 0 rfl ?_
  refine z_iconst Z dX7_begin_1 ?_
  refine pC_X7_24_9 X dX7_begin_2 h (fun M1 h => ?_)
  refine z_aload_n Z dX7_begin_5 rfl 0 rfl ?_
  obtain ⟨u_, M2, hf, h⟩ := z_cld h
  refine z_callVv (Wd := wC cI cZ ad) X (c_X7_advance hf) ml_X7_31 yd_X7_advance yw_X7_advance (by omega) (by decide) (rC_9 X) rfl rfl (Nat.le_of_ble_eq_true rfl) ⟨Nat.zero_le _, Nat.zero_le _⟩ dX7_begin_6 ?_
  exact z_vret X hr hlk dX7_begin_9 h
set_option maxRecDepth 100000 in
set_option maxHeartbeats 4000000 in
theorem wReader_readText_23 {p : Program} {l : Launch} {e : Env} {R : Room} {s : State} {m : MethodId} {args : Array Value} {below : List Frame} {meth : Method} {c : Code} {D : va_G} {A : Nat → Prop} {cI cZ : ClassId} {adK adV ad : Nat → Nat} {r : Int} {M' : zMem} (X : z_X p m c cX4_readText 3 s args RX4 R 10 D cI cZ A adK adV) (hr : meth.sig.returnType = none) (hlk : meth.locks = false) (N : Nat) (k : zMem → zO) (hk : ∀ (M : zMem), k M = some (r, M') → z_V p l e R s m args below meth c D A cI cZ 3 (wC cI cZ ad) M' none M 93 [(0, .ref (ad 3)), (1, .ref (ad 10))] []) : ∀ (n : Nat) (v2 : Int) (M : zMem), Reader_readText_23 N k n v2 M = some (r, M') → z_V p l e R s m args below meth c D A cI cZ 3 (wC cI cZ ad) M' none M 23 [(0, .ref (ad 3)), (1, .ref (ad 10)), (2, .int (z_I v2))] [] := by
  have Z := X.1
  intro n
  induction n with
  | zero =>
    intro v2 M h
    rw [Reader_readText_23] at h
    cases h
  | succ n ih =>
    intro v2 M h
    rw [Reader_readText_23] at h
    refine z_iload_n Z dX4_readText_23 rfl 2 rfl ?_
    refine z_bipush Z dX4_readText_24 rfl ?_
    refine z_icmp_gt (tgt := 93) Z dX4_readText_26 (by decide) h (fun h => ?_) (fun h => ?_)
    · refine z_sub [0, 1] rfl ?_
      exact hk M h
    · refine z_aload_n Z dX4_readText_29 rfl 0 rfl ?_
      obtain ⟨r_, M1, hf, h⟩ := z_cld h
      refine z_callVi (Wd := wC cI cZ ad) X (c_X4_goesOn hf) ml_X4_51 yd_X4_goesOn yw_X4_goesOn (by omega) (by decide) (rC_3 X) rfl rfl (Nat.le_of_ble_eq_true rfl) ⟨Nat.zero_le _, Nat.zero_le _⟩ dX4_readText_30 ?_
      refine z_if_eq (tgt := 93) Z dX4_readText_33 (by decide) h (fun h => ?_) (fun h => ?_)
      · refine z_sub [0, 1] rfl ?_
        exact hk M1 h
      · refine z_iload_n Z dX4_readText_36 rfl 2 rfl ?_
        refine z_jnr (P := fun (k : zMem → zO) => ∀ (M2 : zMem), k M2 = some (r, M') → z_V p l e R s m args below meth c D A cI cZ 3 (wC cI cZ ad) M' none M2 73 [(0, .ref (ad 3)), (1, .ref (ad 10)), (2, .int (z_I v2))] []) h ?_ ?_
        · intro M2 h
          refine z_aload_n Z dX4_readText_73 rfl 0 rfl ?_
          obtain ⟨u_, M3, hf1, h⟩ := z_cld h
          refine z_callVv (Wd := wC cI cZ ad) X (c_X4_takeSemicolon hf1) ml_X4_71 yd_X4_takeSemicolon yw_X4_takeSemicolon (by omega) (by decide) (rC_3 X) rfl rfl (Nat.le_of_ble_eq_true rfl) ⟨Nat.zero_le _, Nat.zero_le _⟩ dX4_readText_74 ?_
          refine z_aload_n Z dX4_readText_77 rfl 1 rfl ?_
          refine z_dup Z dX4_readText_78 rfl ?_
          refine gC_X4_74_10 X dX4_readText_79 ?_
          refine z_iconst Z dX4_readText_82 ?_
          refine z_iadd Z dX4_readText_83 ?_
          refine pC_X4_74_10 X dX4_readText_84 h (fun M4 h => ?_)
          refine z_iincn Z (fun z => [(2, .int (z_I z)), (0, .ref (ad 3)), (1, .ref (ad 10))]) dX4_readText_87 (k := 2) rfl (by decide) (fun _ => rfl) h (fun v2_ h => ?_)
          refine z_goto (tgt := 23) Z dX4_readText_90 (by decide) ?_
          refine z_sub [1, 2, 0] rfl ?_
          exact ih v2_ M4 h
        · intro k1 hk1 h
          refine z_if_ne (tgt := 48) Z dX4_readText_37 (by decide) h (fun h => ?_) (fun h => ?_)
          · refine z_aload_n Z dX4_readText_48 rfl 0 rfl ?_
            refine gC_X4_39_3 X dX4_readText_49 ?_
            refine z_ldcS X 6 (by decide) rfl rfl dX4_readText_52 ?_
            obtain ⟨r_1, M5, hf2, h⟩ := z_cld h
            refine z_callVi (Wd := wC cI cZ ad) X (c_X7_is (by decide) hf2) ml_X4_61 yd_X7_is yw_X7_is (by omega) (by decide) (rC_9 X) rfl rfl (Nat.le_of_ble_eq_true rfl) ⟨Nat.zero_le _, Nat.zero_le _⟩ dX4_readText_54 ?_
            refine z_if_eq (tgt := 68) Z dX4_readText_57 (by decide) h (fun h => ?_) (fun h => ?_)
            · refine z_aload_n Z dX4_readText_68 rfl 0 rfl ?_
              refine z_aload_n Z dX4_readText_69 rfl 1 rfl ?_
              obtain ⟨u_1, M6, hf3, h⟩ := z_cld h
              refine z_callVv (Wd := wC cI cZ ad) X (c_X4_readStep hf3) ml_X4_68 yd_X4_readStep yw_X4_readStep (by omega) (by decide) (rC_3 X) rfl rfl (Nat.le_of_ble_eq_true rfl) ⟨Nat.zero_le _, Nat.zero_le _⟩ dX4_readText_70 ?_
              refine z_sub [0, 1, 2] rfl ?_
              exact hk1 M6 h
            · refine z_aload_n Z dX4_readText_60 rfl 0 rfl ?_
              refine z_aload_n Z dX4_readText_61 rfl 1 rfl ?_
              obtain ⟨u_2, M7, hf4, h⟩ := z_cld h
              refine z_callVv (Wd := wC cI cZ ad) X (c_X4_readWord hf4) ml_X4_65 yd_X4_readWord yw_X4_readWord (by omega) (by decide) (rC_3 X) rfl rfl (Nat.le_of_ble_eq_true rfl) ⟨Nat.zero_le _, Nat.zero_le _⟩ dX4_readText_62 ?_
              refine z_goto (tgt := 73) Z dX4_readText_65 (by decide) ?_
              refine z_sub [0, 1, 2] rfl ?_
              exact hk1 M7 h
          · refine z_aload_n Z dX4_readText_40 rfl 0 rfl ?_
            refine z_aload_n Z dX4_readText_41 rfl 1 rfl ?_
            obtain ⟨u_3, M8, hf5, h⟩ := z_cld h
            refine z_callVv (Wd := wC cI cZ ad) X (c_X4_readDrum hf5) ml_X4_55 yd_X4_readDrum yw_X4_readDrum (by omega) (by decide) (rC_3 X) rfl rfl (Nat.le_of_ble_eq_true rfl) ⟨Nat.zero_le _, Nat.zero_le _⟩ dX4_readText_42 ?_
            refine z_goto (tgt := 73) Z dX4_readText_45 (by decide) ?_
            refine z_sub [0, 1, 2] rfl ?_
            exact hk1 M8 h
set_option maxRecDepth 100000 in
set_option maxHeartbeats 4000000 in
theorem wReader_readText_95 {p : Program} {l : Launch} {e : Env} {R : Room} {s : State} {m : MethodId} {args : Array Value} {below : List Frame} {meth : Method} {c : Code} {D : va_G} {A : Nat → Prop} {cI cZ : ClassId} {adK adV ad : Nat → Nat} {r : Int} {M' : zMem} (X : z_X p m c cX4_readText 3 s args RX4 R 10 D cI cZ A adK adV) (hr : meth.sig.returnType = none) (hlk : meth.locks = false) (N : Nat) (k : zMem → zO) (hk : ∀ (M : zMem), k M = some (r, M') → z_V p l e R s m args below meth c D A cI cZ 3 (wC cI cZ ad) M' none M 122 [] []) : ∀ (n : Nat) (v2 : Int) (M : zMem), Reader_readText_95 N k n v2 M = some (r, M') → z_V p l e R s m args below meth c D A cI cZ 3 (wC cI cZ ad) M' none M 95 [(0, .ref (ad 3)), (1, .ref (ad 10)), (2, .int (z_I v2))] [] := by
  have Z := X.1
  intro n
  induction n with
  | zero =>
    intro v2 M h
    rw [Reader_readText_95] at h
    cases h
  | succ n ih =>
    intro v2 M h
    rw [Reader_readText_95] at h
    refine z_iload_n Z dX4_readText_95 rfl 2 rfl ?_
    refine z_aload_n Z dX4_readText_96 rfl 1 rfl ?_
    refine gC_X4_77_10 X dX4_readText_97 ?_
    refine z_icmp_ge (tgt := 122) Z dX4_readText_100 (by decide) h (fun h => ?_) (fun h => ?_)
    · refine z_sub [] rfl ?_
      exact hk M h
    · refine z_aload_n Z dX4_readText_103 rfl 0 rfl ?_
      refine gC_X4_27_3 X dX4_readText_104 ?_
      refine z_if_ne (tgt := 122) Z dX4_readText_107 (by decide) h (fun h => ?_) (fun h => ?_)
      · refine z_sub [] rfl ?_
        exact hk M h
      · refine z_aload_n Z dX4_readText_110 rfl 0 rfl ?_
        refine z_aload_n Z dX4_readText_111 rfl 1 rfl ?_
        refine z_iload_n Z dX4_readText_112 rfl 2 rfl ?_
        obtain ⟨u_, M1, hf, h⟩ := z_cld h
        refine z_callVv (Wd := wC cI cZ ad) X (c_X4_linkStep hf) ml_X4_80 yd_X4_linkStep yw_X4_linkStep (by omega) (by decide) (rC_3 X) rfl rfl (Nat.le_of_ble_eq_true rfl) ⟨Nat.zero_le _, Nat.zero_le _⟩ dX4_readText_113 ?_
        refine z_iincn Z (fun z => [(2, .int (z_I z)), (0, .ref (ad 3)), (1, .ref (ad 10))]) dX4_readText_116 (k := 2) rfl (by decide) (fun _ => rfl) h (fun v2_ h => ?_)
        refine z_goto (tgt := 95) Z dX4_readText_119 (by decide) ?_
        refine z_sub [1, 2, 0] rfl ?_
        exact ih v2_ M1 h
set_option maxRecDepth 100000 in
set_option maxHeartbeats 4000000 in
theorem c_X4_readText {l : Launch} {D : va_G} {cI cZ : ClassId} {ad adK adV : Nat → Nat} {N : Nat} {M M' : zMem} {r : Int} (h : Reader_readText N M = some (r, M')) : z_Ct (wC cI cZ ad) D cI cZ adK adV l yX4_readText cX4_readText 3 none 10 [.ref (ad 3), .ref (ad 10)] M M' none := by
  unfold Reader_readText at h
  refine z_entry (own := RX4) rfl (by decide) (Nat.le_of_ble_eq_true rfl) ?_
  intro p e s m args below meth c R A X hr hlk
  have Z := X.1
  refine z_sub (lv' := [(0, .ref (ad 3)), (1, .ref (ad 10))]) [0, 1] rfl ?_
  refine z_aload_n Z dX4_readText_0 rfl 0 rfl ?_
  refine z_iconst Z dX4_readText_1 ?_
  refine pC_X4_27_3 X dX4_readText_2 h (fun M1 h => ?_)
  refine z_aload_n Z dX4_readText_5 rfl 0 rfl ?_
  refine z_iconst Z dX4_readText_6 ?_
  refine pC_X4_31_3 X dX4_readText_7 h (fun M2 h => ?_)
  refine z_aload_n Z dX4_readText_10 rfl 1 rfl ?_
  obtain ⟨u_, M3, hf, h⟩ := z_cld h
  refine z_callVv (Wd := wC cI cZ ad) X (c_X3_clear hf) ml_X4_43 yd_X3_clear yw_X3_clear (by omega) (by decide) (rC_10 X) rfl rfl (Nat.le_of_ble_eq_true rfl) ⟨Nat.zero_le _, Nat.zero_le _⟩ dX4_readText_11 ?_
  refine z_aload_n Z dX4_readText_14 rfl 0 rfl ?_
  refine gC_X4_39_3 X dX4_readText_15 ?_
  obtain ⟨u_1, M4, hf1, h⟩ := z_cld h
  refine z_callVv (Wd := wC cI cZ ad) X (c_X7_begin hf1) ml_X4_48 yd_X7_begin yw_X7_begin (by omega) (by decide) (rC_9 X) rfl rfl (Nat.le_of_ble_eq_true rfl) ⟨Nat.zero_le _, Nat.zero_le _⟩ dX4_readText_18 ?_
  refine z_iconst Z dX4_readText_21 ?_
  refine z_istore_n (lv' := [(2, .int (z_I 0)), (0, .ref (ad 3)), (1, .ref (ad 10))]) Z dX4_readText_22 rfl (by decide) rfl ?_
  refine z_jnr (P := fun (k : zMem → zO) => ∀ (M5 : zMem), k M5 = some (r, M') → z_V p l e R s m args below meth c D A cI cZ 3 (wC cI cZ ad) M' none M5 93 [(0, .ref (ad 3)), (1, .ref (ad 10))] []) h ?_ ?_
  · intro M5 h
    refine z_iconst Z dX4_readText_93 ?_
    refine z_istore_n (lv' := [(2, .int (z_I 0)), (0, .ref (ad 3)), (1, .ref (ad 10))]) Z dX4_readText_94 rfl (by decide) rfl ?_
    refine z_jnr (P := fun (k : zMem → zO) => ∀ (M6 : zMem), k M6 = some (r, M') → z_V p l e R s m args below meth c D A cI cZ 3 (wC cI cZ ad) M' none M6 122 [] []) h ?_ ?_
    · intro M6 h
      exact z_vret X hr hlk dX4_readText_122 h
    · intro k1 hk1 h
      refine z_sub [1, 2, 0] rfl ?_
      exact wReader_readText_95 X hr hlk N k1 hk1 N 0 M5 h
  · intro k0 hk0 h
    refine z_sub [1, 2, 0] rfl ?_
    exact wReader_readText_23 X hr hlk N k0 hk0 N 0 M4 h
set_option maxRecDepth 100000 in
set_option maxHeartbeats 4000000 in
theorem c_X5_forget {l : Launch} {D : va_G} {cI cZ : ClassId} {ad adK adV : Nat → Nat} {M M' : zMem} {r : Int} (h : Search_forget M = some (r, M')) : z_Ct (wC cI cZ ad) D cI cZ adK adV l yX5_forget cX5_forget 1 none 1 [.ref (ad 48)] M M' none := by
  unfold Search_forget at h
  refine z_entry (own := RX5) rfl (by decide) (Nat.le_of_ble_eq_true rfl) ?_
  intro p e s m args below meth c R A X hr hlk
  have Z := X.1
  refine z_sub (lv' := [(0, .ref (ad 48))]) [0] rfl ?_
  refine z_aload_n Z dX5_forget_0 rfl 0 rfl ?_
  refine z_iconst Z dX5_forget_1 ?_
  refine pC_X5_32_48 X dX5_forget_2 h (fun M1 h => ?_)
  exact z_vret X hr hlk dX5_forget_5 h
set_option maxRecDepth 100000 in
set_option maxHeartbeats 4000000 in
theorem c_X8_addReading {l : Launch} {D : va_G} {cI cZ : ClassId} {ad adK adV : Nat → Nat} {v1 v2 : Int} {M M' : zMem} {r : Int} (h : Trace_addReading v1 v2 M = some (r, M')) : z_Ct (wC cI cZ ad) D cI cZ adK adV l yX8_addReading cX8_addReading 3 none 1 [.ref (ad 28), .int (z_I v1), .int (z_I v2)] M M' none := by
  unfold Trace_addReading at h
  refine z_entry (own := RX8) rfl (by decide) (Nat.le_of_ble_eq_true rfl) ?_
  intro p e s m args below meth c R A X hr hlk
  have Z := X.1
  refine z_sub (lv' := [(0, .ref (ad 28)), (1, .int (z_I v1)), (2, .int (z_I v2))]) [0, 1, 2] rfl ?_
  refine z_aload_n Z dX8_addReading_0 rfl 0 rfl ?_
  refine gC_X8_40_28 X dX8_addReading_1 ?_
  refine z_sipush Z dX8_addReading_4 rfl ?_
  refine z_icmp_ge (tgt := 40) Z dX8_addReading_7 (by decide) h (fun h => ?_) (fun h => ?_)
  · exact z_vret X hr hlk dX8_addReading_40 h
  · refine z_aload_n Z dX8_addReading_10 rfl 0 rfl ?_
    refine gC_X8_43_28 X dX8_addReading_11 ?_
    refine z_aload_n Z dX8_addReading_14 rfl 0 rfl ?_
    refine gC_X8_40_28 X dX8_addReading_15 ?_
    refine z_iload_n Z dX8_addReading_18 rfl 1 rfl ?_
    refine srC_35 X dX8_addReading_19 h (fun M1 h => ?_)
    refine z_aload_n Z dX8_addReading_20 rfl 0 rfl ?_
    refine gC_X8_46_28 X dX8_addReading_21 ?_
    refine z_aload_n Z dX8_addReading_24 rfl 0 rfl ?_
    refine gC_X8_40_28 X dX8_addReading_25 ?_
    refine z_iload_n Z dX8_addReading_28 rfl 2 rfl ?_
    refine srC_36 X dX8_addReading_29 h (fun M2 h => ?_)
    refine z_aload_n Z dX8_addReading_30 rfl 0 rfl ?_
    refine z_dup Z dX8_addReading_31 rfl ?_
    refine gC_X8_40_28 X dX8_addReading_32 ?_
    refine z_iconst Z dX8_addReading_35 ?_
    refine z_iadd Z dX8_addReading_36 ?_
    refine pC_X8_40_28 X dX8_addReading_37 h (fun M3 h => ?_)
    exact z_vret X hr hlk dX8_addReading_40 h
set_option maxRecDepth 100000 in
set_option maxHeartbeats 4000000 in
theorem c_X3_wordFurther {l : Launch} {D : va_G} {cI cZ : ClassId} {ad adK adV : Nat → Nat} {v1 v2 : Int} {M M' : zMem} {r : Int} (h : Plan_wordFurther v1 v2 M = some (r, M')) : z_Ct (wC cI cZ ad) D cI cZ adK adV l yX3_wordFurther cX3_wordFurther 4 (some .int) 3 [.ref (ad 19), .int (z_I v1), .int (z_I v2)] M M' (some (.int (z_I r))) := by
  unfold Plan_wordFurther at h
  refine z_entry (own := RX3) rfl (by decide) (Nat.le_of_ble_eq_true rfl) ?_
  intro p e s m args below meth c R A X hr hlk
  have Z := X.1
  refine z_sub (lv' := [(0, .ref (ad 19)), (1, .int (z_I v1)), (2, .int (z_I v2))]) [0, 1, 2] rfl ?_
  refine z_aload_n Z dX3_wordFurther_0 rfl 0 rfl ?_
  refine z_iload_n Z dX3_wordFurther_1 rfl 1 rfl ?_
  obtain ⟨r_, M1, hf, h⟩ := z_cld h
  refine z_callVi (Wd := wC cI cZ ad) X (c_X3_isWord (Or.inr (rfl)) hf) ml_X3_89 yd_X3_isWord yw_X3_isWord (by omega) (by decide) (rC_19 X) rfl rfl (Nat.le_of_ble_eq_true rfl) ⟨Nat.zero_le _, Nat.zero_le _⟩ dX3_wordFurther_2 ?_
  refine z_if_eq (tgt := 20) Z dX3_wordFurther_5 (by decide) h (fun h => ?_) (fun h => ?_)
  · refine z_iload_n Z dX3_wordFurther_20 rfl 1 rfl ?_
    exact z_iret X hr hlk dX3_wordFurther_21 h
  · refine z_aload_n Z dX3_wordFurther_8 rfl 0 rfl ?_
    refine gC_X3_33_19 X dX3_wordFurther_9 ?_
    refine z_iconst Z dX3_wordFurther_12 ?_
    refine z_icmp_lt (tgt := 20) Z dX3_wordFurther_13 (by decide) h (fun h => ?_) (fun h => ?_)
    · refine z_iload_n Z dX3_wordFurther_20 rfl 1 rfl ?_
      exact z_iret X hr hlk dX3_wordFurther_21 h
    · refine z_iload_n Z dX3_wordFurther_16 rfl 2 rfl ?_
      refine z_if_ge (tgt := 22) Z dX3_wordFurther_17 (by decide) h (fun h => ?_) (fun h => ?_)
      · refine z_aload_n Z dX3_wordFurther_22 rfl 0 rfl ?_
        refine gC_X3_64_19 X dX3_wordFurther_23 ?_
        refine z_iload_n Z dX3_wordFurther_26 rfl 1 rfl ?_
        refine ldC_27 X dX3_wordFurther_27 h (fun x0 h => ?_)
        refine z_iload_n Z dX3_wordFurther_28 rfl 2 rfl ?_
        refine z_iadd Z dX3_wordFurther_29 ?_
        refine z_aload_n Z dX3_wordFurther_30 rfl 0 rfl ?_
        refine gC_X3_33_19 X dX3_wordFurther_31 ?_
        refine z_iremt Z dX3_wordFurther_34 h (fun x1 h => ?_)
        refine z_istore_n (lv' := [(3, .int (z_I x1)), (0, .ref (ad 19)), (1, .int (z_I v1)), (2, .int (z_I v2))]) Z dX3_wordFurther_35 rfl (by decide) rfl ?_
        refine z_aload_n Z dX3_wordFurther_36 rfl 1 rfl ?_
        refine gC_X3_61_19 X dX3_wordFurther_37 ?_
        refine z_iload_n Z dX3_wordFurther_40 rfl 0 rfl ?_
        refine ldC_26 X dX3_wordFurther_41 h (fun x2 h => ?_)
        exact z_iret X hr hlk dX3_wordFurther_42 h
      · refine z_iload_n Z dX3_wordFurther_20 rfl 1 rfl ?_
        exact z_iret X hr hlk dX3_wordFurther_21 h
set_option maxRecDepth 100000 in
set_option maxHeartbeats 4000000 in
theorem c_X8_within {l : Launch} {D : va_G} {cI cZ : ClassId} {ad adK adV : Nat → Nat} {v0 : Int} {M M' : zMem} {r : Int} (h : Trace_within v0 M = some (r, M')) : z_Ct (wC cI cZ ad) D cI cZ adK adV l yX8_within cX8_within 1 (some .int) 3 [.int (z_I v0)] M M' (some (.int (z_I r))) := by
  unfold Trace_within at h
  refine z_entry (own := RX8) rfl (by decide) (Nat.le_of_ble_eq_true rfl) ?_
  intro p e s m args below meth c R A X hr hlk
  have Z := X.1
  refine z_sub (lv' := [(0, .int (z_I v0))]) [0] rfl ?_
  refine z_iload_n Z dX8_within_0 rfl 0 rfl ?_
  refine z_sipush Z dX8_within_1 rfl ?_
  refine z_isub Z dX8_within_4 ?_
  refine z_sipush Z dX8_within_5 rfl ?_
  refine z_fmr X ml_X8_118 (by omega) (Nat.le_of_ble_eq_true rfl) ⟨Nat.zero_le _, Nat.zero_le _⟩ dX8_within_8 h (fun x0 h => ?_)
  refine z_sipush Z dX8_within_11 rfl ?_
  refine z_iadd Z dX8_within_14 ?_
  exact z_iret X hr hlk dX8_within_15 h
set_option maxRecDepth 100000 in
set_option maxHeartbeats 4000000 in
theorem c_X8_carryOut {l : Launch} {D : va_G} {cI cZ : ClassId} {ad adK adV : Nat → Nat} {v1 v2 v3 : Int} {M M' : zMem} {r : Int} (h : Trace_carryOut v1 v2 v3 M = some (r, M')) : z_Ct (wC cI cZ ad) D cI cZ adK adV l yX8_carryOut cX8_carryOut 4 none 4 [.ref (ad 28), .int (z_I v1), .int (z_I v2), .int (z_I v3)] M M' none := by
  unfold Trace_carryOut at h
  refine z_entry (own := RX8) rfl (by decide) (Nat.le_of_ble_eq_true rfl) ?_
  intro p e s m args below meth c R A X hr hlk
  have Z := X.1
  refine z_sub (lv' := [(0, .ref (ad 28)), (1, .int (z_I v1)), (2, .int (z_I v2)), (3, .int (z_I v3))]) [0, 1, 2, 3] rfl ?_
  refine z_iload_n Z dX8_carryOut_0 rfl 2 rfl ?_
  obtain ⟨hx, -, h⟩ := z_eqd h
  rcases h with ⟨e0, h⟩ | ⟨n0, h⟩
  · refine z_tableIn (tgt := 44) Z dX8_carryOut_1 hx (by omega) (by omega) (by rw [e0]; rfl) (by decide) ?_
    refine z_aload_n Z dX8_carryOut_44 rfl 0 rfl ?_
    refine z_aload_n Z dX8_carryOut_45 rfl 0 rfl ?_
    refine gC_X8_21_28 X dX8_carryOut_46 ?_
    refine z_iload_n Z dX8_carryOut_49 rfl 3 rfl ?_
    refine ldC_29 X dX8_carryOut_50 h (fun x0 h => ?_)
    refine pC_X8_18_28 X dX8_carryOut_51 h (fun M1 h => ?_)
    refine z_goto (tgt := 164) Z dX8_carryOut_54 (by decide) ?_
    exact z_vret X hr hlk dX8_carryOut_164 h
  · obtain ⟨hx, -, h⟩ := z_eqd h
    rcases h with ⟨e0, h⟩ | ⟨n1, h⟩
    · refine z_tableIn (tgt := 57) Z dX8_carryOut_1 hx (by omega) (by omega) (by rw [e0]; rfl) (by decide) ?_
      refine z_aload_n Z dX8_carryOut_57 rfl 0 rfl ?_
      refine z_aload_n Z dX8_carryOut_58 rfl 0 rfl ?_
      refine gC_X8_18_28 X dX8_carryOut_59 ?_
      refine z_aload_n Z dX8_carryOut_62 rfl 0 rfl ?_
      refine gC_X8_21_28 X dX8_carryOut_63 ?_
      refine z_iload_n Z dX8_carryOut_66 rfl 3 rfl ?_
      refine ldC_29 X dX8_carryOut_67 h (fun x1 h => ?_)
      refine z_iadd Z dX8_carryOut_68 ?_
      obtain ⟨r_, M2, hf, h⟩ := z_cld h
      refine z_callSi (Wd := wC cI cZ ad) X (c_X8_within hf) ml_X8_108 yd_X8_within yw_X8_within (by omega) (by decide) rfl rfl (Nat.le_of_ble_eq_true rfl) ⟨Nat.zero_le _, Nat.zero_le _⟩ dX8_carryOut_69 ?_
      refine pC_X8_18_28 X dX8_carryOut_72 h (fun M3 h => ?_)
      refine z_goto (tgt := 164) Z dX8_carryOut_75 (by decide) ?_
      exact z_vret X hr hlk dX8_carryOut_164 h
    · obtain ⟨hx, -, h⟩ := z_eqd h
      rcases h with ⟨e0, h⟩ | ⟨n2, h⟩
      · refine z_tableIn (tgt := 78) Z dX8_carryOut_1 hx (by omega) (by omega) (by rw [e0]; rfl) (by decide) ?_
        refine z_aload_n Z dX8_carryOut_78 rfl 0 rfl ?_
        refine z_aload_n Z dX8_carryOut_79 rfl 0 rfl ?_
        refine gC_X8_18_28 X dX8_carryOut_80 ?_
        refine z_aload_n Z dX8_carryOut_83 rfl 0 rfl ?_
        refine gC_X8_21_28 X dX8_carryOut_84 ?_
        refine z_iload_n Z dX8_carryOut_87 rfl 3 rfl ?_
        refine ldC_29 X dX8_carryOut_88 h (fun x2 h => ?_)
        refine z_isub Z dX8_carryOut_89 ?_
        obtain ⟨r_1, M4, hf1, h⟩ := z_cld h
        refine z_callSi (Wd := wC cI cZ ad) X (c_X8_within hf1) ml_X8_108 yd_X8_within yw_X8_within (by omega) (by decide) rfl rfl (Nat.le_of_ble_eq_true rfl) ⟨Nat.zero_le _, Nat.zero_le _⟩ dX8_carryOut_90 ?_
        refine pC_X8_18_28 X dX8_carryOut_93 h (fun M5 h => ?_)
        refine z_goto (tgt := 164) Z dX8_carryOut_96 (by decide) ?_
        exact z_vret X hr hlk dX8_carryOut_164 h
      · obtain ⟨hx, -, h⟩ := z_eqd h
        rcases h with ⟨e0, h⟩ | ⟨n3, h⟩
        · refine z_tableIn (tgt := 99) Z dX8_carryOut_1 hx (by omega) (by omega) (by rw [e0]; rfl) (by decide) ?_
          refine z_aload_n Z dX8_carryOut_99 rfl 0 rfl ?_
          refine z_aload_n Z dX8_carryOut_100 rfl 0 rfl ?_
          refine gC_X8_18_28 X dX8_carryOut_101 ?_
          refine z_aload_n Z dX8_carryOut_104 rfl 0 rfl ?_
          refine gC_X8_21_28 X dX8_carryOut_105 ?_
          refine z_iload_n Z dX8_carryOut_108 rfl 3 rfl ?_
          refine ldC_29 X dX8_carryOut_109 h (fun x3 h => ?_)
          refine z_imul Z dX8_carryOut_110 ?_
          obtain ⟨r_2, M6, hf2, h⟩ := z_cld h
          refine z_callSi (Wd := wC cI cZ ad) X (c_X8_within hf2) ml_X8_108 yd_X8_within yw_X8_within (by omega) (by decide) rfl rfl (Nat.le_of_ble_eq_true rfl) ⟨Nat.zero_le _, Nat.zero_le _⟩ dX8_carryOut_111 ?_
          refine pC_X8_18_28 X dX8_carryOut_114 h (fun M7 h => ?_)
          refine z_goto (tgt := 164) Z dX8_carryOut_117 (by decide) ?_
          exact z_vret X hr hlk dX8_carryOut_164 h
        · obtain ⟨hx, -, h⟩ := z_eqd h
          rcases h with ⟨e0, h⟩ | ⟨n4, h⟩
          · refine z_tableIn (tgt := 120) Z dX8_carryOut_1 hx (by omega) (by omega) (by rw [e0]; rfl) (by decide) ?_
            refine z_aload_n Z dX8_carryOut_120 rfl 0 rfl ?_
            refine gC_X8_21_28 X dX8_carryOut_121 ?_
            refine z_iload_n Z dX8_carryOut_124 rfl 3 rfl ?_
            refine z_aload_n Z dX8_carryOut_125 rfl 0 rfl ?_
            refine gC_X8_18_28 X dX8_carryOut_126 ?_
            refine srC_29 X dX8_carryOut_129 h (fun M8 h => ?_)
            refine z_goto (tgt := 164) Z dX8_carryOut_130 (by decide) ?_
            exact z_vret X hr hlk dX8_carryOut_164 h
          · obtain ⟨hx, -, h⟩ := z_eqd h
            rcases h with ⟨e0, h⟩ | ⟨n5, h⟩
            · refine z_tableIn (tgt := 164) Z dX8_carryOut_1 hx (by omega) (by omega) (by rw [e0]; rfl) (by decide) ?_
              exact z_vret X hr hlk dX8_carryOut_164 h
            · obtain ⟨hx, -, h⟩ := z_eqd h
              rcases h with ⟨e0, h⟩ | ⟨n6, h⟩
              · refine z_tableIn (tgt := 133) Z dX8_carryOut_1 hx (by omega) (by omega) (by rw [e0]; rfl) (by decide) ?_
                refine z_aload_n Z dX8_carryOut_133 rfl 0 rfl ?_
                refine gC_X8_25_28 X dX8_carryOut_134 ?_
                refine z_iload_n Z dX8_carryOut_137 rfl 3 rfl ?_
                refine z_aload_n Z dX8_carryOut_138 rfl 0 rfl ?_
                refine gC_X8_61_28 X dX8_carryOut_139 ?_
                refine z_aload_n Z dX8_carryOut_142 rfl 0 rfl ?_
                refine gC_X8_25_28 X dX8_carryOut_143 ?_
                refine z_iload_n Z dX8_carryOut_146 rfl 3 rfl ?_
                refine ldC_30 X dX8_carryOut_147 h (fun x4 h => ?_)
                refine z_aload_n Z dX8_carryOut_148 rfl 0 rfl ?_
                refine gC_X8_61_28 X dX8_carryOut_149 ?_
                refine gC_X8_112_19 X dX8_carryOut_152 ?_
                refine z_iload_n Z dX8_carryOut_155 rfl 1 rfl ?_
                refine ldC_24 X dX8_carryOut_156 h (fun x5 h => ?_)
                obtain ⟨r_3, M9, hf3, h⟩ := z_cld h
                refine z_callVi (Wd := wC cI cZ ad) X (c_X3_wordFurther hf3) ml_X8_115 yd_X3_wordFurther yw_X3_wordFurther (by omega) (by decide) (rC_19 X) rfl rfl (Nat.le_of_ble_eq_true rfl) ⟨Nat.zero_le _, Nat.zero_le _⟩ dX8_carryOut_157 ?_
                refine srC_30 X dX8_carryOut_160 h (fun M10 h => ?_)
                refine z_goto (tgt := 164) Z dX8_carryOut_161 (by decide) ?_
                exact z_vret X hr hlk dX8_carryOut_164 h
              · refine z_tableOut (tgt := 164) Z dX8_carryOut_1 hx (by omega) (by decide) ?_
                exact z_vret X hr hlk dX8_carryOut_164 h
set_option maxRecDepth 100000 in
set_option maxHeartbeats 4000000 in
theorem c_X8_doStep {l : Launch} {D : va_G} {cI cZ : ClassId} {ad adK adV : Nat → Nat} {v1 v2 : Int} {M M' : zMem} {r : Int} (h : Trace_doStep v1 v2 M = some (r, M')) : z_Ct (wC cI cZ ad) D cI cZ adK adV l yX8_doStep cX8_doStep 5 (some .int) 5 [.ref (ad 28), .int (z_I v1), .int (z_I v2)] M M' (some (.int (z_I r))) := by
  unfold Trace_doStep at h
  refine z_entry (own := RX8) rfl (by decide) (Nat.le_of_ble_eq_true rfl) ?_
  intro p e s m args below meth c R A X hr hlk
  have Z := X.1
  refine z_sub (lv' := [(0, .ref (ad 28)), (1, .int (z_I v1)), (2, .int (z_I v2))]) [0, 1, 2] rfl ?_
  refine z_aload_n Z dX8_doStep_0 rfl 0 rfl ?_
  refine gC_X8_61_28 X dX8_doStep_1 ?_
  refine gC_X8_91_19 X dX8_doStep_4 ?_
  refine z_iload_n Z dX8_doStep_7 rfl 1 rfl ?_
  refine ldC_20 X dX8_doStep_8 h (fun x0 h => ?_)
  refine z_istore_n (lv' := [(3, .int (z_I x0)), (0, .ref (ad 28)), (1, .int (z_I v1)), (2, .int (z_I v2))]) Z dX8_doStep_9 rfl (by decide) rfl ?_
  refine z_iload_n Z dX8_doStep_10 rfl 0 rfl ?_
  refine z_iconst Z dX8_doStep_11 ?_
  refine z_jnr (P := fun (k : Int → zMem → zO) => ∀ (x1 : Int) (M1 : zMem), k x1 M1 = some (r, M') → z_V p l e R s m args below meth c D A cI cZ 5 (wC cI cZ ad) M' (some (.int (z_I r))) M1 31 [(0, .ref (ad 28)), (1, .int (z_I v1)), (2, .int (z_I v2)), (3, .int (z_I x0))] [.int (z_I x1)]) h ?_ ?_
  · intro x1 M1 h
    refine z_istore (lv' := [(4, .int (z_I x1)), (0, .ref (ad 28)), (1, .int (z_I v1)), (2, .int (z_I v2)), (3, .int (z_I x0))]) Z dX8_doStep_31 (by decide) rfl ?_
    refine z_aload_n Z dX8_doStep_33 rfl 1 rfl ?_
    refine gC_X8_28_28 X dX8_doStep_34 ?_
    refine z_iload_n Z dX8_doStep_37 rfl 3 rfl ?_
    refine z_iload_n Z dX8_doStep_38 rfl 2 rfl ?_
    refine srC_31 X dX8_doStep_39 h (fun M2 h => ?_)
    refine z_aload_n Z dX8_doStep_40 rfl 1 rfl ?_
    refine gC_X8_31_28 X dX8_doStep_41 ?_
    refine z_iload_n Z dX8_doStep_44 rfl 3 rfl ?_
    refine z_iload Z dX8_doStep_45 0 rfl ?_
    refine srC_32 X dX8_doStep_47 h (fun M3 h => ?_)
    refine z_aload_n Z dX8_doStep_48 rfl 1 rfl ?_
    refine gC_X8_37_28 X dX8_doStep_49 ?_
    refine z_iload_n Z dX8_doStep_52 rfl 3 rfl ?_
    refine z_aload_n Z dX8_doStep_53 rfl 1 rfl ?_
    refine gC_X8_40_28 X dX8_doStep_54 ?_
    refine srC_34 X dX8_doStep_57 h (fun M4 h => ?_)
    refine z_aload_n Z dX8_doStep_58 rfl 1 rfl ?_
    refine z_iload_n Z dX8_doStep_59 rfl 2 rfl ?_
    refine z_iconst Z dX8_doStep_60 ?_
    obtain ⟨u_, M5, hf, h⟩ := z_cld h
    refine z_callVv (Wd := wC cI cZ ad) X (c_X8_addReading hf) ml_X8_94 yd_X8_addReading yw_X8_addReading (by omega) (by decide) (rC_28 X) rfl rfl (Nat.le_of_ble_eq_true rfl) ⟨Nat.zero_le _, Nat.zero_le _⟩ dX8_doStep_61 ?_
    refine z_aload_n Z dX8_doStep_64 rfl 1 rfl ?_
    refine gC_X8_61_28 X dX8_doStep_65 ?_
    refine z_iload Z dX8_doStep_68 0 rfl ?_
    obtain ⟨r_, M6, hf1, h⟩ := z_cld h
    refine z_callVi (Wd := wC cI cZ ad) X (c_X3_isItem (Or.inr (rfl)) hf1) ml_X8_98 yd_X3_isItem yw_X3_isItem (by omega) (by decide) (rC_19 X) rfl rfl (Nat.le_of_ble_eq_true rfl) ⟨Nat.zero_le _, Nat.zero_le _⟩ dX8_doStep_70 ?_
    refine z_jnr (P := fun (k : zMem → zO) => ∀ (M7 : zMem), k M7 = some (r, M') → z_V p l e R s m args below meth c D A cI cZ 5 (wC cI cZ ad) M' (some (.int (z_I r))) M7 100 [(0, .ref (ad 28)), (1, .int (z_I v1)), (2, .int (z_I v2)), (3, .int (z_I x0))] []) h ?_ ?_
    · intro M7 h
      refine z_aload_n Z dX8_doStep_100 rfl 0 rfl ?_
      refine gC_X8_34_28 X dX8_doStep_101 ?_
      refine z_iload_n Z dX8_doStep_104 rfl 2 rfl ?_
      refine z_aload_n Z dX8_doStep_105 rfl 0 rfl ?_
      refine gC_X8_18_28 X dX8_doStep_106 ?_
      refine srC_33 X dX8_doStep_109 h (fun M8 h => ?_)
      refine z_aload_n Z dX8_doStep_110 rfl 0 rfl ?_
      refine z_iload_n Z dX8_doStep_111 rfl 2 rfl ?_
      refine z_iconst Z dX8_doStep_112 ?_
      refine z_iadd Z dX8_doStep_113 ?_
      refine pC_X8_9_28 X dX8_doStep_114 h (fun M9 h => ?_)
      refine z_iload_n Z dX8_doStep_117 rfl 3 rfl ?_
      refine z_bipush Z dX8_doStep_118 rfl ?_
      refine z_icmp_ne (tgt := 130) Z dX8_doStep_120 (by decide) h (fun h => ?_) (fun h => ?_)
      · refine z_iload_n Z dX8_doStep_130 rfl 3 rfl ?_
        refine z_iconst Z dX8_doStep_131 ?_
        refine z_jnr (P := fun (k : zMem → zO) => ∀ (M10 : zMem), k M10 = some (r, M') → z_V p l e R s m args below meth c D A cI cZ 5 (wC cI cZ ad) M' (some (.int (z_I r))) M10 154 [(0, .ref (ad 28)), (1, .int (z_I v1))] []) h ?_ ?_
        · intro M10 h
          refine z_aload_n Z dX8_doStep_154 rfl 0 rfl ?_
          refine gC_X8_61_28 X dX8_doStep_155 ?_
          refine gC_X8_105_19 X dX8_doStep_158 ?_
          refine z_iload_n Z dX8_doStep_161 rfl 1 rfl ?_
          refine ldC_25 X dX8_doStep_162 h (fun x2 h => ?_)
          exact z_iret X hr hlk dX8_doStep_163 h
        · intro k2 hk2 h
          refine z_icmp_ne (tgt := 154) Z dX8_doStep_132 (by decide) h (fun h => ?_) (fun h => ?_)
          · refine z_sub [0, 1] rfl ?_
            exact hk2 M9 h
          · refine z_aload_n Z dX8_doStep_135 rfl 0 rfl ?_
            refine gC_X8_18_28 X dX8_doStep_136 ?_
            refine z_if_ge (tgt := 154) Z dX8_doStep_139 (by decide) h (fun h => ?_) (fun h => ?_)
            · refine z_sub [0, 1] rfl ?_
              exact hk2 M9 h
            · refine z_aload_n Z dX8_doStep_142 rfl 0 rfl ?_
              refine gC_X8_61_28 X dX8_doStep_143 ?_
              refine gC_X8_74_19 X dX8_doStep_146 ?_
              refine z_iload_n Z dX8_doStep_149 rfl 1 rfl ?_
              refine ldC_23 X dX8_doStep_150 h (fun x3 h => ?_)
              refine z_goto (tgt := 163) Z dX8_doStep_151 (by decide) ?_
              exact z_iret X hr hlk dX8_doStep_163 h
      · refine z_aload_n Z dX8_doStep_123 rfl 0 rfl ?_
        refine z_iconst Z dX8_doStep_124 ?_
        refine pC_X8_15_28 X dX8_doStep_125 h (fun M11 h => ?_)
        refine z_iconst Z dX8_doStep_128 ?_
        exact z_iret X hr hlk dX8_doStep_129 h
    · intro k1 hk1 h
      refine z_if_eq (tgt := 100) Z dX8_doStep_73 (by decide) h (fun h => ?_) (fun h => ?_)
      · refine z_sub [1, 2, 3, 4] rfl ?_
        exact hk1 M6 h
      · refine z_aload_n Z dX8_doStep_76 rfl 1 rfl ?_
        refine z_iload Z dX8_doStep_77 0 rfl ?_
        refine z_iload_n Z dX8_doStep_79 rfl 4 rfl ?_
        refine z_iconst Z dX8_doStep_80 ?_
        refine z_jnr (P := fun (k : Int → Int → zMem → zO) => ∀ (x4 x5 : Int) (M12 : zMem), k x4 x5 M12 = some (r, M') → z_V p l e R s m args below meth c D A cI cZ 5 (wC cI cZ ad) M' (some (.int (z_I r))) M12 89 [(0, .ref (ad 28)), (1, .int (z_I v1)), (2, .int (z_I v2)), (3, .int (z_I x0)), (4, .int (z_I x1))] [.int (z_I x4), .int (z_I x5), .ref (ad 28)]) h ?_ ?_
        · intro x4 x5 M12 h
          obtain ⟨u_1, M13, hf2, h⟩ := z_cld h
          refine z_callVv (Wd := wC cI cZ ad) X (c_X8_addReading hf2) ml_X8_94 yd_X8_addReading yw_X8_addReading (by omega) (by decide) (rC_28 X) rfl rfl (Nat.le_of_ble_eq_true rfl) ⟨Nat.zero_le _, Nat.zero_le _⟩ dX8_doStep_89 ?_
          refine z_aload_n Z dX8_doStep_92 rfl 0 rfl ?_
          refine z_iload_n Z dX8_doStep_93 rfl 1 rfl ?_
          refine z_iload_n Z dX8_doStep_94 rfl 3 rfl ?_
          refine z_iload Z dX8_doStep_95 4 rfl ?_
          obtain ⟨u_2, M14, hf3, h⟩ := z_cld h
          refine z_callVv (Wd := wC cI cZ ad) X (c_X8_carryOut hf3) ml_X8_101 yd_X8_carryOut yw_X8_carryOut (by omega) (by decide) (rC_28 X) rfl rfl (Nat.le_of_ble_eq_true rfl) ⟨Nat.zero_le _, Nat.zero_le _⟩ dX8_doStep_97 ?_
          refine z_sub [0, 1, 2, 3] rfl ?_
          exact hk1 M14 h
        · intro k3 hk3 h
          refine z_icmp_ne (tgt := 88) Z dX8_doStep_81 (by decide) h (fun h => ?_) (fun h => ?_)
          · refine z_iconst Z dX8_doStep_88 ?_
            refine z_sub [1, 2, 3, 4, 0] rfl ?_
            exact hk3 1 x1 M6 h
          · refine z_iconst Z dX8_doStep_84 ?_
            refine z_goto (tgt := 89) Z dX8_doStep_85 (by decide) ?_
            refine z_sub [1, 2, 3, 4, 0] rfl ?_
            exact hk3 2 x1 M6 h
  · intro k0 hk0 h
    refine z_jnr (P := fun (k : zMem → zO) => ∀ (M15 : zMem), k M15 = some (r, M') → z_V p l e R s m args below meth c D A cI cZ 5 (wC cI cZ ad) M' (some (.int (z_I r))) M15 21 [(0, .ref (ad 28)), (1, .int (z_I v1)), (2, .int (z_I v2)), (3, .int (z_I x0))] []) h ?_ ?_
    · intro M15 h
      refine z_iconst Z dX8_doStep_21 ?_
      refine z_goto (tgt := 31) Z dX8_doStep_22 (by decide) ?_
      refine z_sub [0, 1, 2, 3] rfl ?_
      exact hk0 (-1) M15 h
    · intro k4 hk4 h
      refine z_icmp_eq (tgt := 21) Z dX8_doStep_12 (by decide) h (fun h => ?_) (fun h => ?_)
      · refine z_sub [1, 2, 3, 0] rfl ?_
        exact hk4 M h
      · refine z_iload_n Z dX8_doStep_15 rfl 0 rfl ?_
        refine z_bipush Z dX8_doStep_16 rfl ?_
        refine z_icmp_ne (tgt := 25) Z dX8_doStep_18 (by decide) h (fun h => ?_) (fun h => ?_)
        · refine z_aload_n Z dX8_doStep_25 rfl 1 rfl ?_
          refine gC_X8_25_28 X dX8_doStep_26 ?_
          refine z_iload_n Z dX8_doStep_29 rfl 2 rfl ?_
          refine ldC_30 X dX8_doStep_30 h (fun x6 h => ?_)
          refine z_sub [1, 2, 3, 0] rfl ?_
          exact hk0 x6 M h
        · refine z_sub [1, 2, 3, 0] rfl ?_
          exact hk4 M h
set_option maxRecDepth 100000 in
set_option maxHeartbeats 4000000 in
theorem c_X8_markPassesFrom {l : Launch} {D : va_G} {cI cZ : ClassId} {ad adK adV : Nat → Nat} {v1 v2 : Int} {M M' : zMem} {r : Int} (h : Trace_markPassesFrom v1 v2 M = some (r, M')) : z_Ct (wC cI cZ ad) D cI cZ adK adV l yX8_markPassesFrom cX8_markPassesFrom 6 (some .int) 1 [.ref (ad 28), .int (z_I v1), .int (z_I v2)] M M' (some (.int (z_I r))) := by
  unfold Trace_markPassesFrom at h
  refine z_entry (own := RX8) rfl (by decide) (Nat.le_of_ble_eq_true rfl) ?_
  intro p e s m args below meth c R A X hr hlk
  have Z := X.1
  refine z_sub (lv' := [(0, .ref (ad 28)), (1, .int (z_I v1)), (2, .int (z_I v2))]) [0, 1, 2] rfl ?_
  refine z_iload_n Z dX8_markPassesFrom_0 rfl 1 rfl ?_
  refine z_iload_n Z dX8_markPassesFrom_1 rfl 2 rfl ?_
  refine z_iadd Z dX8_markPassesFrom_2 ?_
  refine z_nmI h (fun v3_ h => ?_)
  refine z_istore_n (lv' := [(3, .int (z_I v3_)), (0, .ref (ad 28)), (1, .int (z_I v1)), (2, .int (z_I v2))]) Z dX8_markPassesFrom_3 rfl (by decide) rfl ?_
  refine z_iload_n Z dX8_markPassesFrom_4 rfl 0 rfl ?_
  refine z_iload_n Z dX8_markPassesFrom_5 rfl 3 rfl ?_
  refine z_iadd Z dX8_markPassesFrom_6 ?_
  refine z_nmI h (fun v4_ h => ?_)
  refine z_istore (lv' := [(4, .int (z_I v4_)), (3, .int (z_I v3_)), (0, .ref (ad 28)), (1, .int (z_I v1)), (2, .int (z_I v2))]) Z dX8_markPassesFrom_7 (by decide) rfl ?_
  refine z_iload_n Z dX8_markPassesFrom_9 rfl 4 rfl ?_
  refine z_jnr (P := fun (k : zMem → zO) => ∀ (M1 : zMem), k M1 = some (r, M') → z_V p l e R s m args below meth c D A cI cZ 6 (wC cI cZ ad) M' (some (.int (z_I r))) M1 62 [(0, .ref (ad 28)), (1, .int (z_I v1)), (2, .int (z_I v2))] []) h ?_ ?_
  · intro M1 h
    refine z_iconst Z dX8_markPassesFrom_62 ?_
    refine z_iload_n Z dX8_markPassesFrom_63 rfl 2 rfl ?_
    refine z_imul Z dX8_markPassesFrom_64 ?_
    refine z_aload_n Z dX8_markPassesFrom_65 rfl 0 rfl ?_
    refine gC_X8_55_28 X dX8_markPassesFrom_66 ?_
    refine z_iload_n Z dX8_markPassesFrom_69 rfl 1 rfl ?_
    refine ldC_39 X dX8_markPassesFrom_70 h (fun x0 h => ?_)
    refine z_iadd Z dX8_markPassesFrom_71 ?_
    exact z_iret X hr hlk dX8_markPassesFrom_72 h
  · intro k0 hk0 h
    refine z_if_le (tgt := 62) Z dX8_markPassesFrom_10 (by decide) h (fun h => ?_) (fun h => ?_)
    · refine z_sub [2, 3, 4] rfl ?_
      exact hk0 M h
    · refine z_iload Z dX8_markPassesFrom_13 0 rfl ?_
      refine z_aload_n Z dX8_markPassesFrom_15 rfl 2 rfl ?_
      refine gC_X8_9_28 X dX8_markPassesFrom_16 ?_
      refine z_icmp_ge (tgt := 62) Z dX8_markPassesFrom_19 (by decide) h (fun h => ?_) (fun h => ?_)
      · refine z_sub [2, 3, 4] rfl ?_
        exact hk0 M h
      · refine z_aload_n Z dX8_markPassesFrom_22 rfl 2 rfl ?_
        refine gC_X8_37_28 X dX8_markPassesFrom_23 ?_
        refine z_iload Z dX8_markPassesFrom_26 0 rfl ?_
        refine ldC_34 X dX8_markPassesFrom_28 h (fun x1 h => ?_)
        refine z_istore (lv' := [(5, .int (z_I x1)), (4, .int (z_I v4_)), (3, .int (z_I v3_)), (0, .ref (ad 28)), (1, .int (z_I v1)), (2, .int (z_I v2))]) Z dX8_markPassesFrom_29 (by decide) rfl ?_
        refine z_aload_n Z dX8_markPassesFrom_31 rfl 3 rfl ?_
        refine gC_X8_49_28 X dX8_markPassesFrom_32 ?_
        refine z_iload Z dX8_markPassesFrom_35 0 rfl ?_
        refine z_aload_n Z dX8_markPassesFrom_37 rfl 3 rfl ?_
        refine gC_X8_55_28 X dX8_markPassesFrom_38 ?_
        refine z_iload_n Z dX8_markPassesFrom_41 rfl 4 rfl ?_
        refine ldC_39 X dX8_markPassesFrom_42 h (fun x2 h => ?_)
        refine z_iload_n Z dX8_markPassesFrom_43 rfl 5 rfl ?_
        refine z_idiv Z dX8_markPassesFrom_44 h (fun x3 h => ?_)
        refine srC_37 X dX8_markPassesFrom_45 h (fun M2 h => ?_)
        refine z_aload_n Z dX8_markPassesFrom_46 rfl 3 rfl ?_
        refine gC_X8_52_28 X dX8_markPassesFrom_47 ?_
        refine z_iload Z dX8_markPassesFrom_50 0 rfl ?_
        refine z_iload Z dX8_markPassesFrom_52 0 rfl ?_
        refine z_aload_n Z dX8_markPassesFrom_54 rfl 3 rfl ?_
        refine gC_X8_37_28 X dX8_markPassesFrom_55 ?_
        refine z_iload_n Z dX8_markPassesFrom_58 rfl 2 rfl ?_
        refine ldC_34 X dX8_markPassesFrom_59 h (fun x4 h => ?_)
        refine z_isub Z dX8_markPassesFrom_60 ?_
        refine srC_38 X dX8_markPassesFrom_61 h (fun M3 h => ?_)
        refine z_sub [3, 4, 5] rfl ?_
        exact hk0 M3 h
set_option maxRecDepth 100000 in
set_option maxHeartbeats 4000000 in
theorem wTrace_weighPasses_17 {p : Program} {l : Launch} {e : Env} {R : Room} {s : State} {m : MethodId} {args : Array Value} {below : List Frame} {meth : Method} {c : Code} {D : va_G} {A : Nat → Prop} {cI cZ : ClassId} {adK adV ad : Nat → Nat} {r : Int} {M' : zMem} (X : z_X p m c cX8_weighPasses 6 s args RX8 R 1 D cI cZ A adK adV) (hr : meth.sig.returnType = none) (hlk : meth.locks = false) (N : Nat) (v1 : Int) (k : zMem → zO) (hk : ∀ (M : zMem), k M = some (r, M') → z_V p l e R s m args below meth c D A cI cZ 6 (wC cI cZ ad) M' none M 116 [] []) : ∀ (n : Nat) (v2 v3 : Int) (M : zMem), Trace_weighPasses_17 N v1 k n v2 v3 M = some (r, M') → z_V p l e R s m args below meth c D A cI cZ 6 (wC cI cZ ad) M' none M 17 [(0, .ref (ad 28)), (1, .int (z_I v1)), (2, .int (z_I v2)), (3, .int (z_I v3))] [] := by
  have Z := X.1
  intro n
  induction n with
  | zero =>
    intro v2 v3 M h
    rw [Trace_weighPasses_17] at h
    cases h
  | succ n ih =>
    intro v2 v3 M h
    rw [Trace_weighPasses_17] at h
    refine z_iload_n Z dX8_weighPasses_17 rfl 3 rfl ?_
    refine z_if_lt (tgt := 116) Z dX8_weighPasses_18 (by decide) h (fun h => ?_) (fun h => ?_)
    · refine z_sub [] rfl ?_
      exact hk M h
    · refine z_aload_n Z dX8_weighPasses_21 rfl 0 rfl ?_
      refine gC_X8_28_28 X dX8_weighPasses_22 ?_
      refine z_iload_n Z dX8_weighPasses_25 rfl 3 rfl ?_
      refine ldC_31 X dX8_weighPasses_26 h (fun x0 h => ?_)
      refine z_aload_n Z dX8_weighPasses_27 rfl 0 rfl ?_
      refine gC_X8_28_28 X dX8_weighPasses_28 ?_
      refine z_iload_n Z dX8_weighPasses_31 rfl 3 rfl ?_
      refine z_iload_n Z dX8_weighPasses_32 rfl 1 rfl ?_
      refine z_iadd Z dX8_weighPasses_33 ?_
      refine ldC_31 X dX8_weighPasses_34 h (fun x1 h => ?_)
      refine z_jnr (P := fun (k : Int → zMem → zO) => ∀ (x2 : Int) (M1 : zMem), k x2 M1 = some (r, M') → z_V p l e R s m args below meth c D A cI cZ 6 (wC cI cZ ad) M' none M1 60 [(0, .ref (ad 28)), (1, .int (z_I v1)), (2, .int (z_I v2)), (3, .int (z_I v3))] [.int (z_I x2)]) h ?_ ?_
      · intro x2 M1 h
        refine z_istore (lv' := [(4, .int (z_I x2)), (0, .ref (ad 28)), (1, .int (z_I v1)), (2, .int (z_I v2)), (3, .int (z_I v3))]) Z dX8_weighPasses_60 (by decide) rfl ?_
        refine z_iload Z dX8_weighPasses_62 0 rfl ?_
        refine z_jnr (P := fun (k : Int → zMem → zO) => ∀ (x3 : Int) (M2 : zMem), k x3 M2 = some (r, M') → z_V p l e R s m args below meth c D A cI cZ 6 (wC cI cZ ad) M' none M2 74 [(0, .ref (ad 28)), (1, .int (z_I v1)), (3, .int (z_I v3))] [.int (z_I x3)]) h ?_ ?_
        · intro x3 M2 h
          refine z_istore_n (lv' := [(2, .int (z_I x3)), (0, .ref (ad 28)), (1, .int (z_I v1)), (3, .int (z_I v3))]) Z dX8_weighPasses_74 rfl (by decide) rfl ?_
          refine z_iload_n Z dX8_weighPasses_75 rfl 0 rfl ?_
          refine z_iload_n Z dX8_weighPasses_76 rfl 0 rfl ?_
          refine z_iload_n Z dX8_weighPasses_77 rfl 2 rfl ?_
          refine z_iremt Z dX8_weighPasses_78 h (fun x4 h => ?_)
          refine z_isub Z dX8_weighPasses_79 ?_
          refine z_iload_n Z dX8_weighPasses_80 rfl 2 rfl ?_
          refine z_isub Z dX8_weighPasses_81 ?_
          refine z_nmI h (fun v5_ h => ?_)
          refine z_istore (lv' := [(5, .int (z_I v5_)), (2, .int (z_I x3)), (0, .ref (ad 28)), (1, .int (z_I v1)), (3, .int (z_I v3))]) Z dX8_weighPasses_82 (by decide) rfl ?_
          refine z_iload Z dX8_weighPasses_84 0 rfl ?_
          refine z_aload_n Z dX8_weighPasses_86 rfl 2 rfl ?_
          refine gC_X8_55_28 X dX8_weighPasses_87 ?_
          refine z_iload_n Z dX8_weighPasses_90 rfl 4 rfl ?_
          refine ldC_39 X dX8_weighPasses_91 h (fun x5 h => ?_)
          refine z_jnr (P := fun (k : zMem → zO) => ∀ (M3 : zMem), k M3 = some (r, M') → z_V p l e R s m args below meth c D A cI cZ 6 (wC cI cZ ad) M' none M3 110 [(0, .ref (ad 28)), (1, .int (z_I v1)), (2, .int (z_I x3)), (3, .int (z_I v3))] []) h ?_ ?_
          · intro M3 h
            refine z_iincn Z (fun z => [(3, .int (z_I z)), (0, .ref (ad 28)), (1, .int (z_I v1)), (2, .int (z_I x3))]) dX8_weighPasses_110 (k := 3) rfl (by decide) (fun _ => rfl) h (fun v3_ h => ?_)
            refine z_goto (tgt := 17) Z dX8_weighPasses_113 (by decide) ?_
            refine z_sub [1, 2, 3, 0] rfl ?_
            exact ih x3 v3_ M3 h
          · intro k3 hk3 h
            refine z_icmp_le (tgt := 110) Z dX8_weighPasses_92 (by decide) h (fun h => ?_) (fun h => ?_)
            · refine z_sub [2, 3, 1, 4] rfl ?_
              exact hk3 M2 h
            · refine z_aload_n Z dX8_weighPasses_95 rfl 2 rfl ?_
              refine gC_X8_55_28 X dX8_weighPasses_96 ?_
              refine z_iload_n Z dX8_weighPasses_99 rfl 4 rfl ?_
              refine z_iload Z dX8_weighPasses_100 0 rfl ?_
              refine srC_39 X dX8_weighPasses_102 h (fun M4 h => ?_)
              refine z_aload_n Z dX8_weighPasses_103 rfl 2 rfl ?_
              refine gC_X8_58_28 X dX8_weighPasses_104 ?_
              refine z_iload_n Z dX8_weighPasses_107 rfl 4 rfl ?_
              refine z_iload_n Z dX8_weighPasses_108 rfl 3 rfl ?_
              refine srC_40 X dX8_weighPasses_109 h (fun M5 h => ?_)
              refine z_sub [2, 3, 1, 4] rfl ?_
              exact hk3 M5 h
        · intro k2 hk2 h
          refine z_if_eq (tgt := 73) Z dX8_weighPasses_64 (by decide) h (fun h => ?_) (fun h => ?_)
          · refine z_iconst Z dX8_weighPasses_73 ?_
            refine z_sub [1, 2, 4] rfl ?_
            exact hk2 0 M1 h
          · refine z_iload_n Z dX8_weighPasses_67 rfl 3 rfl ?_
            refine z_iconst Z dX8_weighPasses_68 ?_
            refine z_iadd Z dX8_weighPasses_69 ?_
            refine z_goto (tgt := 74) Z dX8_weighPasses_70 (by decide) ?_
            refine z_sub [1, 2, 4] rfl ?_
            exact hk2 (v2 + 1) M1 h
      · intro k1 hk1 h
        refine z_jnr (P := fun (k : zMem → zO) => ∀ (M6 : zMem), k M6 = some (r, M') → z_V p l e R s m args below meth c D A cI cZ 6 (wC cI cZ ad) M' none M6 59 [(0, .ref (ad 28)), (1, .int (z_I v1)), (2, .int (z_I v2)), (3, .int (z_I v3))] []) h ?_ ?_
        · intro M6 h
          refine z_iconst Z dX8_weighPasses_59 ?_
          refine z_sub [0, 1, 2, 3] rfl ?_
          exact hk1 0 M6 h
        · intro k4 hk4 h
          refine z_icmp_ne (tgt := 59) Z dX8_weighPasses_35 (by decide) h (fun h => ?_) (fun h => ?_)
          · refine z_sub [0, 1, 2, 3] rfl ?_
            exact hk4 M h
          · refine z_aload_n Z dX8_weighPasses_38 rfl 0 rfl ?_
            refine gC_X8_31_28 X dX8_weighPasses_39 ?_
            refine z_iload_n Z dX8_weighPasses_42 rfl 3 rfl ?_
            refine ldC_32 X dX8_weighPasses_43 h (fun x6 h => ?_)
            refine z_aload_n Z dX8_weighPasses_44 rfl 0 rfl ?_
            refine gC_X8_31_28 X dX8_weighPasses_45 ?_
            refine z_iload_n Z dX8_weighPasses_48 rfl 3 rfl ?_
            refine z_iload_n Z dX8_weighPasses_49 rfl 1 rfl ?_
            refine z_iadd Z dX8_weighPasses_50 ?_
            refine ldC_32 X dX8_weighPasses_51 h (fun x7 h => ?_)
            refine z_icmp_ne (tgt := 59) Z dX8_weighPasses_52 (by decide) h (fun h => ?_) (fun h => ?_)
            · refine z_sub [0, 1, 2, 3] rfl ?_
              exact hk4 M h
            · refine z_iconst Z dX8_weighPasses_55 ?_
              refine z_goto (tgt := 60) Z dX8_weighPasses_56 (by decide) ?_
              refine z_sub [0, 1, 2, 3] rfl ?_
              exact hk1 1 M h
set_option maxRecDepth 100000 in
set_option maxHeartbeats 4000000 in
theorem c_X8_weighPasses {l : Launch} {D : va_G} {cI cZ : ClassId} {ad adK adV : Nat → Nat} {N : Nat} {v1 : Int} {M M' : zMem} {r : Int} (h : Trace_weighPasses N v1 M = some (r, M')) : z_Ct (wC cI cZ ad) D cI cZ adK adV l yX8_weighPasses cX8_weighPasses 6 none 1 [.ref (ad 28), .int (z_I v1)] M M' none := by
  unfold Trace_weighPasses at h
  refine z_entry (own := RX8) rfl (by decide) (Nat.le_of_ble_eq_true rfl) ?_
  intro p e s m args below meth c R A X hr hlk
  have Z := X.1
  refine z_sub (lv' := [(0, .ref (ad 28)), (1, .int (z_I v1))]) [0, 1] rfl ?_
  refine z_iload_n Z dX8_weighPasses_0 rfl 1 rfl ?_
  refine z_iconst Z dX8_weighPasses_1 ?_
  refine z_icmp_ge (tgt := 6) Z dX8_weighPasses_2 (by decide) h (fun h => ?_) (fun h => ?_)
  · refine z_iconst Z dX8_weighPasses_6 ?_
    refine z_istore_n (lv' := [(2, .int (z_I 0)), (0, .ref (ad 28)), (1, .int (z_I v1))]) Z dX8_weighPasses_7 rfl (by decide) rfl ?_
    refine z_aload_n Z dX8_weighPasses_8 rfl 1 rfl ?_
    refine gC_X8_9_28 X dX8_weighPasses_9 ?_
    refine z_iload_n Z dX8_weighPasses_12 rfl 2 rfl ?_
    refine z_isub Z dX8_weighPasses_13 ?_
    refine z_iconst Z dX8_weighPasses_14 ?_
    refine z_isub Z dX8_weighPasses_15 ?_
    refine z_nmI h (fun v3_ h => ?_)
    refine z_istore_n (lv' := [(3, .int (z_I v3_)), (2, .int (z_I 0)), (0, .ref (ad 28)), (1, .int (z_I v1))]) Z dX8_weighPasses_16 rfl (by decide) rfl ?_
    refine z_jnr (P := fun (k : zMem → zO) => ∀ (M1 : zMem), k M1 = some (r, M') → z_V p l e R s m args below meth c D A cI cZ 6 (wC cI cZ ad) M' none M1 116 [] []) h ?_ ?_
    · intro M1 h
      exact z_vret X hr hlk dX8_weighPasses_116 h
    · intro k0 hk0 h
      refine z_sub [2, 3, 1, 0] rfl ?_
      exact wTrace_weighPasses_17 X hr hlk N v1 k0 hk0 N 0 v3_ M h
  · exact z_vret X hr hlk dX8_weighPasses_5 h
set_option maxRecDepth 100000 in
set_option maxHeartbeats 4000000 in
theorem wTrace_markPasses_2 {p : Program} {l : Launch} {e : Env} {R : Room} {s : State} {m : MethodId} {args : Array Value} {below : List Frame} {meth : Method} {c : Code} {D : va_G} {A : Nat → Prop} {cI cZ : ClassId} {adK adV ad : Nat → Nat} {r : Int} {M' : zMem} (X : z_X p m c cX8_markPasses 3 s args RX8 R 2 D cI cZ A adK adV) (hr : meth.sig.returnType = none) (hlk : meth.locks = false) (N : Nat) (k : zMem → zO) (hk : ∀ (M : zMem), k M = some (r, M') → z_V p l e R s m args below meth c D A cI cZ 3 (wC cI cZ ad) M' none M 22 [(0, .ref (ad 28))] []) : ∀ (n : Nat) (v1 : Int) (M : zMem), Trace_markPasses_2 N k n v1 M = some (r, M') → z_V p l e R s m args below meth c D A cI cZ 3 (wC cI cZ ad) M' none M 2 [(0, .ref (ad 28)), (1, .int (z_I v1))] [] := by
  have Z := X.1
  intro n
  induction n with
  | zero =>
    intro v1 M h
    rw [Trace_markPasses_2] at h
    cases h
  | succ n ih =>
    intro v1 M h
    rw [Trace_markPasses_2] at h
    refine z_iload_n Z dX8_markPasses_2 rfl 1 rfl ?_
    refine z_sipush Z dX8_markPasses_3 rfl ?_
    refine z_icmp_gt (tgt := 22) Z dX8_markPasses_6 (by decide) h (fun h => ?_) (fun h => ?_)
    · refine z_sub [0] rfl ?_
      exact hk M h
    · refine z_aload_n Z dX8_markPasses_9 rfl 0 rfl ?_
      refine gC_X8_49_28 X dX8_markPasses_10 ?_
      refine z_iload_n Z dX8_markPasses_13 rfl 1 rfl ?_
      refine z_iconst Z dX8_markPasses_14 ?_
      refine srC_37 X dX8_markPasses_15 h (fun M1 h => ?_)
      refine z_iincn Z (fun z => [(1, .int (z_I z)), (0, .ref (ad 28))]) dX8_markPasses_16 (k := 1) rfl (by decide) (fun _ => rfl) h (fun v1_ h => ?_)
      refine z_goto (tgt := 2) Z dX8_markPasses_19 (by decide) ?_
      refine z_sub [1, 0] rfl ?_
      exact ih v1_ M1 h
set_option maxRecDepth 100000 in
set_option maxHeartbeats 4000000 in
theorem wTrace_markPasses_24 {p : Program} {l : Launch} {e : Env} {R : Room} {s : State} {m : MethodId} {args : Array Value} {below : List Frame} {meth : Method} {c : Code} {D : va_G} {A : Nat → Prop} {cI cZ : ClassId} {adK adV ad : Nat → Nat} {r : Int} {M' : zMem} (X : z_X p m c cX8_markPasses 3 s args RX8 R 2 D cI cZ A adK adV) (hr : meth.sig.returnType = none) (hlk : meth.locks = false) (N : Nat) (k : zMem → zO) (hk : ∀ (M : zMem), k M = some (r, M') → z_V p l e R s m args below meth c D A cI cZ 3 (wC cI cZ ad) M' none M 43 [(0, .ref (ad 28))] []) : ∀ (n : Nat) (v1 : Int) (M : zMem), Trace_markPasses_24 N k n v1 M = some (r, M') → z_V p l e R s m args below meth c D A cI cZ 3 (wC cI cZ ad) M' none M 24 [(0, .ref (ad 28)), (1, .int (z_I v1))] [] := by
  have Z := X.1
  intro n
  induction n with
  | zero =>
    intro v1 M h
    rw [Trace_markPasses_24] at h
    cases h
  | succ n ih =>
    intro v1 M h
    rw [Trace_markPasses_24] at h
    refine z_iload_n Z dX8_markPasses_24 rfl 1 rfl ?_
    refine z_bipush Z dX8_markPasses_25 rfl ?_
    refine z_icmp_ge (tgt := 43) Z dX8_markPasses_27 (by decide) h (fun h => ?_) (fun h => ?_)
    · refine z_sub [0] rfl ?_
      exact hk M h
    · refine z_aload_n Z dX8_markPasses_30 rfl 0 rfl ?_
      refine gC_X8_55_28 X dX8_markPasses_31 ?_
      refine z_iload_n Z dX8_markPasses_34 rfl 1 rfl ?_
      refine z_iconst Z dX8_markPasses_35 ?_
      refine srC_39 X dX8_markPasses_36 h (fun M1 h => ?_)
      refine z_iincn Z (fun z => [(1, .int (z_I z)), (0, .ref (ad 28))]) dX8_markPasses_37 (k := 1) rfl (by decide) (fun _ => rfl) h (fun v1_ h => ?_)
      refine z_goto (tgt := 24) Z dX8_markPasses_40 (by decide) ?_
      refine z_sub [1, 0] rfl ?_
      exact ih v1_ M1 h
set_option maxRecDepth 100000 in
set_option maxHeartbeats 4000000 in
theorem wTrace_markPasses_45 {p : Program} {l : Launch} {e : Env} {R : Room} {s : State} {m : MethodId} {args : Array Value} {below : List Frame} {meth : Method} {c : Code} {D : va_G} {A : Nat → Prop} {cI cZ : ClassId} {adK adV ad : Nat → Nat} {r : Int} {M' : zMem} (X : z_X p m c cX8_markPasses 3 s args RX8 R 2 D cI cZ A adK adV) (hr : meth.sig.returnType = none) (hlk : meth.locks = false) (N : Nat) (k : zMem → zO) (hk : ∀ (M : zMem), k M = some (r, M') → z_V p l e R s m args below meth c D A cI cZ 3 (wC cI cZ ad) M' none M 66 [(0, .ref (ad 28))] []) : ∀ (n : Nat) (v1 : Int) (M : zMem), Trace_markPasses_45 N k n v1 M = some (r, M') → z_V p l e R s m args below meth c D A cI cZ 3 (wC cI cZ ad) M' none M 45 [(0, .ref (ad 28)), (1, .int (z_I v1))] [] := by
  have Z := X.1
  intro n
  induction n with
  | zero =>
    intro v1 M h
    rw [Trace_markPasses_45] at h
    cases h
  | succ n ih =>
    intro v1 M h
    rw [Trace_markPasses_45] at h
    refine z_iconst Z dX8_markPasses_45 ?_
    refine z_iload_n Z dX8_markPasses_46 rfl 1 rfl ?_
    refine z_imul Z dX8_markPasses_47 ?_
    refine z_aload_n Z dX8_markPasses_48 rfl 0 rfl ?_
    refine gC_X8_9_28 X dX8_markPasses_49 ?_
    refine z_icmp_gt (tgt := 66) Z dX8_markPasses_52 (by decide) h (fun h => ?_) (fun h => ?_)
    · refine z_sub [0] rfl ?_
      exact hk M h
    · refine z_aload_n Z dX8_markPasses_55 rfl 0 rfl ?_
      refine z_iload_n Z dX8_markPasses_56 rfl 1 rfl ?_
      obtain ⟨u_, M1, hf, h⟩ := z_cld h
      refine z_callVv (Wd := wC cI cZ ad) X (c_X8_weighPasses hf) ml_X8_123 yd_X8_weighPasses yw_X8_weighPasses (by omega) (by decide) (rC_28 X) rfl rfl (Nat.le_of_ble_eq_true rfl) ⟨Nat.zero_le _, Nat.zero_le _⟩ dX8_markPasses_57 ?_
      refine z_iincn Z (fun z => [(1, .int (z_I z)), (0, .ref (ad 28))]) dX8_markPasses_60 (k := 1) rfl (by decide) (fun _ => rfl) h (fun v1_ h => ?_)
      refine z_goto (tgt := 45) Z dX8_markPasses_63 (by decide) ?_
      refine z_sub [1, 0] rfl ?_
      exact ih v1_ M1 h
set_option maxRecDepth 100000 in
set_option maxHeartbeats 4000000 in
theorem wTrace_markPasses_70 {p : Program} {l : Launch} {e : Env} {R : Room} {s : State} {m : MethodId} {args : Array Value} {below : List Frame} {meth : Method} {c : Code} {D : va_G} {A : Nat → Prop} {cI cZ : ClassId} {adK adV ad : Nat → Nat} {r : Int} {M' : zMem} (X : z_X p m c cX8_markPasses 3 s args RX8 R 2 D cI cZ A adK adV) (hr : meth.sig.returnType = none) (hlk : meth.locks = false) (N : Nat) (k : zMem → zO) (hk : ∀ (M : zMem), k M = some (r, M') → z_V p l e R s m args below meth c D A cI cZ 3 (wC cI cZ ad) M' none M 112 [] []) : ∀ (n : Nat) (v1 v2 : Int) (M : zMem), Trace_markPasses_70 N k n v1 v2 M = some (r, M') → z_V p l e R s m args below meth c D A cI cZ 3 (wC cI cZ ad) M' none M 70 [(0, .ref (ad 28)), (1, .int (z_I v1)), (2, .int (z_I v2))] [] := by
  have Z := X.1
  intro n
  induction n with
  | zero =>
    intro v1 v2 M h
    rw [Trace_markPasses_70] at h
    cases h
  | succ n ih =>
    intro v1 v2 M h
    rw [Trace_markPasses_70] at h
    refine z_iload_n Z dX8_markPasses_70 rfl 2 rfl ?_
    refine z_aload_n Z dX8_markPasses_71 rfl 0 rfl ?_
    refine gC_X8_9_28 X dX8_markPasses_72 ?_
    refine z_icmp_ge (tgt := 112) Z dX8_markPasses_75 (by decide) h (fun h => ?_) (fun h => ?_)
    · refine z_sub [] rfl ?_
      exact hk M h
    · refine z_iload_n Z dX8_markPasses_78 rfl 2 rfl ?_
      refine z_iload_n Z dX8_markPasses_79 rfl 1 rfl ?_
      refine z_jnr (P := fun (k : Int → zMem → zO) => ∀ (v1_ : Int) (M1 : zMem), k v1_ M1 = some (r, M') → z_V p l e R s m args below meth c D A cI cZ 3 (wC cI cZ ad) M' none M1 106 [(0, .ref (ad 28)), (1, .int (z_I v1_)), (2, .int (z_I v2))] []) h ?_ ?_
      · intro v1_ M1 h
        refine z_iincn Z (fun z => [(2, .int (z_I z)), (0, .ref (ad 28)), (1, .int (z_I v1_))]) dX8_markPasses_106 (k := 2) rfl (by decide) (fun _ => rfl) h (fun v2_ h => ?_)
        refine z_goto (tgt := 70) Z dX8_markPasses_109 (by decide) ?_
        refine z_sub [1, 2, 0] rfl ?_
        exact ih v1_ v2_ M1 h
      · intro k1 hk1 h
        refine z_icmp_lt (tgt := 106) Z dX8_markPasses_80 (by decide) h (fun h => ?_) (fun h => ?_)
        · refine z_sub [0, 1, 2] rfl ?_
          exact hk1 v1 M h
        · refine z_aload_n Z dX8_markPasses_83 rfl 0 rfl ?_
          refine gC_X8_55_28 X dX8_markPasses_84 ?_
          refine z_iload_n Z dX8_markPasses_87 rfl 2 rfl ?_
          refine ldC_39 X dX8_markPasses_88 h (fun x0 h => ?_)
          refine z_if_le (tgt := 106) Z dX8_markPasses_89 (by decide) h (fun h => ?_) (fun h => ?_)
          · refine z_sub [0, 1, 2] rfl ?_
            exact hk1 v1 M h
          · refine z_iload_n Z dX8_markPasses_92 rfl 2 rfl ?_
            refine z_aload_n Z dX8_markPasses_93 rfl 0 rfl ?_
            refine z_iload_n Z dX8_markPasses_94 rfl 2 rfl ?_
            refine z_aload_n Z dX8_markPasses_95 rfl 0 rfl ?_
            refine gC_X8_58_28 X dX8_markPasses_96 ?_
            refine z_iload_n Z dX8_markPasses_99 rfl 2 rfl ?_
            refine ldC_40 X dX8_markPasses_100 h (fun x1 h => ?_)
            obtain ⟨r_, M2, hf, h⟩ := z_cld h
            refine z_callVi (Wd := wC cI cZ ad) X (c_X8_markPassesFrom hf) ml_X8_127 yd_X8_markPassesFrom yw_X8_markPassesFrom (by omega) (by decide) (rC_28 X) rfl rfl (Nat.le_of_ble_eq_true rfl) ⟨Nat.zero_le _, Nat.zero_le _⟩ dX8_markPasses_101 ?_
            refine z_iadd Z dX8_markPasses_104 ?_
            refine z_nmI h (fun v1_1 h => ?_)
            refine z_istore_n (lv' := [(1, .int (z_I v1_1)), (0, .ref (ad 28)), (2, .int (z_I v2))]) Z dX8_markPasses_105 rfl (by decide) rfl ?_
            refine z_sub [1, 0, 2] rfl ?_
            exact hk1 v1_1 M2 h
set_option maxRecDepth 100000 in
set_option maxHeartbeats 4000000 in
theorem c_X8_markPasses {l : Launch} {D : va_G} {cI cZ : ClassId} {ad adK adV : Nat → Nat} {N : Nat} {M M' : zMem} {r : Int} (h : Trace_markPasses N M = some (r, M')) : z_Ct (wC cI cZ ad) D cI cZ adK adV l yX8_markPasses cX8_markPasses 3 none 2 [.ref (ad 28)] M M' none := by
  unfold Trace_markPasses at h
  refine z_entry (own := RX8) rfl (by decide) (Nat.le_of_ble_eq_true rfl) ?_
  intro p e s m args below meth c R A X hr hlk
  have Z := X.1
  refine z_sub (lv' := [(0, .ref (ad 28))]) [0] rfl ?_
  refine z_iconst Z dX8_markPasses_0 ?_
  refine z_istore_n (lv' := [(1, .int (z_I 0)), (0, .ref (ad 28))]) Z dX8_markPasses_1 rfl (by decide) rfl ?_
  refine z_jnr (P := fun (k : zMem → zO) => ∀ (M1 : zMem), k M1 = some (r, M') → z_V p l e R s m args below meth c D A cI cZ 3 (wC cI cZ ad) M' none M1 22 [(0, .ref (ad 28))] []) h ?_ ?_
  · intro M1 h
    refine z_iconst Z dX8_markPasses_22 ?_
    refine z_istore_n (lv' := [(1, .int (z_I 0)), (0, .ref (ad 28))]) Z dX8_markPasses_23 rfl (by decide) rfl ?_
    refine z_jnr (P := fun (k : zMem → zO) => ∀ (M2 : zMem), k M2 = some (r, M') → z_V p l e R s m args below meth c D A cI cZ 3 (wC cI cZ ad) M' none M2 43 [(0, .ref (ad 28))] []) h ?_ ?_
    · intro M2 h
      refine z_iconst Z dX8_markPasses_43 ?_
      refine z_istore_n (lv' := [(1, .int (z_I 1)), (0, .ref (ad 28))]) Z dX8_markPasses_44 rfl (by decide) rfl ?_
      refine z_jnr (P := fun (k : zMem → zO) => ∀ (M3 : zMem), k M3 = some (r, M') → z_V p l e R s m args below meth c D A cI cZ 3 (wC cI cZ ad) M' none M3 66 [(0, .ref (ad 28))] []) h ?_ ?_
      · intro M3 h
        refine z_iconst Z dX8_markPasses_66 ?_
        refine z_istore_n (lv' := [(1, .int (z_I 0)), (0, .ref (ad 28))]) Z dX8_markPasses_67 rfl (by decide) rfl ?_
        refine z_iconst Z dX8_markPasses_68 ?_
        refine z_istore_n (lv' := [(2, .int (z_I 0)), (1, .int (z_I 0)), (0, .ref (ad 28))]) Z dX8_markPasses_69 rfl (by decide) rfl ?_
        refine z_jnr (P := fun (k : zMem → zO) => ∀ (M4 : zMem), k M4 = some (r, M') → z_V p l e R s m args below meth c D A cI cZ 3 (wC cI cZ ad) M' none M4 112 [] []) h ?_ ?_
        · intro M4 h
          exact z_vret X hr hlk dX8_markPasses_112 h
        · intro k3 hk3 h
          refine z_sub [2, 1, 0] rfl ?_
          exact wTrace_markPasses_70 X hr hlk N k3 hk3 N 0 0 M3 h
      · intro k2 hk2 h
        refine z_sub [1, 0] rfl ?_
        exact wTrace_markPasses_45 X hr hlk N k2 hk2 N 1 M2 h
    · intro k1 hk1 h
      refine z_sub [1, 0] rfl ?_
      exact wTrace_markPasses_24 X hr hlk N k1 hk1 N 0 M1 h
  · intro k0 hk0 h
    refine z_sub [1, 0] rfl ?_
    exact wTrace_markPasses_2 X hr hlk N k0 hk0 N 0 M h
set_option maxRecDepth 100000 in
set_option maxHeartbeats 4000000 in
theorem wTrace_perform_58 {p : Program} {l : Launch} {e : Env} {R : Room} {s : State} {m : MethodId} {args : Array Value} {below : List Frame} {meth : Method} {c : Code} {D : va_G} {A : Nat → Prop} {cI cZ : ClassId} {adK adV ad : Nat → Nat} {r : Int} {M' : zMem} (X : z_X p m c cX8_perform 3 s args RX8 R 6 D cI cZ A adK adV) (hr : meth.sig.returnType = none) (hlk : meth.locks = false) (N : Nat) (k : zMem → zO) (hk : ∀ (M : zMem), k M = some (r, M') → z_V p l e R s m args below meth c D A cI cZ 3 (wC cI cZ ad) M' none M 88 [(0, .ref (ad 28))] []) : ∀ (n : Nat) (v1 v2 : Int) (M : zMem), Trace_perform_58 N k n v1 v2 M = some (r, M') → z_V p l e R s m args below meth c D A cI cZ 3 (wC cI cZ ad) M' none M 58 [(0, .ref (ad 28)), (1, .int (z_I v1)), (2, .int (z_I v2))] [] := by
  have Z := X.1
  intro n
  induction n with
  | zero =>
    intro v1 v2 M h
    rw [Trace_perform_58] at h
    cases h
  | succ n ih =>
    intro v1 v2 M h
    rw [Trace_perform_58] at h
    refine z_iload_n Z dX8_perform_58 rfl 2 rfl ?_
    refine z_bipush Z dX8_perform_59 rfl ?_
    refine z_icmp_ge (tgt := 88) Z dX8_perform_61 (by decide) h (fun h => ?_) (fun h => ?_)
    · refine z_sub [0] rfl ?_
      exact hk M h
    · refine z_aload_n Z dX8_perform_64 rfl 0 rfl ?_
      refine gC_X8_61_28 X dX8_perform_65 ?_
      refine z_iload_n Z dX8_perform_68 rfl 1 rfl ?_
      obtain ⟨r_, M1, hf, h⟩ := z_cld h
      refine z_callVi (Wd := wC cI cZ ad) X (c_X3_isStep (Or.inr (rfl)) hf) ml_X8_80 yd_X3_isStep yw_X3_isStep (by omega) (by decide) (rC_19 X) rfl rfl (Nat.le_of_ble_eq_true rfl) ⟨Nat.zero_le _, Nat.zero_le _⟩ dX8_perform_69 ?_
      refine z_if_eq (tgt := 88) Z dX8_perform_72 (by decide) h (fun h => ?_) (fun h => ?_)
      · refine z_sub [0] rfl ?_
        exact hk M1 h
      · refine z_aload_n Z dX8_perform_75 rfl 0 rfl ?_
        refine z_iload_n Z dX8_perform_76 rfl 1 rfl ?_
        refine z_iload_n Z dX8_perform_77 rfl 2 rfl ?_
        obtain ⟨r_1, M2, hf1, h⟩ := z_cld h
        refine z_callVi (Wd := wC cI cZ ad) X (c_X8_doStep hf1) ml_X8_84 yd_X8_doStep yw_X8_doStep (by omega) (by decide) (rC_28 X) rfl rfl (Nat.le_of_ble_eq_true rfl) ⟨Nat.zero_le _, Nat.zero_le _⟩ dX8_perform_78 ?_
        refine z_istore_n (lv' := [(1, .int (z_I r_1)), (0, .ref (ad 28)), (2, .int (z_I v2))]) Z dX8_perform_81 rfl (by decide) rfl ?_
        refine z_iincn Z (fun z => [(2, .int (z_I z)), (1, .int (z_I r_1)), (0, .ref (ad 28))]) dX8_perform_82 (k := 2) rfl (by decide) (fun _ => rfl) h (fun v2_ h => ?_)
        refine z_goto (tgt := 58) Z dX8_perform_85 (by decide) ?_
        refine z_sub [2, 1, 0] rfl ?_
        exact ih r_1 v2_ M2 h
set_option maxRecDepth 100000 in
set_option maxHeartbeats 4000000 in
theorem c_X8_perform {l : Launch} {D : va_G} {cI cZ : ClassId} {ad adK adV : Nat → Nat} {N : Nat} {M M' : zMem} {r : Int} (h : Trace_perform N M = some (r, M')) : z_Ct (wC cI cZ ad) D cI cZ adK adV l yX8_perform cX8_perform 3 none 6 [.ref (ad 28)] M M' none := by
  unfold Trace_perform at h
  refine z_entry (own := RX8) rfl (by decide) (Nat.le_of_ble_eq_true rfl) ?_
  intro p e s m args below meth c R A X hr hlk
  have Z := X.1
  refine z_sub (lv' := [(0, .ref (ad 28))]) [0] rfl ?_
  refine z_aload_n Z dX8_perform_0 rfl 0 rfl ?_
  refine gC_X8_61_28 X dX8_perform_1 ?_
  refine gC_X8_65_19 X dX8_perform_4 ?_
  refine z_aload_n Z dX8_perform_7 rfl 0 rfl ?_
  refine gC_X8_21_28 X dX8_perform_8 ?_
  obtain ⟨u_, M1, hf, h⟩ := z_cld h
  refine z_callNv (Wd := wC cI cZ ad) X (c_X9_copyItems (Or.inr (Or.inr (Or.inr (Or.inr (Or.inr (Or.inr (Or.inr (Or.inl ⟨rfl, rfl⟩)))))))) hf) nl_X8_70 yd_X9_copyItems yw_X9_copyItems (by omega) (by decide) rfl rfl (Nat.le_of_ble_eq_true rfl) ⟨Nat.zero_le _, Nat.zero_le _⟩ dX8_perform_11 ?_
  refine z_aload_n Z dX8_perform_14 rfl 0 rfl ?_
  refine gC_X8_61_28 X dX8_perform_15 ?_
  refine gC_X8_74_19 X dX8_perform_18 ?_
  refine z_aload_n Z dX8_perform_21 rfl 0 rfl ?_
  refine gC_X8_25_28 X dX8_perform_22 ?_
  obtain ⟨u_1, M2, hf1, h⟩ := z_cld h
  refine z_callNv (Wd := wC cI cZ ad) X (c_X9_copyItems (Or.inr (Or.inr (Or.inr (Or.inr (Or.inr (Or.inr (Or.inr (Or.inr (Or.inl ⟨rfl, rfl⟩))))))))) hf1) nl_X8_70 yd_X9_copyItems yw_X9_copyItems (by omega) (by decide) rfl rfl (Nat.le_of_ble_eq_true rfl) ⟨Nat.zero_le _, Nat.zero_le _⟩ dX8_perform_25 ?_
  refine z_aload_n Z dX8_perform_28 rfl 0 rfl ?_
  refine z_iconst Z dX8_perform_29 ?_
  refine pC_X8_18_28 X dX8_perform_30 h (fun M3 h => ?_)
  refine z_aload_n Z dX8_perform_33 rfl 0 rfl ?_
  refine z_iconst Z dX8_perform_34 ?_
  refine pC_X8_9_28 X dX8_perform_35 h (fun M4 h => ?_)
  refine z_aload_n Z dX8_perform_38 rfl 0 rfl ?_
  refine z_iconst Z dX8_perform_39 ?_
  refine pC_X8_40_28 X dX8_perform_40 h (fun M5 h => ?_)
  refine z_aload_n Z dX8_perform_43 rfl 0 rfl ?_
  refine z_iconst Z dX8_perform_44 ?_
  refine pC_X8_15_28 X dX8_perform_45 h (fun M6 h => ?_)
  refine z_aload_n Z dX8_perform_48 rfl 0 rfl ?_
  refine gC_X8_61_28 X dX8_perform_49 ?_
  refine gC_X8_77_19 X dX8_perform_52 ?_
  refine z_nmI h (fun v1_ h => ?_)
  refine z_istore_n (lv' := [(1, .int (z_I v1_)), (0, .ref (ad 28))]) Z dX8_perform_55 rfl (by decide) rfl ?_
  refine z_iconst Z dX8_perform_56 ?_
  refine z_istore_n (lv' := [(2, .int (z_I 0)), (1, .int (z_I v1_)), (0, .ref (ad 28))]) Z dX8_perform_57 rfl (by decide) rfl ?_
  refine z_jnr (P := fun (k : zMem → zO) => ∀ (M7 : zMem), k M7 = some (r, M') → z_V p l e R s m args below meth c D A cI cZ 3 (wC cI cZ ad) M' none M7 88 [(0, .ref (ad 28))] []) h ?_ ?_
  · intro M7 h
    refine z_aload_n Z dX8_perform_88 rfl 0 rfl ?_
    obtain ⟨u_2, M8, hf2, h⟩ := z_cld h
    refine z_callVv (Wd := wC cI cZ ad) X (c_X8_markPasses hf2) ml_X8_88 yd_X8_markPasses yw_X8_markPasses (by omega) (by decide) (rC_28 X) rfl rfl (Nat.le_of_ble_eq_true rfl) ⟨Nat.zero_le _, Nat.zero_le _⟩ dX8_perform_89 ?_
    exact z_vret X hr hlk dX8_perform_92 h
  · intro k0 hk0 h
    refine z_sub [2, 1, 0] rfl ?_
    exact wTrace_perform_58 X hr hlk N k0 hk0 N v1_ 0 M6 h
set_option maxRecDepth 100000 in
set_option maxHeartbeats 4000000 in
theorem c_X9_drum {l : Launch} {D : va_G} {cI cZ : ClassId} {ad adK adV : Nat → Nat} {N : Nat} {M M' : zMem} {r : Int} (h : Drum_drum N M = some (r, M')) : z_Ct (wC cI cZ ad) D cI cZ adK adV l yX9_drum cX9_drum 1 (some .int) 11 [.ref (ad 0)] M M' (some (.int (z_I r))) := by
  unfold Drum_drum at h
  refine z_entry (own := RX9) rfl (by decide) (Nat.le_of_ble_eq_true rfl) ?_
  intro p e s m args below meth c R A X hr hlk
  have Z := X.1
  refine z_sub (lv' := [(0, .ref (ad 0))]) [0] rfl ?_
  refine z_aload_n Z dX9_drum_0 rfl 0 rfl ?_
  refine gC_X9_34_0 X dX9_drum_1 ?_
  refine z_aload_n Z dX9_drum_4 rfl 0 rfl ?_
  refine gC_X9_38_0 X dX9_drum_5 ?_
  obtain ⟨u_, M1, hf, h⟩ := z_cld h
  refine z_callVv (Wd := wC cI cZ ad) X (c_X4_readText hf) ml_X9_99 yd_X4_readText yw_X4_readText (by omega) (by decide) (rC_3 X) rfl rfl (Nat.le_of_ble_eq_true rfl) ⟨Nat.zero_le _, Nat.zero_le _⟩ dX9_drum_8 ?_
  refine z_aload_n Z dX9_drum_11 rfl 0 rfl ?_
  refine z_aload_n Z dX9_drum_12 rfl 0 rfl ?_
  refine gC_X9_34_0 X dX9_drum_13 ?_
  refine gC_X9_102_3 X dX9_drum_16 ?_
  refine pC_X9_85_0 X dX9_drum_19 h (fun M2 h => ?_)
  refine z_aload_n Z dX9_drum_22 rfl 0 rfl ?_
  refine z_aload_n Z dX9_drum_23 rfl 0 rfl ?_
  refine gC_X9_34_0 X dX9_drum_24 ?_
  refine gC_X9_103_3 X dX9_drum_27 ?_
  refine pC_X9_89_0 X dX9_drum_30 h (fun M3 h => ?_)
  refine z_aload_n Z dX9_drum_33 rfl 0 rfl ?_
  refine gC_X9_23_0 X dX9_drum_34 ?_
  refine z_iconst Z dX9_drum_37 ?_
  refine pC_X9_92_1 X dX9_drum_38 h (fun M4 h => ?_)
  refine z_aload_n Z dX9_drum_41 rfl 0 rfl ?_
  refine gC_X9_85_0 X dX9_drum_42 ?_
  refine z_if_eq (tgt := 51) Z dX9_drum_45 (by decide) h (fun h => ?_) (fun h => ?_)
  · refine z_aload_n Z dX9_drum_51 rfl 0 rfl ?_
    refine gC_X9_42_0 X dX9_drum_52 ?_
    refine z_aload_n Z dX9_drum_55 rfl 0 rfl ?_
    refine gC_X9_38_0 X dX9_drum_56 ?_
    obtain ⟨u_1, M5, hf1, h⟩ := z_cld h
    refine z_callVv (Wd := wC cI cZ ad) X (c_X3_copyFrom hf1) ml_X9_104 yd_X3_copyFrom yw_X3_copyFrom (by omega) (by decide) (rC_19 X) rfl rfl (Nat.le_of_ble_eq_true rfl) ⟨Nat.zero_le _, Nat.zero_le _⟩ dX9_drum_59 ?_
    refine z_aload_n Z dX9_drum_62 rfl 0 rfl ?_
    refine gC_X9_45_0 X dX9_drum_63 ?_
    obtain ⟨u_2, M6, hf2, h⟩ := z_cld h
    refine z_callVv (Wd := wC cI cZ ad) X (c_X8_perform hf2) ml_X9_107 yd_X8_perform yw_X8_perform (by omega) (by decide) (rC_28 X) rfl rfl (Nat.le_of_ble_eq_true rfl) ⟨Nat.zero_le _, Nat.zero_le _⟩ dX9_drum_66 ?_
    refine z_aload_n Z dX9_drum_69 rfl 0 rfl ?_
    refine gC_X9_58_0 X dX9_drum_70 ?_
    refine z_aload_n Z dX9_drum_73 rfl 0 rfl ?_
    refine gC_X9_78_0 X dX9_drum_74 ?_
    obtain ⟨u_3, M7, hf3, h⟩ := z_cld h
    refine z_callVv (Wd := wC cI cZ ad) X (c_X2_layInOrder (Or.inl rfl) hf3) ml_X9_110 yd_X2_layInOrder yw_X2_layInOrder (by omega) (by decide) (rC_46 X) rfl rfl (Nat.le_of_ble_eq_true rfl) ⟨Nat.zero_le _, Nat.zero_le _⟩ dX9_drum_77 ?_
    refine z_aload_n Z dX9_drum_80 rfl 0 rfl ?_
    refine gC_X9_67_0 X dX9_drum_81 ?_
    obtain ⟨u_4, M8, hf4, h⟩ := z_cld h
    refine z_callVv (Wd := wC cI cZ ad) X (c_X5_forget hf4) ml_X9_114 yd_X5_forget yw_X5_forget (by omega) (by decide) (rC_48 X) rfl rfl (Nat.le_of_ble_eq_true rfl) ⟨Nat.zero_le _, Nat.zero_le _⟩ dX9_drum_84 ?_
    refine z_aload_n Z dX9_drum_87 rfl 0 rfl ?_
    refine gC_X9_74_0 X dX9_drum_88 ?_
    refine z_iconst Z dX9_drum_91 ?_
    refine pC_X9_117_55 X dX9_drum_92 h (fun M9 h => ?_)
    refine z_aload_n Z dX9_drum_95 rfl 0 rfl ?_
    refine gC_X9_42_0 X dX9_drum_96 ?_
    refine gC_X9_120_19 X dX9_drum_99 ?_
    exact z_iret X hr hlk dX9_drum_102 h
  · refine z_bipush Z dX9_drum_48 rfl ?_
    exact z_iret X hr hlk dX9_drum_50 h
set_option maxRecDepth 100000 in
set_option maxHeartbeats 4000000 in
theorem c_X9_fault {l : Launch} {D : va_G} {cI cZ : ClassId} {ad adK adV : Nat → Nat} {v1 : Int} {M M' : zMem} {r : Int} (h : Drum_fault v1 M = some (r, M')) : z_Ct (wC cI cZ ad) D cI cZ adK adV l yX9_fault cX9_fault 2 (some .int) 1 [.ref (ad 0), .int (z_I v1)] M M' (some (.int (z_I r))) := by
  unfold Drum_fault at h
  refine z_entry (own := RX9) rfl (by decide) (Nat.le_of_ble_eq_true rfl) ?_
  intro p e s m args below meth c R A X hr hlk
  have Z := X.1
  refine z_sub (lv' := [(0, .ref (ad 0)), (1, .int (z_I v1))]) [0, 1] rfl ?_
  refine z_iload_n Z dX9_fault_0 rfl 1 rfl ?_
  obtain ⟨hx, -, h⟩ := z_eqd h
  rcases h with ⟨e0, h⟩ | ⟨n0, h⟩
  · refine z_lookup (tgt := 28) (off := 27) Z dX9_fault_1 hx (by decide) (by rw [e0]; decide) (by decide) ?_
    refine z_aload_n Z dX9_fault_28 rfl 0 rfl ?_
    refine gC_X9_85_0 X dX9_fault_29 ?_
    exact z_iret X hr hlk dX9_fault_32 h
  · obtain ⟨hx, -, h⟩ := z_eqd h
    rcases h with ⟨e0, h⟩ | ⟨n1, h⟩
    · refine z_lookup (tgt := 33) (off := 32) Z dX9_fault_1 hx (by decide) (by rw [e0]; decide) (by decide) ?_
      refine z_aload_n Z dX9_fault_33 rfl 0 rfl ?_
      refine gC_X9_89_0 X dX9_fault_34 ?_
      exact z_iret X hr hlk dX9_fault_37 h
    · refine z_lookup (tgt := 38) (off := 37) Z dX9_fault_1 hx (by decide) (by show (if 0 = v1 then 27 else if 1 = v1 then 32 else 37) = 37; rw [if_neg (by omega), if_neg (by omega)]) (by decide) ?_
      refine z_iconst Z dX9_fault_38 ?_
      exact z_iret X hr hlk dX9_fault_39 h
set_option maxRecDepth 100000 in
set_option maxHeartbeats 4000000 in
theorem wPlan_loose_4 {p : Program} {l : Launch} {e : Env} {R : Room} {s : State} {m : MethodId} {args : Array Value} {below : List Frame} {meth : Method} {c : Code} {D : va_G} {A : Nat → Prop} {cI cZ : ClassId} {adK adV ad : Nat → Nat} {r : Int} {M' : zMem} (X : z_X p m c cX3_loose 3 s args RX3 R 1 D cI cZ A adK adV) (hr : meth.sig.returnType = some .int) (hlk : meth.locks = false) (N : Nat) (k : Int → zMem → zO) (hk : ∀ (y1 : Int) (M : zMem), k y1 M = some (r, M') → z_V p l e R s m args below meth c D A cI cZ 3 (wC cI cZ ad) M' (some (.int (z_I r))) M 31 [(1, .int (z_I y1))] []) : ∀ (n : Nat) (v1 v2 : Int) (M : zMem), Plan_loose_4 N k n v1 v2 M = some (r, M') → z_V p l e R s m args below meth c D A cI cZ 3 (wC cI cZ ad) M' (some (.int (z_I r))) M 4 [(0, .ref (ad 19)), (1, .int (z_I v1)), (2, .int (z_I v2))] [] := by
  have Z := X.1
  intro n
  induction n with
  | zero =>
    intro v1 v2 M h
    rw [Plan_loose_4] at h
    cases h
  | succ n ih =>
    intro v1 v2 M h
    rw [Plan_loose_4] at h
    refine z_iload_n Z dX3_loose_4 rfl 2 rfl ?_
    refine z_aload_n Z dX3_loose_5 rfl 0 rfl ?_
    refine gC_X3_30_19 X dX3_loose_6 ?_
    refine z_icmp_ge (tgt := 31) Z dX3_loose_9 (by decide) h (fun h => ?_) (fun h => ?_)
    · refine z_sub [1] rfl ?_
      exact hk v1 M h
    · refine z_aload_n Z dX3_loose_12 rfl 0 rfl ?_
      refine gC_X3_46_19 X dX3_loose_13 ?_
      refine z_iload_n Z dX3_loose_16 rfl 2 rfl ?_
      refine ldC_21 X dX3_loose_17 h (fun x0 h => ?_)
      refine z_iconst Z dX3_loose_18 ?_
      refine z_jnr (P := fun (k : Int → zMem → zO) => ∀ (v1_ : Int) (M1 : zMem), k v1_ M1 = some (r, M') → z_V p l e R s m args below meth c D A cI cZ 3 (wC cI cZ ad) M' (some (.int (z_I r))) M1 25 [(0, .ref (ad 19)), (1, .int (z_I v1_)), (2, .int (z_I v2))] []) h ?_ ?_
      · intro v1_ M1 h
        refine z_iincn Z (fun z => [(2, .int (z_I z)), (0, .ref (ad 19)), (1, .int (z_I v1_))]) dX3_loose_25 (k := 2) rfl (by decide) (fun _ => rfl) h (fun v2_ h => ?_)
        refine z_goto (tgt := 4) Z dX3_loose_28 (by decide) ?_
        refine z_sub [1, 2, 0] rfl ?_
        exact ih v1_ v2_ M1 h
      · intro k1 hk1 h
        refine z_icmp_ne (tgt := 25) Z dX3_loose_19 (by decide) h (fun h => ?_) (fun h => ?_)
        · refine z_sub [0, 1, 2] rfl ?_
          exact hk1 v1 M h
        · refine z_iincn Z (fun z => [(1, .int (z_I z)), (0, .ref (ad 19)), (2, .int (z_I v2))]) dX3_loose_22 (k := 1) rfl (by decide) (fun _ => rfl) h (fun v1_1 h => ?_)
          refine z_sub [1, 0, 2] rfl ?_
          exact hk1 v1_1 M h
set_option maxRecDepth 100000 in
set_option maxHeartbeats 4000000 in
theorem c_X3_loose {l : Launch} {D : va_G} {cI cZ : ClassId} {ad adK adV : Nat → Nat} {N : Nat} {M M' : zMem} {r : Int} (h : Plan_loose N M = some (r, M')) : z_Ct (wC cI cZ ad) D cI cZ adK adV l yX3_loose cX3_loose 3 (some .int) 1 [.ref (ad 19)] M M' (some (.int (z_I r))) := by
  unfold Plan_loose at h
  refine z_entry (own := RX3) rfl (by decide) (Nat.le_of_ble_eq_true rfl) ?_
  intro p e s m args below meth c R A X hr hlk
  have Z := X.1
  refine z_sub (lv' := [(0, .ref (ad 19))]) [0] rfl ?_
  refine z_iconst Z dX3_loose_0 ?_
  refine z_istore_n (lv' := [(1, .int (z_I 0)), (0, .ref (ad 19))]) Z dX3_loose_1 rfl (by decide) rfl ?_
  refine z_iconst Z dX3_loose_2 ?_
  refine z_istore_n (lv' := [(2, .int (z_I 0)), (1, .int (z_I 0)), (0, .ref (ad 19))]) Z dX3_loose_3 rfl (by decide) rfl ?_
  refine z_jnr (P := fun (k : Int → zMem → zO) => ∀ (v1_ : Int) (M1 : zMem), k v1_ M1 = some (r, M') → z_V p l e R s m args below meth c D A cI cZ 3 (wC cI cZ ad) M' (some (.int (z_I r))) M1 31 [(1, .int (z_I v1_))] []) h ?_ ?_
  · intro v1_ M1 h
    refine z_iload_n Z dX3_loose_31 rfl 0 rfl ?_
    exact z_iret X hr hlk dX3_loose_32 h
  · intro k0 hk0 h
    refine z_sub [2, 1, 0] rfl ?_
    exact wPlan_loose_4 X hr hlk N k0 hk0 N 0 0 M h
set_option maxRecDepth 100000 in
set_option maxHeartbeats 4000000 in
theorem c_X9_count {l : Launch} {D : va_G} {cI cZ : ClassId} {ad adK adV : Nat → Nat} {N : Nat} {v1 : Int} {M M' : zMem} {r : Int} (h : Drum_count N v1 M = some (r, M')) : z_Ct (wC cI cZ ad) D cI cZ adK adV l yX9_count cX9_count 2 (some .int) 2 [.ref (ad 0), .int (z_I v1)] M M' (some (.int (z_I r))) := by
  unfold Drum_count at h
  refine z_entry (own := RX9) rfl (by decide) (Nat.le_of_ble_eq_true rfl) ?_
  intro p e s m args below meth c R A X hr hlk
  have Z := X.1
  refine z_sub (lv' := [(0, .ref (ad 0)), (1, .int (z_I v1))]) [0, 1] rfl ?_
  refine z_iload_n Z dX9_count_0 rfl 1 rfl ?_
  obtain ⟨hx, -, h⟩ := z_eqd h
  rcases h with ⟨e0, h⟩ | ⟨n0, h⟩
  · refine z_tableIn (tgt := 60) Z dX9_count_1 hx (by omega) (by omega) (by rw [e0]; rfl) (by decide) ?_
    refine z_aload_n Z dX9_count_60 rfl 0 rfl ?_
    refine gC_X9_42_0 X dX9_count_61 ?_
    refine gC_X9_123_19 X dX9_count_64 ?_
    exact z_iret X hr hlk dX9_count_67 h
  · obtain ⟨hx, -, h⟩ := z_eqd h
    rcases h with ⟨e0, h⟩ | ⟨n1, h⟩
    · refine z_tableIn (tgt := 68) Z dX9_count_1 hx (by omega) (by omega) (by rw [e0]; rfl) (by decide) ?_
      refine z_aload_n Z dX9_count_68 rfl 0 rfl ?_
      refine gC_X9_42_0 X dX9_count_69 ?_
      refine gC_X9_126_19 X dX9_count_72 ?_
      exact z_iret X hr hlk dX9_count_75 h
    · obtain ⟨hx, -, h⟩ := z_eqd h
      rcases h with ⟨e0, h⟩ | ⟨n2, h⟩
      · refine z_tableIn (tgt := 76) Z dX9_count_1 hx (by omega) (by omega) (by rw [e0]; rfl) (by decide) ?_
        refine z_aload_n Z dX9_count_76 rfl 0 rfl ?_
        refine gC_X9_42_0 X dX9_count_77 ?_
        refine gC_X9_129_19 X dX9_count_80 ?_
        exact z_iret X hr hlk dX9_count_83 h
      · obtain ⟨hx, -, h⟩ := z_eqd h
        rcases h with ⟨e0, h⟩ | ⟨n3, h⟩
        · refine z_tableIn (tgt := 84) Z dX9_count_1 hx (by omega) (by omega) (by rw [e0]; rfl) (by decide) ?_
          refine z_aload_n Z dX9_count_84 rfl 0 rfl ?_
          refine gC_X9_42_0 X dX9_count_85 ?_
          refine gC_X9_132_19 X dX9_count_88 ?_
          exact z_iret X hr hlk dX9_count_91 h
        · obtain ⟨hx, -, h⟩ := z_eqd h
          rcases h with ⟨e0, h⟩ | ⟨n4, h⟩
          · refine z_tableIn (tgt := 92) Z dX9_count_1 hx (by omega) (by omega) (by rw [e0]; rfl) (by decide) ?_
            refine z_aload_n Z dX9_count_92 rfl 0 rfl ?_
            refine gC_X9_42_0 X dX9_count_93 ?_
            refine gC_X9_135_19 X dX9_count_96 ?_
            exact z_iret X hr hlk dX9_count_99 h
          · obtain ⟨hx, -, h⟩ := z_eqd h
            rcases h with ⟨e0, h⟩ | ⟨n5, h⟩
            · refine z_tableIn (tgt := 100) Z dX9_count_1 hx (by omega) (by omega) (by rw [e0]; rfl) (by decide) ?_
              refine z_aload_n Z dX9_count_100 rfl 0 rfl ?_
              refine gC_X9_42_0 X dX9_count_101 ?_
              refine gC_X9_138_19 X dX9_count_104 ?_
              exact z_iret X hr hlk dX9_count_107 h
            · obtain ⟨hx, -, h⟩ := z_eqd h
              rcases h with ⟨e0, h⟩ | ⟨n6, h⟩
              · refine z_tableIn (tgt := 108) Z dX9_count_1 hx (by omega) (by omega) (by rw [e0]; rfl) (by decide) ?_
                refine z_aload_n Z dX9_count_108 rfl 0 rfl ?_
                refine gC_X9_42_0 X dX9_count_109 ?_
                refine gC_X9_141_19 X dX9_count_112 ?_
                exact z_iret X hr hlk dX9_count_115 h
              · obtain ⟨hx, -, h⟩ := z_eqd h
                rcases h with ⟨e0, h⟩ | ⟨n7, h⟩
                · refine z_tableIn (tgt := 116) Z dX9_count_1 hx (by omega) (by omega) (by rw [e0]; rfl) (by decide) ?_
                  refine z_aload_n Z dX9_count_116 rfl 0 rfl ?_
                  refine gC_X9_42_0 X dX9_count_117 ?_
                  obtain ⟨r_, M1, hf, h⟩ := z_cld h
                  refine z_callVi (Wd := wC cI cZ ad) X (c_X3_loose hf) ml_X9_144 yd_X3_loose yw_X3_loose (by omega) (by decide) (rC_19 X) rfl rfl (Nat.le_of_ble_eq_true rfl) ⟨Nat.zero_le _, Nat.zero_le _⟩ dX9_count_120 ?_
                  exact z_iret X hr hlk dX9_count_123 h
                · obtain ⟨hx, -, h⟩ := z_eqd h
                  rcases h with ⟨e0, h⟩ | ⟨n8, h⟩
                  · refine z_tableIn (tgt := 124) Z dX9_count_1 hx (by omega) (by omega) (by rw [e0]; rfl) (by decide) ?_
                    refine z_aload_n Z dX9_count_124 rfl 0 rfl ?_
                    refine gC_X9_74_0 X dX9_count_125 ?_
                    refine gC_X9_117_55 X dX9_count_128 ?_
                    exact z_iret X hr hlk dX9_count_131 h
                  · obtain ⟨hx, -, h⟩ := z_eqd h
                    rcases h with ⟨e0, h⟩ | ⟨n9, h⟩
                    · refine z_tableIn (tgt := 132) Z dX9_count_1 hx (by omega) (by omega) (by rw [e0]; rfl) (by decide) ?_
                      refine z_aload_n Z dX9_count_132 rfl 0 rfl ?_
                      refine gC_X9_42_0 X dX9_count_133 ?_
                      refine gC_X9_120_19 X dX9_count_136 ?_
                      exact z_iret X hr hlk dX9_count_139 h
                    · obtain ⟨hx, -, h⟩ := z_eqd h
                      rcases h with ⟨e0, h⟩ | ⟨n10, h⟩
                      · refine z_tableIn (tgt := 140) Z dX9_count_1 hx (by omega) (by omega) (by rw [e0]; rfl) (by decide) ?_
                        refine z_aload_n Z dX9_count_140 rfl 0 rfl ?_
                        refine gC_X9_23_0 X dX9_count_141 ?_
                        refine gC_X9_92_1 X dX9_count_144 ?_
                        exact z_iret X hr hlk dX9_count_147 h
                      · refine z_tableOut (tgt := 148) Z dX9_count_1 hx (by omega) (by decide) ?_
                        refine z_iconst Z dX9_count_148 ?_
                        exact z_iret X hr hlk dX9_count_149 h
set_option maxRecDepth 100000 in
set_option maxHeartbeats 4000000 in
theorem c_X3_isFixed {l : Launch} {D : va_G} {cI cZ : ClassId} {ad adK adV : Nat → Nat} {v1 : Int} {M M' : zMem} {r : Int} (h : Plan_isFixed v1 M = some (r, M')) : z_Ct (wC cI cZ ad) D cI cZ adK adV l yX3_isFixed cX3_isFixed 2 (some .boolean) 2 [.ref (ad 19), .int (z_I v1)] M M' (some (.int (z_I r))) := by
  unfold Plan_isFixed at h
  refine z_entry (own := RX3) rfl (by decide) (Nat.le_of_ble_eq_true rfl) ?_
  intro p e s m args below meth c R A X hr hlk
  have Z := X.1
  refine z_sub (lv' := [(0, .ref (ad 19)), (1, .int (z_I v1))]) [0, 1] rfl ?_
  refine z_aload_n Z dX3_isFixed_0 rfl 0 rfl ?_
  refine z_iload_n Z dX3_isFixed_1 rfl 1 rfl ?_
  obtain ⟨r_, M1, hf, h⟩ := z_cld h
  refine z_callVi (Wd := wC cI cZ ad) X (c_X3_isItem (Or.inr (rfl)) hf) ml_X3_81 yd_X3_isItem yw_X3_isItem (by omega) (by decide) (rC_19 X) rfl rfl (Nat.le_of_ble_eq_true rfl) ⟨Nat.zero_le _, Nat.zero_le _⟩ dX3_isFixed_2 ?_
  refine z_jnr (P := fun (k : zMem → zO) => ∀ (M2 : zMem), k M2 = some (r, M') → z_V p l e R s m args below meth c D A cI cZ 2 (wC cI cZ ad) M' (some (.int (z_I r))) M2 22 [] []) h ?_ ?_
  · intro M2 h
    refine z_iconst Z dX3_isFixed_22 ?_
    exact z_zret X hr hlk (Or.inl rfl) dX3_isFixed_23 h
  · intro k0 hk0 h
    refine z_if_eq (tgt := 22) Z dX3_isFixed_5 (by decide) h (fun h => ?_) (fun h => ?_)
    · refine z_sub [] rfl ?_
      exact hk0 M1 h
    · refine z_aload_n Z dX3_isFixed_8 rfl 0 rfl ?_
      refine gC_X3_46_19 X dX3_isFixed_9 ?_
      refine z_iload_n Z dX3_isFixed_12 rfl 1 rfl ?_
      refine ldC_21 X dX3_isFixed_13 h (fun x0 h => ?_)
      refine z_iconst Z dX3_isFixed_14 ?_
      refine z_icmp_eq (tgt := 22) Z dX3_isFixed_15 (by decide) h (fun h => ?_) (fun h => ?_)
      · refine z_sub [] rfl ?_
        exact hk0 M1 h
      · refine z_iconst Z dX3_isFixed_18 ?_
        refine z_goto (tgt := 23) Z dX3_isFixed_19 (by decide) ?_
        exact z_zret X hr hlk (Or.inr rfl) dX3_isFixed_23 h
set_option maxRecDepth 100000 in
set_option maxHeartbeats 4000000 in
theorem c_X9_item {l : Launch} {D : va_G} {cI cZ : ClassId} {ad adK adV : Nat → Nat} {v1 v2 : Int} {M M' : zMem} {r : Int} (h : Drum_item v1 v2 M = some (r, M')) : z_Ct (wC cI cZ ad) D cI cZ adK adV l yX9_item cX9_item 3 (some .int) 3 [.ref (ad 0), .int (z_I v1), .int (z_I v2)] M M' (some (.int (z_I r))) := by
  unfold Drum_item at h
  refine z_entry (own := RX9) rfl (by decide) (Nat.le_of_ble_eq_true rfl) ?_
  intro p e s m args below meth c R A X hr hlk
  have Z := X.1
  refine z_sub (lv' := [(0, .ref (ad 0)), (1, .int (z_I v1)), (2, .int (z_I v2))]) [0, 1, 2] rfl ?_
  refine z_aload_n Z dX9_item_0 rfl 0 rfl ?_
  refine gC_X9_42_0 X dX9_item_1 ?_
  refine z_iload_n Z dX9_item_4 rfl 1 rfl ?_
  obtain ⟨r_, M1, hf, h⟩ := z_cld h
  refine z_callVi (Wd := wC cI cZ ad) X (c_X3_isItem (Or.inr (rfl)) hf) ml_X9_148 yd_X3_isItem yw_X3_isItem (by omega) (by decide) (rC_19 X) rfl rfl (Nat.le_of_ble_eq_true rfl) ⟨Nat.zero_le _, Nat.zero_le _⟩ dX9_item_5 ?_
  refine z_if_ne (tgt := 14) Z dX9_item_8 (by decide) h (fun h => ?_) (fun h => ?_)
  · refine z_iload_n Z dX9_item_14 rfl 2 rfl ?_
    obtain ⟨hx, -, h⟩ := z_eqd h
    rcases h with ⟨e0, h⟩ | ⟨n0, h⟩
    · refine z_tableIn (tgt := 44) Z dX9_item_15 hx (by omega) (by omega) (by rw [e0]; rfl) (by decide) ?_
      refine z_aload_n Z dX9_item_44 rfl 0 rfl ?_
      refine gC_X9_42_0 X dX9_item_45 ?_
      refine z_iload_n Z dX9_item_48 rfl 1 rfl ?_
      obtain ⟨r_1, M2, hf1, h⟩ := z_cld h
      refine z_callVi (Wd := wC cI cZ ad) X (c_X3_isStep (Or.inr (rfl)) hf1) ml_X9_152 yd_X3_isStep yw_X3_isStep (by omega) (by decide) (rC_19 X) rfl rfl (Nat.le_of_ble_eq_true rfl) ⟨Nat.zero_le _, Nat.zero_le _⟩ dX9_item_49 ?_
      refine z_if_eq (tgt := 59) Z dX9_item_52 (by decide) h (fun h => ?_) (fun h => ?_)
      · refine z_iconst Z dX9_item_59 ?_
        exact z_iret X hr hlk dX9_item_60 h
      · refine z_iconst Z dX9_item_55 ?_
        refine z_goto (tgt := 60) Z dX9_item_56 (by decide) ?_
        exact z_iret X hr hlk dX9_item_60 h
    · obtain ⟨hx, -, h⟩ := z_eqd h
      rcases h with ⟨e0, h⟩ | ⟨n1, h⟩
      · refine z_tableIn (tgt := 61) Z dX9_item_15 hx (by omega) (by omega) (by rw [e0]; rfl) (by decide) ?_
        refine z_aload_n Z dX9_item_61 rfl 0 rfl ?_
        refine gC_X9_78_0 X dX9_item_62 ?_
        refine z_iload_n Z dX9_item_65 rfl 1 rfl ?_
        refine ldC_57 X dX9_item_66 h (fun x0 h => ?_)
        exact z_iret X hr hlk dX9_item_67 h
      · obtain ⟨hx, -, h⟩ := z_eqd h
        rcases h with ⟨e0, h⟩ | ⟨n2, h⟩
        · refine z_tableIn (tgt := 68) Z dX9_item_15 hx (by omega) (by omega) (by rw [e0]; rfl) (by decide) ?_
          refine z_aload_n Z dX9_item_68 rfl 0 rfl ?_
          refine gC_X9_42_0 X dX9_item_69 ?_
          refine z_iload_n Z dX9_item_72 rfl 1 rfl ?_
          obtain ⟨r_2, M3, hf2, h⟩ := z_cld h
          refine z_callVi (Wd := wC cI cZ ad) X (c_X3_isFixed hf2) ml_X9_155 yd_X3_isFixed yw_X3_isFixed (by omega) (by decide) (rC_19 X) rfl rfl (Nat.le_of_ble_eq_true rfl) ⟨Nat.zero_le _, Nat.zero_le _⟩ dX9_item_73 ?_
          refine z_if_eq (tgt := 83) Z dX9_item_76 (by decide) h (fun h => ?_) (fun h => ?_)
          · refine z_iconst Z dX9_item_83 ?_
            exact z_iret X hr hlk dX9_item_84 h
          · refine z_iconst Z dX9_item_79 ?_
            refine z_goto (tgt := 84) Z dX9_item_80 (by decide) ?_
            exact z_iret X hr hlk dX9_item_84 h
        · obtain ⟨hx, -, h⟩ := z_eqd h
          rcases h with ⟨e0, h⟩ | ⟨n3, h⟩
          · refine z_tableIn (tgt := 85) Z dX9_item_15 hx (by omega) (by omega) (by rw [e0]; rfl) (by decide) ?_
            refine z_aload_n Z dX9_item_85 rfl 0 rfl ?_
            refine gC_X9_42_0 X dX9_item_86 ?_
            refine gC_X9_158_19 X dX9_item_89 ?_
            refine z_iload_n Z dX9_item_92 rfl 1 rfl ?_
            refine ldC_20 X dX9_item_93 h (fun x1 h => ?_)
            exact z_iret X hr hlk dX9_item_94 h
          · refine z_tableOut (tgt := 95) Z dX9_item_15 hx (by omega) (by decide) ?_
            refine z_bipush Z dX9_item_95 rfl ?_
            exact z_iret X hr hlk dX9_item_97 h
  · refine z_bipush Z dX9_item_11 rfl ?_
    exact z_iret X hr hlk dX9_item_13 h
set_option maxRecDepth 100000 in
set_option maxHeartbeats 4000000 in
theorem wDrum_itemAt_2 {p : Program} {l : Launch} {e : Env} {R : Room} {s : State} {m : MethodId} {args : Array Value} {below : List Frame} {meth : Method} {c : Code} {D : va_G} {A : Nat → Prop} {cI cZ : ClassId} {adK adV ad : Nat → Nat} {r : Int} {M' : zMem} (X : z_X p m c cX9_itemAt 3 s args RX9 R 1 D cI cZ A adK adV) (hr : meth.sig.returnType = some .int) (hlk : meth.locks = false) (N : Nat) (v1 : Int) (k : zMem → zO) (hk : ∀ (M : zMem), k M = some (r, M') → z_V p l e R s m args below meth c D A cI cZ 3 (wC cI cZ ad) M' (some (.int (z_I r))) M 31 [] []) : ∀ (n : Nat) (v2 : Int) (M : zMem), Drum_itemAt_2 N v1 k n v2 M = some (r, M') → z_V p l e R s m args below meth c D A cI cZ 3 (wC cI cZ ad) M' (some (.int (z_I r))) M 2 [(0, .ref (ad 0)), (1, .int (z_I v1)), (2, .int (z_I v2))] [] := by
  have Z := X.1
  intro n
  induction n with
  | zero =>
    intro v2 M h
    rw [Drum_itemAt_2] at h
    cases h
  | succ n ih =>
    intro v2 M h
    rw [Drum_itemAt_2] at h
    refine z_iload_n Z dX9_itemAt_2 rfl 2 rfl ?_
    refine z_aload_n Z dX9_itemAt_3 rfl 0 rfl ?_
    refine gC_X9_42_0 X dX9_itemAt_4 ?_
    refine gC_X9_207_19 X dX9_itemAt_7 ?_
    refine z_icmp_ge (tgt := 31) Z dX9_itemAt_10 (by decide) h (fun h => ?_) (fun h => ?_)
    · refine z_sub [] rfl ?_
      exact hk M h
    · refine z_aload_n Z dX9_itemAt_13 rfl 0 rfl ?_
      refine gC_X9_78_0 X dX9_itemAt_14 ?_
      refine z_iload_n Z dX9_itemAt_17 rfl 2 rfl ?_
      refine ldC_57 X dX9_itemAt_18 h (fun x0 h => ?_)
      refine z_iload_n Z dX9_itemAt_19 rfl 1 rfl ?_
      refine z_icmp_ne (tgt := 25) Z dX9_itemAt_20 (by decide) h (fun h => ?_) (fun h => ?_)
      · refine z_iincn Z (fun z => [(2, .int (z_I z)), (0, .ref (ad 0)), (1, .int (z_I v1))]) dX9_itemAt_25 (k := 2) rfl (by decide) (fun _ => rfl) h (fun v2_ h => ?_)
        refine z_goto (tgt := 2) Z dX9_itemAt_28 (by decide) ?_
        refine z_sub [1, 2, 0] rfl ?_
        exact ih v2_ M h
      · refine z_iload_n Z dX9_itemAt_23 rfl 2 rfl ?_
        exact z_iret X hr hlk dX9_itemAt_24 h
set_option maxRecDepth 100000 in
set_option maxHeartbeats 4000000 in
theorem c_X9_itemAt {l : Launch} {D : va_G} {cI cZ : ClassId} {ad adK adV : Nat → Nat} {N : Nat} {v1 : Int} {M M' : zMem} {r : Int} (h : Drum_itemAt N v1 M = some (r, M')) : z_Ct (wC cI cZ ad) D cI cZ adK adV l yX9_itemAt cX9_itemAt 3 (some .int) 1 [.ref (ad 0), .int (z_I v1)] M M' (some (.int (z_I r))) := by
  unfold Drum_itemAt at h
  refine z_entry (own := RX9) rfl (by decide) (Nat.le_of_ble_eq_true rfl) ?_
  intro p e s m args below meth c R A X hr hlk
  have Z := X.1
  refine z_sub (lv' := [(0, .ref (ad 0)), (1, .int (z_I v1))]) [0, 1] rfl ?_
  refine z_iconst Z dX9_itemAt_0 ?_
  refine z_istore_n (lv' := [(2, .int (z_I 0)), (0, .ref (ad 0)), (1, .int (z_I v1))]) Z dX9_itemAt_1 rfl (by decide) rfl ?_
  refine z_jnr (P := fun (k : zMem → zO) => ∀ (M1 : zMem), k M1 = some (r, M') → z_V p l e R s m args below meth c D A cI cZ 3 (wC cI cZ ad) M' (some (.int (z_I r))) M1 31 [] []) h ?_ ?_
  · intro M1 h
    refine z_iconst Z dX9_itemAt_31 ?_
    exact z_iret X hr hlk dX9_itemAt_32 h
  · intro k0 hk0 h
    refine z_sub [1, 2, 0] rfl ?_
    exact wDrum_itemAt_2 X hr hlk N v1 k0 hk0 N 0 M h
set_option maxRecDepth 100000 in
set_option maxHeartbeats 4000000 in
theorem c_X9_at {l : Launch} {D : va_G} {cI cZ : ClassId} {ad adK adV : Nat → Nat} {N : Nat} {v1 : Int} {M M' : zMem} {r : Int} (h : Drum_at N v1 M = some (r, M')) : z_Ct (wC cI cZ ad) D cI cZ adK adV l yX9_at cX9_at 2 (some .int) 3 [.ref (ad 0), .int (z_I v1)] M M' (some (.int (z_I r))) := by
  unfold Drum_at at h
  refine z_entry (own := RX9) rfl (by decide) (Nat.le_of_ble_eq_true rfl) ?_
  intro p e s m args below meth c R A X hr hlk
  have Z := X.1
  refine z_sub (lv' := [(0, .ref (ad 0)), (1, .int (z_I v1))]) [0, 1] rfl ?_
  refine z_aload_n Z dX9_at_0 rfl 0 rfl ?_
  refine gC_X9_42_0 X dX9_at_1 ?_
  refine z_iload_n Z dX9_at_4 rfl 1 rfl ?_
  obtain ⟨r_, M1, hf, h⟩ := z_cld h
  refine z_callVi (Wd := wC cI cZ ad) X (c_X3_isAddress hf) ml_X9_161 yd_X3_isAddress yw_X3_isAddress (by omega) (by decide) (rC_19 X) rfl rfl (Nat.le_of_ble_eq_true rfl) ⟨Nat.zero_le _, Nat.zero_le _⟩ dX9_at_5 ?_
  refine z_if_eq (tgt := 19) Z dX9_at_8 (by decide) h (fun h => ?_) (fun h => ?_)
  · refine z_bipush Z dX9_at_19 rfl ?_
    exact z_iret X hr hlk dX9_at_21 h
  · refine z_aload_n Z dX9_at_11 rfl 0 rfl ?_
    refine z_iload_n Z dX9_at_12 rfl 1 rfl ?_
    obtain ⟨r_1, M2, hf1, h⟩ := z_cld h
    refine z_callVi (Wd := wC cI cZ ad) X (c_X9_itemAt hf1) ml_X9_164 yd_X9_itemAt yw_X9_itemAt (by omega) (by decide) (rC_0 X) rfl rfl (Nat.le_of_ble_eq_true rfl) ⟨Nat.zero_le _, Nat.zero_le _⟩ dX9_at_13 ?_
    refine z_goto (tgt := 21) Z dX9_at_16 (by decide) ?_
    exact z_iret X hr hlk dX9_at_21 h
set_option maxRecDepth 100000 in
set_option maxHeartbeats 4000000 in
theorem c_X9_steps {l : Launch} {D : va_G} {cI cZ : ClassId} {ad adK adV : Nat → Nat} {M M' : zMem} {r : Int} (h : Drum_steps M = some (r, M')) : z_Ct (wC cI cZ ad) D cI cZ adK adV l yX9_steps cX9_steps 1 (some .int) 1 [.ref (ad 0)] M M' (some (.int (z_I r))) := by
  unfold Drum_steps at h
  refine z_entry (own := RX9) rfl (by decide) (Nat.le_of_ble_eq_true rfl) ?_
  intro p e s m args below meth c R A X hr hlk
  have Z := X.1
  refine z_sub (lv' := [(0, .ref (ad 0))]) [0] rfl ?_
  refine z_aload_n Z dX9_steps_0 rfl 0 rfl ?_
  refine gC_X9_42_0 X dX9_steps_1 ?_
  refine gC_X9_141_19 X dX9_steps_4 ?_
  refine z_if_le (tgt := 20) Z dX9_steps_7 (by decide) h (fun h => ?_) (fun h => ?_)
  · refine z_bipush Z dX9_steps_20 rfl ?_
    exact z_iret X hr hlk dX9_steps_22 h
  · refine z_aload_n Z dX9_steps_10 rfl 0 rfl ?_
    refine gC_X9_45_0 X dX9_steps_11 ?_
    refine gC_X9_168_28 X dX9_steps_14 ?_
    refine z_goto (tgt := 22) Z dX9_steps_17 (by decide) ?_
    exact z_iret X hr hlk dX9_steps_22 h
set_option maxRecDepth 100000 in
set_option maxHeartbeats 4000000 in
theorem c_X9_why {l : Launch} {D : va_G} {cI cZ : ClassId} {ad adK adV : Nat → Nat} {M M' : zMem} {r : Int} (h : Drum_why M = some (r, M')) : z_Ct (wC cI cZ ad) D cI cZ adK adV l yX9_why cX9_why 1 (some .int) 1 [.ref (ad 0)] M M' (some (.int (z_I r))) := by
  unfold Drum_why at h
  refine z_entry (own := RX9) rfl (by decide) (Nat.le_of_ble_eq_true rfl) ?_
  intro p e s m args below meth c R A X hr hlk
  have Z := X.1
  refine z_sub (lv' := [(0, .ref (ad 0))]) [0] rfl ?_
  refine z_aload_n Z dX9_why_0 rfl 0 rfl ?_
  refine gC_X9_42_0 X dX9_why_1 ?_
  refine gC_X9_141_19 X dX9_why_4 ?_
  refine z_if_le (tgt := 20) Z dX9_why_7 (by decide) h (fun h => ?_) (fun h => ?_)
  · refine z_bipush Z dX9_why_20 rfl ?_
    exact z_iret X hr hlk dX9_why_22 h
  · refine z_aload_n Z dX9_why_10 rfl 0 rfl ?_
    refine gC_X9_45_0 X dX9_why_11 ?_
    refine gC_X9_171_28 X dX9_why_14 ?_
    refine z_goto (tgt := 22) Z dX9_why_17 (by decide) ?_
    exact z_iret X hr hlk dX9_why_22 h
set_option maxRecDepth 100000 in
set_option maxHeartbeats 4000000 in
theorem c_X9_acc {l : Launch} {D : va_G} {cI cZ : ClassId} {ad adK adV : Nat → Nat} {M M' : zMem} {r : Int} (h : Drum_acc M = some (r, M')) : z_Ct (wC cI cZ ad) D cI cZ adK adV l yX9_acc cX9_acc 1 (some .int) 1 [.ref (ad 0)] M M' (some (.int (z_I r))) := by
  unfold Drum_acc at h
  refine z_entry (own := RX9) rfl (by decide) (Nat.le_of_ble_eq_true rfl) ?_
  intro p e s m args below meth c R A X hr hlk
  have Z := X.1
  refine z_sub (lv' := [(0, .ref (ad 0))]) [0] rfl ?_
  refine z_aload_n Z dX9_acc_0 rfl 0 rfl ?_
  refine gC_X9_42_0 X dX9_acc_1 ?_
  refine gC_X9_141_19 X dX9_acc_4 ?_
  refine z_if_le (tgt := 20) Z dX9_acc_7 (by decide) h (fun h => ?_) (fun h => ?_)
  · refine z_sipush Z dX9_acc_20 rfl ?_
    exact z_iret X hr hlk dX9_acc_23 h
  · refine z_aload_n Z dX9_acc_10 rfl 0 rfl ?_
    refine gC_X9_45_0 X dX9_acc_11 ?_
    refine gC_X9_174_28 X dX9_acc_14 ?_
    refine z_goto (tgt := 23) Z dX9_acc_17 (by decide) ?_
    exact z_iret X hr hlk dX9_acc_23 h
set_option maxRecDepth 100000 in
set_option maxHeartbeats 4000000 in
theorem c_X9_value {l : Launch} {D : va_G} {cI cZ : ClassId} {ad adK adV : Nat → Nat} {v1 : Int} {M M' : zMem} {r : Int} (h : Drum_value v1 M = some (r, M')) : z_Ct (wC cI cZ ad) D cI cZ adK adV l yX9_value cX9_value 2 (some .int) 3 [.ref (ad 0), .int (z_I v1)] M M' (some (.int (z_I r))) := by
  unfold Drum_value at h
  refine z_entry (own := RX9) rfl (by decide) (Nat.le_of_ble_eq_true rfl) ?_
  intro p e s m args below meth c R A X hr hlk
  have Z := X.1
  refine z_sub (lv' := [(0, .ref (ad 0)), (1, .int (z_I v1))]) [0, 1] rfl ?_
  refine z_aload_n Z dX9_value_0 rfl 0 rfl ?_
  refine gC_X9_42_0 X dX9_value_1 ?_
  refine gC_X9_141_19 X dX9_value_4 ?_
  refine z_jnr (P := fun (k : zMem → zO) => ∀ (M1 : zMem), k M1 = some (r, M') → z_V p l e R s m args below meth c D A cI cZ 2 (wC cI cZ ad) M' (some (.int (z_I r))) M1 33 [] []) h ?_ ?_
  · intro M1 h
    refine z_sipush Z dX9_value_33 rfl ?_
    exact z_iret X hr hlk dX9_value_36 h
  · intro k0 hk0 h
    refine z_if_le (tgt := 33) Z dX9_value_7 (by decide) h (fun h => ?_) (fun h => ?_)
    · refine z_sub [] rfl ?_
      exact hk0 M h
    · refine z_aload_n Z dX9_value_10 rfl 0 rfl ?_
      refine gC_X9_42_0 X dX9_value_11 ?_
      refine z_iload_n Z dX9_value_14 rfl 1 rfl ?_
      obtain ⟨r_, M2, hf, h⟩ := z_cld h
      refine z_callVi (Wd := wC cI cZ ad) X (c_X3_isWord (Or.inr (rfl)) hf) ml_X9_177 yd_X3_isWord yw_X3_isWord (by omega) (by decide) (rC_19 X) rfl rfl (Nat.le_of_ble_eq_true rfl) ⟨Nat.zero_le _, Nat.zero_le _⟩ dX9_value_15 ?_
      refine z_if_eq (tgt := 33) Z dX9_value_18 (by decide) h (fun h => ?_) (fun h => ?_)
      · refine z_sub [] rfl ?_
        exact hk0 M2 h
      · refine z_aload_n Z dX9_value_21 rfl 0 rfl ?_
        refine gC_X9_45_0 X dX9_value_22 ?_
        refine gC_X9_180_28 X dX9_value_25 ?_
        refine z_iload_n Z dX9_value_28 rfl 1 rfl ?_
        refine ldC_29 X dX9_value_29 h (fun x0 h => ?_)
        refine z_goto (tgt := 36) Z dX9_value_30 (by decide) ?_
        exact z_iret X hr hlk dX9_value_36 h
set_option maxRecDepth 100000 in
set_option maxHeartbeats 4000000 in
theorem c_X1_whenOf {l : Launch} {D : va_G} {cI cZ : ClassId} {ad adK adV : Nat → Nat} {v1 : Int} {M M' : zMem} {r : Int} (h : Clock_whenOf v1 M = some (r, M')) : z_Ct (wC cI cZ ad) D cI cZ adK adV l yX1_whenOf cX1_whenOf 2 (some .int) 1 [.ref (ad 41), .int (z_I v1)] M M' (some (.int (z_I r))) := by
  unfold Clock_whenOf at h
  refine z_entry (own := RX1) rfl (by decide) (Nat.le_of_ble_eq_true rfl) ?_
  intro p e s m args below meth c R A X hr hlk
  have Z := X.1
  refine z_sub (lv' := [(0, .ref (ad 41)), (1, .int (z_I v1))]) [0, 1] rfl ?_
  refine z_iload_n Z dX1_whenOf_0 rfl 1 rfl ?_
  refine z_jnr (P := fun (k : zMem → zO) => ∀ (M1 : zMem), k M1 = some (r, M') → z_V p l e R s m args below meth c D A cI cZ 2 (wC cI cZ ad) M' (some (.int (z_I r))) M1 24 [] []) h ?_ ?_
  · intro M1 h
    refine z_iconst Z dX1_whenOf_24 ?_
    exact z_iret X hr hlk dX1_whenOf_25 h
  · intro k0 hk0 h
    refine z_if_lt (tgt := 24) Z dX1_whenOf_1 (by decide) h (fun h => ?_) (fun h => ?_)
    · refine z_sub [] rfl ?_
      exact hk0 M h
    · refine z_iload_n Z dX1_whenOf_4 rfl 1 rfl ?_
      refine z_aload_n Z dX1_whenOf_5 rfl 0 rfl ?_
      refine gC_X1_28_41 X dX1_whenOf_6 ?_
      refine gC_X1_54_28 X dX1_whenOf_9 ?_
      refine z_icmp_ge (tgt := 24) Z dX1_whenOf_12 (by decide) h (fun h => ?_) (fun h => ?_)
      · refine z_sub [] rfl ?_
        exact hk0 M h
      · refine z_aload_n Z dX1_whenOf_15 rfl 0 rfl ?_
        refine gC_X1_18_41 X dX1_whenOf_16 ?_
        refine z_iload_n Z dX1_whenOf_19 rfl 1 rfl ?_
        refine ldC_44 X dX1_whenOf_20 h (fun x0 h => ?_)
        refine z_goto (tgt := 25) Z dX1_whenOf_21 (by decide) ?_
        exact z_iret X hr hlk dX1_whenOf_25 h
set_option maxRecDepth 100000 in
set_option maxHeartbeats 4000000 in
theorem c_X1_turnAt {l : Launch} {D : va_G} {cI cZ : ClassId} {ad adK adV : Nat → Nat} {v1 v2 : Int} {M M' : zMem} {r : Int} (h : Clock_turnAt v1 v2 M = some (r, M')) : z_Ct (wC cI cZ ad) D cI cZ adK adV l yX1_turnAt cX1_turnAt 4 (some .int) 1 [.ref (ad 41), .int (z_I v1), .int (z_I v2)] M M' (some (.int (z_I r))) := by
  unfold Clock_turnAt at h
  refine z_entry (own := RX1) rfl (by decide) (Nat.le_of_ble_eq_true rfl) ?_
  intro p e s m args below meth c R A X hr hlk
  have Z := X.1
  refine z_sub (lv' := [(0, .ref (ad 41)), (1, .int (z_I v1)), (2, .int (z_I v2))]) [0, 1, 2] rfl ?_
  refine z_iload_n Z dX1_turnAt_0 rfl 1 rfl ?_
  refine z_aload_n Z dX1_turnAt_1 rfl 0 rfl ?_
  refine gC_X1_24_41 X dX1_turnAt_2 ?_
  refine gC_X1_78_19 X dX1_turnAt_5 ?_
  refine z_iconst Z dX1_turnAt_8 ?_
  refine z_isub Z dX1_turnAt_9 ?_
  refine z_aload_n Z dX1_turnAt_10 rfl 0 rfl ?_
  refine gC_X1_24_41 X dX1_turnAt_11 ?_
  refine gC_X1_81_19 X dX1_turnAt_14 ?_
  refine z_imul Z dX1_turnAt_17 ?_
  refine z_jnr (P := fun (k : Int → zMem → zO) => ∀ (x0 : Int) (M1 : zMem), k x0 M1 = some (r, M') → z_V p l e R s m args below meth c D A cI cZ 4 (wC cI cZ ad) M' (some (.int (z_I r))) M1 26 [(0, .ref (ad 41)), (2, .int (z_I v2))] [.int (z_I x0)]) h ?_ ?_
  · intro x0 M1 h
    refine z_istore_n (lv' := [(3, .int (z_I x0)), (0, .ref (ad 41)), (2, .int (z_I v2))]) Z dX1_turnAt_26 rfl (by decide) rfl ?_
    refine z_iload_n Z dX1_turnAt_27 rfl 0 rfl ?_
    refine z_jnr (P := fun (k : zMem → zO) => ∀ (M2 : zMem), k M2 = some (r, M') → z_V p l e R s m args below meth c D A cI cZ 4 (wC cI cZ ad) M' (some (.int (z_I r))) M2 39 [(0, .ref (ad 41))] []) h ?_ ?_
    · intro M2 h
      refine z_aload_n Z dX1_turnAt_39 rfl 0 rfl ?_
      refine gC_X1_24_41 X dX1_turnAt_40 ?_
      refine gC_X1_81_19 X dX1_turnAt_43 ?_
      exact z_iret X hr hlk dX1_turnAt_46 h
    · intro k1 hk1 h
      refine z_if_eq (tgt := 39) Z dX1_turnAt_28 (by decide) h (fun h => ?_) (fun h => ?_)
      · refine z_sub [1] rfl ?_
        exact hk1 M1 h
      · refine z_iload_n Z dX1_turnAt_31 rfl 2 rfl ?_
        refine z_if_le (tgt := 39) Z dX1_turnAt_32 (by decide) h (fun h => ?_) (fun h => ?_)
        · refine z_sub [1] rfl ?_
          exact hk1 M1 h
        · refine z_iload_n Z dX1_turnAt_35 rfl 2 rfl ?_
          refine z_goto (tgt := 46) Z dX1_turnAt_36 (by decide) ?_
          exact z_iret X hr hlk dX1_turnAt_46 h
  · intro k0 hk0 h
    refine z_icmp_lt (tgt := 25) Z dX1_turnAt_18 (by decide) h (fun h => ?_) (fun h => ?_)
    · refine z_iconst Z dX1_turnAt_25 ?_
      refine z_sub [0, 2] rfl ?_
      exact hk0 0 M h
    · refine z_iconst Z dX1_turnAt_21 ?_
      refine z_goto (tgt := 26) Z dX1_turnAt_22 (by decide) ?_
      refine z_sub [0, 2] rfl ?_
      exact hk0 1 M h
set_option maxRecDepth 100000 in
set_option maxHeartbeats 4000000 in
theorem c_X1_aimItem {l : Launch} {D : va_G} {cI cZ : ClassId} {ad adK adV : Nat → Nat} {v1 v2 v3 : Int} {M M' : zMem} {r : Int} (h : Clock_aimItem v1 v2 v3 M = some (r, M')) : z_Ct (wC cI cZ ad) D cI cZ adK adV l yX1_aimItem cX1_aimItem 5 none 2 [.ref (ad 41), .int (z_I v1), .int (z_I v2), .int (z_I v3)] M M' none := by
  unfold Clock_aimItem at h
  refine z_entry (own := RX1) rfl (by decide) (Nat.le_of_ble_eq_true rfl) ?_
  intro p e s m args below meth c R A X hr hlk
  have Z := X.1
  refine z_sub (lv' := [(0, .ref (ad 41)), (1, .int (z_I v1)), (2, .int (z_I v2)), (3, .int (z_I v3))]) [0, 1, 2, 3] rfl ?_
  refine z_aload_n Z dX1_aimItem_0 rfl 0 rfl ?_
  refine z_iload_n Z dX1_aimItem_1 rfl 2 rfl ?_
  refine z_iload_n Z dX1_aimItem_2 rfl 3 rfl ?_
  obtain ⟨r_, M1, hf, h⟩ := z_cld h
  refine z_callVi (Wd := wC cI cZ ad) X (c_X1_turnAt hf) ml_X1_50 yd_X1_turnAt yw_X1_turnAt (by omega) (by decide) (rC_41 X) rfl rfl (Nat.le_of_ble_eq_true rfl) ⟨Nat.zero_le _, Nat.zero_le _⟩ dX1_aimItem_3 ?_
  refine z_istore (lv' := [(4, .int (z_I r_)), (0, .ref (ad 41)), (1, .int (z_I v1)), (2, .int (z_I v2)), (3, .int (z_I v3))]) Z dX1_aimItem_6 (by decide) rfl ?_
  refine z_aload_n Z dX1_aimItem_8 rfl 1 rfl ?_
  refine gC_X1_9_41 X dX1_aimItem_9 ?_
  refine z_iload_n Z dX1_aimItem_12 rfl 2 rfl ?_
  refine z_iload Z dX1_aimItem_13 0 rfl ?_
  refine srC_42 X dX1_aimItem_15 h (fun M2 h => ?_)
  refine z_aload_n Z dX1_aimItem_16 rfl 1 rfl ?_
  refine gC_X1_15_41 X dX1_aimItem_17 ?_
  refine z_iload_n Z dX1_aimItem_20 rfl 2 rfl ?_
  refine z_iload Z dX1_aimItem_21 0 rfl ?_
  refine z_jnr (P := fun (k : Int → Int → zMem → zO) => ∀ (x0 x1 : Int) (M3 : zMem), k x0 x1 M3 = some (r, M') → z_V p l e R s m args below meth c D A cI cZ 5 (wC cI cZ ad) M' none M3 34 [] [.int (z_I x0), .int (z_I x1), .ref (ad 43)]) h ?_ ?_
  · intro x0 x1 M3 h
    refine srC_43 X dX1_aimItem_34 h (fun M4 h => ?_)
    exact z_vret X hr hlk dX1_aimItem_35 h
  · intro k0 hk0 h
    refine z_if_le (tgt := 33) Z dX1_aimItem_23 (by decide) h (fun h => ?_) (fun h => ?_)
    · refine z_iconst Z dX1_aimItem_33 ?_
      refine z_sub [] rfl ?_
      exact hk0 0 v1 M2 h
    · refine z_iload_n Z dX1_aimItem_26 rfl 3 rfl ?_
      refine z_iload Z dX1_aimItem_27 0 rfl ?_
      refine z_iremt Z dX1_aimItem_29 h (fun x2 h => ?_)
      refine z_goto (tgt := 34) Z dX1_aimItem_30 (by decide) ?_
      refine z_sub [] rfl ?_
      exact hk0 x2 v1 M2 h
