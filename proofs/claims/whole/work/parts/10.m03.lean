/-! the machine does what the pure programs say -/
set_option maxRecDepth 100000 in
set_option maxHeartbeats 4000000 in
theorem wLaws_laySoonest_9 {p : Program} {l : Launch} {e : Env} {R : Room} {s : State} {m : MethodId} {args : Array Value} {below : List Frame} {meth : Method} {c : Code} {D : va_G} {A : Nat → Prop} {cI cZ : ClassId} {adK adV ad : Nat → Nat} {r : Int} {M' : zMem} {ca : Nat} (X : z_X p m c cX2_laySoonest 6 s args RX2 R 5 D cI cZ A adK adV) (hr : meth.sig.returnType = none) (hlk : meth.locks = false) (hcell : ca = 58 ∨ ca = 57) (N : Nat) (k : zMem → zO) (hk : ∀ (M : zMem), k M = some (r, M') → z_V p l e R s m args below meth c D A cI cZ 6 (wC cI cZ ad) M' none M 124 [(0, .ref (ad 46)), (1, .ref (ad ca))] []) : ∀ (n : Nat) (v2 v3 : Int) (M : zMem), Laws_laySoonest_9 N ca k n v2 v3 M = some (r, M') → z_V p l e R s m args below meth c D A cI cZ 6 (wC cI cZ ad) M' none M 9 [(0, .ref (ad 46)), (1, .ref (ad ca)), (2, .int (z_I v2)), (3, .int (z_I v3))] [] := by
  rcases hcell with rfl | rfl
  · have Z := X.1
    intro n
    induction n with
    | zero =>
      intro v2 v3 M h
      rw [Laws_laySoonest_9] at h
      cases h
    | succ n ih =>
      intro v2 v3 M h
      rw [Laws_laySoonest_9] at h
      refine z_iload_n Z dX2_laySoonest_9 rfl 3 rfl ?_
      refine z_aload_n Z dX2_laySoonest_10 rfl 0 rfl ?_
      refine gC_X2_19_46 X dX2_laySoonest_11 ?_
      refine gC_X2_34_28 X dX2_laySoonest_14 ?_
      refine z_icmp_ge (tgt := 124) Z dX2_laySoonest_17 (by decide) h (fun h => ?_) (fun h => ?_)
      · refine z_sub [0, 1] rfl ?_
        exact hk M h
      · refine z_aload_n Z dX2_laySoonest_20 rfl 0 rfl ?_
        refine gC_X2_19_46 X dX2_laySoonest_21 ?_
        refine gC_X2_40_28 X dX2_laySoonest_24 ?_
        refine z_iload_n Z dX2_laySoonest_27 rfl 3 rfl ?_
        refine ldC_35 X dX2_laySoonest_28 h (fun x0 h => ?_)
        refine z_istore (lv' := [(4, .int (z_I x0)), (0, .ref (ad 46)), (1, .ref (ad 58)), (2, .int (z_I v2)), (3, .int (z_I v3))]) Z dX2_laySoonest_29 (by decide) rfl ?_
        refine z_aload_n Z dX2_laySoonest_31 rfl 2 rfl ?_
        refine z_iload Z dX2_laySoonest_32 0 rfl ?_
        refine ldC_58 X dX2_laySoonest_34 h (fun x1 h => ?_)
        refine z_iconst Z dX2_laySoonest_35 ?_
        refine z_jnr (P := fun (k : zMem → zO) => ∀ (M1 : zMem), k M1 = some (r, M') → z_V p l e R s m args below meth c D A cI cZ 6 (wC cI cZ ad) M' none M1 51 [(0, .ref (ad 46)), (1, .ref (ad 58)), (2, .int (z_I v2)), (3, .int (z_I v3)), (4, .int (z_I x0))] []) h ?_ ?_
        · intro M1 h
          refine z_aload_n Z dX2_laySoonest_51 rfl 0 rfl ?_
          refine gC_X2_19_46 X dX2_laySoonest_52 ?_
          refine gC_X2_52_28 X dX2_laySoonest_55 ?_
          refine z_iload_n Z dX2_laySoonest_58 rfl 3 rfl ?_
          refine ldC_36 X dX2_laySoonest_59 h (fun x2 h => ?_)
          refine z_istore (lv' := [(5, .int (z_I x2)), (0, .ref (ad 46)), (1, .ref (ad 58)), (2, .int (z_I v2)), (3, .int (z_I v3)), (4, .int (z_I x0))]) Z dX2_laySoonest_60 (by decide) rfl ?_
          refine z_iload_n Z dX2_laySoonest_62 rfl 3 rfl ?_
          refine z_aload_n Z dX2_laySoonest_63 rfl 1 rfl ?_
          refine gC_X2_23_46 X dX2_laySoonest_64 ?_
          refine z_iload_n Z dX2_laySoonest_67 rfl 3 rfl ?_
          refine z_aload_n Z dX2_laySoonest_68 rfl 2 rfl ?_
          refine z_iload Z dX2_laySoonest_69 5 rfl ?_
          refine ldC_58 X dX2_laySoonest_71 h (fun x3 h => ?_)
          obtain ⟨r_, M2, hf, h⟩ := z_cld h
          refine z_callVi (Wd := wC cI cZ ad) X (c_X1_lostAt hf) ml_X2_55 yd_X1_lostAt yw_X1_lostAt (by omega) (by decide) (rC_41 X) rfl rfl (Nat.le_of_ble_eq_true rfl) ⟨Nat.zero_le _, Nat.zero_le _⟩ dX2_laySoonest_72 ?_
          refine z_iconst Z dX2_laySoonest_75 ?_
          refine z_iadd Z dX2_laySoonest_76 ?_
          refine z_iadd Z dX2_laySoonest_77 ?_
          refine z_nmI h (fun v2_ h => ?_)
          refine z_istore_n (lv' := [(2, .int (z_I v2_)), (5, .int (z_I x2)), (0, .ref (ad 46)), (1, .ref (ad 58)), (3, .int (z_I v3)), (4, .int (z_I x0))]) Z dX2_laySoonest_78 rfl (by decide) rfl ?_
          refine z_iload_n Z dX2_laySoonest_79 rfl 0 rfl ?_
          refine z_iload Z dX2_laySoonest_80 1 rfl ?_
          refine z_jnr (P := fun (k : Int → Int → zMem → zO) => ∀ (x4 x5 : Int) (M3 : zMem), k x4 x5 M3 = some (r, M') → z_V p l e R s m args below meth c D A cI cZ 6 (wC cI cZ ad) M' none M3 96 [(0, .ref (ad 46)), (1, .ref (ad 58)), (3, .int (z_I v3)), (5, .int (z_I x2))] [.int (z_I x4), .int (z_I x5)]) h ?_ ?_
          · intro x4 x5 M3 h
            refine z_iadd Z dX2_laySoonest_96 ?_
            refine z_nmI h (fun v2_1 h => ?_)
            refine z_istore_n (lv' := [(2, .int (z_I v2_1)), (0, .ref (ad 46)), (1, .ref (ad 58)), (3, .int (z_I v3)), (5, .int (z_I x2))]) Z dX2_laySoonest_97 rfl (by decide) rfl ?_
            refine z_iload_n Z dX2_laySoonest_98 rfl 0 rfl ?_
            refine z_iload Z dX2_laySoonest_99 4 rfl ?_
            refine z_iconst Z dX2_laySoonest_101 ?_
            refine z_jnr (P := fun (k : Int → Int → zMem → zO) => ∀ (x6 x7 : Int) (M4 : zMem), k x6 x7 M4 = some (r, M') → z_V p l e R s m args below meth c D A cI cZ 6 (wC cI cZ ad) M' none M4 116 [(0, .ref (ad 46)), (1, .ref (ad 58)), (3, .int (z_I v3))] [.int (z_I x6), .int (z_I x7)]) h ?_ ?_
            · intro x6 x7 M4 h
              refine z_iadd Z dX2_laySoonest_116 ?_
              refine z_nmI h (fun v2_2 h => ?_)
              refine z_istore_n (lv' := [(2, .int (z_I v2_2)), (0, .ref (ad 46)), (1, .ref (ad 58)), (3, .int (z_I v3))]) Z dX2_laySoonest_117 rfl (by decide) rfl ?_
              refine z_iincn Z (fun z => [(3, .int (z_I z)), (2, .int (z_I v2_2)), (0, .ref (ad 46)), (1, .ref (ad 58))]) dX2_laySoonest_118 (k := 3) rfl (by decide) (fun _ => rfl) h (fun v3_ h => ?_)
              refine z_goto (tgt := 9) Z dX2_laySoonest_121 (by decide) ?_
              refine z_sub [2, 3, 1, 0] rfl ?_
              exact ih v2_2 v3_ M4 h
            · intro k3 hk3 h
              refine z_icmp_ne (tgt := 115) Z dX2_laySoonest_102 (by decide) h (fun h => ?_) (fun h => ?_)
              · refine z_iconst Z dX2_laySoonest_115 ?_
                refine z_sub [1, 2, 3] rfl ?_
                exact hk3 0 v2_1 M3 h
              · refine z_aload_n Z dX2_laySoonest_105 rfl 1 rfl ?_
                refine gC_X2_15_46 X dX2_laySoonest_106 ?_
                refine gC_X2_66_19 X dX2_laySoonest_109 ?_
                refine z_goto (tgt := 116) Z dX2_laySoonest_112 (by decide) ?_
                refine z_sub [1, 2, 3] rfl ?_
                exact hk3 (M3 19 4) v2_1 M3 h
          · intro k2 hk2 h
            refine z_if_ne (tgt := 95) Z dX2_laySoonest_82 (by decide) h (fun h => ?_) (fun h => ?_)
            · refine z_iconst Z dX2_laySoonest_95 ?_
              refine z_sub [2, 3, 4, 1] rfl ?_
              exact hk2 0 v2_ M2 h
            · refine z_aload_n Z dX2_laySoonest_85 rfl 2 rfl ?_
              refine gC_X2_15_46 X dX2_laySoonest_86 ?_
              refine gC_X2_61_19 X dX2_laySoonest_89 ?_
              refine z_goto (tgt := 96) Z dX2_laySoonest_92 (by decide) ?_
              refine z_sub [2, 3, 4, 1] rfl ?_
              exact hk2 (M2 19 2) v2_ M2 h
        · intro k1 hk1 h
          refine z_icmp_ne (tgt := 51) Z dX2_laySoonest_36 (by decide) h (fun h => ?_) (fun h => ?_)
          · refine z_sub [1, 2, 3, 4, 0] rfl ?_
            exact hk1 M h
          · refine z_aload_n Z dX2_laySoonest_39 rfl 1 rfl ?_
            refine z_aload_n Z dX2_laySoonest_40 rfl 2 rfl ?_
            refine z_iload Z dX2_laySoonest_41 0 rfl ?_
            refine z_aload_n Z dX2_laySoonest_43 rfl 1 rfl ?_
            refine z_iload_n Z dX2_laySoonest_44 rfl 3 rfl ?_
            obtain ⟨r_1, M5, hf1, h⟩ := z_cld h
            refine z_callVi (Wd := wC cI cZ ad) X (c_X2_soonest hf1) ml_X2_44 yd_X2_soonest yw_X2_soonest (by omega) (by decide) (rC_46 X) rfl rfl (Nat.le_of_ble_eq_true rfl) ⟨Nat.zero_le _, Nat.zero_le _⟩ dX2_laySoonest_45 ?_
            obtain ⟨u_, M6, hf2, h⟩ := z_cld h
            refine z_callVv (Wd := wC cI cZ ad) X (c_X2_lay (Or.inr (rfl)) hf2) ml_X2_48 yd_X2_lay yw_X2_lay (by omega) (by decide) (rC_46 X) rfl rfl (Nat.le_of_ble_eq_true rfl) ⟨Nat.zero_le _, Nat.zero_le _⟩ dX2_laySoonest_48 ?_
            refine z_sub [1, 2, 3, 4, 0] rfl ?_
            exact hk1 M6 h
  · have Z := X.1
    intro n
    induction n with
    | zero =>
      intro v2 v3 M h
      rw [Laws_laySoonest_9] at h
      cases h
    | succ n ih =>
      intro v2 v3 M h
      rw [Laws_laySoonest_9] at h
      refine z_iload_n Z dX2_laySoonest_9 rfl 3 rfl ?_
      refine z_aload_n Z dX2_laySoonest_10 rfl 0 rfl ?_
      refine gC_X2_19_46 X dX2_laySoonest_11 ?_
      refine gC_X2_34_28 X dX2_laySoonest_14 ?_
      refine z_icmp_ge (tgt := 124) Z dX2_laySoonest_17 (by decide) h (fun h => ?_) (fun h => ?_)
      · refine z_sub [0, 1] rfl ?_
        exact hk M h
      · refine z_aload_n Z dX2_laySoonest_20 rfl 0 rfl ?_
        refine gC_X2_19_46 X dX2_laySoonest_21 ?_
        refine gC_X2_40_28 X dX2_laySoonest_24 ?_
        refine z_iload_n Z dX2_laySoonest_27 rfl 3 rfl ?_
        refine ldC_35 X dX2_laySoonest_28 h (fun x0 h => ?_)
        refine z_istore (lv' := [(4, .int (z_I x0)), (0, .ref (ad 46)), (1, .ref (ad 57)), (2, .int (z_I v2)), (3, .int (z_I v3))]) Z dX2_laySoonest_29 (by decide) rfl ?_
        refine z_aload_n Z dX2_laySoonest_31 rfl 2 rfl ?_
        refine z_iload Z dX2_laySoonest_32 0 rfl ?_
        refine ldC_57 X dX2_laySoonest_34 h (fun x1 h => ?_)
        refine z_iconst Z dX2_laySoonest_35 ?_
        refine z_jnr (P := fun (k : zMem → zO) => ∀ (M1 : zMem), k M1 = some (r, M') → z_V p l e R s m args below meth c D A cI cZ 6 (wC cI cZ ad) M' none M1 51 [(0, .ref (ad 46)), (1, .ref (ad 57)), (2, .int (z_I v2)), (3, .int (z_I v3)), (4, .int (z_I x0))] []) h ?_ ?_
        · intro M1 h
          refine z_aload_n Z dX2_laySoonest_51 rfl 0 rfl ?_
          refine gC_X2_19_46 X dX2_laySoonest_52 ?_
          refine gC_X2_52_28 X dX2_laySoonest_55 ?_
          refine z_iload_n Z dX2_laySoonest_58 rfl 3 rfl ?_
          refine ldC_36 X dX2_laySoonest_59 h (fun x2 h => ?_)
          refine z_istore (lv' := [(5, .int (z_I x2)), (0, .ref (ad 46)), (1, .ref (ad 57)), (2, .int (z_I v2)), (3, .int (z_I v3)), (4, .int (z_I x0))]) Z dX2_laySoonest_60 (by decide) rfl ?_
          refine z_iload_n Z dX2_laySoonest_62 rfl 3 rfl ?_
          refine z_aload_n Z dX2_laySoonest_63 rfl 1 rfl ?_
          refine gC_X2_23_46 X dX2_laySoonest_64 ?_
          refine z_iload_n Z dX2_laySoonest_67 rfl 3 rfl ?_
          refine z_aload_n Z dX2_laySoonest_68 rfl 2 rfl ?_
          refine z_iload Z dX2_laySoonest_69 5 rfl ?_
          refine ldC_57 X dX2_laySoonest_71 h (fun x3 h => ?_)
          obtain ⟨r_, M2, hf, h⟩ := z_cld h
          refine z_callVi (Wd := wC cI cZ ad) X (c_X1_lostAt hf) ml_X2_55 yd_X1_lostAt yw_X1_lostAt (by omega) (by decide) (rC_41 X) rfl rfl (Nat.le_of_ble_eq_true rfl) ⟨Nat.zero_le _, Nat.zero_le _⟩ dX2_laySoonest_72 ?_
          refine z_iconst Z dX2_laySoonest_75 ?_
          refine z_iadd Z dX2_laySoonest_76 ?_
          refine z_iadd Z dX2_laySoonest_77 ?_
          refine z_nmI h (fun v2_ h => ?_)
          refine z_istore_n (lv' := [(2, .int (z_I v2_)), (5, .int (z_I x2)), (0, .ref (ad 46)), (1, .ref (ad 57)), (3, .int (z_I v3)), (4, .int (z_I x0))]) Z dX2_laySoonest_78 rfl (by decide) rfl ?_
          refine z_iload_n Z dX2_laySoonest_79 rfl 0 rfl ?_
          refine z_iload Z dX2_laySoonest_80 1 rfl ?_
          refine z_jnr (P := fun (k : Int → Int → zMem → zO) => ∀ (x4 x5 : Int) (M3 : zMem), k x4 x5 M3 = some (r, M') → z_V p l e R s m args below meth c D A cI cZ 6 (wC cI cZ ad) M' none M3 96 [(0, .ref (ad 46)), (1, .ref (ad 57)), (3, .int (z_I v3)), (5, .int (z_I x2))] [.int (z_I x4), .int (z_I x5)]) h ?_ ?_
          · intro x4 x5 M3 h
            refine z_iadd Z dX2_laySoonest_96 ?_
            refine z_nmI h (fun v2_1 h => ?_)
            refine z_istore_n (lv' := [(2, .int (z_I v2_1)), (0, .ref (ad 46)), (1, .ref (ad 57)), (3, .int (z_I v3)), (5, .int (z_I x2))]) Z dX2_laySoonest_97 rfl (by decide) rfl ?_
            refine z_iload_n Z dX2_laySoonest_98 rfl 0 rfl ?_
            refine z_iload Z dX2_laySoonest_99 4 rfl ?_
            refine z_iconst Z dX2_laySoonest_101 ?_
            refine z_jnr (P := fun (k : Int → Int → zMem → zO) => ∀ (x6 x7 : Int) (M4 : zMem), k x6 x7 M4 = some (r, M') → z_V p l e R s m args below meth c D A cI cZ 6 (wC cI cZ ad) M' none M4 116 [(0, .ref (ad 46)), (1, .ref (ad 57)), (3, .int (z_I v3))] [.int (z_I x6), .int (z_I x7)]) h ?_ ?_
            · intro x6 x7 M4 h
              refine z_iadd Z dX2_laySoonest_116 ?_
              refine z_nmI h (fun v2_2 h => ?_)
              refine z_istore_n (lv' := [(2, .int (z_I v2_2)), (0, .ref (ad 46)), (1, .ref (ad 57)), (3, .int (z_I v3))]) Z dX2_laySoonest_117 rfl (by decide) rfl ?_
              refine z_iincn Z (fun z => [(3, .int (z_I z)), (2, .int (z_I v2_2)), (0, .ref (ad 46)), (1, .ref (ad 57))]) dX2_laySoonest_118 (k := 3) rfl (by decide) (fun _ => rfl) h (fun v3_ h => ?_)
              refine z_goto (tgt := 9) Z dX2_laySoonest_121 (by decide) ?_
              refine z_sub [2, 3, 1, 0] rfl ?_
              exact ih v2_2 v3_ M4 h
            · intro k3 hk3 h
              refine z_icmp_ne (tgt := 115) Z dX2_laySoonest_102 (by decide) h (fun h => ?_) (fun h => ?_)
              · refine z_iconst Z dX2_laySoonest_115 ?_
                refine z_sub [1, 2, 3] rfl ?_
                exact hk3 0 v2_1 M3 h
              · refine z_aload_n Z dX2_laySoonest_105 rfl 1 rfl ?_
                refine gC_X2_15_46 X dX2_laySoonest_106 ?_
                refine gC_X2_66_19 X dX2_laySoonest_109 ?_
                refine z_goto (tgt := 116) Z dX2_laySoonest_112 (by decide) ?_
                refine z_sub [1, 2, 3] rfl ?_
                exact hk3 (M3 19 4) v2_1 M3 h
          · intro k2 hk2 h
            refine z_if_ne (tgt := 95) Z dX2_laySoonest_82 (by decide) h (fun h => ?_) (fun h => ?_)
            · refine z_iconst Z dX2_laySoonest_95 ?_
              refine z_sub [2, 3, 4, 1] rfl ?_
              exact hk2 0 v2_ M2 h
            · refine z_aload_n Z dX2_laySoonest_85 rfl 2 rfl ?_
              refine gC_X2_15_46 X dX2_laySoonest_86 ?_
              refine gC_X2_61_19 X dX2_laySoonest_89 ?_
              refine z_goto (tgt := 96) Z dX2_laySoonest_92 (by decide) ?_
              refine z_sub [2, 3, 4, 1] rfl ?_
              exact hk2 (M2 19 2) v2_ M2 h
        · intro k1 hk1 h
          refine z_icmp_ne (tgt := 51) Z dX2_laySoonest_36 (by decide) h (fun h => ?_) (fun h => ?_)
          · refine z_sub [1, 2, 3, 4, 0] rfl ?_
            exact hk1 M h
          · refine z_aload_n Z dX2_laySoonest_39 rfl 1 rfl ?_
            refine z_aload_n Z dX2_laySoonest_40 rfl 2 rfl ?_
            refine z_iload Z dX2_laySoonest_41 0 rfl ?_
            refine z_aload_n Z dX2_laySoonest_43 rfl 1 rfl ?_
            refine z_iload_n Z dX2_laySoonest_44 rfl 3 rfl ?_
            obtain ⟨r_1, M5, hf1, h⟩ := z_cld h
            refine z_callVi (Wd := wC cI cZ ad) X (c_X2_soonest hf1) ml_X2_44 yd_X2_soonest yw_X2_soonest (by omega) (by decide) (rC_46 X) rfl rfl (Nat.le_of_ble_eq_true rfl) ⟨Nat.zero_le _, Nat.zero_le _⟩ dX2_laySoonest_45 ?_
            obtain ⟨u_, M6, hf2, h⟩ := z_cld h
            refine z_callVv (Wd := wC cI cZ ad) X (c_X2_lay (Or.inl rfl) hf2) ml_X2_48 yd_X2_lay yw_X2_lay (by omega) (by decide) (rC_46 X) rfl rfl (Nat.le_of_ble_eq_true rfl) ⟨Nat.zero_le _, Nat.zero_le _⟩ dX2_laySoonest_48 ?_
            refine z_sub [1, 2, 3, 4, 0] rfl ?_
            exact hk1 M6 h
set_option maxRecDepth 100000 in
set_option maxHeartbeats 4000000 in
theorem c_X2_laySoonest {l : Launch} {D : va_G} {cI cZ : ClassId} {ad adK adV : Nat → Nat} {N : Nat} {ca : Nat} (hcell : ca = 58 ∨ ca = 57) {M M' : zMem} {r : Int} (h : Laws_laySoonest N ca M = some (r, M')) : z_Ct (wC cI cZ ad) D cI cZ adK adV l yX2_laySoonest cX2_laySoonest 6 none 5 [.ref (ad 46), .ref (ad ca)] M M' none := by
  unfold Laws_laySoonest at h
  rcases hcell with rfl | rfl
  · refine z_entry (own := RX2) rfl (by decide) (Nat.le_of_ble_eq_true rfl) ?_
    intro p e s m args below meth c R A X hr hlk
    have Z := X.1
    refine z_sub (lv' := [(0, .ref (ad 46)), (1, .ref (ad 58))]) [0, 1] rfl ?_
    refine z_aload_n Z dX2_laySoonest_0 rfl 0 rfl ?_
    refine z_aload_n Z dX2_laySoonest_1 rfl 1 rfl ?_
    obtain ⟨u_, M1, hf, h⟩ := z_cld h
    refine z_callVv (Wd := wC cI cZ ad) X (c_X2_layFixed (Or.inr (rfl)) hf) ml_X2_27 yd_X2_layFixed yw_X2_layFixed (by omega) (by decide) (rC_46 X) rfl rfl (Nat.le_of_ble_eq_true rfl) ⟨Nat.zero_le _, Nat.zero_le _⟩ dX2_laySoonest_2 ?_
    refine z_iconst Z dX2_laySoonest_5 ?_
    refine z_istore_n (lv' := [(2, .int (z_I 0)), (0, .ref (ad 46)), (1, .ref (ad 58))]) Z dX2_laySoonest_6 rfl (by decide) rfl ?_
    refine z_iconst Z dX2_laySoonest_7 ?_
    refine z_istore_n (lv' := [(3, .int (z_I 0)), (2, .int (z_I 0)), (0, .ref (ad 46)), (1, .ref (ad 58))]) Z dX2_laySoonest_8 rfl (by decide) rfl ?_
    refine z_jnr (P := fun (k : zMem → zO) => ∀ (M2 : zMem), k M2 = some (r, M') → z_V p l e R s m args below meth c D A cI cZ 6 (wC cI cZ ad) M' none M2 124 [(0, .ref (ad 46)), (1, .ref (ad 58))] []) h ?_ ?_
    · intro M2 h
      refine z_aload_n Z dX2_laySoonest_124 rfl 0 rfl ?_
      refine z_aload_n Z dX2_laySoonest_125 rfl 1 rfl ?_
      obtain ⟨u_1, M3, hf1, h⟩ := z_cld h
      refine z_callVv (Wd := wC cI cZ ad) X (c_X2_layRest (Or.inr (rfl)) hf1) ml_X2_31 yd_X2_layRest yw_X2_layRest (by omega) (by decide) (rC_46 X) rfl rfl (Nat.le_of_ble_eq_true rfl) ⟨Nat.zero_le _, Nat.zero_le _⟩ dX2_laySoonest_126 ?_
      exact z_vret X hr hlk dX2_laySoonest_129 h
    · intro k0 hk0 h
      refine z_sub [2, 3, 1, 0] rfl ?_
      exact wLaws_laySoonest_9 X hr hlk (Or.inl rfl) N k0 hk0 N 0 0 M1 h
  · refine z_entry (own := RX2) rfl (by decide) (Nat.le_of_ble_eq_true rfl) ?_
    intro p e s m args below meth c R A X hr hlk
    have Z := X.1
    refine z_sub (lv' := [(0, .ref (ad 46)), (1, .ref (ad 57))]) [0, 1] rfl ?_
    refine z_aload_n Z dX2_laySoonest_0 rfl 0 rfl ?_
    refine z_aload_n Z dX2_laySoonest_1 rfl 1 rfl ?_
    obtain ⟨u_, M1, hf, h⟩ := z_cld h
    refine z_callVv (Wd := wC cI cZ ad) X (c_X2_layFixed (Or.inl rfl) hf) ml_X2_27 yd_X2_layFixed yw_X2_layFixed (by omega) (by decide) (rC_46 X) rfl rfl (Nat.le_of_ble_eq_true rfl) ⟨Nat.zero_le _, Nat.zero_le _⟩ dX2_laySoonest_2 ?_
    refine z_iconst Z dX2_laySoonest_5 ?_
    refine z_istore_n (lv' := [(2, .int (z_I 0)), (0, .ref (ad 46)), (1, .ref (ad 57))]) Z dX2_laySoonest_6 rfl (by decide) rfl ?_
    refine z_iconst Z dX2_laySoonest_7 ?_
    refine z_istore_n (lv' := [(3, .int (z_I 0)), (2, .int (z_I 0)), (0, .ref (ad 46)), (1, .ref (ad 57))]) Z dX2_laySoonest_8 rfl (by decide) rfl ?_
    refine z_jnr (P := fun (k : zMem → zO) => ∀ (M2 : zMem), k M2 = some (r, M') → z_V p l e R s m args below meth c D A cI cZ 6 (wC cI cZ ad) M' none M2 124 [(0, .ref (ad 46)), (1, .ref (ad 57))] []) h ?_ ?_
    · intro M2 h
      refine z_aload_n Z dX2_laySoonest_124 rfl 0 rfl ?_
      refine z_aload_n Z dX2_laySoonest_125 rfl 1 rfl ?_
      obtain ⟨u_1, M3, hf1, h⟩ := z_cld h
      refine z_callVv (Wd := wC cI cZ ad) X (c_X2_layRest (Or.inl rfl) hf1) ml_X2_31 yd_X2_layRest yw_X2_layRest (by omega) (by decide) (rC_46 X) rfl rfl (Nat.le_of_ble_eq_true rfl) ⟨Nat.zero_le _, Nat.zero_le _⟩ dX2_laySoonest_126 ?_
      exact z_vret X hr hlk dX2_laySoonest_129 h
    · intro k0 hk0 h
      refine z_sub [2, 3, 1, 0] rfl ?_
      exact wLaws_laySoonest_9 X hr hlk (Or.inr (rfl)) N k0 hk0 N 0 0 M1 h
set_option maxRecDepth 100000 in
set_option maxHeartbeats 4000000 in
theorem wSearch_groupAddresses_2 {p : Program} {l : Launch} {e : Env} {R : Room} {s : State} {m : MethodId} {args : Array Value} {below : List Frame} {meth : Method} {c : Code} {D : va_G} {A : Nat → Prop} {cI cZ : ClassId} {adK adV ad : Nat → Nat} {r : Int} {M' : zMem} (X : z_X p m c cX5_groupAddresses 4 s args RX5 R 2 D cI cZ A adK adV) (hr : meth.sig.returnType = none) (hlk : meth.locks = false) (N : Nat) (k : zMem → zO) (hk : ∀ (M : zMem), k M = some (r, M') → z_V p l e R s m args below meth c D A cI cZ 4 (wC cI cZ ad) M' none M 21 [(0, .ref (ad 48))] []) : ∀ (n : Nat) (v1 : Int) (M : zMem), Search_groupAddresses_2 N k n v1 M = some (r, M') → z_V p l e R s m args below meth c D A cI cZ 4 (wC cI cZ ad) M' none M 2 [(0, .ref (ad 48)), (1, .int (z_I v1))] [] := by
  have Z := X.1
  intro n
  induction n with
  | zero =>
    intro v1 M h
    rw [Search_groupAddresses_2] at h
    cases h
  | succ n ih =>
    intro v1 M h
    rw [Search_groupAddresses_2] at h
    refine z_iload_n Z dX5_groupAddresses_2 rfl 1 rfl ?_
    refine z_bipush Z dX5_groupAddresses_3 rfl ?_
    refine z_icmp_ge (tgt := 21) Z dX5_groupAddresses_5 (by decide) h (fun h => ?_) (fun h => ?_)
    · refine z_sub [0] rfl ?_
      exact hk M h
    · refine z_aload_n Z dX5_groupAddresses_8 rfl 0 rfl ?_
      refine gC_X5_29_48 X dX5_groupAddresses_9 ?_
      refine z_iload_n Z dX5_groupAddresses_12 rfl 1 rfl ?_
      refine z_iconst Z dX5_groupAddresses_13 ?_
      refine srC_53 X dX5_groupAddresses_14 h (fun M1 h => ?_)
      refine z_iincn Z (fun z => [(1, .int (z_I z)), (0, .ref (ad 48))]) dX5_groupAddresses_15 (k := 1) rfl (by decide) (fun _ => rfl) h (fun v1_ h => ?_)
      refine z_goto (tgt := 2) Z dX5_groupAddresses_18 (by decide) ?_
      refine z_sub [1, 0] rfl ?_
      exact ih v1_ M1 h
set_option maxRecDepth 100000 in
set_option maxHeartbeats 4000000 in
theorem wSearch_groupAddresses_23 {p : Program} {l : Launch} {e : Env} {R : Room} {s : State} {m : MethodId} {args : Array Value} {below : List Frame} {meth : Method} {c : Code} {D : va_G} {A : Nat → Prop} {cI cZ : ClassId} {adK adV ad : Nat → Nat} {r : Int} {M' : zMem} (X : z_X p m c cX5_groupAddresses 4 s args RX5 R 2 D cI cZ A adK adV) (hr : meth.sig.returnType = none) (hlk : meth.locks = false) (N : Nat) (k : zMem → zO) (hk : ∀ (M : zMem), k M = some (r, M') → z_V p l e R s m args below meth c D A cI cZ 4 (wC cI cZ ad) M' none M 117 [] []) : ∀ (n : Nat) (v1 : Int) (M : zMem), Search_groupAddresses_23 N k n v1 M = some (r, M') → z_V p l e R s m args below meth c D A cI cZ 4 (wC cI cZ ad) M' none M 23 [(0, .ref (ad 48)), (1, .int (z_I v1))] [] := by
  have Z := X.1
  intro n
  induction n with
  | zero =>
    intro v1 M h
    rw [Search_groupAddresses_23] at h
    cases h
  | succ n ih =>
    intro v1 M h
    rw [Search_groupAddresses_23] at h
    refine z_iload_n Z dX5_groupAddresses_23 rfl 1 rfl ?_
    refine z_aload_n Z dX5_groupAddresses_24 rfl 0 rfl ?_
    refine gC_X5_49_48 X dX5_groupAddresses_25 ?_
    obtain ⟨r_, M1, hf, h⟩ := z_cld h
    refine z_callVi (Wd := wC cI cZ ad) X (c_X3_addresses (Or.inr (rfl)) hf) ml_X5_88 yd_X3_addresses yw_X3_addresses (by omega) (by decide) (rC_19 X) rfl rfl (Nat.le_of_ble_eq_true rfl) ⟨Nat.zero_le _, Nat.zero_le _⟩ dX5_groupAddresses_28 ?_
    refine z_icmp_ge (tgt := 117) Z dX5_groupAddresses_31 (by decide) h (fun h => ?_) (fun h => ?_)
    · refine z_sub [] rfl ?_
      exact hk M1 h
    · refine z_aload_n Z dX5_groupAddresses_34 rfl 0 rfl ?_
      refine gC_X5_53_48 X dX5_groupAddresses_35 ?_
      refine z_iload_n Z dX5_groupAddresses_38 rfl 1 rfl ?_
      refine z_aload_n Z dX5_groupAddresses_39 rfl 0 rfl ?_
      refine gC_X5_49_48 X dX5_groupAddresses_40 ?_
      refine gC_X5_63_19 X dX5_groupAddresses_43 ?_
      obtain ⟨r_1, M2, hf1, h⟩ := z_cld h
      refine z_callVi (Wd := wC cI cZ ad) X (c_X1_turnAt hf1) ml_X5_92 yd_X1_turnAt yw_X1_turnAt (by omega) (by decide) (rC_41 X) rfl rfl (Nat.le_of_ble_eq_true rfl) ⟨Nat.zero_le _, Nat.zero_le _⟩ dX5_groupAddresses_46 ?_
      refine z_istore_n (lv' := [(2, .int (z_I r_1)), (0, .ref (ad 48)), (1, .int (z_I v1))]) Z dX5_groupAddresses_49 rfl (by decide) rfl ?_
      refine z_iload_n Z dX5_groupAddresses_50 rfl 0 rfl ?_
      refine z_jnr (P := fun (k : Int → zMem → zO) => ∀ (x0 : Int) (M3 : zMem), k x0 M3 = some (r, M') → z_V p l e R s m args below meth c D A cI cZ 4 (wC cI cZ ad) M' none M3 61 [(0, .ref (ad 48)), (1, .int (z_I v1)), (2, .int (z_I r_1))] [.int (z_I x0)]) h ?_ ?_
      · intro x0 M3 h
        refine z_istore_n (lv' := [(3, .int (z_I x0)), (0, .ref (ad 48)), (1, .int (z_I v1)), (2, .int (z_I r_1))]) Z dX5_groupAddresses_61 rfl (by decide) rfl ?_
        refine z_aload_n Z dX5_groupAddresses_62 rfl 1 rfl ?_
        refine gC_X5_26_48 X dX5_groupAddresses_63 ?_
        refine z_iload_n Z dX5_groupAddresses_66 rfl 2 rfl ?_
        refine z_iload_n Z dX5_groupAddresses_67 rfl 3 rfl ?_
        refine z_aload_n Z dX5_groupAddresses_68 rfl 1 rfl ?_
        refine gC_X5_49_48 X dX5_groupAddresses_69 ?_
        refine gC_X5_96_19 X dX5_groupAddresses_72 ?_
        refine z_jnr (P := fun (k : Int → Int → zMem → zO) => ∀ (x1 x2 : Int) (M4 : zMem), k x1 x2 M4 = some (r, M') → z_V p l e R s m args below meth c D A cI cZ 4 (wC cI cZ ad) M' none M4 86 [(0, .ref (ad 48)), (1, .int (z_I v1))] [.int (z_I x1), .int (z_I x2), .ref (ad 52)]) h ?_ ?_
        · intro x1 x2 M4 h
          refine srC_52 X dX5_groupAddresses_86 h (fun M5 h => ?_)
          refine z_aload_n Z dX5_groupAddresses_87 rfl 0 rfl ?_
          refine gC_X5_22_48 X dX5_groupAddresses_88 ?_
          refine z_iload_n Z dX5_groupAddresses_91 rfl 1 rfl ?_
          refine ldC_51 X dX5_groupAddresses_92 h (fun x3 h => ?_)
          refine z_jnr (P := fun (k : zMem → zO) => ∀ (M6 : zMem), k M6 = some (r, M') → z_V p l e R s m args below meth c D A cI cZ 4 (wC cI cZ ad) M' none M6 111 [(0, .ref (ad 48)), (1, .int (z_I v1))] []) h ?_ ?_
          · intro M6 h
            refine z_iincn Z (fun z => [(1, .int (z_I z)), (0, .ref (ad 48))]) dX5_groupAddresses_111 (k := 1) rfl (by decide) (fun _ => rfl) h (fun v1_ h => ?_)
            refine z_goto (tgt := 23) Z dX5_groupAddresses_114 (by decide) ?_
            refine z_sub [1, 0] rfl ?_
            exact ih v1_ M6 h
          · intro k3 hk3 h
            refine z_if_ne (tgt := 111) Z dX5_groupAddresses_93 (by decide) h (fun h => ?_) (fun h => ?_)
            · refine z_sub [0, 1] rfl ?_
              exact hk3 M5 h
            · refine z_aload_n Z dX5_groupAddresses_96 rfl 0 rfl ?_
              refine gC_X5_29_48 X dX5_groupAddresses_97 ?_
              refine z_aload_n Z dX5_groupAddresses_100 rfl 0 rfl ?_
              refine gC_X5_26_48 X dX5_groupAddresses_101 ?_
              refine z_iload_n Z dX5_groupAddresses_104 rfl 1 rfl ?_
              refine ldC_52 X dX5_groupAddresses_105 h (fun x4 h => ?_)
              refine z_dup2 Z dX5_groupAddresses_106 rfl rfl ?_
              refine ldC_53 X dX5_groupAddresses_107 h (fun x5 h => ?_)
              refine z_iconst Z dX5_groupAddresses_108 ?_
              refine z_iadd Z dX5_groupAddresses_109 ?_
              refine srC_53 X dX5_groupAddresses_110 h (fun M7 h => ?_)
              refine z_sub [0, 1] rfl ?_
              exact hk3 M7 h
        · intro k2 hk2 h
          refine z_icmp_ne (tgt := 82) Z dX5_groupAddresses_75 (by decide) h (fun h => ?_) (fun h => ?_)
          · refine z_bipush Z dX5_groupAddresses_82 rfl ?_
            refine z_iload_n Z dX5_groupAddresses_84 rfl 0 rfl ?_
            refine z_iadd Z dX5_groupAddresses_85 ?_
            refine z_sub [1, 2] rfl ?_
            exact hk2 (12 + x0) v1 M3 h
          · refine z_iload_n Z dX5_groupAddresses_78 rfl 0 rfl ?_
            refine z_goto (tgt := 86) Z dX5_groupAddresses_79 (by decide) ?_
            refine z_sub [1, 2] rfl ?_
            exact hk2 x0 v1 M3 h
      · intro k1 hk1 h
        refine z_if_le (tgt := 60) Z dX5_groupAddresses_51 (by decide) h (fun h => ?_) (fun h => ?_)
        · refine z_iconst Z dX5_groupAddresses_60 ?_
          refine z_sub [1, 2, 0] rfl ?_
          exact hk1 0 M2 h
        · refine z_iload_n Z dX5_groupAddresses_54 rfl 2 rfl ?_
          refine z_iload_n Z dX5_groupAddresses_55 rfl 0 rfl ?_
          refine z_iremt Z dX5_groupAddresses_56 h (fun x6 h => ?_)
          refine z_goto (tgt := 61) Z dX5_groupAddresses_57 (by decide) ?_
          refine z_sub [1, 2, 0] rfl ?_
          exact hk1 x6 M2 h
set_option maxRecDepth 100000 in
set_option maxHeartbeats 4000000 in
theorem c_X5_groupAddresses {l : Launch} {D : va_G} {cI cZ : ClassId} {ad adK adV : Nat → Nat} {N : Nat} {M M' : zMem} {r : Int} (h : Search_groupAddresses N M = some (r, M')) : z_Ct (wC cI cZ ad) D cI cZ adK adV l yX5_groupAddresses cX5_groupAddresses 4 none 2 [.ref (ad 48)] M M' none := by
  unfold Search_groupAddresses at h
  refine z_entry (own := RX5) rfl (by decide) (Nat.le_of_ble_eq_true rfl) ?_
  intro p e s m args below meth c R A X hr hlk
  have Z := X.1
  refine z_sub (lv' := [(0, .ref (ad 48))]) [0] rfl ?_
  refine z_iconst Z dX5_groupAddresses_0 ?_
  refine z_istore_n (lv' := [(1, .int (z_I 0)), (0, .ref (ad 48))]) Z dX5_groupAddresses_1 rfl (by decide) rfl ?_
  refine z_jnr (P := fun (k : zMem → zO) => ∀ (M1 : zMem), k M1 = some (r, M') → z_V p l e R s m args below meth c D A cI cZ 4 (wC cI cZ ad) M' none M1 21 [(0, .ref (ad 48))] []) h ?_ ?_
  · intro M1 h
    refine z_iconst Z dX5_groupAddresses_21 ?_
    refine z_istore_n (lv' := [(1, .int (z_I 0)), (0, .ref (ad 48))]) Z dX5_groupAddresses_22 rfl (by decide) rfl ?_
    refine z_jnr (P := fun (k : zMem → zO) => ∀ (M2 : zMem), k M2 = some (r, M') → z_V p l e R s m args below meth c D A cI cZ 4 (wC cI cZ ad) M' none M2 117 [] []) h ?_ ?_
    · intro M2 h
      exact z_vret X hr hlk dX5_groupAddresses_117 h
    · intro k1 hk1 h
      refine z_sub [1, 0] rfl ?_
      exact wSearch_groupAddresses_23 X hr hlk N k1 hk1 N 0 M1 h
  · intro k0 hk0 h
    refine z_sub [1, 0] rfl ?_
    exact wSearch_groupAddresses_2 X hr hlk N k0 hk0 N 0 M h
set_option maxRecDepth 100000 in
set_option maxHeartbeats 4000000 in
theorem c_X5_judge {l : Launch} {D : va_G} {cI cZ : ClassId} {ad adK adV : Nat → Nat} {N : Nat} {v1 : Int} {M M' : zMem} {r : Int} (h : Search_judge N v1 M = some (r, M')) : z_Ct (wC cI cZ ad) D cI cZ adK adV l yX5_judge cX5_judge 4 none 4 [.ref (ad 48), .long (z_L v1)] M M' none := by
  unfold Search_judge at h
  refine z_entry (own := RX5) rfl (by decide) (Nat.le_of_ble_eq_true rfl) ?_
  intro p e s m args below meth c R A X hr hlk
  have Z := X.1
  refine z_sub (lv' := [(0, .ref (ad 48)), (1, .long (z_L v1))]) [0, 1] rfl ?_
  refine z_aload_n Z dX5_judge_0 rfl 0 rfl ?_
  refine gC_X5_53_48 X dX5_judge_1 ?_
  refine z_aload_n Z dX5_judge_4 rfl 0 rfl ?_
  refine gC_X5_49_48 X dX5_judge_5 ?_
  refine gC_X5_107_19 X dX5_judge_8 ?_
  refine z_iconst Z dX5_judge_11 ?_
  obtain ⟨r_, M1, hf, h⟩ := z_cld h
  refine z_callVi (Wd := wC cI cZ ad) X (c_X1_walk hf) ml_X5_110 yd_X1_walk yw_X1_walk (by omega) (by decide) (rC_41 X) rfl rfl (Nat.le_of_ble_eq_true rfl) ⟨Nat.zero_le _, Nat.zero_le _⟩ dX5_judge_12 ?_
  refine z_istore_n (lv' := [(3, .int (z_I r_)), (0, .ref (ad 48)), (1, .long (z_L v1))]) Z dX5_judge_15 rfl (by decide) rfl ?_
  refine z_aload_n Z dX5_judge_16 rfl 1 rfl ?_
  refine z_aload_n Z dX5_judge_17 rfl 1 rfl ?_
  refine gC_X5_39_48 X dX5_judge_18 ?_
  refine z_iload_n Z dX5_judge_21 rfl 0 rfl ?_
  refine z_mxr X ml_X5_114 (by omega) (Nat.le_of_ble_eq_true rfl) ⟨Nat.zero_le _, Nat.zero_le _⟩ dX5_judge_22 h (fun x0 h => ?_)
  refine pC_X5_39_48 X dX5_judge_25 h (fun M2 h => ?_)
  refine z_aload_n Z dX5_judge_28 rfl 1 rfl ?_
  refine gC_X5_36_48 X dX5_judge_29 ?_
  refine z_iconst Z dX5_judge_32 ?_
  refine z_jnr (P := fun (k : zMem → zO) => ∀ (M3 : zMem), k M3 = some (r, M') → z_V p l e R s m args below meth c D A cI cZ 4 (wC cI cZ ad) M' none M3 65 [(0, .ref (ad 48)), (1, .long (z_L v1)), (3, .int (z_I r_))] []) h ?_ ?_
  · intro M3 h
    refine z_iload_n Z dX5_judge_65 rfl 2 rfl ?_
    refine z_aload_n Z dX5_judge_66 rfl 0 rfl ?_
    refine gC_X5_36_48 X dX5_judge_67 ?_
    refine z_icmp_ne (tgt := 83) Z dX5_judge_70 (by decide) h (fun h => ?_) (fun h => ?_)
    · exact z_vret X hr hlk dX5_judge_83 h
    · refine z_aload_n Z dX5_judge_73 rfl 0 rfl ?_
      refine z_dup Z dX5_judge_74 rfl ?_
      refine gC_X5_42_48 X dX5_judge_75 ?_
      refine z_lload_n Z dX5_judge_78 rfl 1 rfl ?_
      refine z_ladd Z dX5_judge_79 ?_
      refine pC_X5_42_48 X dX5_judge_80 h (fun M4 h => ?_)
      exact z_vret X hr hlk dX5_judge_83 h
  · intro k0 hk0 h
    refine z_jnr (P := fun (k : zMem → zO) => ∀ (M5 : zMem), k M5 = some (r, M') → z_V p l e R s m args below meth c D A cI cZ 4 (wC cI cZ ad) M' none M5 44 [(0, .ref (ad 48)), (1, .long (z_L v1)), (3, .int (z_I r_))] []) h ?_ ?_
    · intro M5 h
      refine z_aload_n Z dX5_judge_44 rfl 0 rfl ?_
      refine z_iload_n Z dX5_judge_45 rfl 2 rfl ?_
      refine pC_X5_36_48 X dX5_judge_46 h (fun M6 h => ?_)
      refine z_aload_n Z dX5_judge_49 rfl 0 rfl ?_
      refine z_lconst (x := 0) Z dX5_judge_50 rfl ?_
      refine pC_X5_42_48 X dX5_judge_51 h (fun M7 h => ?_)
      refine z_aload_n Z dX5_judge_54 rfl 0 rfl ?_
      refine gC_X5_19_48 X dX5_judge_55 ?_
      refine z_aload_n Z dX5_judge_58 rfl 0 rfl ?_
      refine gC_X5_46_48 X dX5_judge_59 ?_
      obtain ⟨u_, M8, hf1, h⟩ := z_cld h
      refine z_callNv (Wd := wC cI cZ ad) X (c_X9_copyItems (Or.inr (Or.inr (Or.inr (Or.inr (Or.inr (Or.inr (Or.inr (Or.inr (Or.inr (Or.inl ⟨rfl, rfl⟩)))))))))) hf1) nl_X5_119 yd_X9_copyItems yw_X9_copyItems (by omega) (by decide) rfl rfl (Nat.le_of_ble_eq_true rfl) ⟨Nat.zero_le _, Nat.zero_le _⟩ dX5_judge_62 ?_
      refine z_sub [0, 1, 2] rfl ?_
      exact hk0 M8 h
    · intro k1 hk1 h
      refine z_icmp_eq (tgt := 44) Z dX5_judge_33 (by decide) h (fun h => ?_) (fun h => ?_)
      · refine z_sub [1, 2, 0] rfl ?_
        exact hk1 M2 h
      · refine z_iload_n Z dX5_judge_36 rfl 0 rfl ?_
        refine z_aload_n Z dX5_judge_37 rfl 1 rfl ?_
        refine gC_X5_36_48 X dX5_judge_38 ?_
        refine z_icmp_ge (tgt := 65) Z dX5_judge_41 (by decide) h (fun h => ?_) (fun h => ?_)
        · refine z_sub [1, 2, 0] rfl ?_
          exact hk0 M2 h
        · refine z_sub [1, 2, 0] rfl ?_
          exact hk1 M2 h
set_option maxRecDepth 100000 in
set_option maxHeartbeats 4000000 in
theorem wSearch_layLoose_33 {p : Program} {l : Launch} {e : Env} {R : Room} {s : State} {m : MethodId} {args : Array Value} {below : List Frame} {meth : Method} {c : Code} {D : va_G} {A : Nat → Prop} {cI cZ : ClassId} {adK adV ad : Nat → Nat} {lev0 : Nat} {r : Int} {M' : zMem} {rec : Int → Int → zMem → zO} (X : z_X p m c cX5_layLoose 9 s args RX5 R (lev0 + 1) D cI cZ A adK adV) (hr : meth.sig.returnType = none) (hlk : meth.locks = false) (hrec : ∀ (a1 a2 : Int) (M : zMem) (r : Int) (M' : zMem), rec a1 a2 M = some (r, M') → z_Ct (wC cI cZ ad) D cI cZ adK adV l yX5_layLoose cX5_layLoose 9 none lev0 [.ref (ad 48), .int (z_I a1), .long (z_L a2)] M M' none) (hL : 5 ≤ lev0 + 1) (N : Nat) (v1 v2 v4 : Int) (k : zMem → zO) (hk : ∀ (M : zMem), k M = some (r, M') → z_V p l e R s m args below meth c D A cI cZ 9 (wC cI cZ ad) M' none M 176 [] []) : ∀ (n : Nat) (v5 v6 : Int) (M : zMem), Search_layLoose_33 N rec v1 v2 v4 k n v5 v6 M = some (r, M') → z_V p l e R s m args below meth c D A cI cZ 9 (wC cI cZ ad) M' none M 33 [(0, .ref (ad 48)), (1, .int (z_I v1)), (2, .long (z_L v2)), (4, .int (z_I v4)), (5, .int (z_I v5)), (6, .int (z_I v6))] [] := by
  have Z := X.1
  intro n
  induction n with
  | zero =>
    intro v5 v6 M h
    rw [Search_layLoose_33] at h
    cases h
  | succ n ih =>
    intro v5 v6 M h
    rw [Search_layLoose_33] at h
    refine z_iload Z dX5_layLoose_33 5 rfl ?_
    refine z_aload_n Z dX5_layLoose_35 rfl 0 rfl ?_
    refine gC_X5_49_48 X dX5_layLoose_36 ?_
    obtain ⟨r_, M1, hf, h⟩ := z_cld h
    refine z_callVi (Wd := wC cI cZ ad) X (c_X3_addresses (Or.inr (rfl)) hf) ml_X5_88 yd_X3_addresses yw_X3_addresses (by omega) (by decide) (rC_19 X) rfl rfl (Nat.le_of_ble_eq_true rfl) ⟨Nat.zero_le _, Nat.zero_le _⟩ dX5_layLoose_39 ?_
    refine z_icmp_ge (tgt := 176) Z dX5_layLoose_42 (by decide) h (fun h => ?_) (fun h => ?_)
    · refine z_sub [] rfl ?_
      exact hk M1 h
    · refine z_aload_n Z dX5_layLoose_45 rfl 0 rfl ?_
      refine gC_X5_26_48 X dX5_layLoose_46 ?_
      refine z_iload Z dX5_layLoose_49 5 rfl ?_
      refine ldC_52 X dX5_layLoose_51 h (fun x0 h => ?_)
      refine z_istore (lv' := [(7, .int (z_I x0)), (0, .ref (ad 48)), (1, .int (z_I v1)), (2, .long (z_L v2)), (4, .int (z_I v4)), (5, .int (z_I v5)), (6, .int (z_I v6))]) Z dX5_layLoose_52 (by decide) rfl ?_
      refine z_aload_n Z dX5_layLoose_54 rfl 1 rfl ?_
      refine gC_X5_22_48 X dX5_layLoose_55 ?_
      refine z_iload Z dX5_layLoose_58 6 rfl ?_
      refine ldC_51 X dX5_layLoose_60 h (fun x1 h => ?_)
      refine z_jnr (P := fun (k : Int → zMem → zO) => ∀ (v5_ : Int) (M2 : zMem), k v5_ M2 = some (r, M') → z_V p l e R s m args below meth c D A cI cZ 9 (wC cI cZ ad) M' none M2 170 [(0, .ref (ad 48)), (1, .int (z_I v1)), (2, .long (z_L v2)), (4, .int (z_I v4)), (5, .int (z_I v5_)), (6, .int (z_I v6))] []) h ?_ ?_
      · intro v5_ M2 h
        refine z_iincn Z (fun z => [(6, .int (z_I z)), (0, .ref (ad 48)), (1, .int (z_I v1)), (2, .long (z_L v2)), (4, .int (z_I v4)), (5, .int (z_I v5_))]) dX5_layLoose_170 (k := 5) rfl (by decide) (fun _ => rfl) h (fun v6_ h => ?_)
        refine z_goto (tgt := 33) Z dX5_layLoose_173 (by decide) ?_
        refine z_sub [1, 2, 3, 4, 5, 0] rfl ?_
        exact ih v5_ v6_ M2 h
      · intro k1 hk1 h
        refine z_if_ne (tgt := 170) Z dX5_layLoose_61 (by decide) h (fun h => ?_) (fun h => ?_)
        · refine z_sub [1, 2, 3, 4, 5, 6] rfl ?_
          exact hk1 v5 M1 h
        · refine z_iload Z dX5_layLoose_64 5 rfl ?_
          refine z_iload Z dX5_layLoose_66 0 rfl ?_
          refine z_ishr Z dX5_layLoose_68 ?_
          refine z_iconst Z dX5_layLoose_69 ?_
          refine z_iand Z dX5_layLoose_70 ?_
          refine z_if_eq (tgt := 77) Z dX5_layLoose_71 (by decide) h (fun h => ?_) (fun h => ?_)
          · refine z_iload Z dX5_layLoose_77 5 rfl ?_
            refine z_iconst Z dX5_layLoose_79 ?_
            refine z_iload Z dX5_layLoose_80 0 rfl ?_
            refine z_ishl Z dX5_layLoose_82 ?_
            refine z_ior Z dX5_layLoose_83 ?_
            refine z_nmI h (fun v5_1 h => ?_)
            refine z_istore (lv' := [(5, .int (z_I v5_1)), (7, .int (z_I x0)), (0, .ref (ad 48)), (1, .int (z_I v1)), (2, .long (z_L v2)), (4, .int (z_I v4)), (6, .int (z_I v6))]) Z dX5_layLoose_84 (by decide) rfl ?_
            refine z_aload_n Z dX5_layLoose_86 rfl 2 rfl ?_
            refine gC_X5_29_48 X dX5_layLoose_87 ?_
            refine z_iload Z dX5_layLoose_90 1 rfl ?_
            refine ldC_53 X dX5_layLoose_92 h (fun x2 h => ?_)
            refine z_istore (lv' := [(8, .int (z_I x2)), (5, .int (z_I v5_1)), (7, .int (z_I x0)), (0, .ref (ad 48)), (1, .int (z_I v1)), (2, .long (z_L v2)), (4, .int (z_I v4)), (6, .int (z_I v6))]) Z dX5_layLoose_93 (by decide) rfl ?_
            refine z_aload_n Z dX5_layLoose_95 rfl 3 rfl ?_
            refine gC_X5_22_48 X dX5_layLoose_96 ?_
            refine z_iload Z dX5_layLoose_99 7 rfl ?_
            refine z_iconst Z dX5_layLoose_101 ?_
            refine srC_51 X dX5_layLoose_102 h (fun M3 h => ?_)
            refine z_aload_n Z dX5_layLoose_103 rfl 3 rfl ?_
            refine gC_X5_29_48 X dX5_layLoose_104 ?_
            refine z_iload Z dX5_layLoose_107 2 rfl ?_
            refine z_iload Z dX5_layLoose_109 0 rfl ?_
            refine z_iconst Z dX5_layLoose_111 ?_
            refine z_isub Z dX5_layLoose_112 ?_
            refine srC_53 X dX5_layLoose_113 h (fun M4 h => ?_)
            refine z_aload_n Z dX5_layLoose_114 rfl 3 rfl ?_
            refine gC_X5_19_48 X dX5_layLoose_115 ?_
            refine z_iload Z dX5_layLoose_118 6 rfl ?_
            refine z_iload Z dX5_layLoose_120 7 rfl ?_
            refine srC_50 X dX5_layLoose_122 h (fun M5 h => ?_)
            refine z_aload_n Z dX5_layLoose_123 rfl 3 rfl ?_
            refine gC_X5_53_48 X dX5_layLoose_124 ?_
            refine z_iload Z dX5_layLoose_127 6 rfl ?_
            refine z_iload Z dX5_layLoose_129 7 rfl ?_
            refine z_aload_n Z dX5_layLoose_131 rfl 3 rfl ?_
            refine gC_X5_49_48 X dX5_layLoose_132 ?_
            refine gC_X5_63_19 X dX5_layLoose_135 ?_
            obtain ⟨u_, M6, hf1, h⟩ := z_cld h
            refine z_callVv (Wd := wC cI cZ ad) X (c_X1_aimItem hf1) ml_X5_103 yd_X1_aimItem yw_X1_aimItem (by omega) (by decide) (rC_41 X) rfl rfl (Nat.le_of_ble_eq_true rfl) ⟨Nat.zero_le _, Nat.zero_le _⟩ dX5_layLoose_138 ?_
            refine z_aload_n Z dX5_layLoose_141 rfl 3 rfl ?_
            refine z_iload_n Z dX5_layLoose_142 rfl 4 rfl ?_
            refine z_iconst Z dX5_layLoose_143 ?_
            refine z_iadd Z dX5_layLoose_144 ?_
            refine z_lload_n Z dX5_layLoose_145 rfl 5 rfl ?_
            refine z_iload Z dX5_layLoose_146 0 rfl ?_
            refine z_i2l Z dX5_layLoose_148 h (fun x3 h => ?_)
            refine z_lmul Z dX5_layLoose_149 ?_
            obtain ⟨u_1, M7, hf2, h⟩ := z_cld h
            refine z_callVv (Wd := wC cI cZ ad) X (hrec _ _ _ _ _ hf2) ml_X5_74 yd_X5_layLoose yw_X5_layLoose (by omega) (by decide) (rC_48 X) rfl rfl (Nat.le_of_ble_eq_true rfl) ⟨Nat.zero_le _, Nat.zero_le _⟩ dX5_layLoose_150 ?_
            refine z_aload_n Z dX5_layLoose_153 rfl 3 rfl ?_
            refine gC_X5_29_48 X dX5_layLoose_154 ?_
            refine z_iload Z dX5_layLoose_157 2 rfl ?_
            refine z_iload Z dX5_layLoose_159 0 rfl ?_
            refine srC_53 X dX5_layLoose_161 h (fun M8 h => ?_)
            refine z_aload_n Z dX5_layLoose_162 rfl 3 rfl ?_
            refine gC_X5_22_48 X dX5_layLoose_163 ?_
            refine z_iload Z dX5_layLoose_166 7 rfl ?_
            refine z_iconst Z dX5_layLoose_168 ?_
            refine srC_51 X dX5_layLoose_169 h (fun M9 h => ?_)
            refine z_sub [3, 4, 5, 6, 1, 7] rfl ?_
            exact hk1 v5_1 M9 h
          · refine z_goto (tgt := 170) Z dX5_layLoose_74 (by decide) ?_
            refine z_sub [1, 2, 3, 4, 5, 6] rfl ?_
            exact hk1 v5 M1 h
set_option maxRecDepth 100000 in
set_option maxHeartbeats 4000000 in
theorem c_X5_layLoose {l : Launch} {D : va_G} {cI cZ : ClassId} {ad adK adV : Nat → Nat} {N : Nat} : ∀ {d : Nat} {v1 v2 : Int} {M M' : zMem} {r : Int}, Search_layLoose N d v1 v2 M = some (r, M') → z_Ct (wC cI cZ ad) D cI cZ adK adV l yX5_layLoose cX5_layLoose 9 none (4 + d) [.ref (ad 48), .int (z_I v1), .long (z_L v2)] M M' none := by
  intro d
  induction d with
  | zero =>
    intro v1 v2 M M' r h
    rw [Search_layLoose] at h
    cases h
  | succ d ih =>
    intro v1 v2 M M' r h
    rw [Search_layLoose] at h
    have hrec : ∀ (v1 v2 : Int) (M : zMem) (r : Int) (M' : zMem), Search_layLoose N d v1 v2 M = some (r, M') → z_Ct (wC cI cZ ad) D cI cZ adK adV l yX5_layLoose cX5_layLoose 9 none (4 + d) [.ref (ad 48), .int (z_I v1), .long (z_L v2)] M M' none := fun _ _ _ _ _ h => ih h
    have hL : 5 ≤ (4 + d) + 1 := by omega
    refine z_entry (own := RX5) rfl (by decide) (Nat.le_of_ble_eq_true rfl) ?_
    intro p e s m args below meth c R A X hr hlk
    have Z := X.1
    refine z_sub (lv' := [(0, .ref (ad 48)), (1, .int (z_I v1)), (2, .long (z_L v2))]) [0, 1, 2] rfl ?_
    refine z_iload_n Z dX5_layLoose_0 rfl 1 rfl ?_
    refine z_aload_n Z dX5_layLoose_1 rfl 0 rfl ?_
    refine gC_X5_15_48 X dX5_layLoose_2 ?_
    refine z_jnr (P := fun (k : zMem → zO) => ∀ (M1 : zMem), k M1 = some (r, M') → z_V p l e R s m args below meth c D A cI cZ 9 (wC cI cZ ad) M' none M1 13 [(0, .ref (ad 48)), (2, .long (z_L v2))] []) h ?_ ?_
    · intro M1 h
      refine z_aload_n Z dX5_layLoose_13 rfl 0 rfl ?_
      refine z_lload_n Z dX5_layLoose_14 rfl 1 rfl ?_
      obtain ⟨u_, M2, hf, h⟩ := z_cld h
      refine z_callVv (Wd := wC cI cZ ad) X (c_X5_judge hf) ml_X5_99 yd_X5_judge yw_X5_judge (by omega) (by decide) (rC_48 X) rfl rfl (Nat.le_of_ble_eq_true rfl) ⟨Nat.zero_le _, Nat.zero_le _⟩ dX5_layLoose_15 ?_
      exact z_vret X hr hlk dX5_layLoose_18 h
    · intro k0 hk0 h
      refine z_icmp_ge (tgt := 13) Z dX5_layLoose_5 (by decide) h (fun h => ?_) (fun h => ?_)
      · refine z_sub [0, 2] rfl ?_
        exact hk0 M h
      · refine z_iload_n Z dX5_layLoose_8 rfl 1 rfl ?_
        refine z_iconst Z dX5_layLoose_9 ?_
        refine z_icmp_lt (tgt := 19) Z dX5_layLoose_10 (by decide) h (fun h => ?_) (fun h => ?_)
        · refine z_aload_n Z dX5_layLoose_19 rfl 0 rfl ?_
          refine gC_X5_9_48 X dX5_layLoose_20 ?_
          refine z_iload_n Z dX5_layLoose_23 rfl 1 rfl ?_
          refine ldC_49 X dX5_layLoose_24 h (fun x0 h => ?_)
          refine z_istore (lv' := [(4, .int (z_I x0)), (0, .ref (ad 48)), (1, .int (z_I v1)), (2, .long (z_L v2))]) Z dX5_layLoose_25 (by decide) rfl ?_
          refine z_iconst Z dX5_layLoose_27 ?_
          refine z_istore (lv' := [(5, .int (z_I 0)), (4, .int (z_I x0)), (0, .ref (ad 48)), (1, .int (z_I v1)), (2, .long (z_L v2))]) Z dX5_layLoose_28 (by decide) rfl ?_
          refine z_iconst Z dX5_layLoose_30 ?_
          refine z_istore (lv' := [(6, .int (z_I 0)), (5, .int (z_I 0)), (4, .int (z_I x0)), (0, .ref (ad 48)), (1, .int (z_I v1)), (2, .long (z_L v2))]) Z dX5_layLoose_31 (by decide) rfl ?_
          refine z_jnr (P := fun (k : zMem → zO) => ∀ (M3 : zMem), k M3 = some (r, M') → z_V p l e R s m args below meth c D A cI cZ 9 (wC cI cZ ad) M' none M3 176 [] []) h ?_ ?_
          · intro M3 h
            exact z_vret X hr hlk dX5_layLoose_176 h
          · intro k1 hk1 h
            refine z_sub [3, 4, 5, 2, 1, 0] rfl ?_
            exact wSearch_layLoose_33 X hr hlk hrec hL N v1 v2 x0 k1 hk1 N 0 0 M h
        · refine z_sub [0, 2] rfl ?_
          exact hk0 M h
set_option maxRecDepth 100000 in
set_option maxHeartbeats 4000000 in
theorem wSearch_takeFixed_2 {p : Program} {l : Launch} {e : Env} {R : Room} {s : State} {m : MethodId} {args : Array Value} {below : List Frame} {meth : Method} {c : Code} {D : va_G} {A : Nat → Prop} {cI cZ : ClassId} {adK adV ad : Nat → Nat} {r : Int} {M' : zMem} (X : z_X p m c cX5_takeFixed 3 s args RX5 R 3 D cI cZ A adK adV) (hr : meth.sig.returnType = none) (hlk : meth.locks = false) (N : Nat) (k : zMem → zO) (hk : ∀ (M : zMem), k M = some (r, M') → z_V p l e R s m args below meth c D A cI cZ 3 (wC cI cZ ad) M' none M 21 [(0, .ref (ad 48))] []) : ∀ (n : Nat) (v1 : Int) (M : zMem), Search_takeFixed_2 N k n v1 M = some (r, M') → z_V p l e R s m args below meth c D A cI cZ 3 (wC cI cZ ad) M' none M 2 [(0, .ref (ad 48)), (1, .int (z_I v1))] [] := by
  have Z := X.1
  intro n
  induction n with
  | zero =>
    intro v1 M h
    rw [Search_takeFixed_2] at h
    cases h
  | succ n ih =>
    intro v1 M h
    rw [Search_takeFixed_2] at h
    refine z_iload_n Z dX5_takeFixed_2 rfl 1 rfl ?_
    refine z_bipush Z dX5_takeFixed_3 rfl ?_
    refine z_icmp_ge (tgt := 21) Z dX5_takeFixed_5 (by decide) h (fun h => ?_) (fun h => ?_)
    · refine z_sub [0] rfl ?_
      exact hk M h
    · refine z_aload_n Z dX5_takeFixed_8 rfl 0 rfl ?_
      refine gC_X5_22_48 X dX5_takeFixed_9 ?_
      refine z_iload_n Z dX5_takeFixed_12 rfl 1 rfl ?_
      refine z_iconst Z dX5_takeFixed_13 ?_
      refine srC_51 X dX5_takeFixed_14 h (fun M1 h => ?_)
      refine z_iincn Z (fun z => [(1, .int (z_I z)), (0, .ref (ad 48))]) dX5_takeFixed_15 (k := 1) rfl (by decide) (fun _ => rfl) h (fun v1_ h => ?_)
      refine z_goto (tgt := 2) Z dX5_takeFixed_18 (by decide) ?_
      refine z_sub [1, 0] rfl ?_
      exact ih v1_ M1 h
set_option maxRecDepth 100000 in
set_option maxHeartbeats 4000000 in
theorem wSearch_takeFixed_28 {p : Program} {l : Launch} {e : Env} {R : Room} {s : State} {m : MethodId} {args : Array Value} {below : List Frame} {meth : Method} {c : Code} {D : va_G} {A : Nat → Prop} {cI cZ : ClassId} {adK adV ad : Nat → Nat} {r : Int} {M' : zMem} (X : z_X p m c cX5_takeFixed 3 s args RX5 R 3 D cI cZ A adK adV) (hr : meth.sig.returnType = none) (hlk : meth.locks = false) (N : Nat) (k : zMem → zO) (hk : ∀ (M : zMem), k M = some (r, M') → z_V p l e R s m args below meth c D A cI cZ 3 (wC cI cZ ad) M' none M 111 [] []) : ∀ (n : Nat) (v1 : Int) (M : zMem), Search_takeFixed_28 N k n v1 M = some (r, M') → z_V p l e R s m args below meth c D A cI cZ 3 (wC cI cZ ad) M' none M 28 [(0, .ref (ad 48)), (1, .int (z_I v1))] [] := by
  have Z := X.1
  intro n
  induction n with
  | zero =>
    intro v1 M h
    rw [Search_takeFixed_28] at h
    cases h
  | succ n ih =>
    intro v1 M h
    rw [Search_takeFixed_28] at h
    refine z_iload_n Z dX5_takeFixed_28 rfl 1 rfl ?_
    refine z_aload_n Z dX5_takeFixed_29 rfl 0 rfl ?_
    refine gC_X5_49_48 X dX5_takeFixed_30 ?_
    refine gC_X5_78_19 X dX5_takeFixed_33 ?_
    refine z_icmp_ge (tgt := 111) Z dX5_takeFixed_36 (by decide) h (fun h => ?_) (fun h => ?_)
    · refine z_sub [] rfl ?_
      exact hk M h
    · refine z_aload_n Z dX5_takeFixed_39 rfl 0 rfl ?_
      refine gC_X5_49_48 X dX5_takeFixed_40 ?_
      refine gC_X5_81_19 X dX5_takeFixed_43 ?_
      refine z_iload_n Z dX5_takeFixed_46 rfl 1 rfl ?_
      refine ldC_21 X dX5_takeFixed_47 h (fun x0 h => ?_)
      refine z_istore_n (lv' := [(2, .int (z_I x0)), (0, .ref (ad 48)), (1, .int (z_I v1))]) Z dX5_takeFixed_48 rfl (by decide) rfl ?_
      refine z_aload_n Z dX5_takeFixed_49 rfl 1 rfl ?_
      refine gC_X5_19_48 X dX5_takeFixed_50 ?_
      refine z_iload_n Z dX5_takeFixed_53 rfl 2 rfl ?_
      refine z_iload_n Z dX5_takeFixed_54 rfl 0 rfl ?_
      refine srC_50 X dX5_takeFixed_55 h (fun M1 h => ?_)
      refine z_aload_n Z dX5_takeFixed_56 rfl 1 rfl ?_
      refine gC_X5_49_48 X dX5_takeFixed_57 ?_
      refine z_iload_n Z dX5_takeFixed_60 rfl 0 rfl ?_
      obtain ⟨r_, M2, hf, h⟩ := z_cld h
      refine z_callVi (Wd := wC cI cZ ad) X (c_X3_isAddress hf) ml_X5_84 yd_X3_isAddress yw_X3_isAddress (by omega) (by decide) (rC_19 X) rfl rfl (Nat.le_of_ble_eq_true rfl) ⟨Nat.zero_le _, Nat.zero_le _⟩ dX5_takeFixed_61 ?_
      refine z_jnr (P := fun (k : zMem → zO) => ∀ (M3 : zMem), k M3 = some (r, M') → z_V p l e R s m args below meth c D A cI cZ 3 (wC cI cZ ad) M' none M3 105 [(0, .ref (ad 48)), (1, .int (z_I v1))] []) h ?_ ?_
      · intro M3 h
        refine z_iincn Z (fun z => [(1, .int (z_I z)), (0, .ref (ad 48))]) dX5_takeFixed_105 (k := 1) rfl (by decide) (fun _ => rfl) h (fun v1_ h => ?_)
        refine z_goto (tgt := 28) Z dX5_takeFixed_108 (by decide) ?_
        refine z_sub [1, 0] rfl ?_
        exact ih v1_ M3 h
      · intro k1 hk1 h
        refine z_if_eq (tgt := 77) Z dX5_takeFixed_64 (by decide) h (fun h => ?_) (fun h => ?_)
        · refine z_aload_n Z dX5_takeFixed_77 rfl 1 rfl ?_
          refine gC_X5_15_48 X dX5_takeFixed_78 ?_
          refine z_iconst Z dX5_takeFixed_81 ?_
          refine z_icmp_ge (tgt := 105) Z dX5_takeFixed_82 (by decide) h (fun h => ?_) (fun h => ?_)
          · refine z_sub [1, 2] rfl ?_
            exact hk1 M2 h
          · refine z_aload_n Z dX5_takeFixed_85 rfl 1 rfl ?_
            refine gC_X5_9_48 X dX5_takeFixed_86 ?_
            refine z_aload_n Z dX5_takeFixed_89 rfl 1 rfl ?_
            refine gC_X5_15_48 X dX5_takeFixed_90 ?_
            refine z_iload_n Z dX5_takeFixed_93 rfl 2 rfl ?_
            refine srC_49 X dX5_takeFixed_94 h (fun M4 h => ?_)
            refine z_aload_n Z dX5_takeFixed_95 rfl 1 rfl ?_
            refine z_dup Z dX5_takeFixed_96 rfl ?_
            refine gC_X5_15_48 X dX5_takeFixed_97 ?_
            refine z_iconst Z dX5_takeFixed_100 ?_
            refine z_iadd Z dX5_takeFixed_101 ?_
            refine pC_X5_15_48 X dX5_takeFixed_102 h (fun M5 h => ?_)
            refine z_sub [1, 2] rfl ?_
            exact hk1 M5 h
        · refine z_aload_n Z dX5_takeFixed_67 rfl 1 rfl ?_
          refine gC_X5_22_48 X dX5_takeFixed_68 ?_
          refine z_iload_n Z dX5_takeFixed_71 rfl 0 rfl ?_
          refine z_iconst Z dX5_takeFixed_72 ?_
          refine srC_51 X dX5_takeFixed_73 h (fun M6 h => ?_)
          refine z_goto (tgt := 105) Z dX5_takeFixed_74 (by decide) ?_
          refine z_sub [1, 2] rfl ?_
          exact hk1 M6 h
set_option maxRecDepth 100000 in
set_option maxHeartbeats 4000000 in
theorem c_X5_takeFixed {l : Launch} {D : va_G} {cI cZ : ClassId} {ad adK adV : Nat → Nat} {N : Nat} {M M' : zMem} {r : Int} (h : Search_takeFixed N M = some (r, M')) : z_Ct (wC cI cZ ad) D cI cZ adK adV l yX5_takeFixed cX5_takeFixed 3 none 3 [.ref (ad 48)] M M' none := by
  unfold Search_takeFixed at h
  refine z_entry (own := RX5) rfl (by decide) (Nat.le_of_ble_eq_true rfl) ?_
  intro p e s m args below meth c R A X hr hlk
  have Z := X.1
  refine z_sub (lv' := [(0, .ref (ad 48))]) [0] rfl ?_
  refine z_iconst Z dX5_takeFixed_0 ?_
  refine z_istore_n (lv' := [(1, .int (z_I 0)), (0, .ref (ad 48))]) Z dX5_takeFixed_1 rfl (by decide) rfl ?_
  refine z_jnr (P := fun (k : zMem → zO) => ∀ (M1 : zMem), k M1 = some (r, M') → z_V p l e R s m args below meth c D A cI cZ 3 (wC cI cZ ad) M' none M1 21 [(0, .ref (ad 48))] []) h ?_ ?_
  · intro M1 h
    refine z_aload_n Z dX5_takeFixed_21 rfl 0 rfl ?_
    refine z_iconst Z dX5_takeFixed_22 ?_
    refine pC_X5_15_48 X dX5_takeFixed_23 h (fun M2 h => ?_)
    refine z_iconst Z dX5_takeFixed_26 ?_
    refine z_istore_n (lv' := [(1, .int (z_I 0)), (0, .ref (ad 48))]) Z dX5_takeFixed_27 rfl (by decide) rfl ?_
    refine z_jnr (P := fun (k : zMem → zO) => ∀ (M3 : zMem), k M3 = some (r, M') → z_V p l e R s m args below meth c D A cI cZ 3 (wC cI cZ ad) M' none M3 111 [] []) h ?_ ?_
    · intro M3 h
      exact z_vret X hr hlk dX5_takeFixed_111 h
    · intro k1 hk1 h
      refine z_sub [1, 0] rfl ?_
      exact wSearch_takeFixed_28 X hr hlk N k1 hk1 N 0 M2 h
  · intro k0 hk0 h
    refine z_sub [1, 0] rfl ?_
    exact wSearch_takeFixed_2 X hr hlk N k0 hk0 N 0 M h
set_option maxRecDepth 100000 in
set_option maxHeartbeats 4000000 in
theorem c_X5_look {l : Launch} {D : va_G} {cI cZ : ClassId} {ad adK adV : Nat → Nat} {N : Nat} {M M' : zMem} {r : Int} (h : Search_look N M = some (r, M')) : z_Ct (wC cI cZ ad) D cI cZ adK adV l yX5_look cX5_look 1 none 12 [.ref (ad 48)] M M' none := by
  unfold Search_look at h
  refine z_entry (own := RX5) rfl (by decide) (Nat.le_of_ble_eq_true rfl) ?_
  intro p e s m args below meth c R A X hr hlk
  have Z := X.1
  refine z_sub (lv' := [(0, .ref (ad 48))]) [0] rfl ?_
  refine z_aload_n Z dX5_look_0 rfl 0 rfl ?_
  refine gC_X5_32_48 X dX5_look_1 ?_
  refine z_if_eq (tgt := 8) Z dX5_look_4 (by decide) h (fun h => ?_) (fun h => ?_)
  · refine z_aload_n Z dX5_look_8 rfl 0 rfl ?_
    refine z_iconst Z dX5_look_9 ?_
    refine pC_X5_32_48 X dX5_look_10 h (fun M1 h => ?_)
    refine z_aload_n Z dX5_look_13 rfl 0 rfl ?_
    refine z_iconst Z dX5_look_14 ?_
    refine pC_X5_36_48 X dX5_look_15 h (fun M2 h => ?_)
    refine z_aload_n Z dX5_look_18 rfl 0 rfl ?_
    refine z_iconst Z dX5_look_19 ?_
    refine pC_X5_39_48 X dX5_look_20 h (fun M3 h => ?_)
    refine z_aload_n Z dX5_look_23 rfl 0 rfl ?_
    refine z_lconst (x := 0) Z dX5_look_24 rfl ?_
    refine pC_X5_42_48 X dX5_look_25 h (fun M4 h => ?_)
    refine z_aload_n Z dX5_look_28 rfl 0 rfl ?_
    obtain ⟨u_, M5, hf, h⟩ := z_cld h
    refine z_callVv (Wd := wC cI cZ ad) X (c_X5_takeFixed hf) ml_X5_57 yd_X5_takeFixed yw_X5_takeFixed (by omega) (by decide) (rC_48 X) rfl rfl (Nat.le_of_ble_eq_true rfl) ⟨Nat.zero_le _, Nat.zero_le _⟩ dX5_look_29 ?_
    refine z_aload_n Z dX5_look_32 rfl 0 rfl ?_
    obtain ⟨u_1, M6, hf1, h⟩ := z_cld h
    refine z_callVv (Wd := wC cI cZ ad) X (c_X5_groupAddresses hf1) ml_X5_60 yd_X5_groupAddresses yw_X5_groupAddresses (by omega) (by decide) (rC_48 X) rfl rfl (Nat.le_of_ble_eq_true rfl) ⟨Nat.zero_le _, Nat.zero_le _⟩ dX5_look_33 ?_
    refine z_aload_n Z dX5_look_36 rfl 0 rfl ?_
    refine gC_X5_53_48 X dX5_look_37 ?_
    refine z_aload_n Z dX5_look_40 rfl 0 rfl ?_
    refine gC_X5_19_48 X dX5_look_41 ?_
    refine z_aload_n Z dX5_look_44 rfl 0 rfl ?_
    refine gC_X5_49_48 X dX5_look_45 ?_
    refine gC_X5_63_19 X dX5_look_48 ?_
    obtain ⟨u_2, M7, hf2, h⟩ := z_cld h
    refine z_callVv (Wd := wC cI cZ ad) X (c_X1_aim (Or.inr (Or.inl rfl)) hf2) ml_X5_68 yd_X1_aim yw_X1_aim (by omega) (by decide) (rC_41 X) rfl rfl (Nat.le_of_ble_eq_true rfl) ⟨Nat.zero_le _, Nat.zero_le _⟩ dX5_look_51 ?_
    refine z_aload_n Z dX5_look_54 rfl 0 rfl ?_
    refine z_iconst Z dX5_look_55 ?_
    refine z_lconst (x := 1) Z dX5_look_56 rfl ?_
    obtain ⟨u_3, M8, hf3, h⟩ := z_cld h
    refine z_callVv (Wd := wC cI cZ ad) X (c_X5_layLoose hf3) ml_X5_74 yd_X5_layLoose yw_X5_layLoose (by omega) (by decide) (rC_48 X) rfl rfl (Nat.le_of_ble_eq_true rfl) ⟨Nat.zero_le _, Nat.zero_le _⟩ dX5_look_57 ?_
    exact z_vret X hr hlk dX5_look_60 h
  · exact z_vret X hr hlk dX5_look_7 h
set_option maxRecDepth 100000 in
set_option maxHeartbeats 4000000 in
theorem c_X9_layBy {l : Launch} {D : va_G} {cI cZ : ClassId} {ad adK adV : Nat → Nat} {N : Nat} {ca : Nat} (hcell : ca = 58 ∨ ca = 57) {v1 : Int} {M M' : zMem} {r : Int} (h : Drum_layBy N ca v1 M = some (r, M')) : z_Ct (wC cI cZ ad) D cI cZ adK adV l yX9_layBy cX9_layBy 3 none 13 [.ref (ad 0), .int (z_I v1), .ref (ad ca)] M M' none := by
  unfold Drum_layBy at h
  rcases hcell with rfl | rfl
  · refine z_entry (own := RX9) rfl (by decide) (Nat.le_of_ble_eq_true rfl) ?_
    intro p e s m args below meth c R A X hr hlk
    have Z := X.1
    refine z_sub (lv' := [(0, .ref (ad 0)), (1, .int (z_I v1)), (2, .ref (ad 58))]) [0, 1, 2] rfl ?_
    refine z_iload_n Z dX9_layBy_0 rfl 1 rfl ?_
    refine z_if_ne (tgt := 15) Z dX9_layBy_1 (by decide) h (fun h => ?_) (fun h => ?_)
    · refine z_iload_n Z dX9_layBy_15 rfl 1 rfl ?_
      refine z_iconst Z dX9_layBy_16 ?_
      refine z_icmp_ne (tgt := 31) Z dX9_layBy_17 (by decide) h (fun h => ?_) (fun h => ?_)
      · refine z_aload_n Z dX9_layBy_31 rfl 0 rfl ?_
        refine gC_X9_67_0 X dX9_layBy_32 ?_
        obtain ⟨u_, M1, hf, h⟩ := z_cld h
        refine z_callVv (Wd := wC cI cZ ad) X (c_X5_look hf) ml_X9_250 yd_X5_look yw_X5_look (by omega) (by decide) (rC_48 X) rfl rfl (Nat.le_of_ble_eq_true rfl) ⟨Nat.zero_le _, Nat.zero_le _⟩ dX9_layBy_35 ?_
        refine z_aload_n Z dX9_layBy_38 rfl 0 rfl ?_
        refine gC_X9_67_0 X dX9_layBy_39 ?_
        refine gC_X9_292_48 X dX9_layBy_42 ?_
        refine z_aload_n Z dX9_layBy_45 rfl 2 rfl ?_
        obtain ⟨u_1, M2, hf1, h⟩ := z_cld h
        refine z_callSv (Wd := wC cI cZ ad) X (c_X9_copyItems (Or.inr (Or.inr (Or.inr (Or.inr (Or.inr (Or.inr (Or.inr (Or.inr (Or.inr (Or.inr (Or.inl ⟨rfl, rfl⟩))))))))))) hf1) ml_X9_295 yd_X9_copyItems yw_X9_copyItems (by omega) (by decide) rfl rfl (Nat.le_of_ble_eq_true rfl) ⟨Nat.zero_le _, Nat.zero_le _⟩ dX9_layBy_46 ?_
        exact z_vret X hr hlk dX9_layBy_49 h
      · refine z_aload_n Z dX9_layBy_20 rfl 0 rfl ?_
        refine gC_X9_58_0 X dX9_layBy_21 ?_
        refine z_aload_n Z dX9_layBy_24 rfl 2 rfl ?_
        obtain ⟨u_2, M3, hf2, h⟩ := z_cld h
        refine z_callVv (Wd := wC cI cZ ad) X (c_X2_laySoonest (Or.inl rfl) hf2) ml_X9_289 yd_X2_laySoonest yw_X2_laySoonest (by omega) (by decide) (rC_46 X) rfl rfl (Nat.le_of_ble_eq_true rfl) ⟨Nat.zero_le _, Nat.zero_le _⟩ dX9_layBy_25 ?_
        refine z_goto (tgt := 49) Z dX9_layBy_28 (by decide) ?_
        exact z_vret X hr hlk dX9_layBy_49 h
    · refine z_aload_n Z dX9_layBy_4 rfl 0 rfl ?_
      refine gC_X9_58_0 X dX9_layBy_5 ?_
      refine z_aload_n Z dX9_layBy_8 rfl 2 rfl ?_
      obtain ⟨u_3, M4, hf3, h⟩ := z_cld h
      refine z_callVv (Wd := wC cI cZ ad) X (c_X2_layInOrder (Or.inr (rfl)) hf3) ml_X9_110 yd_X2_layInOrder yw_X2_layInOrder (by omega) (by decide) (rC_46 X) rfl rfl (Nat.le_of_ble_eq_true rfl) ⟨Nat.zero_le _, Nat.zero_le _⟩ dX9_layBy_9 ?_
      refine z_goto (tgt := 49) Z dX9_layBy_12 (by decide) ?_
      exact z_vret X hr hlk dX9_layBy_49 h
  · refine z_entry (own := RX9) rfl (by decide) (Nat.le_of_ble_eq_true rfl) ?_
    intro p e s m args below meth c R A X hr hlk
    have Z := X.1
    refine z_sub (lv' := [(0, .ref (ad 0)), (1, .int (z_I v1)), (2, .ref (ad 57))]) [0, 1, 2] rfl ?_
    refine z_iload_n Z dX9_layBy_0 rfl 1 rfl ?_
    refine z_if_ne (tgt := 15) Z dX9_layBy_1 (by decide) h (fun h => ?_) (fun h => ?_)
    · refine z_iload_n Z dX9_layBy_15 rfl 1 rfl ?_
      refine z_iconst Z dX9_layBy_16 ?_
      refine z_icmp_ne (tgt := 31) Z dX9_layBy_17 (by decide) h (fun h => ?_) (fun h => ?_)
      · refine z_aload_n Z dX9_layBy_31 rfl 0 rfl ?_
        refine gC_X9_67_0 X dX9_layBy_32 ?_
        obtain ⟨u_, M1, hf, h⟩ := z_cld h
        refine z_callVv (Wd := wC cI cZ ad) X (c_X5_look hf) ml_X9_250 yd_X5_look yw_X5_look (by omega) (by decide) (rC_48 X) rfl rfl (Nat.le_of_ble_eq_true rfl) ⟨Nat.zero_le _, Nat.zero_le _⟩ dX9_layBy_35 ?_
        refine z_aload_n Z dX9_layBy_38 rfl 0 rfl ?_
        refine gC_X9_67_0 X dX9_layBy_39 ?_
        refine gC_X9_292_48 X dX9_layBy_42 ?_
        refine z_aload_n Z dX9_layBy_45 rfl 2 rfl ?_
        obtain ⟨u_1, M2, hf1, h⟩ := z_cld h
        refine z_callSv (Wd := wC cI cZ ad) X (c_X9_copyItems (Or.inr (Or.inr (Or.inr (Or.inr (Or.inr (Or.inr (Or.inr (Or.inr (Or.inr (Or.inr (Or.inr (⟨rfl, rfl⟩)))))))))))) hf1) ml_X9_295 yd_X9_copyItems yw_X9_copyItems (by omega) (by decide) rfl rfl (Nat.le_of_ble_eq_true rfl) ⟨Nat.zero_le _, Nat.zero_le _⟩ dX9_layBy_46 ?_
        exact z_vret X hr hlk dX9_layBy_49 h
      · refine z_aload_n Z dX9_layBy_20 rfl 0 rfl ?_
        refine gC_X9_58_0 X dX9_layBy_21 ?_
        refine z_aload_n Z dX9_layBy_24 rfl 2 rfl ?_
        obtain ⟨u_2, M3, hf2, h⟩ := z_cld h
        refine z_callVv (Wd := wC cI cZ ad) X (c_X2_laySoonest (Or.inr (rfl)) hf2) ml_X9_289 yd_X2_laySoonest yw_X2_laySoonest (by omega) (by decide) (rC_46 X) rfl rfl (Nat.le_of_ble_eq_true rfl) ⟨Nat.zero_le _, Nat.zero_le _⟩ dX9_layBy_25 ?_
        refine z_goto (tgt := 49) Z dX9_layBy_28 (by decide) ?_
        exact z_vret X hr hlk dX9_layBy_49 h
    · refine z_aload_n Z dX9_layBy_4 rfl 0 rfl ?_
      refine gC_X9_58_0 X dX9_layBy_5 ?_
      refine z_aload_n Z dX9_layBy_8 rfl 2 rfl ?_
      obtain ⟨u_3, M4, hf3, h⟩ := z_cld h
      refine z_callVv (Wd := wC cI cZ ad) X (c_X2_layInOrder (Or.inl rfl) hf3) ml_X9_110 yd_X2_layInOrder yw_X2_layInOrder (by omega) (by decide) (rC_46 X) rfl rfl (Nat.le_of_ble_eq_true rfl) ⟨Nat.zero_le _, Nat.zero_le _⟩ dX9_layBy_9 ?_
      refine z_goto (tgt := 49) Z dX9_layBy_12 (by decide) ?_
      exact z_vret X hr hlk dX9_layBy_49 h
set_option maxRecDepth 100000 in
set_option maxHeartbeats 4000000 in
theorem c_X9_refusalOfLaw {l : Launch} {D : va_G} {cI cZ : ClassId} {ad adK adV : Nat → Nat} {N : Nat} {v1 : Int} {M M' : zMem} {r : Int} (h : Drum_refusalOfLaw N v1 M = some (r, M')) : z_Ct (wC cI cZ ad) D cI cZ adK adV l yX9_refusalOfLaw cX9_refusalOfLaw 2 (some .int) 2 [.ref (ad 0), .int (z_I v1)] M M' (some (.int (z_I r))) := by
  unfold Drum_refusalOfLaw at h
  refine z_entry (own := RX9) rfl (by decide) (Nat.le_of_ble_eq_true rfl) ?_
  intro p e s m args below meth c R A X hr hlk
  have Z := X.1
  refine z_sub (lv' := [(0, .ref (ad 0)), (1, .int (z_I v1))]) [0, 1] rfl ?_
  refine z_aload_n Z dX9_refusalOfLaw_0 rfl 0 rfl ?_
  refine gC_X9_42_0 X dX9_refusalOfLaw_1 ?_
  refine gC_X9_141_19 X dX9_refusalOfLaw_4 ?_
  refine z_if_eq (tgt := 19) Z dX9_refusalOfLaw_7 (by decide) h (fun h => ?_) (fun h => ?_)
  · refine z_bipush Z dX9_refusalOfLaw_19 rfl ?_
    exact z_iret X hr hlk dX9_refusalOfLaw_21 h
  · refine z_iload_n Z dX9_refusalOfLaw_10 rfl 1 rfl ?_
    refine z_if_lt (tgt := 19) Z dX9_refusalOfLaw_11 (by decide) h (fun h => ?_) (fun h => ?_)
    · refine z_bipush Z dX9_refusalOfLaw_19 rfl ?_
      exact z_iret X hr hlk dX9_refusalOfLaw_21 h
    · refine z_iload_n Z dX9_refusalOfLaw_14 rfl 1 rfl ?_
      refine z_iconst Z dX9_refusalOfLaw_15 ?_
      refine z_icmp_le (tgt := 22) Z dX9_refusalOfLaw_16 (by decide) h (fun h => ?_) (fun h => ?_)
      · refine z_iload_n Z dX9_refusalOfLaw_22 rfl 1 rfl ?_
        refine z_iconst Z dX9_refusalOfLaw_23 ?_
        refine z_jnr (P := fun (k : zMem → zO) => ∀ (M1 : zMem), k M1 = some (r, M') → z_V p l e R s m args below meth c D A cI cZ 2 (wC cI cZ ad) M' (some (.int (z_I r))) M1 43 [] []) h ?_ ?_
        · intro M1 h
          refine z_iconst Z dX9_refusalOfLaw_43 ?_
          exact z_iret X hr hlk dX9_refusalOfLaw_44 h
        · intro k0 hk0 h
          refine z_icmp_ne (tgt := 43) Z dX9_refusalOfLaw_24 (by decide) h (fun h => ?_) (fun h => ?_)
          · refine z_sub [] rfl ?_
            exact hk0 M h
          · refine z_aload_n Z dX9_refusalOfLaw_27 rfl 0 rfl ?_
            refine gC_X9_42_0 X dX9_refusalOfLaw_28 ?_
            obtain ⟨r_, M2, hf, h⟩ := z_cld h
            refine z_callVi (Wd := wC cI cZ ad) X (c_X3_loose hf) ml_X9_144 yd_X3_loose yw_X3_loose (by omega) (by decide) (rC_19 X) rfl rfl (Nat.le_of_ble_eq_true rfl) ⟨Nat.zero_le _, Nat.zero_le _⟩ dX9_refusalOfLaw_31 ?_
            refine z_iconst Z dX9_refusalOfLaw_34 ?_
            refine z_icmp_le (tgt := 43) Z dX9_refusalOfLaw_35 (by decide) h (fun h => ?_) (fun h => ?_)
            · refine z_sub [] rfl ?_
              exact hk0 M2 h
            · refine z_bipush Z dX9_refusalOfLaw_38 rfl ?_
              refine z_goto (tgt := 44) Z dX9_refusalOfLaw_40 (by decide) ?_
              exact z_iret X hr hlk dX9_refusalOfLaw_44 h
      · refine z_bipush Z dX9_refusalOfLaw_19 rfl ?_
        exact z_iret X hr hlk dX9_refusalOfLaw_21 h
set_option maxRecDepth 100000 in
set_option maxHeartbeats 4000000 in
theorem c_X9_lawful {l : Launch} {D : va_G} {cI cZ : ClassId} {ad adK adV : Nat → Nat} {N : Nat} {v1 : Int} {M M' : zMem} {r : Int} (h : Drum_lawful N v1 M = some (r, M')) : z_Ct (wC cI cZ ad) D cI cZ adK adV l yX9_lawful cX9_lawful 3 (some .int) 14 [.ref (ad 0), .int (z_I v1)] M M' (some (.int (z_I r))) := by
  unfold Drum_lawful at h
  refine z_entry (own := RX9) rfl (by decide) (Nat.le_of_ble_eq_true rfl) ?_
  intro p e s m args below meth c R A X hr hlk
  have Z := X.1
  refine z_sub (lv' := [(0, .ref (ad 0)), (1, .int (z_I v1))]) [0, 1] rfl ?_
  refine z_aload_n Z dX9_lawful_0 rfl 0 rfl ?_
  refine z_iload_n Z dX9_lawful_1 rfl 1 rfl ?_
  obtain ⟨r_, M1, hf, h⟩ := z_cld h
  refine z_callVi (Wd := wC cI cZ ad) X (c_X9_refusalOfLaw hf) ml_X9_243 yd_X9_refusalOfLaw yw_X9_refusalOfLaw (by omega) (by decide) (rC_0 X) rfl rfl (Nat.le_of_ble_eq_true rfl) ⟨Nat.zero_le _, Nat.zero_le _⟩ dX9_lawful_2 ?_
  refine z_istore_n (lv' := [(2, .int (z_I r_)), (0, .ref (ad 0)), (1, .int (z_I v1))]) Z dX9_lawful_5 rfl (by decide) rfl ?_
  refine z_iload_n Z dX9_lawful_6 rfl 0 rfl ?_
  refine z_if_eq (tgt := 12) Z dX9_lawful_7 (by decide) h (fun h => ?_) (fun h => ?_)
  · refine z_aload_n Z dX9_lawful_12 rfl 1 rfl ?_
    refine z_iload_n Z dX9_lawful_13 rfl 2 rfl ?_
    refine z_aload_n Z dX9_lawful_14 rfl 1 rfl ?_
    refine gC_X9_82_0 X dX9_lawful_15 ?_
    obtain ⟨u_, M2, hf1, h⟩ := z_cld h
    refine z_callVv (Wd := wC cI cZ ad) X (c_X9_layBy (Or.inl rfl) hf1) ml_X9_246 yd_X9_layBy yw_X9_layBy (by omega) (by decide) (rC_0 X) rfl rfl (Nat.le_of_ble_eq_true rfl) ⟨Nat.zero_le _, Nat.zero_le _⟩ dX9_lawful_18 ?_
    refine z_aload_n Z dX9_lawful_21 rfl 1 rfl ?_
    refine gC_X9_49_0 X dX9_lawful_22 ?_
    refine z_aload_n Z dX9_lawful_25 rfl 1 rfl ?_
    refine gC_X9_82_0 X dX9_lawful_26 ?_
    refine z_aload_n Z dX9_lawful_29 rfl 1 rfl ?_
    refine gC_X9_42_0 X dX9_lawful_30 ?_
    refine gC_X9_129_19 X dX9_lawful_33 ?_
    refine z_aload_n Z dX9_lawful_36 rfl 1 rfl ?_
    refine gC_X9_42_0 X dX9_lawful_37 ?_
    refine gC_X9_132_19 X dX9_lawful_40 ?_
    obtain ⟨r_1, M3, hf2, h⟩ := z_cld h
    refine z_callVi (Wd := wC cI cZ ad) X (c_X1_measure (Or.inr (rfl)) hf2) ml_X9_216 yd_X1_measure yw_X1_measure (by omega) (by decide) (rC_41 X) rfl rfl (Nat.le_of_ble_eq_true rfl) ⟨Nat.zero_le _, Nat.zero_le _⟩ dX9_lawful_43 ?_
    exact z_iret X hr hlk dX9_lawful_46 h
  · refine z_iload_n Z dX9_lawful_10 rfl 0 rfl ?_
    exact z_iret X hr hlk dX9_lawful_11 h
set_option maxRecDepth 100000 in
set_option maxHeartbeats 4000000 in
theorem c_X9_address {l : Launch} {D : va_G} {cI cZ : ClassId} {ad adK adV : Nat → Nat} {N : Nat} {v1 v2 : Int} {M M' : zMem} {r : Int} (h : Drum_address N v1 v2 M = some (r, M')) : z_Ct (wC cI cZ ad) D cI cZ adK adV l yX9_address cX9_address 4 (some .int) 14 [.ref (ad 0), .int (z_I v1), .int (z_I v2)] M M' (some (.int (z_I r))) := by
  unfold Drum_address at h
  refine z_entry (own := RX9) rfl (by decide) (Nat.le_of_ble_eq_true rfl) ?_
  intro p e s m args below meth c R A X hr hlk
  have Z := X.1
  refine z_sub (lv' := [(0, .ref (ad 0)), (1, .int (z_I v1)), (2, .int (z_I v2))]) [0, 1, 2] rfl ?_
  refine z_aload_n Z dX9_address_0 rfl 0 rfl ?_
  refine z_iload_n Z dX9_address_1 rfl 1 rfl ?_
  obtain ⟨r_, M1, hf, h⟩ := z_cld h
  refine z_callVi (Wd := wC cI cZ ad) X (c_X9_refusalOfLaw hf) ml_X9_243 yd_X9_refusalOfLaw yw_X9_refusalOfLaw (by omega) (by decide) (rC_0 X) rfl rfl (Nat.le_of_ble_eq_true rfl) ⟨Nat.zero_le _, Nat.zero_le _⟩ dX9_address_2 ?_
  refine z_istore_n (lv' := [(3, .int (z_I r_)), (0, .ref (ad 0)), (1, .int (z_I v1)), (2, .int (z_I v2))]) Z dX9_address_5 rfl (by decide) rfl ?_
  refine z_iload_n Z dX9_address_6 rfl 0 rfl ?_
  refine z_bipush Z dX9_address_7 rfl ?_
  refine z_icmp_eq (tgt := 23) Z dX9_address_9 (by decide) h (fun h => ?_) (fun h => ?_)
  · refine z_bipush Z dX9_address_23 rfl ?_
    exact z_iret X hr hlk dX9_address_25 h
  · refine z_aload_n Z dX9_address_12 rfl 1 rfl ?_
    refine gC_X9_42_0 X dX9_address_13 ?_
    refine z_iload_n Z dX9_address_16 rfl 3 rfl ?_
    obtain ⟨r_1, M2, hf1, h⟩ := z_cld h
    refine z_callVi (Wd := wC cI cZ ad) X (c_X3_isItem (Or.inr (rfl)) hf1) ml_X9_148 yd_X3_isItem yw_X3_isItem (by omega) (by decide) (rC_19 X) rfl rfl (Nat.le_of_ble_eq_true rfl) ⟨Nat.zero_le _, Nat.zero_le _⟩ dX9_address_17 ?_
    refine z_if_ne (tgt := 26) Z dX9_address_20 (by decide) h (fun h => ?_) (fun h => ?_)
    · refine z_iload_n Z dX9_address_26 rfl 0 rfl ?_
      refine z_if_eq (tgt := 32) Z dX9_address_27 (by decide) h (fun h => ?_) (fun h => ?_)
      · refine z_aload_n Z dX9_address_32 rfl 1 rfl ?_
        refine z_iload_n Z dX9_address_33 rfl 2 rfl ?_
        refine z_aload_n Z dX9_address_34 rfl 1 rfl ?_
        refine gC_X9_82_0 X dX9_address_35 ?_
        obtain ⟨u_, M3, hf2, h⟩ := z_cld h
        refine z_callVv (Wd := wC cI cZ ad) X (c_X9_layBy (Or.inl rfl) hf2) ml_X9_246 yd_X9_layBy yw_X9_layBy (by omega) (by decide) (rC_0 X) rfl rfl (Nat.le_of_ble_eq_true rfl) ⟨Nat.zero_le _, Nat.zero_le _⟩ dX9_address_38 ?_
        refine z_aload_n Z dX9_address_41 rfl 1 rfl ?_
        refine gC_X9_82_0 X dX9_address_42 ?_
        refine z_iload_n Z dX9_address_45 rfl 3 rfl ?_
        refine ldC_58 X dX9_address_46 h (fun x0 h => ?_)
        exact z_iret X hr hlk dX9_address_47 h
      · refine z_iload_n Z dX9_address_30 rfl 0 rfl ?_
        exact z_iret X hr hlk dX9_address_31 h
    · refine z_bipush Z dX9_address_23 rfl ?_
      exact z_iret X hr hlk dX9_address_25 h
set_option maxRecDepth 100000 in
set_option maxHeartbeats 4000000 in
theorem c_X9_ways {l : Launch} {D : va_G} {cI cZ : ClassId} {ad adK adV : Nat → Nat} {N : Nat} {M M' : zMem} {r : Int} (h : Drum_ways N M = some (r, M')) : z_Ct (wC cI cZ ad) D cI cZ adK adV l yX9_ways cX9_ways 2 (some .long) 13 [.ref (ad 0)] M M' (some (.long (z_L r))) := by
  unfold Drum_ways at h
  refine z_entry (own := RX9) rfl (by decide) (Nat.le_of_ble_eq_true rfl) ?_
  intro p e s m args below meth c R A X hr hlk
  have Z := X.1
  refine z_sub (lv' := [(0, .ref (ad 0))]) [0] rfl ?_
  refine z_aload_n Z dX9_ways_0 rfl 0 rfl ?_
  refine z_iconst Z dX9_ways_1 ?_
  obtain ⟨r_, M1, hf, h⟩ := z_cld h
  refine z_callVi (Wd := wC cI cZ ad) X (c_X9_refusalOfLaw hf) ml_X9_243 yd_X9_refusalOfLaw yw_X9_refusalOfLaw (by omega) (by decide) (rC_0 X) rfl rfl (Nat.le_of_ble_eq_true rfl) ⟨Nat.zero_le _, Nat.zero_le _⟩ dX9_ways_2 ?_
  refine z_istore_n (lv' := [(1, .int (z_I r_)), (0, .ref (ad 0))]) Z dX9_ways_5 rfl (by decide) rfl ?_
  refine z_iload_n Z dX9_ways_6 rfl 0 rfl ?_
  refine z_if_eq (tgt := 13) Z dX9_ways_7 (by decide) h (fun h => ?_) (fun h => ?_)
  · refine z_aload_n Z dX9_ways_13 rfl 1 rfl ?_
    refine gC_X9_67_0 X dX9_ways_14 ?_
    obtain ⟨u_, M2, hf1, h⟩ := z_cld h
    refine z_callVv (Wd := wC cI cZ ad) X (c_X5_look hf1) ml_X9_250 yd_X5_look yw_X5_look (by omega) (by decide) (rC_48 X) rfl rfl (Nat.le_of_ble_eq_true rfl) ⟨Nat.zero_le _, Nat.zero_le _⟩ dX9_ways_17 ?_
    refine z_aload_n Z dX9_ways_20 rfl 1 rfl ?_
    refine gC_X9_67_0 X dX9_ways_21 ?_
    refine gC_X9_253_48 X dX9_ways_24 ?_
    exact z_lret X hr hlk dX9_ways_27 h
  · refine z_iload_n Z dX9_ways_10 rfl 0 rfl ?_
    refine z_i2l Z dX9_ways_11 h (fun x0 h => ?_)
    exact z_lret X hr hlk dX9_ways_12 h
set_option maxRecDepth 100000 in
set_option maxHeartbeats 4000000 in
theorem c_X9_dearest {l : Launch} {D : va_G} {cI cZ : ClassId} {ad adK adV : Nat → Nat} {N : Nat} {M M' : zMem} {r : Int} (h : Drum_dearest N M = some (r, M')) : z_Ct (wC cI cZ ad) D cI cZ adK adV l yX9_dearest cX9_dearest 2 (some .int) 13 [.ref (ad 0)] M M' (some (.int (z_I r))) := by
  unfold Drum_dearest at h
  refine z_entry (own := RX9) rfl (by decide) (Nat.le_of_ble_eq_true rfl) ?_
  intro p e s m args below meth c R A X hr hlk
  have Z := X.1
  refine z_sub (lv' := [(0, .ref (ad 0))]) [0] rfl ?_
  refine z_aload_n Z dX9_dearest_0 rfl 0 rfl ?_
  refine z_iconst Z dX9_dearest_1 ?_
  obtain ⟨r_, M1, hf, h⟩ := z_cld h
  refine z_callVi (Wd := wC cI cZ ad) X (c_X9_refusalOfLaw hf) ml_X9_243 yd_X9_refusalOfLaw yw_X9_refusalOfLaw (by omega) (by decide) (rC_0 X) rfl rfl (Nat.le_of_ble_eq_true rfl) ⟨Nat.zero_le _, Nat.zero_le _⟩ dX9_dearest_2 ?_
  refine z_istore_n (lv' := [(1, .int (z_I r_)), (0, .ref (ad 0))]) Z dX9_dearest_5 rfl (by decide) rfl ?_
  refine z_iload_n Z dX9_dearest_6 rfl 0 rfl ?_
  refine z_if_eq (tgt := 12) Z dX9_dearest_7 (by decide) h (fun h => ?_) (fun h => ?_)
  · refine z_aload_n Z dX9_dearest_12 rfl 1 rfl ?_
    refine gC_X9_67_0 X dX9_dearest_13 ?_
    obtain ⟨u_, M2, hf1, h⟩ := z_cld h
    refine z_callVv (Wd := wC cI cZ ad) X (c_X5_look hf1) ml_X9_250 yd_X5_look yw_X5_look (by omega) (by decide) (rC_48 X) rfl rfl (Nat.le_of_ble_eq_true rfl) ⟨Nat.zero_le _, Nat.zero_le _⟩ dX9_dearest_16 ?_
    refine z_aload_n Z dX9_dearest_19 rfl 1 rfl ?_
    refine gC_X9_67_0 X dX9_dearest_20 ?_
    refine gC_X9_257_48 X dX9_dearest_23 ?_
    exact z_iret X hr hlk dX9_dearest_26 h
  · refine z_iload_n Z dX9_dearest_10 rfl 0 rfl ?_
    exact z_iret X hr hlk dX9_dearest_11 h
set_option maxRecDepth 100000 in
set_option maxHeartbeats 4000000 in
theorem c_X0_keep {l : Launch} {D : va_G} {cI cZ : ClassId} {ad adK adV : Nat → Nat} {M M' : zMem} {r : Int} (h : Acts_keep M = some (r, M')) : z_Ct (wC cI cZ ad) D cI cZ adK adV l yX0_keep cX0_keep 2 (some .boolean) 3 [.ref (ad 55), .ref (ad 57)] M M' (some (.int (z_I r))) := by
  unfold Acts_keep at h
  refine z_entry (own := RX0) rfl (by decide) (Nat.le_of_ble_eq_true rfl) ?_
  intro p e s m args below meth c R A X hr hlk
  have Z := X.1
  refine z_sub (lv' := [(0, .ref (ad 55)), (1, .ref (ad 57))]) [0, 1] rfl ?_
  refine z_aload_n Z dX0_keep_0 rfl 0 rfl ?_
  refine gC_X0_15_55 X dX0_keep_1 ?_
  refine z_bipush Z dX0_keep_4 rfl ?_
  refine z_icmp_lt (tgt := 11) Z dX0_keep_6 (by decide) h (fun h => ?_) (fun h => ?_)
  · refine z_aload_n Z dX0_keep_11 rfl 1 rfl ?_
    refine z_iconst Z dX0_keep_12 ?_
    refine z_aload_n Z dX0_keep_13 rfl 0 rfl ?_
    refine gC_X0_9_55 X dX0_keep_14 ?_
    refine z_aload_n Z dX0_keep_17 rfl 0 rfl ?_
    refine gC_X0_15_55 X dX0_keep_18 ?_
    refine z_bipush Z dX0_keep_21 rfl ?_
    refine z_imul Z dX0_keep_23 ?_
    refine z_bipush Z dX0_keep_24 rfl ?_
    refine z_copy (Wd := wC cI cZ ad) X ml_X0_19 aw_copy (by omega) aC_57 aC_56 rfl rfl (by decide) (by decide) tC_56 (Nat.le_of_ble_eq_true rfl) dX0_keep_26 h (fun M1 h => ?_)
    refine z_aload_n Z dX0_keep_29 rfl 0 rfl ?_
    refine z_dup Z dX0_keep_30 rfl ?_
    refine gC_X0_15_55 X dX0_keep_31 ?_
    refine z_iconst Z dX0_keep_34 ?_
    refine z_iadd Z dX0_keep_35 ?_
    refine pC_X0_15_55 X dX0_keep_36 h (fun M2 h => ?_)
    refine z_iconst Z dX0_keep_39 ?_
    exact z_zret X hr hlk (Or.inr rfl) dX0_keep_40 h
  · refine z_iconst Z dX0_keep_9 ?_
    exact z_zret X hr hlk (Or.inl rfl) dX0_keep_10 h
set_option maxRecDepth 100000 in
set_option maxHeartbeats 4000000 in
theorem c_X9_put {l : Launch} {D : va_G} {cI cZ : ClassId} {ad adK adV : Nat → Nat} {N : Nat} {v1 v2 : Int} {M M' : zMem} {r : Int} (h : Drum_put N v1 v2 M = some (r, M')) : z_Ct (wC cI cZ ad) D cI cZ adK adV l yX9_put cX9_put 4 (some .int) 6 [.ref (ad 0), .int (z_I v1), .int (z_I v2)] M M' (some (.int (z_I r))) := by
  unfold Drum_put at h
  refine z_entry (own := RX9) rfl (by decide) (Nat.le_of_ble_eq_true rfl) ?_
  intro p e s m args below meth c R A X hr hlk
  have Z := X.1
  refine z_sub (lv' := [(0, .ref (ad 0)), (1, .int (z_I v1)), (2, .int (z_I v2))]) [0, 1, 2] rfl ?_
  refine z_aload_n Z dX9_put_0 rfl 0 rfl ?_
  refine z_iload_n Z dX9_put_1 rfl 1 rfl ?_
  refine z_iload_n Z dX9_put_2 rfl 2 rfl ?_
  obtain ⟨r_, M1, hf, h⟩ := z_cld h
  refine z_callVi (Wd := wC cI cZ ad) X (c_X9_refusalOfMove hf) ml_X9_224 yd_X9_refusalOfMove yw_X9_refusalOfMove (by omega) (by decide) (rC_0 X) rfl rfl (Nat.le_of_ble_eq_true rfl) ⟨Nat.zero_le _, Nat.zero_le _⟩ dX9_put_3 ?_
  refine z_istore_n (lv' := [(3, .int (z_I r_)), (0, .ref (ad 0)), (1, .int (z_I v1)), (2, .int (z_I v2))]) Z dX9_put_6 rfl (by decide) rfl ?_
  refine z_iload_n Z dX9_put_7 rfl 0 rfl ?_
  refine z_if_eq (tgt := 13) Z dX9_put_8 (by decide) h (fun h => ?_) (fun h => ?_)
  · refine z_aload_n Z dX9_put_13 rfl 1 rfl ?_
    refine gC_X9_74_0 X dX9_put_14 ?_
    refine z_aload_n Z dX9_put_17 rfl 1 rfl ?_
    refine gC_X9_78_0 X dX9_put_18 ?_
    obtain ⟨r_1, M2, hf1, h⟩ := z_cld h
    refine z_callVi (Wd := wC cI cZ ad) X (c_X0_keep hf1) ml_X9_260 yd_X0_keep yw_X0_keep (by omega) (by decide) (rC_55 X) rfl rfl (Nat.le_of_ble_eq_true rfl) ⟨Nat.zero_le _, Nat.zero_le _⟩ dX9_put_21 ?_
    refine z_if_ne (tgt := 30) Z dX9_put_24 (by decide) h (fun h => ?_) (fun h => ?_)
    · refine z_aload_n Z dX9_put_30 rfl 1 rfl ?_
      refine gC_X9_78_0 X dX9_put_31 ?_
      refine z_iload_n Z dX9_put_34 rfl 2 rfl ?_
      refine z_iload_n Z dX9_put_35 rfl 3 rfl ?_
      refine srC_57 X dX9_put_36 h (fun M3 h => ?_)
      refine z_aload_n Z dX9_put_37 rfl 1 rfl ?_
      obtain ⟨r_2, M4, hf2, h⟩ := z_cld h
      refine z_callVi (Wd := wC cI cZ ad) X (c_X9_timeNow hf2) ml_X9_198 yd_X9_timeNow yw_X9_timeNow (by omega) (by decide) (rC_0 X) rfl rfl (Nat.le_of_ble_eq_true rfl) ⟨Nat.zero_le _, Nat.zero_le _⟩ dX9_put_38 ?_
      exact z_iret X hr hlk dX9_put_41 h
    · refine z_bipush Z dX9_put_27 rfl ?_
      exact z_iret X hr hlk dX9_put_29 h
  · refine z_iload_n Z dX9_put_11 rfl 0 rfl ?_
    exact z_iret X hr hlk dX9_put_12 h
set_option maxRecDepth 100000 in
set_option maxHeartbeats 4000000 in
theorem c_X9_exchange {l : Launch} {D : va_G} {cI cZ : ClassId} {ad adK adV : Nat → Nat} {v1 v2 : Int} {M M' : zMem} {r : Int} (h : Drum_exchange v1 v2 M = some (r, M')) : z_Ct (wC cI cZ ad) D cI cZ adK adV l yX9_exchange cX9_exchange 4 none 1 [.ref (ad 0), .int (z_I v1), .int (z_I v2)] M M' none := by
  unfold Drum_exchange at h
  refine z_entry (own := RX9) rfl (by decide) (Nat.le_of_ble_eq_true rfl) ?_
  intro p e s m args below meth c R A X hr hlk
  have Z := X.1
  refine z_sub (lv' := [(0, .ref (ad 0)), (1, .int (z_I v1)), (2, .int (z_I v2))]) [0, 1, 2] rfl ?_
  refine z_aload_n Z dX9_exchange_0 rfl 0 rfl ?_
  refine gC_X9_78_0 X dX9_exchange_1 ?_
  refine z_iload_n Z dX9_exchange_4 rfl 1 rfl ?_
  refine ldC_57 X dX9_exchange_5 h (fun x0 h => ?_)
  refine z_istore_n (lv' := [(3, .int (z_I x0)), (0, .ref (ad 0)), (1, .int (z_I v1)), (2, .int (z_I v2))]) Z dX9_exchange_6 rfl (by decide) rfl ?_
  refine z_aload_n Z dX9_exchange_7 rfl 1 rfl ?_
  refine gC_X9_78_0 X dX9_exchange_8 ?_
  refine z_iload_n Z dX9_exchange_11 rfl 2 rfl ?_
  refine z_aload_n Z dX9_exchange_12 rfl 1 rfl ?_
  refine gC_X9_78_0 X dX9_exchange_13 ?_
  refine z_iload_n Z dX9_exchange_16 rfl 3 rfl ?_
  refine ldC_57 X dX9_exchange_17 h (fun x1 h => ?_)
  refine srC_57 X dX9_exchange_18 h (fun M1 h => ?_)
  refine z_aload_n Z dX9_exchange_19 rfl 1 rfl ?_
  refine gC_X9_78_0 X dX9_exchange_20 ?_
  refine z_iload_n Z dX9_exchange_23 rfl 3 rfl ?_
  refine z_iload_n Z dX9_exchange_24 rfl 0 rfl ?_
  refine srC_57 X dX9_exchange_25 h (fun M2 h => ?_)
  exact z_vret X hr hlk dX9_exchange_26 h
set_option maxRecDepth 100000 in
set_option maxHeartbeats 4000000 in
theorem c_X9_swap {l : Launch} {D : va_G} {cI cZ : ClassId} {ad adK adV : Nat → Nat} {N : Nat} {v1 v2 : Int} {M M' : zMem} {r : Int} (h : Drum_swap N v1 v2 M = some (r, M')) : z_Ct (wC cI cZ ad) D cI cZ adK adV l yX9_swap cX9_swap 4 (some .int) 6 [.ref (ad 0), .int (z_I v1), .int (z_I v2)] M M' (some (.int (z_I r))) := by
  unfold Drum_swap at h
  refine z_entry (own := RX9) rfl (by decide) (Nat.le_of_ble_eq_true rfl) ?_
  intro p e s m args below meth c R A X hr hlk
  have Z := X.1
  refine z_sub (lv' := [(0, .ref (ad 0)), (1, .int (z_I v1)), (2, .int (z_I v2))]) [0, 1, 2] rfl ?_
  refine z_aload_n Z dX9_swap_0 rfl 0 rfl ?_
  refine z_iload_n Z dX9_swap_1 rfl 1 rfl ?_
  refine z_iload_n Z dX9_swap_2 rfl 2 rfl ?_
  obtain ⟨r_, M1, hf, h⟩ := z_cld h
  refine z_callVi (Wd := wC cI cZ ad) X (c_X9_refusalOfExchange hf) ml_X9_231 yd_X9_refusalOfExchange yw_X9_refusalOfExchange (by omega) (by decide) (rC_0 X) rfl rfl (Nat.le_of_ble_eq_true rfl) ⟨Nat.zero_le _, Nat.zero_le _⟩ dX9_swap_3 ?_
  refine z_istore_n (lv' := [(3, .int (z_I r_)), (0, .ref (ad 0)), (1, .int (z_I v1)), (2, .int (z_I v2))]) Z dX9_swap_6 rfl (by decide) rfl ?_
  refine z_iload_n Z dX9_swap_7 rfl 0 rfl ?_
  refine z_if_eq (tgt := 13) Z dX9_swap_8 (by decide) h (fun h => ?_) (fun h => ?_)
  · refine z_aload_n Z dX9_swap_13 rfl 1 rfl ?_
    refine gC_X9_74_0 X dX9_swap_14 ?_
    refine z_aload_n Z dX9_swap_17 rfl 1 rfl ?_
    refine gC_X9_78_0 X dX9_swap_18 ?_
    obtain ⟨r_1, M2, hf1, h⟩ := z_cld h
    refine z_callVi (Wd := wC cI cZ ad) X (c_X0_keep hf1) ml_X9_260 yd_X0_keep yw_X0_keep (by omega) (by decide) (rC_55 X) rfl rfl (Nat.le_of_ble_eq_true rfl) ⟨Nat.zero_le _, Nat.zero_le _⟩ dX9_swap_21 ?_
    refine z_if_ne (tgt := 30) Z dX9_swap_24 (by decide) h (fun h => ?_) (fun h => ?_)
    · refine z_aload_n Z dX9_swap_30 rfl 1 rfl ?_
      refine z_iload_n Z dX9_swap_31 rfl 2 rfl ?_
      refine z_iload_n Z dX9_swap_32 rfl 3 rfl ?_
      obtain ⟨u_, M3, hf2, h⟩ := z_cld h
      refine z_callVv (Wd := wC cI cZ ad) X (c_X9_exchange hf2) ml_X9_264 yd_X9_exchange yw_X9_exchange (by omega) (by decide) (rC_0 X) rfl rfl (Nat.le_of_ble_eq_true rfl) ⟨Nat.zero_le _, Nat.zero_le _⟩ dX9_swap_33 ?_
      refine z_aload_n Z dX9_swap_36 rfl 1 rfl ?_
      obtain ⟨r_2, M4, hf3, h⟩ := z_cld h
      refine z_callVi (Wd := wC cI cZ ad) X (c_X9_timeNow hf3) ml_X9_198 yd_X9_timeNow yw_X9_timeNow (by omega) (by decide) (rC_0 X) rfl rfl (Nat.le_of_ble_eq_true rfl) ⟨Nat.zero_le _, Nat.zero_le _⟩ dX9_swap_37 ?_
      exact z_iret X hr hlk dX9_swap_40 h
    · refine z_bipush Z dX9_swap_27 rfl ?_
      exact z_iret X hr hlk dX9_swap_29 h
  · refine z_iload_n Z dX9_swap_11 rfl 0 rfl ?_
    exact z_iret X hr hlk dX9_swap_12 h
set_option maxRecDepth 100000 in
set_option maxHeartbeats 4000000 in
theorem c_X9_lays {l : Launch} {D : va_G} {cI cZ : ClassId} {ad adK adV : Nat → Nat} {N : Nat} {v1 : Int} {M M' : zMem} {r : Int} (h : Drum_lays N v1 M = some (r, M')) : z_Ct (wC cI cZ ad) D cI cZ adK adV l yX9_lays cX9_lays 3 (some .int) 14 [.ref (ad 0), .int (z_I v1)] M M' (some (.int (z_I r))) := by
  unfold Drum_lays at h
  refine z_entry (own := RX9) rfl (by decide) (Nat.le_of_ble_eq_true rfl) ?_
  intro p e s m args below meth c R A X hr hlk
  have Z := X.1
  refine z_sub (lv' := [(0, .ref (ad 0)), (1, .int (z_I v1))]) [0, 1] rfl ?_
  refine z_aload_n Z dX9_lays_0 rfl 0 rfl ?_
  refine z_iload_n Z dX9_lays_1 rfl 1 rfl ?_
  obtain ⟨r_, M1, hf, h⟩ := z_cld h
  refine z_callVi (Wd := wC cI cZ ad) X (c_X9_refusalOfLaw hf) ml_X9_243 yd_X9_refusalOfLaw yw_X9_refusalOfLaw (by omega) (by decide) (rC_0 X) rfl rfl (Nat.le_of_ble_eq_true rfl) ⟨Nat.zero_le _, Nat.zero_le _⟩ dX9_lays_2 ?_
  refine z_istore_n (lv' := [(2, .int (z_I r_)), (0, .ref (ad 0)), (1, .int (z_I v1))]) Z dX9_lays_5 rfl (by decide) rfl ?_
  refine z_iload_n Z dX9_lays_6 rfl 0 rfl ?_
  refine z_bipush Z dX9_lays_7 rfl ?_
  refine z_icmp_ne (tgt := 15) Z dX9_lays_9 (by decide) h (fun h => ?_) (fun h => ?_)
  · refine z_aload_n Z dX9_lays_15 rfl 1 rfl ?_
    refine gC_X9_74_0 X dX9_lays_16 ?_
    refine gC_X9_117_55 X dX9_lays_19 ?_
    refine z_bipush Z dX9_lays_22 rfl ?_
    refine z_icmp_lt (tgt := 30) Z dX9_lays_24 (by decide) h (fun h => ?_) (fun h => ?_)
    · refine z_iload_n Z dX9_lays_30 rfl 0 rfl ?_
      refine z_if_eq (tgt := 36) Z dX9_lays_31 (by decide) h (fun h => ?_) (fun h => ?_)
      · refine z_aload_n Z dX9_lays_36 rfl 1 rfl ?_
        refine gC_X9_74_0 X dX9_lays_37 ?_
        refine z_aload_n Z dX9_lays_40 rfl 1 rfl ?_
        refine gC_X9_78_0 X dX9_lays_41 ?_
        obtain ⟨r_1, M2, hf1, h⟩ := z_cld h
        refine z_callVi (Wd := wC cI cZ ad) X (c_X0_keep hf1) ml_X9_260 yd_X0_keep yw_X0_keep (by omega) (by decide) (rC_55 X) rfl rfl (Nat.le_of_ble_eq_true rfl) ⟨Nat.zero_le _, Nat.zero_le _⟩ dX9_lays_44 ?_
        refine z_pop Z dX9_lays_47 rfl ?_
        refine z_aload_n Z dX9_lays_48 rfl 1 rfl ?_
        refine z_iload_n Z dX9_lays_49 rfl 2 rfl ?_
        refine z_aload_n Z dX9_lays_50 rfl 1 rfl ?_
        refine gC_X9_78_0 X dX9_lays_51 ?_
        obtain ⟨u_, M3, hf2, h⟩ := z_cld h
        refine z_callVv (Wd := wC cI cZ ad) X (c_X9_layBy (Or.inr (rfl)) hf2) ml_X9_246 yd_X9_layBy yw_X9_layBy (by omega) (by decide) (rC_0 X) rfl rfl (Nat.le_of_ble_eq_true rfl) ⟨Nat.zero_le _, Nat.zero_le _⟩ dX9_lays_54 ?_
        refine z_aload_n Z dX9_lays_57 rfl 1 rfl ?_
        obtain ⟨r_2, M4, hf3, h⟩ := z_cld h
        refine z_callVi (Wd := wC cI cZ ad) X (c_X9_timeNow hf3) ml_X9_198 yd_X9_timeNow yw_X9_timeNow (by omega) (by decide) (rC_0 X) rfl rfl (Nat.le_of_ble_eq_true rfl) ⟨Nat.zero_le _, Nat.zero_le _⟩ dX9_lays_58 ?_
        exact z_iret X hr hlk dX9_lays_61 h
      · refine z_iload_n Z dX9_lays_34 rfl 0 rfl ?_
        exact z_iret X hr hlk dX9_lays_35 h
    · refine z_bipush Z dX9_lays_27 rfl ?_
      exact z_iret X hr hlk dX9_lays_29 h
  · refine z_bipush Z dX9_lays_12 rfl ?_
    exact z_iret X hr hlk dX9_lays_14 h
set_option maxRecDepth 100000 in
set_option maxHeartbeats 4000000 in
theorem c_X0_backTo {l : Launch} {D : va_G} {cI cZ : ClassId} {ad adK adV : Nat → Nat} {v1 : Int} {M M' : zMem} {r : Int} (h : Acts_backTo v1 M = some (r, M')) : z_Ct (wC cI cZ ad) D cI cZ adK adV l yX0_backTo cX0_backTo 3 none 3 [.ref (ad 55), .int (z_I v1), .ref (ad 57)] M M' none := by
  unfold Acts_backTo at h
  refine z_entry (own := RX0) rfl (by decide) (Nat.le_of_ble_eq_true rfl) ?_
  intro p e s m args below meth c R A X hr hlk
  have Z := X.1
  refine z_sub (lv' := [(0, .ref (ad 55)), (1, .int (z_I v1)), (2, .ref (ad 57))]) [0, 1, 2] rfl ?_
  refine z_iload_n Z dX0_backTo_0 rfl 1 rfl ?_
  refine z_if_lt (tgt := 32) Z dX0_backTo_1 (by decide) h (fun h => ?_) (fun h => ?_)
  · exact z_vret X hr hlk dX0_backTo_32 h
  · refine z_iload_n Z dX0_backTo_4 rfl 1 rfl ?_
    refine z_aload_n Z dX0_backTo_5 rfl 0 rfl ?_
    refine gC_X0_15_55 X dX0_backTo_6 ?_
    refine z_icmp_ge (tgt := 32) Z dX0_backTo_9 (by decide) h (fun h => ?_) (fun h => ?_)
    · exact z_vret X hr hlk dX0_backTo_32 h
    · refine z_aload_n Z dX0_backTo_12 rfl 0 rfl ?_
      refine gC_X0_9_55 X dX0_backTo_13 ?_
      refine z_iload_n Z dX0_backTo_16 rfl 1 rfl ?_
      refine z_bipush Z dX0_backTo_17 rfl ?_
      refine z_imul Z dX0_backTo_19 ?_
      refine z_aload_n Z dX0_backTo_20 rfl 2 rfl ?_
      refine z_iconst Z dX0_backTo_21 ?_
      refine z_bipush Z dX0_backTo_22 rfl ?_
      refine z_copy (Wd := wC cI cZ ad) X ml_X0_19 aw_copy (by omega) aC_56 aC_57 rfl rfl (by decide) (by decide) tC_57 (Nat.le_of_ble_eq_true rfl) dX0_backTo_24 h (fun M1 h => ?_)
      refine z_aload_n Z dX0_backTo_27 rfl 0 rfl ?_
      refine z_iload_n Z dX0_backTo_28 rfl 1 rfl ?_
      refine pC_X0_15_55 X dX0_backTo_29 h (fun M2 h => ?_)
      exact z_vret X hr hlk dX0_backTo_32 h
set_option maxRecDepth 100000 in
set_option maxHeartbeats 4000000 in
theorem c_X9_undo {l : Launch} {D : va_G} {cI cZ : ClassId} {ad adK adV : Nat → Nat} {M M' : zMem} {r : Int} (h : Drum_undo M = some (r, M')) : z_Ct (wC cI cZ ad) D cI cZ adK adV l yX9_undo cX9_undo 1 (some .int) 4 [.ref (ad 0)] M M' (some (.int (z_I r))) := by
  unfold Drum_undo at h
  refine z_entry (own := RX9) rfl (by decide) (Nat.le_of_ble_eq_true rfl) ?_
  intro p e s m args below meth c R A X hr hlk
  have Z := X.1
  refine z_sub (lv' := [(0, .ref (ad 0))]) [0] rfl ?_
  refine z_aload_n Z dX9_undo_0 rfl 0 rfl ?_
  refine gC_X9_42_0 X dX9_undo_1 ?_
  refine gC_X9_120_19 X dX9_undo_4 ?_
  refine z_if_ne (tgt := 13) Z dX9_undo_7 (by decide) h (fun h => ?_) (fun h => ?_)
  · refine z_aload_n Z dX9_undo_13 rfl 0 rfl ?_
    refine gC_X9_74_0 X dX9_undo_14 ?_
    refine gC_X9_117_55 X dX9_undo_17 ?_
    refine z_if_ne (tgt := 26) Z dX9_undo_20 (by decide) h (fun h => ?_) (fun h => ?_)
    · refine z_aload_n Z dX9_undo_26 rfl 0 rfl ?_
      refine gC_X9_74_0 X dX9_undo_27 ?_
      refine z_aload_n Z dX9_undo_30 rfl 0 rfl ?_
      refine gC_X9_74_0 X dX9_undo_31 ?_
      refine gC_X9_117_55 X dX9_undo_34 ?_
      refine z_iconst Z dX9_undo_37 ?_
      refine z_isub Z dX9_undo_38 ?_
      refine z_aload_n Z dX9_undo_39 rfl 0 rfl ?_
      refine gC_X9_78_0 X dX9_undo_40 ?_
      obtain ⟨u_, M1, hf, h⟩ := z_cld h
      refine z_callVv (Wd := wC cI cZ ad) X (c_X0_backTo hf) ml_X9_268 yd_X0_backTo yw_X0_backTo (by omega) (by decide) (rC_55 X) rfl rfl (Nat.le_of_ble_eq_true rfl) ⟨Nat.zero_le _, Nat.zero_le _⟩ dX9_undo_43 ?_
      refine z_aload_n Z dX9_undo_46 rfl 0 rfl ?_
      refine gC_X9_74_0 X dX9_undo_47 ?_
      refine gC_X9_117_55 X dX9_undo_50 ?_
      exact z_iret X hr hlk dX9_undo_53 h
    · refine z_bipush Z dX9_undo_23 rfl ?_
      exact z_iret X hr hlk dX9_undo_25 h
  · refine z_bipush Z dX9_undo_10 rfl ?_
    exact z_iret X hr hlk dX9_undo_12 h
set_option maxRecDepth 100000 in
set_option maxHeartbeats 4000000 in
theorem c_X9_anew {l : Launch} {D : va_G} {cI cZ : ClassId} {ad adK adV : Nat → Nat} {M M' : zMem} {r : Int} (h : Drum_anew M = some (r, M')) : z_Ct (wC cI cZ ad) D cI cZ adK adV l yX9_anew cX9_anew 2 (some .int) 4 [.ref (ad 0)] M M' (some (.int (z_I r))) := by
  unfold Drum_anew at h
  refine z_entry (own := RX9) rfl (by decide) (Nat.le_of_ble_eq_true rfl) ?_
  intro p e s m args below meth c R A X hr hlk
  have Z := X.1
  refine z_sub (lv' := [(0, .ref (ad 0))]) [0] rfl ?_
  refine z_aload_n Z dX9_anew_0 rfl 0 rfl ?_
  refine gC_X9_42_0 X dX9_anew_1 ?_
  refine gC_X9_120_19 X dX9_anew_4 ?_
  refine z_if_ne (tgt := 13) Z dX9_anew_7 (by decide) h (fun h => ?_) (fun h => ?_)
  · refine z_aload_n Z dX9_anew_13 rfl 0 rfl ?_
    refine gC_X9_74_0 X dX9_anew_14 ?_
    refine gC_X9_117_55 X dX9_anew_17 ?_
    refine z_nmI h (fun v1_ h => ?_)
    refine z_istore_n (lv' := [(1, .int (z_I v1_)), (0, .ref (ad 0))]) Z dX9_anew_20 rfl (by decide) rfl ?_
    refine z_aload_n Z dX9_anew_21 rfl 1 rfl ?_
    refine gC_X9_74_0 X dX9_anew_22 ?_
    refine z_iconst Z dX9_anew_25 ?_
    refine z_aload_n Z dX9_anew_26 rfl 1 rfl ?_
    refine gC_X9_78_0 X dX9_anew_27 ?_
    obtain ⟨u_, M1, hf, h⟩ := z_cld h
    refine z_callVv (Wd := wC cI cZ ad) X (c_X0_backTo hf) ml_X9_268 yd_X0_backTo yw_X0_backTo (by omega) (by decide) (rC_55 X) rfl rfl (Nat.le_of_ble_eq_true rfl) ⟨Nat.zero_le _, Nat.zero_le _⟩ dX9_anew_30 ?_
    refine z_iload_n Z dX9_anew_33 rfl 0 rfl ?_
    exact z_iret X hr hlk dX9_anew_34 h
  · refine z_bipush Z dX9_anew_10 rfl ?_
    exact z_iret X hr hlk dX9_anew_12 h
set_option maxRecDepth 100000 in
set_option maxHeartbeats 4000000 in
theorem c_X10_in {l : Launch} {D : va_G} {cI cZ : ClassId} {ad adK adV : Nat → Nat} {v0 v2 v4 : Int} {M M' : zMem} {r : Int} (h : Model_in v0 v2 v4 M = some (r, M')) : z_Ct (wM cI cZ ad) D cI cZ adK adV l yX10_in cX10_in 6 (some .boolean) 1 [.long (z_L v0), .long (z_L v2), .long (z_L v4)] M M' (some (.int (z_I r))) := by
  unfold Model_in at h
  refine z_entry (own := RX10) rfl (by decide) (Nat.le_of_ble_eq_true rfl) ?_
  intro p e s m args below meth c R A X hr hlk
  have Z := X.1
  refine z_sub (lv' := [(0, .long (z_L v0)), (2, .long (z_L v2)), (4, .long (z_L v4))]) [0, 1, 2] rfl ?_
  refine z_lload_n Z dX10_in_0 rfl 0 rfl ?_
  refine z_lload_n Z dX10_in_1 rfl 1 rfl ?_
  refine z_lcmp Z dX10_in_2 h (fun x0 h => ?_)
  refine z_jnr (P := fun (k : zMem → zO) => ∀ (M1 : zMem), k M1 = some (r, M') → z_V p l e R s m args below meth c D A cI cZ 6 (wM cI cZ ad) M' (some (.int (z_I r))) M1 17 [] []) h ?_ ?_
  · intro M1 h
    refine z_iconst Z dX10_in_17 ?_
    exact z_zret X hr hlk (Or.inl rfl) dX10_in_18 h
  · intro k0 hk0 h
    refine z_if_lt (tgt := 17) Z dX10_in_3 (by decide) h (fun h => ?_) (fun h => ?_)
    · refine z_sub [] rfl ?_
      exact hk0 M h
    · refine z_lload_n Z dX10_in_6 rfl 0 rfl ?_
      refine z_lload Z dX10_in_7 2 rfl ?_
      refine z_lcmp Z dX10_in_9 h (fun x1 h => ?_)
      refine z_if_gt (tgt := 17) Z dX10_in_10 (by decide) h (fun h => ?_) (fun h => ?_)
      · refine z_sub [] rfl ?_
        exact hk0 M h
      · refine z_iconst Z dX10_in_13 ?_
        refine z_goto (tgt := 18) Z dX10_in_14 (by decide) ?_
        exact z_zret X hr hlk (Or.inr rfl) dX10_in_18 h
set_option maxRecDepth 100000 in
set_option maxHeartbeats 4000000 in
theorem c_X10_end {l : Launch} {D : va_G} {cI cZ : ClassId} {ad adK adV : Nat → Nat} {v1 : Int} {M M' : zMem} {r : Int} (h : Model_end v1 M = some (r, M')) : z_Ct (wM cI cZ ad) D cI cZ adK adV l yX10_end cX10_end 2 (some .int) 2 [.ref (ad 0), .int (z_I v1)] M M' (some (.int (z_I r))) := by
  unfold Model_end at h
  refine z_entry (own := RX10) rfl (by decide) (Nat.le_of_ble_eq_true rfl) ?_
  intro p e s m args below meth c R A X hr hlk
  have Z := X.1
  refine z_sub (lv' := [(0, .ref (ad 0)), (1, .int (z_I v1))]) [0, 1] rfl ?_
  refine z_iload_n Z dX10_end_0 rfl 1 rfl ?_
  refine z_i2l Z dX10_end_1 h (fun x0 h => ?_)
  refine z_lconst (x := 0) Z dX10_end_2 rfl ?_
  refine z_aload_n Z dX10_end_3 rfl 0 rfl ?_
  refine gM_X10_93_0 X dX10_end_4 ?_
  refine z_i2l Z dX10_end_7 h (fun x1 h => ?_)
  obtain ⟨r_, M1, hf, h⟩ := z_cld h
  refine z_callSi (Wd := wM cI cZ ad) X (c_X10_in hf) ml_X10_96 yd_X10_in yw_X10_in (by omega) (by decide) rfl rfl (Nat.le_of_ble_eq_true rfl) ⟨Nat.zero_le _, Nat.zero_le _⟩ dX10_end_8 ?_
  refine z_if_ne (tgt := 16) Z dX10_end_11 (by decide) h (fun h => ?_) (fun h => ?_)
  · refine z_aload_n Z dX10_end_16 rfl 0 rfl ?_
    refine z_iload_n Z dX10_end_17 rfl 1 rfl ?_
    refine pM_X10_93_0 X dX10_end_18 h (fun M2 h => ?_)
    refine z_iload_n Z dX10_end_21 rfl 1 rfl ?_
    exact z_iret X hr hlk dX10_end_22 h
  · refine z_iconst Z dX10_end_14 ?_
    exact z_iret X hr hlk dX10_end_15 h
set_option maxRecDepth 100000 in
set_option maxHeartbeats 4000000 in
theorem c_X10_isSign {l : Launch} {D : va_G} {cI cZ : ClassId} {ad adK adV : Nat → Nat} {v1 : Int} {M M' : zMem} {r : Int} (h : Model_isSign v1 M = some (r, M')) : z_Ct (wM cI cZ ad) D cI cZ adK adV l yX10_isSign cX10_isSign 2 (some .boolean) 1 [.ref (ad 0), .int (z_I v1)] M M' (some (.int (z_I r))) := by
  unfold Model_isSign at h
  refine z_entry (own := RX10) rfl (by decide) (Nat.le_of_ble_eq_true rfl) ?_
  intro p e s m args below meth c R A X hr hlk
  have Z := X.1
  refine z_sub (lv' := [(0, .ref (ad 0)), (1, .int (z_I v1))]) [0, 1] rfl ?_
  refine z_aload_n Z dX10_isSign_0 rfl 0 rfl ?_
  refine gM_X10_116_0 X dX10_isSign_1 ?_
  refine z_iconst Z dX10_isSign_4 ?_
  refine z_jnr (P := fun (k : zMem → zO) => ∀ (M1 : zMem), k M1 = some (r, M') → z_V p l e R s m args below meth c D A cI cZ 2 (wM cI cZ ad) M' (some (.int (z_I r))) M1 25 [] []) h ?_ ?_
  · intro M1 h
    refine z_iconst Z dX10_isSign_25 ?_
    exact z_zret X hr hlk (Or.inl rfl) dX10_isSign_26 h
  · intro k0 hk0 h
    refine z_icmp_ne (tgt := 25) Z dX10_isSign_5 (by decide) h (fun h => ?_) (fun h => ?_)
    · refine z_sub [] rfl ?_
      exact hk0 M h
    · refine z_aload_n Z dX10_isSign_8 rfl 0 rfl ?_
      refine gM_X10_19_0 X dX10_isSign_9 ?_
      refine z_aload_n Z dX10_isSign_12 rfl 0 rfl ?_
      refine gM_X10_107_0 X dX10_isSign_13 ?_
      refine ldM_4 X dX10_isSign_16 h (fun x0 h => ?_)
      refine z_iload_n Z dX10_isSign_17 rfl 1 rfl ?_
      refine z_icmp_ne (tgt := 25) Z dX10_isSign_18 (by decide) h (fun h => ?_) (fun h => ?_)
      · refine z_sub [] rfl ?_
        exact hk0 M h
      · refine z_iconst Z dX10_isSign_21 ?_
        refine z_goto (tgt := 26) Z dX10_isSign_22 (by decide) ?_
        exact z_zret X hr hlk (Or.inr rfl) dX10_isSign_26 h
set_option maxRecDepth 100000 in
set_option maxHeartbeats 4000000 in
theorem c_X10_hasRun {l : Launch} {D : va_G} {cI cZ : ClassId} {ad adK adV : Nat → Nat} {M M' : zMem} {r : Int} (h : Model_hasRun M = some (r, M')) : z_Ct (wM cI cZ ad) D cI cZ adK adV l yX10_hasRun cX10_hasRun 1 (some .boolean) 1 [.ref (ad 0)] M M' (some (.int (z_I r))) := by
  unfold Model_hasRun at h
  refine z_entry (own := RX10) rfl (by decide) (Nat.le_of_ble_eq_true rfl) ?_
  intro p e s m args below meth c R A X hr hlk
  have Z := X.1
  refine z_sub (lv' := [(0, .ref (ad 0))]) [0] rfl ?_
  refine z_aload_n Z dX10_hasRun_0 rfl 0 rfl ?_
  refine gM_X10_7_0 X dX10_hasRun_1 ?_
  refine z_bipush Z dX10_hasRun_4 rfl ?_
  refine ldM_1 X dX10_hasRun_6 h (fun x0 h => ?_)
  refine z_jnr (P := fun (k : zMem → zO) => ∀ (M1 : zMem), k M1 = some (r, M') → z_V p l e R s m args below meth c D A cI cZ 1 (wM cI cZ ad) M' (some (.int (z_I r))) M1 25 [] []) h ?_ ?_
  · intro M1 h
    refine z_iconst Z dX10_hasRun_25 ?_
    exact z_zret X hr hlk (Or.inl rfl) dX10_hasRun_26 h
  · intro k0 hk0 h
    refine z_if_le (tgt := 25) Z dX10_hasRun_7 (by decide) h (fun h => ?_) (fun h => ?_)
    · refine z_sub [] rfl ?_
      exact hk0 M h
    · refine z_aload_n Z dX10_hasRun_10 rfl 0 rfl ?_
      refine gM_X10_7_0 X dX10_hasRun_11 ?_
      refine z_bipush Z dX10_hasRun_14 rfl ?_
      refine ldM_1 X dX10_hasRun_16 h (fun x1 h => ?_)
      refine z_iconst Z dX10_hasRun_17 ?_
      refine z_icmp_eq (tgt := 25) Z dX10_hasRun_18 (by decide) h (fun h => ?_) (fun h => ?_)
      · refine z_sub [] rfl ?_
        exact hk0 M h
      · refine z_iconst Z dX10_hasRun_21 ?_
        refine z_goto (tgt := 26) Z dX10_hasRun_22 (by decide) ?_
        exact z_zret X hr hlk (Or.inr rfl) dX10_hasRun_26 h
set_option maxRecDepth 100000 in
set_option maxHeartbeats 4000000 in
theorem wModel_laysFixed_2 {p : Program} {l : Launch} {e : Env} {R : Room} {s : State} {m : MethodId} {args : Array Value} {below : List Frame} {meth : Method} {c : Code} {D : va_G} {A : Nat → Prop} {cI cZ : ClassId} {adK adV ad : Nat → Nat} {r : Int} {M' : zMem} (X : z_X p m c cX10_laysFixed 2 s args RX10 R 1 D cI cZ A adK adV) (hr : meth.sig.returnType = none) (hlk : meth.locks = false) (N : Nat) (k : zMem → zO) (hk : ∀ (M : zMem), k M = some (r, M') → z_V p l e R s m args below meth c D A cI cZ 2 (wM cI cZ ad) M' none M 34 [] []) : ∀ (n : Nat) (v1 : Int) (M : zMem), Model_laysFixed_2 N k n v1 M = some (r, M') → z_V p l e R s m args below meth c D A cI cZ 2 (wM cI cZ ad) M' none M 2 [(0, .ref (ad 0)), (1, .int (z_I v1))] [] := by
  have Z := X.1
  intro n
  induction n with
  | zero =>
    intro v1 M h
    rw [Model_laysFixed_2] at h
    cases h
  | succ n ih =>
    intro v1 M h
    rw [Model_laysFixed_2] at h
    refine z_iload_n Z dX10_laysFixed_2 rfl 1 rfl ?_
    refine z_aload_n Z dX10_laysFixed_3 rfl 0 rfl ?_
    refine gM_X10_7_0 X dX10_laysFixed_4 ?_
    refine z_iconst Z dX10_laysFixed_7 ?_
    refine ldM_1 X dX10_laysFixed_8 h (fun x0 h => ?_)
    refine z_icmp_ge (tgt := 34) Z dX10_laysFixed_9 (by decide) h (fun h => ?_) (fun h => ?_)
    · refine z_sub [] rfl ?_
      exact hk M h
    · refine z_aload_n Z dX10_laysFixed_12 rfl 0 rfl ?_
      refine gM_X10_75_0 X dX10_laysFixed_13 ?_
      refine z_iload_n Z dX10_laysFixed_16 rfl 1 rfl ?_
      refine z_aload_n Z dX10_laysFixed_17 rfl 0 rfl ?_
      refine gM_X10_7_0 X dX10_laysFixed_18 ?_
      refine z_sipush Z dX10_laysFixed_21 rfl ?_
      refine z_iload_n Z dX10_laysFixed_24 rfl 1 rfl ?_
      refine z_iadd Z dX10_laysFixed_25 ?_
      refine ldM_1 X dX10_laysFixed_26 h (fun x1 h => ?_)
      refine srM_21 X dX10_laysFixed_27 h (fun M1 h => ?_)
      refine z_iincn Z (fun z => [(1, .int (z_I z)), (0, .ref (ad 0))]) dX10_laysFixed_28 (k := 1) rfl (by decide) (fun _ => rfl) h (fun v1_ h => ?_)
      refine z_goto (tgt := 2) Z dX10_laysFixed_31 (by decide) ?_
      refine z_sub [1, 0] rfl ?_
      exact ih v1_ M1 h
set_option maxRecDepth 100000 in
set_option maxHeartbeats 4000000 in
theorem c_X10_laysFixed {l : Launch} {D : va_G} {cI cZ : ClassId} {ad adK adV : Nat → Nat} {N : Nat} {M M' : zMem} {r : Int} (h : Model_laysFixed N M = some (r, M')) : z_Ct (wM cI cZ ad) D cI cZ adK adV l yX10_laysFixed cX10_laysFixed 2 none 1 [.ref (ad 0)] M M' none := by
  unfold Model_laysFixed at h
  refine z_entry (own := RX10) rfl (by decide) (Nat.le_of_ble_eq_true rfl) ?_
  intro p e s m args below meth c R A X hr hlk
  have Z := X.1
  refine z_sub (lv' := [(0, .ref (ad 0))]) [0] rfl ?_
  refine z_iconst Z dX10_laysFixed_0 ?_
  refine z_istore_n (lv' := [(1, .int (z_I 0)), (0, .ref (ad 0))]) Z dX10_laysFixed_1 rfl (by decide) rfl ?_
  refine z_jnr (P := fun (k : zMem → zO) => ∀ (M1 : zMem), k M1 = some (r, M') → z_V p l e R s m args below meth c D A cI cZ 2 (wM cI cZ ad) M' none M1 34 [] []) h ?_ ?_
  · intro M1 h
    exact z_vret X hr hlk dX10_laysFixed_34 h
  · intro k0 hk0 h
    refine z_sub [1, 0] rfl ?_
    exact wModel_laysFixed_2 X hr hlk N k0 hk0 N 0 M h
set_option maxRecDepth 100000 in
set_option maxHeartbeats 4000000 in
theorem wModel_isTaken_2 {p : Program} {l : Launch} {e : Env} {R : Room} {s : State} {m : MethodId} {args : Array Value} {below : List Frame} {meth : Method} {c : Code} {D : va_G} {A : Nat → Prop} {cI cZ : ClassId} {adK adV ad : Nat → Nat} {r : Int} {M' : zMem} (X : z_X p m c cX10_isTaken 3 s args RX10 R 1 D cI cZ A adK adV) (hr : meth.sig.returnType = some .boolean) (hlk : meth.locks = false) (N : Nat) (v1 : Int) (k : zMem → zO) (hk : ∀ (M : zMem), k M = some (r, M') → z_V p l e R s m args below meth c D A cI cZ 3 (wM cI cZ ad) M' (some (.int (z_I r))) M 30 [] []) : ∀ (n : Nat) (v2 : Int) (M : zMem), Model_isTaken_2 N v1 k n v2 M = some (r, M') → z_V p l e R s m args below meth c D A cI cZ 3 (wM cI cZ ad) M' (some (.int (z_I r))) M 2 [(0, .ref (ad 0)), (1, .int (z_I v1)), (2, .int (z_I v2))] [] := by
  have Z := X.1
  intro n
  induction n with
  | zero =>
    intro v2 M h
    rw [Model_isTaken_2] at h
    cases h
  | succ n ih =>
    intro v2 M h
    rw [Model_isTaken_2] at h
    refine z_iload_n Z dX10_isTaken_2 rfl 2 rfl ?_
    refine z_aload_n Z dX10_isTaken_3 rfl 0 rfl ?_
    refine gM_X10_7_0 X dX10_isTaken_4 ?_
    refine z_iconst Z dX10_isTaken_7 ?_
    refine ldM_1 X dX10_isTaken_8 h (fun x0 h => ?_)
    refine z_icmp_ge (tgt := 30) Z dX10_isTaken_9 (by decide) h (fun h => ?_) (fun h => ?_)
    · refine z_sub [] rfl ?_
      exact hk M h
    · refine z_aload_n Z dX10_isTaken_12 rfl 0 rfl ?_
      refine gM_X10_75_0 X dX10_isTaken_13 ?_
      refine z_iload_n Z dX10_isTaken_16 rfl 2 rfl ?_
      refine ldM_21 X dX10_isTaken_17 h (fun x1 h => ?_)
      refine z_iload_n Z dX10_isTaken_18 rfl 1 rfl ?_
      refine z_icmp_ne (tgt := 24) Z dX10_isTaken_19 (by decide) h (fun h => ?_) (fun h => ?_)
      · refine z_iincn Z (fun z => [(2, .int (z_I z)), (0, .ref (ad 0)), (1, .int (z_I v1))]) dX10_isTaken_24 (k := 2) rfl (by decide) (fun _ => rfl) h (fun v2_ h => ?_)
        refine z_goto (tgt := 2) Z dX10_isTaken_27 (by decide) ?_
        refine z_sub [1, 2, 0] rfl ?_
        exact ih v2_ M h
      · refine z_iconst Z dX10_isTaken_22 ?_
        exact z_zret X hr hlk (Or.inr rfl) dX10_isTaken_23 h
set_option maxRecDepth 100000 in
set_option maxHeartbeats 4000000 in
theorem c_X10_isTaken {l : Launch} {D : va_G} {cI cZ : ClassId} {ad adK adV : Nat → Nat} {N : Nat} {v1 : Int} {M M' : zMem} {r : Int} (h : Model_isTaken N v1 M = some (r, M')) : z_Ct (wM cI cZ ad) D cI cZ adK adV l yX10_isTaken cX10_isTaken 3 (some .boolean) 1 [.ref (ad 0), .int (z_I v1)] M M' (some (.int (z_I r))) := by
  unfold Model_isTaken at h
  refine z_entry (own := RX10) rfl (by decide) (Nat.le_of_ble_eq_true rfl) ?_
  intro p e s m args below meth c R A X hr hlk
  have Z := X.1
  refine z_sub (lv' := [(0, .ref (ad 0)), (1, .int (z_I v1))]) [0, 1] rfl ?_
  refine z_iconst Z dX10_isTaken_0 ?_
  refine z_istore_n (lv' := [(2, .int (z_I 0)), (0, .ref (ad 0)), (1, .int (z_I v1))]) Z dX10_isTaken_1 rfl (by decide) rfl ?_
  refine z_jnr (P := fun (k : zMem → zO) => ∀ (M1 : zMem), k M1 = some (r, M') → z_V p l e R s m args below meth c D A cI cZ 3 (wM cI cZ ad) M' (some (.int (z_I r))) M1 30 [] []) h ?_ ?_
  · intro M1 h
    refine z_iconst Z dX10_isTaken_30 ?_
    exact z_zret X hr hlk (Or.inl rfl) dX10_isTaken_31 h
  · intro k0 hk0 h
    refine z_sub [1, 2, 0] rfl ?_
    exact wModel_isTaken_2 X hr hlk N v1 k0 hk0 N 0 M h
set_option maxRecDepth 100000 in
set_option maxHeartbeats 4000000 in
theorem wModel_laysRest_14 {p : Program} {l : Launch} {e : Env} {R : Room} {s : State} {m : MethodId} {args : Array Value} {below : List Frame} {meth : Method} {c : Code} {D : va_G} {A : Nat → Prop} {cI cZ : ClassId} {adK adV ad : Nat → Nat} {r : Int} {M' : zMem} (X : z_X p m c cX10_laysRest 3 s args RX10 R 2 D cI cZ A adK adV) (hr : meth.sig.returnType = none) (hlk : meth.locks = false) (N : Nat) (v1 : Int) (k : zMem → zO) (hk : ∀ (M : zMem), k M = some (r, M') → z_V p l e R s m args below meth c D A cI cZ 3 (wM cI cZ ad) M' none M 49 [(0, .ref (ad 0)), (1, .int (z_I v1))] []) : ∀ (n : Nat) (v2 : Int) (M : zMem), Model_laysRest_14 N v1 k n v2 M = some (r, M') → z_V p l e R s m args below meth c D A cI cZ 3 (wM cI cZ ad) M' none M 14 [(0, .ref (ad 0)), (1, .int (z_I v1)), (2, .int (z_I v2))] [] := by
  have Z := X.1
  intro n
  induction n with
  | zero =>
    intro v2 M h
    rw [Model_laysRest_14] at h
    cases h
  | succ n ih =>
    intro v2 M h
    rw [Model_laysRest_14] at h
    refine z_aload_n Z dX10_laysRest_14 rfl 0 rfl ?_
    refine gM_X10_75_0 X dX10_laysRest_15 ?_
    refine z_iload_n Z dX10_laysRest_18 rfl 1 rfl ?_
    refine ldM_21 X dX10_laysRest_19 h (fun x0 h => ?_)
    refine z_iconst Z dX10_laysRest_20 ?_
    refine z_icmp_ne (tgt := 49) Z dX10_laysRest_21 (by decide) h (fun h => ?_) (fun h => ?_)
    · refine z_sub [0, 1] rfl ?_
      exact hk M h
    · refine z_aload_n Z dX10_laysRest_24 rfl 0 rfl ?_
      refine gM_X10_75_0 X dX10_laysRest_25 ?_
      refine z_iload_n Z dX10_laysRest_28 rfl 1 rfl ?_
      refine z_aload_n Z dX10_laysRest_29 rfl 0 rfl ?_
      refine z_iload_n Z dX10_laysRest_30 rfl 2 rfl ?_
      obtain ⟨r_, M1, hf, h⟩ := z_cld h
      refine z_callVi (Wd := wM cI cZ ad) X (c_X10_isTaken hf) ml_X10_339 yd_X10_isTaken yw_X10_isTaken (by omega) (by decide) (rM_0 X) rfl rfl (Nat.le_of_ble_eq_true rfl) ⟨Nat.zero_le _, Nat.zero_le _⟩ dX10_laysRest_31 ?_
      refine z_jnr (P := fun (k : Int → Int → zMem → zO) => ∀ (x1 x2 : Int) (M2 : zMem), k x1 x2 M2 = some (r, M') → z_V p l e R s m args below meth c D A cI cZ 3 (wM cI cZ ad) M' none M2 42 [(0, .ref (ad 0)), (1, .int (z_I v1)), (2, .int (z_I v2))] [.int (z_I x1), .int (z_I x2), .ref (ad 21)]) h ?_ ?_
      · intro x1 x2 M2 h
        refine srM_21 X dX10_laysRest_42 h (fun M3 h => ?_)
        refine z_iincn Z (fun z => [(2, .int (z_I z)), (0, .ref (ad 0)), (1, .int (z_I v1))]) dX10_laysRest_43 (k := 2) rfl (by decide) (fun _ => rfl) h (fun v2_ h => ?_)
        refine z_goto (tgt := 14) Z dX10_laysRest_46 (by decide) ?_
        refine z_sub [1, 2, 0] rfl ?_
        exact ih v2_ M3 h
      · intro k1 hk1 h
        refine z_if_eq (tgt := 41) Z dX10_laysRest_34 (by decide) h (fun h => ?_) (fun h => ?_)
        · refine z_iload_n Z dX10_laysRest_41 rfl 2 rfl ?_
          refine z_sub [0, 1, 2] rfl ?_
          exact hk1 v2 v1 M1 h
        · refine z_iconst Z dX10_laysRest_37 ?_
          refine z_goto (tgt := 42) Z dX10_laysRest_38 (by decide) ?_
          refine z_sub [0, 1, 2] rfl ?_
          exact hk1 (-1) v1 M1 h
set_option maxRecDepth 100000 in
set_option maxHeartbeats 4000000 in
theorem wModel_laysRest_2 {p : Program} {l : Launch} {e : Env} {R : Room} {s : State} {m : MethodId} {args : Array Value} {below : List Frame} {meth : Method} {c : Code} {D : va_G} {A : Nat → Prop} {cI cZ : ClassId} {adK adV ad : Nat → Nat} {r : Int} {M' : zMem} (X : z_X p m c cX10_laysRest 3 s args RX10 R 2 D cI cZ A adK adV) (hr : meth.sig.returnType = none) (hlk : meth.locks = false) (N : Nat) (k : zMem → zO) (hk : ∀ (M : zMem), k M = some (r, M') → z_V p l e R s m args below meth c D A cI cZ 3 (wM cI cZ ad) M' none M 55 [] []) : ∀ (n : Nat) (v1 : Int) (M : zMem), Model_laysRest_2 N k n v1 M = some (r, M') → z_V p l e R s m args below meth c D A cI cZ 3 (wM cI cZ ad) M' none M 2 [(0, .ref (ad 0)), (1, .int (z_I v1))] [] := by
  have Z := X.1
  intro n
  induction n with
  | zero =>
    intro v1 M h
    rw [Model_laysRest_2] at h
    cases h
  | succ n ih =>
    intro v1 M h
    rw [Model_laysRest_2] at h
    refine z_iload_n Z dX10_laysRest_2 rfl 1 rfl ?_
    refine z_aload_n Z dX10_laysRest_3 rfl 0 rfl ?_
    refine gM_X10_7_0 X dX10_laysRest_4 ?_
    refine z_iconst Z dX10_laysRest_7 ?_
    refine ldM_1 X dX10_laysRest_8 h (fun x0 h => ?_)
    refine z_icmp_ge (tgt := 55) Z dX10_laysRest_9 (by decide) h (fun h => ?_) (fun h => ?_)
    · refine z_sub [] rfl ?_
      exact hk M h
    · refine z_iconst Z dX10_laysRest_12 ?_
      refine z_istore_n (lv' := [(2, .int (z_I 0)), (0, .ref (ad 0)), (1, .int (z_I v1))]) Z dX10_laysRest_13 rfl (by decide) rfl ?_
      refine z_jnr (P := fun (k : zMem → zO) => ∀ (M1 : zMem), k M1 = some (r, M') → z_V p l e R s m args below meth c D A cI cZ 3 (wM cI cZ ad) M' none M1 49 [(0, .ref (ad 0)), (1, .int (z_I v1))] []) h ?_ ?_
      · intro M1 h
        refine z_iincn Z (fun z => [(1, .int (z_I z)), (0, .ref (ad 0))]) dX10_laysRest_49 (k := 1) rfl (by decide) (fun _ => rfl) h (fun v1_ h => ?_)
        refine z_goto (tgt := 2) Z dX10_laysRest_52 (by decide) ?_
        refine z_sub [1, 0] rfl ?_
        exact ih v1_ M1 h
      · intro k1 hk1 h
        refine z_sub [1, 2, 0] rfl ?_
        exact wModel_laysRest_14 X hr hlk N v1 k1 hk1 N 0 M h
set_option maxRecDepth 100000 in
set_option maxHeartbeats 4000000 in
theorem c_X10_laysRest {l : Launch} {D : va_G} {cI cZ : ClassId} {ad adK adV : Nat → Nat} {N : Nat} {M M' : zMem} {r : Int} (h : Model_laysRest N M = some (r, M')) : z_Ct (wM cI cZ ad) D cI cZ adK adV l yX10_laysRest cX10_laysRest 3 none 2 [.ref (ad 0)] M M' none := by
  unfold Model_laysRest at h
  refine z_entry (own := RX10) rfl (by decide) (Nat.le_of_ble_eq_true rfl) ?_
  intro p e s m args below meth c R A X hr hlk
  have Z := X.1
  refine z_sub (lv' := [(0, .ref (ad 0))]) [0] rfl ?_
  refine z_iconst Z dX10_laysRest_0 ?_
  refine z_istore_n (lv' := [(1, .int (z_I 0)), (0, .ref (ad 0))]) Z dX10_laysRest_1 rfl (by decide) rfl ?_
  refine z_jnr (P := fun (k : zMem → zO) => ∀ (M1 : zMem), k M1 = some (r, M') → z_V p l e R s m args below meth c D A cI cZ 3 (wM cI cZ ad) M' none M1 55 [] []) h ?_ ?_
  · intro M1 h
    exact z_vret X hr hlk dX10_laysRest_55 h
  · intro k0 hk0 h
    refine z_sub [1, 0] rfl ?_
    exact wModel_laysRest_2 X hr hlk N k0 hk0 N 0 M h
set_option maxRecDepth 100000 in
set_option maxHeartbeats 4000000 in
theorem c_X10_many {l : Launch} {D : va_G} {cI cZ : ClassId} {ad adK adV : Nat → Nat} {M M' : zMem} {r : Int} (h : Model_many M = some (r, M')) : z_Ct (wM cI cZ ad) D cI cZ adK adV l yX10_many cX10_many 1 (some .int) 1 [.ref (ad 0)] M M' (some (.int (z_I r))) := by
  unfold Model_many at h
  refine z_entry (own := RX10) rfl (by decide) (Nat.le_of_ble_eq_true rfl) ?_
  intro p e s m args below meth c R A X hr hlk
  have Z := X.1
  refine z_sub (lv' := [(0, .ref (ad 0))]) [0] rfl ?_
  refine z_aload_n Z dX10_many_0 rfl 0 rfl ?_
  refine gM_X10_7_0 X dX10_many_1 ?_
  refine z_iconst Z dX10_many_4 ?_
  refine ldM_1 X dX10_many_5 h (fun x0 h => ?_)
  refine z_aload_n Z dX10_many_6 rfl 0 rfl ?_
  refine gM_X10_7_0 X dX10_many_7 ?_
  refine z_iconst Z dX10_many_10 ?_
  refine ldM_1 X dX10_many_11 h (fun x1 h => ?_)
  refine z_imul Z dX10_many_12 ?_
  exact z_iret X hr hlk dX10_many_13 h
set_option maxRecDepth 100000 in
set_option maxHeartbeats 4000000 in
theorem c_X10_rounded {l : Launch} {D : va_G} {cI cZ : ClassId} {ad adK adV : Nat → Nat} {v0 : Int} {M M' : zMem} {r : Int} (h : Model_rounded v0 M = some (r, M')) : z_Ct (wM cI cZ ad) D cI cZ adK adV l yX10_rounded cX10_rounded 1 (some .int) 3 [.int (z_I v0)] M M' (some (.int (z_I r))) := by
  unfold Model_rounded at h
  refine z_entry (own := RX10) rfl (by decide) (Nat.le_of_ble_eq_true rfl) ?_
  intro p e s m args below meth c R A X hr hlk
  have Z := X.1
  refine z_sub (lv' := [(0, .int (z_I v0))]) [0] rfl ?_
  refine z_iload_n Z dX10_rounded_0 rfl 0 rfl ?_
  refine z_sipush Z dX10_rounded_1 rfl ?_
  refine z_iadd Z dX10_rounded_4 ?_
  refine z_sipush Z dX10_rounded_5 rfl ?_
  refine z_fmr X ml_X10_258 (by omega) (Nat.le_of_ble_eq_true rfl) ⟨Nat.zero_le _, Nat.zero_le _⟩ dX10_rounded_8 h (fun x0 h => ?_)
  refine z_sipush Z dX10_rounded_11 rfl ?_
  refine z_isub Z dX10_rounded_14 ?_
  exact z_iret X hr hlk dX10_rounded_15 h
set_option maxRecDepth 100000 in
set_option maxHeartbeats 4000000 in
theorem wModel_wordBehind_21 {p : Program} {l : Launch} {e : Env} {R : Room} {s : State} {m : MethodId} {args : Array Value} {below : List Frame} {meth : Method} {c : Code} {D : va_G} {A : Nat → Prop} {cI cZ : ClassId} {adK adV ad : Nat → Nat} {r : Int} {M' : zMem} (X : z_X p m c cX10_wordBehind 5 s args RX10 R 1 D cI cZ A adK adV) (hr : meth.sig.returnType = some .int) (hlk : meth.locks = false) (N : Nat) (v4 : Int) (k : Int → zMem → zO) (hk : ∀ (y3 : Int) (M : zMem), k y3 M = some (r, M') → z_V p l e R s m args below meth c D A cI cZ 5 (wM cI cZ ad) M' (some (.int (z_I r))) M 48 [(0, .ref (ad 0)), (3, .int (z_I y3)), (4, .int (z_I v4))] []) : ∀ (n : Nat) (v3 : Int) (M : zMem), Model_wordBehind_21 N v4 k n v3 M = some (r, M') → z_V p l e R s m args below meth c D A cI cZ 5 (wM cI cZ ad) M' (some (.int (z_I r))) M 21 [(0, .ref (ad 0)), (3, .int (z_I v3)), (4, .int (z_I v4))] [] := by
  have Z := X.1
  intro n
  induction n with
  | zero =>
    intro v3 M h
    rw [Model_wordBehind_21] at h
    cases h
  | succ n ih =>
    intro v3 M h
    rw [Model_wordBehind_21] at h
    refine z_aload_n Z dX10_wordBehind_21 rfl 0 rfl ?_
    refine gM_X10_7_0 X dX10_wordBehind_22 ?_
    refine z_bipush Z dX10_wordBehind_25 rfl ?_
    refine z_iload_n Z dX10_wordBehind_27 rfl 1 rfl ?_
    refine z_iadd Z dX10_wordBehind_28 ?_
    refine ldM_1 X dX10_wordBehind_29 h (fun x0 h => ?_)
    refine z_iconst Z dX10_wordBehind_30 ?_
    refine z_icmp_ne (tgt := 48) Z dX10_wordBehind_31 (by decide) h (fun h => ?_) (fun h => ?_)
    · refine z_sub [0, 1, 2] rfl ?_
      exact hk v3 M h
    · refine z_iload_n Z dX10_wordBehind_34 rfl 1 rfl ?_
      refine z_iconst Z dX10_wordBehind_35 ?_
      refine z_iadd Z dX10_wordBehind_36 ?_
      refine z_aload_n Z dX10_wordBehind_37 rfl 0 rfl ?_
      refine gM_X10_7_0 X dX10_wordBehind_38 ?_
      refine z_iconst Z dX10_wordBehind_41 ?_
      refine ldM_1 X dX10_wordBehind_42 h (fun x1 h => ?_)
      refine z_iremt Z dX10_wordBehind_43 h (fun x2 h => ?_)
      refine z_istore_n (lv' := [(3, .int (z_I x2)), (0, .ref (ad 0)), (4, .int (z_I v4))]) Z dX10_wordBehind_44 rfl (by decide) rfl ?_
      refine z_goto (tgt := 21) Z dX10_wordBehind_45 (by decide) ?_
      refine z_sub [1, 0, 2] rfl ?_
      exact ih x2 M h
set_option maxRecDepth 100000 in
set_option maxHeartbeats 4000000 in
theorem wModel_wordBehind_5 {p : Program} {l : Launch} {e : Env} {R : Room} {s : State} {m : MethodId} {args : Array Value} {below : List Frame} {meth : Method} {c : Code} {D : va_G} {A : Nat → Prop} {cI cZ : ClassId} {adK adV ad : Nat → Nat} {r : Int} {M' : zMem} (X : z_X p m c cX10_wordBehind 5 s args RX10 R 1 D cI cZ A adK adV) (hr : meth.sig.returnType = some .int) (hlk : meth.locks = false) (N : Nat) (k : Int → zMem → zO) (hk : ∀ (y3 : Int) (M : zMem), k y3 M = some (r, M') → z_V p l e R s m args below meth c D A cI cZ 5 (wM cI cZ ad) M' (some (.int (z_I r))) M 54 [(3, .int (z_I y3))] []) : ∀ (n : Nat) (v3 v4 : Int) (M : zMem), Model_wordBehind_5 N k n v3 v4 M = some (r, M') → z_V p l e R s m args below meth c D A cI cZ 5 (wM cI cZ ad) M' (some (.int (z_I r))) M 5 [(0, .ref (ad 0)), (3, .int (z_I v3)), (4, .int (z_I v4))] [] := by
  have Z := X.1
  intro n
  induction n with
  | zero =>
    intro v3 v4 M h
    rw [Model_wordBehind_5] at h
    cases h
  | succ n ih =>
    intro v3 v4 M h
    rw [Model_wordBehind_5] at h
    refine z_iload Z dX10_wordBehind_5 2 rfl ?_
    refine z_if_le (tgt := 54) Z dX10_wordBehind_7 (by decide) h (fun h => ?_) (fun h => ?_)
    · refine z_sub [1] rfl ?_
      exact hk v3 M h
    · refine z_iload_n Z dX10_wordBehind_10 rfl 1 rfl ?_
      refine z_iconst Z dX10_wordBehind_11 ?_
      refine z_iadd Z dX10_wordBehind_12 ?_
      refine z_aload_n Z dX10_wordBehind_13 rfl 0 rfl ?_
      refine gM_X10_7_0 X dX10_wordBehind_14 ?_
      refine z_iconst Z dX10_wordBehind_17 ?_
      refine ldM_1 X dX10_wordBehind_18 h (fun x0 h => ?_)
      refine z_iremt Z dX10_wordBehind_19 h (fun x1 h => ?_)
      refine z_istore_n (lv' := [(3, .int (z_I x1)), (0, .ref (ad 0)), (4, .int (z_I v4))]) Z dX10_wordBehind_20 rfl (by decide) rfl ?_
      refine z_jnr (P := fun (k : Int → zMem → zO) => ∀ (v3_ : Int) (M1 : zMem), k v3_ M1 = some (r, M') → z_V p l e R s m args below meth c D A cI cZ 5 (wM cI cZ ad) M' (some (.int (z_I r))) M1 48 [(0, .ref (ad 0)), (3, .int (z_I v3_)), (4, .int (z_I v4))] []) h ?_ ?_
      · intro v3_ M1 h
        refine z_iincn Z (fun z => [(4, .int (z_I z)), (0, .ref (ad 0)), (3, .int (z_I v3_))]) dX10_wordBehind_48 (k := 2) rfl (by decide) (fun _ => rfl) h (fun v4_ h => ?_)
        refine z_goto (tgt := 5) Z dX10_wordBehind_51 (by decide) ?_
        refine z_sub [1, 2, 0] rfl ?_
        exact ih v3_ v4_ M1 h
      · intro k1 hk1 h
        refine z_sub [1, 0, 2] rfl ?_
        exact wModel_wordBehind_21 X hr hlk N v4 k1 hk1 N x1 M h
set_option maxRecDepth 100000 in
set_option maxHeartbeats 4000000 in
theorem c_X10_wordBehind {l : Launch} {D : va_G} {cI cZ : ClassId} {ad adK adV : Nat → Nat} {N : Nat} {v1 v2 : Int} {M M' : zMem} {r : Int} (h : Model_wordBehind N v1 v2 M = some (r, M')) : z_Ct (wM cI cZ ad) D cI cZ adK adV l yX10_wordBehind cX10_wordBehind 5 (some .int) 1 [.ref (ad 0), .int (z_I v1), .int (z_I v2)] M M' (some (.int (z_I r))) := by
  unfold Model_wordBehind at h
  refine z_entry (own := RX10) rfl (by decide) (Nat.le_of_ble_eq_true rfl) ?_
  intro p e s m args below meth c R A X hr hlk
  have Z := X.1
  refine z_sub (lv' := [(0, .ref (ad 0)), (1, .int (z_I v1)), (2, .int (z_I v2))]) [0, 1, 2] rfl ?_
  refine z_iload_n Z dX10_wordBehind_0 rfl 1 rfl ?_
  refine z_istore_n (lv' := [(3, .int (z_I v1)), (0, .ref (ad 0)), (1, .int (z_I v1)), (2, .int (z_I v2))]) Z dX10_wordBehind_1 rfl (by decide) rfl ?_
  refine z_iload_n Z dX10_wordBehind_2 rfl 3 rfl ?_
  refine z_istore (lv' := [(4, .int (z_I v2)), (3, .int (z_I v1)), (0, .ref (ad 0)), (1, .int (z_I v1)), (2, .int (z_I v2))]) Z dX10_wordBehind_3 (by decide) rfl ?_
  refine z_jnr (P := fun (k : Int → zMem → zO) => ∀ (v3_ : Int) (M1 : zMem), k v3_ M1 = some (r, M') → z_V p l e R s m args below meth c D A cI cZ 5 (wM cI cZ ad) M' (some (.int (z_I r))) M1 54 [(3, .int (z_I v3_))] []) h ?_ ?_
  · intro v3_ M1 h
    refine z_iload_n Z dX10_wordBehind_54 rfl 0 rfl ?_
    exact z_iret X hr hlk dX10_wordBehind_55 h
  · intro k0 hk0 h
    refine z_sub [2, 1, 0] rfl ?_
    exact wModel_wordBehind_5 X hr hlk N k0 hk0 N v1 v2 M h
set_option maxRecDepth 100000 in
set_option maxHeartbeats 4000000 in
theorem c_X10_goes {l : Launch} {D : va_G} {cI cZ : ClassId} {ad adK adV : Nat → Nat} {N : Nat} {v1 v2 : Int} {M M' : zMem} {r : Int} (h : Model_goes N v1 v2 M = some (r, M')) : z_Ct (wM cI cZ ad) D cI cZ adK adV l yX10_goes cX10_goes 4 none 4 [.ref (ad 0), .int (z_I v1), .int (z_I v2)] M M' none := by
  unfold Model_goes at h
  refine z_entry (own := RX10) rfl (by decide) (Nat.le_of_ble_eq_true rfl) ?_
  intro p e s m args below meth c R A X hr hlk
  have Z := X.1
  refine z_sub (lv' := [(0, .ref (ad 0)), (1, .int (z_I v1)), (2, .int (z_I v2))]) [0, 1, 2] rfl ?_
  refine z_aload_n Z dX10_goes_0 rfl 0 rfl ?_
  refine gM_X10_69_0 X dX10_goes_1 ?_
  refine z_iload_n Z dX10_goes_4 rfl 1 rfl ?_
  refine ldM_19 X dX10_goes_5 h (fun x0 h => ?_)
  refine z_istore_n (lv' := [(3, .int (z_I x0)), (0, .ref (ad 0)), (1, .int (z_I v1)), (2, .int (z_I v2))]) Z dX10_goes_6 rfl (by decide) rfl ?_
  refine z_iload_n Z dX10_goes_7 rfl 3 rfl ?_
  obtain ⟨hx, -, h⟩ := z_eqd h
  rcases h with ⟨e0, h⟩ | ⟨n0, h⟩
  · refine z_tableIn (tgt := 52) Z dX10_goes_8 hx (by omega) (by omega) (by rw [e0]; rfl) (by decide) ?_
    refine z_aload_n Z dX10_goes_52 rfl 1 rfl ?_
    refine z_aload_n Z dX10_goes_53 rfl 1 rfl ?_
    refine gM_X10_66_0 X dX10_goes_54 ?_
    refine z_iload_n Z dX10_goes_57 rfl 0 rfl ?_
    refine ldM_18 X dX10_goes_58 h (fun x1 h => ?_)
    refine pM_X10_266_0 X dX10_goes_59 h (fun M1 h => ?_)
    refine z_goto (tgt := 169) Z dX10_goes_62 (by decide) ?_
    exact z_vret X hr hlk dX10_goes_169 h
  · obtain ⟨hx, -, h⟩ := z_eqd h
    rcases h with ⟨e0, h⟩ | ⟨n1, h⟩
    · refine z_tableIn (tgt := 65) Z dX10_goes_8 hx (by omega) (by omega) (by rw [e0]; rfl) (by decide) ?_
      refine z_aload_n Z dX10_goes_65 rfl 1 rfl ?_
      refine z_aload_n Z dX10_goes_66 rfl 1 rfl ?_
      refine gM_X10_266_0 X dX10_goes_67 ?_
      refine z_aload_n Z dX10_goes_70 rfl 1 rfl ?_
      refine gM_X10_66_0 X dX10_goes_71 ?_
      refine z_iload_n Z dX10_goes_74 rfl 0 rfl ?_
      refine ldM_18 X dX10_goes_75 h (fun x2 h => ?_)
      refine z_iadd Z dX10_goes_76 ?_
      obtain ⟨r_, M2, hf, h⟩ := z_cld h
      refine z_callSi (Wd := wM cI cZ ad) X (c_X10_rounded hf) ml_X10_282 yd_X10_rounded yw_X10_rounded (by omega) (by decide) rfl rfl (Nat.le_of_ble_eq_true rfl) ⟨Nat.zero_le _, Nat.zero_le _⟩ dX10_goes_77 ?_
      refine pM_X10_266_0 X dX10_goes_80 h (fun M3 h => ?_)
      refine z_goto (tgt := 169) Z dX10_goes_83 (by decide) ?_
      exact z_vret X hr hlk dX10_goes_169 h
    · obtain ⟨hx, -, h⟩ := z_eqd h
      rcases h with ⟨e0, h⟩ | ⟨n2, h⟩
      · refine z_tableIn (tgt := 86) Z dX10_goes_8 hx (by omega) (by omega) (by rw [e0]; rfl) (by decide) ?_
        refine z_aload_n Z dX10_goes_86 rfl 1 rfl ?_
        refine z_aload_n Z dX10_goes_87 rfl 1 rfl ?_
        refine gM_X10_266_0 X dX10_goes_88 ?_
        refine z_aload_n Z dX10_goes_91 rfl 1 rfl ?_
        refine gM_X10_66_0 X dX10_goes_92 ?_
        refine z_iload_n Z dX10_goes_95 rfl 0 rfl ?_
        refine ldM_18 X dX10_goes_96 h (fun x3 h => ?_)
        refine z_isub Z dX10_goes_97 ?_
        obtain ⟨r_1, M4, hf1, h⟩ := z_cld h
        refine z_callSi (Wd := wM cI cZ ad) X (c_X10_rounded hf1) ml_X10_282 yd_X10_rounded yw_X10_rounded (by omega) (by decide) rfl rfl (Nat.le_of_ble_eq_true rfl) ⟨Nat.zero_le _, Nat.zero_le _⟩ dX10_goes_98 ?_
        refine pM_X10_266_0 X dX10_goes_101 h (fun M5 h => ?_)
        refine z_goto (tgt := 169) Z dX10_goes_104 (by decide) ?_
        exact z_vret X hr hlk dX10_goes_169 h
      · obtain ⟨hx, -, h⟩ := z_eqd h
        rcases h with ⟨e0, h⟩ | ⟨n3, h⟩
        · refine z_tableIn (tgt := 107) Z dX10_goes_8 hx (by omega) (by omega) (by rw [e0]; rfl) (by decide) ?_
          refine z_aload_n Z dX10_goes_107 rfl 1 rfl ?_
          refine z_aload_n Z dX10_goes_108 rfl 1 rfl ?_
          refine gM_X10_266_0 X dX10_goes_109 ?_
          refine z_aload_n Z dX10_goes_112 rfl 1 rfl ?_
          refine gM_X10_66_0 X dX10_goes_113 ?_
          refine z_iload_n Z dX10_goes_116 rfl 0 rfl ?_
          refine ldM_18 X dX10_goes_117 h (fun x4 h => ?_)
          refine z_imul Z dX10_goes_118 ?_
          obtain ⟨r_2, M6, hf2, h⟩ := z_cld h
          refine z_callSi (Wd := wM cI cZ ad) X (c_X10_rounded hf2) ml_X10_282 yd_X10_rounded yw_X10_rounded (by omega) (by decide) rfl rfl (Nat.le_of_ble_eq_true rfl) ⟨Nat.zero_le _, Nat.zero_le _⟩ dX10_goes_119 ?_
          refine pM_X10_266_0 X dX10_goes_122 h (fun M7 h => ?_)
          refine z_goto (tgt := 169) Z dX10_goes_125 (by decide) ?_
          exact z_vret X hr hlk dX10_goes_169 h
        · obtain ⟨hx, -, h⟩ := z_eqd h
          rcases h with ⟨e0, h⟩ | ⟨n4, h⟩
          · refine z_tableIn (tgt := 128) Z dX10_goes_8 hx (by omega) (by omega) (by rw [e0]; rfl) (by decide) ?_
            refine z_aload_n Z dX10_goes_128 rfl 1 rfl ?_
            refine gM_X10_66_0 X dX10_goes_129 ?_
            refine z_iload_n Z dX10_goes_132 rfl 0 rfl ?_
            refine z_aload_n Z dX10_goes_133 rfl 1 rfl ?_
            refine gM_X10_266_0 X dX10_goes_134 ?_
            refine srM_18 X dX10_goes_137 h (fun M8 h => ?_)
            refine z_goto (tgt := 169) Z dX10_goes_138 (by decide) ?_
            exact z_vret X hr hlk dX10_goes_169 h
          · obtain ⟨hx, -, h⟩ := z_eqd h
            rcases h with ⟨e0, h⟩ | ⟨n5, h⟩
            · refine z_tableIn (tgt := 169) Z dX10_goes_8 hx (by omega) (by omega) (by rw [e0]; rfl) (by decide) ?_
              exact z_vret X hr hlk dX10_goes_169 h
            · obtain ⟨hx, -, h⟩ := z_eqd h
              rcases h with ⟨e0, h⟩ | ⟨n6, h⟩
              · refine z_tableIn (tgt := 141) Z dX10_goes_8 hx (by omega) (by omega) (by rw [e0]; rfl) (by decide) ?_
                refine z_aload_n Z dX10_goes_141 rfl 1 rfl ?_
                refine gM_X10_69_0 X dX10_goes_142 ?_
                refine z_iload_n Z dX10_goes_145 rfl 0 rfl ?_
                refine z_aload_n Z dX10_goes_146 rfl 1 rfl ?_
                refine z_aload_n Z dX10_goes_147 rfl 1 rfl ?_
                refine gM_X10_69_0 X dX10_goes_148 ?_
                refine z_iload_n Z dX10_goes_151 rfl 0 rfl ?_
                refine ldM_19 X dX10_goes_152 h (fun x5 h => ?_)
                refine z_aload_n Z dX10_goes_153 rfl 1 rfl ?_
                refine gM_X10_7_0 X dX10_goes_154 ?_
                refine z_bipush Z dX10_goes_157 rfl ?_
                refine z_iload_n Z dX10_goes_159 rfl 2 rfl ?_
                refine z_iadd Z dX10_goes_160 ?_
                refine ldM_1 X dX10_goes_161 h (fun x6 h => ?_)
                obtain ⟨r_3, M9, hf3, h⟩ := z_cld h
                refine z_callVi (Wd := wM cI cZ ad) X (c_X10_wordBehind hf3) ml_X10_285 yd_X10_wordBehind yw_X10_wordBehind (by omega) (by decide) (rM_0 X) rfl rfl (Nat.le_of_ble_eq_true rfl) ⟨Nat.zero_le _, Nat.zero_le _⟩ dX10_goes_162 ?_
                refine srM_19 X dX10_goes_165 h (fun M10 h => ?_)
                refine z_goto (tgt := 169) Z dX10_goes_166 (by decide) ?_
                exact z_vret X hr hlk dX10_goes_169 h
              · refine z_tableOut (tgt := 169) Z dX10_goes_8 hx (by omega) (by decide) ?_
                exact z_vret X hr hlk dX10_goes_169 h
set_option maxRecDepth 100000 in
set_option maxHeartbeats 4000000 in
theorem c_X10_reading {l : Launch} {D : va_G} {cI cZ : ClassId} {ad adK adV : Nat → Nat} {v1 v2 : Int} {M M' : zMem} {r : Int} (h : Model_reading v1 v2 M = some (r, M')) : z_Ct (wM cI cZ ad) D cI cZ adK adV l yX10_reading cX10_reading 3 none 1 [.ref (ad 0), .int (z_I v1), .int (z_I v2)] M M' none := by
  unfold Model_reading at h
  refine z_entry (own := RX10) rfl (by decide) (Nat.le_of_ble_eq_true rfl) ?_
  intro p e s m args below meth c R A X hr hlk
  have Z := X.1
  refine z_sub (lv' := [(0, .ref (ad 0)), (1, .int (z_I v1)), (2, .int (z_I v2))]) [0, 1, 2] rfl ?_
  refine z_aload_n Z dX10_reading_0 rfl 0 rfl ?_
  refine gM_X10_45_0 X dX10_reading_1 ?_
  refine z_aload_n Z dX10_reading_4 rfl 0 rfl ?_
  refine gM_X10_261_0 X dX10_reading_5 ?_
  refine z_iload_n Z dX10_reading_8 rfl 1 rfl ?_
  refine srM_11 X dX10_reading_9 h (fun M1 h => ?_)
  refine z_aload_n Z dX10_reading_10 rfl 0 rfl ?_
  refine gM_X10_48_0 X dX10_reading_11 ?_
  refine z_aload_n Z dX10_reading_14 rfl 0 rfl ?_
  refine gM_X10_261_0 X dX10_reading_15 ?_
  refine z_iload_n Z dX10_reading_18 rfl 2 rfl ?_
  refine srM_12 X dX10_reading_19 h (fun M2 h => ?_)
  refine z_aload_n Z dX10_reading_20 rfl 0 rfl ?_
  refine z_dup Z dX10_reading_21 rfl ?_
  refine gM_X10_261_0 X dX10_reading_22 ?_
  refine z_iconst Z dX10_reading_25 ?_
  refine z_iadd Z dX10_reading_26 ?_
  refine pM_X10_261_0 X dX10_reading_27 h (fun M3 h => ?_)
  exact z_vret X hr hlk dX10_reading_30 h
set_option maxRecDepth 100000 in
set_option maxHeartbeats 4000000 in
theorem wModel_runs_2 {p : Program} {l : Launch} {e : Env} {R : Room} {s : State} {m : MethodId} {args : Array Value} {below : List Frame} {meth : Method} {c : Code} {D : va_G} {A : Nat → Prop} {cI cZ : ClassId} {adK adV ad : Nat → Nat} {r : Int} {M' : zMem} (X : z_X p m c cX10_runs 4 s args RX10 R 5 D cI cZ A adK adV) (hr : meth.sig.returnType = none) (hlk : meth.locks = false) (N : Nat) (k : zMem → zO) (hk : ∀ (M : zMem), k M = some (r, M') → z_V p l e R s m args below meth c D A cI cZ 4 (wM cI cZ ad) M' none M 44 [(0, .ref (ad 0))] []) : ∀ (n : Nat) (v1 : Int) (M : zMem), Model_runs_2 N k n v1 M = some (r, M') → z_V p l e R s m args below meth c D A cI cZ 4 (wM cI cZ ad) M' none M 2 [(0, .ref (ad 0)), (1, .int (z_I v1))] [] := by
  have Z := X.1
  intro n
  induction n with
  | zero =>
    intro v1 M h
    rw [Model_runs_2] at h
    cases h
  | succ n ih =>
    intro v1 M h
    rw [Model_runs_2] at h
    refine z_iload_n Z dX10_runs_2 rfl 1 rfl ?_
    refine z_bipush Z dX10_runs_3 rfl ?_
    refine z_icmp_ge (tgt := 44) Z dX10_runs_5 (by decide) h (fun h => ?_) (fun h => ?_)
    · refine z_sub [0] rfl ?_
      exact hk M h
    · refine z_aload_n Z dX10_runs_8 rfl 0 rfl ?_
      refine gM_X10_66_0 X dX10_runs_9 ?_
      refine z_iload_n Z dX10_runs_12 rfl 1 rfl ?_
      refine z_aload_n Z dX10_runs_13 rfl 0 rfl ?_
      refine gM_X10_7_0 X dX10_runs_14 ?_
      refine z_bipush Z dX10_runs_17 rfl ?_
      refine z_iload_n Z dX10_runs_19 rfl 1 rfl ?_
      refine z_iadd Z dX10_runs_20 ?_
      refine ldM_1 X dX10_runs_21 h (fun x0 h => ?_)
      refine srM_18 X dX10_runs_22 h (fun M1 h => ?_)
      refine z_aload_n Z dX10_runs_23 rfl 0 rfl ?_
      refine gM_X10_69_0 X dX10_runs_24 ?_
      refine z_iload_n Z dX10_runs_27 rfl 1 rfl ?_
      refine z_aload_n Z dX10_runs_28 rfl 0 rfl ?_
      refine gM_X10_7_0 X dX10_runs_29 ?_
      refine z_bipush Z dX10_runs_32 rfl ?_
      refine z_iload_n Z dX10_runs_34 rfl 1 rfl ?_
      refine z_iadd Z dX10_runs_35 ?_
      refine ldM_1 X dX10_runs_36 h (fun x1 h => ?_)
      refine srM_19 X dX10_runs_37 h (fun M2 h => ?_)
      refine z_iincn Z (fun z => [(1, .int (z_I z)), (0, .ref (ad 0))]) dX10_runs_38 (k := 1) rfl (by decide) (fun _ => rfl) h (fun v1_ h => ?_)
      refine z_goto (tgt := 2) Z dX10_runs_41 (by decide) ?_
      refine z_sub [1, 0] rfl ?_
      exact ih v1_ M2 h
set_option maxRecDepth 100000 in
set_option maxHeartbeats 4000000 in
theorem wModel_runs_74 {p : Program} {l : Launch} {e : Env} {R : Room} {s : State} {m : MethodId} {args : Array Value} {below : List Frame} {meth : Method} {c : Code} {D : va_G} {A : Nat → Prop} {cI cZ : ClassId} {adK adV ad : Nat → Nat} {r : Int} {M' : zMem} (X : z_X p m c cX10_runs 4 s args RX10 R 5 D cI cZ A adK adV) (hr : meth.sig.returnType = none) (hlk : meth.locks = false) (N : Nat) (k : zMem → zO) (hk : ∀ (M : zMem), k M = some (r, M') → z_V p l e R s m args below meth c D A cI cZ 4 (wM cI cZ ad) M' none M 299 [] []) : ∀ (n : Nat) (v1 v2 : Int) (M : zMem), Model_runs_74 N k n v1 v2 M = some (r, M') → z_V p l e R s m args below meth c D A cI cZ 4 (wM cI cZ ad) M' none M 74 [(0, .ref (ad 0)), (1, .int (z_I v1)), (2, .int (z_I v2))] [] := by
  have Z := X.1
  intro n
  induction n with
  | zero =>
    intro v1 v2 M h
    rw [Model_runs_74] at h
    cases h
  | succ n ih =>
    intro v1 v2 M h
    rw [Model_runs_74] at h
    refine z_aload_n Z dX10_runs_74 rfl 0 rfl ?_
    refine gM_X10_269_0 X dX10_runs_75 ?_
    refine z_if_ne (tgt := 299) Z dX10_runs_78 (by decide) h (fun h => ?_) (fun h => ?_)
    · refine z_sub [] rfl ?_
      exact hk M h
    · refine z_aload_n Z dX10_runs_81 rfl 0 rfl ?_
      refine z_iload_n Z dX10_runs_82 rfl 1 rfl ?_
      refine z_iload_n Z dX10_runs_83 rfl 2 rfl ?_
      obtain ⟨u_, M1, hf, h⟩ := z_cld h
      refine z_callVv (Wd := wM cI cZ ad) X (c_X10_reading hf) ml_X10_272 yd_X10_reading yw_X10_reading (by omega) (by decide) (rM_0 X) rfl rfl (Nat.le_of_ble_eq_true rfl) ⟨Nat.zero_le _, Nat.zero_le _⟩ dX10_runs_84 ?_
      refine z_aload_n Z dX10_runs_87 rfl 0 rfl ?_
      refine gM_X10_7_0 X dX10_runs_88 ?_
      refine z_bipush Z dX10_runs_91 rfl ?_
      refine z_iload_n Z dX10_runs_93 rfl 1 rfl ?_
      refine z_iadd Z dX10_runs_94 ?_
      refine ldM_1 X dX10_runs_95 h (fun x0 h => ?_)
      refine z_istore_n (lv' := [(3, .int (z_I x0)), (0, .ref (ad 0)), (1, .int (z_I v1)), (2, .int (z_I v2))]) Z dX10_runs_96 rfl (by decide) rfl ?_
      refine z_aload_n Z dX10_runs_97 rfl 1 rfl ?_
      refine gM_X10_54_0 X dX10_runs_98 ?_
      refine z_aload_n Z dX10_runs_101 rfl 1 rfl ?_
      refine gM_X10_263_0 X dX10_runs_102 ?_
      refine z_iload_n Z dX10_runs_105 rfl 2 rfl ?_
      refine srM_14 X dX10_runs_106 h (fun M2 h => ?_)
      refine z_aload_n Z dX10_runs_107 rfl 1 rfl ?_
      refine gM_X10_57_0 X dX10_runs_108 ?_
      refine z_aload_n Z dX10_runs_111 rfl 1 rfl ?_
      refine gM_X10_263_0 X dX10_runs_112 ?_
      refine z_iload_n Z dX10_runs_115 rfl 0 rfl ?_
      refine z_iconst Z dX10_runs_116 ?_
      refine z_jnr (P := fun (k : Int → Int → zMem → zO) => ∀ (x1 x2 : Int) (M3 : zMem), k x1 x2 M3 = some (r, M') → z_V p l e R s m args below meth c D A cI cZ 4 (wM cI cZ ad) M' none M3 136 [(0, .ref (ad 0)), (1, .int (z_I v1)), (3, .int (z_I x0))] [.int (z_I x1), .int (z_I x2), .ref (ad 15)]) h ?_ ?_
      · intro x1 x2 M3 h
        refine srM_15 X dX10_runs_136 h (fun M4 h => ?_)
        refine z_aload_n Z dX10_runs_137 rfl 0 rfl ?_
        refine gM_X10_60_0 X dX10_runs_138 ?_
        refine z_aload_n Z dX10_runs_141 rfl 0 rfl ?_
        refine gM_X10_263_0 X dX10_runs_142 ?_
        refine z_aload_n Z dX10_runs_145 rfl 0 rfl ?_
        refine gM_X10_261_0 X dX10_runs_146 ?_
        refine z_iconst Z dX10_runs_149 ?_
        refine z_isub Z dX10_runs_150 ?_
        refine srM_16 X dX10_runs_151 h (fun M5 h => ?_)
        refine z_iconst Z dX10_runs_152 ?_
        refine z_istore_n (lv' := [(2, .int (z_I 1)), (0, .ref (ad 0)), (1, .int (z_I v1)), (3, .int (z_I x0))]) Z dX10_runs_153 rfl (by decide) rfl ?_
        refine z_aload_n Z dX10_runs_154 rfl 1 rfl ?_
        refine z_iconst Z dX10_runs_155 ?_
        refine pM_X10_276_0 X dX10_runs_156 h (fun M6 h => ?_)
        refine z_aload_n Z dX10_runs_159 rfl 1 rfl ?_
        refine gM_X10_57_0 X dX10_runs_160 ?_
        refine z_aload_n Z dX10_runs_163 rfl 1 rfl ?_
        refine gM_X10_263_0 X dX10_runs_164 ?_
        refine ldM_15 X dX10_runs_167 h (fun x3 h => ?_)
        refine z_iconst Z dX10_runs_168 ?_
        refine z_jnr (P := fun (k : Int → zMem → zO) => ∀ (v2_ : Int) (M7 : zMem), k v2_ M7 = some (r, M') → z_V p l e R s m args below meth c D A cI cZ 4 (wM cI cZ ad) M' none M7 208 [(0, .ref (ad 0)), (1, .int (z_I v1)), (2, .int (z_I v2_)), (3, .int (z_I x0))] []) h ?_ ?_
        · intro v2_ M7 h
          refine z_aload_n Z dX10_runs_208 rfl 0 rfl ?_
          refine z_iload_n Z dX10_runs_209 rfl 1 rfl ?_
          refine z_iload_n Z dX10_runs_210 rfl 3 rfl ?_
          obtain ⟨u_1, M8, hf1, h⟩ := z_cld h
          refine z_callVv (Wd := wM cI cZ ad) X (c_X10_goes hf1) ml_X10_279 yd_X10_goes yw_X10_goes (by omega) (by decide) (rM_0 X) rfl rfl (Nat.le_of_ble_eq_true rfl) ⟨Nat.zero_le _, Nat.zero_le _⟩ dX10_runs_211 ?_
          refine z_aload_n Z dX10_runs_214 rfl 0 rfl ?_
          refine gM_X10_63_0 X dX10_runs_215 ?_
          refine z_aload_n Z dX10_runs_218 rfl 0 rfl ?_
          refine gM_X10_263_0 X dX10_runs_219 ?_
          refine z_aload_n Z dX10_runs_222 rfl 0 rfl ?_
          refine gM_X10_266_0 X dX10_runs_223 ?_
          refine srM_17 X dX10_runs_226 h (fun M9 h => ?_)
          refine z_aload_n Z dX10_runs_227 rfl 0 rfl ?_
          refine z_dup Z dX10_runs_228 rfl ?_
          refine gM_X10_263_0 X dX10_runs_229 ?_
          refine z_iconst Z dX10_runs_232 ?_
          refine z_iadd Z dX10_runs_233 ?_
          refine pM_X10_263_0 X dX10_runs_234 h (fun M10 h => ?_)
          refine z_aload_n Z dX10_runs_237 rfl 0 rfl ?_
          refine z_iload_n Z dX10_runs_238 rfl 3 rfl ?_
          refine z_bipush Z dX10_runs_239 rfl ?_
          refine z_jnr (P := fun (k : Int → zMem → zO) => ∀ (x4 : Int) (M11 : zMem), k x4 M11 = some (r, M') → z_V p l e R s m args below meth c D A cI cZ 4 (wM cI cZ ad) M' none M11 262 [(0, .ref (ad 0)), (1, .int (z_I v1)), (2, .int (z_I v2_)), (3, .int (z_I x0))] [.int (z_I x4), .ref (ad 0)]) h ?_ ?_
          · intro x4 M11 h
            refine pM_X10_269_0 X dX10_runs_262 h (fun M12 h => ?_)
            refine z_iload_n Z dX10_runs_265 rfl 3 rfl ?_
            refine z_iconst Z dX10_runs_266 ?_
            refine z_jnr (P := fun (k : Int → zMem → zO) => ∀ (x5 : Int) (M13 : zMem), k x5 M13 = some (r, M') → z_V p l e R s m args below meth c D A cI cZ 4 (wM cI cZ ad) M' none M13 295 [(0, .ref (ad 0)), (2, .int (z_I v2_))] [.int (z_I x5)]) h ?_ ?_
            · intro x5 M13 h
              refine z_istore_n (lv' := [(1, .int (z_I x5)), (0, .ref (ad 0)), (2, .int (z_I v2_))]) Z dX10_runs_295 rfl (by decide) rfl ?_
              refine z_goto (tgt := 74) Z dX10_runs_296 (by decide) ?_
              refine z_sub [1, 0, 2] rfl ?_
              exact ih x5 v2_ M13 h
            · intro k4 hk4 h
              refine z_jnr (P := fun (k : zMem → zO) => ∀ (M14 : zMem), k M14 = some (r, M') → z_V p l e R s m args below meth c D A cI cZ 4 (wM cI cZ ad) M' none M14 286 [(0, .ref (ad 0)), (1, .int (z_I v1)), (2, .int (z_I v2_))] []) h ?_ ?_
              · intro M14 h
                refine z_aload_n Z dX10_runs_286 rfl 0 rfl ?_
                refine gM_X10_7_0 X dX10_runs_287 ?_
                refine z_bipush Z dX10_runs_290 rfl ?_
                refine z_iload_n Z dX10_runs_292 rfl 1 rfl ?_
                refine z_iadd Z dX10_runs_293 ?_
                refine ldM_1 X dX10_runs_294 h (fun x6 h => ?_)
                refine z_sub [0, 2] rfl ?_
                exact hk4 x6 M14 h
              · intro k5 hk5 h
                refine z_icmp_ne (tgt := 286) Z dX10_runs_267 (by decide) h (fun h => ?_) (fun h => ?_)
                · refine z_sub [0, 1, 2] rfl ?_
                  exact hk5 M12 h
                · refine z_aload_n Z dX10_runs_270 rfl 0 rfl ?_
                  refine gM_X10_266_0 X dX10_runs_271 ?_
                  refine z_if_ge (tgt := 286) Z dX10_runs_274 (by decide) h (fun h => ?_) (fun h => ?_)
                  · refine z_sub [0, 1, 2] rfl ?_
                    exact hk5 M12 h
                  · refine z_aload_n Z dX10_runs_277 rfl 0 rfl ?_
                    refine gM_X10_69_0 X dX10_runs_278 ?_
                    refine z_iload_n Z dX10_runs_281 rfl 1 rfl ?_
                    refine ldM_19 X dX10_runs_282 h (fun x7 h => ?_)
                    refine z_goto (tgt := 295) Z dX10_runs_283 (by decide) ?_
                    refine z_sub [0, 2] rfl ?_
                    exact hk4 x7 M12 h
          · intro k3 hk3 h
            refine z_icmp_ne (tgt := 248) Z dX10_runs_241 (by decide) h (fun h => ?_) (fun h => ?_)
            · refine z_aload_n Z dX10_runs_248 rfl 0 rfl ?_
              refine gM_X10_263_0 X dX10_runs_249 ?_
              refine z_bipush Z dX10_runs_252 rfl ?_
              refine z_icmp_ne (tgt := 261) Z dX10_runs_254 (by decide) h (fun h => ?_) (fun h => ?_)
              · refine z_iconst Z dX10_runs_261 ?_
                refine z_sub [0, 1, 2, 3] rfl ?_
                exact hk3 0 M10 h
              · refine z_iconst Z dX10_runs_257 ?_
                refine z_goto (tgt := 262) Z dX10_runs_258 (by decide) ?_
                refine z_sub [0, 1, 2, 3] rfl ?_
                exact hk3 2 M10 h
            · refine z_iconst Z dX10_runs_244 ?_
              refine z_goto (tgt := 262) Z dX10_runs_245 (by decide) ?_
              refine z_sub [0, 1, 2, 3] rfl ?_
              exact hk3 1 M10 h
        · intro k2 hk2 h
          refine z_icmp_eq (tgt := 208) Z dX10_runs_169 (by decide) h (fun h => ?_) (fun h => ?_)
          · refine z_sub [1, 2, 0, 3] rfl ?_
            exact hk2 1 M6 h
          · refine z_aload_n Z dX10_runs_172 rfl 1 rfl ?_
            refine z_aload_n Z dX10_runs_173 rfl 1 rfl ?_
            refine gM_X10_69_0 X dX10_runs_174 ?_
            refine z_iload_n Z dX10_runs_177 rfl 2 rfl ?_
            refine ldM_19 X dX10_runs_178 h (fun x8 h => ?_)
            refine z_iload_n Z dX10_runs_179 rfl 0 rfl ?_
            obtain ⟨u_2, M15, hf2, h⟩ := z_cld h
            refine z_callVv (Wd := wM cI cZ ad) X (c_X10_reading hf2) ml_X10_272 yd_X10_reading yw_X10_reading (by omega) (by decide) (rM_0 X) rfl rfl (Nat.le_of_ble_eq_true rfl) ⟨Nat.zero_le _, Nat.zero_le _⟩ dX10_runs_180 ?_
            refine z_iload_n Z dX10_runs_183 rfl 3 rfl ?_
            refine z_iconst Z dX10_runs_184 ?_
            refine z_jnr (P := fun (k : Int → zMem → zO) => ∀ (x9 : Int) (M16 : zMem), k x9 M16 = some (r, M') → z_V p l e R s m args below meth c D A cI cZ 4 (wM cI cZ ad) M' none M16 193 [(0, .ref (ad 0)), (1, .int (z_I v1)), (3, .int (z_I x0))] [.int (z_I x9)]) h ?_ ?_
            · intro x9 M16 h
              refine z_istore_n (lv' := [(2, .int (z_I x9)), (0, .ref (ad 0)), (1, .int (z_I v1)), (3, .int (z_I x0))]) Z dX10_runs_193 rfl (by decide) rfl ?_
              refine z_aload_n Z dX10_runs_194 rfl 1 rfl ?_
              refine z_iload_n Z dX10_runs_195 rfl 3 rfl ?_
              refine z_iconst Z dX10_runs_196 ?_
              refine z_jnr (P := fun (k : Int → zMem → zO) => ∀ (x10 : Int) (M17 : zMem), k x10 M17 = some (r, M') → z_V p l e R s m args below meth c D A cI cZ 4 (wM cI cZ ad) M' none M17 205 [(0, .ref (ad 0)), (1, .int (z_I v1)), (2, .int (z_I x9)), (3, .int (z_I x0))] [.int (z_I x10), .ref (ad 0)]) h ?_ ?_
              · intro x10 M17 h
                refine pM_X10_276_0 X dX10_runs_205 h (fun M18 h => ?_)
                refine z_sub [0, 1, 2, 3] rfl ?_
                exact hk2 x9 M18 h
              · intro k7 hk7 h
                refine z_icmp_ne (tgt := 204) Z dX10_runs_197 (by decide) h (fun h => ?_) (fun h => ?_)
                · refine z_iconst Z dX10_runs_204 ?_
                  refine z_sub [1, 2, 0, 3] rfl ?_
                  exact hk7 0 M16 h
                · refine z_iconst Z dX10_runs_200 ?_
                  refine z_goto (tgt := 205) Z dX10_runs_201 (by decide) ?_
                  refine z_sub [1, 2, 0, 3] rfl ?_
                  exact hk7 1 M16 h
            · intro k6 hk6 h
              refine z_icmp_ne (tgt := 192) Z dX10_runs_185 (by decide) h (fun h => ?_) (fun h => ?_)
              · refine z_iconst Z dX10_runs_192 ?_
                refine z_sub [1, 2, 3] rfl ?_
                exact hk6 2 M15 h
              · refine z_iconst Z dX10_runs_188 ?_
                refine z_goto (tgt := 193) Z dX10_runs_189 (by decide) ?_
                refine z_sub [1, 2, 3] rfl ?_
                exact hk6 3 M15 h
      · intro k1 hk1 h
        refine z_jnr (P := fun (k : Int → zMem → zO) => ∀ (x11 : Int) (M19 : zMem), k x11 M19 = some (r, M') → z_V p l e R s m args below meth c D A cI cZ 4 (wM cI cZ ad) M' none M19 126 [(0, .ref (ad 0)), (1, .int (z_I v1)), (3, .int (z_I x0))] [.int (z_I x11), .ref (ad 15)]) h ?_ ?_
        · intro x11 M19 h
          refine z_aload_n Z dX10_runs_126 rfl 0 rfl ?_
          refine gM_X10_69_0 X dX10_runs_127 ?_
          refine z_iload_n Z dX10_runs_130 rfl 1 rfl ?_
          refine ldM_19 X dX10_runs_131 h (fun x12 h => ?_)
          refine z_goto (tgt := 136) Z dX10_runs_132 (by decide) ?_
          refine z_sub [0, 1, 2] rfl ?_
          exact hk1 x12 x11 M19 h
        · intro k8 hk8 h
          refine z_icmp_lt (tgt := 126) Z dX10_runs_117 (by decide) h (fun h => ?_) (fun h => ?_)
          · refine z_sub [1, 2, 0] rfl ?_
            exact hk8 (M2 0 33) M2 h
          · refine z_iload_n Z dX10_runs_120 rfl 0 rfl ?_
            refine z_bipush Z dX10_runs_121 rfl ?_
            refine z_icmp_ne (tgt := 135) Z dX10_runs_123 (by decide) h (fun h => ?_) (fun h => ?_)
            · refine z_iconst Z dX10_runs_135 ?_
              refine z_sub [1, 2, 0] rfl ?_
              exact hk1 (-1) (M2 0 33) M2 h
            · refine z_sub [1, 2, 0] rfl ?_
              exact hk8 (M2 0 33) M2 h
set_option maxRecDepth 100000 in
set_option maxHeartbeats 4000000 in
theorem c_X10_runs {l : Launch} {D : va_G} {cI cZ : ClassId} {ad adK adV : Nat → Nat} {N : Nat} {M M' : zMem} {r : Int} (h : Model_runs N M = some (r, M')) : z_Ct (wM cI cZ ad) D cI cZ adK adV l yX10_runs cX10_runs 4 none 5 [.ref (ad 0)] M M' none := by
  unfold Model_runs at h
  refine z_entry (own := RX10) rfl (by decide) (Nat.le_of_ble_eq_true rfl) ?_
  intro p e s m args below meth c R A X hr hlk
  have Z := X.1
  refine z_sub (lv' := [(0, .ref (ad 0))]) [0] rfl ?_
  refine z_iconst Z dX10_runs_0 ?_
  refine z_istore_n (lv' := [(1, .int (z_I 0)), (0, .ref (ad 0))]) Z dX10_runs_1 rfl (by decide) rfl ?_
  refine z_jnr (P := fun (k : zMem → zO) => ∀ (M1 : zMem), k M1 = some (r, M') → z_V p l e R s m args below meth c D A cI cZ 4 (wM cI cZ ad) M' none M1 44 [(0, .ref (ad 0))] []) h ?_ ?_
  · intro M1 h
    refine z_aload_n Z dX10_runs_44 rfl 0 rfl ?_
    refine z_iconst Z dX10_runs_45 ?_
    refine pM_X10_261_0 X dX10_runs_46 h (fun M2 h => ?_)
    refine z_aload_n Z dX10_runs_49 rfl 0 rfl ?_
    refine z_iconst Z dX10_runs_50 ?_
    refine pM_X10_263_0 X dX10_runs_51 h (fun M3 h => ?_)
    refine z_aload_n Z dX10_runs_54 rfl 0 rfl ?_
    refine z_iconst Z dX10_runs_55 ?_
    refine pM_X10_266_0 X dX10_runs_56 h (fun M4 h => ?_)
    refine z_aload_n Z dX10_runs_59 rfl 0 rfl ?_
    refine z_iconst Z dX10_runs_60 ?_
    refine pM_X10_269_0 X dX10_runs_61 h (fun M5 h => ?_)
    refine z_aload_n Z dX10_runs_64 rfl 0 rfl ?_
    refine gM_X10_7_0 X dX10_runs_65 ?_
    refine z_bipush Z dX10_runs_68 rfl ?_
    refine ldM_1 X dX10_runs_70 h (fun x0 h => ?_)
    refine z_istore_n (lv' := [(1, .int (z_I x0)), (0, .ref (ad 0))]) Z dX10_runs_71 rfl (by decide) rfl ?_
    refine z_iconst Z dX10_runs_72 ?_
    refine z_istore_n (lv' := [(2, .int (z_I 0)), (1, .int (z_I x0)), (0, .ref (ad 0))]) Z dX10_runs_73 rfl (by decide) rfl ?_
    refine z_jnr (P := fun (k : zMem → zO) => ∀ (M6 : zMem), k M6 = some (r, M') → z_V p l e R s m args below meth c D A cI cZ 4 (wM cI cZ ad) M' none M6 299 [] []) h ?_ ?_
    · intro M6 h
      exact z_vret X hr hlk dX10_runs_299 h
    · intro k1 hk1 h
      refine z_sub [2, 1, 0] rfl ?_
      exact wModel_runs_74 X hr hlk N k1 hk1 N x0 0 M5 h
  · intro k0 hk0 h
    refine z_sub [1, 0] rfl ?_
    exact wModel_runs_2 X hr hlk N k0 hk0 N 0 M h
