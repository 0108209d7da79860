/-! the calls of the law -/
set_option maxRecDepth 100000
set_option maxHeartbeats 4000000 in
theorem lc_feed {p : Program} {l : Launch} {e : Env} {s : State} {m : MethodId} {args : Array Value} {below : List Frame} {meth : Method} {c : Code} {Q : State → Prop} {cells slots : Nat} {D : va_G} {A : Nat → Prop} {cI cZ : ClassId} {adK adV adC adM : Nat → Nat} {C E : zMem} {b L : Nat} {xs : Nat → Int32} {i : Int} (X : z_X p m c code 4 s args RL room_1 100 D cI cZ A adK adV) (hX : va_X b L xs s s.heap) (hbl : b < s.heap.size) (hbA : ¬ A b) (hL : L ≤ 3072) (hi : 0 ≤ i ∧ i + 6 ≤ (L : Int)) (hRel : Rel 2000 C E) (hf : cells + 1 ≤ room_1.cells ∧ slots + 5 ≤ room_1.slots)
    (kk : ∀ C' E' : zMem, Rel 2000 C' E' → z_W p l e room_1 s m args below meth c D A Q 4 (cells + 1) (slots + 5) (wL cI cZ adC adM C' E') 944 [(3, .int (z_I i)), (2, .ref (adM 0)), (1, .ref (adC 0)), (0, .ref b)] []) : z_W p l e room_1 s m args below meth c D A Q 4 cells slots (wL cI cZ adC adM C E) 188 [(3, .int (z_I i)), (2, .ref (adM 0)), (1, .ref (adC 0)), (0, .ref b)] [] := by
  have Z := X.1
  have hf0 : cells ≤ room_1.cells ∧ slots ≤ room_1.slots := ⟨by omega, by omega⟩
  obtain ⟨r, C', E', h1, h2, h3⟩ := ok_feed (v1 := (xs (i + 1).toNat).toInt) (v2 := (xs (i + 2).toNat).toInt) (v3 := (xs (i + 3).toNat).toInt) (v4 := (xs (i + 4).toNat).toInt) (v5 := (xs (i + 5).toNat).toInt) hRel (by decide) 
  refine z_aload_n Z dL_law_188 rfl 2 rfl ?_
  refine z_aload_n Z dL_law_189 rfl 3 rfl ?_
  refine z_iload_n Z dL_law_190 rfl 0 rfl ?_
  refine z_iconst Z dL_law_191 ?_
  refine z_iadd Z dL_law_192 ?_
  refine z_sld X hX hbl hbA (i := i + 1) (by omega) hL dL_law_193 ?_
  refine z_aload_n Z dL_law_194 rfl 3 rfl ?_
  refine z_iload_n Z dL_law_195 rfl 0 rfl ?_
  refine z_iconst Z dL_law_196 ?_
  refine z_iadd Z dL_law_197 ?_
  refine z_sld X hX hbl hbA (i := i + 2) (by omega) hL dL_law_198 ?_
  refine z_aload_n Z dL_law_199 rfl 3 rfl ?_
  refine z_iload_n Z dL_law_200 rfl 0 rfl ?_
  refine z_iconst Z dL_law_201 ?_
  refine z_iadd Z dL_law_202 ?_
  refine z_sld X hX hbl hbA (i := i + 3) (by omega) hL dL_law_203 ?_
  refine z_aload_n Z dL_law_204 rfl 3 rfl ?_
  refine z_iload_n Z dL_law_205 rfl 0 rfl ?_
  refine z_iconst Z dL_law_206 ?_
  refine z_iadd Z dL_law_207 ?_
  refine z_sld X hX hbl hbA (i := i + 4) (by omega) hL dL_law_208 ?_
  refine z_aload_n Z dL_law_209 rfl 3 rfl ?_
  refine z_iload_n Z dL_law_210 rfl 0 rfl ?_
  refine z_iconst Z dL_law_211 ?_
  refine z_iadd Z dL_law_212 ?_
  refine z_sld X hX hbl hbA (i := i + 5) (by omega) hL dL_law_213 ?_
  refine z_callC (As := [.int (z_I ((xs (i + 1).toNat).toInt)), .int (z_I ((xs (i + 2).toNat).toInt)), .int (z_I ((xs (i + 3).toNat).toInt)), .int (z_I ((xs (i + 4).toNat).toInt)), .int (z_I ((xs (i + 5).toNat).toInt))]) X (c_X9_feed h1) ml_L_13 yd_X9_feed yw_X9_feed (by decide) (by decide) rfl rfl (Nat.le_of_ble_eq_true rfl) hf0 dL_law_214 ?_
  refine z_aload_n Z dL_law_217 rfl 1 rfl ?_
  refine z_aload_n Z dL_law_218 rfl 3 rfl ?_
  refine z_iload_n Z dL_law_219 rfl 0 rfl ?_
  refine z_iconst Z dL_law_220 ?_
  refine z_iadd Z dL_law_221 ?_
  refine z_sld X hX hbl hbA (i := i + 1) (by omega) hL dL_law_222 ?_
  refine z_aload_n Z dL_law_223 rfl 3 rfl ?_
  refine z_iload_n Z dL_law_224 rfl 0 rfl ?_
  refine z_iconst Z dL_law_225 ?_
  refine z_iadd Z dL_law_226 ?_
  refine z_sld X hX hbl hbA (i := i + 2) (by omega) hL dL_law_227 ?_
  refine z_aload_n Z dL_law_228 rfl 3 rfl ?_
  refine z_iload_n Z dL_law_229 rfl 0 rfl ?_
  refine z_iconst Z dL_law_230 ?_
  refine z_iadd Z dL_law_231 ?_
  refine z_sld X hX hbl hbA (i := i + 3) (by omega) hL dL_law_232 ?_
  refine z_aload_n Z dL_law_233 rfl 3 rfl ?_
  refine z_iload_n Z dL_law_234 rfl 0 rfl ?_
  refine z_iconst Z dL_law_235 ?_
  refine z_iadd Z dL_law_236 ?_
  refine z_sld X hX hbl hbA (i := i + 4) (by omega) hL dL_law_237 ?_
  refine z_aload_n Z dL_law_238 rfl 3 rfl ?_
  refine z_iload_n Z dL_law_239 rfl 0 rfl ?_
  refine z_iconst Z dL_law_240 ?_
  refine z_iadd Z dL_law_241 ?_
  refine z_sld X hX hbl hbA (i := i + 5) (by omega) hL dL_law_242 ?_
  refine z_callM (mc := 1) (ms := 5) (As := [.int (z_I ((xs (i + 1).toNat).toInt)), .int (z_I ((xs (i + 2).toNat).toInt)), .int (z_I ((xs (i + 3).toNat).toInt)), .int (z_I ((xs (i + 4).toNat).toInt)), .int (z_I ((xs (i + 5).toNat).toInt))]) X (c_X10_feed h2) ml_L_17 yd_X10_feed yw_X10_feed (by decide) (by decide) rfl rfl (Nat.le_of_ble_eq_true rfl) hf dL_law_243 ?_
  refine z_same (tgt := 944) X dL_law_246 (by decide) ?_
  exact kk C' E' h3
set_option maxHeartbeats 4000000 in
theorem lc_end {p : Program} {l : Launch} {e : Env} {s : State} {m : MethodId} {args : Array Value} {below : List Frame} {meth : Method} {c : Code} {Q : State → Prop} {cells slots : Nat} {D : va_G} {A : Nat → Prop} {cI cZ : ClassId} {adK adV adC adM : Nat → Nat} {C E : zMem} {b L : Nat} {xs : Nat → Int32} {i : Int} (X : z_X p m c code 4 s args RL room_1 100 D cI cZ A adK adV) (hX : va_X b L xs s s.heap) (hbl : b < s.heap.size) (hbA : ¬ A b) (hL : L ≤ 3072) (hi : 0 ≤ i ∧ i + 6 ≤ (L : Int)) (hRel : Rel 2000 C E) (hf : cells + 1 ≤ room_1.cells ∧ slots + 5 ≤ room_1.slots)
    (kk : ∀ C' E' : zMem, Rel 2000 C' E' → z_W p l e room_1 s m args below meth c D A Q 4 (cells + 1) (slots + 5) (wL cI cZ adC adM C' E') 944 [(3, .int (z_I i)), (2, .ref (adM 0)), (1, .ref (adC 0)), (0, .ref b)] []) : z_W p l e room_1 s m args below meth c D A Q 4 cells slots (wL cI cZ adC adM C E) 251 [(3, .int (z_I i)), (2, .ref (adM 0)), (1, .ref (adC 0)), (0, .ref b)] [] := by
  have Z := X.1
  have hf0 : cells ≤ room_1.cells ∧ slots ≤ room_1.slots := ⟨by omega, by omega⟩
  obtain ⟨r, C', E', h1, h2, h3⟩ := ok_end (v := (xs (i + 1).toNat).toInt) hRel  (z_I_rg _)
  refine z_aload_n Z dL_law_251 rfl 2 rfl ?_
  refine z_aload_n Z dL_law_252 rfl 3 rfl ?_
  refine z_iload_n Z dL_law_253 rfl 0 rfl ?_
  refine z_iconst Z dL_law_254 ?_
  refine z_iadd Z dL_law_255 ?_
  refine z_sld X hX hbl hbA (i := i + 1) (by omega) hL dL_law_256 ?_
  refine z_callC (As := [.int (z_I ((xs (i + 1).toNat).toInt))]) X (c_X9_end h1) ml_L_18 yd_X9_end yw_X9_end (by decide) (by decide) rfl rfl (Nat.le_of_ble_eq_true rfl) hf0 dL_law_257 ?_
  refine z_aload_n Z dL_law_260 rfl 1 rfl ?_
  refine z_aload_n Z dL_law_261 rfl 3 rfl ?_
  refine z_iload_n Z dL_law_262 rfl 0 rfl ?_
  refine z_iconst Z dL_law_263 ?_
  refine z_iadd Z dL_law_264 ?_
  refine z_sld X hX hbl hbA (i := i + 1) (by omega) hL dL_law_265 ?_
  refine z_callM (mc := 0) (ms := 0) (As := [.int (z_I ((xs (i + 1).toNat).toInt))]) X (c_X10_end h2) ml_L_22 yd_X10_end yw_X10_end (by decide) (by decide) rfl rfl (Nat.le_of_ble_eq_true rfl) hf0 dL_law_266 ?_
  refine z_same (tgt := 944) X dL_law_269 (by decide) ?_
  exact z_widen (by omega) (by omega) (kk C' E' h3)
set_option maxHeartbeats 4000000 in
theorem lc_drum {p : Program} {l : Launch} {e : Env} {s : State} {m : MethodId} {args : Array Value} {below : List Frame} {meth : Method} {c : Code} {Q : State → Prop} {cells slots : Nat} {D : va_G} {A : Nat → Prop} {cI cZ : ClassId} {adK adV adC adM : Nat → Nat} {C E : zMem} {b L : Nat} {xs : Nat → Int32} {i : Int} (X : z_X p m c code 4 s args RL room_1 100 D cI cZ A adK adV) (hX : va_X b L xs s s.heap) (hbl : b < s.heap.size) (hbA : ¬ A b) (hL : L ≤ 3072) (hi : 0 ≤ i ∧ i + 6 ≤ (L : Int)) (hRel : Rel 2000 C E) (hf : cells + 1 ≤ room_1.cells ∧ slots + 5 ≤ room_1.slots)
    (kk : ∀ C' E' : zMem, Rel 2000 C' E' → z_W p l e room_1 s m args below meth c D A Q 4 (cells + 1) (slots + 5) (wL cI cZ adC adM C' E') 944 [(3, .int (z_I i)), (2, .ref (adM 0)), (1, .ref (adC 0)), (0, .ref b)] []) : z_W p l e room_1 s m args below meth c D A Q 4 cells slots (wL cI cZ adC adM C E) 274 [(3, .int (z_I i)), (2, .ref (adM 0)), (1, .ref (adC 0)), (0, .ref b)] [] := by
  have Z := X.1
  have hf0 : cells ≤ room_1.cells ∧ slots ≤ room_1.slots := ⟨by omega, by omega⟩
  rw [show wL cI cZ adC adM C E = wL cI cZ adC adM (z_nz C) E from by unfold wL; rw [wC_nz]]
  obtain ⟨r, C', E', h1, h2, h3⟩ := ok_drum  hRel (by decide) 
  refine z_aload_n Z dL_law_274 rfl 2 rfl ?_
  refine z_callC (As := []) X (c_X9_drum h1) ml_L_23 yd_X9_drum yw_X9_drum (by decide) (by decide) rfl rfl (Nat.le_of_ble_eq_true rfl) hf0 dL_law_275 ?_
  refine z_aload_n Z dL_law_278 rfl 1 rfl ?_
  refine z_callM (mc := 0) (ms := 0) (As := []) X (c_X10_drum h2) ml_L_27 yd_X10_drum yw_X10_drum (by decide) (by decide) rfl rfl (Nat.le_of_ble_eq_true rfl) hf0 dL_law_279 ?_
  refine z_same (tgt := 944) X dL_law_282 (by decide) ?_
  exact z_widen (by omega) (by omega) (kk C' E' h3)
set_option maxHeartbeats 4000000 in
theorem lc_fault {p : Program} {l : Launch} {e : Env} {s : State} {m : MethodId} {args : Array Value} {below : List Frame} {meth : Method} {c : Code} {Q : State → Prop} {cells slots : Nat} {D : va_G} {A : Nat → Prop} {cI cZ : ClassId} {adK adV adC adM : Nat → Nat} {C E : zMem} {b L : Nat} {xs : Nat → Int32} {i : Int} (X : z_X p m c code 4 s args RL room_1 100 D cI cZ A adK adV) (hX : va_X b L xs s s.heap) (hbl : b < s.heap.size) (hbA : ¬ A b) (hL : L ≤ 3072) (hi : 0 ≤ i ∧ i + 6 ≤ (L : Int)) (hRel : Rel 2000 C E) (hf : cells + 1 ≤ room_1.cells ∧ slots + 5 ≤ room_1.slots)
    (kk : ∀ C' E' : zMem, Rel 2000 C' E' → z_W p l e room_1 s m args below meth c D A Q 4 (cells + 1) (slots + 5) (wL cI cZ adC adM C' E') 944 [(3, .int (z_I i)), (2, .ref (adM 0)), (1, .ref (adC 0)), (0, .ref b)] []) : z_W p l e room_1 s m args below meth c D A Q 4 cells slots (wL cI cZ adC adM C E) 287 [(3, .int (z_I i)), (2, .ref (adM 0)), (1, .ref (adC 0)), (0, .ref b)] [] := by
  have Z := X.1
  have hf0 : cells ≤ room_1.cells ∧ slots ≤ room_1.slots := ⟨by omega, by omega⟩
  obtain ⟨r, C', E', h1, h2, h3⟩ := ok_fault (v := (xs (i + 1).toNat).toInt) hRel  (z_I_rg _)
  refine z_aload_n Z dL_law_287 rfl 2 rfl ?_
  refine z_aload_n Z dL_law_288 rfl 3 rfl ?_
  refine z_iload_n Z dL_law_289 rfl 0 rfl ?_
  refine z_iconst Z dL_law_290 ?_
  refine z_iadd Z dL_law_291 ?_
  refine z_sld X hX hbl hbA (i := i + 1) (by omega) hL dL_law_292 ?_
  refine z_callC (As := [.int (z_I ((xs (i + 1).toNat).toInt))]) X (c_X9_fault h1) ml_L_28 yd_X9_fault yw_X9_fault (by decide) (by decide) rfl rfl (Nat.le_of_ble_eq_true rfl) hf0 dL_law_293 ?_
  refine z_aload_n Z dL_law_296 rfl 1 rfl ?_
  refine z_aload_n Z dL_law_297 rfl 3 rfl ?_
  refine z_iload_n Z dL_law_298 rfl 0 rfl ?_
  refine z_iconst Z dL_law_299 ?_
  refine z_iadd Z dL_law_300 ?_
  refine z_sld X hX hbl hbA (i := i + 1) (by omega) hL dL_law_301 ?_
  refine z_callM (mc := 0) (ms := 0) (As := [.int (z_I ((xs (i + 1).toNat).toInt))]) X (c_X10_fault h2) ml_L_31 yd_X10_fault yw_X10_fault (by decide) (by decide) rfl rfl (Nat.le_of_ble_eq_true rfl) hf0 dL_law_302 ?_
  refine z_same (tgt := 944) X dL_law_305 (by decide) ?_
  exact z_widen (by omega) (by omega) (kk C' E' h3)
set_option maxHeartbeats 4000000 in
theorem lc_count {p : Program} {l : Launch} {e : Env} {s : State} {m : MethodId} {args : Array Value} {below : List Frame} {meth : Method} {c : Code} {Q : State → Prop} {cells slots : Nat} {D : va_G} {A : Nat → Prop} {cI cZ : ClassId} {adK adV adC adM : Nat → Nat} {C E : zMem} {b L : Nat} {xs : Nat → Int32} {i : Int} (X : z_X p m c code 4 s args RL room_1 100 D cI cZ A adK adV) (hX : va_X b L xs s s.heap) (hbl : b < s.heap.size) (hbA : ¬ A b) (hL : L ≤ 3072) (hi : 0 ≤ i ∧ i + 6 ≤ (L : Int)) (hRel : Rel 2000 C E) (hf : cells + 1 ≤ room_1.cells ∧ slots + 5 ≤ room_1.slots)
    (kk : ∀ C' E' : zMem, Rel 2000 C' E' → z_W p l e room_1 s m args below meth c D A Q 4 (cells + 1) (slots + 5) (wL cI cZ adC adM C' E') 944 [(3, .int (z_I i)), (2, .ref (adM 0)), (1, .ref (adC 0)), (0, .ref b)] []) : z_W p l e room_1 s m args below meth c D A Q 4 cells slots (wL cI cZ adC adM C E) 310 [(3, .int (z_I i)), (2, .ref (adM 0)), (1, .ref (adC 0)), (0, .ref b)] [] := by
  have Z := X.1
  have hf0 : cells ≤ room_1.cells ∧ slots ≤ room_1.slots := ⟨by omega, by omega⟩
  obtain ⟨r, C', E', h1, h2, h3⟩ := ok_count (v := (xs (i + 1).toNat).toInt) hRel (by decide) (z_I_rg _)
  refine z_aload_n Z dL_law_310 rfl 2 rfl ?_
  refine z_aload_n Z dL_law_311 rfl 3 rfl ?_
  refine z_iload_n Z dL_law_312 rfl 0 rfl ?_
  refine z_iconst Z dL_law_313 ?_
  refine z_iadd Z dL_law_314 ?_
  refine z_sld X hX hbl hbA (i := i + 1) (by omega) hL dL_law_315 ?_
  refine z_callC (As := [.int (z_I ((xs (i + 1).toNat).toInt))]) X (c_X9_count h1) ml_L_32 yd_X9_count yw_X9_count (by decide) (by decide) rfl rfl (Nat.le_of_ble_eq_true rfl) hf0 dL_law_316 ?_
  refine z_aload_n Z dL_law_319 rfl 1 rfl ?_
  refine z_aload_n Z dL_law_320 rfl 3 rfl ?_
  refine z_iload_n Z dL_law_321 rfl 0 rfl ?_
  refine z_iconst Z dL_law_322 ?_
  refine z_iadd Z dL_law_323 ?_
  refine z_sld X hX hbl hbA (i := i + 1) (by omega) hL dL_law_324 ?_
  refine z_callM (mc := 0) (ms := 0) (As := [.int (z_I ((xs (i + 1).toNat).toInt))]) X (c_X10_count h2) ml_L_35 yd_X10_count yw_X10_count (by decide) (by decide) rfl rfl (Nat.le_of_ble_eq_true rfl) hf0 dL_law_325 ?_
  refine z_same (tgt := 944) X dL_law_328 (by decide) ?_
  exact z_widen (by omega) (by omega) (kk C' E' h3)
set_option maxHeartbeats 4000000 in
theorem lc_item {p : Program} {l : Launch} {e : Env} {s : State} {m : MethodId} {args : Array Value} {below : List Frame} {meth : Method} {c : Code} {Q : State → Prop} {cells slots : Nat} {D : va_G} {A : Nat → Prop} {cI cZ : ClassId} {adK adV adC adM : Nat → Nat} {C E : zMem} {b L : Nat} {xs : Nat → Int32} {i : Int} (X : z_X p m c code 4 s args RL room_1 100 D cI cZ A adK adV) (hX : va_X b L xs s s.heap) (hbl : b < s.heap.size) (hbA : ¬ A b) (hL : L ≤ 3072) (hi : 0 ≤ i ∧ i + 6 ≤ (L : Int)) (hRel : Rel 2000 C E) (hf : cells + 1 ≤ room_1.cells ∧ slots + 5 ≤ room_1.slots)
    (kk : ∀ C' E' : zMem, Rel 2000 C' E' → z_W p l e room_1 s m args below meth c D A Q 4 (cells + 1) (slots + 5) (wL cI cZ adC adM C' E') 944 [(3, .int (z_I i)), (2, .ref (adM 0)), (1, .ref (adC 0)), (0, .ref b)] []) : z_W p l e room_1 s m args below meth c D A Q 4 cells slots (wL cI cZ adC adM C E) 333 [(3, .int (z_I i)), (2, .ref (adM 0)), (1, .ref (adC 0)), (0, .ref b)] [] := by
  have Z := X.1
  have hf0 : cells ≤ room_1.cells ∧ slots ≤ room_1.slots := ⟨by omega, by omega⟩
  obtain ⟨r, C', E', h1, h2, h3⟩ := ok_item (v := (xs (i + 1).toNat).toInt) (w := (xs (i + 2).toNat).toInt) hRel  (z_I_rg _) (z_I_rg _)
  refine z_aload_n Z dL_law_333 rfl 2 rfl ?_
  refine z_aload_n Z dL_law_334 rfl 3 rfl ?_
  refine z_iload_n Z dL_law_335 rfl 0 rfl ?_
  refine z_iconst Z dL_law_336 ?_
  refine z_iadd Z dL_law_337 ?_
  refine z_sld X hX hbl hbA (i := i + 1) (by omega) hL dL_law_338 ?_
  refine z_aload_n Z dL_law_339 rfl 3 rfl ?_
  refine z_iload_n Z dL_law_340 rfl 0 rfl ?_
  refine z_iconst Z dL_law_341 ?_
  refine z_iadd Z dL_law_342 ?_
  refine z_sld X hX hbl hbA (i := i + 2) (by omega) hL dL_law_343 ?_
  refine z_callC (As := [.int (z_I ((xs (i + 1).toNat).toInt)), .int (z_I ((xs (i + 2).toNat).toInt))]) X (c_X9_item h1) ml_L_36 yd_X9_item yw_X9_item (by decide) (by decide) rfl rfl (Nat.le_of_ble_eq_true rfl) hf0 dL_law_344 ?_
  refine z_aload_n Z dL_law_347 rfl 1 rfl ?_
  refine z_aload_n Z dL_law_348 rfl 3 rfl ?_
  refine z_iload_n Z dL_law_349 rfl 0 rfl ?_
  refine z_iconst Z dL_law_350 ?_
  refine z_iadd Z dL_law_351 ?_
  refine z_sld X hX hbl hbA (i := i + 1) (by omega) hL dL_law_352 ?_
  refine z_aload_n Z dL_law_353 rfl 3 rfl ?_
  refine z_iload_n Z dL_law_354 rfl 0 rfl ?_
  refine z_iconst Z dL_law_355 ?_
  refine z_iadd Z dL_law_356 ?_
  refine z_sld X hX hbl hbA (i := i + 2) (by omega) hL dL_law_357 ?_
  refine z_callM (mc := 0) (ms := 0) (As := [.int (z_I ((xs (i + 1).toNat).toInt)), .int (z_I ((xs (i + 2).toNat).toInt))]) X (c_X10_item h2) ml_L_40 yd_X10_item yw_X10_item (by decide) (by decide) rfl rfl (Nat.le_of_ble_eq_true rfl) hf0 dL_law_358 ?_
  refine z_same (tgt := 944) X dL_law_361 (by decide) ?_
  exact z_widen (by omega) (by omega) (kk C' E' h3)
set_option maxHeartbeats 4000000 in
theorem lc_at {p : Program} {l : Launch} {e : Env} {s : State} {m : MethodId} {args : Array Value} {below : List Frame} {meth : Method} {c : Code} {Q : State → Prop} {cells slots : Nat} {D : va_G} {A : Nat → Prop} {cI cZ : ClassId} {adK adV adC adM : Nat → Nat} {C E : zMem} {b L : Nat} {xs : Nat → Int32} {i : Int} (X : z_X p m c code 4 s args RL room_1 100 D cI cZ A adK adV) (hX : va_X b L xs s s.heap) (hbl : b < s.heap.size) (hbA : ¬ A b) (hL : L ≤ 3072) (hi : 0 ≤ i ∧ i + 6 ≤ (L : Int)) (hRel : Rel 2000 C E) (hf : cells + 1 ≤ room_1.cells ∧ slots + 5 ≤ room_1.slots)
    (kk : ∀ C' E' : zMem, Rel 2000 C' E' → z_W p l e room_1 s m args below meth c D A Q 4 (cells + 1) (slots + 5) (wL cI cZ adC adM C' E') 944 [(3, .int (z_I i)), (2, .ref (adM 0)), (1, .ref (adC 0)), (0, .ref b)] []) : z_W p l e room_1 s m args below meth c D A Q 4 cells slots (wL cI cZ adC adM C E) 366 [(3, .int (z_I i)), (2, .ref (adM 0)), (1, .ref (adC 0)), (0, .ref b)] [] := by
  have Z := X.1
  have hf0 : cells ≤ room_1.cells ∧ slots ≤ room_1.slots := ⟨by omega, by omega⟩
  obtain ⟨r, C', E', h1, h2, h3⟩ := ok_at (v := (xs (i + 1).toNat).toInt) hRel (by decide) (z_I_rg _)
  refine z_aload_n Z dL_law_366 rfl 2 rfl ?_
  refine z_aload_n Z dL_law_367 rfl 3 rfl ?_
  refine z_iload_n Z dL_law_368 rfl 0 rfl ?_
  refine z_iconst Z dL_law_369 ?_
  refine z_iadd Z dL_law_370 ?_
  refine z_sld X hX hbl hbA (i := i + 1) (by omega) hL dL_law_371 ?_
  refine z_callC (As := [.int (z_I ((xs (i + 1).toNat).toInt))]) X (c_X9_at h1) ml_L_41 yd_X9_at yw_X9_at (by decide) (by decide) rfl rfl (Nat.le_of_ble_eq_true rfl) hf0 dL_law_372 ?_
  refine z_aload_n Z dL_law_375 rfl 1 rfl ?_
  refine z_aload_n Z dL_law_376 rfl 3 rfl ?_
  refine z_iload_n Z dL_law_377 rfl 0 rfl ?_
  refine z_iconst Z dL_law_378 ?_
  refine z_iadd Z dL_law_379 ?_
  refine z_sld X hX hbl hbA (i := i + 1) (by omega) hL dL_law_380 ?_
  refine z_callM (mc := 0) (ms := 0) (As := [.int (z_I ((xs (i + 1).toNat).toInt))]) X (c_X10_at h2) ml_L_44 yd_X10_at yw_X10_at (by decide) (by decide) rfl rfl (Nat.le_of_ble_eq_true rfl) hf0 dL_law_381 ?_
  refine z_same (tgt := 944) X dL_law_384 (by decide) ?_
  exact z_widen (by omega) (by omega) (kk C' E' h3)
set_option maxHeartbeats 4000000 in
theorem lc_steps {p : Program} {l : Launch} {e : Env} {s : State} {m : MethodId} {args : Array Value} {below : List Frame} {meth : Method} {c : Code} {Q : State → Prop} {cells slots : Nat} {D : va_G} {A : Nat → Prop} {cI cZ : ClassId} {adK adV adC adM : Nat → Nat} {C E : zMem} {b L : Nat} {xs : Nat → Int32} {i : Int} (X : z_X p m c code 4 s args RL room_1 100 D cI cZ A adK adV) (hX : va_X b L xs s s.heap) (hbl : b < s.heap.size) (hbA : ¬ A b) (hL : L ≤ 3072) (hi : 0 ≤ i ∧ i + 6 ≤ (L : Int)) (hRel : Rel 2000 C E) (hf : cells + 1 ≤ room_1.cells ∧ slots + 5 ≤ room_1.slots)
    (kk : ∀ C' E' : zMem, Rel 2000 C' E' → z_W p l e room_1 s m args below meth c D A Q 4 (cells + 1) (slots + 5) (wL cI cZ adC adM C' E') 944 [(3, .int (z_I i)), (2, .ref (adM 0)), (1, .ref (adC 0)), (0, .ref b)] []) : z_W p l e room_1 s m args below meth c D A Q 4 cells slots (wL cI cZ adC adM C E) 389 [(3, .int (z_I i)), (2, .ref (adM 0)), (1, .ref (adC 0)), (0, .ref b)] [] := by
  have Z := X.1
  have hf0 : cells ≤ room_1.cells ∧ slots ≤ room_1.slots := ⟨by omega, by omega⟩
  obtain ⟨r, C', E', h1, h2, h3⟩ := ok_steps  hRel  
  refine z_aload_n Z dL_law_389 rfl 2 rfl ?_
  refine z_callC (As := []) X (c_X9_steps h1) ml_L_45 yd_X9_steps yw_X9_steps (by decide) (by decide) rfl rfl (Nat.le_of_ble_eq_true rfl) hf0 dL_law_390 ?_
  refine z_aload_n Z dL_law_393 rfl 1 rfl ?_
  refine z_callM (mc := 0) (ms := 0) (As := []) X (c_X10_steps h2) ml_L_48 yd_X10_steps yw_X10_steps (by decide) (by decide) rfl rfl (Nat.le_of_ble_eq_true rfl) hf0 dL_law_394 ?_
  refine z_same (tgt := 944) X dL_law_397 (by decide) ?_
  exact z_widen (by omega) (by omega) (kk C' E' h3)
set_option maxHeartbeats 4000000 in
theorem lc_why {p : Program} {l : Launch} {e : Env} {s : State} {m : MethodId} {args : Array Value} {below : List Frame} {meth : Method} {c : Code} {Q : State → Prop} {cells slots : Nat} {D : va_G} {A : Nat → Prop} {cI cZ : ClassId} {adK adV adC adM : Nat → Nat} {C E : zMem} {b L : Nat} {xs : Nat → Int32} {i : Int} (X : z_X p m c code 4 s args RL room_1 100 D cI cZ A adK adV) (hX : va_X b L xs s s.heap) (hbl : b < s.heap.size) (hbA : ¬ A b) (hL : L ≤ 3072) (hi : 0 ≤ i ∧ i + 6 ≤ (L : Int)) (hRel : Rel 2000 C E) (hf : cells + 1 ≤ room_1.cells ∧ slots + 5 ≤ room_1.slots)
    (kk : ∀ C' E' : zMem, Rel 2000 C' E' → z_W p l e room_1 s m args below meth c D A Q 4 (cells + 1) (slots + 5) (wL cI cZ adC adM C' E') 944 [(3, .int (z_I i)), (2, .ref (adM 0)), (1, .ref (adC 0)), (0, .ref b)] []) : z_W p l e room_1 s m args below meth c D A Q 4 cells slots (wL cI cZ adC adM C E) 402 [(3, .int (z_I i)), (2, .ref (adM 0)), (1, .ref (adC 0)), (0, .ref b)] [] := by
  have Z := X.1
  have hf0 : cells ≤ room_1.cells ∧ slots ≤ room_1.slots := ⟨by omega, by omega⟩
  obtain ⟨r, C', E', h1, h2, h3⟩ := ok_why  hRel  
  refine z_aload_n Z dL_law_402 rfl 2 rfl ?_
  refine z_callC (As := []) X (c_X9_why h1) ml_L_49 yd_X9_why yw_X9_why (by decide) (by decide) rfl rfl (Nat.le_of_ble_eq_true rfl) hf0 dL_law_403 ?_
  refine z_aload_n Z dL_law_406 rfl 1 rfl ?_
  refine z_callM (mc := 0) (ms := 0) (As := []) X (c_X10_why h2) ml_L_52 yd_X10_why yw_X10_why (by decide) (by decide) rfl rfl (Nat.le_of_ble_eq_true rfl) hf0 dL_law_407 ?_
  refine z_same (tgt := 944) X dL_law_410 (by decide) ?_
  exact z_widen (by omega) (by omega) (kk C' E' h3)
set_option maxHeartbeats 4000000 in
theorem lc_acc {p : Program} {l : Launch} {e : Env} {s : State} {m : MethodId} {args : Array Value} {below : List Frame} {meth : Method} {c : Code} {Q : State → Prop} {cells slots : Nat} {D : va_G} {A : Nat → Prop} {cI cZ : ClassId} {adK adV adC adM : Nat → Nat} {C E : zMem} {b L : Nat} {xs : Nat → Int32} {i : Int} (X : z_X p m c code 4 s args RL room_1 100 D cI cZ A adK adV) (hX : va_X b L xs s s.heap) (hbl : b < s.heap.size) (hbA : ¬ A b) (hL : L ≤ 3072) (hi : 0 ≤ i ∧ i + 6 ≤ (L : Int)) (hRel : Rel 2000 C E) (hf : cells + 1 ≤ room_1.cells ∧ slots + 5 ≤ room_1.slots)
    (kk : ∀ C' E' : zMem, Rel 2000 C' E' → z_W p l e room_1 s m args below meth c D A Q 4 (cells + 1) (slots + 5) (wL cI cZ adC adM C' E') 944 [(3, .int (z_I i)), (2, .ref (adM 0)), (1, .ref (adC 0)), (0, .ref b)] []) : z_W p l e room_1 s m args below meth c D A Q 4 cells slots (wL cI cZ adC adM C E) 415 [(3, .int (z_I i)), (2, .ref (adM 0)), (1, .ref (adC 0)), (0, .ref b)] [] := by
  have Z := X.1
  have hf0 : cells ≤ room_1.cells ∧ slots ≤ room_1.slots := ⟨by omega, by omega⟩
  obtain ⟨r, C', E', h1, h2, h3⟩ := ok_acc  hRel  
  refine z_aload_n Z dL_law_415 rfl 2 rfl ?_
  refine z_callC (As := []) X (c_X9_acc h1) ml_L_53 yd_X9_acc yw_X9_acc (by decide) (by decide) rfl rfl (Nat.le_of_ble_eq_true rfl) hf0 dL_law_416 ?_
  refine z_aload_n Z dL_law_419 rfl 1 rfl ?_
  refine z_callM (mc := 0) (ms := 0) (As := []) X (c_X10_acc h2) ml_L_56 yd_X10_acc yw_X10_acc (by decide) (by decide) rfl rfl (Nat.le_of_ble_eq_true rfl) hf0 dL_law_420 ?_
  refine z_same (tgt := 944) X dL_law_423 (by decide) ?_
  exact z_widen (by omega) (by omega) (kk C' E' h3)
set_option maxHeartbeats 4000000 in
theorem lc_value {p : Program} {l : Launch} {e : Env} {s : State} {m : MethodId} {args : Array Value} {below : List Frame} {meth : Method} {c : Code} {Q : State → Prop} {cells slots : Nat} {D : va_G} {A : Nat → Prop} {cI cZ : ClassId} {adK adV adC adM : Nat → Nat} {C E : zMem} {b L : Nat} {xs : Nat → Int32} {i : Int} (X : z_X p m c code 4 s args RL room_1 100 D cI cZ A adK adV) (hX : va_X b L xs s s.heap) (hbl : b < s.heap.size) (hbA : ¬ A b) (hL : L ≤ 3072) (hi : 0 ≤ i ∧ i + 6 ≤ (L : Int)) (hRel : Rel 2000 C E) (hf : cells + 1 ≤ room_1.cells ∧ slots + 5 ≤ room_1.slots)
    (kk : ∀ C' E' : zMem, Rel 2000 C' E' → z_W p l e room_1 s m args below meth c D A Q 4 (cells + 1) (slots + 5) (wL cI cZ adC adM C' E') 944 [(3, .int (z_I i)), (2, .ref (adM 0)), (1, .ref (adC 0)), (0, .ref b)] []) : z_W p l e room_1 s m args below meth c D A Q 4 cells slots (wL cI cZ adC adM C E) 428 [(3, .int (z_I i)), (2, .ref (adM 0)), (1, .ref (adC 0)), (0, .ref b)] [] := by
  have Z := X.1
  have hf0 : cells ≤ room_1.cells ∧ slots ≤ room_1.slots := ⟨by omega, by omega⟩
  obtain ⟨r, C', E', h1, h2, h3⟩ := ok_value (v := (xs (i + 1).toNat).toInt) hRel  (z_I_rg _)
  refine z_aload_n Z dL_law_428 rfl 2 rfl ?_
  refine z_aload_n Z dL_law_429 rfl 3 rfl ?_
  refine z_iload_n Z dL_law_430 rfl 0 rfl ?_
  refine z_iconst Z dL_law_431 ?_
  refine z_iadd Z dL_law_432 ?_
  refine z_sld X hX hbl hbA (i := i + 1) (by omega) hL dL_law_433 ?_
  refine z_callC (As := [.int (z_I ((xs (i + 1).toNat).toInt))]) X (c_X9_value h1) ml_L_57 yd_X9_value yw_X9_value (by decide) (by decide) rfl rfl (Nat.le_of_ble_eq_true rfl) hf0 dL_law_434 ?_
  refine z_aload_n Z dL_law_437 rfl 1 rfl ?_
  refine z_aload_n Z dL_law_438 rfl 3 rfl ?_
  refine z_iload_n Z dL_law_439 rfl 0 rfl ?_
  refine z_iconst Z dL_law_440 ?_
  refine z_iadd Z dL_law_441 ?_
  refine z_sld X hX hbl hbA (i := i + 1) (by omega) hL dL_law_442 ?_
  refine z_callM (mc := 0) (ms := 0) (As := [.int (z_I ((xs (i + 1).toNat).toInt))]) X (c_X10_value h2) ml_L_60 yd_X10_value yw_X10_value (by decide) (by decide) rfl rfl (Nat.le_of_ble_eq_true rfl) hf0 dL_law_443 ?_
  refine z_same (tgt := 944) X dL_law_446 (by decide) ?_
  exact z_widen (by omega) (by omega) (kk C' E' h3)
set_option maxHeartbeats 4000000 in
theorem lc_done {p : Program} {l : Launch} {e : Env} {s : State} {m : MethodId} {args : Array Value} {below : List Frame} {meth : Method} {c : Code} {Q : State → Prop} {cells slots : Nat} {D : va_G} {A : Nat → Prop} {cI cZ : ClassId} {adK adV adC adM : Nat → Nat} {C E : zMem} {b L : Nat} {xs : Nat → Int32} {i : Int} (X : z_X p m c code 4 s args RL room_1 100 D cI cZ A adK adV) (hX : va_X b L xs s s.heap) (hbl : b < s.heap.size) (hbA : ¬ A b) (hL : L ≤ 3072) (hi : 0 ≤ i ∧ i + 6 ≤ (L : Int)) (hRel : Rel 2000 C E) (hf : cells + 1 ≤ room_1.cells ∧ slots + 5 ≤ room_1.slots)
    (kk : ∀ C' E' : zMem, Rel 2000 C' E' → z_W p l e room_1 s m args below meth c D A Q 4 (cells + 1) (slots + 5) (wL cI cZ adC adM C' E') 944 [(3, .int (z_I i)), (2, .ref (adM 0)), (1, .ref (adC 0)), (0, .ref b)] []) : z_W p l e room_1 s m args below meth c D A Q 4 cells slots (wL cI cZ adC adM C E) 451 [(3, .int (z_I i)), (2, .ref (adM 0)), (1, .ref (adC 0)), (0, .ref b)] [] := by
  have Z := X.1
  have hf0 : cells ≤ room_1.cells ∧ slots ≤ room_1.slots := ⟨by omega, by omega⟩
  obtain ⟨r, C', E', h1, h2, h3⟩ := ok_done (v := (xs (i + 1).toNat).toInt) (w := (xs (i + 2).toNat).toInt) hRel (by decide) (z_I_rg _) (z_I_rg _)
  refine z_aload_n Z dL_law_451 rfl 2 rfl ?_
  refine z_aload_n Z dL_law_452 rfl 3 rfl ?_
  refine z_iload_n Z dL_law_453 rfl 0 rfl ?_
  refine z_iconst Z dL_law_454 ?_
  refine z_iadd Z dL_law_455 ?_
  refine z_sld X hX hbl hbA (i := i + 1) (by omega) hL dL_law_456 ?_
  refine z_aload_n Z dL_law_457 rfl 3 rfl ?_
  refine z_iload_n Z dL_law_458 rfl 0 rfl ?_
  refine z_iconst Z dL_law_459 ?_
  refine z_iadd Z dL_law_460 ?_
  refine z_sld X hX hbl hbA (i := i + 2) (by omega) hL dL_law_461 ?_
  refine z_callC (As := [.int (z_I ((xs (i + 1).toNat).toInt)), .int (z_I ((xs (i + 2).toNat).toInt))]) X (c_X9_done h1) ml_L_61 yd_X9_done yw_X9_done (by decide) (by decide) rfl rfl (Nat.le_of_ble_eq_true rfl) hf0 dL_law_462 ?_
  refine z_aload_n Z dL_law_465 rfl 1 rfl ?_
  refine z_aload_n Z dL_law_466 rfl 3 rfl ?_
  refine z_iload_n Z dL_law_467 rfl 0 rfl ?_
  refine z_iconst Z dL_law_468 ?_
  refine z_iadd Z dL_law_469 ?_
  refine z_sld X hX hbl hbA (i := i + 1) (by omega) hL dL_law_470 ?_
  refine z_aload_n Z dL_law_471 rfl 3 rfl ?_
  refine z_iload_n Z dL_law_472 rfl 0 rfl ?_
  refine z_iconst Z dL_law_473 ?_
  refine z_iadd Z dL_law_474 ?_
  refine z_sld X hX hbl hbA (i := i + 2) (by omega) hL dL_law_475 ?_
  refine z_callM (mc := 0) (ms := 0) (As := [.int (z_I ((xs (i + 1).toNat).toInt)), .int (z_I ((xs (i + 2).toNat).toInt))]) X (c_X10_done h2) ml_L_64 yd_X10_done yw_X10_done (by decide) (by decide) rfl rfl (Nat.le_of_ble_eq_true rfl) hf0 dL_law_476 ?_
  refine z_same (tgt := 944) X dL_law_479 (by decide) ?_
  exact z_widen (by omega) (by omega) (kk C' E' h3)
set_option maxHeartbeats 4000000 in
theorem lc_time {p : Program} {l : Launch} {e : Env} {s : State} {m : MethodId} {args : Array Value} {below : List Frame} {meth : Method} {c : Code} {Q : State → Prop} {cells slots : Nat} {D : va_G} {A : Nat → Prop} {cI cZ : ClassId} {adK adV adC adM : Nat → Nat} {C E : zMem} {b L : Nat} {xs : Nat → Int32} {i : Int} (X : z_X p m c code 4 s args RL room_1 100 D cI cZ A adK adV) (hX : va_X b L xs s s.heap) (hbl : b < s.heap.size) (hbA : ¬ A b) (hL : L ≤ 3072) (hi : 0 ≤ i ∧ i + 6 ≤ (L : Int)) (hRel : Rel 2000 C E) (hf : cells + 1 ≤ room_1.cells ∧ slots + 5 ≤ room_1.slots)
    (kk : ∀ C' E' : zMem, Rel 2000 C' E' → z_W p l e room_1 s m args below meth c D A Q 4 (cells + 1) (slots + 5) (wL cI cZ adC adM C' E') 944 [(3, .int (z_I i)), (2, .ref (adM 0)), (1, .ref (adC 0)), (0, .ref b)] []) : z_W p l e room_1 s m args below meth c D A Q 4 cells slots (wL cI cZ adC adM C E) 484 [(3, .int (z_I i)), (2, .ref (adM 0)), (1, .ref (adC 0)), (0, .ref b)] [] := by
  have Z := X.1
  have hf0 : cells ≤ room_1.cells ∧ slots ≤ room_1.slots := ⟨by omega, by omega⟩
  obtain ⟨r, C', E', h1, h2, h3⟩ := ok_time  hRel (by decide) 
  refine z_aload_n Z dL_law_484 rfl 2 rfl ?_
  refine z_callC (As := []) X (c_X9_time h1) ml_L_65 yd_X9_time yw_X9_time (by decide) (by decide) rfl rfl (Nat.le_of_ble_eq_true rfl) hf0 dL_law_485 ?_
  refine z_aload_n Z dL_law_488 rfl 1 rfl ?_
  refine z_callM (mc := 0) (ms := 0) (As := []) X (c_X10_time h2) ml_L_68 yd_X10_time yw_X10_time (by decide) (by decide) rfl rfl (Nat.le_of_ble_eq_true rfl) hf0 dL_law_489 ?_
  refine z_same (tgt := 944) X dL_law_492 (by decide) ?_
  exact z_widen (by omega) (by omega) (kk C' E' h3)
set_option maxHeartbeats 4000000 in
theorem lc_rounds {p : Program} {l : Launch} {e : Env} {s : State} {m : MethodId} {args : Array Value} {below : List Frame} {meth : Method} {c : Code} {Q : State → Prop} {cells slots : Nat} {D : va_G} {A : Nat → Prop} {cI cZ : ClassId} {adK adV adC adM : Nat → Nat} {C E : zMem} {b L : Nat} {xs : Nat → Int32} {i : Int} (X : z_X p m c code 4 s args RL room_1 100 D cI cZ A adK adV) (hX : va_X b L xs s s.heap) (hbl : b < s.heap.size) (hbA : ¬ A b) (hL : L ≤ 3072) (hi : 0 ≤ i ∧ i + 6 ≤ (L : Int)) (hRel : Rel 2000 C E) (hf : cells + 1 ≤ room_1.cells ∧ slots + 5 ≤ room_1.slots)
    (kk : ∀ C' E' : zMem, Rel 2000 C' E' → z_W p l e room_1 s m args below meth c D A Q 4 (cells + 1) (slots + 5) (wL cI cZ adC adM C' E') 944 [(3, .int (z_I i)), (2, .ref (adM 0)), (1, .ref (adC 0)), (0, .ref b)] []) : z_W p l e room_1 s m args below meth c D A Q 4 cells slots (wL cI cZ adC adM C E) 497 [(3, .int (z_I i)), (2, .ref (adM 0)), (1, .ref (adC 0)), (0, .ref b)] [] := by
  have Z := X.1
  have hf0 : cells ≤ room_1.cells ∧ slots ≤ room_1.slots := ⟨by omega, by omega⟩
  obtain ⟨r, C', E', h1, h2, h3⟩ := ok_rounds  hRel (by decide) 
  refine z_aload_n Z dL_law_497 rfl 2 rfl ?_
  refine z_callC (As := []) X (c_X9_rounds h1) ml_L_69 yd_X9_rounds yw_X9_rounds (by decide) (by decide) rfl rfl (Nat.le_of_ble_eq_true rfl) hf0 dL_law_498 ?_
  refine z_aload_n Z dL_law_501 rfl 1 rfl ?_
  refine z_callM (mc := 0) (ms := 0) (As := []) X (c_X10_rounds h2) ml_L_72 yd_X10_rounds yw_X10_rounds (by decide) (by decide) rfl rfl (Nat.le_of_ble_eq_true rfl) hf0 dL_law_502 ?_
  refine z_same (tgt := 944) X dL_law_505 (by decide) ?_
  exact z_widen (by omega) (by omega) (kk C' E' h3)
set_option maxHeartbeats 4000000 in
theorem lc_lost {p : Program} {l : Launch} {e : Env} {s : State} {m : MethodId} {args : Array Value} {below : List Frame} {meth : Method} {c : Code} {Q : State → Prop} {cells slots : Nat} {D : va_G} {A : Nat → Prop} {cI cZ : ClassId} {adK adV adC adM : Nat → Nat} {C E : zMem} {b L : Nat} {xs : Nat → Int32} {i : Int} (X : z_X p m c code 4 s args RL room_1 100 D cI cZ A adK adV) (hX : va_X b L xs s s.heap) (hbl : b < s.heap.size) (hbA : ¬ A b) (hL : L ≤ 3072) (hi : 0 ≤ i ∧ i + 6 ≤ (L : Int)) (hRel : Rel 2000 C E) (hf : cells + 1 ≤ room_1.cells ∧ slots + 5 ≤ room_1.slots)
    (kk : ∀ C' E' : zMem, Rel 2000 C' E' → z_W p l e room_1 s m args below meth c D A Q 4 (cells + 1) (slots + 5) (wL cI cZ adC adM C' E') 944 [(3, .int (z_I i)), (2, .ref (adM 0)), (1, .ref (adC 0)), (0, .ref b)] []) : z_W p l e room_1 s m args below meth c D A Q 4 cells slots (wL cI cZ adC adM C E) 510 [(3, .int (z_I i)), (2, .ref (adM 0)), (1, .ref (adC 0)), (0, .ref b)] [] := by
  have Z := X.1
  have hf0 : cells ≤ room_1.cells ∧ slots ≤ room_1.slots := ⟨by omega, by omega⟩
  obtain ⟨r, C', E', h1, h2, h3⟩ := ok_lost  hRel (by decide) 
  refine z_aload_n Z dL_law_510 rfl 2 rfl ?_
  refine z_callC (As := []) X (c_X9_lost h1) ml_L_73 yd_X9_lost yw_X9_lost (by decide) (by decide) rfl rfl (Nat.le_of_ble_eq_true rfl) hf0 dL_law_511 ?_
  refine z_aload_n Z dL_law_514 rfl 1 rfl ?_
  refine z_callM (mc := 0) (ms := 0) (As := []) X (c_X10_lost h2) ml_L_76 yd_X10_lost yw_X10_lost (by decide) (by decide) rfl rfl (Nat.le_of_ble_eq_true rfl) hf0 dL_law_515 ?_
  refine z_same (tgt := 944) X dL_law_518 (by decide) ?_
  exact z_widen (by omega) (by omega) (kk C' E' h3)
set_option maxHeartbeats 4000000 in
theorem lc_lostFor {p : Program} {l : Launch} {e : Env} {s : State} {m : MethodId} {args : Array Value} {below : List Frame} {meth : Method} {c : Code} {Q : State → Prop} {cells slots : Nat} {D : va_G} {A : Nat → Prop} {cI cZ : ClassId} {adK adV adC adM : Nat → Nat} {C E : zMem} {b L : Nat} {xs : Nat → Int32} {i : Int} (X : z_X p m c code 4 s args RL room_1 100 D cI cZ A adK adV) (hX : va_X b L xs s s.heap) (hbl : b < s.heap.size) (hbA : ¬ A b) (hL : L ≤ 3072) (hi : 0 ≤ i ∧ i + 6 ≤ (L : Int)) (hRel : Rel 2000 C E) (hf : cells + 1 ≤ room_1.cells ∧ slots + 5 ≤ room_1.slots)
    (kk : ∀ C' E' : zMem, Rel 2000 C' E' → z_W p l e room_1 s m args below meth c D A Q 4 (cells + 1) (slots + 5) (wL cI cZ adC adM C' E') 944 [(3, .int (z_I i)), (2, .ref (adM 0)), (1, .ref (adC 0)), (0, .ref b)] []) : z_W p l e room_1 s m args below meth c D A Q 4 cells slots (wL cI cZ adC adM C E) 523 [(3, .int (z_I i)), (2, .ref (adM 0)), (1, .ref (adC 0)), (0, .ref b)] [] := by
  have Z := X.1
  have hf0 : cells ≤ room_1.cells ∧ slots ≤ room_1.slots := ⟨by omega, by omega⟩
  obtain ⟨r, C', E', h1, h2, h3⟩ := ok_lostFor (v := (xs (i + 1).toNat).toInt) hRel (by decide) (z_I_rg _)
  refine z_aload_n Z dL_law_523 rfl 2 rfl ?_
  refine z_aload_n Z dL_law_524 rfl 3 rfl ?_
  refine z_iload_n Z dL_law_525 rfl 0 rfl ?_
  refine z_iconst Z dL_law_526 ?_
  refine z_iadd Z dL_law_527 ?_
  refine z_sld X hX hbl hbA (i := i + 1) (by omega) hL dL_law_528 ?_
  refine z_callC (As := [.int (z_I ((xs (i + 1).toNat).toInt))]) X (c_X9_lostFor h1) ml_L_77 yd_X9_lostFor yw_X9_lostFor (by decide) (by decide) rfl rfl (Nat.le_of_ble_eq_true rfl) hf0 dL_law_529 ?_
  refine z_aload_n Z dL_law_532 rfl 1 rfl ?_
  refine z_aload_n Z dL_law_533 rfl 3 rfl ?_
  refine z_iload_n Z dL_law_534 rfl 0 rfl ?_
  refine z_iconst Z dL_law_535 ?_
  refine z_iadd Z dL_law_536 ?_
  refine z_sld X hX hbl hbA (i := i + 1) (by omega) hL dL_law_537 ?_
  refine z_callM (mc := 0) (ms := 0) (As := [.int (z_I ((xs (i + 1).toNat).toInt))]) X (c_X10_lostFor h2) ml_L_80 yd_X10_lostFor yw_X10_lostFor (by decide) (by decide) rfl rfl (Nat.le_of_ble_eq_true rfl) hf0 dL_law_538 ?_
  refine z_same (tgt := 944) X dL_law_541 (by decide) ?_
  exact z_widen (by omega) (by omega) (kk C' E' h3)
set_option maxHeartbeats 4000000 in
theorem lc_worst {p : Program} {l : Launch} {e : Env} {s : State} {m : MethodId} {args : Array Value} {below : List Frame} {meth : Method} {c : Code} {Q : State → Prop} {cells slots : Nat} {D : va_G} {A : Nat → Prop} {cI cZ : ClassId} {adK adV adC adM : Nat → Nat} {C E : zMem} {b L : Nat} {xs : Nat → Int32} {i : Int} (X : z_X p m c code 4 s args RL room_1 100 D cI cZ A adK adV) (hX : va_X b L xs s s.heap) (hbl : b < s.heap.size) (hbA : ¬ A b) (hL : L ≤ 3072) (hi : 0 ≤ i ∧ i + 6 ≤ (L : Int)) (hRel : Rel 2000 C E) (hf : cells + 1 ≤ room_1.cells ∧ slots + 5 ≤ room_1.slots)
    (kk : ∀ C' E' : zMem, Rel 2000 C' E' → z_W p l e room_1 s m args below meth c D A Q 4 (cells + 1) (slots + 5) (wL cI cZ adC adM C' E') 944 [(3, .int (z_I i)), (2, .ref (adM 0)), (1, .ref (adC 0)), (0, .ref b)] []) : z_W p l e room_1 s m args below meth c D A Q 4 cells slots (wL cI cZ adC adM C E) 546 [(3, .int (z_I i)), (2, .ref (adM 0)), (1, .ref (adC 0)), (0, .ref b)] [] := by
  have Z := X.1
  have hf0 : cells ≤ room_1.cells ∧ slots ≤ room_1.slots := ⟨by omega, by omega⟩
  obtain ⟨r, C', E', h1, h2, h3⟩ := ok_worst  hRel (by decide) 
  refine z_aload_n Z dL_law_546 rfl 2 rfl ?_
  refine z_callC (As := []) X (c_X9_worst h1) ml_L_81 yd_X9_worst yw_X9_worst (by decide) (by decide) rfl rfl (Nat.le_of_ble_eq_true rfl) hf0 dL_law_547 ?_
  refine z_aload_n Z dL_law_550 rfl 1 rfl ?_
  refine z_callM (mc := 0) (ms := 0) (As := []) X (c_X10_worst h2) ml_L_84 yd_X10_worst yw_X10_worst (by decide) (by decide) rfl rfl (Nat.le_of_ble_eq_true rfl) hf0 dL_law_551 ?_
  refine z_same (tgt := 944) X dL_law_554 (by decide) ?_
  exact z_widen (by omega) (by omega) (kk C' E' h3)
set_option maxHeartbeats 4000000 in
theorem lc_met {p : Program} {l : Launch} {e : Env} {s : State} {m : MethodId} {args : Array Value} {below : List Frame} {meth : Method} {c : Code} {Q : State → Prop} {cells slots : Nat} {D : va_G} {A : Nat → Prop} {cI cZ : ClassId} {adK adV adC adM : Nat → Nat} {C E : zMem} {b L : Nat} {xs : Nat → Int32} {i : Int} (X : z_X p m c code 4 s args RL room_1 100 D cI cZ A adK adV) (hX : va_X b L xs s s.heap) (hbl : b < s.heap.size) (hbA : ¬ A b) (hL : L ≤ 3072) (hi : 0 ≤ i ∧ i + 6 ≤ (L : Int)) (hRel : Rel 2000 C E) (hf : cells + 1 ≤ room_1.cells ∧ slots + 5 ≤ room_1.slots)
    (kk : ∀ C' E' : zMem, Rel 2000 C' E' → z_W p l e room_1 s m args below meth c D A Q 4 (cells + 1) (slots + 5) (wL cI cZ adC adM C' E') 944 [(3, .int (z_I i)), (2, .ref (adM 0)), (1, .ref (adC 0)), (0, .ref b)] []) : z_W p l e room_1 s m args below meth c D A Q 4 cells slots (wL cI cZ adC adM C E) 559 [(3, .int (z_I i)), (2, .ref (adM 0)), (1, .ref (adC 0)), (0, .ref b)] [] := by
  have Z := X.1
  have hf0 : cells ≤ room_1.cells ∧ slots ≤ room_1.slots := ⟨by omega, by omega⟩
  obtain ⟨r, C', E', h1, h2, h3⟩ := ok_met (v := (xs (i + 1).toNat).toInt) hRel (by decide) (z_I_rg _)
  refine z_aload_n Z dL_law_559 rfl 2 rfl ?_
  refine z_aload_n Z dL_law_560 rfl 3 rfl ?_
  refine z_iload_n Z dL_law_561 rfl 0 rfl ?_
  refine z_iconst Z dL_law_562 ?_
  refine z_iadd Z dL_law_563 ?_
  refine z_sld X hX hbl hbA (i := i + 1) (by omega) hL dL_law_564 ?_
  refine z_callC (As := [.int (z_I ((xs (i + 1).toNat).toInt))]) X (c_X9_met h1) ml_L_85 yd_X9_met yw_X9_met (by decide) (by decide) rfl rfl (Nat.le_of_ble_eq_true rfl) hf0 dL_law_565 ?_
  refine z_aload_n Z dL_law_568 rfl 1 rfl ?_
  refine z_aload_n Z dL_law_569 rfl 3 rfl ?_
  refine z_iload_n Z dL_law_570 rfl 0 rfl ?_
  refine z_iconst Z dL_law_571 ?_
  refine z_iadd Z dL_law_572 ?_
  refine z_sld X hX hbl hbA (i := i + 1) (by omega) hL dL_law_573 ?_
  refine z_callM (mc := 0) (ms := 0) (As := [.int (z_I ((xs (i + 1).toNat).toInt))]) X (c_X10_met h2) ml_L_88 yd_X10_met yw_X10_met (by decide) (by decide) rfl rfl (Nat.le_of_ble_eq_true rfl) hf0 dL_law_574 ?_
  refine z_same (tgt := 944) X dL_law_577 (by decide) ?_
  exact z_widen (by omega) (by omega) (kk C' E' h3)
set_option maxHeartbeats 4000000 in
theorem lc_bound {p : Program} {l : Launch} {e : Env} {s : State} {m : MethodId} {args : Array Value} {below : List Frame} {meth : Method} {c : Code} {Q : State → Prop} {cells slots : Nat} {D : va_G} {A : Nat → Prop} {cI cZ : ClassId} {adK adV adC adM : Nat → Nat} {C E : zMem} {b L : Nat} {xs : Nat → Int32} {i : Int} (X : z_X p m c code 4 s args RL room_1 100 D cI cZ A adK adV) (hX : va_X b L xs s s.heap) (hbl : b < s.heap.size) (hbA : ¬ A b) (hL : L ≤ 3072) (hi : 0 ≤ i ∧ i + 6 ≤ (L : Int)) (hRel : Rel 2000 C E) (hf : cells + 1 ≤ room_1.cells ∧ slots + 5 ≤ room_1.slots)
    (kk : ∀ C' E' : zMem, Rel 2000 C' E' → z_W p l e room_1 s m args below meth c D A Q 4 (cells + 1) (slots + 5) (wL cI cZ adC adM C' E') 944 [(3, .int (z_I i)), (2, .ref (adM 0)), (1, .ref (adC 0)), (0, .ref b)] []) : z_W p l e room_1 s m args below meth c D A Q 4 cells slots (wL cI cZ adC adM C E) 582 [(3, .int (z_I i)), (2, .ref (adM 0)), (1, .ref (adC 0)), (0, .ref b)] [] := by
  have Z := X.1
  have hf0 : cells ≤ room_1.cells ∧ slots ≤ room_1.slots := ⟨by omega, by omega⟩
  obtain ⟨r, C', E', h1, h2, h3⟩ := ok_bound  hRel (by decide) 
  refine z_aload_n Z dL_law_582 rfl 2 rfl ?_
  refine z_callC (As := []) X (c_X9_bound h1) ml_L_89 yd_X9_bound yw_X9_bound (by decide) (by decide) rfl rfl (Nat.le_of_ble_eq_true rfl) hf0 dL_law_583 ?_
  refine z_aload_n Z dL_law_586 rfl 1 rfl ?_
  refine z_callM (mc := 0) (ms := 0) (As := []) X (c_X10_bound h2) ml_L_92 yd_X10_bound yw_X10_bound (by decide) (by decide) rfl rfl (Nat.le_of_ble_eq_true rfl) hf0 dL_law_587 ?_
  refine z_same (tgt := 944) X dL_law_590 (by decide) ?_
  exact z_widen (by omega) (by omega) (kk C' E' h3)
set_option maxHeartbeats 4000000 in
theorem lc_waiting {p : Program} {l : Launch} {e : Env} {s : State} {m : MethodId} {args : Array Value} {below : List Frame} {meth : Method} {c : Code} {Q : State → Prop} {cells slots : Nat} {D : va_G} {A : Nat → Prop} {cI cZ : ClassId} {adK adV adC adM : Nat → Nat} {C E : zMem} {b L : Nat} {xs : Nat → Int32} {i : Int} (X : z_X p m c code 4 s args RL room_1 100 D cI cZ A adK adV) (hX : va_X b L xs s s.heap) (hbl : b < s.heap.size) (hbA : ¬ A b) (hL : L ≤ 3072) (hi : 0 ≤ i ∧ i + 6 ≤ (L : Int)) (hRel : Rel 2000 C E) (hf : cells + 1 ≤ room_1.cells ∧ slots + 5 ≤ room_1.slots)
    (kk : ∀ C' E' : zMem, Rel 2000 C' E' → z_W p l e room_1 s m args below meth c D A Q 4 (cells + 1) (slots + 5) (wL cI cZ adC adM C' E') 944 [(3, .int (z_I i)), (2, .ref (adM 0)), (1, .ref (adC 0)), (0, .ref b)] []) : z_W p l e room_1 s m args below meth c D A Q 4 cells slots (wL cI cZ adC adM C E) 595 [(3, .int (z_I i)), (2, .ref (adM 0)), (1, .ref (adC 0)), (0, .ref b)] [] := by
  have Z := X.1
  have hf0 : cells ≤ room_1.cells ∧ slots ≤ room_1.slots := ⟨by omega, by omega⟩
  obtain ⟨r, C', E', h1, h2, h3⟩ := ok_waiting (v := (xs (i + 1).toNat).toInt) hRel (by decide) (z_I_rg _)
  refine z_aload_n Z dL_law_595 rfl 2 rfl ?_
  refine z_aload_n Z dL_law_596 rfl 3 rfl ?_
  refine z_iload_n Z dL_law_597 rfl 0 rfl ?_
  refine z_iconst Z dL_law_598 ?_
  refine z_iadd Z dL_law_599 ?_
  refine z_sld X hX hbl hbA (i := i + 1) (by omega) hL dL_law_600 ?_
  refine z_callC (As := [.int (z_I ((xs (i + 1).toNat).toInt))]) X (c_X9_waiting h1) ml_L_93 yd_X9_waiting yw_X9_waiting (by decide) (by decide) rfl rfl (Nat.le_of_ble_eq_true rfl) hf0 dL_law_601 ?_
  refine z_aload_n Z dL_law_604 rfl 1 rfl ?_
  refine z_aload_n Z dL_law_605 rfl 3 rfl ?_
  refine z_iload_n Z dL_law_606 rfl 0 rfl ?_
  refine z_iconst Z dL_law_607 ?_
  refine z_iadd Z dL_law_608 ?_
  refine z_sld X hX hbl hbA (i := i + 1) (by omega) hL dL_law_609 ?_
  refine z_callM (mc := 0) (ms := 0) (As := [.int (z_I ((xs (i + 1).toNat).toInt))]) X (c_X10_waiting h2) ml_L_96 yd_X10_waiting yw_X10_waiting (by decide) (by decide) rfl rfl (Nat.le_of_ble_eq_true rfl) hf0 dL_law_610 ?_
  refine z_same (tgt := 944) X dL_law_613 (by decide) ?_
  exact z_widen (by omega) (by omega) (kk C' E' h3)
set_option maxHeartbeats 4000000 in
theorem lc_quicker {p : Program} {l : Launch} {e : Env} {s : State} {m : MethodId} {args : Array Value} {below : List Frame} {meth : Method} {c : Code} {Q : State → Prop} {cells slots : Nat} {D : va_G} {A : Nat → Prop} {cI cZ : ClassId} {adK adV adC adM : Nat → Nat} {C E : zMem} {b L : Nat} {xs : Nat → Int32} {i : Int} (X : z_X p m c code 4 s args RL room_1 100 D cI cZ A adK adV) (hX : va_X b L xs s s.heap) (hbl : b < s.heap.size) (hbA : ¬ A b) (hL : L ≤ 3072) (hi : 0 ≤ i ∧ i + 6 ≤ (L : Int)) (hRel : Rel 2000 C E) (hf : cells + 1 ≤ room_1.cells ∧ slots + 5 ≤ room_1.slots)
    (kk : ∀ C' E' : zMem, Rel 2000 C' E' → z_W p l e room_1 s m args below meth c D A Q 4 (cells + 1) (slots + 5) (wL cI cZ adC adM C' E') 944 [(3, .int (z_I i)), (2, .ref (adM 0)), (1, .ref (adC 0)), (0, .ref b)] []) : z_W p l e room_1 s m args below meth c D A Q 4 cells slots (wL cI cZ adC adM C E) 618 [(3, .int (z_I i)), (2, .ref (adM 0)), (1, .ref (adC 0)), (0, .ref b)] [] := by
  have Z := X.1
  have hf0 : cells ≤ room_1.cells ∧ slots ≤ room_1.slots := ⟨by omega, by omega⟩
  obtain ⟨r, C', E', h1, h2, h3⟩ := ok_quicker (v := (xs (i + 1).toNat).toInt) hRel (by decide) (z_I_rg _)
  refine z_aload_n Z dL_law_618 rfl 2 rfl ?_
  refine z_aload_n Z dL_law_619 rfl 3 rfl ?_
  refine z_iload_n Z dL_law_620 rfl 0 rfl ?_
  refine z_iconst Z dL_law_621 ?_
  refine z_iadd Z dL_law_622 ?_
  refine z_sld X hX hbl hbA (i := i + 1) (by omega) hL dL_law_623 ?_
  refine z_callC (As := [.int (z_I ((xs (i + 1).toNat).toInt))]) X (c_X9_quicker h1) ml_L_97 yd_X9_quicker yw_X9_quicker (by decide) (by decide) rfl rfl (Nat.le_of_ble_eq_true rfl) hf0 dL_law_624 ?_
  refine z_aload_n Z dL_law_627 rfl 1 rfl ?_
  refine z_aload_n Z dL_law_628 rfl 3 rfl ?_
  refine z_iload_n Z dL_law_629 rfl 0 rfl ?_
  refine z_iconst Z dL_law_630 ?_
  refine z_iadd Z dL_law_631 ?_
  refine z_sld X hX hbl hbA (i := i + 1) (by omega) hL dL_law_632 ?_
  refine z_callM (mc := 0) (ms := 0) (As := [.int (z_I ((xs (i + 1).toNat).toInt))]) X (c_X10_quicker h2) ml_L_100 yd_X10_quicker yw_X10_quicker (by decide) (by decide) rfl rfl (Nat.le_of_ble_eq_true rfl) hf0 dL_law_633 ?_
  refine z_same (tgt := 944) X dL_law_636 (by decide) ?_
  exact z_widen (by omega) (by omega) (kk C' E' h3)
set_option maxHeartbeats 4000000 in
theorem lc_moved {p : Program} {l : Launch} {e : Env} {s : State} {m : MethodId} {args : Array Value} {below : List Frame} {meth : Method} {c : Code} {Q : State → Prop} {cells slots : Nat} {D : va_G} {A : Nat → Prop} {cI cZ : ClassId} {adK adV adC adM : Nat → Nat} {C E : zMem} {b L : Nat} {xs : Nat → Int32} {i : Int} (X : z_X p m c code 4 s args RL room_1 100 D cI cZ A adK adV) (hX : va_X b L xs s s.heap) (hbl : b < s.heap.size) (hbA : ¬ A b) (hL : L ≤ 3072) (hi : 0 ≤ i ∧ i + 6 ≤ (L : Int)) (hRel : Rel 2000 C E) (hf : cells + 1 ≤ room_1.cells ∧ slots + 5 ≤ room_1.slots)
    (kk : ∀ C' E' : zMem, Rel 2000 C' E' → z_W p l e room_1 s m args below meth c D A Q 4 (cells + 1) (slots + 5) (wL cI cZ adC adM C' E') 944 [(3, .int (z_I i)), (2, .ref (adM 0)), (1, .ref (adC 0)), (0, .ref b)] []) : z_W p l e room_1 s m args below meth c D A Q 4 cells slots (wL cI cZ adC adM C E) 641 [(3, .int (z_I i)), (2, .ref (adM 0)), (1, .ref (adC 0)), (0, .ref b)] [] := by
  have Z := X.1
  have hf0 : cells ≤ room_1.cells ∧ slots ≤ room_1.slots := ⟨by omega, by omega⟩
  obtain ⟨r, C', E', h1, h2, h3⟩ := ok_moved (v1 := (xs (i + 1).toNat).toInt) (v2 := (xs (i + 2).toNat).toInt) hRel (by decide) (z_I_rg _) (z_I_rg _)
  refine z_aload_n Z dL_law_641 rfl 2 rfl ?_
  refine z_aload_n Z dL_law_642 rfl 3 rfl ?_
  refine z_iload_n Z dL_law_643 rfl 0 rfl ?_
  refine z_iconst Z dL_law_644 ?_
  refine z_iadd Z dL_law_645 ?_
  refine z_sld X hX hbl hbA (i := i + 1) (by omega) hL dL_law_646 ?_
  refine z_aload_n Z dL_law_647 rfl 3 rfl ?_
  refine z_iload_n Z dL_law_648 rfl 0 rfl ?_
  refine z_iconst Z dL_law_649 ?_
  refine z_iadd Z dL_law_650 ?_
  refine z_sld X hX hbl hbA (i := i + 2) (by omega) hL dL_law_651 ?_
  refine z_callC (As := [.int (z_I ((xs (i + 1).toNat).toInt)), .int (z_I ((xs (i + 2).toNat).toInt))]) X (c_X9_moved h1) ml_L_101 yd_X9_moved yw_X9_moved (by decide) (by decide) rfl rfl (Nat.le_of_ble_eq_true rfl) hf0 dL_law_652 ?_
  refine z_aload_n Z dL_law_655 rfl 1 rfl ?_
  refine z_aload_n Z dL_law_656 rfl 3 rfl ?_
  refine z_iload_n Z dL_law_657 rfl 0 rfl ?_
  refine z_iconst Z dL_law_658 ?_
  refine z_iadd Z dL_law_659 ?_
  refine z_sld X hX hbl hbA (i := i + 1) (by omega) hL dL_law_660 ?_
  refine z_aload_n Z dL_law_661 rfl 3 rfl ?_
  refine z_iload_n Z dL_law_662 rfl 0 rfl ?_
  refine z_iconst Z dL_law_663 ?_
  refine z_iadd Z dL_law_664 ?_
  refine z_sld X hX hbl hbA (i := i + 2) (by omega) hL dL_law_665 ?_
  refine z_callM (mc := 0) (ms := 0) (As := [.int (z_I ((xs (i + 1).toNat).toInt)), .int (z_I ((xs (i + 2).toNat).toInt))]) X (c_X10_moved h2) ml_L_104 yd_X10_moved yw_X10_moved (by decide) (by decide) rfl rfl (Nat.le_of_ble_eq_true rfl) hf0 dL_law_666 ?_
  refine z_same (tgt := 944) X dL_law_669 (by decide) ?_
  exact z_widen (by omega) (by omega) (kk C' E' h3)
set_option maxHeartbeats 4000000 in
theorem lc_swapped {p : Program} {l : Launch} {e : Env} {s : State} {m : MethodId} {args : Array Value} {below : List Frame} {meth : Method} {c : Code} {Q : State → Prop} {cells slots : Nat} {D : va_G} {A : Nat → Prop} {cI cZ : ClassId} {adK adV adC adM : Nat → Nat} {C E : zMem} {b L : Nat} {xs : Nat → Int32} {i : Int} (X : z_X p m c code 4 s args RL room_1 100 D cI cZ A adK adV) (hX : va_X b L xs s s.heap) (hbl : b < s.heap.size) (hbA : ¬ A b) (hL : L ≤ 3072) (hi : 0 ≤ i ∧ i + 6 ≤ (L : Int)) (hRel : Rel 2000 C E) (hf : cells + 1 ≤ room_1.cells ∧ slots + 5 ≤ room_1.slots)
    (kk : ∀ C' E' : zMem, Rel 2000 C' E' → z_W p l e room_1 s m args below meth c D A Q 4 (cells + 1) (slots + 5) (wL cI cZ adC adM C' E') 944 [(3, .int (z_I i)), (2, .ref (adM 0)), (1, .ref (adC 0)), (0, .ref b)] []) : z_W p l e room_1 s m args below meth c D A Q 4 cells slots (wL cI cZ adC adM C E) 674 [(3, .int (z_I i)), (2, .ref (adM 0)), (1, .ref (adC 0)), (0, .ref b)] [] := by
  have Z := X.1
  have hf0 : cells ≤ room_1.cells ∧ slots ≤ room_1.slots := ⟨by omega, by omega⟩
  obtain ⟨r, C', E', h1, h2, h3⟩ := ok_swapped (v1 := (xs (i + 1).toNat).toInt) (v2 := (xs (i + 2).toNat).toInt) hRel (by decide) (z_I_rg _) (z_I_rg _)
  refine z_aload_n Z dL_law_674 rfl 2 rfl ?_
  refine z_aload_n Z dL_law_675 rfl 3 rfl ?_
  refine z_iload_n Z dL_law_676 rfl 0 rfl ?_
  refine z_iconst Z dL_law_677 ?_
  refine z_iadd Z dL_law_678 ?_
  refine z_sld X hX hbl hbA (i := i + 1) (by omega) hL dL_law_679 ?_
  refine z_aload_n Z dL_law_680 rfl 3 rfl ?_
  refine z_iload_n Z dL_law_681 rfl 0 rfl ?_
  refine z_iconst Z dL_law_682 ?_
  refine z_iadd Z dL_law_683 ?_
  refine z_sld X hX hbl hbA (i := i + 2) (by omega) hL dL_law_684 ?_
  refine z_callC (As := [.int (z_I ((xs (i + 1).toNat).toInt)), .int (z_I ((xs (i + 2).toNat).toInt))]) X (c_X9_swapped h1) ml_L_105 yd_X9_swapped yw_X9_swapped (by decide) (by decide) rfl rfl (Nat.le_of_ble_eq_true rfl) hf0 dL_law_685 ?_
  refine z_aload_n Z dL_law_688 rfl 1 rfl ?_
  refine z_aload_n Z dL_law_689 rfl 3 rfl ?_
  refine z_iload_n Z dL_law_690 rfl 0 rfl ?_
  refine z_iconst Z dL_law_691 ?_
  refine z_iadd Z dL_law_692 ?_
  refine z_sld X hX hbl hbA (i := i + 1) (by omega) hL dL_law_693 ?_
  refine z_aload_n Z dL_law_694 rfl 3 rfl ?_
  refine z_iload_n Z dL_law_695 rfl 0 rfl ?_
  refine z_iconst Z dL_law_696 ?_
  refine z_iadd Z dL_law_697 ?_
  refine z_sld X hX hbl hbA (i := i + 2) (by omega) hL dL_law_698 ?_
  refine z_callM (mc := 0) (ms := 0) (As := [.int (z_I ((xs (i + 1).toNat).toInt)), .int (z_I ((xs (i + 2).toNat).toInt))]) X (c_X10_swapped h2) ml_L_108 yd_X10_swapped yw_X10_swapped (by decide) (by decide) rfl rfl (Nat.le_of_ble_eq_true rfl) hf0 dL_law_699 ?_
  refine z_same (tgt := 944) X dL_law_702 (by decide) ?_
  exact z_widen (by omega) (by omega) (kk C' E' h3)
set_option maxHeartbeats 4000000 in
theorem lc_best {p : Program} {l : Launch} {e : Env} {s : State} {m : MethodId} {args : Array Value} {below : List Frame} {meth : Method} {c : Code} {Q : State → Prop} {cells slots : Nat} {D : va_G} {A : Nat → Prop} {cI cZ : ClassId} {adK adV adC adM : Nat → Nat} {C E : zMem} {b L : Nat} {xs : Nat → Int32} {i : Int} (X : z_X p m c code 4 s args RL room_1 100 D cI cZ A adK adV) (hX : va_X b L xs s s.heap) (hbl : b < s.heap.size) (hbA : ¬ A b) (hL : L ≤ 3072) (hi : 0 ≤ i ∧ i + 6 ≤ (L : Int)) (hRel : Rel 2000 C E) (hf : cells + 1 ≤ room_1.cells ∧ slots + 5 ≤ room_1.slots)
    (kk : ∀ C' E' : zMem, Rel 2000 C' E' → z_W p l e room_1 s m args below meth c D A Q 4 (cells + 1) (slots + 5) (wL cI cZ adC adM C' E') 944 [(3, .int (z_I i)), (2, .ref (adM 0)), (1, .ref (adC 0)), (0, .ref b)] []) : z_W p l e room_1 s m args below meth c D A Q 4 cells slots (wL cI cZ adC adM C E) 707 [(3, .int (z_I i)), (2, .ref (adM 0)), (1, .ref (adC 0)), (0, .ref b)] [] := by
  have Z := X.1
  have hf0 : cells ≤ room_1.cells ∧ slots ≤ room_1.slots := ⟨by omega, by omega⟩
  obtain ⟨r, C', E', h1, h2, h3⟩ := ok_best  hRel (by decide) 
  refine z_aload_n Z dL_law_707 rfl 2 rfl ?_
  refine z_callC (As := []) X (c_X9_best h1) ml_L_109 yd_X9_best yw_X9_best (by decide) (by decide) rfl rfl (Nat.le_of_ble_eq_true rfl) hf0 dL_law_708 ?_
  refine z_aload_n Z dL_law_711 rfl 1 rfl ?_
  refine z_callM (mc := 0) (ms := 0) (As := []) X (c_X10_best h2) ml_L_112 yd_X10_best yw_X10_best (by decide) (by decide) rfl rfl (Nat.le_of_ble_eq_true rfl) hf0 dL_law_712 ?_
  refine z_same (tgt := 944) X dL_law_715 (by decide) ?_
  exact z_widen (by omega) (by omega) (kk C' E' h3)
set_option maxHeartbeats 4000000 in
theorem lc_pair {p : Program} {l : Launch} {e : Env} {s : State} {m : MethodId} {args : Array Value} {below : List Frame} {meth : Method} {c : Code} {Q : State → Prop} {cells slots : Nat} {D : va_G} {A : Nat → Prop} {cI cZ : ClassId} {adK adV adC adM : Nat → Nat} {C E : zMem} {b L : Nat} {xs : Nat → Int32} {i : Int} (X : z_X p m c code 4 s args RL room_1 100 D cI cZ A adK adV) (hX : va_X b L xs s s.heap) (hbl : b < s.heap.size) (hbA : ¬ A b) (hL : L ≤ 3072) (hi : 0 ≤ i ∧ i + 6 ≤ (L : Int)) (hRel : Rel 2000 C E) (hf : cells + 1 ≤ room_1.cells ∧ slots + 5 ≤ room_1.slots)
    (kk : ∀ C' E' : zMem, Rel 2000 C' E' → z_W p l e room_1 s m args below meth c D A Q 4 (cells + 1) (slots + 5) (wL cI cZ adC adM C' E') 944 [(3, .int (z_I i)), (2, .ref (adM 0)), (1, .ref (adC 0)), (0, .ref b)] []) : z_W p l e room_1 s m args below meth c D A Q 4 cells slots (wL cI cZ adC adM C E) 720 [(3, .int (z_I i)), (2, .ref (adM 0)), (1, .ref (adC 0)), (0, .ref b)] [] := by
  have Z := X.1
  have hf0 : cells ≤ room_1.cells ∧ slots ≤ room_1.slots := ⟨by omega, by omega⟩
  obtain ⟨r, C', E', h1, h2, h3⟩ := ok_pair  hRel (by decide) 
  refine z_aload_n Z dL_law_720 rfl 2 rfl ?_
  refine z_callC (As := []) X (c_X9_pair h1) ml_L_113 yd_X9_pair yw_X9_pair (by decide) (by decide) rfl rfl (Nat.le_of_ble_eq_true rfl) hf0 dL_law_721 ?_
  refine z_aload_n Z dL_law_724 rfl 1 rfl ?_
  refine z_callM (mc := 0) (ms := 0) (As := []) X (c_X10_pair h2) ml_L_116 yd_X10_pair yw_X10_pair (by decide) (by decide) rfl rfl (Nat.le_of_ble_eq_true rfl) hf0 dL_law_725 ?_
  refine z_same (tgt := 944) X dL_law_728 (by decide) ?_
  exact z_widen (by omega) (by omega) (kk C' E' h3)
set_option maxHeartbeats 4000000 in
theorem lc_idle {p : Program} {l : Launch} {e : Env} {s : State} {m : MethodId} {args : Array Value} {below : List Frame} {meth : Method} {c : Code} {Q : State → Prop} {cells slots : Nat} {D : va_G} {A : Nat → Prop} {cI cZ : ClassId} {adK adV adC adM : Nat → Nat} {C E : zMem} {b L : Nat} {xs : Nat → Int32} {i : Int} (X : z_X p m c code 4 s args RL room_1 100 D cI cZ A adK adV) (hX : va_X b L xs s s.heap) (hbl : b < s.heap.size) (hbA : ¬ A b) (hL : L ≤ 3072) (hi : 0 ≤ i ∧ i + 6 ≤ (L : Int)) (hRel : Rel 2000 C E) (hf : cells + 1 ≤ room_1.cells ∧ slots + 5 ≤ room_1.slots)
    (kk : ∀ C' E' : zMem, Rel 2000 C' E' → z_W p l e room_1 s m args below meth c D A Q 4 (cells + 1) (slots + 5) (wL cI cZ adC adM C' E') 944 [(3, .int (z_I i)), (2, .ref (adM 0)), (1, .ref (adC 0)), (0, .ref b)] []) : z_W p l e room_1 s m args below meth c D A Q 4 cells slots (wL cI cZ adC adM C E) 733 [(3, .int (z_I i)), (2, .ref (adM 0)), (1, .ref (adC 0)), (0, .ref b)] [] := by
  have Z := X.1
  have hf0 : cells ≤ room_1.cells ∧ slots ≤ room_1.slots := ⟨by omega, by omega⟩
  obtain ⟨r, C', E', h1, h2, h3⟩ := ok_idle  hRel (by decide) 
  refine z_aload_n Z dL_law_733 rfl 2 rfl ?_
  refine z_callC (As := []) X (c_X9_idle h1) ml_L_117 yd_X9_idle yw_X9_idle (by decide) (by decide) rfl rfl (Nat.le_of_ble_eq_true rfl) hf0 dL_law_734 ?_
  refine z_aload_n Z dL_law_737 rfl 1 rfl ?_
  refine z_callM (mc := 0) (ms := 0) (As := []) X (c_X10_idle h2) ml_L_120 yd_X10_idle yw_X10_idle (by decide) (by decide) rfl rfl (Nat.le_of_ble_eq_true rfl) hf0 dL_law_738 ?_
  refine z_same (tgt := 944) X dL_law_741 (by decide) ?_
  exact z_widen (by omega) (by omega) (kk C' E' h3)
set_option maxHeartbeats 4000000 in
theorem lc_lawful {p : Program} {l : Launch} {e : Env} {s : State} {m : MethodId} {args : Array Value} {below : List Frame} {meth : Method} {c : Code} {Q : State → Prop} {cells slots : Nat} {D : va_G} {A : Nat → Prop} {cI cZ : ClassId} {adK adV adC adM : Nat → Nat} {C E : zMem} {b L : Nat} {xs : Nat → Int32} {i : Int} (X : z_X p m c code 4 s args RL room_1 100 D cI cZ A adK adV) (hX : va_X b L xs s s.heap) (hbl : b < s.heap.size) (hbA : ¬ A b) (hL : L ≤ 3072) (hi : 0 ≤ i ∧ i + 6 ≤ (L : Int)) (hRel : Rel 2000 C E) (hf : cells + 1 ≤ room_1.cells ∧ slots + 5 ≤ room_1.slots)
    (kk : ∀ C' E' : zMem, Rel 2000 C' E' → z_W p l e room_1 s m args below meth c D A Q 4 (cells + 1) (slots + 5) (wL cI cZ adC adM C' E') 944 [(3, .int (z_I i)), (2, .ref (adM 0)), (1, .ref (adC 0)), (0, .ref b)] []) : z_W p l e room_1 s m args below meth c D A Q 4 cells slots (wL cI cZ adC adM C E) 746 [(3, .int (z_I i)), (2, .ref (adM 0)), (1, .ref (adC 0)), (0, .ref b)] [] := by
  have Z := X.1
  have hf0 : cells ≤ room_1.cells ∧ slots ≤ room_1.slots := ⟨by omega, by omega⟩
  obtain ⟨r, C', E', h1, h2, h3⟩ := ok_lawful (v := (xs (i + 1).toNat).toInt) hRel (by decide) (z_I_rg _)
  refine z_aload_n Z dL_law_746 rfl 2 rfl ?_
  refine z_aload_n Z dL_law_747 rfl 3 rfl ?_
  refine z_iload_n Z dL_law_748 rfl 0 rfl ?_
  refine z_iconst Z dL_law_749 ?_
  refine z_iadd Z dL_law_750 ?_
  refine z_sld X hX hbl hbA (i := i + 1) (by omega) hL dL_law_751 ?_
  refine z_callC (As := [.int (z_I ((xs (i + 1).toNat).toInt))]) X (c_X9_lawful h1) ml_L_121 yd_X9_lawful yw_X9_lawful (by decide) (by decide) rfl rfl (Nat.le_of_ble_eq_true rfl) hf0 dL_law_752 ?_
  refine z_aload_n Z dL_law_755 rfl 1 rfl ?_
  refine z_aload_n Z dL_law_756 rfl 3 rfl ?_
  refine z_iload_n Z dL_law_757 rfl 0 rfl ?_
  refine z_iconst Z dL_law_758 ?_
  refine z_iadd Z dL_law_759 ?_
  refine z_sld X hX hbl hbA (i := i + 1) (by omega) hL dL_law_760 ?_
  refine z_callM (mc := 0) (ms := 0) (As := [.int (z_I ((xs (i + 1).toNat).toInt))]) X (c_X10_lawful h2) ml_L_124 yd_X10_lawful yw_X10_lawful (by decide) (by decide) rfl rfl (Nat.le_of_ble_eq_true rfl) hf0 dL_law_761 ?_
  refine z_same (tgt := 944) X dL_law_764 (by decide) ?_
  exact z_widen (by omega) (by omega) (kk C' E' h3)
set_option maxHeartbeats 4000000 in
theorem lc_address {p : Program} {l : Launch} {e : Env} {s : State} {m : MethodId} {args : Array Value} {below : List Frame} {meth : Method} {c : Code} {Q : State → Prop} {cells slots : Nat} {D : va_G} {A : Nat → Prop} {cI cZ : ClassId} {adK adV adC adM : Nat → Nat} {C E : zMem} {b L : Nat} {xs : Nat → Int32} {i : Int} (X : z_X p m c code 4 s args RL room_1 100 D cI cZ A adK adV) (hX : va_X b L xs s s.heap) (hbl : b < s.heap.size) (hbA : ¬ A b) (hL : L ≤ 3072) (hi : 0 ≤ i ∧ i + 6 ≤ (L : Int)) (hRel : Rel 2000 C E) (hf : cells + 1 ≤ room_1.cells ∧ slots + 5 ≤ room_1.slots)
    (kk : ∀ C' E' : zMem, Rel 2000 C' E' → z_W p l e room_1 s m args below meth c D A Q 4 (cells + 1) (slots + 5) (wL cI cZ adC adM C' E') 944 [(3, .int (z_I i)), (2, .ref (adM 0)), (1, .ref (adC 0)), (0, .ref b)] []) : z_W p l e room_1 s m args below meth c D A Q 4 cells slots (wL cI cZ adC adM C E) 769 [(3, .int (z_I i)), (2, .ref (adM 0)), (1, .ref (adC 0)), (0, .ref b)] [] := by
  have Z := X.1
  have hf0 : cells ≤ room_1.cells ∧ slots ≤ room_1.slots := ⟨by omega, by omega⟩
  obtain ⟨r, C', E', h1, h2, h3⟩ := ok_address (v := (xs (i + 1).toNat).toInt) (w := (xs (i + 2).toNat).toInt) hRel (by decide) (z_I_rg _) (z_I_rg _)
  refine z_aload_n Z dL_law_769 rfl 2 rfl ?_
  refine z_aload_n Z dL_law_770 rfl 3 rfl ?_
  refine z_iload_n Z dL_law_771 rfl 0 rfl ?_
  refine z_iconst Z dL_law_772 ?_
  refine z_iadd Z dL_law_773 ?_
  refine z_sld X hX hbl hbA (i := i + 1) (by omega) hL dL_law_774 ?_
  refine z_aload_n Z dL_law_775 rfl 3 rfl ?_
  refine z_iload_n Z dL_law_776 rfl 0 rfl ?_
  refine z_iconst Z dL_law_777 ?_
  refine z_iadd Z dL_law_778 ?_
  refine z_sld X hX hbl hbA (i := i + 2) (by omega) hL dL_law_779 ?_
  refine z_callC (As := [.int (z_I ((xs (i + 1).toNat).toInt)), .int (z_I ((xs (i + 2).toNat).toInt))]) X (c_X9_address h1) ml_L_125 yd_X9_address yw_X9_address (by decide) (by decide) rfl rfl (Nat.le_of_ble_eq_true rfl) hf0 dL_law_780 ?_
  refine z_aload_n Z dL_law_783 rfl 1 rfl ?_
  refine z_aload_n Z dL_law_784 rfl 3 rfl ?_
  refine z_iload_n Z dL_law_785 rfl 0 rfl ?_
  refine z_iconst Z dL_law_786 ?_
  refine z_iadd Z dL_law_787 ?_
  refine z_sld X hX hbl hbA (i := i + 1) (by omega) hL dL_law_788 ?_
  refine z_aload_n Z dL_law_789 rfl 3 rfl ?_
  refine z_iload_n Z dL_law_790 rfl 0 rfl ?_
  refine z_iconst Z dL_law_791 ?_
  refine z_iadd Z dL_law_792 ?_
  refine z_sld X hX hbl hbA (i := i + 2) (by omega) hL dL_law_793 ?_
  refine z_callM (mc := 0) (ms := 0) (As := [.int (z_I ((xs (i + 1).toNat).toInt)), .int (z_I ((xs (i + 2).toNat).toInt))]) X (c_X10_address h2) ml_L_128 yd_X10_address yw_X10_address (by decide) (by decide) rfl rfl (Nat.le_of_ble_eq_true rfl) hf0 dL_law_794 ?_
  refine z_same (tgt := 944) X dL_law_797 (by decide) ?_
  exact z_widen (by omega) (by omega) (kk C' E' h3)
set_option maxHeartbeats 4000000 in
theorem lc_ways {p : Program} {l : Launch} {e : Env} {s : State} {m : MethodId} {args : Array Value} {below : List Frame} {meth : Method} {c : Code} {Q : State → Prop} {cells slots : Nat} {D : va_G} {A : Nat → Prop} {cI cZ : ClassId} {adK adV adC adM : Nat → Nat} {C E : zMem} {b L : Nat} {xs : Nat → Int32} {i : Int} (X : z_X p m c code 4 s args RL room_1 100 D cI cZ A adK adV) (hX : va_X b L xs s s.heap) (hbl : b < s.heap.size) (hbA : ¬ A b) (hL : L ≤ 3072) (hi : 0 ≤ i ∧ i + 6 ≤ (L : Int)) (hRel : Rel 2000 C E) (hf : cells + 1 ≤ room_1.cells ∧ slots + 5 ≤ room_1.slots)
    (kk : ∀ C' E' : zMem, Rel 2000 C' E' → z_W p l e room_1 s m args below meth c D A Q 4 (cells + 1) (slots + 5) (wL cI cZ adC adM C' E') 944 [(3, .int (z_I i)), (2, .ref (adM 0)), (1, .ref (adC 0)), (0, .ref b)] []) : z_W p l e room_1 s m args below meth c D A Q 4 cells slots (wL cI cZ adC adM C E) 802 [(3, .int (z_I i)), (2, .ref (adM 0)), (1, .ref (adC 0)), (0, .ref b)] [] := by
  have Z := X.1
  have hf0 : cells ≤ room_1.cells ∧ slots ≤ room_1.slots := ⟨by omega, by omega⟩
  obtain ⟨r, C', E', h1, h2, h3⟩ := ok_ways  hRel (by decide) 
  refine z_aload_n Z dL_law_802 rfl 2 rfl ?_
  refine z_callC (As := []) X (c_X9_ways h1) ml_L_129 yd_X9_ways yw_X9_ways (by decide) (by decide) rfl rfl (Nat.le_of_ble_eq_true rfl) hf0 dL_law_803 ?_
  refine z_aload_n Z dL_law_806 rfl 1 rfl ?_
  refine z_callM (mc := 0) (ms := 0) (As := []) X (c_X10_ways h2) ml_L_133 yd_X10_ways yw_X10_ways (by decide) (by decide) rfl rfl (Nat.le_of_ble_eq_true rfl) hf0 dL_law_807 ?_
  refine z_sameL (tgt := 944) X dL_law_810 dL_law_811 (by decide) ?_
  exact z_widen (by omega) (by omega) (kk C' E' h3)
set_option maxHeartbeats 4000000 in
theorem lc_dearest {p : Program} {l : Launch} {e : Env} {s : State} {m : MethodId} {args : Array Value} {below : List Frame} {meth : Method} {c : Code} {Q : State → Prop} {cells slots : Nat} {D : va_G} {A : Nat → Prop} {cI cZ : ClassId} {adK adV adC adM : Nat → Nat} {C E : zMem} {b L : Nat} {xs : Nat → Int32} {i : Int} (X : z_X p m c code 4 s args RL room_1 100 D cI cZ A adK adV) (hX : va_X b L xs s s.heap) (hbl : b < s.heap.size) (hbA : ¬ A b) (hL : L ≤ 3072) (hi : 0 ≤ i ∧ i + 6 ≤ (L : Int)) (hRel : Rel 2000 C E) (hf : cells + 1 ≤ room_1.cells ∧ slots + 5 ≤ room_1.slots)
    (kk : ∀ C' E' : zMem, Rel 2000 C' E' → z_W p l e room_1 s m args below meth c D A Q 4 (cells + 1) (slots + 5) (wL cI cZ adC adM C' E') 944 [(3, .int (z_I i)), (2, .ref (adM 0)), (1, .ref (adC 0)), (0, .ref b)] []) : z_W p l e room_1 s m args below meth c D A Q 4 cells slots (wL cI cZ adC adM C E) 816 [(3, .int (z_I i)), (2, .ref (adM 0)), (1, .ref (adC 0)), (0, .ref b)] [] := by
  have Z := X.1
  have hf0 : cells ≤ room_1.cells ∧ slots ≤ room_1.slots := ⟨by omega, by omega⟩
  obtain ⟨r, C', E', h1, h2, h3⟩ := ok_dearest  hRel (by decide) 
  refine z_aload_n Z dL_law_816 rfl 2 rfl ?_
  refine z_callC (As := []) X (c_X9_dearest h1) ml_L_134 yd_X9_dearest yw_X9_dearest (by decide) (by decide) rfl rfl (Nat.le_of_ble_eq_true rfl) hf0 dL_law_817 ?_
  refine z_aload_n Z dL_law_820 rfl 1 rfl ?_
  refine z_callM (mc := 0) (ms := 0) (As := []) X (c_X10_dearest h2) ml_L_137 yd_X10_dearest yw_X10_dearest (by decide) (by decide) rfl rfl (Nat.le_of_ble_eq_true rfl) hf0 dL_law_821 ?_
  refine z_same (tgt := 944) X dL_law_824 (by decide) ?_
  exact z_widen (by omega) (by omega) (kk C' E' h3)
set_option maxHeartbeats 4000000 in
theorem lc_put {p : Program} {l : Launch} {e : Env} {s : State} {m : MethodId} {args : Array Value} {below : List Frame} {meth : Method} {c : Code} {Q : State → Prop} {cells slots : Nat} {D : va_G} {A : Nat → Prop} {cI cZ : ClassId} {adK adV adC adM : Nat → Nat} {C E : zMem} {b L : Nat} {xs : Nat → Int32} {i : Int} (X : z_X p m c code 4 s args RL room_1 100 D cI cZ A adK adV) (hX : va_X b L xs s s.heap) (hbl : b < s.heap.size) (hbA : ¬ A b) (hL : L ≤ 3072) (hi : 0 ≤ i ∧ i + 6 ≤ (L : Int)) (hRel : Rel 2000 C E) (hf : cells + 1 ≤ room_1.cells ∧ slots + 5 ≤ room_1.slots)
    (kk : ∀ C' E' : zMem, Rel 2000 C' E' → z_W p l e room_1 s m args below meth c D A Q 4 (cells + 1) (slots + 5) (wL cI cZ adC adM C' E') 944 [(3, .int (z_I i)), (2, .ref (adM 0)), (1, .ref (adC 0)), (0, .ref b)] []) : z_W p l e room_1 s m args below meth c D A Q 4 cells slots (wL cI cZ adC adM C E) 829 [(3, .int (z_I i)), (2, .ref (adM 0)), (1, .ref (adC 0)), (0, .ref b)] [] := by
  have Z := X.1
  have hf0 : cells ≤ room_1.cells ∧ slots ≤ room_1.slots := ⟨by omega, by omega⟩
  obtain ⟨r, C', E', h1, h2, h3⟩ := ok_put (v1 := (xs (i + 1).toNat).toInt) (v2 := (xs (i + 2).toNat).toInt) hRel (by decide) (z_I_rg _) (z_I_rg _)
  refine z_aload_n Z dL_law_829 rfl 2 rfl ?_
  refine z_aload_n Z dL_law_830 rfl 3 rfl ?_
  refine z_iload_n Z dL_law_831 rfl 0 rfl ?_
  refine z_iconst Z dL_law_832 ?_
  refine z_iadd Z dL_law_833 ?_
  refine z_sld X hX hbl hbA (i := i + 1) (by omega) hL dL_law_834 ?_
  refine z_aload_n Z dL_law_835 rfl 3 rfl ?_
  refine z_iload_n Z dL_law_836 rfl 0 rfl ?_
  refine z_iconst Z dL_law_837 ?_
  refine z_iadd Z dL_law_838 ?_
  refine z_sld X hX hbl hbA (i := i + 2) (by omega) hL dL_law_839 ?_
  refine z_callC (As := [.int (z_I ((xs (i + 1).toNat).toInt)), .int (z_I ((xs (i + 2).toNat).toInt))]) X (c_X9_put h1) ml_L_138 yd_X9_put yw_X9_put (by decide) (by decide) rfl rfl (Nat.le_of_ble_eq_true rfl) hf0 dL_law_840 ?_
  refine z_aload_n Z dL_law_843 rfl 1 rfl ?_
  refine z_aload_n Z dL_law_844 rfl 3 rfl ?_
  refine z_iload_n Z dL_law_845 rfl 0 rfl ?_
  refine z_iconst Z dL_law_846 ?_
  refine z_iadd Z dL_law_847 ?_
  refine z_sld X hX hbl hbA (i := i + 1) (by omega) hL dL_law_848 ?_
  refine z_aload_n Z dL_law_849 rfl 3 rfl ?_
  refine z_iload_n Z dL_law_850 rfl 0 rfl ?_
  refine z_iconst Z dL_law_851 ?_
  refine z_iadd Z dL_law_852 ?_
  refine z_sld X hX hbl hbA (i := i + 2) (by omega) hL dL_law_853 ?_
  refine z_callM (mc := 0) (ms := 0) (As := [.int (z_I ((xs (i + 1).toNat).toInt)), .int (z_I ((xs (i + 2).toNat).toInt))]) X (c_X10_put h2) ml_L_141 yd_X10_put yw_X10_put (by decide) (by decide) rfl rfl (Nat.le_of_ble_eq_true rfl) hf0 dL_law_854 ?_
  refine z_same (tgt := 944) X dL_law_857 (by decide) ?_
  exact z_widen (by omega) (by omega) (kk C' E' h3)
set_option maxHeartbeats 4000000 in
theorem lc_swap {p : Program} {l : Launch} {e : Env} {s : State} {m : MethodId} {args : Array Value} {below : List Frame} {meth : Method} {c : Code} {Q : State → Prop} {cells slots : Nat} {D : va_G} {A : Nat → Prop} {cI cZ : ClassId} {adK adV adC adM : Nat → Nat} {C E : zMem} {b L : Nat} {xs : Nat → Int32} {i : Int} (X : z_X p m c code 4 s args RL room_1 100 D cI cZ A adK adV) (hX : va_X b L xs s s.heap) (hbl : b < s.heap.size) (hbA : ¬ A b) (hL : L ≤ 3072) (hi : 0 ≤ i ∧ i + 6 ≤ (L : Int)) (hRel : Rel 2000 C E) (hf : cells + 1 ≤ room_1.cells ∧ slots + 5 ≤ room_1.slots)
    (kk : ∀ C' E' : zMem, Rel 2000 C' E' → z_W p l e room_1 s m args below meth c D A Q 4 (cells + 1) (slots + 5) (wL cI cZ adC adM C' E') 944 [(3, .int (z_I i)), (2, .ref (adM 0)), (1, .ref (adC 0)), (0, .ref b)] []) : z_W p l e room_1 s m args below meth c D A Q 4 cells slots (wL cI cZ adC adM C E) 862 [(3, .int (z_I i)), (2, .ref (adM 0)), (1, .ref (adC 0)), (0, .ref b)] [] := by
  have Z := X.1
  have hf0 : cells ≤ room_1.cells ∧ slots ≤ room_1.slots := ⟨by omega, by omega⟩
  obtain ⟨r, C', E', h1, h2, h3⟩ := ok_swap (v1 := (xs (i + 1).toNat).toInt) (v2 := (xs (i + 2).toNat).toInt) hRel (by decide) (z_I_rg _) (z_I_rg _)
  refine z_aload_n Z dL_law_862 rfl 2 rfl ?_
  refine z_aload_n Z dL_law_863 rfl 3 rfl ?_
  refine z_iload_n Z dL_law_864 rfl 0 rfl ?_
  refine z_iconst Z dL_law_865 ?_
  refine z_iadd Z dL_law_866 ?_
  refine z_sld X hX hbl hbA (i := i + 1) (by omega) hL dL_law_867 ?_
  refine z_aload_n Z dL_law_868 rfl 3 rfl ?_
  refine z_iload_n Z dL_law_869 rfl 0 rfl ?_
  refine z_iconst Z dL_law_870 ?_
  refine z_iadd Z dL_law_871 ?_
  refine z_sld X hX hbl hbA (i := i + 2) (by omega) hL dL_law_872 ?_
  refine z_callC (As := [.int (z_I ((xs (i + 1).toNat).toInt)), .int (z_I ((xs (i + 2).toNat).toInt))]) X (c_X9_swap h1) ml_L_142 yd_X9_swap yw_X9_swap (by decide) (by decide) rfl rfl (Nat.le_of_ble_eq_true rfl) hf0 dL_law_873 ?_
  refine z_aload_n Z dL_law_876 rfl 1 rfl ?_
  refine z_aload_n Z dL_law_877 rfl 3 rfl ?_
  refine z_iload_n Z dL_law_878 rfl 0 rfl ?_
  refine z_iconst Z dL_law_879 ?_
  refine z_iadd Z dL_law_880 ?_
  refine z_sld X hX hbl hbA (i := i + 1) (by omega) hL dL_law_881 ?_
  refine z_aload_n Z dL_law_882 rfl 3 rfl ?_
  refine z_iload_n Z dL_law_883 rfl 0 rfl ?_
  refine z_iconst Z dL_law_884 ?_
  refine z_iadd Z dL_law_885 ?_
  refine z_sld X hX hbl hbA (i := i + 2) (by omega) hL dL_law_886 ?_
  refine z_callM (mc := 0) (ms := 0) (As := [.int (z_I ((xs (i + 1).toNat).toInt)), .int (z_I ((xs (i + 2).toNat).toInt))]) X (c_X10_swap h2) ml_L_145 yd_X10_swap yw_X10_swap (by decide) (by decide) rfl rfl (Nat.le_of_ble_eq_true rfl) hf0 dL_law_887 ?_
  refine z_same (tgt := 944) X dL_law_890 (by decide) ?_
  exact z_widen (by omega) (by omega) (kk C' E' h3)
set_option maxHeartbeats 4000000 in
theorem lc_lays {p : Program} {l : Launch} {e : Env} {s : State} {m : MethodId} {args : Array Value} {below : List Frame} {meth : Method} {c : Code} {Q : State → Prop} {cells slots : Nat} {D : va_G} {A : Nat → Prop} {cI cZ : ClassId} {adK adV adC adM : Nat → Nat} {C E : zMem} {b L : Nat} {xs : Nat → Int32} {i : Int} (X : z_X p m c code 4 s args RL room_1 100 D cI cZ A adK adV) (hX : va_X b L xs s s.heap) (hbl : b < s.heap.size) (hbA : ¬ A b) (hL : L ≤ 3072) (hi : 0 ≤ i ∧ i + 6 ≤ (L : Int)) (hRel : Rel 2000 C E) (hf : cells + 1 ≤ room_1.cells ∧ slots + 5 ≤ room_1.slots)
    (kk : ∀ C' E' : zMem, Rel 2000 C' E' → z_W p l e room_1 s m args below meth c D A Q 4 (cells + 1) (slots + 5) (wL cI cZ adC adM C' E') 944 [(3, .int (z_I i)), (2, .ref (adM 0)), (1, .ref (adC 0)), (0, .ref b)] []) : z_W p l e room_1 s m args below meth c D A Q 4 cells slots (wL cI cZ adC adM C E) 895 [(3, .int (z_I i)), (2, .ref (adM 0)), (1, .ref (adC 0)), (0, .ref b)] [] := by
  have Z := X.1
  have hf0 : cells ≤ room_1.cells ∧ slots ≤ room_1.slots := ⟨by omega, by omega⟩
  obtain ⟨r, C', E', h1, h2, h3⟩ := ok_lays (v := (xs (i + 1).toNat).toInt) hRel (by decide) (z_I_rg _)
  refine z_aload_n Z dL_law_895 rfl 2 rfl ?_
  refine z_aload_n Z dL_law_896 rfl 3 rfl ?_
  refine z_iload_n Z dL_law_897 rfl 0 rfl ?_
  refine z_iconst Z dL_law_898 ?_
  refine z_iadd Z dL_law_899 ?_
  refine z_sld X hX hbl hbA (i := i + 1) (by omega) hL dL_law_900 ?_
  refine z_callC (As := [.int (z_I ((xs (i + 1).toNat).toInt))]) X (c_X9_lays h1) ml_L_146 yd_X9_lays yw_X9_lays (by decide) (by decide) rfl rfl (Nat.le_of_ble_eq_true rfl) hf0 dL_law_901 ?_
  refine z_aload_n Z dL_law_904 rfl 1 rfl ?_
  refine z_aload_n Z dL_law_905 rfl 3 rfl ?_
  refine z_iload_n Z dL_law_906 rfl 0 rfl ?_
  refine z_iconst Z dL_law_907 ?_
  refine z_iadd Z dL_law_908 ?_
  refine z_sld X hX hbl hbA (i := i + 1) (by omega) hL dL_law_909 ?_
  refine z_callM (mc := 0) (ms := 0) (As := [.int (z_I ((xs (i + 1).toNat).toInt))]) X (c_X10_lays h2) ml_L_149 yd_X10_lays yw_X10_lays (by decide) (by decide) rfl rfl (Nat.le_of_ble_eq_true rfl) hf0 dL_law_910 ?_
  refine z_same (tgt := 944) X dL_law_913 (by decide) ?_
  exact z_widen (by omega) (by omega) (kk C' E' h3)
set_option maxHeartbeats 4000000 in
theorem lc_undo {p : Program} {l : Launch} {e : Env} {s : State} {m : MethodId} {args : Array Value} {below : List Frame} {meth : Method} {c : Code} {Q : State → Prop} {cells slots : Nat} {D : va_G} {A : Nat → Prop} {cI cZ : ClassId} {adK adV adC adM : Nat → Nat} {C E : zMem} {b L : Nat} {xs : Nat → Int32} {i : Int} (X : z_X p m c code 4 s args RL room_1 100 D cI cZ A adK adV) (hX : va_X b L xs s s.heap) (hbl : b < s.heap.size) (hbA : ¬ A b) (hL : L ≤ 3072) (hi : 0 ≤ i ∧ i + 6 ≤ (L : Int)) (hRel : Rel 2000 C E) (hf : cells + 1 ≤ room_1.cells ∧ slots + 5 ≤ room_1.slots)
    (kk : ∀ C' E' : zMem, Rel 2000 C' E' → z_W p l e room_1 s m args below meth c D A Q 4 (cells + 1) (slots + 5) (wL cI cZ adC adM C' E') 944 [(3, .int (z_I i)), (2, .ref (adM 0)), (1, .ref (adC 0)), (0, .ref b)] []) : z_W p l e room_1 s m args below meth c D A Q 4 cells slots (wL cI cZ adC adM C E) 918 [(3, .int (z_I i)), (2, .ref (adM 0)), (1, .ref (adC 0)), (0, .ref b)] [] := by
  have Z := X.1
  have hf0 : cells ≤ room_1.cells ∧ slots ≤ room_1.slots := ⟨by omega, by omega⟩
  obtain ⟨r, C', E', h1, h2, h3⟩ := ok_undo  hRel (by decide) 
  refine z_aload_n Z dL_law_918 rfl 2 rfl ?_
  refine z_callC (As := []) X (c_X9_undo h1) ml_L_150 yd_X9_undo yw_X9_undo (by decide) (by decide) rfl rfl (Nat.le_of_ble_eq_true rfl) hf0 dL_law_919 ?_
  refine z_aload_n Z dL_law_922 rfl 1 rfl ?_
  refine z_callM (mc := 0) (ms := 0) (As := []) X (c_X10_undo h2) ml_L_153 yd_X10_undo yw_X10_undo (by decide) (by decide) rfl rfl (Nat.le_of_ble_eq_true rfl) hf0 dL_law_923 ?_
  refine z_same (tgt := 944) X dL_law_926 (by decide) ?_
  exact z_widen (by omega) (by omega) (kk C' E' h3)
set_option maxHeartbeats 4000000 in
theorem lc_anew {p : Program} {l : Launch} {e : Env} {s : State} {m : MethodId} {args : Array Value} {below : List Frame} {meth : Method} {c : Code} {Q : State → Prop} {cells slots : Nat} {D : va_G} {A : Nat → Prop} {cI cZ : ClassId} {adK adV adC adM : Nat → Nat} {C E : zMem} {b L : Nat} {xs : Nat → Int32} {i : Int} (X : z_X p m c code 4 s args RL room_1 100 D cI cZ A adK adV) (hX : va_X b L xs s s.heap) (hbl : b < s.heap.size) (hbA : ¬ A b) (hL : L ≤ 3072) (hi : 0 ≤ i ∧ i + 6 ≤ (L : Int)) (hRel : Rel 2000 C E) (hf : cells + 1 ≤ room_1.cells ∧ slots + 5 ≤ room_1.slots)
    (kk : ∀ C' E' : zMem, Rel 2000 C' E' → z_W p l e room_1 s m args below meth c D A Q 4 (cells + 1) (slots + 5) (wL cI cZ adC adM C' E') 944 [(3, .int (z_I i)), (2, .ref (adM 0)), (1, .ref (adC 0)), (0, .ref b)] []) : z_W p l e room_1 s m args below meth c D A Q 4 cells slots (wL cI cZ adC adM C E) 931 [(3, .int (z_I i)), (2, .ref (adM 0)), (1, .ref (adC 0)), (0, .ref b)] [] := by
  have Z := X.1
  have hf0 : cells ≤ room_1.cells ∧ slots ≤ room_1.slots := ⟨by omega, by omega⟩
  obtain ⟨r, C', E', h1, h2, h3⟩ := ok_anew  hRel (by decide) 
  refine z_aload_n Z dL_law_931 rfl 2 rfl ?_
  refine z_callC (As := []) X (c_X9_anew h1) ml_L_154 yd_X9_anew yw_X9_anew (by decide) (by decide) rfl rfl (Nat.le_of_ble_eq_true rfl) hf0 dL_law_932 ?_
  refine z_aload_n Z dL_law_935 rfl 1 rfl ?_
  refine z_callM (mc := 0) (ms := 0) (As := []) X (c_X10_anew h2) ml_L_157 yd_X10_anew yw_X10_anew (by decide) (by decide) rfl rfl (Nat.le_of_ble_eq_true rfl) hf0 dL_law_936 ?_
  refine z_same (tgt := 944) X dL_law_939 (by decide) ?_
  exact z_widen (by omega) (by omega) (kk C' E' h3)
