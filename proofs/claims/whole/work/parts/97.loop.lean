/-! the law's loop -/
set_option maxRecDepth 100000
theorem z_and_b63 {x : Int} : 0 ≤ z_and x 63 ∧ z_and x 63 ≤ 63 := by
  unfold z_and
  have e : z_I 63 = 63 := rfl
  rw [e]
  generalize z_I x = a
  have h1 : (a &&& 63).toInt = (a.toBitVec &&& 63#32).toInt := by
    rw [← Int32.toInt_toBitVec]
    rfl
  have h2 : (a.toBitVec &&& 63#32).toNat ≤ 63 := by
    rw [BitVec.toNat_and]
    exact Nat.and_le_right
  have h3 : (a.toBitVec &&& 63#32).toInt = ((a.toBitVec &&& 63#32).toNat : Int) := BitVec.toInt_eq_toNat_of_lt (by omega)
  rw [h1, h3]
  omega
set_option maxHeartbeats 4000000 in
theorem law_loop {p : Program} {l : Launch} {e : Env} {s : State} {m : MethodId} {args : Array Value} {below : List Frame} {meth : Method} {c : Code} {Q : State → Prop} {D : va_G} {A : Nat → Prop} {cI cZ : ClassId} {adK adV adC adM : Nat → Nat} {b L : Nat} {xs : Nat → Int32} (X : z_X p m c code 4 s args RL room_1 100 D cI cZ A adK adV) (hX : va_X b L xs s s.heap) (hbl : b < s.heap.size) (hbA : ¬ A b) (hL : L ≤ 3072)
    (fin : ∀ (cells slots : Nat) (ws : va_W) (lv : List (Nat × Value)), cells ≤ 600000 → slots ≤ 7302250 → z_W p l e room_1 s m args below meth c D A Q 4 cells slots ws 950 lv []) :
    ∀ (n t : Nat) (C E : zMem), L < 6 * (t + n) + 6 → 6 * t ≤ L + 6 → Rel 2000 C E → z_W p l e room_1 s m args below meth c D A Q 4 (86 + t) (6544 + 5 * t) (wL cI cZ adC adM C E) 18 [(3, .int (z_I (6 * (t : Int)))), (2, .ref (adM 0)), (1, .ref (adC 0)), (0, .ref b)] [] := by
  have Z := X.1
  have exit : ∀ (t : Nat) (C E : zMem), ¬ 6 * (t : Int) ≤ (L : Int) - 6 → 6 * t ≤ L + 6 → z_W p l e room_1 s m args below meth c D A Q 4 (86 + t) (6544 + 5 * t) (wL cI cZ adC adM C E) 18 [(3, .int (z_I (6 * (t : Int)))), (2, .ref (adM 0)), (1, .ref (adC 0)), (0, .ref b)] [] := by
    intro t C E hc h2
    refine z_iload_n Z dL_law_18 rfl 0 rfl ?_
    refine z_aload_n Z dL_law_19 rfl 3 rfl ?_
    refine z_slen2 X hX hbl hbA dL_law_20 ?_
    refine z_bipush Z dL_law_21 rfl ?_
    refine z_isub Z dL_law_23 ?_
    refine z_icmp_gt (tgt := 950) (X := none) (Y := some (0, C)) (res := (0, C)) Z dL_law_24 (by decide) (z_le_f (by omega)) (fun _ => ?_) (fun h => by cases h)
    exact fin _ _ _ _ (by omega) (by omega)
  intro n
  induction n with
  | zero => intro t C E h1 h2 hRel; exact exit t C E (by omega) h2
  | succ n ih =>
    intro t C E h1 h2 hRel
    by_cases hc : 6 * (t : Int) ≤ (L : Int) - 6
    · have kk : ∀ C' E' : zMem, Rel 2000 C' E' → z_W p l e room_1 s m args below meth c D A Q 4 (86 + t + 1) (6544 + 5 * t + 5) (wL cI cZ adC adM C' E') 944 [(3, .int (z_I (6 * (t : Int)))), (2, .ref (adM 0)), (1, .ref (adC 0)), (0, .ref b)] [] := by
        intro C' E' hR
        refine z_iinc (x := 6 * (t : Int)) (n := 6) (lv' := [(3, .int (z_I (6 * (t : Int) + 6))), (2, .ref (adM 0)), (1, .ref (adC 0)), (0, .ref b)]) Z dL_law_944 (k := 0) rfl (by decide) rfl ?_
        refine z_goto (tgt := 18) Z dL_law_947 (by decide) ?_
        have := ih (t + 1) C' E' (by omega) (by omega) hR
        rw [show 6 * (((t + 1 : Nat)) : Int) = 6 * (t : Int) + 6 by omega] at this
        exact this
      have hf : 86 + t + 1 ≤ room_1.cells ∧ 6544 + 5 * t + 5 ≤ room_1.slots := ⟨by show 86 + t + 1 ≤ 600000; omega, by show 6544 + 5 * t + 5 ≤ 7302250; omega⟩
      have hi : 0 ≤ 6 * (t : Int) ∧ 6 * (t : Int) + 6 ≤ (L : Int) := by omega
      refine z_iload_n Z dL_law_18 rfl 0 rfl ?_
      refine z_aload_n Z dL_law_19 rfl 3 rfl ?_
      refine z_slen2 X hX hbl hbA dL_law_20 ?_
      refine z_bipush Z dL_law_21 rfl ?_
      refine z_isub Z dL_law_23 ?_
      refine z_icmp_gt (tgt := 950) (X := some (0, C)) (Y := none) (res := (0, C)) Z dL_law_24 (by decide) (z_le_t (by omega)) (fun h => by cases h) (fun _ => ?_)
      refine z_aload_n Z dL_law_27 rfl 3 rfl ?_
      refine z_iload_n Z dL_law_28 rfl 0 rfl ?_
      refine z_sld X hX hbl hbA (i := 6 * (t : Int)) (by omega) hL dL_law_29 ?_
      refine z_bipush Z dL_law_30 rfl ?_
      refine z_iand Z dL_law_32 ?_
      have hv := z_and_b63 (x := (xs (6 * (t : Int)).toNat).toInt)
      generalize z_and (xs (6 * (t : Int)).toNat).toInt 63 = v at hv ⊢
      by_cases v0 : v = 0
      · subst v0
        refine z_tableIn (tgt := 188) (off := 155) Z dL_law_33 (by omega) (by decide) (by decide) rfl (by decide) ?_
        exact lc_feed X hX hbl hbA hL hi hRel hf kk
      by_cases v1 : v = 1
      · subst v1
        refine z_tableIn (tgt := 251) (off := 218) Z dL_law_33 (by omega) (by decide) (by decide) rfl (by decide) ?_
        exact lc_end X hX hbl hbA hL hi hRel hf kk
      by_cases v2 : v = 2
      · subst v2
        refine z_tableIn (tgt := 274) (off := 241) Z dL_law_33 (by omega) (by decide) (by decide) rfl (by decide) ?_
        exact lc_drum X hX hbl hbA hL hi hRel hf kk
      by_cases v3 : v = 3
      · subst v3
        refine z_tableIn (tgt := 287) (off := 254) Z dL_law_33 (by omega) (by decide) (by decide) rfl (by decide) ?_
        exact lc_fault X hX hbl hbA hL hi hRel hf kk
      by_cases v4 : v = 4
      · subst v4
        refine z_tableIn (tgt := 310) (off := 277) Z dL_law_33 (by omega) (by decide) (by decide) rfl (by decide) ?_
        exact lc_count X hX hbl hbA hL hi hRel hf kk
      by_cases v5 : v = 5
      · subst v5
        refine z_tableIn (tgt := 333) (off := 300) Z dL_law_33 (by omega) (by decide) (by decide) rfl (by decide) ?_
        exact lc_item X hX hbl hbA hL hi hRel hf kk
      by_cases v6 : v = 6
      · subst v6
        refine z_tableIn (tgt := 366) (off := 333) Z dL_law_33 (by omega) (by decide) (by decide) rfl (by decide) ?_
        exact lc_at X hX hbl hbA hL hi hRel hf kk
      by_cases v7 : v = 7
      · subst v7
        refine z_tableIn (tgt := 389) (off := 356) Z dL_law_33 (by omega) (by decide) (by decide) rfl (by decide) ?_
        exact lc_steps X hX hbl hbA hL hi hRel hf kk
      by_cases v8 : v = 8
      · subst v8
        refine z_tableIn (tgt := 402) (off := 369) Z dL_law_33 (by omega) (by decide) (by decide) rfl (by decide) ?_
        exact lc_why X hX hbl hbA hL hi hRel hf kk
      by_cases v9 : v = 9
      · subst v9
        refine z_tableIn (tgt := 415) (off := 382) Z dL_law_33 (by omega) (by decide) (by decide) rfl (by decide) ?_
        exact lc_acc X hX hbl hbA hL hi hRel hf kk
      by_cases v10 : v = 10
      · subst v10
        refine z_tableIn (tgt := 428) (off := 395) Z dL_law_33 (by omega) (by decide) (by decide) rfl (by decide) ?_
        exact lc_value X hX hbl hbA hL hi hRel hf kk
      by_cases v11 : v = 11
      · subst v11
        refine z_tableIn (tgt := 451) (off := 418) Z dL_law_33 (by omega) (by decide) (by decide) rfl (by decide) ?_
        exact lc_done X hX hbl hbA hL hi hRel hf kk
      by_cases v12 : v = 12
      · subst v12
        refine z_tableIn (tgt := 484) (off := 451) Z dL_law_33 (by omega) (by decide) (by decide) rfl (by decide) ?_
        exact lc_time X hX hbl hbA hL hi hRel hf kk
      by_cases v13 : v = 13
      · subst v13
        refine z_tableIn (tgt := 497) (off := 464) Z dL_law_33 (by omega) (by decide) (by decide) rfl (by decide) ?_
        exact lc_rounds X hX hbl hbA hL hi hRel hf kk
      by_cases v14 : v = 14
      · subst v14
        refine z_tableIn (tgt := 510) (off := 477) Z dL_law_33 (by omega) (by decide) (by decide) rfl (by decide) ?_
        exact lc_lost X hX hbl hbA hL hi hRel hf kk
      by_cases v15 : v = 15
      · subst v15
        refine z_tableIn (tgt := 523) (off := 490) Z dL_law_33 (by omega) (by decide) (by decide) rfl (by decide) ?_
        exact lc_lostFor X hX hbl hbA hL hi hRel hf kk
      by_cases v16 : v = 16
      · subst v16
        refine z_tableIn (tgt := 546) (off := 513) Z dL_law_33 (by omega) (by decide) (by decide) rfl (by decide) ?_
        exact lc_worst X hX hbl hbA hL hi hRel hf kk
      by_cases v17 : v = 17
      · subst v17
        refine z_tableIn (tgt := 559) (off := 526) Z dL_law_33 (by omega) (by decide) (by decide) rfl (by decide) ?_
        exact lc_met X hX hbl hbA hL hi hRel hf kk
      by_cases v18 : v = 18
      · subst v18
        refine z_tableIn (tgt := 582) (off := 549) Z dL_law_33 (by omega) (by decide) (by decide) rfl (by decide) ?_
        exact lc_bound X hX hbl hbA hL hi hRel hf kk
      by_cases v19 : v = 19
      · subst v19
        refine z_tableIn (tgt := 595) (off := 562) Z dL_law_33 (by omega) (by decide) (by decide) rfl (by decide) ?_
        exact lc_waiting X hX hbl hbA hL hi hRel hf kk
      by_cases v20 : v = 20
      · subst v20
        refine z_tableIn (tgt := 618) (off := 585) Z dL_law_33 (by omega) (by decide) (by decide) rfl (by decide) ?_
        exact lc_quicker X hX hbl hbA hL hi hRel hf kk
      by_cases v21 : v = 21
      · subst v21
        refine z_tableIn (tgt := 641) (off := 608) Z dL_law_33 (by omega) (by decide) (by decide) rfl (by decide) ?_
        exact lc_moved X hX hbl hbA hL hi hRel hf kk
      by_cases v22 : v = 22
      · subst v22
        refine z_tableIn (tgt := 674) (off := 641) Z dL_law_33 (by omega) (by decide) (by decide) rfl (by decide) ?_
        exact lc_swapped X hX hbl hbA hL hi hRel hf kk
      by_cases v23 : v = 23
      · subst v23
        refine z_tableIn (tgt := 707) (off := 674) Z dL_law_33 (by omega) (by decide) (by decide) rfl (by decide) ?_
        exact lc_best X hX hbl hbA hL hi hRel hf kk
      by_cases v24 : v = 24
      · subst v24
        refine z_tableIn (tgt := 720) (off := 687) Z dL_law_33 (by omega) (by decide) (by decide) rfl (by decide) ?_
        exact lc_pair X hX hbl hbA hL hi hRel hf kk
      by_cases v25 : v = 25
      · subst v25
        refine z_tableIn (tgt := 733) (off := 700) Z dL_law_33 (by omega) (by decide) (by decide) rfl (by decide) ?_
        exact lc_idle X hX hbl hbA hL hi hRel hf kk
      by_cases v26 : v = 26
      · subst v26
        refine z_tableIn (tgt := 746) (off := 713) Z dL_law_33 (by omega) (by decide) (by decide) rfl (by decide) ?_
        exact lc_lawful X hX hbl hbA hL hi hRel hf kk
      by_cases v27 : v = 27
      · subst v27
        refine z_tableIn (tgt := 769) (off := 736) Z dL_law_33 (by omega) (by decide) (by decide) rfl (by decide) ?_
        exact lc_address X hX hbl hbA hL hi hRel hf kk
      by_cases v28 : v = 28
      · subst v28
        refine z_tableIn (tgt := 802) (off := 769) Z dL_law_33 (by omega) (by decide) (by decide) rfl (by decide) ?_
        exact lc_ways X hX hbl hbA hL hi hRel hf kk
      by_cases v29 : v = 29
      · subst v29
        refine z_tableIn (tgt := 816) (off := 783) Z dL_law_33 (by omega) (by decide) (by decide) rfl (by decide) ?_
        exact lc_dearest X hX hbl hbA hL hi hRel hf kk
      by_cases v30 : v = 30
      · subst v30
        refine z_tableIn (tgt := 829) (off := 796) Z dL_law_33 (by omega) (by decide) (by decide) rfl (by decide) ?_
        exact lc_put X hX hbl hbA hL hi hRel hf kk
      by_cases v31 : v = 31
      · subst v31
        refine z_tableIn (tgt := 862) (off := 829) Z dL_law_33 (by omega) (by decide) (by decide) rfl (by decide) ?_
        exact lc_swap X hX hbl hbA hL hi hRel hf kk
      by_cases v32 : v = 32
      · subst v32
        refine z_tableIn (tgt := 895) (off := 862) Z dL_law_33 (by omega) (by decide) (by decide) rfl (by decide) ?_
        exact lc_lays X hX hbl hbA hL hi hRel hf kk
      by_cases v33 : v = 33
      · subst v33
        refine z_tableIn (tgt := 918) (off := 885) Z dL_law_33 (by omega) (by decide) (by decide) rfl (by decide) ?_
        exact lc_undo X hX hbl hbA hL hi hRel hf kk
      by_cases v34 : v = 34
      · subst v34
        refine z_tableIn (tgt := 931) (off := 898) Z dL_law_33 (by omega) (by decide) (by decide) rfl (by decide) ?_
        exact lc_anew X hX hbl hbA hL hi hRel hf kk
      refine z_tableOut (tgt := 944) Z dL_law_33 (by omega) (Or.inr (by omega)) (by decide) ?_
      exact z_widen (by omega) (by omega) (kk C E hRel)
    · exact exit t C E hc h2
