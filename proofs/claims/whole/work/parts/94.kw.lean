/-! the launch's constants at the law's entry -/
def z_tm (i : Nat) : Term := Term.string (z_sOwn.getD i "") (z_sIdx.getD i 0)
def z_bs : List Nat := [9, 17, 27, 38, 46, 55, 62, 70, 79, 88, 96, 102, 110, 117, 124, 132, 141, 149, 157, 165, 172, 181, 242, 253, 265, 274, 284]
def z_sr : List Nat := [603, 669, 678, 679, 684, 688, 689, 710, 712, 713, 714, 719, 720, 721, 722, 723, 724, 725, 726, 739, 756, 1357, 1374, 1387, 1388, 1389, 1394]
def z_ni : List Nat := [134, 149, 482, 685, 796, 807, 1116]
def z_fl : List Cond := flatC (Jvm.Cond.and given_1 narrow_1)
set_option maxRecDepth 100000
theorem fl_ex : ∀ i : Nat, i < 27 → z_fl[z_bs.getD i 0]? = some (Cond.exactly (z_tm i) "java/lang/String") := by decide +kernel
theorem fl_co : ∀ i : Nat, i < 27 → z_fl[z_bs.getD i 0 + 1]? = some (Cond.eq (.field (z_tm i) "java/lang/String" "coder" "B") (.int 0)) := by decide +kernel
theorem fl_ar : ∀ i : Nat, i < 27 → z_fl[z_bs.getD i 0 + 2]? = some (Cond.arrayOf (.field (z_tm i) "java/lang/String" "value" "[B") .byte) := by decide +kernel
theorem fl_le : ∀ i : Nat, i < 27 → z_fl[z_bs.getD i 0 + 3]? = some (Cond.eq (.length (.field (z_tm i) "java/lang/String" "value" "[B")) (.int (Int32.ofNat (z_sCh.getD i []).length))) := by decide +kernel
theorem fl_el : ∀ i : Nat, i < 27 → ∀ j : Nat, j < (z_sCh.getD i []).length → z_fl[z_bs.getD i 0 + 4 + j]? = some (Cond.eq (.elem (.field (z_tm i) "java/lang/String" "value" "[B") (.int (Int32.ofNat j))) (.int (z_I ((z_sCh.getD i []).getD j 0)))) := by decide +kernel
theorem fl_sr : ∀ i : Nat, i < 27 → lw_tbl[z_sr.getD i 0]? = some (Cond.stringRef (z_sOwn.getD i "") (z_sIdx.getD i 0) (z_sTxt.getD i "")) := by decide +kernel
theorem fl_ni : ∀ i : Nat, i < 7 → lw_tbl[z_ni.getD i 0]? = z_nest[i]? := by decide +kernel
theorem kw_start {s : State} {b : Nat} (hts : ∀ w ∈ lw_tbl, w.before #[Value.ref b] s = true) (hg : (Jvm.Cond.and given_1 narrow_1).before #[Value.ref b] s = true) : ∃ adK adV : Nat → Nat, z_kw adK adV (fun q => s.heap.size ≤ q) s s.heap := by
  have hf := flat_of_before _ hg
  have at1 : ∀ {k : Nat} {w : Cond}, z_fl[k]? = some w → w.before #[Value.ref b] s = true := fun {k w} h => hf w (List.mem_of_getElem? h)
  have at2 : ∀ {k : Nat} {w : Cond}, lw_tbl[k]? = some w → w.before #[Value.ref b] s = true := fun {k w} h => hts w (List.mem_of_getElem? h)
  have hA : ∀ a : Nat, a < s.heap.size → ¬ s.heap.size ≤ a := fun a h => by omega
  have h0 : ∀ i : Nat, ∃ q : Nat × Nat, i < 27 → (z_tm i).eval #[Value.ref b] s none [] s = some (.ref q.1) ∧ va_O "java/lang/String" q.1 (fun q => s.heap.size ≤ q) s s.heap ∧ va_OF "java/lang/String" "coder" "B" (.int 0) q.1 (fun q => s.heap.size ≤ q) s s.heap ∧ va_OF "java/lang/String" "value" "[B" (.ref q.2) q.1 (fun q => s.heap.size ≤ q) s s.heap ∧ va_T .byte q.2 (z_sCh.getD i []).length (fun j => .int (z_I ((z_sCh.getD i []).getD j 0))) (fun q => s.heap.size ≤ q) s s.heap := by
    intro i
    by_cases hi : i < 27
    · obtain ⟨a, c, cA, kA, q1, q2, q3, q4, q5, q6, -⟩ := Cond.exactly_spec (args := #[Value.ref b]) (first := s) (o := none) (s := s) (idx := []) (t := z_tm i) (cls := "java/lang/String") (at1 (fl_ex i hi))
      obtain ⟨t, ht, hT⟩ := va_Tof (f := fun j => .int (z_I ((z_sCh.getD i []).getD j 0))) (A := fun q => s.heap.size ≤ q) (by have := z_sCh_len i hi; omega) (at1 (fl_ar i hi)) (va_eqt (at1 (fl_le i hi))) (fun j hj => va_eqt (at1 (fl_el i hi j hj))) hA
      exact ⟨(a, t), fun _ => ⟨q1, ⟨cA, q3, q5, by rw [q6]; exact q2, hA a (Array.getElem?_eq_some_iff.mp q3).1⟩, vk_OFof q1 (va_eqt (at1 (fl_co i hi))) hA, vk_OFof q1 ht hA, hT⟩⟩
    · exact ⟨(0, 0), fun h => absurd h hi⟩
  obtain ⟨ad, had⟩ := Classical.axiomOfChoice h0
  refine ⟨fun i => (ad i).1, fun i => (ad i).2, fun i hi => (had i hi).2, fun i hi => ?_, ?_, ?_, fun w hw => ?_⟩
  · have e1 := at2 (fl_sr i hi)
    have e2 := (had i hi).1
    exact vk_R.of e1 e2
  · exact va_Zof (at2 (k := 621) (by decide +kernel)) (at2 (k := 119) (by decide +kernel)) (va_eqt (at1 (k := 4) (by decide +kernel))) hA
  · exact va_Zqof (at2 (k := 637) (by decide +kernel)) (at2 (k := 121) (by decide +kernel)) (at1 (k := 5) (by decide +kernel)) hA
  · obtain ⟨i, hi⟩ := List.getElem?_of_mem hw
    have hl : i < 7 := (List.getElem?_eq_some_iff.mp hi).1
    have hn := fl_ni i hl
    rw [hi] at hn
    have ot : w.onTables = true := by
      have : ∀ w ∈ z_nest, w.onTables = true := by decide +kernel
      exact this w hw
    exact va_Nw.of ot (at2 hn)
